set_option maxRecDepth 100000 in
set_option maxHeartbeats 4000000 in
theorem wX9_isDomain (l : Launch) (p1 : Int32) (s : mx_G) : mf_M ei l yX9_isDomain cX9_isDomain 2 (some .boolean) 0 [.ref 1, .int p1] s (fX9_isDomain p1 s) := by
  refine mf_intro rfl (Nat.le_of_ble_eq_true rfl) rfl rfl ?_
  refine mf_sub (loc' := [(0, .ref 1), (1, .int p1)]) [0, 1] rfl ?_
  unfold fX9_isDomain
  refine mf_iload_n dX9_isDomain_0 rfl 1 rfl ?_
  refine mf_if_lt 18 dX9_isDomain_1 (by decide) ?_ ?_
  · refine mf_iconst 0 dX9_isDomain_18 (by decide) ?_
    exact mf_zret (by decide) dX9_isDomain_19
  · refine mf_iload_n dX9_isDomain_4 rfl 1 rfl ?_
    refine mf_aload_n dX9_isDomain_5 rfl 0 rfl ?_
    refine mf_getR fl_X9_11 rfl rfl dX9_isDomain_6 ?_
    refine mf_iconst 0 dX9_isDomain_9 (by decide) ?_
    refine mf_iald rfl dX9_isDomain_10 ?_
    refine mf_icmp_ge 18 dX9_isDomain_11 (by decide) ?_ ?_
    · refine mf_iconst 0 dX9_isDomain_18 (by decide) ?_
      exact mf_zret (by decide) dX9_isDomain_19
    · refine mf_iconst 1 dX9_isDomain_14 (by decide) ?_
      refine mf_goto 19 dX9_isDomain_15 (by decide) ?_
      exact mf_zret (by decide) dX9_isDomain_19
set_option maxRecDepth 100000 in
set_option maxHeartbeats 4000000 in
theorem wX9_arePair (l : Launch) (p1 : Int32) (p2 : Int32) (s : mx_G) : mf_M ei l yX9_arePair cX9_arePair 3 (some .boolean) 1 [.ref 1, .int p1, .int p2] s (fX9_arePair p1 p2 s) := by
  refine mf_intro rfl (Nat.le_of_ble_eq_true rfl) rfl rfl ?_
  refine mf_sub (loc' := [(0, .ref 1), (1, .int p1), (2, .int p2)]) [0, 1, 2] rfl ?_
  unfold fX9_arePair
  refine mf_aload_n dX9_arePair_0 rfl 0 rfl ?_
  refine mf_iload_n dX9_arePair_1 rfl 1 rfl ?_
  refine mf_callVi (stk := []) (wX9_isDomain l _ _) cl_X9_21 rfl (by decide) rfl rfl rfl (Nat.le_of_ble_eq_true rfl) rfl rfl dX9_arePair_2 (fun x1 s2 => ?_)
  refine mf_if_eq 25 dX9_arePair_5 (by decide) ?_ ?_
  · refine mf_iconst 0 dX9_arePair_25 (by decide) ?_
    exact mf_zret (by decide) dX9_arePair_26
  · refine mf_aload_n dX9_arePair_8 rfl 0 rfl ?_
    refine mf_iload_n dX9_arePair_9 rfl 2 rfl ?_
    refine mf_callVi (stk := []) (wX9_isDomain l _ _) cl_X9_21 rfl (by decide) rfl rfl rfl (Nat.le_of_ble_eq_true rfl) rfl rfl dX9_arePair_10 (fun x3 s4 => ?_)
    refine mf_if_eq 25 dX9_arePair_13 (by decide) ?_ ?_
    · refine mf_iconst 0 dX9_arePair_25 (by decide) ?_
      exact mf_zret (by decide) dX9_arePair_26
    · refine mf_iload_n dX9_arePair_16 rfl 1 rfl ?_
      refine mf_iload_n dX9_arePair_17 rfl 2 rfl ?_
      refine mf_icmp_eq 25 dX9_arePair_18 (by decide) ?_ ?_
      · refine mf_iconst 0 dX9_arePair_25 (by decide) ?_
        exact mf_zret (by decide) dX9_arePair_26
      · refine mf_iconst 1 dX9_arePair_21 (by decide) ?_
        refine mf_goto 26 dX9_arePair_22 (by decide) ?_
        exact mf_zret (by decide) dX9_arePair_26
set_option maxRecDepth 100000 in
set_option maxHeartbeats 4000000 in
theorem wX9_sortOf (l : Launch) (p1 : Int32) (p2 : Int32) (s : mx_G) : mf_M ei l yX9_sortOf cX9_sortOf 3 (some .int) 0 [.ref 1, .int p1, .int p2] s (fX9_sortOf p1 p2 s) := by
  refine mf_intro rfl (Nat.le_of_ble_eq_true rfl) rfl rfl ?_
  refine mf_sub (loc' := [(0, .ref 1), (1, .int p1), (2, .int p2)]) [0, 1, 2] rfl ?_
  unfold fX9_sortOf
  refine mf_aload_n dX9_sortOf_0 rfl 0 rfl ?_
  refine mf_getR fl_X9_11 rfl rfl dX9_sortOf_1 ?_
  refine mf_bipush 13 dX9_sortOf_4 (by decide) ?_
  refine mf_iload_n dX9_sortOf_6 rfl 1 rfl ?_
  refine mf_bipush 6 dX9_sortOf_7 (by decide) ?_
  refine mf_imul dX9_sortOf_9 ?_
  refine mf_iadd dX9_sortOf_10 ?_
  refine mf_iload_n dX9_sortOf_11 rfl 2 rfl ?_
  refine mf_iadd dX9_sortOf_12 ?_
  refine mf_iald rfl dX9_sortOf_13 ?_
  exact mf_iret dX9_sortOf_14
set_option maxRecDepth 100000 in
set_option maxHeartbeats 4000000 in
theorem wX3_keep (l : Launch) (s : mx_G) : mf_M ev l yX3_keep cX3_keep 2 none 3 [.ref 3, .ref 1] s (fX3_keep  s) := by
  refine mf_intro rfl (Nat.le_of_ble_eq_true rfl) rfl rfl ?_
  refine mf_sub (loc' := [(0, .ref 3), (1, .ref 1)]) [0, 1] rfl ?_
  unfold fX3_keep
  refine mf_aload_n dX3_keep_0 rfl 1 rfl ?_
  refine mf_getR fl_X3_22 rfl rfl dX3_keep_1 ?_
  refine mf_iconst 0 dX3_keep_4 (by decide) ?_
  refine mf_aload_n dX3_keep_5 rfl 0 rfl ?_
  refine mf_getR fl_X3_11 rfl rfl dX3_keep_6 ?_
  refine mf_aload_n dX3_keep_9 rfl 0 rfl ?_
  refine mf_getI fl_X3_19 rfl rfl dX3_keep_10 ?_
  refine mf_sipush 128 dX3_keep_13 (by decide) ?_
  refine mf_imul dX3_keep_16 ?_
  refine mf_sipush 128 dX3_keep_17 (by decide) ?_
  refine mf_copyi cl_X3_25 ac_2 ac_3 ac_4 rfl rfl (by decide) (Nat.le_of_ble_eq_true rfl) dX3_keep_20 (fun s1 => ?_)
  refine mf_aload_n dX3_keep_23 rfl 0 rfl ?_
  refine mf_aload_n dX3_keep_24 rfl 0 rfl ?_
  refine mf_getI fl_X3_19 rfl rfl dX3_keep_25 ?_
  refine mf_iconst 1 dX3_keep_28 (by decide) ?_
  refine mf_iadd dX3_keep_29 ?_
  refine mf_bipush 6 dX3_keep_30 (by decide) ?_
  refine mf_irem (by decide) dX3_keep_32 ?_
  refine mf_putI fl_X3_19 rfl rfl dX3_keep_33 (fun s2 => ?_)
  refine mf_aload_n dX3_keep_36 rfl 0 rfl ?_
  refine mf_aload_n dX3_keep_37 rfl 0 rfl ?_
  refine mf_getI fl_X3_15 rfl rfl dX3_keep_38 ?_
  refine mf_iconst 1 dX3_keep_41 (by decide) ?_
  refine mf_iadd dX3_keep_42 ?_
  refine mf_bipush 6 dX3_keep_43 (by decide) ?_
  refine mf_mmin cl_X3_31.1 (by decide) (Nat.le_of_ble_eq_true rfl) dX3_keep_45 ?_
  refine mf_putI fl_X3_15 rfl rfl dX3_keep_48 (fun s3 => ?_)
  exact mf_vret dX3_keep_51
set_option maxRecDepth 100000 in
set_option maxHeartbeats 4000000 in
theorem wX9_setCut (l : Launch) (p1 : Int32) (p2 : Int32) (p3 : Int32) (s : mx_G) : mf_M ev l yX9_setCut cX9_setCut 4 none 0 [.ref 1, .int p1, .int p2, .int p3] s (fX9_setCut p1 p2 p3 s) := by
  refine mf_intro rfl (Nat.le_of_ble_eq_true rfl) rfl rfl ?_
  refine mf_sub (loc' := [(0, .ref 1), (1, .int p1), (2, .int p2), (3, .int p3)]) [0, 1, 2, 3] rfl ?_
  unfold fX9_setCut
  refine mf_aload_n dX9_setCut_0 rfl 0 rfl ?_
  refine mf_getR fl_X9_11 rfl rfl dX9_setCut_1 ?_
  refine mf_bipush 49 dX9_setCut_4 (by decide) ?_
  refine mf_iload_n dX9_setCut_6 rfl 1 rfl ?_
  refine mf_bipush 6 dX9_setCut_7 (by decide) ?_
  refine mf_imul dX9_setCut_9 ?_
  refine mf_iadd dX9_setCut_10 ?_
  refine mf_iload_n dX9_setCut_11 rfl 2 rfl ?_
  refine mf_iadd dX9_setCut_12 ?_
  refine mf_iload_n dX9_setCut_13 rfl 3 rfl ?_
  refine mf_iast rfl dX9_setCut_14 (fun s1 => ?_)
  refine mf_aload_n dX9_setCut_15 rfl 0 rfl ?_
  refine mf_getR fl_X9_11 rfl rfl dX9_setCut_16 ?_
  refine mf_bipush 49 dX9_setCut_19 (by decide) ?_
  refine mf_iload_n dX9_setCut_21 rfl 2 rfl ?_
  refine mf_bipush 6 dX9_setCut_22 (by decide) ?_
  refine mf_imul dX9_setCut_24 ?_
  refine mf_iadd dX9_setCut_25 ?_
  refine mf_iload_n dX9_setCut_26 rfl 1 rfl ?_
  refine mf_iadd dX9_setCut_27 ?_
  refine mf_iload_n dX9_setCut_28 rfl 3 rfl ?_
  refine mf_iast rfl dX9_setCut_29 (fun s2 => ?_)
  exact mf_vret dX9_setCut_30
set_option maxRecDepth 100000 in
set_option maxHeartbeats 4000000 in
theorem wX9_setLink (l : Launch) (p1 : Int32) (p2 : Int32) (p3 : Int32) (s : mx_G) : mf_M ev l yX9_setLink cX9_setLink 4 none 1 [.ref 1, .int p1, .int p2, .int p3] s (fX9_setLink p1 p2 p3 s) := by
  refine mf_intro rfl (Nat.le_of_ble_eq_true rfl) rfl rfl ?_
  refine mf_sub (loc' := [(0, .ref 1), (1, .int p1), (2, .int p2), (3, .int p3)]) [0, 1, 2, 3] rfl ?_
  unfold fX9_setLink
  refine mf_aload_n dX9_setLink_0 rfl 0 rfl ?_
  refine mf_getR fl_X9_11 rfl rfl dX9_setLink_1 ?_
  refine mf_bipush 13 dX9_setLink_4 (by decide) ?_
  refine mf_iload_n dX9_setLink_6 rfl 1 rfl ?_
  refine mf_bipush 6 dX9_setLink_7 (by decide) ?_
  refine mf_imul dX9_setLink_9 ?_
  refine mf_iadd dX9_setLink_10 ?_
  refine mf_iload_n dX9_setLink_11 rfl 2 rfl ?_
  refine mf_iadd dX9_setLink_12 ?_
  refine mf_iload_n dX9_setLink_13 rfl 3 rfl ?_
  refine mf_iast rfl dX9_setLink_14 (fun s1 => ?_)
  refine mf_aload_n dX9_setLink_15 rfl 0 rfl ?_
  refine mf_getR fl_X9_11 rfl rfl dX9_setLink_16 ?_
  refine mf_bipush 13 dX9_setLink_19 (by decide) ?_
  refine mf_iload_n dX9_setLink_21 rfl 2 rfl ?_
  refine mf_bipush 6 dX9_setLink_22 (by decide) ?_
  refine mf_imul dX9_setLink_24 ?_
  refine mf_iadd dX9_setLink_25 ?_
  refine mf_iload_n dX9_setLink_26 rfl 1 rfl ?_
  refine mf_iadd dX9_setLink_27 ?_
  refine mf_iload_n dX9_setLink_28 rfl 3 rfl ?_
  refine mf_join (fun (J : Int32 → Int32 → mx_G → Option (Unit × mx_G)) => ∀ (q0_39 : Int32) (q1_39 : Int32) (s_39 : mx_G), mf_X ev l RX9 cX9_setLink 4 none "setLink" 1 (J q0_39 q1_39 s_39) 39 [(0, .ref 1), (1, .int p1), (2, .int p2)] [.int q0_39, .int q1_39, .ref 2] s_39) ?_ (fun J39 hJ39 => ?_)
  · intro q0_39 q1_39 s_39
    refine mf_iast rfl dX9_setLink_39 (fun s2 => ?_)
    refine mf_aload_n dX9_setLink_40 rfl 0 rfl ?_
    refine mf_iload_n dX9_setLink_41 rfl 1 rfl ?_
    refine mf_iload_n dX9_setLink_42 rfl 2 rfl ?_
    refine mf_iconst 0 dX9_setLink_43 (by decide) ?_
    refine mf_callVv (stk := []) (wX9_setCut l _ _ _ _) cl_X9_33 rfl (by decide) rfl rfl rfl (Nat.le_of_ble_eq_true rfl) rfl rfl dX9_setLink_44 (fun us3 s3 => ?_)
    exact mf_vret dX9_setLink_47
  refine mf_if_ne 36 dX9_setLink_29 (by decide) ?_ ?_
  · refine mf_iconst 0 dX9_setLink_32 (by decide) ?_
    refine mf_goto 39 dX9_setLink_33 (by decide) ?_
    exact mf_sub [0, 1, 2] rfl (hJ39 _ _ _)
  · refine mf_iconst 4 dX9_setLink_36 (by decide) ?_
    refine mf_iload_n dX9_setLink_37 rfl 3 rfl ?_
    refine mf_isub dX9_setLink_38 ?_
    exact mf_sub [0, 1, 2] rfl (hJ39 _ _ _)
set_option maxRecDepth 100000 in
set_option maxHeartbeats 4000000 in
theorem wX9_isCut (l : Launch) (p1 : Int32) (p2 : Int32) (s : mx_G) : mf_M ei l yX9_isCut cX9_isCut 3 (some .boolean) 0 [.ref 1, .int p1, .int p2] s (fX9_isCut p1 p2 s) := by
  refine mf_intro rfl (Nat.le_of_ble_eq_true rfl) rfl rfl ?_
  refine mf_sub (loc' := [(0, .ref 1), (1, .int p1), (2, .int p2)]) [0, 1, 2] rfl ?_
  unfold fX9_isCut
  refine mf_aload_n dX9_isCut_0 rfl 0 rfl ?_
  refine mf_getR fl_X9_11 rfl rfl dX9_isCut_1 ?_
  refine mf_bipush 49 dX9_isCut_4 (by decide) ?_
  refine mf_iload_n dX9_isCut_6 rfl 1 rfl ?_
  refine mf_bipush 6 dX9_isCut_7 (by decide) ?_
  refine mf_imul dX9_isCut_9 ?_
  refine mf_iadd dX9_isCut_10 ?_
  refine mf_iload_n dX9_isCut_11 rfl 2 rfl ?_
  refine mf_iadd dX9_isCut_12 ?_
  refine mf_iald rfl dX9_isCut_13 ?_
  refine mf_if_eq 21 dX9_isCut_14 (by decide) ?_ ?_
  · refine mf_iconst 0 dX9_isCut_21 (by decide) ?_
    exact mf_zret (by decide) dX9_isCut_22
  · refine mf_iconst 1 dX9_isCut_17 (by decide) ?_
    refine mf_goto 22 dX9_isCut_18 (by decide) ?_
    exact mf_zret (by decide) dX9_isCut_22
set_option maxRecDepth 100000 in
set_option maxHeartbeats 4000000 in
theorem wX10_link (l : Launch) (p1 : Int32) (p2 : Int32) (p3 : Int32) (s : mx_G) : mf_M ei l yX10_link cX10_link 5 (some .int) 4 [.ref 0, .int p1, .int p2, .int p3] s (fX10_link p1 p2 p3 s) := by
  refine mf_intro rfl (Nat.le_of_ble_eq_true rfl) rfl rfl ?_
  refine mf_sub (loc' := [(0, .ref 0), (1, .int p1), (2, .int p2), (3, .int p3)]) [0, 1, 2, 3] rfl ?_
  unfold fX10_link
  refine mf_aload_n dX10_link_0 rfl 0 rfl ?_
  refine mf_getR fl_X10_10 rfl rfl dX10_link_1 ?_
  refine mf_iload_n dX10_link_4 rfl 1 rfl ?_
  refine mf_iload_n dX10_link_5 rfl 2 rfl ?_
  refine mf_callVi (stk := []) (wX9_arePair l _ _ _) cl_X10_86 rfl (by decide) rfl rfl rfl (Nat.le_of_ble_eq_true rfl) rfl rfl dX10_link_6 (fun x1 s2 => ?_)
  refine mf_if_eq 21 dX10_link_9 (by decide) ?_ ?_
  · refine mf_iconst (-1) dX10_link_21 (by decide) ?_
    exact mf_iret dX10_link_22
  · refine mf_iload_n dX10_link_12 rfl 3 rfl ?_
    refine mf_if_lt 21 dX10_link_13 (by decide) ?_ ?_
    · refine mf_iconst (-1) dX10_link_21 (by decide) ?_
      exact mf_iret dX10_link_22
    · refine mf_iload_n dX10_link_16 rfl 3 rfl ?_
      refine mf_iconst 3 dX10_link_17 (by decide) ?_
      refine mf_icmp_le 23 dX10_link_18 (by decide) ?_ ?_
      · refine mf_aload_n dX10_link_23 rfl 0 rfl ?_
        refine mf_getR fl_X10_10 rfl rfl dX10_link_24 ?_
        refine mf_iload_n dX10_link_27 rfl 1 rfl ?_
        refine mf_iload_n dX10_link_28 rfl 2 rfl ?_
        refine mf_callVi (stk := []) (wX9_sortOf l _ _ _) cl_X10_90 rfl (by decide) rfl rfl rfl (Nat.le_of_ble_eq_true rfl) rfl rfl dX10_link_29 (fun x3 s4 => ?_)
        refine mf_istore [(4, .int x3), (0, .ref 0), (1, .int p1), (2, .int p2), (3, .int p3)] dX10_link_32 (by decide) rfl ?_
        refine mf_iload dX10_link_34 0 rfl ?_
        refine mf_iload_n dX10_link_36 rfl 4 rfl ?_
        refine mf_join (fun (J : mx_G → Option (Int32 × mx_G)) => ∀ (s_55 : mx_G), mf_X ei l RX10 cX10_link 5 (some .int) "link" 4 (J s_55) 55 [(0, .ref 0), (1, .int p1), (2, .int p2), (3, .int p3), (4, .int x3)] [] s_55) ?_ (fun J55 hJ55 => ?_)
        · intro s_55
          refine mf_aload_n dX10_link_55 rfl 0 rfl ?_
          refine mf_getR fl_X10_19 rfl rfl dX10_link_56 ?_
          refine mf_aload_n dX10_link_59 rfl 0 rfl ?_
          refine mf_getR fl_X10_10 rfl rfl dX10_link_60 ?_
          refine mf_callVv (stk := []) (wX3_keep l _) cl_X10_97 rfl (by decide) rfl rfl rfl (Nat.le_of_ble_eq_true rfl) rfl rfl dX10_link_63 (fun us5 s5 => ?_)
          refine mf_aload_n dX10_link_66 rfl 0 rfl ?_
          refine mf_getR fl_X10_10 rfl rfl dX10_link_67 ?_
          refine mf_iload_n dX10_link_70 rfl 1 rfl ?_
          refine mf_iload_n dX10_link_71 rfl 2 rfl ?_
          refine mf_iload_n dX10_link_72 rfl 3 rfl ?_
          refine mf_callVv (stk := []) (wX9_setLink l _ _ _ _) cl_X10_101 rfl (by decide) rfl rfl rfl (Nat.le_of_ble_eq_true rfl) rfl rfl dX10_link_73 (fun us6 s6 => ?_)
          refine mf_iload dX10_link_76 4 rfl ?_
          exact mf_iret dX10_link_78
        refine mf_icmp_ne 55 dX10_link_37 (by decide) ?_ ?_
        · refine mf_aload_n dX10_link_40 rfl 1 rfl ?_
          refine mf_getR fl_X10_10 rfl rfl dX10_link_41 ?_
          refine mf_iload_n dX10_link_44 rfl 2 rfl ?_
          refine mf_iload_n dX10_link_45 rfl 3 rfl ?_
          refine mf_callVi (stk := []) (wX9_isCut l _ _ _) cl_X10_94 rfl (by decide) rfl rfl rfl (Nat.le_of_ble_eq_true rfl) rfl rfl dX10_link_46 (fun x7 s8 => ?_)
          refine mf_if_ne 55 dX10_link_49 (by decide) ?_ ?_
          · refine mf_bipush (-2) dX10_link_52 (by decide) ?_
            exact mf_iret dX10_link_54
          · exact mf_sub [1, 2, 3, 4, 0] rfl (hJ55 _)
        · exact mf_sub [1, 2, 3, 4, 0] rfl (hJ55 _)
      · refine mf_iconst (-1) dX10_link_21 (by decide) ?_
        exact mf_iret dX10_link_22
set_option maxRecDepth 100000 in
set_option maxHeartbeats 4000000 in
theorem wX9_turnCut (l : Launch) (p1 : Int32) (p2 : Int32) (s : mx_G) : mf_M ev l yX9_turnCut cX9_turnCut 3 none 1 [.ref 1, .int p1, .int p2] s (fX9_turnCut p1 p2 s) := by
  refine mf_intro rfl (Nat.le_of_ble_eq_true rfl) rfl rfl ?_
  refine mf_sub (loc' := [(0, .ref 1), (1, .int p1), (2, .int p2)]) [0, 1, 2] rfl ?_
  unfold fX9_turnCut
  refine mf_aload_n dX9_turnCut_0 rfl 0 rfl ?_
  refine mf_iload_n dX9_turnCut_1 rfl 1 rfl ?_
  refine mf_iload_n dX9_turnCut_2 rfl 2 rfl ?_
  refine mf_aload_n dX9_turnCut_3 rfl 0 rfl ?_
  refine mf_iload_n dX9_turnCut_4 rfl 1 rfl ?_
  refine mf_iload_n dX9_turnCut_5 rfl 2 rfl ?_
  refine mf_callVi (stk := [.int p2, .int p1, .ref 1]) (wX9_isCut l _ _ _) cl_X9_29 rfl (by decide) rfl rfl rfl (Nat.le_of_ble_eq_true rfl) rfl rfl dX9_turnCut_6 (fun x1 s2 => ?_)
  refine mf_if_eq 16 dX9_turnCut_9 (by decide) ?_ ?_
  · refine mf_iconst 1 dX9_turnCut_16 (by decide) ?_
    refine mf_callVv (stk := []) (wX9_setCut l _ _ _ _) cl_X9_33 rfl (by decide) rfl rfl rfl (Nat.le_of_ble_eq_true rfl) rfl rfl dX9_turnCut_17 (fun us3 s3 => ?_)
    exact mf_vret dX9_turnCut_20
  · refine mf_iconst 0 dX9_turnCut_12 (by decide) ?_
    refine mf_goto 17 dX9_turnCut_13 (by decide) ?_
    refine mf_callVv (stk := []) (wX9_setCut l _ _ _ _) cl_X9_33 rfl (by decide) rfl rfl rfl (Nat.le_of_ble_eq_true rfl) rfl rfl dX9_turnCut_17 (fun us4 s4 => ?_)
    exact mf_vret dX9_turnCut_20
set_option maxRecDepth 100000 in
set_option maxHeartbeats 4000000 in
theorem wX10_cut (l : Launch) (p1 : Int32) (p2 : Int32) (s : mx_G) : mf_M ei l yX10_cut cX10_cut 3 (some .int) 4 [.ref 0, .int p1, .int p2] s (fX10_cut p1 p2 s) := by
  refine mf_intro rfl (Nat.le_of_ble_eq_true rfl) rfl rfl ?_
  refine mf_sub (loc' := [(0, .ref 0), (1, .int p1), (2, .int p2)]) [0, 1, 2] rfl ?_
  unfold fX10_cut
  refine mf_aload_n dX10_cut_0 rfl 0 rfl ?_
  refine mf_getR fl_X10_10 rfl rfl dX10_cut_1 ?_
  refine mf_iload_n dX10_cut_4 rfl 1 rfl ?_
  refine mf_iload_n dX10_cut_5 rfl 2 rfl ?_
  refine mf_callVi (stk := []) (wX9_arePair l _ _ _) cl_X10_86 rfl (by decide) rfl rfl rfl (Nat.le_of_ble_eq_true rfl) rfl rfl dX10_cut_6 (fun x1 s2 => ?_)
  refine mf_if_ne 14 dX10_cut_9 (by decide) ?_ ?_
  · refine mf_iconst (-1) dX10_cut_12 (by decide) ?_
    exact mf_iret dX10_cut_13
  · refine mf_aload_n dX10_cut_14 rfl 0 rfl ?_
    refine mf_getR fl_X10_10 rfl rfl dX10_cut_15 ?_
    refine mf_iload_n dX10_cut_18 rfl 1 rfl ?_
    refine mf_iload_n dX10_cut_19 rfl 2 rfl ?_
    refine mf_callVi (stk := []) (wX9_sortOf l _ _ _) cl_X10_90 rfl (by decide) rfl rfl rfl (Nat.le_of_ble_eq_true rfl) rfl rfl dX10_cut_20 (fun x3 s4 => ?_)
    refine mf_if_ne 29 dX10_cut_23 (by decide) ?_ ?_
    · refine mf_bipush (-4) dX10_cut_26 (by decide) ?_
      exact mf_iret dX10_cut_28
    · refine mf_aload_n dX10_cut_29 rfl 0 rfl ?_
      refine mf_getR fl_X10_19 rfl rfl dX10_cut_30 ?_
      refine mf_aload_n dX10_cut_33 rfl 0 rfl ?_
      refine mf_getR fl_X10_10 rfl rfl dX10_cut_34 ?_
      refine mf_callVv (stk := []) (wX3_keep l _) cl_X10_97 rfl (by decide) rfl rfl rfl (Nat.le_of_ble_eq_true rfl) rfl rfl dX10_cut_37 (fun us5 s5 => ?_)
      refine mf_aload_n dX10_cut_40 rfl 0 rfl ?_
      refine mf_getR fl_X10_10 rfl rfl dX10_cut_41 ?_
      refine mf_iload_n dX10_cut_44 rfl 1 rfl ?_
      refine mf_iload_n dX10_cut_45 rfl 2 rfl ?_
      refine mf_callVv (stk := []) (wX9_turnCut l _ _ _) cl_X10_105 rfl (by decide) rfl rfl rfl (Nat.le_of_ble_eq_true rfl) rfl rfl dX10_cut_46 (fun us6 s6 => ?_)
      refine mf_aload_n dX10_cut_49 rfl 0 rfl ?_
      refine mf_getR fl_X10_10 rfl rfl dX10_cut_50 ?_
      refine mf_iload_n dX10_cut_53 rfl 1 rfl ?_
      refine mf_iload_n dX10_cut_54 rfl 2 rfl ?_
      refine mf_callVi (stk := []) (wX9_isCut l _ _ _) cl_X10_94 rfl (by decide) rfl rfl rfl (Nat.le_of_ble_eq_true rfl) rfl rfl dX10_cut_55 (fun x7 s8 => ?_)
      refine mf_if_eq 65 dX10_cut_58 (by decide) ?_ ?_
      · refine mf_iconst 0 dX10_cut_65 (by decide) ?_
        exact mf_iret dX10_cut_66
      · refine mf_iconst 1 dX10_cut_61 (by decide) ?_
        refine mf_goto 66 dX10_cut_62 (by decide) ?_
        exact mf_iret dX10_cut_66
set_option maxRecDepth 100000 in
set_option maxHeartbeats 4000000 in
theorem wX9_likingOf (l : Launch) (p1 : Int32) (p2 : Int32) (s : mx_G) : mf_M ei l yX9_likingOf cX9_likingOf 3 (some .int) 0 [.ref 1, .int p1, .int p2] s (fX9_likingOf p1 p2 s) := by
  refine mf_intro rfl (Nat.le_of_ble_eq_true rfl) rfl rfl ?_
  refine mf_sub (loc' := [(0, .ref 1), (1, .int p1), (2, .int p2)]) [0, 1, 2] rfl ?_
  unfold fX9_likingOf
  refine mf_aload_n dX9_likingOf_0 rfl 0 rfl ?_
  refine mf_getR fl_X9_11 rfl rfl dX9_likingOf_1 ?_
  refine mf_bipush 85 dX9_likingOf_4 (by decide) ?_
  refine mf_iload_n dX9_likingOf_6 rfl 1 rfl ?_
  refine mf_bipush 6 dX9_likingOf_7 (by decide) ?_
  refine mf_imul dX9_likingOf_9 ?_
  refine mf_iadd dX9_likingOf_10 ?_
  refine mf_iload_n dX9_likingOf_11 rfl 2 rfl ?_
  refine mf_iadd dX9_likingOf_12 ?_
  refine mf_iald rfl dX9_likingOf_13 ?_
  exact mf_iret dX9_likingOf_14
set_option maxRecDepth 100000 in
set_option maxHeartbeats 4000000 in
theorem wX9_setLiking (l : Launch) (p1 : Int32) (p2 : Int32) (p3 : Int32) (s : mx_G) : mf_M ev l yX9_setLiking cX9_setLiking 4 none 0 [.ref 1, .int p1, .int p2, .int p3] s (fX9_setLiking p1 p2 p3 s) := by
  refine mf_intro rfl (Nat.le_of_ble_eq_true rfl) rfl rfl ?_
  refine mf_sub (loc' := [(0, .ref 1), (1, .int p1), (2, .int p2), (3, .int p3)]) [0, 1, 2, 3] rfl ?_
  unfold fX9_setLiking
  refine mf_aload_n dX9_setLiking_0 rfl 0 rfl ?_
  refine mf_getR fl_X9_11 rfl rfl dX9_setLiking_1 ?_
  refine mf_bipush 85 dX9_setLiking_4 (by decide) ?_
  refine mf_iload_n dX9_setLiking_6 rfl 1 rfl ?_
  refine mf_bipush 6 dX9_setLiking_7 (by decide) ?_
  refine mf_imul dX9_setLiking_9 ?_
  refine mf_iadd dX9_setLiking_10 ?_
  refine mf_iload_n dX9_setLiking_11 rfl 2 rfl ?_
  refine mf_iadd dX9_setLiking_12 ?_
  refine mf_iload_n dX9_setLiking_13 rfl 3 rfl ?_
  refine mf_iast rfl dX9_setLiking_14 (fun s1 => ?_)
  exact mf_vret dX9_setLiking_15
set_option maxRecDepth 100000 in
set_option maxHeartbeats 4000000 in
theorem wX10_like (l : Launch) (p1 : Int32) (p2 : Int32) (p3 : Int32) (s : mx_G) : mf_M ei l yX10_like cX10_like 5 (some .int) 4 [.ref 0, .int p1, .int p2, .int p3] s (fX10_like p1 p2 p3 s) := by
  refine mf_intro rfl (Nat.le_of_ble_eq_true rfl) rfl rfl ?_
  refine mf_sub (loc' := [(0, .ref 0), (1, .int p1), (2, .int p2), (3, .int p3)]) [0, 1, 2, 3] rfl ?_
  unfold fX10_like
  refine mf_aload_n dX10_like_0 rfl 0 rfl ?_
  refine mf_getR fl_X10_10 rfl rfl dX10_like_1 ?_
  refine mf_iload_n dX10_like_4 rfl 1 rfl ?_
  refine mf_iload_n dX10_like_5 rfl 2 rfl ?_
  refine mf_callVi (stk := []) (wX9_arePair l _ _ _) cl_X10_86 rfl (by decide) rfl rfl rfl (Nat.le_of_ble_eq_true rfl) rfl rfl dX10_like_6 (fun x1 s2 => ?_)
  refine mf_if_eq 22 dX10_like_9 (by decide) ?_ ?_
  · refine mf_iconst (-1) dX10_like_22 (by decide) ?_
    exact mf_iret dX10_like_23
  · refine mf_iload_n dX10_like_12 rfl 3 rfl ?_
    refine mf_if_lt 22 dX10_like_13 (by decide) ?_ ?_
    · refine mf_iconst (-1) dX10_like_22 (by decide) ?_
      exact mf_iret dX10_like_23
    · refine mf_iload_n dX10_like_16 rfl 3 rfl ?_
      refine mf_bipush 9 dX10_like_17 (by decide) ?_
      refine mf_icmp_le 24 dX10_like_19 (by decide) ?_ ?_
      · refine mf_aload_n dX10_like_24 rfl 0 rfl ?_
        refine mf_getR fl_X10_10 rfl rfl dX10_like_25 ?_
        refine mf_iload_n dX10_like_28 rfl 1 rfl ?_
        refine mf_iload_n dX10_like_29 rfl 2 rfl ?_
        refine mf_callVi (stk := []) (wX9_likingOf l _ _ _) cl_X10_109 rfl (by decide) rfl rfl rfl (Nat.le_of_ble_eq_true rfl) rfl rfl dX10_like_30 (fun x3 s4 => ?_)
        refine mf_istore [(4, .int x3), (0, .ref 0), (1, .int p1), (2, .int p2), (3, .int p3)] dX10_like_33 (by decide) rfl ?_
        refine mf_iload dX10_like_35 0 rfl ?_
        refine mf_iload_n dX10_like_37 rfl 4 rfl ?_
        refine mf_icmp_ne 44 dX10_like_38 (by decide) ?_ ?_
        · refine mf_bipush (-2) dX10_like_41 (by decide) ?_
          exact mf_iret dX10_like_43
        · refine mf_aload_n dX10_like_44 rfl 1 rfl ?_
          refine mf_getR fl_X10_19 rfl rfl dX10_like_45 ?_
          refine mf_aload_n dX10_like_48 rfl 1 rfl ?_
          refine mf_getR fl_X10_10 rfl rfl dX10_like_49 ?_
          refine mf_callVv (stk := []) (wX3_keep l _) cl_X10_97 rfl (by decide) rfl rfl rfl (Nat.le_of_ble_eq_true rfl) rfl rfl dX10_like_52 (fun us5 s5 => ?_)
          refine mf_aload_n dX10_like_55 rfl 1 rfl ?_
          refine mf_getR fl_X10_10 rfl rfl dX10_like_56 ?_
          refine mf_iload_n dX10_like_59 rfl 2 rfl ?_
          refine mf_iload_n dX10_like_60 rfl 3 rfl ?_
          refine mf_iload_n dX10_like_61 rfl 4 rfl ?_
          refine mf_callVv (stk := []) (wX9_setLiking l _ _ _ _) cl_X10_112 rfl (by decide) rfl rfl rfl (Nat.le_of_ble_eq_true rfl) rfl rfl dX10_like_62 (fun us6 s6 => ?_)
          refine mf_iload dX10_like_65 0 rfl ?_
          exact mf_iret dX10_like_67
      · refine mf_iconst (-1) dX10_like_22 (by decide) ?_
        exact mf_iret dX10_like_23
set_option maxRecDepth 100000 in
set_option maxHeartbeats 4000000 in
theorem wX9_mannerOf (l : Launch) (p1 : Int32) (s : mx_G) : mf_M ei l yX9_mannerOf cX9_mannerOf 2 (some .int) 0 [.ref 1, .int p1] s (fX9_mannerOf p1 s) := by
  refine mf_intro rfl (Nat.le_of_ble_eq_true rfl) rfl rfl ?_
  refine mf_sub (loc' := [(0, .ref 1), (1, .int p1)]) [0, 1] rfl ?_
  unfold fX9_mannerOf
  refine mf_aload_n dX9_mannerOf_0 rfl 0 rfl ?_
  refine mf_getR fl_X9_11 rfl rfl dX9_mannerOf_1 ?_
  refine mf_iconst 1 dX9_mannerOf_4 (by decide) ?_
  refine mf_iload_n dX9_mannerOf_5 rfl 1 rfl ?_
  refine mf_iadd dX9_mannerOf_6 ?_
  refine mf_iald rfl dX9_mannerOf_7 ?_
  exact mf_iret dX9_mannerOf_8
set_option maxRecDepth 100000 in
set_option maxHeartbeats 4000000 in
theorem wX9_setManner (l : Launch) (p1 : Int32) (p2 : Int32) (s : mx_G) : mf_M ev l yX9_setManner cX9_setManner 3 none 0 [.ref 1, .int p1, .int p2] s (fX9_setManner p1 p2 s) := by
  refine mf_intro rfl (Nat.le_of_ble_eq_true rfl) rfl rfl ?_
  refine mf_sub (loc' := [(0, .ref 1), (1, .int p1), (2, .int p2)]) [0, 1, 2] rfl ?_
  unfold fX9_setManner
  refine mf_aload_n dX9_setManner_0 rfl 0 rfl ?_
  refine mf_getR fl_X9_11 rfl rfl dX9_setManner_1 ?_
  refine mf_iconst 1 dX9_setManner_4 (by decide) ?_
  refine mf_iload_n dX9_setManner_5 rfl 1 rfl ?_
  refine mf_iadd dX9_setManner_6 ?_
  refine mf_iload_n dX9_setManner_7 rfl 2 rfl ?_
  refine mf_iast rfl dX9_setManner_8 (fun s1 => ?_)
  exact mf_vret dX9_setManner_9
set_option maxRecDepth 100000 in
set_option maxHeartbeats 4000000 in
theorem wX10_manner (l : Launch) (p1 : Int32) (p2 : Int32) (s : mx_G) : mf_M ei l yX10_manner cX10_manner 4 (some .int) 4 [.ref 0, .int p1, .int p2] s (fX10_manner p1 p2 s) := by
  refine mf_intro rfl (Nat.le_of_ble_eq_true rfl) rfl rfl ?_
  refine mf_sub (loc' := [(0, .ref 0), (1, .int p1), (2, .int p2)]) [0, 1, 2] rfl ?_
  unfold fX10_manner
  refine mf_aload_n dX10_manner_0 rfl 0 rfl ?_
  refine mf_getR fl_X10_10 rfl rfl dX10_manner_1 ?_
  refine mf_iload_n dX10_manner_4 rfl 1 rfl ?_
  refine mf_callVi (stk := []) (wX9_isDomain l _ _) cl_X10_115 rfl (by decide) rfl rfl rfl (Nat.le_of_ble_eq_true rfl) rfl rfl dX10_manner_5 (fun x1 s2 => ?_)
  refine mf_if_eq 20 dX10_manner_8 (by decide) ?_ ?_
  · refine mf_iconst (-1) dX10_manner_20 (by decide) ?_
    exact mf_iret dX10_manner_21
  · refine mf_iload_n dX10_manner_11 rfl 2 rfl ?_
    refine mf_if_lt 20 dX10_manner_12 (by decide) ?_ ?_
    · refine mf_iconst (-1) dX10_manner_20 (by decide) ?_
      exact mf_iret dX10_manner_21
    · refine mf_iload_n dX10_manner_15 rfl 2 rfl ?_
      refine mf_iconst 3 dX10_manner_16 (by decide) ?_
      refine mf_icmp_le 22 dX10_manner_17 (by decide) ?_ ?_
      · refine mf_aload_n dX10_manner_22 rfl 0 rfl ?_
        refine mf_getR fl_X10_10 rfl rfl dX10_manner_23 ?_
        refine mf_iload_n dX10_manner_26 rfl 1 rfl ?_
        refine mf_callVi (stk := []) (wX9_mannerOf l _ _) cl_X10_119 rfl (by decide) rfl rfl rfl (Nat.le_of_ble_eq_true rfl) rfl rfl dX10_manner_27 (fun x3 s4 => ?_)
        refine mf_istore_n [(3, .int x3), (0, .ref 0), (1, .int p1), (2, .int p2)] dX10_manner_30 rfl (by decide) rfl ?_
        refine mf_iload_n dX10_manner_31 rfl 0 rfl ?_
        refine mf_iload_n dX10_manner_32 rfl 3 rfl ?_
        refine mf_icmp_ne 39 dX10_manner_33 (by decide) ?_ ?_
        · refine mf_bipush (-2) dX10_manner_36 (by decide) ?_
          exact mf_iret dX10_manner_38
        · refine mf_aload_n dX10_manner_39 rfl 1 rfl ?_
          refine mf_getR fl_X10_19 rfl rfl dX10_manner_40 ?_
          refine mf_aload_n dX10_manner_43 rfl 1 rfl ?_
          refine mf_getR fl_X10_10 rfl rfl dX10_manner_44 ?_
          refine mf_callVv (stk := []) (wX3_keep l _) cl_X10_97 rfl (by decide) rfl rfl rfl (Nat.le_of_ble_eq_true rfl) rfl rfl dX10_manner_47 (fun us5 s5 => ?_)
          refine mf_aload_n dX10_manner_50 rfl 1 rfl ?_
          refine mf_getR fl_X10_10 rfl rfl dX10_manner_51 ?_
          refine mf_iload_n dX10_manner_54 rfl 2 rfl ?_
          refine mf_iload_n dX10_manner_55 rfl 3 rfl ?_
          refine mf_callVv (stk := []) (wX9_setManner l _ _ _) cl_X10_123 rfl (by decide) rfl rfl rfl (Nat.le_of_ble_eq_true rfl) rfl rfl dX10_manner_56 (fun us6 s6 => ?_)
          refine mf_iload_n dX10_manner_59 rfl 0 rfl ?_
          exact mf_iret dX10_manner_60
      · refine mf_iconst (-1) dX10_manner_20 (by decide) ?_
        exact mf_iret dX10_manner_21
set_option maxRecDepth 100000 in
set_option maxHeartbeats 4000000 in
theorem wX9_areOthers (l : Launch) (p1 : Int32) (p2 : Int32) (s : mx_G) : mf_M ei l yX9_areOthers cX9_areOthers 3 (some .boolean) 0 [.ref 1, .int p1, .int p2] s (fX9_areOthers p1 p2 s) := by
  refine mf_intro rfl (Nat.le_of_ble_eq_true rfl) rfl rfl ?_
  refine mf_sub (loc' := [(0, .ref 1), (1, .int p1), (2, .int p2)]) [0, 1, 2] rfl ?_
  unfold fX9_areOthers
  refine mf_iload_n dX9_areOthers_0 rfl 2 rfl ?_
  refine mf_if_lt 28 dX9_areOthers_1 (by decide) ?_ ?_
  · refine mf_iconst 0 dX9_areOthers_28 (by decide) ?_
    exact mf_zret (by decide) dX9_areOthers_29
  · refine mf_iload_n dX9_areOthers_4 rfl 2 rfl ?_
    refine mf_iconst 1 dX9_areOthers_5 (by decide) ?_
    refine mf_aload_n dX9_areOthers_6 rfl 0 rfl ?_
    refine mf_getR fl_X9_11 rfl rfl dX9_areOthers_7 ?_
    refine mf_iconst 0 dX9_areOthers_10 (by decide) ?_
    refine mf_iald rfl dX9_areOthers_11 ?_
    refine mf_ishl dX9_areOthers_12 ?_
    refine mf_icmp_ge 28 dX9_areOthers_13 (by decide) ?_ ?_
    · refine mf_iconst 0 dX9_areOthers_28 (by decide) ?_
      exact mf_zret (by decide) dX9_areOthers_29
    · refine mf_iload_n dX9_areOthers_16 rfl 2 rfl ?_
      refine mf_iconst 1 dX9_areOthers_17 (by decide) ?_
      refine mf_iload_n dX9_areOthers_18 rfl 1 rfl ?_
      refine mf_ishl dX9_areOthers_19 ?_
      refine mf_iand dX9_areOthers_20 ?_
      refine mf_if_ne 28 dX9_areOthers_21 (by decide) ?_ ?_
      · refine mf_iconst 1 dX9_areOthers_24 (by decide) ?_
        refine mf_goto 29 dX9_areOthers_25 (by decide) ?_
        exact mf_zret (by decide) dX9_areOthers_29
      · refine mf_iconst 0 dX9_areOthers_28 (by decide) ?_
        exact mf_zret (by decide) dX9_areOthers_29
set_option maxRecDepth 100000 in
set_option maxHeartbeats 4000000 in
theorem wX9_barsOf (l : Launch) (p1 : Int32) (s : mx_G) : mf_M ei l yX9_barsOf cX9_barsOf 2 (some .int) 0 [.ref 1, .int p1] s (fX9_barsOf p1 s) := by
  refine mf_intro rfl (Nat.le_of_ble_eq_true rfl) rfl rfl ?_
  refine mf_sub (loc' := [(0, .ref 1), (1, .int p1)]) [0, 1] rfl ?_
  unfold fX9_barsOf
  refine mf_aload_n dX9_barsOf_0 rfl 0 rfl ?_
  refine mf_getR fl_X9_11 rfl rfl dX9_barsOf_1 ?_
  refine mf_bipush 7 dX9_barsOf_4 (by decide) ?_
  refine mf_iload_n dX9_barsOf_6 rfl 1 rfl ?_
  refine mf_iadd dX9_barsOf_7 ?_
  refine mf_iald rfl dX9_barsOf_8 ?_
  exact mf_iret dX9_barsOf_9
set_option maxRecDepth 100000 in
set_option maxHeartbeats 4000000 in
theorem wX9_setBars (l : Launch) (p1 : Int32) (p2 : Int32) (s : mx_G) : mf_M ev l yX9_setBars cX9_setBars 3 none 0 [.ref 1, .int p1, .int p2] s (fX9_setBars p1 p2 s) := by
  refine mf_intro rfl (Nat.le_of_ble_eq_true rfl) rfl rfl ?_
  refine mf_sub (loc' := [(0, .ref 1), (1, .int p1), (2, .int p2)]) [0, 1, 2] rfl ?_
  unfold fX9_setBars
  refine mf_aload_n dX9_setBars_0 rfl 0 rfl ?_
  refine mf_getR fl_X9_11 rfl rfl dX9_setBars_1 ?_
  refine mf_bipush 7 dX9_setBars_4 (by decide) ?_
  refine mf_iload_n dX9_setBars_6 rfl 1 rfl ?_
  refine mf_iadd dX9_setBars_7 ?_
  refine mf_iload_n dX9_setBars_8 rfl 2 rfl ?_
  refine mf_iast rfl dX9_setBars_9 (fun s1 => ?_)
  exact mf_vret dX9_setBars_10
set_option maxRecDepth 100000 in
set_option maxHeartbeats 4000000 in
theorem wX10_bar (l : Launch) (p1 : Int32) (p2 : Int32) (s : mx_G) : mf_M ei l yX10_bar cX10_bar 4 (some .int) 4 [.ref 0, .int p1, .int p2] s (fX10_bar p1 p2 s) := by
  refine mf_intro rfl (Nat.le_of_ble_eq_true rfl) rfl rfl ?_
  refine mf_sub (loc' := [(0, .ref 0), (1, .int p1), (2, .int p2)]) [0, 1, 2] rfl ?_
  unfold fX10_bar
  refine mf_aload_n dX10_bar_0 rfl 0 rfl ?_
  refine mf_getR fl_X10_10 rfl rfl dX10_bar_1 ?_
  refine mf_iload_n dX10_bar_4 rfl 1 rfl ?_
  refine mf_callVi (stk := []) (wX9_isDomain l _ _) cl_X10_115 rfl (by decide) rfl rfl rfl (Nat.le_of_ble_eq_true rfl) rfl rfl dX10_bar_5 (fun x1 s2 => ?_)
  refine mf_if_eq 23 dX10_bar_8 (by decide) ?_ ?_
  · refine mf_iconst (-1) dX10_bar_23 (by decide) ?_
    exact mf_iret dX10_bar_24
  · refine mf_aload_n dX10_bar_11 rfl 0 rfl ?_
    refine mf_getR fl_X10_10 rfl rfl dX10_bar_12 ?_
    refine mf_iload_n dX10_bar_15 rfl 1 rfl ?_
    refine mf_iload_n dX10_bar_16 rfl 2 rfl ?_
    refine mf_callVi (stk := []) (wX9_areOthers l _ _ _) cl_X10_126 rfl (by decide) rfl rfl rfl (Nat.le_of_ble_eq_true rfl) rfl rfl dX10_bar_17 (fun x3 s4 => ?_)
    refine mf_if_ne 25 dX10_bar_20 (by decide) ?_ ?_
    · refine mf_iconst (-1) dX10_bar_23 (by decide) ?_
      exact mf_iret dX10_bar_24
    · refine mf_aload_n dX10_bar_25 rfl 0 rfl ?_
      refine mf_getR fl_X10_10 rfl rfl dX10_bar_26 ?_
      refine mf_iload_n dX10_bar_29 rfl 1 rfl ?_
      refine mf_callVi (stk := []) (wX9_barsOf l _ _) cl_X10_129 rfl (by decide) rfl rfl rfl (Nat.le_of_ble_eq_true rfl) rfl rfl dX10_bar_30 (fun x5 s6 => ?_)
      refine mf_istore_n [(3, .int x5), (0, .ref 0), (1, .int p1), (2, .int p2)] dX10_bar_33 rfl (by decide) rfl ?_
      refine mf_iload_n dX10_bar_34 rfl 0 rfl ?_
      refine mf_iload_n dX10_bar_35 rfl 3 rfl ?_
      refine mf_icmp_ne 42 dX10_bar_36 (by decide) ?_ ?_
      · refine mf_bipush (-2) dX10_bar_39 (by decide) ?_
        exact mf_iret dX10_bar_41
      · refine mf_aload_n dX10_bar_42 rfl 1 rfl ?_
        refine mf_getR fl_X10_19 rfl rfl dX10_bar_43 ?_
        refine mf_aload_n dX10_bar_46 rfl 1 rfl ?_
        refine mf_getR fl_X10_10 rfl rfl dX10_bar_47 ?_
        refine mf_callVv (stk := []) (wX3_keep l _) cl_X10_97 rfl (by decide) rfl rfl rfl (Nat.le_of_ble_eq_true rfl) rfl rfl dX10_bar_50 (fun us7 s7 => ?_)
        refine mf_aload_n dX10_bar_53 rfl 1 rfl ?_
        refine mf_getR fl_X10_10 rfl rfl dX10_bar_54 ?_
        refine mf_iload_n dX10_bar_57 rfl 2 rfl ?_
        refine mf_iload_n dX10_bar_58 rfl 3 rfl ?_
        refine mf_callVv (stk := []) (wX9_setBars l _ _ _) cl_X10_132 rfl (by decide) rfl rfl rfl (Nat.le_of_ble_eq_true rfl) rfl rfl dX10_bar_59 (fun us8 s8 => ?_)
        refine mf_iload_n dX10_bar_62 rfl 0 rfl ?_
        exact mf_iret dX10_bar_63
set_option maxRecDepth 100000 in
set_option maxHeartbeats 4000000 in
theorem wX9_size (l : Launch) (s : mx_G) : mf_M ei l yX9_size cX9_size 1 (some .int) 0 [.ref 1] s (fX9_size  s) := by
  refine mf_intro rfl (Nat.le_of_ble_eq_true rfl) rfl rfl ?_
  refine mf_sub (loc' := [(0, .ref 1)]) [0] rfl ?_
  unfold fX9_size
  refine mf_aload_n dX9_size_0 rfl 0 rfl ?_
  refine mf_getR fl_X9_11 rfl rfl dX9_size_1 ?_
  refine mf_iconst 0 dX9_size_4 (by decide) ?_
  refine mf_iald rfl dX9_size_5 ?_
  exact mf_iret dX9_size_6
set_option maxRecDepth 100000 in
set_option maxHeartbeats 4000000 in
theorem wX9_setChosen (l : Launch) (p1 : Int32) (p2 : Int32) (s : mx_G) : mf_M ev l yX9_setChosen cX9_setChosen 3 none 0 [.ref 1, .int p1, .int p2] s (fX9_setChosen p1 p2 s) := by
  refine mf_intro rfl (Nat.le_of_ble_eq_true rfl) rfl rfl ?_
  refine mf_sub (loc' := [(0, .ref 1), (1, .int p1), (2, .int p2)]) [0, 1, 2] rfl ?_
  unfold fX9_setChosen
  refine mf_aload_n dX9_setChosen_0 rfl 0 rfl ?_
  refine mf_getR fl_X9_11 rfl rfl dX9_setChosen_1 ?_
  refine mf_bipush 121 dX9_setChosen_4 (by decide) ?_
  refine mf_iload_n dX9_setChosen_6 rfl 1 rfl ?_
  refine mf_iadd dX9_setChosen_7 ?_
  refine mf_iload_n dX9_setChosen_8 rfl 2 rfl ?_
  refine mf_iast rfl dX9_setChosen_9 (fun s1 => ?_)
  exact mf_vret dX9_setChosen_10
set_option maxRecDepth 100000 in
set_option maxHeartbeats 4000000 in
theorem wlX9_forgetChosen_2 (l : Launch)    : ∀ (n : Nat) (a1 : Int32) (s0 : mx_G), mf_X ev l RX9 cX9_forgetChosen 2 none "forgetChosen" 1 (lX9_forgetChosen_2   n a1 s0) 2 [(0, .ref 1), (1, .int a1)] [] s0 := by
  intro n
  induction n with
  | zero => intro a1 s0; exact mf_none
  | succ n ih2 =>
    intro a1 s0
    rw [lX9_forgetChosen_2]
    refine mf_iload_n dX9_forgetChosen_2 rfl 1 rfl ?_
    refine mf_bipush 6 dX9_forgetChosen_3 (by decide) ?_
    refine mf_icmp_ge 21 dX9_forgetChosen_5 (by decide) ?_ ?_
    · exact mf_vret dX9_forgetChosen_21
    · refine mf_aload_n dX9_forgetChosen_8 rfl 0 rfl ?_
      refine mf_iload_n dX9_forgetChosen_9 rfl 1 rfl ?_
      refine mf_bipush (-4) dX9_forgetChosen_10 (by decide) ?_
      refine mf_callVv (stk := []) (wX9_setChosen l _ _ _) cl_X9_37 rfl (by decide) rfl rfl rfl (Nat.le_of_ble_eq_true rfl) rfl rfl dX9_forgetChosen_12 (fun us1 s1 => ?_)
      refine mf_iinc 1 [(1, .int (a1 + 1)), (0, .ref 1)] dX9_forgetChosen_15 1 rfl (by decide) (by decide) rfl ?_
      refine mf_goto 2 dX9_forgetChosen_18 (by decide) ?_
      exact mf_sub [1, 0] rfl (ih2 _ _)
set_option maxRecDepth 100000 in
set_option maxHeartbeats 4000000 in
theorem wX9_forgetChosen (l : Launch) (s : mx_G) : mf_M ev l yX9_forgetChosen cX9_forgetChosen 2 none 1 [.ref 1] s (fX9_forgetChosen  s) := by
  refine mf_intro rfl (Nat.le_of_ble_eq_true rfl) rfl rfl ?_
  refine mf_sub (loc' := [(0, .ref 1)]) [0] rfl ?_
  unfold fX9_forgetChosen
  refine mf_iconst 1 dX9_forgetChosen_0 (by decide) ?_
  refine mf_istore_n [(1, .int 1), (0, .ref 1)] dX9_forgetChosen_1 rfl (by decide) rfl ?_
  exact mf_sub [1, 0] rfl (wlX9_forgetChosen_2 l FU _ _)
set_option maxRecDepth 100000 in
set_option maxHeartbeats 4000000 in
theorem wlX9_resize_29 (l : Launch) (a1 : Int32) (a2 : Int32) (k62 : mx_G → Option (Unit × mx_G)) (hk62 : ∀ (sz : mx_G), mf_X ev l RX9 cX9_resize 4 none "resize" 2 (k62 sz) 62 [(0, .ref 1), (1, .int a1), (2, .int a2)] [] sz) : ∀ (n : Nat) (a3 : Int32) (s0 : mx_G), mf_X ev l RX9 cX9_resize 4 none "resize" 2 (lX9_resize_29 a1 a2 k62 n a3 s0) 29 [(0, .ref 1), (1, .int a1), (2, .int a2), (3, .int a3)] [] s0 := by
  intro n
  induction n with
  | zero => intro a3 s0; exact mf_none
  | succ n ih29 =>
    intro a3 s0
    rw [lX9_resize_29]
    refine mf_iload_n dX9_resize_29 rfl 3 rfl ?_
    refine mf_bipush 6 dX9_resize_30 (by decide) ?_
    refine mf_icmp_ge 62 dX9_resize_32 (by decide) ?_ ?_
    · exact mf_sub [0, 1, 2] rfl (hk62 _)
    · refine mf_aload_n dX9_resize_35 rfl 0 rfl ?_
      refine mf_iload_n dX9_resize_36 rfl 2 rfl ?_
      refine mf_iload_n dX9_resize_37 rfl 3 rfl ?_
      refine mf_iconst 0 dX9_resize_38 (by decide) ?_
      refine mf_callVv (stk := []) (wX9_setLink l _ _ _ _) cl_X9_53 rfl (by decide) rfl rfl rfl (Nat.le_of_ble_eq_true rfl) rfl rfl dX9_resize_39 (fun us4 s4 => ?_)
      refine mf_aload_n dX9_resize_42 rfl 0 rfl ?_
      refine mf_iload_n dX9_resize_43 rfl 2 rfl ?_
      refine mf_iload_n dX9_resize_44 rfl 3 rfl ?_
      refine mf_iconst 0 dX9_resize_45 (by decide) ?_
      refine mf_callVv (stk := []) (wX9_setLiking l _ _ _ _) cl_X9_56 rfl (by decide) rfl rfl rfl (Nat.le_of_ble_eq_true rfl) rfl rfl dX9_resize_46 (fun us5 s5 => ?_)
      refine mf_aload_n dX9_resize_49 rfl 0 rfl ?_
      refine mf_iload_n dX9_resize_50 rfl 3 rfl ?_
      refine mf_iload_n dX9_resize_51 rfl 2 rfl ?_
      refine mf_iconst 0 dX9_resize_52 (by decide) ?_
      refine mf_callVv (stk := []) (wX9_setLiking l _ _ _ _) cl_X9_56 rfl (by decide) rfl rfl rfl (Nat.le_of_ble_eq_true rfl) rfl rfl dX9_resize_53 (fun us6 s6 => ?_)
      refine mf_iinc 1 [(3, .int (a3 + 1)), (0, .ref 1), (1, .int a1), (2, .int a2)] dX9_resize_56 3 rfl (by decide) (by decide) rfl ?_
      refine mf_goto 29 dX9_resize_59 (by decide) ?_
      exact mf_sub [1, 2, 3, 0] rfl (ih29 _ _)
set_option maxRecDepth 100000 in
set_option maxHeartbeats 4000000 in
theorem wlX9_resize_9 (l : Launch) (a1 : Int32) (k68 : mx_G → Option (Unit × mx_G)) (hk68 : ∀ (sz : mx_G), mf_X ev l RX9 cX9_resize 4 none "resize" 2 (k68 sz) 68 [(0, .ref 1), (1, .int a1)] [] sz) : ∀ (n : Nat) (a2 : Int32) (s0 : mx_G), mf_X ev l RX9 cX9_resize 4 none "resize" 2 (lX9_resize_9 a1 k68 n a2 s0) 9 [(0, .ref 1), (1, .int a1), (2, .int a2)] [] s0 := by
  intro n
  induction n with
  | zero => intro a2 s0; exact mf_none
  | succ n ih9 =>
    intro a2 s0
    rw [lX9_resize_9]
    refine mf_iload_n dX9_resize_9 rfl 2 rfl ?_
    refine mf_bipush 6 dX9_resize_10 (by decide) ?_
    refine mf_icmp_ge 68 dX9_resize_12 (by decide) ?_ ?_
    · exact mf_sub [0, 1] rfl (hk68 _)
    · refine mf_aload_n dX9_resize_15 rfl 0 rfl ?_
      refine mf_iload_n dX9_resize_16 rfl 2 rfl ?_
      refine mf_iconst 3 dX9_resize_17 (by decide) ?_
      refine mf_callVv (stk := []) (wX9_setManner l _ _ _) cl_X9_47 rfl (by decide) rfl rfl rfl (Nat.le_of_ble_eq_true rfl) rfl rfl dX9_resize_18 (fun us2 s2 => ?_)
      refine mf_aload_n dX9_resize_21 rfl 0 rfl ?_
      refine mf_iload_n dX9_resize_22 rfl 2 rfl ?_
      refine mf_iconst 0 dX9_resize_23 (by decide) ?_
      refine mf_callVv (stk := []) (wX9_setBars l _ _ _) cl_X9_50 rfl (by decide) rfl rfl rfl (Nat.le_of_ble_eq_true rfl) rfl rfl dX9_resize_24 (fun us3 s3 => ?_)
      refine mf_iconst 0 dX9_resize_27 (by decide) ?_
      refine mf_istore_n [(3, .int 0), (0, .ref 1), (1, .int a1), (2, .int a2)] dX9_resize_28 rfl (by decide) rfl ?_
      refine mf_sub [1, 2, 3, 0] rfl (wlX9_resize_29 l _ _ _ (fun s7 => ?_) FU _ _)
      refine mf_iinc 1 [(2, .int (a2 + 1)), (0, .ref 1), (1, .int a1)] dX9_resize_62 2 rfl (by decide) (by decide) rfl ?_
      refine mf_goto 9 dX9_resize_65 (by decide) ?_
      exact mf_sub [1, 2, 0] rfl (ih9 _ _)
set_option maxRecDepth 100000 in
set_option maxHeartbeats 4000000 in
theorem wlX9_resize_70 (l : Launch) (a1 : Int32)   : ∀ (n : Nat) (a2 : Int32) (s0 : mx_G), mf_X ev l RX9 cX9_resize 4 none "resize" 2 (lX9_resize_70 a1  n a2 s0) 70 [(0, .ref 1), (1, .int a1), (2, .int a2)] [] s0 := by
  intro n
  induction n with
  | zero => intro a2 s0; exact mf_none
  | succ n ih70 =>
    intro a2 s0
    rw [lX9_resize_70]
    refine mf_iload_n dX9_resize_70 rfl 2 rfl ?_
    refine mf_iload_n dX9_resize_71 rfl 1 rfl ?_
    refine mf_icmp_ge 97 dX9_resize_72 (by decide) ?_ ?_
    · refine mf_aload_n dX9_resize_97 rfl 0 rfl ?_
      refine mf_callVv (stk := []) (wX9_forgetChosen l _) cl_X9_63 rfl (by decide) rfl rfl rfl (Nat.le_of_ble_eq_true rfl) rfl rfl dX9_resize_98 (fun us9 s9 => ?_)
      exact mf_vret dX9_resize_101
    · refine mf_aload_n dX9_resize_75 rfl 0 rfl ?_
      refine mf_iload_n dX9_resize_76 rfl 2 rfl ?_
      refine mf_aload_n dX9_resize_77 rfl 0 rfl ?_
      refine mf_iload_n dX9_resize_78 rfl 2 rfl ?_
      refine mf_callVi (stk := [.int a2, .ref 1]) (wX9_barsOf l _ _) cl_X9_59 rfl (by decide) rfl rfl rfl (Nat.le_of_ble_eq_true rfl) rfl rfl dX9_resize_79 (fun x10 s11 => ?_)
      refine mf_iconst 1 dX9_resize_82 (by decide) ?_
      refine mf_iload_n dX9_resize_83 rfl 1 rfl ?_
      refine mf_ishl dX9_resize_84 ?_
      refine mf_iconst 1 dX9_resize_85 (by decide) ?_
      refine mf_isub dX9_resize_86 ?_
      refine mf_iand dX9_resize_87 ?_
      refine mf_callVv (stk := []) (wX9_setBars l _ _ _) cl_X9_50 rfl (by decide) rfl rfl rfl (Nat.le_of_ble_eq_true rfl) rfl rfl dX9_resize_88 (fun us12 s12 => ?_)
      refine mf_iinc 1 [(2, .int (a2 + 1)), (0, .ref 1), (1, .int a1)] dX9_resize_91 2 rfl (by decide) (by decide) rfl ?_
      refine mf_goto 70 dX9_resize_94 (by decide) ?_
      exact mf_sub [1, 2, 0] rfl (ih70 _ _)
set_option maxRecDepth 100000 in
set_option maxHeartbeats 4000000 in
theorem wX9_resize (l : Launch) (p1 : Int32) (s : mx_G) : mf_M ev l yX9_resize cX9_resize 4 none 2 [.ref 1, .int p1] s (fX9_resize p1 s) := by
  refine mf_intro rfl (Nat.le_of_ble_eq_true rfl) rfl rfl ?_
  refine mf_sub (loc' := [(0, .ref 1), (1, .int p1)]) [0, 1] rfl ?_
  unfold fX9_resize
  refine mf_aload_n dX9_resize_0 rfl 0 rfl ?_
  refine mf_getR fl_X9_11 rfl rfl dX9_resize_1 ?_
  refine mf_iconst 0 dX9_resize_4 (by decide) ?_
  refine mf_iload_n dX9_resize_5 rfl 1 rfl ?_
  refine mf_iast rfl dX9_resize_6 (fun s1 => ?_)
  refine mf_iload_n dX9_resize_7 rfl 1 rfl ?_
  refine mf_istore_n [(2, .int p1), (0, .ref 1), (1, .int p1)] dX9_resize_8 rfl (by decide) rfl ?_
  refine mf_sub [1, 2, 0] rfl (wlX9_resize_9 l _ _ (fun s8 => ?_) FU _ _)
  refine mf_iconst 0 dX9_resize_68 (by decide) ?_
  refine mf_istore_n [(2, .int 0), (0, .ref 1), (1, .int p1)] dX9_resize_69 rfl (by decide) rfl ?_
  exact mf_sub [1, 2, 0] rfl (wlX9_resize_70 l _ FU _ _)
set_option maxRecDepth 100000 in
set_option maxHeartbeats 4000000 in
theorem wX10_domains (l : Launch) (p1 : Int32) (s : mx_G) : mf_M ei l yX10_domains cX10_domains 3 (some .int) 4 [.ref 0, .int p1] s (fX10_domains p1 s) := by
  refine mf_intro rfl (Nat.le_of_ble_eq_true rfl) rfl rfl ?_
  refine mf_sub (loc' := [(0, .ref 0), (1, .int p1)]) [0, 1] rfl ?_
  unfold fX10_domains
  refine mf_iload_n dX10_domains_0 rfl 1 rfl ?_
  refine mf_iconst 2 dX10_domains_1 (by decide) ?_
  refine mf_icmp_lt 11 dX10_domains_2 (by decide) ?_ ?_
  · refine mf_iconst (-1) dX10_domains_11 (by decide) ?_
    exact mf_iret dX10_domains_12
  · refine mf_iload_n dX10_domains_5 rfl 1 rfl ?_
    refine mf_bipush 6 dX10_domains_6 (by decide) ?_
    refine mf_icmp_le 13 dX10_domains_8 (by decide) ?_ ?_
    · refine mf_aload_n dX10_domains_13 rfl 0 rfl ?_
      refine mf_getR fl_X10_10 rfl rfl dX10_domains_14 ?_
      refine mf_callVi (stk := []) (wX9_size l _) cl_X10_135 rfl (by decide) rfl rfl rfl (Nat.le_of_ble_eq_true rfl) rfl rfl dX10_domains_17 (fun x1 s2 => ?_)
      refine mf_istore_n [(2, .int x1), (0, .ref 0), (1, .int p1)] dX10_domains_20 rfl (by decide) rfl ?_
      refine mf_iload_n dX10_domains_21 rfl 0 rfl ?_
      refine mf_iload_n dX10_domains_22 rfl 2 rfl ?_
      refine mf_icmp_ne 29 dX10_domains_23 (by decide) ?_ ?_
      · refine mf_bipush (-2) dX10_domains_26 (by decide) ?_
        exact mf_iret dX10_domains_28
      · refine mf_aload_n dX10_domains_29 rfl 1 rfl ?_
        refine mf_getR fl_X10_19 rfl rfl dX10_domains_30 ?_
        refine mf_aload_n dX10_domains_33 rfl 1 rfl ?_
        refine mf_getR fl_X10_10 rfl rfl dX10_domains_34 ?_
        refine mf_callVv (stk := []) (wX3_keep l _) cl_X10_97 rfl (by decide) rfl rfl rfl (Nat.le_of_ble_eq_true rfl) rfl rfl dX10_domains_37 (fun us3 s3 => ?_)
        refine mf_aload_n dX10_domains_40 rfl 1 rfl ?_
        refine mf_getR fl_X10_10 rfl rfl dX10_domains_41 ?_
        refine mf_iload_n dX10_domains_44 rfl 2 rfl ?_
        refine mf_callVv (stk := []) (wX9_resize l _ _) cl_X10_139 rfl (by decide) rfl rfl rfl (Nat.le_of_ble_eq_true rfl) rfl rfl dX10_domains_45 (fun us4 s4 => ?_)
        refine mf_iload_n dX10_domains_48 rfl 0 rfl ?_
        exact mf_iret dX10_domains_49
    · refine mf_iconst (-1) dX10_domains_11 (by decide) ?_
      exact mf_iret dX10_domains_12
set_option maxRecDepth 100000 in
set_option maxHeartbeats 4000000 in
theorem wX10_told (l : Launch) (p1 : Int32) (p2 : Int32) (p3 : Int32) (s : mx_G) : mf_M ei l yX10_told cX10_told 4 (some .int) 2 [.ref 0, .int p1, .int p2, .int p3] s (fX10_told p1 p2 p3 s) := by
  refine mf_intro rfl (Nat.le_of_ble_eq_true rfl) rfl rfl ?_
  refine mf_sub (loc' := [(0, .ref 0), (1, .int p1), (2, .int p2), (3, .int p3)]) [0, 1, 2, 3] rfl ?_
  unfold fX10_told
  refine mf_aload_n dX10_told_0 rfl 0 rfl ?_
  refine mf_getR fl_X10_10 rfl rfl dX10_told_1 ?_
  refine mf_iload_n dX10_told_4 rfl 1 rfl ?_
  refine mf_iload_n dX10_told_5 rfl 2 rfl ?_
  refine mf_callVi (stk := []) (wX9_arePair l _ _ _) cl_X10_86 rfl (by decide) rfl rfl rfl (Nat.le_of_ble_eq_true rfl) rfl rfl dX10_told_6 (fun x1 s2 => ?_)
  refine mf_if_eq 21 dX10_told_9 (by decide) ?_ ?_
  · refine mf_iconst (-1) dX10_told_21 (by decide) ?_
    exact mf_iret dX10_told_22
  · refine mf_iload_n dX10_told_12 rfl 3 rfl ?_
    refine mf_if_lt 21 dX10_told_13 (by decide) ?_ ?_
    · refine mf_iconst (-1) dX10_told_21 (by decide) ?_
      exact mf_iret dX10_told_22
    · refine mf_iload_n dX10_told_16 rfl 3 rfl ?_
      refine mf_iconst 2 dX10_told_17 (by decide) ?_
      refine mf_icmp_le 23 dX10_told_18 (by decide) ?_ ?_
      · refine mf_iload_n dX10_told_23 rfl 3 rfl ?_
        refine mf_if_ne 37 dX10_told_24 (by decide) ?_ ?_
        · refine mf_aload_n dX10_told_27 rfl 0 rfl ?_
          refine mf_getR fl_X10_10 rfl rfl dX10_told_28 ?_
          refine mf_iload_n dX10_told_31 rfl 1 rfl ?_
          refine mf_iload_n dX10_told_32 rfl 2 rfl ?_
          refine mf_callVi (stk := []) (wX9_sortOf l _ _ _) cl_X10_90 rfl (by decide) rfl rfl rfl (Nat.le_of_ble_eq_true rfl) rfl rfl dX10_told_33 (fun x7 s8 => ?_)
          exact mf_iret dX10_told_36
        · refine mf_iload_n dX10_told_37 rfl 3 rfl ?_
          refine mf_iconst 1 dX10_told_38 (by decide) ?_
          refine mf_icmp_ne 60 dX10_told_39 (by decide) ?_ ?_
          · refine mf_aload_n dX10_told_42 rfl 0 rfl ?_
            refine mf_getR fl_X10_10 rfl rfl dX10_told_43 ?_
            refine mf_iload_n dX10_told_46 rfl 1 rfl ?_
            refine mf_iload_n dX10_told_47 rfl 2 rfl ?_
            refine mf_callVi (stk := []) (wX9_isCut l _ _ _) cl_X10_94 rfl (by decide) rfl rfl rfl (Nat.le_of_ble_eq_true rfl) rfl rfl dX10_told_48 (fun x5 s6 => ?_)
            refine mf_if_eq 58 dX10_told_51 (by decide) ?_ ?_
            · refine mf_iconst 0 dX10_told_58 (by decide) ?_
              exact mf_iret dX10_told_59
            · refine mf_iconst 1 dX10_told_54 (by decide) ?_
              refine mf_goto 59 dX10_told_55 (by decide) ?_
              exact mf_iret dX10_told_59
          · refine mf_aload_n dX10_told_60 rfl 0 rfl ?_
            refine mf_getR fl_X10_10 rfl rfl dX10_told_61 ?_
            refine mf_iload_n dX10_told_64 rfl 1 rfl ?_
            refine mf_iload_n dX10_told_65 rfl 2 rfl ?_
            refine mf_callVi (stk := []) (wX9_likingOf l _ _ _) cl_X10_109 rfl (by decide) rfl rfl rfl (Nat.le_of_ble_eq_true rfl) rfl rfl dX10_told_66 (fun x3 s4 => ?_)
            exact mf_iret dX10_told_69
      · refine mf_iconst (-1) dX10_told_21 (by decide) ?_
        exact mf_iret dX10_told_22
set_option maxRecDepth 100000 in
set_option maxHeartbeats 4000000 in
theorem wlJA_fillI_5 (l : Launch) (a1 : Int32) (a3 : Int32)   : ∀ (n : Nat) (a2 : Int32) (s0 : mx_G), mf_X ev l "java/util/Arrays" cJA_fillI 4 none "fill" 0 (lJA_fillI_5 a1 a3  n a2 s0) 5 [(0, .ref 23), (1, .int a1), (2, .int a2), (3, .int a3)] [] s0 := by
  intro n
  induction n with
  | zero => intro a2 s0; exact mf_none
  | succ n ih5 =>
    intro a2 s0
    rw [lJA_fillI_5]
    refine mf_iload_n dJA_fillI_5 rfl 2 rfl ?_
    refine mf_iload_n dJA_fillI_6 rfl 3 rfl ?_
    refine mf_icmp_ge 20 dJA_fillI_7 (by decide) ?_ ?_
    · exact mf_vret dJA_fillI_20
    · refine mf_aload_n dJA_fillI_10 rfl 0 rfl ?_
      refine mf_iload_n dJA_fillI_11 rfl 2 rfl ?_
      refine mf_iload_n dJA_fillI_12 rfl 1 rfl ?_
      refine mf_iast rfl dJA_fillI_13 (fun s1 => ?_)
      refine mf_iinc 1 [(2, .int (a2 + 1)), (0, .ref 23), (1, .int a1), (3, .int a3)] dJA_fillI_14 2 rfl (by decide) (by decide) rfl ?_
      refine mf_goto 5 dJA_fillI_17 (by decide) ?_
      exact mf_sub [1, 2, 0, 3] rfl (ih5 _ _)
set_option maxRecDepth 100000 in
set_option maxHeartbeats 4000000 in
theorem wJA_fillI (l : Launch) (p1 : Int32) (s : mx_G) : mf_M ev l yJA_fillI cJA_fillI 4 none 0 [.ref 23, .int p1] s (fJA_fillI p1 s) := by
  refine mf_intro rfl (Nat.le_of_ble_eq_true rfl) rfl rfl ?_
  refine mf_sub (loc' := [(0, .ref 23), (1, .int p1)]) [0, 1] rfl ?_
  unfold fJA_fillI
  refine mf_iconst 0 dJA_fillI_0 (by decide) ?_
  refine mf_istore_n [(2, .int 0), (0, .ref 23), (1, .int p1)] dJA_fillI_1 rfl (by decide) rfl ?_
  refine mf_aload_n dJA_fillI_2 rfl 1 rfl ?_
  refine mf_aleni 6 rfl (by decide) dJA_fillI_3 ?_
  refine mf_istore_n [(3, .int 6), (2, .int 0), (0, .ref 23), (1, .int p1)] dJA_fillI_4 rfl (by decide) rfl ?_
  exact mf_sub [2, 3, 1, 0] rfl (wlJA_fillI_5 l _ _ FU _ _)
set_option maxRecDepth 100000 in
set_option maxHeartbeats 4000000 in
theorem wlX8_insert_12 (l : Launch) (a1 : Int32) (a2 : Int32) (k62 : Int32 → mx_G → Option (Unit × mx_G)) (hk62 : ∀ (b3 : Int32) (sz : mx_G), mf_X ev l RX8 cX8_insert 4 none "insert" 0 (k62 b3 sz) 62 [(0, .ref 15), (1, .int a1), (2, .int a2), (3, .int b3)] [] sz) : ∀ (n : Nat) (a3 : Int32) (s0 : mx_G), mf_X ev l RX8 cX8_insert 4 none "insert" 0 (lX8_insert_12 a1 a2 k62 n a3 s0) 12 [(0, .ref 15), (1, .int a1), (2, .int a2), (3, .int a3)] [] s0 := by
  intro n
  induction n with
  | zero => intro a3 s0; exact mf_none
  | succ n ih12 =>
    intro a3 s0
    rw [lX8_insert_12]
    refine mf_iload_n dX8_insert_12 rfl 3 rfl ?_
    refine mf_iload_n dX8_insert_13 rfl 1 rfl ?_
    refine mf_bipush 65 dX8_insert_14 (by decide) ?_
    refine mf_imul dX8_insert_16 ?_
    refine mf_icmp_le 62 dX8_insert_17 (by decide) ?_ ?_
    · exact mf_sub [0, 1, 2, 3] rfl (hk62 _ _)
    · refine mf_aload_n dX8_insert_20 rfl 0 rfl ?_
      refine mf_getR fl_X8_30 rfl rfl dX8_insert_21 ?_
      refine mf_aload_n dX8_insert_24 rfl 0 rfl ?_
      refine mf_getR fl_X8_45 rfl rfl dX8_insert_25 ?_
      refine mf_iload_n dX8_insert_28 rfl 3 rfl ?_
      refine mf_iconst 1 dX8_insert_29 (by decide) ?_
      refine mf_isub dX8_insert_30 ?_
      refine mf_iald rfl dX8_insert_31 ?_
      refine mf_iald rfl dX8_insert_32 ?_
      refine mf_aload_n dX8_insert_33 rfl 0 rfl ?_
      refine mf_getR fl_X8_30 rfl rfl dX8_insert_34 ?_
      refine mf_iload_n dX8_insert_37 rfl 2 rfl ?_
      refine mf_iald rfl dX8_insert_38 ?_
      refine mf_icmp_le 62 dX8_insert_39 (by decide) ?_ ?_
      · exact mf_sub [0, 1, 2, 3] rfl (hk62 _ _)
      · refine mf_aload_n dX8_insert_42 rfl 0 rfl ?_
        refine mf_getR fl_X8_45 rfl rfl dX8_insert_43 ?_
        refine mf_iload_n dX8_insert_46 rfl 3 rfl ?_
        refine mf_aload_n dX8_insert_47 rfl 0 rfl ?_
        refine mf_getR fl_X8_45 rfl rfl dX8_insert_48 ?_
        refine mf_iload_n dX8_insert_51 rfl 3 rfl ?_
        refine mf_iconst 1 dX8_insert_52 (by decide) ?_
        refine mf_isub dX8_insert_53 ?_
        refine mf_iald rfl dX8_insert_54 ?_
        refine mf_iast rfl dX8_insert_55 (fun s2 => ?_)
        refine mf_iinc (-1) [(3, .int (a3 + (-1))), (0, .ref 15), (1, .int a1), (2, .int a2)] dX8_insert_56 3 rfl (by decide) (by decide) rfl ?_
        refine mf_goto 12 dX8_insert_59 (by decide) ?_
        exact mf_sub [1, 2, 3, 0] rfl (ih12 _ _)
set_option maxRecDepth 100000 in
set_option maxHeartbeats 4000000 in
theorem wX8_insert (l : Launch) (p1 : Int32) (p2 : Int32) (s : mx_G) : mf_M ev l yX8_insert cX8_insert 4 none 0 [.ref 15, .int p1, .int p2] s (fX8_insert p1 p2 s) := by
  refine mf_intro rfl (Nat.le_of_ble_eq_true rfl) rfl rfl ?_
  refine mf_sub (loc' := [(0, .ref 15), (1, .int p1), (2, .int p2)]) [0, 1, 2] rfl ?_
  unfold fX8_insert
  refine mf_iload_n dX8_insert_0 rfl 1 rfl ?_
  refine mf_bipush 65 dX8_insert_1 (by decide) ?_
  refine mf_imul dX8_insert_3 ?_
  refine mf_aload_n dX8_insert_4 rfl 0 rfl ?_
  refine mf_getR fl_X8_42 rfl rfl dX8_insert_5 ?_
  refine mf_iload_n dX8_insert_8 rfl 1 rfl ?_
  refine mf_iald rfl dX8_insert_9 ?_
  refine mf_iadd dX8_insert_10 ?_
  refine mf_leti (fun x1 => ?_)
  refine mf_istore_n [(3, .int x1), (0, .ref 15), (1, .int p1), (2, .int p2)] dX8_insert_11 rfl (by decide) rfl ?_
  refine mf_sub [1, 2, 3, 0] rfl (wlX8_insert_12 l _ _ _ (fun y4 s3 => ?_) FU _ _)
  refine mf_aload_n dX8_insert_62 rfl 0 rfl ?_
  refine mf_getR fl_X8_45 rfl rfl dX8_insert_63 ?_
  refine mf_iload_n dX8_insert_66 rfl 3 rfl ?_
  refine mf_iload_n dX8_insert_67 rfl 2 rfl ?_
  refine mf_iast rfl dX8_insert_68 (fun s5 => ?_)
  refine mf_aload_n dX8_insert_69 rfl 0 rfl ?_
  refine mf_getR fl_X8_42 rfl rfl dX8_insert_70 ?_
  refine mf_iload_n dX8_insert_73 rfl 1 rfl ?_
  refine mf_dup2 rfl rfl dX8_insert_74 ?_
  refine mf_iald rfl dX8_insert_75 ?_
  refine mf_iconst 1 dX8_insert_76 (by decide) ?_
  refine mf_iadd dX8_insert_77 ?_
  refine mf_iast rfl dX8_insert_78 (fun s6 => ?_)
  exact mf_vret dX8_insert_79
