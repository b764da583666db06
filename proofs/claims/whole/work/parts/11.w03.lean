set_option maxRecDepth 100000 in
set_option maxHeartbeats 4000000 in
theorem wX4_search (l : Launch) : ∀ (m : Nat) (p3 : Int32) (s : mx_G), mf_M ev l yX4_search cX4_search 5 none (4 + m) [.ref 31, .ref 1, .ref 9, .int p3] s (fX4_search m p3 s) := by
  intro m
  induction m with
  | zero => intro p3 s; exact mf_Mnone
  | succ m ihm =>
    intro p3 s
    refine mf_intro rfl (Nat.le_of_ble_eq_true rfl) rfl rfl ?_
    refine mf_sub (loc' := [(0, .ref 31), (1, .ref 1), (2, .ref 9), (3, .int p3)]) [0, 1, 2, 3] rfl ?_
    rw [fX4_search]
    refine mf_iload_n dX4_search_0 rfl 3 rfl ?_
    refine mf_aload_n dX4_search_1 rfl 1 rfl ?_
    refine mf_callVi (stk := [.int p3]) (wX9_size l _) cl_X4_29 rfl (by omega) rfl rfl rfl (Nat.le_of_ble_eq_true rfl) rfl rfl dX4_search_2 (fun x1 s2 => ?_)
    refine mf_icmp_ge 14 dX4_search_5 (by decide) ?_ ?_
    · refine mf_aload_n dX4_search_14 rfl 0 rfl ?_
      refine mf_aload_n dX4_search_15 rfl 1 rfl ?_
      refine mf_aload_n dX4_search_16 rfl 2 rfl ?_
      refine mf_callVv (stk := []) (wX4_keepIfStable l _) cl_X4_35 rfl (by omega) rfl rfl rfl (Nat.le_of_ble_eq_true rfl) rfl rfl dX4_search_17 (fun us3 s3 => ?_)
      exact mf_vret dX4_search_20
    · refine mf_iload_n dX4_search_8 rfl 3 rfl ?_
      refine mf_bipush 6 dX4_search_9 (by decide) ?_
      refine mf_icmp_lt 21 dX4_search_11 (by decide) ?_ ?_
      · refine mf_iconst 0 dX4_search_21 (by decide) ?_
        refine mf_istore [(4, .int 0), (0, .ref 31), (1, .ref 1), (2, .ref 9), (3, .int p3)] dX4_search_22 (by decide) rfl ?_
        exact mf_sub [1, 2, 3, 4, 0] rfl (wlX4_search_24 l m _ ihm _ FU _ _)
      · refine mf_aload_n dX4_search_14 rfl 0 rfl ?_
        refine mf_aload_n dX4_search_15 rfl 1 rfl ?_
        refine mf_aload_n dX4_search_16 rfl 2 rfl ?_
        refine mf_callVv (stk := []) (wX4_keepIfStable l _) cl_X4_35 rfl (by omega) rfl rfl rfl (Nat.le_of_ble_eq_true rfl) rfl rfl dX4_search_17 (fun us12 s12 => ?_)
        exact mf_vret dX4_search_20
set_option maxRecDepth 100000 in
set_option maxHeartbeats 4000000 in
theorem wX4_freshen (l : Launch) (p3 : Int32) (s : mx_G) : mf_M ev l yX4_freshen cX4_freshen 4 none 13 [.ref 31, .ref 1, .ref 9, .int p3] s (fX4_freshen p3 s) := by
  refine mf_intro rfl (Nat.le_of_ble_eq_true rfl) rfl rfl ?_
  refine mf_sub (loc' := [(0, .ref 31), (1, .ref 1), (2, .ref 9), (3, .int p3)]) [0, 1, 2, 3] rfl ?_
  unfold fX4_freshen
  refine mf_aload_n dX4_freshen_0 rfl 0 rfl ?_
  refine mf_getI fl_X4_9 rfl rfl dX4_freshen_1 ?_
  refine mf_iload_n dX4_freshen_4 rfl 3 rfl ?_
  refine mf_icmp_ne 9 dX4_freshen_5 (by decide) ?_ ?_
  · exact mf_vret dX4_freshen_8
  · refine mf_aload_n dX4_freshen_9 rfl 0 rfl ?_
    refine mf_iload_n dX4_freshen_10 rfl 3 rfl ?_
    refine mf_putI fl_X4_9 rfl rfl dX4_freshen_11 (fun s1 => ?_)
    refine mf_aload_n dX4_freshen_14 rfl 0 rfl ?_
    refine mf_iconst 0 dX4_freshen_15 (by decide) ?_
    refine mf_putI fl_X4_15 rfl rfl dX4_freshen_16 (fun s2 => ?_)
    refine mf_aload_n dX4_freshen_19 rfl 0 rfl ?_
    refine mf_aload_n dX4_freshen_20 rfl 1 rfl ?_
    refine mf_aload_n dX4_freshen_21 rfl 2 rfl ?_
    refine mf_iconst 1 dX4_freshen_22 (by decide) ?_
    refine mf_callSv (stk := []) (wX4_search l 8 _ _) cl_X4_25 rfl (by decide) rfl (Nat.le_of_ble_eq_true rfl) rfl rfl dX4_freshen_23 (fun us3 s3 => ?_)
    exact mf_vret dX4_freshen_26
set_option maxRecDepth 100000 in
set_option maxHeartbeats 4000000 in
theorem wX4_found (l : Launch) (s : mx_G) : mf_M ei l yX4_found cX4_found 1 (some .int) 0 [.ref 31] s (fX4_found  s) := by
  refine mf_intro rfl (Nat.le_of_ble_eq_true rfl) rfl rfl ?_
  refine mf_sub (loc' := [(0, .ref 31)]) [0] rfl ?_
  unfold fX4_found
  refine mf_aload_n dX4_found_0 rfl 0 rfl ?_
  refine mf_getI fl_X4_15 rfl rfl dX4_found_1 ?_
  exact mf_iret dX4_found_4
set_option maxRecDepth 100000 in
set_option maxHeartbeats 4000000 in
theorem wX10_stableOnes (l : Launch) (s : mx_G) : mf_M ei l yX10_stableOnes cX10_stableOnes 1 (some .int) 14 [.ref 0] s (fX10_stableOnes  s) := by
  refine mf_intro rfl (Nat.le_of_ble_eq_true rfl) rfl rfl ?_
  refine mf_sub (loc' := [(0, .ref 0)]) [0] rfl ?_
  unfold fX10_stableOnes
  refine mf_aload_n dX10_stableOnes_0 rfl 0 rfl ?_
  refine mf_getR fl_X10_43 rfl rfl dX10_stableOnes_1 ?_
  refine mf_aload_n dX10_stableOnes_4 rfl 0 rfl ?_
  refine mf_getR fl_X10_10 rfl rfl dX10_stableOnes_5 ?_
  refine mf_callVv (stk := []) (wX8_freshen l _) cl_X10_143 rfl (by decide) rfl rfl rfl (Nat.le_of_ble_eq_true rfl) rfl rfl dX10_stableOnes_8 (fun us1 s1 => ?_)
  refine mf_aload_n dX10_stableOnes_11 rfl 0 rfl ?_
  refine mf_getR fl_X10_57 rfl rfl dX10_stableOnes_12 ?_
  refine mf_aload_n dX10_stableOnes_15 rfl 0 rfl ?_
  refine mf_getR fl_X10_10 rfl rfl dX10_stableOnes_16 ?_
  refine mf_aload_n dX10_stableOnes_19 rfl 0 rfl ?_
  refine mf_getR fl_X10_36 rfl rfl dX10_stableOnes_20 ?_
  refine mf_aload_n dX10_stableOnes_23 rfl 0 rfl ?_
  refine mf_getR fl_X10_43 rfl rfl dX10_stableOnes_24 ?_
  refine mf_callVi (stk := [.ref 9, .ref 1, .ref 31]) (wX8_version l _) cl_X10_332 rfl (by decide) rfl rfl rfl (Nat.le_of_ble_eq_true rfl) rfl rfl dX10_stableOnes_27 (fun x2 s3 => ?_)
  refine mf_callVv (stk := []) (wX4_freshen l _ _) cl_X10_335 rfl (by decide) rfl rfl rfl (Nat.le_of_ble_eq_true rfl) rfl rfl dX10_stableOnes_30 (fun us4 s4 => ?_)
  refine mf_aload_n dX10_stableOnes_33 rfl 0 rfl ?_
  refine mf_getR fl_X10_57 rfl rfl dX10_stableOnes_34 ?_
  refine mf_callVi (stk := []) (wX4_found l _) cl_X10_338 rfl (by decide) rfl rfl rfl (Nat.le_of_ble_eq_true rfl) rfl rfl dX10_stableOnes_37 (fun x5 s6 => ?_)
  exact mf_iret dX10_stableOnes_40
set_option maxRecDepth 100000 in
set_option maxHeartbeats 4000000 in
theorem wX3_known (l : Launch) (s : mx_G) : mf_M ei l yX3_known cX3_known 1 (some .int) 0 [.ref 3] s (fX3_known  s) := by
  refine mf_intro rfl (Nat.le_of_ble_eq_true rfl) rfl rfl ?_
  refine mf_sub (loc' := [(0, .ref 3)]) [0] rfl ?_
  unfold fX3_known
  refine mf_aload_n dX3_known_0 rfl 0 rfl ?_
  refine mf_getI fl_X3_15 rfl rfl dX3_known_1 ?_
  exact mf_iret dX3_known_4
set_option maxRecDepth 100000 in
set_option maxHeartbeats 4000000 in
theorem wX10_count (l : Launch) (p1 : Int32) (s : mx_G) : mf_M ei l yX10_count cX10_count 2 (some .int) 15 [.ref 0, .int p1] s (fX10_count p1 s) := by
  refine mf_intro rfl (Nat.le_of_ble_eq_true rfl) rfl rfl ?_
  refine mf_sub (loc' := [(0, .ref 0), (1, .int p1)]) [0, 1] rfl ?_
  unfold fX10_count
  refine mf_iload_n dX10_count_0 rfl 1 rfl ?_
  refine mf_if (fun c0 => mf_tabIn (off := 47) 48 dX10_count_1 c0 (by decide) (by decide) (by decide) (by decide) ?_) (fun c0 => ?_)
  · refine mf_aload_n dX10_count_48 rfl 0 rfl ?_
    refine mf_getR fl_X10_10 rfl rfl dX10_count_49 ?_
    refine mf_callVi (stk := []) (wX9_size l _) cl_X10_135 rfl (by decide) rfl rfl rfl (Nat.le_of_ble_eq_true rfl) rfl rfl dX10_count_52 (fun x1 s2 => ?_)
    exact mf_iret dX10_count_55
  refine mf_if (fun c1 => mf_tabIn (off := 55) 56 dX10_count_1 c1 (by decide) (by decide) (by decide) (by decide) ?_) (fun c1 => ?_)
  · refine mf_aload_n dX10_count_56 rfl 0 rfl ?_
    refine mf_getR fl_X10_10 rfl rfl dX10_count_57 ?_
    refine mf_iconst 0 dX10_count_60 (by decide) ?_
    refine mf_callVi (stk := []) (wX9_countLinks l _ _) cl_X10_169 rfl (by decide) rfl rfl rfl (Nat.le_of_ble_eq_true rfl) rfl rfl dX10_count_61 (fun x3 s4 => ?_)
    exact mf_iret dX10_count_64
  refine mf_if (fun c2 => mf_tabIn (off := 64) 65 dX10_count_1 c2 (by decide) (by decide) (by decide) (by decide) ?_) (fun c2 => ?_)
  · refine mf_aload_n dX10_count_65 rfl 0 rfl ?_
    refine mf_getR fl_X10_10 rfl rfl dX10_count_66 ?_
    refine mf_iconst 1 dX10_count_69 (by decide) ?_
    refine mf_callVi (stk := []) (wX9_countLinks l _ _) cl_X10_169 rfl (by decide) rfl rfl rfl (Nat.le_of_ble_eq_true rfl) rfl rfl dX10_count_70 (fun x5 s6 => ?_)
    exact mf_iret dX10_count_73
  refine mf_if (fun c3 => mf_tabIn (off := 73) 74 dX10_count_1 c3 (by decide) (by decide) (by decide) (by decide) ?_) (fun c3 => ?_)
  · refine mf_aload_n dX10_count_74 rfl 0 rfl ?_
    refine mf_getR fl_X10_10 rfl rfl dX10_count_75 ?_
    refine mf_callVi (stk := []) (wX9_choosers l _) cl_X10_173 rfl (by decide) rfl rfl rfl (Nat.le_of_ble_eq_true rfl) rfl rfl dX10_count_78 (fun x7 s8 => ?_)
    exact mf_iret dX10_count_81
  refine mf_if (fun c4 => mf_tabIn (off := 81) 82 dX10_count_1 c4 (by decide) (by decide) (by decide) (by decide) ?_) (fun c4 => ?_)
  · refine mf_aload_n dX10_count_82 rfl 0 rfl ?_
    refine mf_callVi (stk := []) (wX10_discontent l _) cl_X10_176 rfl (by decide) rfl rfl rfl (Nat.le_of_ble_eq_true rfl) rfl rfl dX10_count_83 (fun x9 s10 => ?_)
    exact mf_iret dX10_count_86
  refine mf_if (fun c5 => mf_tabIn (off := 86) 87 dX10_count_1 c5 (by decide) (by decide) (by decide) (by decide) ?_) (fun c5 => ?_)
  · refine mf_aload_n dX10_count_87 rfl 0 rfl ?_
    refine mf_getR fl_X10_43 rfl rfl dX10_count_88 ?_
    refine mf_aload_n dX10_count_91 rfl 0 rfl ?_
    refine mf_getR fl_X10_10 rfl rfl dX10_count_92 ?_
    refine mf_callVv (stk := []) (wX8_freshen l _) cl_X10_143 rfl (by decide) rfl rfl rfl (Nat.le_of_ble_eq_true rfl) rfl rfl dX10_count_95 (fun us11 s11 => ?_)
    refine mf_aload_n dX10_count_98 rfl 0 rfl ?_
    refine mf_getR fl_X10_43 rfl rfl dX10_count_99 ?_
    refine mf_callVi (stk := []) (wX8_countAll l _) cl_X10_179 rfl (by decide) rfl rfl rfl (Nat.le_of_ble_eq_true rfl) rfl rfl dX10_count_102 (fun x12 s13 => ?_)
    exact mf_iret dX10_count_105
  refine mf_if (fun c6 => mf_tabIn (off := 105) 106 dX10_count_1 c6 (by decide) (by decide) (by decide) (by decide) ?_) (fun c6 => ?_)
  · refine mf_aload_n dX10_count_106 rfl 0 rfl ?_
    refine mf_callVi (stk := []) (wX10_stableOnes l _) cl_X10_182 rfl (by decide) rfl rfl rfl (Nat.le_of_ble_eq_true rfl) rfl rfl dX10_count_107 (fun x14 s15 => ?_)
    exact mf_iret dX10_count_110
  refine mf_if (fun c7 => mf_tabIn (off := 110) 111 dX10_count_1 c7 (by decide) (by decide) (by decide) (by decide) ?_) (fun c7 => ?_)
  · refine mf_aload_n dX10_count_111 rfl 0 rfl ?_
    refine mf_getR fl_X10_19 rfl rfl dX10_count_112 ?_
    refine mf_callVi (stk := []) (wX3_known l _) cl_X10_185 rfl (by decide) rfl rfl rfl (Nat.le_of_ble_eq_true rfl) rfl rfl dX10_count_115 (fun x16 s17 => ?_)
    exact mf_iret dX10_count_118
  refine mf_tabOut 119 dX10_count_1 (fun j hj => by rcases (show j = 0 ∨ j = 1 ∨ j = 2 ∨ j = 3 ∨ j = 4 ∨ j = 5 ∨ j = 6 ∨ j = 7 by omega) with rfl | rfl | rfl | rfl | rfl | rfl | rfl | rfl <;> assumption) (by decide) ?_
  refine mf_iconst (-1) dX10_count_119 (by decide) ?_
  exact mf_iret dX10_count_120
set_option maxRecDepth 100000 in
set_option maxHeartbeats 4000000 in
theorem wX7_append (l : Launch) (p1 : Int32) (s : mx_G) : mf_M ei l yX7_append cX7_append 2 (some .int) 0 [.ref 36, .int p1] s (fX7_append p1 s) := by
  refine mf_intro rfl (Nat.le_of_ble_eq_true rfl) rfl rfl ?_
  refine mf_sub (loc' := [(0, .ref 36), (1, .int p1)]) [0, 1] rfl ?_
  unfold fX7_append
  refine mf_aload_n dX7_append_0 rfl 0 rfl ?_
  refine mf_getI fl_X7_15 rfl rfl dX7_append_1 ?_
  refine mf_bipush 80 dX7_append_4 (by decide) ?_
  refine mf_icmp_lt 12 dX7_append_6 (by decide) ?_ ?_
  · refine mf_aload_n dX7_append_12 rfl 0 rfl ?_
    refine mf_getR fl_X7_11 rfl rfl dX7_append_13 ?_
    refine mf_aload_n dX7_append_16 rfl 0 rfl ?_
    refine mf_getI fl_X7_15 rfl rfl dX7_append_17 ?_
    refine mf_iload_n dX7_append_20 rfl 1 rfl ?_
    refine mf_iast rfl dX7_append_21 (fun s1 => ?_)
    refine mf_aload_n dX7_append_22 rfl 0 rfl ?_
    refine mf_dup rfl dX7_append_23 ?_
    refine mf_getI fl_X7_15 rfl rfl dX7_append_24 ?_
    refine mf_iconst 1 dX7_append_27 (by decide) ?_
    refine mf_iadd dX7_append_28 ?_
    refine mf_putI fl_X7_15 rfl rfl dX7_append_29 (fun s2 => ?_)
    refine mf_aload_n dX7_append_32 rfl 0 rfl ?_
    refine mf_getI fl_X7_15 rfl rfl dX7_append_33 ?_
    exact mf_iret dX7_append_36
  · refine mf_bipush (-3) dX7_append_9 (by decide) ?_
    exact mf_iret dX7_append_11
set_option maxRecDepth 100000 in
set_option maxHeartbeats 4000000 in
theorem wX10_type (l : Launch) (p1 : Int32) (s : mx_G) : mf_M ei l yX10_type cX10_type 2 (some .int) 1 [.ref 0, .int p1] s (fX10_type p1 s) := by
  refine mf_intro rfl (Nat.le_of_ble_eq_true rfl) rfl rfl ?_
  refine mf_sub (loc' := [(0, .ref 0), (1, .int p1)]) [0, 1] rfl ?_
  unfold fX10_type
  refine mf_iload_n dX10_type_0 rfl 1 rfl ?_
  refine mf_bipush 32 dX10_type_1 (by decide) ?_
  refine mf_icmp_lt 12 dX10_type_3 (by decide) ?_ ?_
  · refine mf_iconst (-1) dX10_type_12 (by decide) ?_
    exact mf_iret dX10_type_13
  · refine mf_iload_n dX10_type_6 rfl 1 rfl ?_
    refine mf_bipush 126 dX10_type_7 (by decide) ?_
    refine mf_icmp_le 14 dX10_type_9 (by decide) ?_ ?_
    · refine mf_aload_n dX10_type_14 rfl 0 rfl ?_
      refine mf_getR fl_X10_71 rfl rfl dX10_type_15 ?_
      refine mf_iload_n dX10_type_18 rfl 1 rfl ?_
      refine mf_callVi (stk := []) (wX7_append l _ _) cl_X10_188 rfl (by decide) rfl rfl rfl (Nat.le_of_ble_eq_true rfl) rfl rfl dX10_type_19 (fun x1 s2 => ?_)
      exact mf_iret dX10_type_22
    · refine mf_iconst (-1) dX10_type_12 (by decide) ?_
      exact mf_iret dX10_type_13
set_option maxRecDepth 100000 in
set_option maxHeartbeats 4000000 in
theorem wlJA_fillI_1_5 (l : Launch) (a1 : Int32) (a3 : Int32)   : ∀ (n : Nat) (a2 : Int32) (s0 : mx_G), mf_X ev l "java/util/Arrays" cJA_fillI 4 none "fill" 0 (lJA_fillI_1_5 a1 a3  n a2 s0) 5 [(0, .ref 38), (1, .int a1), (2, .int a2), (3, .int a3)] [] s0 := by
  intro n
  induction n with
  | zero => intro a2 s0; exact mf_none
  | succ n ih5 =>
    intro a2 s0
    rw [lJA_fillI_1_5]
    refine mf_iload_n dJA_fillI_5 rfl 2 rfl ?_
    refine mf_iload_n dJA_fillI_6 rfl 3 rfl ?_
    refine mf_icmp_ge 20 dJA_fillI_7 (by decide) ?_ ?_
    · exact mf_vret dJA_fillI_20
    · refine mf_aload_n dJA_fillI_10 rfl 0 rfl ?_
      refine mf_iload_n dJA_fillI_11 rfl 2 rfl ?_
      refine mf_iload_n dJA_fillI_12 rfl 1 rfl ?_
      refine mf_iast rfl dJA_fillI_13 (fun s1 => ?_)
      refine mf_iinc 1 [(2, .int (a2 + 1)), (0, .ref 38), (1, .int a1), (3, .int a3)] dJA_fillI_14 2 rfl (by decide) (by decide) rfl ?_
      refine mf_goto 5 dJA_fillI_17 (by decide) ?_
      exact mf_sub [1, 2, 0, 3] rfl (ih5 _ _)
set_option maxRecDepth 100000 in
set_option maxHeartbeats 4000000 in
theorem wJA_fillI_1 (l : Launch) (p1 : Int32) (s : mx_G) : mf_M ev l yJA_fillI cJA_fillI 4 none 0 [.ref 38, .int p1] s (fJA_fillI_1 p1 s) := by
  refine mf_intro rfl (Nat.le_of_ble_eq_true rfl) rfl rfl ?_
  refine mf_sub (loc' := [(0, .ref 38), (1, .int p1)]) [0, 1] rfl ?_
  unfold fJA_fillI_1
  refine mf_iconst 0 dJA_fillI_0 (by decide) ?_
  refine mf_istore_n [(2, .int 0), (0, .ref 38), (1, .int p1)] dJA_fillI_1 rfl (by decide) rfl ?_
  refine mf_aload_n dJA_fillI_2 rfl 1 rfl ?_
  refine mf_aleni 36 rfl (by decide) dJA_fillI_3 ?_
  refine mf_istore_n [(3, .int 36), (2, .int 0), (0, .ref 38), (1, .int p1)] dJA_fillI_4 rfl (by decide) rfl ?_
  exact mf_sub [2, 3, 1, 0] rfl (wlJA_fillI_1_5 l _ _ FU _ _)
set_option maxRecDepth 100000 in
set_option maxHeartbeats 4000000 in
theorem wX7_acceptsFirst (l : Launch) (p1 : Int32) (p2 : Int32) (s : mx_G) : mf_M ei l yX7_acceptsFirst cX7_acceptsFirst 3 (some .boolean) 0 [.ref 36, .int p1, .int p2] s (fX7_acceptsFirst p1 p2 s) := by
  refine mf_intro rfl (Nat.le_of_ble_eq_true rfl) rfl rfl ?_
  refine mf_sub (loc' := [(0, .ref 36), (1, .int p1), (2, .int p2)]) [0, 1, 2] rfl ?_
  unfold fX7_acceptsFirst
  refine mf_iload_n dX7_acceptsFirst_0 rfl 1 rfl ?_
  refine mf_if_lt 9 dX7_acceptsFirst_1 (by decide) ?_ ?_
  · refine mf_iconst 0 dX7_acceptsFirst_9 (by decide) ?_
    exact mf_zret (by decide) dX7_acceptsFirst_10
  · refine mf_iload_n dX7_acceptsFirst_4 rfl 1 rfl ?_
    refine mf_iload_n dX7_acceptsFirst_5 rfl 2 rfl ?_
    refine mf_icmp_lt 11 dX7_acceptsFirst_6 (by decide) ?_ ?_
    · refine mf_aload_n dX7_acceptsFirst_11 rfl 0 rfl ?_
      refine mf_iload_n dX7_acceptsFirst_12 rfl 1 rfl ?_
      refine mf_putI fl_X7_22 rfl rfl dX7_acceptsFirst_13 (fun s1 => ?_)
      refine mf_aload_n dX7_acceptsFirst_16 rfl 0 rfl ?_
      refine mf_iconst 2 dX7_acceptsFirst_17 (by decide) ?_
      refine mf_putI fl_X7_19 rfl rfl dX7_acceptsFirst_18 (fun s2 => ?_)
      refine mf_iconst 1 dX7_acceptsFirst_21 (by decide) ?_
      exact mf_zret (by decide) dX7_acceptsFirst_22
    · refine mf_iconst 0 dX7_acceptsFirst_9 (by decide) ?_
      exact mf_zret (by decide) dX7_acceptsFirst_10
set_option maxRecDepth 100000 in
set_option maxHeartbeats 4000000 in
theorem wX7_acceptsSign (l : Launch) (p1 : Int32) (s : mx_G) : mf_M ei l yX7_acceptsSign cX7_acceptsSign 2 (some .boolean) 0 [.ref 36, .int p1] s (fX7_acceptsSign p1 s) := by
  refine mf_intro rfl (Nat.le_of_ble_eq_true rfl) rfl rfl ?_
  refine mf_sub (loc' := [(0, .ref 36), (1, .int p1)]) [0, 1] rfl ?_
  unfold fX7_acceptsSign
  refine mf_aload_n dX7_acceptsSign_0 rfl 0 rfl ?_
  refine mf_iload_n dX7_acceptsSign_1 rfl 1 rfl ?_
  refine mf_bipush 62 dX7_acceptsSign_2 (by decide) ?_
  refine mf_join (fun (J : Int32 → mx_G → Option (Int32 × mx_G)) => ∀ (q0_32 : Int32) (s_32 : mx_G), mf_X ei l RX7 cX7_acceptsSign 2 (some .boolean) "acceptsSign" 0 (J q0_32 s_32) 32 [(0, .ref 36)] [.int q0_32, .ref 36] s_32) ?_ (fun J32 hJ32 => ?_)
  · intro q0_32 s_32
    refine mf_putI fl_X7_28 rfl rfl dX7_acceptsSign_32 (fun s1 => ?_)
    refine mf_aload_n dX7_acceptsSign_35 rfl 0 rfl ?_
    refine mf_iconst 3 dX7_acceptsSign_36 (by decide) ?_
    refine mf_putI fl_X7_19 rfl rfl dX7_acceptsSign_37 (fun s2 => ?_)
    refine mf_aload_n dX7_acceptsSign_40 rfl 0 rfl ?_
    refine mf_getI fl_X7_28 rfl rfl dX7_acceptsSign_41 ?_
    refine mf_if_eq 51 dX7_acceptsSign_44 (by decide) ?_ ?_
    · refine mf_iconst 0 dX7_acceptsSign_51 (by decide) ?_
      exact mf_zret (by decide) dX7_acceptsSign_52
    · refine mf_iconst 1 dX7_acceptsSign_47 (by decide) ?_
      refine mf_goto 52 dX7_acceptsSign_48 (by decide) ?_
      exact mf_zret (by decide) dX7_acceptsSign_52
  refine mf_icmp_ne 11 dX7_acceptsSign_4 (by decide) ?_ ?_
  · refine mf_iconst 1 dX7_acceptsSign_7 (by decide) ?_
    refine mf_goto 32 dX7_acceptsSign_8 (by decide) ?_
    exact mf_sub [0] rfl (hJ32 _ _)
  · refine mf_iload_n dX7_acceptsSign_11 rfl 1 rfl ?_
    refine mf_bipush 45 dX7_acceptsSign_12 (by decide) ?_
    refine mf_icmp_ne 21 dX7_acceptsSign_14 (by decide) ?_ ?_
    · refine mf_iconst 2 dX7_acceptsSign_17 (by decide) ?_
      refine mf_goto 32 dX7_acceptsSign_18 (by decide) ?_
      exact mf_sub [0] rfl (hJ32 _ _)
    · refine mf_iload_n dX7_acceptsSign_21 rfl 1 rfl ?_
      refine mf_bipush 60 dX7_acceptsSign_22 (by decide) ?_
      refine mf_icmp_ne 31 dX7_acceptsSign_24 (by decide) ?_ ?_
      · refine mf_iconst 3 dX7_acceptsSign_27 (by decide) ?_
        refine mf_goto 32 dX7_acceptsSign_28 (by decide) ?_
        exact mf_sub [0] rfl (hJ32 _ _)
      · refine mf_iconst 0 dX7_acceptsSign_31 (by decide) ?_
        exact mf_sub [0] rfl (hJ32 _ _)
set_option maxRecDepth 100000 in
set_option maxHeartbeats 4000000 in
theorem wX7_acceptsSecond (l : Launch) (p1 : Int32) (p2 : Int32) (s : mx_G) : mf_M ei l yX7_acceptsSecond cX7_acceptsSecond 3 (some .boolean) 0 [.ref 36, .int p1, .int p2] s (fX7_acceptsSecond p1 p2 s) := by
  refine mf_intro rfl (Nat.le_of_ble_eq_true rfl) rfl rfl ?_
  refine mf_sub (loc' := [(0, .ref 36), (1, .int p1), (2, .int p2)]) [0, 1, 2] rfl ?_
  unfold fX7_acceptsSecond
  refine mf_iload_n dX7_acceptsSecond_0 rfl 1 rfl ?_
  refine mf_if_lt 34 dX7_acceptsSecond_1 (by decide) ?_ ?_
  · refine mf_iconst 0 dX7_acceptsSecond_34 (by decide) ?_
    exact mf_zret (by decide) dX7_acceptsSecond_35
  · refine mf_iload_n dX7_acceptsSecond_4 rfl 1 rfl ?_
    refine mf_iload_n dX7_acceptsSecond_5 rfl 2 rfl ?_
    refine mf_icmp_ge 34 dX7_acceptsSecond_6 (by decide) ?_ ?_
    · refine mf_iconst 0 dX7_acceptsSecond_34 (by decide) ?_
      exact mf_zret (by decide) dX7_acceptsSecond_35
    · refine mf_iload_n dX7_acceptsSecond_9 rfl 1 rfl ?_
      refine mf_aload_n dX7_acceptsSecond_10 rfl 0 rfl ?_
      refine mf_getI fl_X7_22 rfl rfl dX7_acceptsSecond_11 ?_
      refine mf_icmp_eq 34 dX7_acceptsSecond_14 (by decide) ?_ ?_
      · refine mf_iconst 0 dX7_acceptsSecond_34 (by decide) ?_
        exact mf_zret (by decide) dX7_acceptsSecond_35
      · refine mf_aload_n dX7_acceptsSecond_17 rfl 0 rfl ?_
        refine mf_getR fl_X7_34 rfl rfl dX7_acceptsSecond_18 ?_
        refine mf_aload_n dX7_acceptsSecond_21 rfl 0 rfl ?_
        refine mf_getI fl_X7_22 rfl rfl dX7_acceptsSecond_22 ?_
        refine mf_bipush 6 dX7_acceptsSecond_25 (by decide) ?_
        refine mf_imul dX7_acceptsSecond_27 ?_
        refine mf_iload_n dX7_acceptsSecond_28 rfl 1 rfl ?_
        refine mf_iadd dX7_acceptsSecond_29 ?_
        refine mf_iald rfl dX7_acceptsSecond_30 ?_
        refine mf_if_eq 36 dX7_acceptsSecond_31 (by decide) ?_ ?_
        · refine mf_aload_n dX7_acceptsSecond_36 rfl 0 rfl ?_
          refine mf_iload_n dX7_acceptsSecond_37 rfl 1 rfl ?_
          refine mf_putI fl_X7_25 rfl rfl dX7_acceptsSecond_38 (fun s1 => ?_)
          refine mf_aload_n dX7_acceptsSecond_41 rfl 0 rfl ?_
          refine mf_getR fl_X7_34 rfl rfl dX7_acceptsSecond_42 ?_
          refine mf_aload_n dX7_acceptsSecond_45 rfl 0 rfl ?_
          refine mf_getI fl_X7_22 rfl rfl dX7_acceptsSecond_46 ?_
          refine mf_bipush 6 dX7_acceptsSecond_49 (by decide) ?_
          refine mf_imul dX7_acceptsSecond_51 ?_
          refine mf_aload_n dX7_acceptsSecond_52 rfl 0 rfl ?_
          refine mf_getI fl_X7_25 rfl rfl dX7_acceptsSecond_53 ?_
          refine mf_iadd dX7_acceptsSecond_56 ?_
          refine mf_aload_n dX7_acceptsSecond_57 rfl 0 rfl ?_
          refine mf_getI fl_X7_28 rfl rfl dX7_acceptsSecond_58 ?_
          refine mf_iast rfl dX7_acceptsSecond_61 (fun s2 => ?_)
          refine mf_aload_n dX7_acceptsSecond_62 rfl 0 rfl ?_
          refine mf_getR fl_X7_34 rfl rfl dX7_acceptsSecond_63 ?_
          refine mf_aload_n dX7_acceptsSecond_66 rfl 0 rfl ?_
          refine mf_getI fl_X7_25 rfl rfl dX7_acceptsSecond_67 ?_
          refine mf_bipush 6 dX7_acceptsSecond_70 (by decide) ?_
          refine mf_imul dX7_acceptsSecond_72 ?_
          refine mf_aload_n dX7_acceptsSecond_73 rfl 0 rfl ?_
          refine mf_getI fl_X7_22 rfl rfl dX7_acceptsSecond_74 ?_
          refine mf_iadd dX7_acceptsSecond_77 ?_
          refine mf_iconst 4 dX7_acceptsSecond_78 (by decide) ?_
          refine mf_aload_n dX7_acceptsSecond_79 rfl 0 rfl ?_
          refine mf_getI fl_X7_28 rfl rfl dX7_acceptsSecond_80 ?_
          refine mf_isub dX7_acceptsSecond_83 ?_
          refine mf_iast rfl dX7_acceptsSecond_84 (fun s3 => ?_)
          refine mf_aload_n dX7_acceptsSecond_85 rfl 0 rfl ?_
          refine mf_getR fl_X7_37 rfl rfl dX7_acceptsSecond_86 ?_
          refine mf_aload_n dX7_acceptsSecond_89 rfl 0 rfl ?_
          refine mf_getI fl_X7_22 rfl rfl dX7_acceptsSecond_90 ?_
          refine mf_bipush 6 dX7_acceptsSecond_93 (by decide) ?_
          refine mf_imul dX7_acceptsSecond_95 ?_
          refine mf_aload_n dX7_acceptsSecond_96 rfl 0 rfl ?_
          refine mf_getI fl_X7_25 rfl rfl dX7_acceptsSecond_97 ?_
          refine mf_iadd dX7_acceptsSecond_100 ?_
          refine mf_iconst 0 dX7_acceptsSecond_101 (by decide) ?_
          refine mf_zast rfl dX7_acceptsSecond_102 (fun s4 => ?_)
          refine mf_aload_n dX7_acceptsSecond_103 rfl 0 rfl ?_
          refine mf_getR fl_X7_37 rfl rfl dX7_acceptsSecond_104 ?_
          refine mf_aload_n dX7_acceptsSecond_107 rfl 0 rfl ?_
          refine mf_getI fl_X7_25 rfl rfl dX7_acceptsSecond_108 ?_
          refine mf_bipush 6 dX7_acceptsSecond_111 (by decide) ?_
          refine mf_imul dX7_acceptsSecond_113 ?_
          refine mf_aload_n dX7_acceptsSecond_114 rfl 0 rfl ?_
          refine mf_getI fl_X7_22 rfl rfl dX7_acceptsSecond_115 ?_
          refine mf_iadd dX7_acceptsSecond_118 ?_
          refine mf_iconst 0 dX7_acceptsSecond_119 (by decide) ?_
          refine mf_zast rfl dX7_acceptsSecond_120 (fun s5 => ?_)
          refine mf_aload_n dX7_acceptsSecond_121 rfl 0 rfl ?_
          refine mf_dup rfl dX7_acceptsSecond_122 ?_
          refine mf_getI fl_X7_31 rfl rfl dX7_acceptsSecond_123 ?_
          refine mf_iconst 1 dX7_acceptsSecond_126 (by decide) ?_
          refine mf_iadd dX7_acceptsSecond_127 ?_
          refine mf_putI fl_X7_31 rfl rfl dX7_acceptsSecond_128 (fun s6 => ?_)
          refine mf_aload_n dX7_acceptsSecond_131 rfl 0 rfl ?_
          refine mf_iconst 4 dX7_acceptsSecond_132 (by decide) ?_
          refine mf_putI fl_X7_19 rfl rfl dX7_acceptsSecond_133 (fun s7 => ?_)
          refine mf_iconst 1 dX7_acceptsSecond_136 (by decide) ?_
          exact mf_zret (by decide) dX7_acceptsSecond_137
        · refine mf_iconst 0 dX7_acceptsSecond_34 (by decide) ?_
          exact mf_zret (by decide) dX7_acceptsSecond_35
set_option maxRecDepth 100000 in
set_option maxHeartbeats 4000000 in
theorem wX7_acceptsBehind (l : Launch) (p1 : Int32) (s : mx_G) : mf_M ei l yX7_acceptsBehind cX7_acceptsBehind 2 (some .boolean) 0 [.ref 36, .int p1] s (fX7_acceptsBehind p1 s) := by
  refine mf_intro rfl (Nat.le_of_ble_eq_true rfl) rfl rfl ?_
  refine mf_sub (loc' := [(0, .ref 36), (1, .int p1)]) [0, 1] rfl ?_
  unfold fX7_acceptsBehind
  refine mf_iload_n dX7_acceptsBehind_0 rfl 1 rfl ?_
  refine mf_bipush 44 dX7_acceptsBehind_1 (by decide) ?_
  refine mf_icmp_ne 13 dX7_acceptsBehind_3 (by decide) ?_ ?_
  · refine mf_aload_n dX7_acceptsBehind_6 rfl 0 rfl ?_
    refine mf_iconst 1 dX7_acceptsBehind_7 (by decide) ?_
    refine mf_putI fl_X7_19 rfl rfl dX7_acceptsBehind_8 (fun s4 => ?_)
    refine mf_iconst 1 dX7_acceptsBehind_11 (by decide) ?_
    exact mf_zret (by decide) dX7_acceptsBehind_12
  · refine mf_iload_n dX7_acceptsBehind_13 rfl 1 rfl ?_
    refine mf_bipush 33 dX7_acceptsBehind_14 (by decide) ?_
    refine mf_icmp_ne 27 dX7_acceptsBehind_16 (by decide) ?_ ?_
    · refine mf_aload_n dX7_acceptsBehind_19 rfl 0 rfl ?_
      refine mf_getI fl_X7_19 rfl rfl dX7_acceptsBehind_20 ?_
      refine mf_iconst 5 dX7_acceptsBehind_23 (by decide) ?_
      refine mf_icmp_ne 29 dX7_acceptsBehind_24 (by decide) ?_ ?_
      · refine mf_iconst 0 dX7_acceptsBehind_27 (by decide) ?_
        exact mf_zret (by decide) dX7_acceptsBehind_28
      · refine mf_aload_n dX7_acceptsBehind_29 rfl 0 rfl ?_
        refine mf_getR fl_X7_37 rfl rfl dX7_acceptsBehind_30 ?_
        refine mf_aload_n dX7_acceptsBehind_33 rfl 0 rfl ?_
        refine mf_getI fl_X7_22 rfl rfl dX7_acceptsBehind_34 ?_
        refine mf_bipush 6 dX7_acceptsBehind_37 (by decide) ?_
        refine mf_imul dX7_acceptsBehind_39 ?_
        refine mf_aload_n dX7_acceptsBehind_40 rfl 0 rfl ?_
        refine mf_getI fl_X7_25 rfl rfl dX7_acceptsBehind_41 ?_
        refine mf_iadd dX7_acceptsBehind_44 ?_
        refine mf_iconst 1 dX7_acceptsBehind_45 (by decide) ?_
        refine mf_zast rfl dX7_acceptsBehind_46 (fun s1 => ?_)
        refine mf_aload_n dX7_acceptsBehind_47 rfl 0 rfl ?_
        refine mf_getR fl_X7_37 rfl rfl dX7_acceptsBehind_48 ?_
        refine mf_aload_n dX7_acceptsBehind_51 rfl 0 rfl ?_
        refine mf_getI fl_X7_25 rfl rfl dX7_acceptsBehind_52 ?_
        refine mf_bipush 6 dX7_acceptsBehind_55 (by decide) ?_
        refine mf_imul dX7_acceptsBehind_57 ?_
        refine mf_aload_n dX7_acceptsBehind_58 rfl 0 rfl ?_
        refine mf_getI fl_X7_22 rfl rfl dX7_acceptsBehind_59 ?_
        refine mf_iadd dX7_acceptsBehind_62 ?_
        refine mf_iconst 1 dX7_acceptsBehind_63 (by decide) ?_
        refine mf_zast rfl dX7_acceptsBehind_64 (fun s2 => ?_)
        refine mf_aload_n dX7_acceptsBehind_65 rfl 0 rfl ?_
        refine mf_iconst 5 dX7_acceptsBehind_66 (by decide) ?_
        refine mf_putI fl_X7_19 rfl rfl dX7_acceptsBehind_67 (fun s3 => ?_)
        refine mf_iconst 1 dX7_acceptsBehind_70 (by decide) ?_
        exact mf_zret (by decide) dX7_acceptsBehind_71
    · refine mf_iconst 0 dX7_acceptsBehind_27 (by decide) ?_
      exact mf_zret (by decide) dX7_acceptsBehind_28
set_option maxRecDepth 100000 in
set_option maxHeartbeats 4000000 in
theorem wX7_accepts (l : Launch) (p1 : Int32) (p2 : Int32) (s : mx_G) : mf_M ei l yX7_accepts cX7_accepts 3 (some .boolean) 1 [.ref 36, .int p1, .int p2] s (fX7_accepts p1 p2 s) := by
  refine mf_intro rfl (Nat.le_of_ble_eq_true rfl) rfl rfl ?_
  refine mf_sub (loc' := [(0, .ref 36), (1, .int p1), (2, .int p2)]) [0, 1, 2] rfl ?_
  unfold fX7_accepts
  refine mf_aload_n dX7_accepts_0 rfl 0 rfl ?_
  refine mf_getI fl_X7_19 rfl rfl dX7_accepts_1 ?_
  refine mf_leti (fun x1 => ?_)
  refine mf_if (fun c0 => mf_tabIn (off := 32) 36 dX7_accepts_4 c0 (by decide) (by decide) (by decide) (by decide) ?_) (fun c0 => ?_)
  · refine mf_aload_n dX7_accepts_36 rfl 0 rfl ?_
    refine mf_iload_n dX7_accepts_37 rfl 1 rfl ?_
    refine mf_bipush 48 dX7_accepts_38 (by decide) ?_
    refine mf_isub dX7_accepts_40 ?_
    refine mf_iload_n dX7_accepts_41 rfl 2 rfl ?_
    refine mf_callVi (stk := []) (wX7_acceptsFirst l _ _ _) cl_X7_51 rfl (by decide) rfl rfl rfl (Nat.le_of_ble_eq_true rfl) rfl rfl dX7_accepts_42 (fun x2 s3 => ?_)
    exact mf_zretG dX7_accepts_45
  refine mf_if (fun c1 => mf_tabIn (off := 32) 36 dX7_accepts_4 c1 (by decide) (by decide) (by decide) (by decide) ?_) (fun c1 => ?_)
  · refine mf_aload_n dX7_accepts_36 rfl 0 rfl ?_
    refine mf_iload_n dX7_accepts_37 rfl 1 rfl ?_
    refine mf_bipush 48 dX7_accepts_38 (by decide) ?_
    refine mf_isub dX7_accepts_40 ?_
    refine mf_iload_n dX7_accepts_41 rfl 2 rfl ?_
    refine mf_callVi (stk := []) (wX7_acceptsFirst l _ _ _) cl_X7_51 rfl (by decide) rfl rfl rfl (Nat.le_of_ble_eq_true rfl) rfl rfl dX7_accepts_42 (fun x4 s5 => ?_)
    exact mf_zretG dX7_accepts_45
  refine mf_if (fun c2 => mf_tabIn (off := 42) 46 dX7_accepts_4 c2 (by decide) (by decide) (by decide) (by decide) ?_) (fun c2 => ?_)
  · refine mf_aload_n dX7_accepts_46 rfl 0 rfl ?_
    refine mf_iload_n dX7_accepts_47 rfl 1 rfl ?_
    refine mf_callVi (stk := []) (wX7_acceptsSign l _ _) cl_X7_54 rfl (by decide) rfl rfl rfl (Nat.le_of_ble_eq_true rfl) rfl rfl dX7_accepts_48 (fun x6 s7 => ?_)
    exact mf_zretG dX7_accepts_51
  refine mf_if (fun c3 => mf_tabIn (off := 48) 52 dX7_accepts_4 c3 (by decide) (by decide) (by decide) (by decide) ?_) (fun c3 => ?_)
  · refine mf_aload_n dX7_accepts_52 rfl 0 rfl ?_
    refine mf_iload_n dX7_accepts_53 rfl 1 rfl ?_
    refine mf_bipush 48 dX7_accepts_54 (by decide) ?_
    refine mf_isub dX7_accepts_56 ?_
    refine mf_iload_n dX7_accepts_57 rfl 2 rfl ?_
    refine mf_callVi (stk := []) (wX7_acceptsSecond l _ _ _) cl_X7_58 rfl (by decide) rfl rfl rfl (Nat.le_of_ble_eq_true rfl) rfl rfl dX7_accepts_58 (fun x8 s9 => ?_)
    exact mf_zretG dX7_accepts_61
  refine mf_tabOut 62 dX7_accepts_4 (fun j hj => by rcases (show j = 0 ∨ j = 1 ∨ j = 2 ∨ j = 3 by omega) with rfl | rfl | rfl | rfl <;> assumption) (by decide) ?_
  refine mf_aload_n dX7_accepts_62 rfl 0 rfl ?_
  refine mf_iload_n dX7_accepts_63 rfl 1 rfl ?_
  refine mf_callVi (stk := []) (wX7_acceptsBehind l _ _) cl_X7_61 rfl (by decide) rfl rfl rfl (Nat.le_of_ble_eq_true rfl) rfl rfl dX7_accepts_64 (fun x10 s11 => ?_)
  exact mf_zretG dX7_accepts_67
set_option maxRecDepth 100000 in
set_option maxHeartbeats 4000000 in
theorem wlX7_parse_20 (l : Launch) (a1 : Int32) (k64 : mx_G → Option (Int32 × mx_G)) (hk64 : ∀ (sz : mx_G), mf_X ei l RX7 cX7_parse 3 (some .int) "parse" 2 (k64 sz) 64 [(0, .ref 36)] [] sz) : ∀ (n : Nat) (a2 : Int32) (s0 : mx_G), mf_X ei l RX7 cX7_parse 3 (some .int) "parse" 2 (lX7_parse_20 a1 k64 n a2 s0) 20 [(0, .ref 36), (1, .int a1), (2, .int a2)] [] s0 := by
  intro n
  induction n with
  | zero => intro a2 s0; exact mf_none
  | succ n ih20 =>
    intro a2 s0
    rw [lX7_parse_20]
    refine mf_iload_n dX7_parse_20 rfl 2 rfl ?_
    refine mf_aload_n dX7_parse_21 rfl 0 rfl ?_
    refine mf_getI fl_X7_15 rfl rfl dX7_parse_22 ?_
    refine mf_icmp_ge 64 dX7_parse_25 (by decide) ?_ ?_
    · exact mf_sub [0] rfl (hk64 _)
    · refine mf_aload_n dX7_parse_28 rfl 0 rfl ?_
      refine mf_getR fl_X7_11 rfl rfl dX7_parse_29 ?_
      refine mf_iload_n dX7_parse_32 rfl 2 rfl ?_
      refine mf_iald rfl dX7_parse_33 ?_
      refine mf_bipush 32 dX7_parse_34 (by decide) ?_
      refine mf_icmp_eq 58 dX7_parse_36 (by decide) ?_ ?_
      · refine mf_iinc 1 [(2, .int (a2 + 1)), (0, .ref 36), (1, .int a1)] dX7_parse_58 2 rfl (by decide) (by decide) rfl ?_
        refine mf_goto 20 dX7_parse_61 (by decide) ?_
        exact mf_sub [1, 2, 0] rfl (ih20 _ _)
      · refine mf_aload_n dX7_parse_39 rfl 0 rfl ?_
        refine mf_aload_n dX7_parse_40 rfl 0 rfl ?_
        refine mf_getR fl_X7_11 rfl rfl dX7_parse_41 ?_
        refine mf_iload_n dX7_parse_44 rfl 2 rfl ?_
        refine mf_iald rfl dX7_parse_45 ?_
        refine mf_iload_n dX7_parse_46 rfl 1 rfl ?_
        refine mf_callVi (stk := []) (wX7_accepts l _ _ _) cl_X7_47 rfl (by decide) rfl rfl rfl (Nat.le_of_ble_eq_true rfl) rfl rfl dX7_parse_47 (fun x4 s5 => ?_)
        refine mf_if_ne 58 dX7_parse_50 (by decide) ?_ ?_
        · refine mf_bipush (-20) dX7_parse_53 (by decide) ?_
          refine mf_iload_n dX7_parse_55 rfl 2 rfl ?_
          refine mf_isub dX7_parse_56 ?_
          exact mf_iret dX7_parse_57
        · refine mf_iinc 1 [(2, .int (a2 + 1)), (0, .ref 36), (1, .int a1)] dX7_parse_58 2 rfl (by decide) (by decide) rfl ?_
          refine mf_goto 20 dX7_parse_61 (by decide) ?_
          exact mf_sub [1, 2, 0] rfl (ih20 _ _)
set_option maxRecDepth 100000 in
set_option maxHeartbeats 4000000 in
theorem wX7_parse (l : Launch) (p1 : Int32) (s : mx_G) : mf_M ei l yX7_parse cX7_parse 3 (some .int) 2 [.ref 36, .int p1] s (fX7_parse p1 s) := by
  refine mf_intro rfl (Nat.le_of_ble_eq_true rfl) rfl rfl ?_
  refine mf_sub (loc' := [(0, .ref 36), (1, .int p1)]) [0, 1] rfl ?_
  unfold fX7_parse
  refine mf_aload_n dX7_parse_0 rfl 0 rfl ?_
  refine mf_iconst 0 dX7_parse_1 (by decide) ?_
  refine mf_putI fl_X7_19 rfl rfl dX7_parse_2 (fun s1 => ?_)
  refine mf_aload_n dX7_parse_5 rfl 0 rfl ?_
  refine mf_iconst 0 dX7_parse_6 (by decide) ?_
  refine mf_putI fl_X7_31 rfl rfl dX7_parse_7 (fun s2 => ?_)
  refine mf_aload_n dX7_parse_10 rfl 0 rfl ?_
  refine mf_getR fl_X7_34 rfl rfl dX7_parse_11 ?_
  refine mf_iconst 0 dX7_parse_14 (by decide) ?_
  refine mf_callSv (stk := []) (wJA_fillI_1 l _ _) cl_X7_41 rfl (by decide) rfl (Nat.le_of_ble_eq_true rfl) rfl rfl dX7_parse_15 (fun us3 s3 => ?_)
  refine mf_iconst 0 dX7_parse_18 (by decide) ?_
  refine mf_istore_n [(2, .int 0), (0, .ref 36), (1, .int p1)] dX7_parse_19 rfl (by decide) rfl ?_
  refine mf_sub [1, 2, 0] rfl (wlX7_parse_20 l _ _ (fun s6 => ?_) FU _ _)
  refine mf_aload_n dX7_parse_64 rfl 0 rfl ?_
  refine mf_getI fl_X7_19 rfl rfl dX7_parse_65 ?_
  refine mf_join (fun (J : Int32 → mx_G → Option (Int32 × mx_G)) => ∀ (q0_92 : Int32) (s_92 : mx_G), mf_X ei l RX7 cX7_parse 3 (some .int) "parse" 2 (J q0_92 s_92) 92 [(0, .ref 36)] [.int q0_92] s_92) ?_ (fun J92 hJ92 => ?_)
  · intro q0_92 s_92
    refine mf_istore_n [(2, .int q0_92), (0, .ref 36)] dX7_parse_92 rfl (by decide) rfl ?_
    refine mf_iload_n dX7_parse_93 rfl 0 rfl ?_
    refine mf_if_eq 104 dX7_parse_94 (by decide) ?_ ?_
    · refine mf_bipush (-20) dX7_parse_104 (by decide) ?_
      refine mf_aload_n dX7_parse_106 rfl 1 rfl ?_
      refine mf_getI fl_X7_15 rfl rfl dX7_parse_107 ?_
      refine mf_isub dX7_parse_110 ?_
      exact mf_iret dX7_parse_111
    · refine mf_aload_n dX7_parse_97 rfl 1 rfl ?_
      refine mf_getI fl_X7_31 rfl rfl dX7_parse_98 ?_
      refine mf_goto 111 dX7_parse_101 (by decide) ?_
      exact mf_iret dX7_parse_111
  refine mf_join (fun (J : mx_G → Option (Int32 × mx_G)) => ∀ (s_87 : mx_G), mf_X ei l RX7 cX7_parse 3 (some .int) "parse" 2 (J s_87) 87 [(0, .ref 36)] [] s_87) ?_ (fun J87 hJ87 => ?_)
  · intro s_87
    refine mf_iconst 1 dX7_parse_87 (by decide) ?_
    refine mf_goto 92 dX7_parse_88 (by decide) ?_
    exact mf_sub [0] rfl (hJ92 _ _)
  refine mf_if_eq 87 dX7_parse_68 (by decide) ?_ ?_
  · exact mf_sub [0] rfl (hJ87 _)
  · refine mf_aload_n dX7_parse_71 rfl 0 rfl ?_
    refine mf_getI fl_X7_19 rfl rfl dX7_parse_72 ?_
    refine mf_iconst 4 dX7_parse_75 (by decide) ?_
    refine mf_icmp_eq 87 dX7_parse_76 (by decide) ?_ ?_
    · exact mf_sub [0] rfl (hJ87 _)
    · refine mf_aload_n dX7_parse_79 rfl 0 rfl ?_
      refine mf_getI fl_X7_19 rfl rfl dX7_parse_80 ?_
      refine mf_iconst 5 dX7_parse_83 (by decide) ?_
      refine mf_icmp_ne 91 dX7_parse_84 (by decide) ?_ ?_
      · exact mf_sub [0] rfl (hJ87 _)
      · refine mf_iconst 0 dX7_parse_91 (by decide) ?_
        exact mf_sub [0] rfl (hJ92 _ _)
set_option maxRecDepth 100000 in
set_option maxHeartbeats 4000000 in
theorem wX7_empty (l : Launch) (s : mx_G) : mf_M ev l yX7_empty cX7_empty 1 none 0 [.ref 36] s (fX7_empty  s) := by
  refine mf_intro rfl (Nat.le_of_ble_eq_true rfl) rfl rfl ?_
  refine mf_sub (loc' := [(0, .ref 36)]) [0] rfl ?_
  unfold fX7_empty
  refine mf_aload_n dX7_empty_0 rfl 0 rfl ?_
  refine mf_iconst 0 dX7_empty_1 (by decide) ?_
  refine mf_putI fl_X7_15 rfl rfl dX7_empty_2 (fun s1 => ?_)
  exact mf_vret dX7_empty_5
set_option maxRecDepth 100000 in
set_option maxHeartbeats 4000000 in
theorem wJA_rangeCheck (l : Launch) (p0 : Int32) (p1 : Int32) (p2 : Int32) (s : mx_G) : mf_M ev l yJA_rangeCheck cJA_rangeCheck 3 none 0 [.int p0, .int p1, .int p2] s (fJA_rangeCheck p0 p1 p2 s) := by
  refine mf_intro rfl (Nat.le_of_ble_eq_true rfl) rfl rfl ?_
  refine mf_sub (loc' := [(0, .int p0), (1, .int p1), (2, .int p2)]) [0, 1, 2] rfl ?_
  unfold fJA_rangeCheck
  refine mf_iload_n dJA_rangeCheck_0 rfl 1 rfl ?_
  refine mf_iload_n dJA_rangeCheck_1 rfl 2 rfl ?_
  refine mf_icmp_le 46 dJA_rangeCheck_2 (by decide) ?_ ?_
  · refine mf_iload_n dJA_rangeCheck_46 rfl 1 rfl ?_
    refine mf_if_ge 59 dJA_rangeCheck_47 (by decide) ?_ ?_
    · refine mf_iload_n dJA_rangeCheck_59 rfl 2 rfl ?_
      refine mf_iload_n dJA_rangeCheck_60 rfl 0 rfl ?_
      refine mf_icmp_le 73 dJA_rangeCheck_61 (by decide) ?_ ?_
      · exact mf_vret dJA_rangeCheck_73
      · exact mf_none
    · exact mf_none
  · exact mf_none
set_option maxRecDepth 100000 in
set_option maxHeartbeats 4000000 in
theorem wlJA_fillIR_10 (l : Launch) (a2 : Int32) (a3 : Int32)   : ∀ (n : Nat) (a4 : Int32) (s0 : mx_G), mf_X ev l "java/util/Arrays" cJA_fillIR 5 none "fill" 1 (lJA_fillIR_10 a2 a3  n a4 s0) 10 [(0, .ref 2), (2, .int a2), (3, .int a3), (4, .int a4)] [] s0 := by
  intro n
  induction n with
  | zero => intro a4 s0; exact mf_none
  | succ n ih10 =>
    intro a4 s0
    rw [lJA_fillIR_10]
    refine mf_iload dJA_fillIR_10 3 rfl ?_
    refine mf_iload_n dJA_fillIR_12 rfl 1 rfl ?_
    refine mf_icmp_ge 27 dJA_fillIR_13 (by decide) ?_ ?_
    · exact mf_vret dJA_fillIR_27
    · refine mf_aload_n dJA_fillIR_16 rfl 0 rfl ?_
      refine mf_iload dJA_fillIR_17 3 rfl ?_
      refine mf_iload_n dJA_fillIR_19 rfl 2 rfl ?_
      refine mf_iast rfl dJA_fillIR_20 (fun s2 => ?_)
      refine mf_iinc 1 [(4, .int (a4 + 1)), (0, .ref 2), (2, .int a2), (3, .int a3)] dJA_fillIR_21 3 rfl (by decide) (by decide) rfl ?_
      refine mf_goto 10 dJA_fillIR_24 (by decide) ?_
      exact mf_sub [1, 2, 3, 0] rfl (ih10 _ _)
set_option maxRecDepth 100000 in
set_option maxHeartbeats 4000000 in
theorem wJA_fillIR (l : Launch) (p1 : Int32) (p2 : Int32) (p3 : Int32) (s : mx_G) : mf_M ev l yJA_fillIR cJA_fillIR 5 none 1 [.ref 2, .int p1, .int p2, .int p3] s (fJA_fillIR p1 p2 p3 s) := by
  refine mf_intro rfl (Nat.le_of_ble_eq_true rfl) rfl rfl ?_
  refine mf_sub (loc' := [(0, .ref 2), (1, .int p1), (2, .int p2), (3, .int p3)]) [0, 1, 2, 3] rfl ?_
  unfold fJA_fillIR
  refine mf_aload_n dJA_fillIR_0 rfl 0 rfl ?_
  refine mf_aleni 128 rfl (by decide) dJA_fillIR_1 ?_
  refine mf_iload_n dJA_fillIR_2 rfl 1 rfl ?_
  refine mf_iload_n dJA_fillIR_3 rfl 2 rfl ?_
  refine mf_callSv (stk := []) (wJA_rangeCheck l _ _ _ _) cl_JA_13 rfl (by decide) rfl (Nat.le_of_ble_eq_true rfl) rfl rfl dJA_fillIR_4 (fun us1 s1 => ?_)
  refine mf_iload_n dJA_fillIR_7 rfl 1 rfl ?_
  refine mf_istore [(4, .int p1), (0, .ref 2), (1, .int p1), (2, .int p2), (3, .int p3)] dJA_fillIR_8 (by decide) rfl ?_
  exact mf_sub [1, 3, 4, 0] rfl (wlJA_fillIR_10 l _ _ FU _ _)
set_option maxRecDepth 100000 in
set_option maxHeartbeats 4000000 in
theorem wX9_loseLinks (l : Launch) (s : mx_G) : mf_M ev l yX9_loseLinks cX9_loseLinks 1 none 2 [.ref 1] s (fX9_loseLinks  s) := by
  refine mf_intro rfl (Nat.le_of_ble_eq_true rfl) rfl rfl ?_
  refine mf_sub (loc' := [(0, .ref 1)]) [0] rfl ?_
  unfold fX9_loseLinks
  refine mf_aload_n dX9_loseLinks_0 rfl 0 rfl ?_
  refine mf_getR fl_X9_11 rfl rfl dX9_loseLinks_1 ?_
  refine mf_bipush 13 dX9_loseLinks_4 (by decide) ?_
  refine mf_bipush 85 dX9_loseLinks_6 (by decide) ?_
  refine mf_iconst 0 dX9_loseLinks_8 (by decide) ?_
  refine mf_callSv (stk := []) (wJA_fillIR l _ _ _ _) cl_X9_41 rfl (by decide) rfl (Nat.le_of_ble_eq_true rfl) rfl rfl dX9_loseLinks_9 (fun us1 s1 => ?_)
  exact mf_vret dX9_loseLinks_12
set_option maxRecDepth 100000 in
set_option maxHeartbeats 4000000 in
theorem wlX7_tellTo_16 (l : Launch) (a2 : Int32) (k79 : mx_G → Option (Unit × mx_G)) (hk79 : ∀ (sz : mx_G), mf_X ev l RX7 cX7_tellTo 4 none "tellTo" 3 (k79 sz) 79 [(0, .ref 36), (1, .ref 1), (2, .int a2)] [] sz) : ∀ (n : Nat) (a3 : Int32) (s0 : mx_G), mf_X ev l RX7 cX7_tellTo 4 none "tellTo" 3 (lX7_tellTo_16 a2 k79 n a3 s0) 16 [(0, .ref 36), (1, .ref 1), (2, .int a2), (3, .int a3)] [] s0 := by
  intro n
  induction n with
  | zero => intro a3 s0; exact mf_none
  | succ n ih16 =>
    intro a3 s0
    rw [lX7_tellTo_16]
    refine mf_iload_n dX7_tellTo_16 rfl 3 rfl ?_
    refine mf_bipush 6 dX7_tellTo_17 (by decide) ?_
    refine mf_icmp_ge 79 dX7_tellTo_19 (by decide) ?_ ?_
    · exact mf_sub [0, 1, 2] rfl (hk79 _)
    · refine mf_aload_n dX7_tellTo_22 rfl 0 rfl ?_
      refine mf_getR fl_X7_34 rfl rfl dX7_tellTo_23 ?_
      refine mf_iload_n dX7_tellTo_26 rfl 2 rfl ?_
      refine mf_bipush 6 dX7_tellTo_27 (by decide) ?_
      refine mf_imul dX7_tellTo_29 ?_
      refine mf_iload_n dX7_tellTo_30 rfl 3 rfl ?_
      refine mf_iadd dX7_tellTo_31 ?_
      refine mf_iald rfl dX7_tellTo_32 ?_
      refine mf_if_eq 73 dX7_tellTo_33 (by decide) ?_ ?_
      · refine mf_iinc 1 [(3, .int (a3 + 1)), (0, .ref 36), (1, .ref 1), (2, .int a2)] dX7_tellTo_73 3 rfl (by decide) (by decide) rfl ?_
        refine mf_goto 16 dX7_tellTo_76 (by decide) ?_
        exact mf_sub [1, 2, 3, 0] rfl (ih16 _ _)
      · refine mf_aload_n dX7_tellTo_36 rfl 1 rfl ?_
        refine mf_iload_n dX7_tellTo_37 rfl 2 rfl ?_
        refine mf_iload_n dX7_tellTo_38 rfl 3 rfl ?_
        refine mf_aload_n dX7_tellTo_39 rfl 0 rfl ?_
        refine mf_getR fl_X7_34 rfl rfl dX7_tellTo_40 ?_
        refine mf_iload_n dX7_tellTo_43 rfl 2 rfl ?_
        refine mf_bipush 6 dX7_tellTo_44 (by decide) ?_
        refine mf_imul dX7_tellTo_46 ?_
        refine mf_iload_n dX7_tellTo_47 rfl 3 rfl ?_
        refine mf_iadd dX7_tellTo_48 ?_
        refine mf_iald rfl dX7_tellTo_49 ?_
        refine mf_callVv (stk := []) (wX9_setLink l _ _ _ _) cl_X7_69 rfl (by decide) rfl rfl rfl (Nat.le_of_ble_eq_true rfl) rfl rfl dX7_tellTo_50 (fun us3 s3 => ?_)
        refine mf_aload_n dX7_tellTo_53 rfl 0 rfl ?_
        refine mf_getR fl_X7_37 rfl rfl dX7_tellTo_54 ?_
        refine mf_iload_n dX7_tellTo_57 rfl 2 rfl ?_
        refine mf_bipush 6 dX7_tellTo_58 (by decide) ?_
        refine mf_imul dX7_tellTo_60 ?_
        refine mf_iload_n dX7_tellTo_61 rfl 3 rfl ?_
        refine mf_iadd dX7_tellTo_62 ?_
        refine mf_zald rfl dX7_tellTo_63 ?_
        refine mf_if_eq 73 dX7_tellTo_64 (by decide) ?_ ?_
        · refine mf_iinc 1 [(3, .int (a3 + 1)), (0, .ref 36), (1, .ref 1), (2, .int a2)] dX7_tellTo_73 3 rfl (by decide) (by decide) rfl ?_
          refine mf_goto 16 dX7_tellTo_76 (by decide) ?_
          exact mf_sub [1, 2, 3, 0] rfl (ih16 _ _)
        · refine mf_aload_n dX7_tellTo_67 rfl 1 rfl ?_
          refine mf_iload_n dX7_tellTo_68 rfl 2 rfl ?_
          refine mf_iload_n dX7_tellTo_69 rfl 3 rfl ?_
          refine mf_callVv (stk := []) (wX9_turnCut l _ _ _) cl_X7_73 rfl (by decide) rfl rfl rfl (Nat.le_of_ble_eq_true rfl) rfl rfl dX7_tellTo_70 (fun us4 s4 => ?_)
          refine mf_iinc 1 [(3, .int (a3 + 1)), (0, .ref 36), (1, .ref 1), (2, .int a2)] dX7_tellTo_73 3 rfl (by decide) (by decide) rfl ?_
          refine mf_goto 16 dX7_tellTo_76 (by decide) ?_
          exact mf_sub [1, 2, 3, 0] rfl (ih16 _ _)
set_option maxRecDepth 100000 in
set_option maxHeartbeats 4000000 in
theorem wlX7_tellTo_6 (l : Launch)    : ∀ (n : Nat) (a2 : Int32) (s0 : mx_G), mf_X ev l RX7 cX7_tellTo 4 none "tellTo" 3 (lX7_tellTo_6   n a2 s0) 6 [(0, .ref 36), (1, .ref 1), (2, .int a2)] [] s0 := by
  intro n
  induction n with
  | zero => intro a2 s0; exact mf_none
  | succ n ih6 =>
    intro a2 s0
    rw [lX7_tellTo_6]
    refine mf_iload_n dX7_tellTo_6 rfl 2 rfl ?_
    refine mf_bipush 6 dX7_tellTo_7 (by decide) ?_
    refine mf_icmp_ge 85 dX7_tellTo_9 (by decide) ?_ ?_
    · exact mf_vret dX7_tellTo_85
    · refine mf_iload_n dX7_tellTo_12 rfl 2 rfl ?_
      refine mf_iconst 1 dX7_tellTo_13 (by decide) ?_
      refine mf_iadd dX7_tellTo_14 ?_
      refine mf_leti (fun x2 => ?_)
      refine mf_istore_n [(3, .int x2), (0, .ref 36), (1, .ref 1), (2, .int a2)] dX7_tellTo_15 rfl (by decide) rfl ?_
      refine mf_sub [1, 2, 3, 0] rfl (wlX7_tellTo_16 l _ _ (fun s5 => ?_) FU _ _)
      refine mf_iinc 1 [(2, .int (a2 + 1)), (0, .ref 36), (1, .ref 1)] dX7_tellTo_79 2 rfl (by decide) (by decide) rfl ?_
      refine mf_goto 6 dX7_tellTo_82 (by decide) ?_
      exact mf_sub [1, 2, 0] rfl (ih6 _ _)
set_option maxRecDepth 100000 in
set_option maxHeartbeats 4000000 in
theorem wX7_tellTo (l : Launch) (s : mx_G) : mf_M ev l yX7_tellTo cX7_tellTo 4 none 3 [.ref 36, .ref 1] s (fX7_tellTo  s) := by
  refine mf_intro rfl (Nat.le_of_ble_eq_true rfl) rfl rfl ?_
  refine mf_sub (loc' := [(0, .ref 36), (1, .ref 1)]) [0, 1] rfl ?_
  unfold fX7_tellTo
  refine mf_aload_n dX7_tellTo_0 rfl 1 rfl ?_
  refine mf_callVv (stk := []) (wX9_loseLinks l _) cl_X7_64 rfl (by decide) rfl rfl rfl (Nat.le_of_ble_eq_true rfl) rfl rfl dX7_tellTo_1 (fun us1 s1 => ?_)
  refine mf_iconst 0 dX7_tellTo_4 (by decide) ?_
  refine mf_istore_n [(2, .int 0), (0, .ref 36), (1, .ref 1)] dX7_tellTo_5 rfl (by decide) rfl ?_
  exact mf_sub [1, 2, 0] rfl (wlX7_tellTo_6 l FU _ _)
set_option maxRecDepth 100000 in
set_option maxHeartbeats 4000000 in
theorem wX10_read (l : Launch) (s : mx_G) : mf_M ei l yX10_read cX10_read 2 (some .int) 4 [.ref 0] s (fX10_read  s) := by
  refine mf_intro rfl (Nat.le_of_ble_eq_true rfl) rfl rfl ?_
  refine mf_sub (loc' := [(0, .ref 0)]) [0] rfl ?_
  unfold fX10_read
  refine mf_aload_n dX10_read_0 rfl 0 rfl ?_
  refine mf_getR fl_X10_71 rfl rfl dX10_read_1 ?_
  refine mf_aload_n dX10_read_4 rfl 0 rfl ?_
  refine mf_getR fl_X10_10 rfl rfl dX10_read_5 ?_
  refine mf_callVi (stk := [.ref 36]) (wX9_size l _) cl_X10_135 rfl (by decide) rfl rfl rfl (Nat.le_of_ble_eq_true rfl) rfl rfl dX10_read_8 (fun x1 s2 => ?_)
  refine mf_callVi (stk := []) (wX7_parse l _ _) cl_X10_191 rfl (by decide) rfl rfl rfl (Nat.le_of_ble_eq_true rfl) rfl rfl dX10_read_11 (fun x3 s4 => ?_)
  refine mf_istore_n [(1, .int x3), (0, .ref 0)] dX10_read_14 rfl (by decide) rfl ?_
  refine mf_iload_n dX10_read_15 rfl 0 rfl ?_
  refine mf_if_lt 41 dX10_read_16 (by decide) ?_ ?_
  · refine mf_aload_n dX10_read_41 rfl 1 rfl ?_
    refine mf_getR fl_X10_71 rfl rfl dX10_read_42 ?_
    refine mf_callVv (stk := []) (wX7_empty l _) cl_X10_197 rfl (by decide) rfl rfl rfl (Nat.le_of_ble_eq_true rfl) rfl rfl dX10_read_45 (fun us5 s5 => ?_)
    refine mf_iload_n dX10_read_48 rfl 0 rfl ?_
    exact mf_iret dX10_read_49
  · refine mf_aload_n dX10_read_19 rfl 1 rfl ?_
    refine mf_getR fl_X10_19 rfl rfl dX10_read_20 ?_
    refine mf_aload_n dX10_read_23 rfl 1 rfl ?_
    refine mf_getR fl_X10_10 rfl rfl dX10_read_24 ?_
    refine mf_callVv (stk := []) (wX3_keep l _) cl_X10_97 rfl (by decide) rfl rfl rfl (Nat.le_of_ble_eq_true rfl) rfl rfl dX10_read_27 (fun us6 s6 => ?_)
    refine mf_aload_n dX10_read_30 rfl 1 rfl ?_
    refine mf_getR fl_X10_71 rfl rfl dX10_read_31 ?_
    refine mf_aload_n dX10_read_34 rfl 1 rfl ?_
    refine mf_getR fl_X10_10 rfl rfl dX10_read_35 ?_
    refine mf_callVv (stk := []) (wX7_tellTo l _) cl_X10_194 rfl (by decide) rfl rfl rfl (Nat.le_of_ble_eq_true rfl) rfl rfl dX10_read_38 (fun us7 s7 => ?_)
    refine mf_aload_n dX10_read_41 rfl 1 rfl ?_
    refine mf_getR fl_X10_71 rfl rfl dX10_read_42 ?_
    refine mf_callVv (stk := []) (wX7_empty l _) cl_X10_197 rfl (by decide) rfl rfl rfl (Nat.le_of_ble_eq_true rfl) rfl rfl dX10_read_45 (fun us8 s8 => ?_)
    refine mf_iload_n dX10_read_48 rfl 0 rfl ?_
    exact mf_iret dX10_read_49
set_option maxRecDepth 100000 in
set_option maxHeartbeats 4000000 in
theorem wlX0_advance_10 (l : Launch) (a2 : Int32) (a3 : Int32) (k36 : mx_G → Option (Int32 × mx_G)) (hk36 : ∀ (sz : mx_G), mf_X ei l RX0 cX0_advance 5 (some .int) "advance" 3 (k36 sz) 36 [(0, .ref 9), (2, .int a2), (3, .int a3)] [] sz) : ∀ (n : Nat) (a4 : Int32) (s0 : mx_G), mf_X ei l RX0 cX0_advance 5 (some .int) "advance" 3 (lX0_advance_10 a2 a3 k36 n a4 s0) 10 [(0, .ref 9), (1, .ref 1), (2, .int a2), (3, .int a3), (4, .int a4)] [] s0 := by
  intro n
  induction n with
  | zero => intro a4 s0; exact mf_none
  | succ n ih10 =>
    intro a4 s0
    rw [lX0_advance_10]
    refine mf_iload dX0_advance_10 4 rfl ?_
    refine mf_iload_n dX0_advance_12 rfl 3 rfl ?_
    refine mf_icmp_ge 36 dX0_advance_13 (by decide) ?_ ?_
    · exact mf_sub [0, 2, 3] rfl (hk36 _)
    · refine mf_aload_n dX0_advance_16 rfl 0 rfl ?_
      refine mf_getR fl_X0_24 rfl rfl dX0_advance_17 ?_
      refine mf_iload dX0_advance_20 4 rfl ?_
      refine mf_aload_n dX0_advance_22 rfl 0 rfl ?_
      refine mf_aload_n dX0_advance_23 rfl 1 rfl ?_
      refine mf_iload dX0_advance_24 4 rfl ?_
      refine mf_callVi (stk := [.int a4, .ref 14]) (wX0_best l _ _) cl_X0_76 rfl (by decide) rfl rfl rfl (Nat.le_of_ble_eq_true rfl) rfl rfl dX0_advance_26 (fun x3 s4 => ?_)
      refine mf_iast rfl dX0_advance_29 (fun s5 => ?_)
      refine mf_iinc 1 [(4, .int (a4 + 1)), (0, .ref 9), (1, .ref 1), (2, .int a2), (3, .int a3)] dX0_advance_30 4 rfl (by decide) (by decide) rfl ?_
      refine mf_goto 10 dX0_advance_33 (by decide) ?_
      exact mf_sub [1, 2, 3, 4, 0] rfl (ih10 _ _)
set_option maxRecDepth 100000 in
set_option maxHeartbeats 4000000 in
theorem wlX0_advance_39 (l : Launch) (a3 : Int32)   : ∀ (n : Nat) (a2 : Int32) (a4 : Int32) (s0 : mx_G), mf_X ei l RX0 cX0_advance 5 (some .int) "advance" 3 (lX0_advance_39 a3  n a2 a4 s0) 39 [(0, .ref 9), (2, .int a2), (3, .int a3), (4, .int a4)] [] s0 := by
  intro n
  induction n with
  | zero => intro a2 a4 s0; exact mf_none
  | succ n ih39 =>
    intro a2 a4 s0
    rw [lX0_advance_39]
    refine mf_iload dX0_advance_39 3 rfl ?_
    refine mf_iload_n dX0_advance_41 rfl 2 rfl ?_
    refine mf_icmp_ge 84 dX0_advance_42 (by decide) ?_ ?_
    · refine mf_iload_n dX0_advance_84 rfl 1 rfl ?_
      exact mf_iret dX0_advance_85
    · refine mf_aload_n dX0_advance_45 rfl 0 rfl ?_
      refine mf_getR fl_X0_24 rfl rfl dX0_advance_46 ?_
      refine mf_iload dX0_advance_49 3 rfl ?_
      refine mf_iald rfl dX0_advance_51 ?_
      refine mf_aload_n dX0_advance_52 rfl 0 rfl ?_
      refine mf_getR fl_X0_9 rfl rfl dX0_advance_53 ?_
      refine mf_iload dX0_advance_56 3 rfl ?_
      refine mf_iald rfl dX0_advance_58 ?_
      refine mf_icmp_eq 78 dX0_advance_59 (by decide) ?_ ?_
      · refine mf_iinc 1 [(4, .int (a4 + 1)), (0, .ref 9), (2, .int a2), (3, .int a3)] dX0_advance_78 3 rfl (by decide) (by decide) rfl ?_
        refine mf_goto 39 dX0_advance_81 (by decide) ?_
        exact mf_sub [1, 2, 3, 0] rfl (ih39 _ _ _)
      · refine mf_iinc 1 [(2, .int (a2 + 1)), (0, .ref 9), (3, .int a3), (4, .int a4)] dX0_advance_62 1 rfl (by decide) (by decide) rfl ?_
        refine mf_aload_n dX0_advance_65 rfl 1 rfl ?_
        refine mf_iload dX0_advance_66 3 rfl ?_
        refine mf_aload_n dX0_advance_68 rfl 1 rfl ?_
        refine mf_getR fl_X0_24 rfl rfl dX0_advance_69 ?_
        refine mf_iload dX0_advance_72 3 rfl ?_
        refine mf_iald rfl dX0_advance_74 ?_
        refine mf_callVv (stk := []) (wX0_put l _ _ _) cl_X0_33 rfl (by decide) rfl rfl rfl (Nat.le_of_ble_eq_true rfl) rfl rfl dX0_advance_75 (fun us7 s7 => ?_)
        refine mf_iinc 1 [(4, .int (a4 + 1)), (2, .int (a2 + 1)), (0, .ref 9), (3, .int a3)] dX0_advance_78 3 rfl (by decide) (by decide) rfl ?_
        refine mf_goto 39 dX0_advance_81 (by decide) ?_
        exact mf_sub [2, 1, 3, 0] rfl (ih39 _ _ _)
set_option maxRecDepth 100000 in
set_option maxHeartbeats 4000000 in
theorem wX0_advance (l : Launch) (s : mx_G) : mf_M ei l yX0_advance cX0_advance 5 (some .int) 3 [.ref 9, .ref 1] s (fX0_advance  s) := by
  refine mf_intro rfl (Nat.le_of_ble_eq_true rfl) rfl rfl ?_
  refine mf_sub (loc' := [(0, .ref 9), (1, .ref 1)]) [0, 1] rfl ?_
  unfold fX0_advance
  refine mf_iconst 0 dX0_advance_0 (by decide) ?_
  refine mf_istore_n [(2, .int 0), (0, .ref 9), (1, .ref 1)] dX0_advance_1 rfl (by decide) rfl ?_
  refine mf_aload_n dX0_advance_2 rfl 2 rfl ?_
  refine mf_callVi (stk := []) (wX9_size l _) cl_X0_54 rfl (by decide) rfl rfl rfl (Nat.le_of_ble_eq_true rfl) rfl rfl dX0_advance_3 (fun x1 s2 => ?_)
  refine mf_istore_n [(3, .int x1), (2, .int 0), (0, .ref 9), (1, .ref 1)] dX0_advance_6 rfl (by decide) rfl ?_
  refine mf_iconst 0 dX0_advance_7 (by decide) ?_
  refine mf_istore [(4, .int 0), (3, .int x1), (2, .int 0), (0, .ref 9), (1, .ref 1)] dX0_advance_8 (by decide) rfl ?_
  refine mf_sub [3, 4, 2, 1, 0] rfl (wlX0_advance_10 l _ _ _ (fun s6 => ?_) FU _ _)
  refine mf_iconst 0 dX0_advance_36 (by decide) ?_
  refine mf_istore [(4, .int 0), (0, .ref 9), (2, .int 0), (3, .int x1)] dX0_advance_37 (by decide) rfl ?_
  exact mf_sub [1, 2, 3, 0] rfl (wlX0_advance_39 l _ FU _ _ _)
set_option maxRecDepth 100000 in
set_option maxHeartbeats 4000000 in
theorem wlX0_store_2 (l : Launch)    : ∀ (n : Nat) (a2 : Int32) (s0 : mx_G), mf_X ev l RX0 cX0_store 3 none "store" 1 (lX0_store_2   n a2 s0) 2 [(0, .ref 9), (1, .ref 1), (2, .int a2)] [] s0 := by
  intro n
  induction n with
  | zero => intro a2 s0; exact mf_none
  | succ n ih2 =>
    intro a2 s0
    rw [lX0_store_2]
    refine mf_iload_n dX0_store_2 rfl 2 rfl ?_
    refine mf_bipush 6 dX0_store_3 (by decide) ?_
    refine mf_icmp_ge 25 dX0_store_5 (by decide) ?_ ?_
    · exact mf_vret dX0_store_25
    · refine mf_aload_n dX0_store_8 rfl 1 rfl ?_
      refine mf_iload_n dX0_store_9 rfl 2 rfl ?_
      refine mf_aload_n dX0_store_10 rfl 0 rfl ?_
      refine mf_getR fl_X0_9 rfl rfl dX0_store_11 ?_
      refine mf_iload_n dX0_store_14 rfl 2 rfl ?_
      refine mf_iald rfl dX0_store_15 ?_
      refine mf_callVv (stk := []) (wX9_setChosen l _ _ _) cl_X0_37 rfl (by decide) rfl rfl rfl (Nat.le_of_ble_eq_true rfl) rfl rfl dX0_store_16 (fun us1 s1 => ?_)
      refine mf_iinc 1 [(2, .int (a2 + 1)), (0, .ref 9), (1, .ref 1)] dX0_store_19 2 rfl (by decide) (by decide) rfl ?_
      refine mf_goto 2 dX0_store_22 (by decide) ?_
      exact mf_sub [1, 2, 0] rfl (ih2 _ _)
set_option maxRecDepth 100000 in
set_option maxHeartbeats 4000000 in
theorem wX0_store (l : Launch) (s : mx_G) : mf_M ev l yX0_store cX0_store 3 none 1 [.ref 9, .ref 1] s (fX0_store  s) := by
  refine mf_intro rfl (Nat.le_of_ble_eq_true rfl) rfl rfl ?_
  refine mf_sub (loc' := [(0, .ref 9), (1, .ref 1)]) [0, 1] rfl ?_
  unfold fX0_store
  refine mf_iconst 0 dX0_store_0 (by decide) ?_
  refine mf_istore_n [(2, .int 0), (0, .ref 9), (1, .ref 1)] dX0_store_1 rfl (by decide) rfl ?_
  exact mf_sub [1, 2, 0] rfl (wlX0_store_2 l FU _ _)
set_option maxRecDepth 100000 in
set_option maxHeartbeats 4000000 in
theorem wX10_turnAll (l : Launch) (s : mx_G) : mf_M ei l yX10_turnAll cX10_turnAll 2 (some .int) 4 [.ref 0] s (fX10_turnAll  s) := by
  refine mf_intro rfl (Nat.le_of_ble_eq_true rfl) rfl rfl ?_
  refine mf_sub (loc' := [(0, .ref 0)]) [0] rfl ?_
  unfold fX10_turnAll
  refine mf_aload_n dX10_turnAll_0 rfl 0 rfl ?_
  refine mf_getR fl_X10_36 rfl rfl dX10_turnAll_1 ?_
  refine mf_aload_n dX10_turnAll_4 rfl 0 rfl ?_
  refine mf_getR fl_X10_10 rfl rfl dX10_turnAll_5 ?_
  refine mf_callVv (stk := []) (wX0_load l _) cl_X10_152 rfl (by decide) rfl rfl rfl (Nat.le_of_ble_eq_true rfl) rfl rfl dX10_turnAll_8 (fun us1 s1 => ?_)
  refine mf_aload_n dX10_turnAll_11 rfl 0 rfl ?_
  refine mf_getR fl_X10_36 rfl rfl dX10_turnAll_12 ?_
  refine mf_aload_n dX10_turnAll_15 rfl 0 rfl ?_
  refine mf_getR fl_X10_10 rfl rfl dX10_turnAll_16 ?_
  refine mf_callVi (stk := []) (wX0_advance l _) cl_X10_341 rfl (by decide) rfl rfl rfl (Nat.le_of_ble_eq_true rfl) rfl rfl dX10_turnAll_19 (fun x2 s3 => ?_)
  refine mf_istore_n [(1, .int x2), (0, .ref 0)] dX10_turnAll_22 rfl (by decide) rfl ?_
  refine mf_aload_n dX10_turnAll_23 rfl 1 rfl ?_
  refine mf_getR fl_X10_36 rfl rfl dX10_turnAll_24 ?_
  refine mf_aload_n dX10_turnAll_27 rfl 1 rfl ?_
  refine mf_getR fl_X10_10 rfl rfl dX10_turnAll_28 ?_
  refine mf_callVv (stk := []) (wX0_store l _) cl_X10_344 rfl (by decide) rfl rfl rfl (Nat.le_of_ble_eq_true rfl) rfl rfl dX10_turnAll_31 (fun us4 s4 => ?_)
  refine mf_iload_n dX10_turnAll_34 rfl 0 rfl ?_
  exact mf_iret dX10_turnAll_35
