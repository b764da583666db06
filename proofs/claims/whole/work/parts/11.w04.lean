set_option maxRecDepth 100000 in
set_option maxHeartbeats 4000000 in
theorem wX10_turn (l : Launch) (s : mx_G) : mf_M ei l yX10_turn cX10_turn 1 (some .int) 5 [.ref 0] s (fX10_turn  s) := by
  refine mf_intro rfl (Nat.le_of_ble_eq_true rfl) rfl rfl ?_
  refine mf_sub (loc' := [(0, .ref 0)]) [0] rfl ?_
  unfold fX10_turn
  refine mf_aload_n dX10_turn_0 rfl 0 rfl ?_
  refine mf_callVi (stk := []) (wX10_discontent l _) cl_X10_176 rfl (by decide) rfl rfl rfl (Nat.le_of_ble_eq_true rfl) rfl rfl dX10_turn_1 (fun x1 s2 => ?_)
  refine mf_if_eq 18 dX10_turn_4 (by decide) ?_ ?_
  · refine mf_aload_n dX10_turn_18 rfl 0 rfl ?_
    refine mf_callVi (stk := []) (wX10_turnAll l _) cl_X10_200 rfl (by decide) rfl rfl rfl (Nat.le_of_ble_eq_true rfl) rfl rfl dX10_turn_19 (fun x3 s4 => ?_)
    exact mf_iret dX10_turn_22
  · refine mf_aload_n dX10_turn_7 rfl 0 rfl ?_
    refine mf_getR fl_X10_19 rfl rfl dX10_turn_8 ?_
    refine mf_aload_n dX10_turn_11 rfl 0 rfl ?_
    refine mf_getR fl_X10_10 rfl rfl dX10_turn_12 ?_
    refine mf_callVv (stk := []) (wX3_keep l _) cl_X10_97 rfl (by decide) rfl rfl rfl (Nat.le_of_ble_eq_true rfl) rfl rfl dX10_turn_15 (fun us5 s5 => ?_)
    refine mf_aload_n dX10_turn_18 rfl 0 rfl ?_
    refine mf_callVi (stk := []) (wX10_turnAll l _) cl_X10_200 rfl (by decide) rfl rfl rfl (Nat.le_of_ble_eq_true rfl) rfl rfl dX10_turn_19 (fun x6 s7 => ?_)
    exact mf_iret dX10_turn_22
set_option maxRecDepth 100000 in
set_option maxHeartbeats 4000000 in
theorem wX10_chooseAnew (l : Launch) (p1 : Int32) (s : mx_G) : mf_M ei l yX10_chooseAnew cX10_chooseAnew 3 (some .int) 3 [.ref 0, .int p1] s (fX10_chooseAnew p1 s) := by
  refine mf_intro rfl (Nat.le_of_ble_eq_true rfl) rfl rfl ?_
  refine mf_sub (loc' := [(0, .ref 0), (1, .int p1)]) [0, 1] rfl ?_
  unfold fX10_chooseAnew
  refine mf_aload_n dX10_chooseAnew_0 rfl 0 rfl ?_
  refine mf_getR fl_X10_36 rfl rfl dX10_chooseAnew_1 ?_
  refine mf_aload_n dX10_chooseAnew_4 rfl 0 rfl ?_
  refine mf_getR fl_X10_10 rfl rfl dX10_chooseAnew_5 ?_
  refine mf_callVv (stk := []) (wX0_load l _) cl_X10_152 rfl (by decide) rfl rfl rfl (Nat.le_of_ble_eq_true rfl) rfl rfl dX10_chooseAnew_8 (fun us1 s1 => ?_)
  refine mf_aload_n dX10_chooseAnew_11 rfl 0 rfl ?_
  refine mf_getR fl_X10_36 rfl rfl dX10_chooseAnew_12 ?_
  refine mf_aload_n dX10_chooseAnew_15 rfl 0 rfl ?_
  refine mf_getR fl_X10_10 rfl rfl dX10_chooseAnew_16 ?_
  refine mf_iload_n dX10_chooseAnew_19 rfl 1 rfl ?_
  refine mf_callVi (stk := []) (wX0_best l _ _) cl_X10_155 rfl (by decide) rfl rfl rfl (Nat.le_of_ble_eq_true rfl) rfl rfl dX10_chooseAnew_20 (fun x2 s3 => ?_)
  refine mf_istore_n [(2, .int x2), (0, .ref 0), (1, .int p1)] dX10_chooseAnew_23 rfl (by decide) rfl ?_
  refine mf_iload_n dX10_chooseAnew_24 rfl 0 rfl ?_
  refine mf_aload_n dX10_chooseAnew_25 rfl 1 rfl ?_
  refine mf_getR fl_X10_10 rfl rfl dX10_chooseAnew_26 ?_
  refine mf_iload_n dX10_chooseAnew_29 rfl 2 rfl ?_
  refine mf_callVi (stk := [.int x2]) (wX9_chosenBy l _ _) cl_X10_149 rfl (by decide) rfl rfl rfl (Nat.le_of_ble_eq_true rfl) rfl rfl dX10_chooseAnew_30 (fun x4 s5 => ?_)
  refine mf_icmp_ne 38 dX10_chooseAnew_33 (by decide) ?_ ?_
  · refine mf_iconst 0 dX10_chooseAnew_36 (by decide) ?_
    exact mf_iret dX10_chooseAnew_37
  · refine mf_aload_n dX10_chooseAnew_38 rfl 1 rfl ?_
    refine mf_getR fl_X10_10 rfl rfl dX10_chooseAnew_39 ?_
    refine mf_iload_n dX10_chooseAnew_42 rfl 2 rfl ?_
    refine mf_iload_n dX10_chooseAnew_43 rfl 0 rfl ?_
    refine mf_callVv (stk := []) (wX9_setChosen l _ _ _) cl_X10_347 rfl (by decide) rfl rfl rfl (Nat.le_of_ble_eq_true rfl) rfl rfl dX10_chooseAnew_44 (fun us6 s6 => ?_)
    refine mf_iconst 1 dX10_chooseAnew_47 (by decide) ?_
    exact mf_iret dX10_chooseAnew_48
set_option maxRecDepth 100000 in
set_option maxHeartbeats 4000000 in
theorem wX10_choose (l : Launch) (p1 : Int32) (s : mx_G) : mf_M ei l yX10_choose cX10_choose 2 (some .int) 4 [.ref 0, .int p1] s (fX10_choose p1 s) := by
  refine mf_intro rfl (Nat.le_of_ble_eq_true rfl) rfl rfl ?_
  refine mf_sub (loc' := [(0, .ref 0), (1, .int p1)]) [0, 1] rfl ?_
  unfold fX10_choose
  refine mf_aload_n dX10_choose_0 rfl 0 rfl ?_
  refine mf_getR fl_X10_10 rfl rfl dX10_choose_1 ?_
  refine mf_iload_n dX10_choose_4 rfl 1 rfl ?_
  refine mf_callVi (stk := []) (wX9_isDomain l _ _) cl_X10_115 rfl (by decide) rfl rfl rfl (Nat.le_of_ble_eq_true rfl) rfl rfl dX10_choose_5 (fun x1 s2 => ?_)
  refine mf_if_ne 13 dX10_choose_8 (by decide) ?_ ?_
  · refine mf_iconst (-1) dX10_choose_11 (by decide) ?_
    exact mf_iret dX10_choose_12
  · refine mf_aload_n dX10_choose_13 rfl 0 rfl ?_
    refine mf_getR fl_X10_36 rfl rfl dX10_choose_14 ?_
    refine mf_aload_n dX10_choose_17 rfl 0 rfl ?_
    refine mf_getR fl_X10_10 rfl rfl dX10_choose_18 ?_
    refine mf_callVv (stk := []) (wX0_load l _) cl_X10_152 rfl (by decide) rfl rfl rfl (Nat.le_of_ble_eq_true rfl) rfl rfl dX10_choose_21 (fun us3 s3 => ?_)
    refine mf_aload_n dX10_choose_24 rfl 0 rfl ?_
    refine mf_getR fl_X10_36 rfl rfl dX10_choose_25 ?_
    refine mf_aload_n dX10_choose_28 rfl 0 rfl ?_
    refine mf_getR fl_X10_10 rfl rfl dX10_choose_29 ?_
    refine mf_iload_n dX10_choose_32 rfl 1 rfl ?_
    refine mf_callVi (stk := []) (wX0_best l _ _) cl_X10_155 rfl (by decide) rfl rfl rfl (Nat.le_of_ble_eq_true rfl) rfl rfl dX10_choose_33 (fun x4 s5 => ?_)
    refine mf_aload_n dX10_choose_36 rfl 0 rfl ?_
    refine mf_getR fl_X10_10 rfl rfl dX10_choose_37 ?_
    refine mf_iload_n dX10_choose_40 rfl 1 rfl ?_
    refine mf_callVi (stk := [.int x4]) (wX9_chosenBy l _ _) cl_X10_149 rfl (by decide) rfl rfl rfl (Nat.le_of_ble_eq_true rfl) rfl rfl dX10_choose_41 (fun x6 s7 => ?_)
    refine mf_icmp_eq 58 dX10_choose_44 (by decide) ?_ ?_
    · refine mf_aload_n dX10_choose_58 rfl 0 rfl ?_
      refine mf_iload_n dX10_choose_59 rfl 1 rfl ?_
      refine mf_callVi (stk := []) (wX10_chooseAnew l _ _) cl_X10_203 rfl (by decide) rfl rfl rfl (Nat.le_of_ble_eq_true rfl) rfl rfl dX10_choose_60 (fun x8 s9 => ?_)
      exact mf_iret dX10_choose_63
    · refine mf_aload_n dX10_choose_47 rfl 0 rfl ?_
      refine mf_getR fl_X10_19 rfl rfl dX10_choose_48 ?_
      refine mf_aload_n dX10_choose_51 rfl 0 rfl ?_
      refine mf_getR fl_X10_10 rfl rfl dX10_choose_52 ?_
      refine mf_callVv (stk := []) (wX3_keep l _) cl_X10_97 rfl (by decide) rfl rfl rfl (Nat.le_of_ble_eq_true rfl) rfl rfl dX10_choose_55 (fun us10 s10 => ?_)
      refine mf_aload_n dX10_choose_58 rfl 0 rfl ?_
      refine mf_iload_n dX10_choose_59 rfl 1 rfl ?_
      refine mf_callVi (stk := []) (wX10_chooseAnew l _ _) cl_X10_203 rfl (by decide) rfl rfl rfl (Nat.le_of_ble_eq_true rfl) rfl rfl dX10_choose_60 (fun x11 s12 => ?_)
      exact mf_iret dX10_choose_63
set_option maxRecDepth 100000 in
set_option maxHeartbeats 4000000 in
theorem wlX10_rest_22 (l : Launch)    : ∀ (n : Nat) (a1 : Int32) (s0 : mx_G), mf_X ei l RX10 cX10_rest 2 (some .int) "rest" 5 (lX10_rest_22   n a1 s0) 22 [(0, .ref 0), (1, .int a1)] [] s0 := by
  intro n
  induction n with
  | zero => intro a1 s0; exact mf_none
  | succ n ih22 =>
    intro a1 s0
    rw [lX10_rest_22]
    refine mf_iload_n dX10_rest_22 rfl 1 rfl ?_
    refine mf_bipush 40 dX10_rest_23 (by decide) ?_
    refine mf_icmp_gt 48 dX10_rest_25 (by decide) ?_ ?_
    · refine mf_bipush (-4) dX10_rest_48 (by decide) ?_
      exact mf_iret dX10_rest_50
    · refine mf_aload_n dX10_rest_28 rfl 0 rfl ?_
      refine mf_callVi (stk := []) (wX10_turnAll l _) cl_X10_200 rfl (by decide) rfl rfl rfl (Nat.le_of_ble_eq_true rfl) rfl rfl dX10_rest_29 (fun x4 s5 => ?_)
      refine mf_pop rfl dX10_rest_32 ?_
      refine mf_aload_n dX10_rest_33 rfl 0 rfl ?_
      refine mf_callVi (stk := []) (wX10_discontent l _) cl_X10_176 rfl (by decide) rfl rfl rfl (Nat.le_of_ble_eq_true rfl) rfl rfl dX10_rest_34 (fun x6 s7 => ?_)
      refine mf_if_ne 42 dX10_rest_37 (by decide) ?_ ?_
      · refine mf_iload_n dX10_rest_40 rfl 1 rfl ?_
        exact mf_iret dX10_rest_41
      · refine mf_iinc 1 [(1, .int (a1 + 1)), (0, .ref 0)] dX10_rest_42 1 rfl (by decide) (by decide) rfl ?_
        refine mf_goto 22 dX10_rest_45 (by decide) ?_
        exact mf_sub [1, 0] rfl (ih22 _ _)
set_option maxRecDepth 100000 in
set_option maxHeartbeats 4000000 in
theorem wX10_rest (l : Launch) (s : mx_G) : mf_M ei l yX10_rest cX10_rest 2 (some .int) 5 [.ref 0] s (fX10_rest  s) := by
  refine mf_intro rfl (Nat.le_of_ble_eq_true rfl) rfl rfl ?_
  refine mf_sub (loc' := [(0, .ref 0)]) [0] rfl ?_
  unfold fX10_rest
  refine mf_aload_n dX10_rest_0 rfl 0 rfl ?_
  refine mf_callVi (stk := []) (wX10_discontent l _) cl_X10_176 rfl (by decide) rfl rfl rfl (Nat.le_of_ble_eq_true rfl) rfl rfl dX10_rest_1 (fun x1 s2 => ?_)
  refine mf_if_ne 9 dX10_rest_4 (by decide) ?_ ?_
  · refine mf_iconst 0 dX10_rest_7 (by decide) ?_
    exact mf_iret dX10_rest_8
  · refine mf_aload_n dX10_rest_9 rfl 0 rfl ?_
    refine mf_getR fl_X10_19 rfl rfl dX10_rest_10 ?_
    refine mf_aload_n dX10_rest_13 rfl 0 rfl ?_
    refine mf_getR fl_X10_10 rfl rfl dX10_rest_14 ?_
    refine mf_callVv (stk := []) (wX3_keep l _) cl_X10_97 rfl (by decide) rfl rfl rfl (Nat.le_of_ble_eq_true rfl) rfl rfl dX10_rest_17 (fun us3 s3 => ?_)
    refine mf_iconst 1 dX10_rest_20 (by decide) ?_
    refine mf_istore_n [(1, .int 1), (0, .ref 0)] dX10_rest_21 rfl (by decide) rfl ?_
    exact mf_sub [1, 0] rfl (wlX10_rest_22 l FU _ _)
set_option maxRecDepth 100000 in
set_option maxHeartbeats 4000000 in
theorem wJI_bitCount (l : Launch) (p0 : Int32) (s : mx_G) : mf_M ei l yJI_bitCount cJI_bitCount 1 (some .int) 0 [.int p0] s (fJI_bitCount p0 s) := by
  refine mf_intro rfl (Nat.le_of_ble_eq_true rfl) rfl rfl ?_
  refine mf_sub (loc' := [(0, .int p0)]) [0] rfl ?_
  unfold fJI_bitCount
  refine mf_iload_n dJI_bitCount_0 rfl 0 rfl ?_
  refine mf_iload_n dJI_bitCount_1 rfl 0 rfl ?_
  refine mf_iconst 1 dJI_bitCount_2 (by decide) ?_
  refine mf_iushr dJI_bitCount_3 ?_
  refine mf_ldcw kl_JI_265 dJI_bitCount_4 ?_
  refine mf_iand dJI_bitCount_7 ?_
  refine mf_isub dJI_bitCount_8 ?_
  refine mf_leti (fun x1 => ?_)
  refine mf_istore_n [(0, .int x1)] dJI_bitCount_9 rfl (by decide) rfl ?_
  refine mf_iload_n dJI_bitCount_10 rfl 0 rfl ?_
  refine mf_ldcw kl_JI_266 dJI_bitCount_11 ?_
  refine mf_iand dJI_bitCount_14 ?_
  refine mf_iload_n dJI_bitCount_15 rfl 0 rfl ?_
  refine mf_iconst 2 dJI_bitCount_16 (by decide) ?_
  refine mf_iushr dJI_bitCount_17 ?_
  refine mf_ldcw kl_JI_266 dJI_bitCount_18 ?_
  refine mf_iand dJI_bitCount_21 ?_
  refine mf_iadd dJI_bitCount_22 ?_
  refine mf_leti (fun x2 => ?_)
  refine mf_istore_n [(0, .int x2)] dJI_bitCount_23 rfl (by decide) rfl ?_
  refine mf_iload_n dJI_bitCount_24 rfl 0 rfl ?_
  refine mf_iload_n dJI_bitCount_25 rfl 0 rfl ?_
  refine mf_iconst 4 dJI_bitCount_26 (by decide) ?_
  refine mf_iushr dJI_bitCount_27 ?_
  refine mf_iadd dJI_bitCount_28 ?_
  refine mf_ldcw kl_JI_267 dJI_bitCount_29 ?_
  refine mf_iand dJI_bitCount_32 ?_
  refine mf_leti (fun x3 => ?_)
  refine mf_istore_n [(0, .int x3)] dJI_bitCount_33 rfl (by decide) rfl ?_
  refine mf_iload_n dJI_bitCount_34 rfl 0 rfl ?_
  refine mf_iload_n dJI_bitCount_35 rfl 0 rfl ?_
  refine mf_bipush 8 dJI_bitCount_36 (by decide) ?_
  refine mf_iushr dJI_bitCount_38 ?_
  refine mf_iadd dJI_bitCount_39 ?_
  refine mf_leti (fun x4 => ?_)
  refine mf_istore_n [(0, .int x4)] dJI_bitCount_40 rfl (by decide) rfl ?_
  refine mf_iload_n dJI_bitCount_41 rfl 0 rfl ?_
  refine mf_iload_n dJI_bitCount_42 rfl 0 rfl ?_
  refine mf_bipush 16 dJI_bitCount_43 (by decide) ?_
  refine mf_iushr dJI_bitCount_45 ?_
  refine mf_iadd dJI_bitCount_46 ?_
  refine mf_leti (fun x5 => ?_)
  refine mf_istore_n [(0, .int x5)] dJI_bitCount_47 rfl (by decide) rfl ?_
  refine mf_iload_n dJI_bitCount_48 rfl 0 rfl ?_
  refine mf_bipush 63 dJI_bitCount_49 (by decide) ?_
  refine mf_iand dJI_bitCount_51 ?_
  exact mf_iret dJI_bitCount_52
set_option maxRecDepth 100000 in
set_option maxHeartbeats 4000000 in
theorem wX10_clear (l : Launch) (s : mx_G) : mf_M ei l yX10_clear cX10_clear 2 (some .int) 4 [.ref 0] s (fX10_clear  s) := by
  refine mf_intro rfl (Nat.le_of_ble_eq_true rfl) rfl rfl ?_
  refine mf_sub (loc' := [(0, .ref 0)]) [0] rfl ?_
  unfold fX10_clear
  refine mf_aload_n dX10_clear_0 rfl 0 rfl ?_
  refine mf_getR fl_X10_10 rfl rfl dX10_clear_1 ?_
  refine mf_callVi (stk := []) (wX9_choosers l _) cl_X10_173 rfl (by decide) rfl rfl rfl (Nat.le_of_ble_eq_true rfl) rfl rfl dX10_clear_4 (fun x1 s2 => ?_)
  refine mf_callSi (stk := []) (wJI_bitCount l _ _) cl_X10_206 rfl (by decide) rfl (Nat.le_of_ble_eq_true rfl) rfl rfl dX10_clear_7 (fun x3 s4 => ?_)
  refine mf_iconst 1 dX10_clear_10 (by decide) ?_
  refine mf_isub dX10_clear_11 ?_
  refine mf_leti (fun x5 => ?_)
  refine mf_istore_n [(1, .int x5), (0, .ref 0)] dX10_clear_12 rfl (by decide) rfl ?_
  refine mf_iload_n dX10_clear_13 rfl 0 rfl ?_
  refine mf_if_ne 20 dX10_clear_14 (by decide) ?_ ?_
  · refine mf_bipush (-2) dX10_clear_17 (by decide) ?_
    exact mf_iret dX10_clear_19
  · refine mf_aload_n dX10_clear_20 rfl 1 rfl ?_
    refine mf_getR fl_X10_19 rfl rfl dX10_clear_21 ?_
    refine mf_aload_n dX10_clear_24 rfl 1 rfl ?_
    refine mf_getR fl_X10_10 rfl rfl dX10_clear_25 ?_
    refine mf_callVv (stk := []) (wX3_keep l _) cl_X10_97 rfl (by decide) rfl rfl rfl (Nat.le_of_ble_eq_true rfl) rfl rfl dX10_clear_28 (fun us6 s6 => ?_)
    refine mf_aload_n dX10_clear_31 rfl 1 rfl ?_
    refine mf_getR fl_X10_10 rfl rfl dX10_clear_32 ?_
    refine mf_callVv (stk := []) (wX9_forgetChosen l _) cl_X10_211 rfl (by decide) rfl rfl rfl (Nat.le_of_ble_eq_true rfl) rfl rfl dX10_clear_35 (fun us7 s7 => ?_)
    refine mf_iload_n dX10_clear_38 rfl 0 rfl ?_
    exact mf_iret dX10_clear_39
set_option maxRecDepth 100000 in
set_option maxHeartbeats 4000000 in
theorem wlX1_note_2 (l : Launch) (a2 : Int32)   : ∀ (n : Nat) (a3 : Int32) (s0 : mx_G), mf_X ev l RX1 cX1_note 4 none "note" 1 (lX1_note_2 a2  n a3 s0) 2 [(0, .ref 34), (1, .ref 9), (2, .int a2), (3, .int a3)] [] s0 := by
  intro n
  induction n with
  | zero => intro a3 s0; exact mf_none
  | succ n ih2 =>
    intro a3 s0
    rw [lX1_note_2]
    refine mf_iload_n dX1_note_2 rfl 3 rfl ?_
    refine mf_bipush 6 dX1_note_3 (by decide) ?_
    refine mf_icmp_ge 30 dX1_note_5 (by decide) ?_ ?_
    · exact mf_vret dX1_note_30
    · refine mf_aload_n dX1_note_8 rfl 0 rfl ?_
      refine mf_getR fl_X1_18 rfl rfl dX1_note_9 ?_
      refine mf_iload_n dX1_note_12 rfl 2 rfl ?_
      refine mf_bipush 6 dX1_note_13 (by decide) ?_
      refine mf_imul dX1_note_15 ?_
      refine mf_iload_n dX1_note_16 rfl 3 rfl ?_
      refine mf_iadd dX1_note_17 ?_
      refine mf_aload_n dX1_note_18 rfl 1 rfl ?_
      refine mf_iload_n dX1_note_19 rfl 3 rfl ?_
      refine mf_callVi (stk := [.int ((a2 * 6) + a3), .ref 35]) (wX0_wayOf l _ _) cl_X1_36 rfl (by decide) rfl rfl rfl (Nat.le_of_ble_eq_true rfl) rfl rfl dX1_note_20 (fun x1 s2 => ?_)
      refine mf_iast rfl dX1_note_23 (fun s3 => ?_)
      refine mf_iinc 1 [(3, .int (a3 + 1)), (0, .ref 34), (1, .ref 9), (2, .int a2)] dX1_note_24 3 rfl (by decide) (by decide) rfl ?_
      refine mf_goto 2 dX1_note_27 (by decide) ?_
      exact mf_sub [1, 2, 3, 0] rfl (ih2 _ _)
set_option maxRecDepth 100000 in
set_option maxHeartbeats 4000000 in
theorem wX1_note (l : Launch) (p2 : Int32) (s : mx_G) : mf_M ev l yX1_note cX1_note 4 none 1 [.ref 34, .ref 9, .int p2] s (fX1_note p2 s) := by
  refine mf_intro rfl (Nat.le_of_ble_eq_true rfl) rfl rfl ?_
  refine mf_sub (loc' := [(0, .ref 34), (1, .ref 9), (2, .int p2)]) [0, 1, 2] rfl ?_
  unfold fX1_note
  refine mf_iconst 0 dX1_note_0 (by decide) ?_
  refine mf_istore_n [(3, .int 0), (0, .ref 34), (1, .ref 9), (2, .int p2)] dX1_note_1 rfl (by decide) rfl ?_
  exact mf_sub [1, 2, 3, 0] rfl (wlX1_note_2 l _ FU _ _)
set_option maxRecDepth 100000 in
set_option maxHeartbeats 4000000 in
theorem wlX1_areAlike_2 (l : Launch) (a1 : Int32) (a2 : Int32)   : ∀ (n : Nat) (a3 : Int32) (s0 : mx_G), mf_X ei l RX1 cX1_areAlike 4 (some .boolean) "areAlike" 0 (lX1_areAlike_2 a1 a2  n a3 s0) 2 [(0, .ref 34), (1, .int a1), (2, .int a2), (3, .int a3)] [] s0 := by
  intro n
  induction n with
  | zero => intro a3 s0; exact mf_none
  | succ n ih2 =>
    intro a3 s0
    rw [lX1_areAlike_2]
    refine mf_iload_n dX1_areAlike_2 rfl 3 rfl ?_
    refine mf_bipush 6 dX1_areAlike_3 (by decide) ?_
    refine mf_icmp_ge 41 dX1_areAlike_5 (by decide) ?_ ?_
    · refine mf_iconst 1 dX1_areAlike_41 (by decide) ?_
      exact mf_zret (by decide) dX1_areAlike_42
    · refine mf_aload_n dX1_areAlike_8 rfl 0 rfl ?_
      refine mf_getR fl_X1_18 rfl rfl dX1_areAlike_9 ?_
      refine mf_iload_n dX1_areAlike_12 rfl 1 rfl ?_
      refine mf_bipush 6 dX1_areAlike_13 (by decide) ?_
      refine mf_imul dX1_areAlike_15 ?_
      refine mf_iload_n dX1_areAlike_16 rfl 3 rfl ?_
      refine mf_iadd dX1_areAlike_17 ?_
      refine mf_iald rfl dX1_areAlike_18 ?_
      refine mf_aload_n dX1_areAlike_19 rfl 0 rfl ?_
      refine mf_getR fl_X1_18 rfl rfl dX1_areAlike_20 ?_
      refine mf_iload_n dX1_areAlike_23 rfl 2 rfl ?_
      refine mf_bipush 6 dX1_areAlike_24 (by decide) ?_
      refine mf_imul dX1_areAlike_26 ?_
      refine mf_iload_n dX1_areAlike_27 rfl 3 rfl ?_
      refine mf_iadd dX1_areAlike_28 ?_
      refine mf_iald rfl dX1_areAlike_29 ?_
      refine mf_icmp_eq 35 dX1_areAlike_30 (by decide) ?_ ?_
      · refine mf_iinc 1 [(3, .int (a3 + 1)), (0, .ref 34), (1, .int a1), (2, .int a2)] dX1_areAlike_35 3 rfl (by decide) (by decide) rfl ?_
        refine mf_goto 2 dX1_areAlike_38 (by decide) ?_
        exact mf_sub [1, 2, 3, 0] rfl (ih2 _ _)
      · refine mf_iconst 0 dX1_areAlike_33 (by decide) ?_
        exact mf_zret (by decide) dX1_areAlike_34
set_option maxRecDepth 100000 in
set_option maxHeartbeats 4000000 in
theorem wX1_areAlike (l : Launch) (p1 : Int32) (p2 : Int32) (s : mx_G) : mf_M ei l yX1_areAlike cX1_areAlike 4 (some .boolean) 0 [.ref 34, .int p1, .int p2] s (fX1_areAlike p1 p2 s) := by
  refine mf_intro rfl (Nat.le_of_ble_eq_true rfl) rfl rfl ?_
  refine mf_sub (loc' := [(0, .ref 34), (1, .int p1), (2, .int p2)]) [0, 1, 2] rfl ?_
  unfold fX1_areAlike
  refine mf_iconst 0 dX1_areAlike_0 (by decide) ?_
  refine mf_istore_n [(3, .int 0), (0, .ref 34), (1, .int p1), (2, .int p2)] dX1_areAlike_1 rfl (by decide) rfl ?_
  exact mf_sub [1, 2, 3, 0] rfl (wlX1_areAlike_2 l _ _ FU _ _)
set_option maxRecDepth 100000 in
set_option maxHeartbeats 4000000 in
theorem wlX1_earlier_2 (l : Launch) (a1 : Int32)   : ∀ (n : Nat) (a2 : Int32) (s0 : mx_G), mf_X ei l RX1 cX1_earlier 3 (some .int) "earlier" 1 (lX1_earlier_2 a1  n a2 s0) 2 [(0, .ref 34), (1, .int a1), (2, .int a2)] [] s0 := by
  intro n
  induction n with
  | zero => intro a2 s0; exact mf_none
  | succ n ih2 =>
    intro a2 s0
    rw [lX1_earlier_2]
    refine mf_iload_n dX1_earlier_2 rfl 2 rfl ?_
    refine mf_iload_n dX1_earlier_3 rfl 1 rfl ?_
    refine mf_icmp_ge 24 dX1_earlier_4 (by decide) ?_ ?_
    · refine mf_iconst (-1) dX1_earlier_24 (by decide) ?_
      exact mf_iret dX1_earlier_25
    · refine mf_aload_n dX1_earlier_7 rfl 0 rfl ?_
      refine mf_iload_n dX1_earlier_8 rfl 2 rfl ?_
      refine mf_iload_n dX1_earlier_9 rfl 1 rfl ?_
      refine mf_callVi (stk := []) (wX1_areAlike l _ _ _) cl_X1_39 rfl (by decide) rfl rfl rfl (Nat.le_of_ble_eq_true rfl) rfl rfl dX1_earlier_10 (fun x1 s2 => ?_)
      refine mf_if_eq 18 dX1_earlier_13 (by decide) ?_ ?_
      · refine mf_iinc 1 [(2, .int (a2 + 1)), (0, .ref 34), (1, .int a1)] dX1_earlier_18 2 rfl (by decide) (by decide) rfl ?_
        refine mf_goto 2 dX1_earlier_21 (by decide) ?_
        exact mf_sub [1, 2, 0] rfl (ih2 _ _)
      · refine mf_iload_n dX1_earlier_16 rfl 2 rfl ?_
        exact mf_iret dX1_earlier_17
set_option maxRecDepth 100000 in
set_option maxHeartbeats 4000000 in
theorem wX1_earlier (l : Launch) (p1 : Int32) (s : mx_G) : mf_M ei l yX1_earlier cX1_earlier 3 (some .int) 1 [.ref 34, .int p1] s (fX1_earlier p1 s) := by
  refine mf_intro rfl (Nat.le_of_ble_eq_true rfl) rfl rfl ?_
  refine mf_sub (loc' := [(0, .ref 34), (1, .int p1)]) [0, 1] rfl ?_
  unfold fX1_earlier
  refine mf_iconst 0 dX1_earlier_0 (by decide) ?_
  refine mf_istore_n [(2, .int 0), (0, .ref 34), (1, .int p1)] dX1_earlier_1 rfl (by decide) rfl ?_
  exact mf_sub [1, 2, 0] rfl (wlX1_earlier_2 l _ FU _ _)
set_option maxRecDepth 100000 in
set_option maxHeartbeats 4000000 in
theorem wlX1_look_20 (l : Launch) (k50 : Int32 → Int32 → mx_G → Option (Unit × mx_G)) (hk50 : ∀ (b3 : Int32) (b4 : Int32) (sz : mx_G), mf_X ev l RX1 cX1_look 5 none "look" 4 (k50 b3 b4 sz) 50 [(0, .ref 34), (3, .int b3), (4, .int b4)] [] sz) : ∀ (n : Nat) (a3 : Int32) (s0 : mx_G), mf_X ev l RX1 cX1_look 5 none "look" 4 (lX1_look_20  k50 n a3 s0) 20 [(0, .ref 34), (1, .ref 1), (2, .ref 9), (3, .int a3)] [] s0 := by
  intro n
  induction n with
  | zero => intro a3 s0; exact mf_none
  | succ n ih20 =>
    intro a3 s0
    rw [lX1_look_20]
    refine mf_iload_n dX1_look_20 rfl 3 rfl ?_
    refine mf_bipush 60 dX1_look_21 (by decide) ?_
    refine mf_icmp_gt 71 dX1_look_23 (by decide) ?_ ?_
    · exact mf_vret dX1_look_71
    · refine mf_aload_n dX1_look_26 rfl 2 rfl ?_
      refine mf_aload_n dX1_look_27 rfl 1 rfl ?_
      refine mf_callVi (stk := []) (wX0_advance l _) cl_X1_26 rfl (by decide) rfl rfl rfl (Nat.le_of_ble_eq_true rfl) rfl rfl dX1_look_28 (fun x4 s5 => ?_)
      refine mf_pop rfl dX1_look_31 ?_
      refine mf_aload_n dX1_look_32 rfl 0 rfl ?_
      refine mf_aload_n dX1_look_33 rfl 2 rfl ?_
      refine mf_iload_n dX1_look_34 rfl 3 rfl ?_
      refine mf_callVv (stk := []) (wX1_note l _ _) cl_X1_22 rfl (by decide) rfl rfl rfl (Nat.le_of_ble_eq_true rfl) rfl rfl dX1_look_35 (fun us6 s6 => ?_)
      refine mf_aload_n dX1_look_38 rfl 0 rfl ?_
      refine mf_iload_n dX1_look_39 rfl 3 rfl ?_
      refine mf_callVi (stk := []) (wX1_earlier l _ _) cl_X1_32 rfl (by decide) rfl rfl rfl (Nat.le_of_ble_eq_true rfl) rfl rfl dX1_look_40 (fun x7 s8 => ?_)
      refine mf_istore [(4, .int x7), (0, .ref 34), (1, .ref 1), (2, .ref 9), (3, .int a3)] dX1_look_43 (by decide) rfl ?_
      refine mf_iload dX1_look_45 0 rfl ?_
      refine mf_if_lt 65 dX1_look_47 (by decide) ?_ ?_
      · refine mf_iinc 1 [(3, .int (a3 + 1)), (4, .int x7), (0, .ref 34), (1, .ref 1), (2, .ref 9)] dX1_look_65 4 rfl (by decide) (by decide) rfl ?_
        refine mf_goto 20 dX1_look_68 (by decide) ?_
        exact mf_sub [2, 3, 4, 0] rfl (ih20 _ _)
      · exact mf_sub [1, 4, 0] rfl (hk50 _ _ _)
set_option maxRecDepth 100000 in
set_option maxHeartbeats 4000000 in
theorem wX1_look (l : Launch) (s : mx_G) : mf_M ev l yX1_look cX1_look 5 none 4 [.ref 34, .ref 1, .ref 9] s (fX1_look  s) := by
  refine mf_intro rfl (Nat.le_of_ble_eq_true rfl) rfl rfl ?_
  refine mf_sub (loc' := [(0, .ref 34), (1, .ref 1), (2, .ref 9)]) [0, 1, 2] rfl ?_
  unfold fX1_look
  refine mf_aload_n dX1_look_0 rfl 0 rfl ?_
  refine mf_bipush (-4) dX1_look_1 (by decide) ?_
  refine mf_putI fl_X1_9 rfl rfl dX1_look_3 (fun s1 => ?_)
  refine mf_aload_n dX1_look_6 rfl 0 rfl ?_
  refine mf_bipush (-4) dX1_look_7 (by decide) ?_
  refine mf_putI fl_X1_15 rfl rfl dX1_look_9 (fun s2 => ?_)
  refine mf_aload_n dX1_look_12 rfl 0 rfl ?_
  refine mf_aload_n dX1_look_13 rfl 2 rfl ?_
  refine mf_iconst 0 dX1_look_14 (by decide) ?_
  refine mf_callVv (stk := []) (wX1_note l _ _) cl_X1_22 rfl (by decide) rfl rfl rfl (Nat.le_of_ble_eq_true rfl) rfl rfl dX1_look_15 (fun us3 s3 => ?_)
  refine mf_iconst 1 dX1_look_18 (by decide) ?_
  refine mf_istore_n [(3, .int 1), (0, .ref 34), (1, .ref 1), (2, .ref 9)] dX1_look_19 rfl (by decide) rfl ?_
  refine mf_sub [1, 2, 3, 0] rfl (wlX1_look_20 l _ (fun y10 y11 s9 => ?_) FU _ _)
  refine mf_aload_n dX1_look_50 rfl 0 rfl ?_
  refine mf_iload dX1_look_51 2 rfl ?_
  refine mf_putI fl_X1_9 rfl rfl dX1_look_53 (fun s12 => ?_)
  refine mf_aload_n dX1_look_56 rfl 0 rfl ?_
  refine mf_iload_n dX1_look_57 rfl 1 rfl ?_
  refine mf_iload dX1_look_58 2 rfl ?_
  refine mf_isub dX1_look_60 ?_
  refine mf_putI fl_X1_15 rfl rfl dX1_look_61 (fun s13 => ?_)
  exact mf_vret dX1_look_64
set_option maxRecDepth 100000 in
set_option maxHeartbeats 4000000 in
theorem wX10_foreseen (l : Launch) (p1 : Int32) (s : mx_G) : mf_M ei l yX10_foreseen cX10_foreseen 2 (some .int) 5 [.ref 0, .int p1] s (fX10_foreseen p1 s) := by
  refine mf_intro rfl (Nat.le_of_ble_eq_true rfl) rfl rfl ?_
  refine mf_sub (loc' := [(0, .ref 0), (1, .int p1)]) [0, 1] rfl ?_
  unfold fX10_foreseen
  refine mf_iload_n dX10_foreseen_0 rfl 1 rfl ?_
  refine mf_if_lt 9 dX10_foreseen_1 (by decide) ?_ ?_
  · refine mf_iconst (-1) dX10_foreseen_9 (by decide) ?_
    exact mf_iret dX10_foreseen_10
  · refine mf_iload_n dX10_foreseen_4 rfl 1 rfl ?_
    refine mf_iconst 2 dX10_foreseen_5 (by decide) ?_
    refine mf_icmp_le 11 dX10_foreseen_6 (by decide) ?_ ?_
    · refine mf_aload_n dX10_foreseen_11 rfl 0 rfl ?_
      refine mf_getR fl_X10_36 rfl rfl dX10_foreseen_12 ?_
      refine mf_aload_n dX10_foreseen_15 rfl 0 rfl ?_
      refine mf_getR fl_X10_10 rfl rfl dX10_foreseen_16 ?_
      refine mf_callVv (stk := []) (wX0_load l _) cl_X10_152 rfl (by decide) rfl rfl rfl (Nat.le_of_ble_eq_true rfl) rfl rfl dX10_foreseen_19 (fun us1 s1 => ?_)
      refine mf_aload_n dX10_foreseen_22 rfl 0 rfl ?_
      refine mf_getR fl_X10_64 rfl rfl dX10_foreseen_23 ?_
      refine mf_aload_n dX10_foreseen_26 rfl 0 rfl ?_
      refine mf_getR fl_X10_10 rfl rfl dX10_foreseen_27 ?_
      refine mf_aload_n dX10_foreseen_30 rfl 0 rfl ?_
      refine mf_getR fl_X10_36 rfl rfl dX10_foreseen_31 ?_
      refine mf_callVv (stk := []) (wX1_look l _) cl_X10_214 rfl (by decide) rfl rfl rfl (Nat.le_of_ble_eq_true rfl) rfl rfl dX10_foreseen_34 (fun us2 s2 => ?_)
      refine mf_iload_n dX10_foreseen_37 rfl 1 rfl ?_
      refine mf_iconst 1 dX10_foreseen_38 (by decide) ?_
      refine mf_icmp_ne 50 dX10_foreseen_39 (by decide) ?_ ?_
      · refine mf_aload_n dX10_foreseen_42 rfl 0 rfl ?_
        refine mf_getR fl_X10_64 rfl rfl dX10_foreseen_43 ?_
        refine mf_getI fl_X10_218 rfl rfl dX10_foreseen_46 ?_
        exact mf_iret dX10_foreseen_49
      · refine mf_iload_n dX10_foreseen_50 rfl 1 rfl ?_
        refine mf_if_ne 68 dX10_foreseen_51 (by decide) ?_ ?_
        · refine mf_aload_n dX10_foreseen_54 rfl 0 rfl ?_
          refine mf_getR fl_X10_64 rfl rfl dX10_foreseen_55 ?_
          refine mf_getI fl_X10_218 rfl rfl dX10_foreseen_58 ?_
          refine mf_iconst 1 dX10_foreseen_61 (by decide) ?_
          refine mf_icmp_eq 68 dX10_foreseen_62 (by decide) ?_ ?_
          · refine mf_aload_n dX10_foreseen_68 rfl 0 rfl ?_
            refine mf_getR fl_X10_64 rfl rfl dX10_foreseen_69 ?_
            refine mf_getI fl_X10_222 rfl rfl dX10_foreseen_72 ?_
            exact mf_iret dX10_foreseen_75
          · refine mf_bipush (-4) dX10_foreseen_65 (by decide) ?_
            exact mf_iret dX10_foreseen_67
        · refine mf_aload_n dX10_foreseen_68 rfl 0 rfl ?_
          refine mf_getR fl_X10_64 rfl rfl dX10_foreseen_69 ?_
          refine mf_getI fl_X10_222 rfl rfl dX10_foreseen_72 ?_
          exact mf_iret dX10_foreseen_75
    · refine mf_iconst (-1) dX10_foreseen_9 (by decide) ?_
      exact mf_iret dX10_foreseen_10
set_option maxRecDepth 100000 in
set_option maxHeartbeats 4000000 in
theorem wlX4_nextsOf_26 (l : Launch)    : ∀ (n : Nat) (a4 : Int32) (a5 : Int32) (s0 : mx_G), mf_X ev l RX4 cX4_nextsOf 6 none "nextsOf" 0 (lX4_nextsOf_26   n a4 a5 s0) 26 [(3, .ref 44), (4, .int a4), (5, .int a5)] [] s0 := by
  intro n
  induction n with
  | zero => intro a4 a5 s0; exact mf_none
  | succ n ih26 =>
    intro a4 a5 s0
    rw [lX4_nextsOf_26]
    refine mf_iload dX4_nextsOf_26 2 rfl ?_
    refine mf_iconst 1 dX4_nextsOf_28 (by decide) ?_
    refine mf_icmp_lt 54 dX4_nextsOf_29 (by decide) ?_ ?_
    · exact mf_vret dX4_nextsOf_54
    · refine mf_aload_n dX4_nextsOf_32 rfl 0 rfl ?_
      refine mf_iload dX4_nextsOf_33 2 rfl ?_
      refine mf_iload dX4_nextsOf_35 1 rfl ?_
      refine mf_bipush 10 dX4_nextsOf_37 (by decide) ?_
      refine mf_irem (by decide) dX4_nextsOf_39 ?_
      refine mf_iast rfl dX4_nextsOf_40 (fun s3 => ?_)
      refine mf_iload dX4_nextsOf_41 1 rfl ?_
      refine mf_bipush 10 dX4_nextsOf_43 (by decide) ?_
      refine mf_idiv (by decide) dX4_nextsOf_45 ?_
      refine mf_leti (fun x4 => ?_)
      refine mf_istore [(4, .int x4), (3, .ref 44), (5, .int a5)] dX4_nextsOf_46 (by decide) rfl ?_
      refine mf_iinc (-1) [(5, .int (a5 + (-1))), (4, .int x4), (3, .ref 44)] dX4_nextsOf_48 2 rfl (by decide) (by decide) rfl ?_
      refine mf_goto 26 dX4_nextsOf_51 (by decide) ?_
      exact mf_sub [2, 1, 0] rfl (ih26 _ _ _)
set_option maxRecDepth 100000 in
set_option maxHeartbeats 4000000 in
theorem wX4_nextsOf (l : Launch) (p1 : Int32) (p2 : Int32) (s : mx_G) : mf_M ev l yX4_nextsOf cX4_nextsOf 6 none 0 [.ref 31, .int p1, .int p2, .ref 44] s (fX4_nextsOf p1 p2 s) := by
  refine mf_intro rfl (Nat.le_of_ble_eq_true rfl) rfl rfl ?_
  refine mf_sub (loc' := [(0, .ref 31), (1, .int p1), (2, .int p2), (3, .ref 44)]) [0, 1, 2, 3] rfl ?_
  unfold fX4_nextsOf
  refine mf_iload_n dX4_nextsOf_0 rfl 1 rfl ?_
  refine mf_if_lt 12 dX4_nextsOf_1 (by decide) ?_ ?_
  · exact mf_vret dX4_nextsOf_12
  · refine mf_iload_n dX4_nextsOf_4 rfl 1 rfl ?_
    refine mf_aload_n dX4_nextsOf_5 rfl 0 rfl ?_
    refine mf_getI fl_X4_15 rfl rfl dX4_nextsOf_6 ?_
    refine mf_icmp_lt 13 dX4_nextsOf_9 (by decide) ?_ ?_
    · refine mf_aload_n dX4_nextsOf_13 rfl 0 rfl ?_
      refine mf_getR fl_X4_18 rfl rfl dX4_nextsOf_14 ?_
      refine mf_iload_n dX4_nextsOf_17 rfl 1 rfl ?_
      refine mf_iald rfl dX4_nextsOf_18 ?_
      refine mf_leti (fun x1 => ?_)
      refine mf_istore [(4, .int x1), (0, .ref 31), (1, .int p1), (2, .int p2), (3, .ref 44)] dX4_nextsOf_19 (by decide) rfl ?_
      refine mf_iload_n dX4_nextsOf_21 rfl 3 rfl ?_
      refine mf_iconst 1 dX4_nextsOf_22 (by decide) ?_
      refine mf_isub dX4_nextsOf_23 ?_
      refine mf_leti (fun x2 => ?_)
      refine mf_istore [(5, .int x2), (4, .int x1), (0, .ref 31), (1, .int p1), (2, .int p2), (3, .ref 44)] dX4_nextsOf_24 (by decide) rfl ?_
      exact mf_sub [5, 1, 0] rfl (wlX4_nextsOf_26 l FU _ _ _)
    · exact mf_vret dX4_nextsOf_12
set_option maxRecDepth 100000 in
set_option maxHeartbeats 4000000 in
theorem wlX0_walk_1_13 (l : Launch) (a1 : Int32) (k67 : Int32 → Int32 → Int32 → Int32 → mx_G → Option (Unit × mx_G)) (hk67 : ∀ (b3 : Int32) (b4 : Int32) (b5 : Int32) (b6 : Int32) (sz : mx_G), mf_X ev l RX0 cX0_walk 7 none "walk" 0 (k67 b3 b4 b5 b6 sz) 67 [(0, .ref 9), (1, .int a1), (2, .ref 44), (3, .int b3), (4, .int b4), (5, .int b5), (6, .int b6)] [] sz) : ∀ (n : Nat) (a3 : Int32) (a4 : Int32) (a5 : Int32) (a6 : Int32) (s0 : mx_G), mf_X ev l RX0 cX0_walk 7 none "walk" 0 (lX0_walk_1_13 a1 k67 n a3 a4 a5 a6 s0) 13 [(0, .ref 9), (1, .int a1), (2, .ref 44), (3, .int a3), (4, .int a4), (5, .int a5), (6, .int a6)] [] s0 := by
  intro n
  induction n with
  | zero => intro a3 a4 a5 a6 s0; exact mf_none
  | succ n ih13 =>
    intro a3 a4 a5 a6 s0
    rw [lX0_walk_1_13]
    refine mf_iload dX0_walk_13 6 rfl ?_
    refine mf_bipush 6 dX0_walk_15 (by decide) ?_
    refine mf_icmp_ge 67 dX0_walk_17 (by decide) ?_ ?_
    · exact mf_sub [0, 1, 2, 3, 4, 5, 6] rfl (hk67 _ _ _ _ _)
    · refine mf_iload dX0_walk_20 5 rfl ?_
      refine mf_if_le 67 dX0_walk_22 (by decide) ?_ ?_
      · exact mf_sub [0, 1, 2, 3, 4, 5, 6] rfl (hk67 _ _ _ _ _)
      · refine mf_aload_n dX0_walk_25 rfl 2 rfl ?_
        refine mf_iload dX0_walk_26 5 rfl ?_
        refine mf_iald rfl dX0_walk_28 ?_
        refine mf_leti (fun x2 => ?_)
        refine mf_istore [(5, .int x2), (0, .ref 9), (1, .int a1), (2, .ref 44), (3, .int a3), (4, .int a4), (6, .int a6)] dX0_walk_29 (by decide) rfl ?_
        refine mf_iload dX0_walk_31 0 rfl ?_
        refine mf_if_lt 43 dX0_walk_33 (by decide) ?_ ?_
        · exact mf_vret dX0_walk_43
        · refine mf_iload dX0_walk_36 0 rfl ?_
          refine mf_bipush 6 dX0_walk_38 (by decide) ?_
          refine mf_icmp_lt 44 dX0_walk_40 (by decide) ?_ ?_
          · refine mf_iload_n dX0_walk_44 rfl 4 rfl ?_
            refine mf_bipush 10 dX0_walk_45 (by decide) ?_
            refine mf_imul dX0_walk_47 ?_
            refine mf_iload dX0_walk_48 0 rfl ?_
            refine mf_iadd dX0_walk_50 ?_
            refine mf_leti (fun x3 => ?_)
            refine mf_istore_n [(3, .int x3), (5, .int x2), (0, .ref 9), (1, .int a1), (2, .ref 44), (4, .int a4), (6, .int a6)] dX0_walk_51 rfl (by decide) rfl ?_
            refine mf_iload dX0_walk_52 5 rfl ?_
            refine mf_iconst 1 dX0_walk_54 (by decide) ?_
            refine mf_iload dX0_walk_55 1 rfl ?_
            refine mf_ishl dX0_walk_57 ?_
            refine mf_ior dX0_walk_58 ?_
            refine mf_leti (fun x4 => ?_)
            refine mf_istore [(4, .int x4), (3, .int x3), (5, .int x2), (0, .ref 9), (1, .int a1), (2, .ref 44), (6, .int a6)] dX0_walk_59 (by decide) rfl ?_
            refine mf_iinc 1 [(6, .int (a6 + 1)), (4, .int x4), (3, .int x3), (5, .int x2), (0, .ref 9), (1, .int a1), (2, .ref 44)] dX0_walk_61 6 rfl (by decide) (by decide) rfl ?_
            refine mf_goto 13 dX0_walk_64 (by decide) ?_
            exact mf_sub [4, 5, 6, 2, 1, 3, 0] rfl (ih13 _ _ _ _ _)
          · exact mf_vret dX0_walk_43
set_option maxRecDepth 100000 in
set_option maxHeartbeats 4000000 in
theorem wX0_walk_1 (l : Launch) (p1 : Int32) (s : mx_G) : mf_M ev l yX0_walk cX0_walk 7 none 0 [.ref 9, .int p1, .ref 44] s (fX0_walk_1 p1 s) := by
  refine mf_intro rfl (Nat.le_of_ble_eq_true rfl) rfl rfl ?_
  refine mf_sub (loc' := [(0, .ref 9), (1, .int p1), (2, .ref 44)]) [0, 1, 2] rfl ?_
  unfold fX0_walk_1
  refine mf_iload_n dX0_walk_0 rfl 1 rfl ?_
  refine mf_istore_n [(3, .int p1), (0, .ref 9), (1, .int p1), (2, .ref 44)] dX0_walk_1 rfl (by decide) rfl ?_
  refine mf_iconst 1 dX0_walk_2 (by decide) ?_
  refine mf_iload_n dX0_walk_3 rfl 2 rfl ?_
  refine mf_ishl dX0_walk_4 ?_
  refine mf_leti (fun x1 => ?_)
  refine mf_istore [(4, .int x1), (3, .int p1), (0, .ref 9), (1, .int p1), (2, .ref 44)] dX0_walk_5 (by decide) rfl ?_
  refine mf_iload_n dX0_walk_7 rfl 3 rfl ?_
  refine mf_istore [(5, .int p1), (4, .int x1), (3, .int p1), (0, .ref 9), (1, .int p1), (2, .ref 44)] dX0_walk_8 (by decide) rfl ?_
  refine mf_iconst 1 dX0_walk_10 (by decide) ?_
  refine mf_istore [(6, .int 1), (5, .int p1), (4, .int x1), (3, .int p1), (0, .ref 9), (1, .int p1), (2, .ref 44)] dX0_walk_11 (by decide) rfl ?_
  refine mf_sub [4, 5, 6, 3, 2, 1, 0] rfl (wlX0_walk_1_13 l _ _ (fun y6 y7 y8 y9 s5 => ?_) FU _ _ _ _ _)
  refine mf_iload dX0_walk_67 5 rfl ?_
  refine mf_if_ne 104 dX0_walk_69 (by decide) ?_ ?_
  · refine mf_aload_n dX0_walk_72 rfl 0 rfl ?_
    refine mf_getR fl_X0_9 rfl rfl dX0_walk_73 ?_
    refine mf_iload_n dX0_walk_76 rfl 1 rfl ?_
    refine mf_iload_n dX0_walk_77 rfl 3 rfl ?_
    refine mf_iast rfl dX0_walk_78 (fun s10 => ?_)
    refine mf_aload_n dX0_walk_79 rfl 0 rfl ?_
    refine mf_getR fl_X0_15 rfl rfl dX0_walk_80 ?_
    refine mf_iload_n dX0_walk_83 rfl 1 rfl ?_
    refine mf_iload dX0_walk_84 4 rfl ?_
    refine mf_iast rfl dX0_walk_86 (fun s11 => ?_)
    refine mf_aload_n dX0_walk_87 rfl 0 rfl ?_
    refine mf_getR fl_X0_18 rfl rfl dX0_walk_88 ?_
    refine mf_iload_n dX0_walk_91 rfl 1 rfl ?_
    refine mf_aload_n dX0_walk_92 rfl 2 rfl ?_
    refine mf_iload_n dX0_walk_93 rfl 1 rfl ?_
    refine mf_iald rfl dX0_walk_94 ?_
    refine mf_iast rfl dX0_walk_95 (fun s12 => ?_)
    refine mf_aload_n dX0_walk_96 rfl 0 rfl ?_
    refine mf_getR fl_X0_21 rfl rfl dX0_walk_97 ?_
    refine mf_iload_n dX0_walk_100 rfl 1 rfl ?_
    refine mf_iload dX0_walk_101 6 rfl ?_
    refine mf_iast rfl dX0_walk_103 (fun s13 => ?_)
    exact mf_vret dX0_walk_104
  · exact mf_vret dX0_walk_104
set_option maxRecDepth 100000 in
set_option maxHeartbeats 4000000 in
theorem wlX0_follow_1_8 (l : Launch) (a2 : Int32)   : ∀ (n : Nat) (a3 : Int32) (s0 : mx_G), mf_X ev l RX0 cX0_follow 4 none "follow" 2 (lX0_follow_1_8 a2  n a3 s0) 8 [(0, .ref 9), (1, .ref 44), (2, .int a2), (3, .int a3)] [] s0 := by
  intro n
  induction n with
  | zero => intro a3 s0; exact mf_none
  | succ n ih8 =>
    intro a3 s0
    rw [lX0_follow_1_8]
    refine mf_iload_n dX0_follow_8 rfl 3 rfl ?_
    refine mf_bipush 6 dX0_follow_9 (by decide) ?_
    refine mf_icmp_ge 36 dX0_follow_11 (by decide) ?_ ?_
    · exact mf_vret dX0_follow_36
    · refine mf_aload_n dX0_follow_14 rfl 0 rfl ?_
      refine mf_iload_n dX0_follow_15 rfl 3 rfl ?_
      refine mf_callVv (stk := []) (wX0_putNone l _ _) cl_X0_40 rfl (by decide) rfl rfl rfl (Nat.le_of_ble_eq_true rfl) rfl rfl dX0_follow_16 (fun us2 s2 => ?_)
      refine mf_iload_n dX0_follow_19 rfl 3 rfl ?_
      refine mf_iload_n dX0_follow_20 rfl 2 rfl ?_
      refine mf_icmp_ge 30 dX0_follow_21 (by decide) ?_ ?_
      · refine mf_iinc 1 [(3, .int (a3 + 1)), (0, .ref 9), (1, .ref 44), (2, .int a2)] dX0_follow_30 3 rfl (by decide) (by decide) rfl ?_
        refine mf_goto 8 dX0_follow_33 (by decide) ?_
        exact mf_sub [1, 2, 3, 0] rfl (ih8 _ _)
      · refine mf_aload_n dX0_follow_24 rfl 0 rfl ?_
        refine mf_iload_n dX0_follow_25 rfl 3 rfl ?_
        refine mf_aload_n dX0_follow_26 rfl 1 rfl ?_
        refine mf_callVv (stk := []) (wX0_walk_1 l _ _) cl_X0_44 rfl (by decide) rfl rfl rfl (Nat.le_of_ble_eq_true rfl) rfl rfl dX0_follow_27 (fun us3 s3 => ?_)
        refine mf_iinc 1 [(3, .int (a3 + 1)), (0, .ref 9), (1, .ref 44), (2, .int a2)] dX0_follow_30 3 rfl (by decide) (by decide) rfl ?_
        refine mf_goto 8 dX0_follow_33 (by decide) ?_
        exact mf_sub [1, 2, 3, 0] rfl (ih8 _ _)
set_option maxRecDepth 100000 in
set_option maxHeartbeats 4000000 in
theorem wX0_follow_1 (l : Launch) (p2 : Int32) (s : mx_G) : mf_M ev l yX0_follow cX0_follow 4 none 2 [.ref 9, .ref 44, .int p2] s (fX0_follow_1 p2 s) := by
  refine mf_intro rfl (Nat.le_of_ble_eq_true rfl) rfl rfl ?_
  refine mf_sub (loc' := [(0, .ref 9), (1, .ref 44), (2, .int p2)]) [0, 1, 2] rfl ?_
  unfold fX0_follow_1
  refine mf_aload_n dX0_follow_0 rfl 0 rfl ?_
  refine mf_iconst 0 dX0_follow_1 (by decide) ?_
  refine mf_iconst 0 dX0_follow_2 (by decide) ?_
  refine mf_callVv (stk := []) (wX0_put l _ _ _) cl_X0_33 rfl (by decide) rfl rfl rfl (Nat.le_of_ble_eq_true rfl) rfl rfl dX0_follow_3 (fun us1 s1 => ?_)
  refine mf_iconst 1 dX0_follow_6 (by decide) ?_
  refine mf_istore_n [(3, .int 1), (0, .ref 9), (1, .ref 44), (2, .int p2)] dX0_follow_7 rfl (by decide) rfl ?_
  exact mf_sub [1, 2, 3, 0] rfl (wlX0_follow_1_8 l _ FU _ _)
set_option maxRecDepth 100000 in
set_option maxHeartbeats 4000000 in
theorem wX10_stable (l : Launch) (p1 : Int32) (p2 : Int32) (s : mx_G) : mf_M ei l yX10_stable cX10_stable 3 (some .int) 15 [.ref 0, .int p1, .int p2] s (fX10_stable p1 p2 s) := by
  refine mf_intro rfl (Nat.le_of_ble_eq_true rfl) rfl rfl ?_
  refine mf_sub (loc' := [(0, .ref 0), (1, .int p1), (2, .int p2)]) [0, 1, 2] rfl ?_
  unfold fX10_stable
  refine mf_iload_n dX10_stable_0 rfl 1 rfl ?_
  refine mf_if_lt 15 dX10_stable_1 (by decide) ?_ ?_
  · refine mf_iconst (-1) dX10_stable_15 (by decide) ?_
    exact mf_iret dX10_stable_16
  · refine mf_aload_n dX10_stable_4 rfl 0 rfl ?_
    refine mf_getR fl_X10_10 rfl rfl dX10_stable_5 ?_
    refine mf_iload_n dX10_stable_8 rfl 2 rfl ?_
    refine mf_callVi (stk := []) (wX9_isDomain l _ _) cl_X10_115 rfl (by decide) rfl rfl rfl (Nat.le_of_ble_eq_true rfl) rfl rfl dX10_stable_9 (fun x1 s2 => ?_)
    refine mf_if_ne 17 dX10_stable_12 (by decide) ?_ ?_
    · refine mf_iconst (-1) dX10_stable_15 (by decide) ?_
      exact mf_iret dX10_stable_16
    · refine mf_iload_n dX10_stable_17 rfl 1 rfl ?_
      refine mf_aload_n dX10_stable_18 rfl 0 rfl ?_
      refine mf_callVi (stk := [.int p1]) (wX10_stableOnes l _) cl_X10_182 rfl (by decide) rfl rfl rfl (Nat.le_of_ble_eq_true rfl) rfl rfl dX10_stable_19 (fun x3 s4 => ?_)
      refine mf_icmp_lt 28 dX10_stable_22 (by decide) ?_ ?_
      · refine mf_aload_n dX10_stable_28 rfl 0 rfl ?_
        refine mf_getR fl_X10_57 rfl rfl dX10_stable_29 ?_
        refine mf_iload_n dX10_stable_32 rfl 1 rfl ?_
        refine mf_aload_n dX10_stable_33 rfl 0 rfl ?_
        refine mf_getR fl_X10_10 rfl rfl dX10_stable_34 ?_
        refine mf_callVi (stk := [.int p1, .ref 31]) (wX9_size l _) cl_X10_135 rfl (by decide) rfl rfl rfl (Nat.le_of_ble_eq_true rfl) rfl rfl dX10_stable_37 (fun x5 s6 => ?_)
        refine mf_aload_n dX10_stable_40 rfl 0 rfl ?_
        refine mf_getR fl_X10_82 rfl rfl dX10_stable_41 ?_
        refine mf_callVv (stk := []) (wX4_nextsOf l _ _ _) cl_X10_225 rfl (by decide) rfl rfl rfl (Nat.le_of_ble_eq_true rfl) rfl rfl dX10_stable_44 (fun us7 s7 => ?_)
        refine mf_aload_n dX10_stable_47 rfl 0 rfl ?_
        refine mf_getR fl_X10_36 rfl rfl dX10_stable_48 ?_
        refine mf_aload_n dX10_stable_51 rfl 0 rfl ?_
        refine mf_getR fl_X10_82 rfl rfl dX10_stable_52 ?_
        refine mf_aload_n dX10_stable_55 rfl 0 rfl ?_
        refine mf_getR fl_X10_10 rfl rfl dX10_stable_56 ?_
        refine mf_callVi (stk := [.ref 44, .ref 9]) (wX9_size l _) cl_X10_135 rfl (by decide) rfl rfl rfl (Nat.le_of_ble_eq_true rfl) rfl rfl dX10_stable_59 (fun x8 s9 => ?_)
        refine mf_callVv (stk := []) (wX0_follow_1 l _ _) cl_X10_229 rfl (by decide) rfl rfl rfl (Nat.le_of_ble_eq_true rfl) rfl rfl dX10_stable_62 (fun us10 s10 => ?_)
        refine mf_aload_n dX10_stable_65 rfl 0 rfl ?_
        refine mf_getR fl_X10_36 rfl rfl dX10_stable_66 ?_
        refine mf_iload_n dX10_stable_69 rfl 2 rfl ?_
        refine mf_callVi (stk := []) (wX0_wayOf l _ _) cl_X10_233 rfl (by decide) rfl rfl rfl (Nat.le_of_ble_eq_true rfl) rfl rfl dX10_stable_70 (fun x11 s12 => ?_)
        exact mf_iret dX10_stable_73
      · refine mf_bipush (-2) dX10_stable_25 (by decide) ?_
        exact mf_iret dX10_stable_27
set_option maxRecDepth 100000 in
set_option maxHeartbeats 4000000 in
theorem wlJA_fillL_6 (l : Launch) (a1 : Int64) (a4 : Int32)   : ∀ (n : Nat) (a3 : Int32) (s0 : mx_G), mf_X ev l "java/util/Arrays" cJA_fillL 5 none "fill" 0 (lJA_fillL_6 a1 a4  n a3 s0) 6 [(0, .ref 26), (1, .long a1), (3, .int a3), (4, .int a4)] [] s0 := by
  intro n
  induction n with
  | zero => intro a3 s0; exact mf_none
  | succ n ih6 =>
    intro a3 s0
    rw [lJA_fillL_6]
    refine mf_iload_n dJA_fillL_6 rfl 2 rfl ?_
    refine mf_iload dJA_fillL_7 3 rfl ?_
    refine mf_icmp_ge 22 dJA_fillL_9 (by decide) ?_ ?_
    · exact mf_vret dJA_fillL_22
    · refine mf_aload_n dJA_fillL_12 rfl 0 rfl ?_
      refine mf_iload_n dJA_fillL_13 rfl 2 rfl ?_
      refine mf_lload_n dJA_fillL_14 rfl 1 rfl ?_
      refine mf_last rfl dJA_fillL_15 (fun s1 => ?_)
      refine mf_iinc 1 [(3, .int (a3 + 1)), (0, .ref 26), (1, .long a1), (4, .int a4)] dJA_fillL_16 2 rfl (by decide) (by decide) rfl ?_
      refine mf_goto 6 dJA_fillL_19 (by decide) ?_
      exact mf_sub [1, 2, 0, 3] rfl (ih6 _ _)
set_option maxRecDepth 100000 in
set_option maxHeartbeats 4000000 in
theorem wJA_fillL (l : Launch) (p1 : Int64) (s : mx_G) : mf_M ev l yJA_fillL cJA_fillL 5 none 0 [.ref 26, .long p1] s (fJA_fillL p1 s) := by
  refine mf_intro rfl (Nat.le_of_ble_eq_true rfl) rfl rfl ?_
  refine mf_sub (loc' := [(0, .ref 26), (1, .long p1)]) [0, 1] rfl ?_
  unfold fJA_fillL
  refine mf_iconst 0 dJA_fillL_0 (by decide) ?_
  refine mf_istore_n [(3, .int 0), (0, .ref 26), (1, .long p1)] dJA_fillL_1 rfl (by decide) rfl ?_
  refine mf_aload_n dJA_fillL_2 rfl 1 rfl ?_
  refine mf_alenl 1956 rfl (by decide) dJA_fillL_3 ?_
  refine mf_istore [(4, .int 1956), (3, .int 0), (0, .ref 26), (1, .long p1)] dJA_fillL_4 (by decide) rfl ?_
  exact mf_sub [2, 3, 1, 0] rfl (wlJA_fillL_6 l _ _ FU _ _)
set_option maxRecDepth 100000 in
set_option maxHeartbeats 4000000 in
theorem wlJA_fillL_1_6 (l : Launch) (a1 : Int64) (a4 : Int32)   : ∀ (n : Nat) (a3 : Int32) (s0 : mx_G), mf_X ev l "java/util/Arrays" cJA_fillL 5 none "fill" 0 (lJA_fillL_1_6 a1 a4  n a3 s0) 6 [(0, .ref 27), (1, .long a1), (3, .int a3), (4, .int a4)] [] s0 := by
  intro n
  induction n with
  | zero => intro a3 s0; exact mf_none
  | succ n ih6 =>
    intro a3 s0
    rw [lJA_fillL_1_6]
    refine mf_iload_n dJA_fillL_6 rfl 2 rfl ?_
    refine mf_iload dJA_fillL_7 3 rfl ?_
    refine mf_icmp_ge 22 dJA_fillL_9 (by decide) ?_ ?_
    · exact mf_vret dJA_fillL_22
    · refine mf_aload_n dJA_fillL_12 rfl 0 rfl ?_
      refine mf_iload_n dJA_fillL_13 rfl 2 rfl ?_
      refine mf_lload_n dJA_fillL_14 rfl 1 rfl ?_
      refine mf_last rfl dJA_fillL_15 (fun s1 => ?_)
      refine mf_iinc 1 [(3, .int (a3 + 1)), (0, .ref 27), (1, .long a1), (4, .int a4)] dJA_fillL_16 2 rfl (by decide) (by decide) rfl ?_
      refine mf_goto 6 dJA_fillL_19 (by decide) ?_
      exact mf_sub [1, 2, 0, 3] rfl (ih6 _ _)
set_option maxRecDepth 100000 in
set_option maxHeartbeats 4000000 in
theorem wJA_fillL_1 (l : Launch) (p1 : Int64) (s : mx_G) : mf_M ev l yJA_fillL cJA_fillL 5 none 0 [.ref 27, .long p1] s (fJA_fillL_1 p1 s) := by
  refine mf_intro rfl (Nat.le_of_ble_eq_true rfl) rfl rfl ?_
  refine mf_sub (loc' := [(0, .ref 27), (1, .long p1)]) [0, 1] rfl ?_
  unfold fJA_fillL_1
  refine mf_iconst 0 dJA_fillL_0 (by decide) ?_
  refine mf_istore_n [(3, .int 0), (0, .ref 27), (1, .long p1)] dJA_fillL_1 rfl (by decide) rfl ?_
  refine mf_aload_n dJA_fillL_2 rfl 1 rfl ?_
  refine mf_alenl 6 rfl (by decide) dJA_fillL_3 ?_
  refine mf_istore [(4, .int 6), (3, .int 0), (0, .ref 27), (1, .long p1)] dJA_fillL_4 (by decide) rfl ?_
  exact mf_sub [2, 3, 1, 0] rfl (wlJA_fillL_1_6 l _ _ FU _ _)
set_option maxRecDepth 100000 in
set_option maxHeartbeats 4000000 in
theorem wX8_tailOf (l : Launch) (p1 : Int32) (s : mx_G) : mf_M ei l yX8_tailOf cX8_tailOf 2 (some .int) 0 [.ref 15, .int p1] s (fX8_tailOf p1 s) := by
  refine mf_intro rfl (Nat.le_of_ble_eq_true rfl) rfl rfl ?_
  refine mf_sub (loc' := [(0, .ref 15), (1, .int p1)]) [0, 1] rfl ?_
  unfold fX8_tailOf
  refine mf_aload_n dX8_tailOf_0 rfl 0 rfl ?_
  refine mf_getR fl_X8_27 rfl rfl dX8_tailOf_1 ?_
  refine mf_iload_n dX8_tailOf_4 rfl 1 rfl ?_
  refine mf_iald rfl dX8_tailOf_5 ?_
  exact mf_iret dX8_tailOf_6
set_option maxRecDepth 100000 in
set_option maxHeartbeats 4000000 in
theorem wX8_ownerOf (l : Launch) (p1 : Int32) (s : mx_G) : mf_M ei l yX8_ownerOf cX8_ownerOf 2 (some .int) 0 [.ref 15, .int p1] s (fX8_ownerOf p1 s) := by
  refine mf_intro rfl (Nat.le_of_ble_eq_true rfl) rfl rfl ?_
  refine mf_sub (loc' := [(0, .ref 15), (1, .int p1)]) [0, 1] rfl ?_
  unfold fX8_ownerOf
  refine mf_aload_n dX8_ownerOf_0 rfl 0 rfl ?_
  refine mf_getR fl_X8_24 rfl rfl dX8_ownerOf_1 ?_
  refine mf_iload_n dX8_ownerOf_4 rfl 1 rfl ?_
  refine mf_iald rfl dX8_ownerOf_5 ?_
  exact mf_iret dX8_ownerOf_6
set_option maxRecDepth 100000 in
set_option maxHeartbeats 4000000 in
theorem wX5_mark (l : Launch) (p1 : Int32) (p2 : Int32) (s : mx_G) : mf_M ev l yX5_mark cX5_mark 3 none 0 [.ref 25, .int p1, .int p2] s (fX5_mark p1 p2 s) := by
  refine mf_intro rfl (Nat.le_of_ble_eq_true rfl) rfl rfl ?_
  refine mf_sub (loc' := [(0, .ref 25), (1, .int p1), (2, .int p2)]) [0, 1, 2] rfl ?_
  unfold fX5_mark
  refine mf_aload_n dX5_mark_0 rfl 0 rfl ?_
  refine mf_getR fl_X5_26 rfl rfl dX5_mark_1 ?_
  refine mf_iload_n dX5_mark_4 rfl 1 rfl ?_
  refine mf_bipush 6 dX5_mark_5 (by decide) ?_
  refine mf_imul dX5_mark_7 ?_
  refine mf_iload_n dX5_mark_8 rfl 2 rfl ?_
  refine mf_bipush 64 dX5_mark_9 (by decide) ?_
  refine mf_idiv (by decide) dX5_mark_11 ?_
  refine mf_iadd dX5_mark_12 ?_
  refine mf_dup2 rfl rfl dX5_mark_13 ?_
  refine mf_lald rfl dX5_mark_14 ?_
  refine mf_lconst 1 dX5_mark_15 (by decide) ?_
  refine mf_iload_n dX5_mark_16 rfl 2 rfl ?_
  refine mf_bipush 64 dX5_mark_17 (by decide) ?_
  refine mf_irem (by decide) dX5_mark_19 ?_
  refine mf_lshl dX5_mark_20 ?_
  refine mf_lor dX5_mark_21 ?_
  refine mf_last rfl dX5_mark_22 (fun s1 => ?_)
  exact mf_vret dX5_mark_23
set_option maxRecDepth 100000 in
set_option maxHeartbeats 4000000 in
theorem wX8_placeOf (l : Launch) (p1 : Int32) (s : mx_G) : mf_M ei l yX8_placeOf cX8_placeOf 2 (some .int) 0 [.ref 15, .int p1] s (fX8_placeOf p1 s) := by
  refine mf_intro rfl (Nat.le_of_ble_eq_true rfl) rfl rfl ?_
  refine mf_sub (loc' := [(0, .ref 15), (1, .int p1)]) [0, 1] rfl ?_
  unfold fX8_placeOf
  refine mf_aload_n dX8_placeOf_0 rfl 0 rfl ?_
  refine mf_getR fl_X8_39 rfl rfl dX8_placeOf_1 ?_
  refine mf_iload_n dX8_placeOf_4 rfl 1 rfl ?_
  refine mf_iald rfl dX8_placeOf_5 ?_
  exact mf_iret dX8_placeOf_6
set_option maxRecDepth 100000 in
set_option maxHeartbeats 4000000 in
theorem wX8_membersOf (l : Launch) (p1 : Int32) (s : mx_G) : mf_M ei l yX8_membersOf cX8_membersOf 2 (some .int) 0 [.ref 15, .int p1] s (fX8_membersOf p1 s) := by
  refine mf_intro rfl (Nat.le_of_ble_eq_true rfl) rfl rfl ?_
  refine mf_sub (loc' := [(0, .ref 15), (1, .int p1)]) [0, 1] rfl ?_
  unfold fX8_membersOf
  refine mf_aload_n dX8_membersOf_0 rfl 0 rfl ?_
  refine mf_getR fl_X8_33 rfl rfl dX8_membersOf_1 ?_
  refine mf_iload_n dX8_membersOf_4 rfl 1 rfl ?_
  refine mf_iald rfl dX8_membersOf_5 ?_
  exact mf_iret dX8_membersOf_6
set_option maxRecDepth 100000 in
set_option maxHeartbeats 4000000 in
theorem wX8_isBriefer (l : Launch) (p1 : Int32) (p2 : Int32) (s : mx_G) : mf_M ei l yX8_isBriefer cX8_isBriefer 3 (some .boolean) 0 [.ref 15, .int p1, .int p2] s (fX8_isBriefer p1 p2 s) := by
  refine mf_intro rfl (Nat.le_of_ble_eq_true rfl) rfl rfl ?_
  refine mf_sub (loc' := [(0, .ref 15), (1, .int p1), (2, .int p2)]) [0, 1, 2] rfl ?_
  unfold fX8_isBriefer
  refine mf_aload_n dX8_isBriefer_0 rfl 0 rfl ?_
  refine mf_getR fl_X8_30 rfl rfl dX8_isBriefer_1 ?_
  refine mf_iload_n dX8_isBriefer_4 rfl 1 rfl ?_
  refine mf_iald rfl dX8_isBriefer_5 ?_
  refine mf_ldc kl_X8_49 dX8_isBriefer_6 ?_
  refine mf_irem (by decide) dX8_isBriefer_8 ?_
  refine mf_aload_n dX8_isBriefer_9 rfl 0 rfl ?_
  refine mf_getR fl_X8_30 rfl rfl dX8_isBriefer_10 ?_
  refine mf_iload_n dX8_isBriefer_13 rfl 2 rfl ?_
  refine mf_iald rfl dX8_isBriefer_14 ?_
  refine mf_ldc kl_X8_49 dX8_isBriefer_15 ?_
  refine mf_irem (by decide) dX8_isBriefer_17 ?_
  refine mf_icmp_ge 25 dX8_isBriefer_18 (by decide) ?_ ?_
  · refine mf_iconst 0 dX8_isBriefer_25 (by decide) ?_
    exact mf_zret (by decide) dX8_isBriefer_26
  · refine mf_iconst 1 dX8_isBriefer_21 (by decide) ?_
    refine mf_goto 26 dX8_isBriefer_22 (by decide) ?_
    exact mf_zret (by decide) dX8_isBriefer_26
set_option maxRecDepth 100000 in
set_option maxHeartbeats 4000000 in
theorem wlX5_noteLeading_32 (l : Launch) (a3 : Int32) (a4 : Int32) (a5 : Int32) (a6 : Int32)   : ∀ (n : Nat) (a7 : Int32) (s0 : mx_G), mf_X ev l RX5 cX5_noteLeading 10 none "noteLeading" 2 (lX5_noteLeading_32 a3 a4 a5 a6  n a7 s0) 32 [(0, .ref 25), (1, .ref 1), (2, .ref 15), (3, .int a3), (4, .int a4), (5, .int a5), (6, .int a6), (7, .int a7)] [] s0 := by
  intro n
  induction n with
  | zero => intro a7 s0; exact mf_none
  | succ n ih32 =>
    intro a7 s0
    rw [lX5_noteLeading_32]
    refine mf_iload dX5_noteLeading_32 7 rfl ?_
    refine mf_aload_n dX5_noteLeading_34 rfl 2 rfl ?_
    refine mf_iload dX5_noteLeading_35 4 rfl ?_
    refine mf_callVi (stk := [.int a7]) (wX8_placeOf l _ _) cl_X5_77 rfl (by decide) rfl rfl rfl (Nat.le_of_ble_eq_true rfl) rfl rfl dX5_noteLeading_37 (fun x8 s9 => ?_)
    refine mf_icmp_ge 104 dX5_noteLeading_40 (by decide) ?_ ?_
    · exact mf_vret dX5_noteLeading_104
    · refine mf_aload_n dX5_noteLeading_43 rfl 2 rfl ?_
      refine mf_iload dX5_noteLeading_44 6 rfl ?_
      refine mf_iload dX5_noteLeading_46 7 rfl ?_
      refine mf_callVi (stk := []) (wX8_rankedAt l _ _ _) cl_X5_80 rfl (by decide) rfl rfl rfl (Nat.le_of_ble_eq_true rfl) rfl rfl dX5_noteLeading_48 (fun x10 s11 => ?_)
      refine mf_istore [(8, .int x10), (0, .ref 25), (1, .ref 1), (2, .ref 15), (3, .int a3), (4, .int a4), (5, .int a5), (6, .int a6), (7, .int a7)] dX5_noteLeading_51 (by decide) rfl ?_
      refine mf_aload_n dX5_noteLeading_53 rfl 2 rfl ?_
      refine mf_iload dX5_noteLeading_54 6 rfl ?_
      refine mf_iload dX5_noteLeading_56 7 rfl ?_
      refine mf_aload_n dX5_noteLeading_58 rfl 3 rfl ?_
      refine mf_iload dX5_noteLeading_59 0 rfl ?_
      refine mf_callVi (stk := [.int a6, .int a5, .ref 1]) (wX8_membersOf l _ _) cl_X5_84 rfl (by decide) rfl rfl rfl (Nat.le_of_ble_eq_true rfl) rfl rfl dX5_noteLeading_61 (fun x12 s13 => ?_)
      refine mf_aload_n dX5_noteLeading_64 rfl 3 rfl ?_
      refine mf_iload dX5_noteLeading_65 0 rfl ?_
      refine mf_callVi (stk := [.int x12, .int a6, .int a5, .ref 1]) (wX8_secondOf l _ _) cl_X5_87 rfl (by decide) rfl rfl rfl (Nat.le_of_ble_eq_true rfl) rfl rfl dX5_noteLeading_67 (fun x14 s15 => ?_)
      refine mf_callVi (stk := []) (wX9_takes l _ _ _ _ _) cl_X5_90 rfl (by decide) rfl rfl rfl (Nat.le_of_ble_eq_true rfl) rfl rfl dX5_noteLeading_70 (fun x16 s17 => ?_)
      refine mf_istore [(9, .int x16), (8, .int x10), (0, .ref 25), (1, .ref 1), (2, .ref 15), (3, .int a3), (4, .int a4), (5, .int a5), (6, .int a6), (7, .int a7)] dX5_noteLeading_73 (by decide) rfl ?_
      refine mf_iload dX5_noteLeading_75 0 rfl ?_
      refine mf_if_eq 91 dX5_noteLeading_77 (by decide) ?_ ?_
      · refine mf_aload_n dX5_noteLeading_91 rfl 2 rfl ?_
        refine mf_iload dX5_noteLeading_92 1 rfl ?_
        refine mf_iload_n dX5_noteLeading_94 rfl 5 rfl ?_
        refine mf_callVv (stk := []) (wX5_mark l _ _ _) cl_X5_73 rfl (by decide) rfl rfl rfl (Nat.le_of_ble_eq_true rfl) rfl rfl dX5_noteLeading_95 (fun us18 s18 => ?_)
        refine mf_iinc 1 [(7, .int (a7 + 1)), (9, .int x16), (8, .int x10), (0, .ref 25), (1, .ref 1), (2, .ref 15), (3, .int a3), (4, .int a4), (5, .int a5), (6, .int a6)] dX5_noteLeading_98 9 rfl (by decide) (by decide) rfl ?_
        refine mf_goto 32 dX5_noteLeading_101 (by decide) ?_
        exact mf_sub [3, 4, 5, 6, 7, 8, 9, 0] rfl (ih32 _ _)
      · refine mf_aload_n dX5_noteLeading_80 rfl 4 rfl ?_
        refine mf_iload dX5_noteLeading_81 1 rfl ?_
        refine mf_iload dX5_noteLeading_83 6 rfl ?_
        refine mf_callVi (stk := []) (wX8_isBriefer l _ _ _) cl_X5_96 rfl (by decide) rfl rfl rfl (Nat.le_of_ble_eq_true rfl) rfl rfl dX5_noteLeading_85 (fun x19 s20 => ?_)
        refine mf_if_ne 98 dX5_noteLeading_88 (by decide) ?_ ?_
        · refine mf_aload_n dX5_noteLeading_91 rfl 2 rfl ?_
          refine mf_iload dX5_noteLeading_92 1 rfl ?_
          refine mf_iload_n dX5_noteLeading_94 rfl 5 rfl ?_
          refine mf_callVv (stk := []) (wX5_mark l _ _ _) cl_X5_73 rfl (by decide) rfl rfl rfl (Nat.le_of_ble_eq_true rfl) rfl rfl dX5_noteLeading_95 (fun us21 s21 => ?_)
          refine mf_iinc 1 [(7, .int (a7 + 1)), (9, .int x16), (8, .int x10), (0, .ref 25), (1, .ref 1), (2, .ref 15), (3, .int a3), (4, .int a4), (5, .int a5), (6, .int a6)] dX5_noteLeading_98 9 rfl (by decide) (by decide) rfl ?_
          refine mf_goto 32 dX5_noteLeading_101 (by decide) ?_
          exact mf_sub [3, 4, 5, 6, 7, 8, 9, 0] rfl (ih32 _ _)
        · refine mf_iinc 1 [(7, .int (a7 + 1)), (9, .int x16), (8, .int x10), (0, .ref 25), (1, .ref 1), (2, .ref 15), (3, .int a3), (4, .int a4), (5, .int a5), (6, .int a6)] dX5_noteLeading_98 9 rfl (by decide) (by decide) rfl ?_
          refine mf_goto 32 dX5_noteLeading_101 (by decide) ?_
          exact mf_sub [3, 4, 5, 6, 7, 8, 9, 0] rfl (ih32 _ _)
set_option maxRecDepth 100000 in
set_option maxHeartbeats 4000000 in
theorem wX5_noteLeading (l : Launch) (p3 : Int32) (s : mx_G) : mf_M ev l yX5_noteLeading cX5_noteLeading 10 none 2 [.ref 25, .ref 1, .ref 15, .int p3] s (fX5_noteLeading p3 s) := by
  refine mf_intro rfl (Nat.le_of_ble_eq_true rfl) rfl rfl ?_
  refine mf_sub (loc' := [(0, .ref 25), (1, .ref 1), (2, .ref 15), (3, .int p3)]) [0, 1, 2, 3] rfl ?_
  unfold fX5_noteLeading
  refine mf_aload_n dX5_noteLeading_0 rfl 2 rfl ?_
  refine mf_iload_n dX5_noteLeading_1 rfl 3 rfl ?_
  refine mf_callVi (stk := []) (wX8_tailOf l _ _) cl_X5_66 rfl (by decide) rfl rfl rfl (Nat.le_of_ble_eq_true rfl) rfl rfl dX5_noteLeading_2 (fun x1 s2 => ?_)
  refine mf_istore [(4, .int x1), (0, .ref 25), (1, .ref 1), (2, .ref 15), (3, .int p3)] dX5_noteLeading_5 (by decide) rfl ?_
  refine mf_aload_n dX5_noteLeading_7 rfl 3 rfl ?_
  refine mf_iload_n dX5_noteLeading_8 rfl 4 rfl ?_
  refine mf_callVi (stk := []) (wX8_ownerOf l _ _) cl_X5_70 rfl (by decide) rfl rfl rfl (Nat.le_of_ble_eq_true rfl) rfl rfl dX5_noteLeading_9 (fun x3 s4 => ?_)
  refine mf_istore [(5, .int x3), (4, .int x1), (0, .ref 25), (1, .ref 1), (2, .ref 15), (3, .int p3)] dX5_noteLeading_12 (by decide) rfl ?_
  refine mf_aload_n dX5_noteLeading_14 rfl 4 rfl ?_
  refine mf_iload dX5_noteLeading_15 1 rfl ?_
  refine mf_callVi (stk := []) (wX8_ownerOf l _ _) cl_X5_70 rfl (by decide) rfl rfl rfl (Nat.le_of_ble_eq_true rfl) rfl rfl dX5_noteLeading_17 (fun x5 s6 => ?_)
  refine mf_istore [(6, .int x5), (5, .int x3), (4, .int x1), (0, .ref 25), (1, .ref 1), (2, .ref 15), (3, .int p3)] dX5_noteLeading_20 (by decide) rfl ?_
  refine mf_aload_n dX5_noteLeading_22 rfl 3 rfl ?_
  refine mf_iload dX5_noteLeading_23 2 rfl ?_
  refine mf_iload_n dX5_noteLeading_25 rfl 6 rfl ?_
  refine mf_callVv (stk := []) (wX5_mark l _ _ _) cl_X5_73 rfl (by decide) rfl rfl rfl (Nat.le_of_ble_eq_true rfl) rfl rfl dX5_noteLeading_26 (fun us7 s7 => ?_)
  refine mf_iconst 0 dX5_noteLeading_29 (by decide) ?_
  refine mf_istore [(7, .int 0), (6, .int x5), (5, .int x3), (4, .int x1), (0, .ref 25), (1, .ref 1), (2, .ref 15), (3, .int p3)] dX5_noteLeading_30 (by decide) rfl ?_
  exact mf_sub [4, 5, 6, 7, 3, 2, 1, 0] rfl (wlX5_noteLeading_32 l _ _ _ _ FU _ _)
