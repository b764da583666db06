set_option maxRecDepth 100000 in
set_option maxHeartbeats 4000000 in
theorem wX10_tried (l : Launch) (p1 : Int32) (p2 : Int32) (p3 : Int32) (s : mx_G) : mf_M ei l yX10_tried cX10_tried 9 (some .int) 4 [.ref 0, .int p1, .int p2, .int p3] s (fX10_tried p1 p2 p3 s) := by
  refine mf_intro rfl (Nat.le_of_ble_eq_true rfl) rfl rfl ?_
  refine mf_sub (loc' := [(0, .ref 0), (1, .int p1), (2, .int p2), (3, .int p3)]) [0, 1, 2, 3] rfl ?_
  unfold fX10_tried
  refine mf_aload_n dX10_tried_0 rfl 0 rfl ?_
  refine mf_getR fl_X10_10 rfl rfl dX10_tried_1 ?_
  refine mf_callVi (stk := []) (wX9_size l _) cl_X10_135 rfl (by decide) rfl rfl rfl (Nat.le_of_ble_eq_true rfl) rfl rfl dX10_tried_4 (fun x1 s2 => ?_)
  refine mf_istore [(4, .int x1), (0, .ref 0), (1, .int p1), (2, .int p2), (3, .int p3)] dX10_tried_7 (by decide) rfl ?_
  refine mf_aload_n dX10_tried_9 rfl 1 rfl ?_
  refine mf_getR fl_X10_78 rfl rfl dX10_tried_10 ?_
  refine mf_iload_n dX10_tried_13 rfl 2 rfl ?_
  refine mf_iload_n dX10_tried_14 rfl 3 rfl ?_
  refine mf_iload_n dX10_tried_15 rfl 4 rfl ?_
  refine mf_iload dX10_tried_16 0 rfl ?_
  refine mf_iconst 1 dX10_tried_18 (by decide) ?_
  refine mf_isub dX10_tried_19 ?_
  refine mf_callVi (stk := []) (wX6_refusal l _ _ _ _ _) cl_X10_282 rfl (by decide) rfl rfl rfl (Nat.le_of_ble_eq_true rfl) rfl rfl dX10_tried_20 (fun x3 s4 => ?_)
  refine mf_istore [(5, .int x3), (4, .int x1), (0, .ref 0), (1, .int p1), (2, .int p2), (3, .int p3)] dX10_tried_23 (by decide) rfl ?_
  refine mf_iload dX10_tried_25 0 rfl ?_
  refine mf_if_eq 33 dX10_tried_27 (by decide) ?_ ?_
  · refine mf_iconst 1 dX10_tried_33 (by decide) ?_
    refine mf_istore [(6, .int 1), (5, .int x3), (4, .int x1), (0, .ref 0), (1, .int p1), (2, .int p2), (3, .int p3)] dX10_tried_34 (by decide) rfl ?_
    refine mf_sub [3, 4, 6, 2, 0] rfl (wlX10_tried_36 l _ _ _ _ (fun s8 => ?_) FU _ _)
    refine mf_aload_n dX10_tried_103 rfl 0 rfl ?_
    refine mf_getR fl_X10_36 rfl rfl dX10_tried_104 ?_
    refine mf_aload_n dX10_tried_107 rfl 0 rfl ?_
    refine mf_getR fl_X10_82 rfl rfl dX10_tried_108 ?_
    refine mf_iload dX10_tried_111 1 rfl ?_
    refine mf_callVv (stk := []) (wX0_follow_1 l _ _) cl_X10_229 rfl (by decide) rfl rfl rfl (Nat.le_of_ble_eq_true rfl) rfl rfl dX10_tried_113 (fun us9 s9 => ?_)
    refine mf_aload_n dX10_tried_116 rfl 0 rfl ?_
    refine mf_getR fl_X10_36 rfl rfl dX10_tried_117 ?_
    refine mf_aload_n dX10_tried_120 rfl 0 rfl ?_
    refine mf_getR fl_X10_10 rfl rfl dX10_tried_121 ?_
    refine mf_callVi (stk := []) (wX0_discontents l _) cl_X10_292 rfl (by decide) rfl rfl rfl (Nat.le_of_ble_eq_true rfl) rfl rfl dX10_tried_124 (fun x10 s11 => ?_)
    exact mf_iret dX10_tried_127
  · refine mf_iload dX10_tried_30 0 rfl ?_
    exact mf_iret dX10_tried_32
set_option maxRecDepth 100000 in
set_option maxHeartbeats 4000000 in
theorem wX0_secondOf (l : Launch) (p1 : Int32) (s : mx_G) : mf_M ei l yX0_secondOf cX0_secondOf 2 (some .int) 0 [.ref 9, .int p1] s (fX0_secondOf p1 s) := by
  refine mf_intro rfl (Nat.le_of_ble_eq_true rfl) rfl rfl ?_
  refine mf_sub (loc' := [(0, .ref 9), (1, .int p1)]) [0, 1] rfl ?_
  unfold fX0_secondOf
  refine mf_aload_n dX0_secondOf_0 rfl 0 rfl ?_
  refine mf_getR fl_X0_18 rfl rfl dX0_secondOf_1 ?_
  refine mf_iload_n dX0_secondOf_4 rfl 1 rfl ?_
  refine mf_iald rfl dX0_secondOf_5 ?_
  exact mf_iret dX0_secondOf_6
set_option maxRecDepth 100000 in
set_option maxHeartbeats 4000000 in
theorem wX6_narrowed (l : Launch) (p0 : Int32) (p1 : Int64) (s : mx_G) : mf_M el l yX6_narrowed cX6_narrowed 3 (some .long) 0 [.int p0, .long p1] s (fX6_narrowed p0 p1 s) := by
  refine mf_intro rfl (Nat.le_of_ble_eq_true rfl) rfl rfl ?_
  refine mf_sub (loc' := [(0, .int p0), (1, .long p1)]) [0, 1] rfl ?_
  unfold fX6_narrowed
  refine mf_iload_n dX6_narrowed_0 rfl 0 rfl ?_
  refine mf_if (fun c0 => mf_tabIn (off := 27) 28 dX6_narrowed_1 c0 (by decide) (by decide) (by decide) (by decide) ?_) (fun c0 => ?_)
  · refine mf_lload_n dX6_narrowed_28 rfl 1 rfl ?_
    refine mf_l2i dX6_narrowed_29 ?_
    refine mf_i2b dX6_narrowed_30 ?_
    refine mf_i2l dX6_narrowed_31 ?_
    exact mf_lret dX6_narrowed_32
  refine mf_if (fun c1 => mf_tabIn (off := 32) 33 dX6_narrowed_1 c1 (by decide) (by decide) (by decide) (by decide) ?_) (fun c1 => ?_)
  · refine mf_lload_n dX6_narrowed_33 rfl 1 rfl ?_
    refine mf_l2i dX6_narrowed_34 ?_
    refine mf_i2s dX6_narrowed_35 ?_
    refine mf_i2l dX6_narrowed_36 ?_
    exact mf_lret dX6_narrowed_37
  refine mf_if (fun c2 => mf_tabIn (off := 37) 38 dX6_narrowed_1 c2 (by decide) (by decide) (by decide) (by decide) ?_) (fun c2 => ?_)
  · refine mf_lload_n dX6_narrowed_38 rfl 1 rfl ?_
    refine mf_l2i dX6_narrowed_39 ?_
    refine mf_i2l dX6_narrowed_40 ?_
    exact mf_lret dX6_narrowed_41
  refine mf_tabOut 42 dX6_narrowed_1 (fun j hj => by rcases (show j = 0 ∨ j = 1 ∨ j = 2 by omega) with rfl | rfl | rfl <;> assumption) (by decide) ?_
  refine mf_lload_n dX6_narrowed_42 rfl 1 rfl ?_
  exact mf_lret dX6_narrowed_43
set_option maxRecDepth 100000 in
set_option maxHeartbeats 4000000 in
theorem wX6_setItem (l : Launch) (p1 : Int32) (p2 : Int32) (p3 : Int64) (s : mx_G) : mf_M ev l yX6_setItem cX6_setItem 5 none 1 [.ref 40, .int p1, .int p2, .long p3] s (fX6_setItem p1 p2 p3 s) := by
  refine mf_intro rfl (Nat.le_of_ble_eq_true rfl) rfl rfl ?_
  refine mf_sub (loc' := [(0, .ref 40), (1, .int p1), (2, .int p2), (3, .long p3)]) [0, 1, 2, 3] rfl ?_
  unfold fX6_setItem
  refine mf_aload_n dX6_setItem_0 rfl 0 rfl ?_
  refine mf_getR fl_X6_18 rfl rfl dX6_setItem_1 ?_
  refine mf_iload_n dX6_setItem_4 rfl 1 rfl ?_
  refine mf_bipush 24 dX6_setItem_5 (by decide) ?_
  refine mf_imul dX6_setItem_7 ?_
  refine mf_iload_n dX6_setItem_8 rfl 2 rfl ?_
  refine mf_iadd dX6_setItem_9 ?_
  refine mf_aload_n dX6_setItem_10 rfl 0 rfl ?_
  refine mf_getR fl_X6_11 rfl rfl dX6_setItem_11 ?_
  refine mf_iload_n dX6_setItem_14 rfl 1 rfl ?_
  refine mf_iald rfl dX6_setItem_15 ?_
  refine mf_lload_n dX6_setItem_16 rfl 3 rfl ?_
  refine mf_callSl (stk := [.int ((p1 * 24) + p2), .ref 43]) (wX6_narrowed l _ _ _) cl_X6_42 rfl (by decide) rfl (Nat.le_of_ble_eq_true rfl) rfl rfl dX6_setItem_17 (fun x1 s2 => ?_)
  refine mf_last rfl dX6_setItem_20 (fun s3 => ?_)
  exact mf_vret dX6_setItem_21
set_option maxRecDepth 100000 in
set_option maxHeartbeats 4000000 in
theorem wlX10_film_47 (l : Launch) (a1 : Int32) (a3 : Int32) (a4 : Int32)   : ∀ (n : Nat) (a6 : Int32) (s0 : mx_G), mf_X ei l RX10 cX10_film 7 (some .int) "film" 3 (lX10_film_47 a1 a3 a4  n a6 s0) 47 [(0, .ref 0), (1, .int a1), (3, .int a3), (4, .int a4), (6, .int a6)] [] s0 := by
  intro n
  induction n with
  | zero => intro a6 s0; exact mf_none
  | succ n ih47 =>
    intro a6 s0
    rw [lX10_film_47]
    refine mf_iload dX10_film_47 4 rfl ?_
    refine mf_iload dX10_film_49 3 rfl ?_
    refine mf_icmp_ge 84 dX10_film_51 (by decide) ?_ ?_
    · refine mf_iload dX10_film_84 3 rfl ?_
      refine mf_iconst 1 dX10_film_86 (by decide) ?_
      refine mf_isub dX10_film_87 ?_
      exact mf_iret dX10_film_88
    · refine mf_aload_n dX10_film_54 rfl 0 rfl ?_
      refine mf_getR fl_X10_78 rfl rfl dX10_film_55 ?_
      refine mf_iload_n dX10_film_58 rfl 1 rfl ?_
      refine mf_iload_n dX10_film_59 rfl 2 rfl ?_
      refine mf_iload dX10_film_60 4 rfl ?_
      refine mf_iadd dX10_film_62 ?_
      refine mf_iconst 1 dX10_film_63 (by decide) ?_
      refine mf_isub dX10_film_64 ?_
      refine mf_aload_n dX10_film_65 rfl 0 rfl ?_
      refine mf_getR fl_X10_36 rfl rfl dX10_film_66 ?_
      refine mf_iload dX10_film_69 4 rfl ?_
      refine mf_callVi (stk := [.int ((a3 + a6) - 1), .int a1, .ref 40]) (wX0_secondOf l _ _) cl_X10_296 rfl (by decide) rfl rfl rfl (Nat.le_of_ble_eq_true rfl) rfl rfl dX10_film_71 (fun x6 s7 => ?_)
      refine mf_i2l dX10_film_74 ?_
      refine mf_callVv (stk := []) (wX6_setItem l _ _ _ _) cl_X10_299 rfl (by decide) rfl rfl rfl (Nat.le_of_ble_eq_true rfl) rfl rfl dX10_film_75 (fun us8 s8 => ?_)
      refine mf_iinc 1 [(6, .int (a6 + 1)), (0, .ref 0), (1, .int a1), (3, .int a3), (4, .int a4)] dX10_film_78 4 rfl (by decide) (by decide) rfl ?_
      refine mf_goto 47 dX10_film_81 (by decide) ?_
      exact mf_sub [1, 2, 3, 4, 0] rfl (ih47 _ _)
set_option maxRecDepth 100000 in
set_option maxHeartbeats 4000000 in
theorem wX10_film (l : Launch) (p1 : Int32) (p2 : Int32) (p3 : Int32) (s : mx_G) : mf_M ei l yX10_film cX10_film 7 (some .int) 3 [.ref 0, .int p1, .int p2, .int p3] s (fX10_film p1 p2 p3 s) := by
  refine mf_intro rfl (Nat.le_of_ble_eq_true rfl) rfl rfl ?_
  refine mf_sub (loc' := [(0, .ref 0), (1, .int p1), (2, .int p2), (3, .int p3)]) [0, 1, 2, 3] rfl ?_
  unfold fX10_film
  refine mf_aload_n dX10_film_0 rfl 0 rfl ?_
  refine mf_getR fl_X10_10 rfl rfl dX10_film_1 ?_
  refine mf_callVi (stk := []) (wX9_size l _) cl_X10_135 rfl (by decide) rfl rfl rfl (Nat.le_of_ble_eq_true rfl) rfl rfl dX10_film_4 (fun x1 s2 => ?_)
  refine mf_istore [(4, .int x1), (0, .ref 0), (1, .int p1), (2, .int p2), (3, .int p3)] dX10_film_7 (by decide) rfl ?_
  refine mf_aload_n dX10_film_9 rfl 1 rfl ?_
  refine mf_getR fl_X10_78 rfl rfl dX10_film_10 ?_
  refine mf_iload_n dX10_film_13 rfl 2 rfl ?_
  refine mf_iload_n dX10_film_14 rfl 3 rfl ?_
  refine mf_iload_n dX10_film_15 rfl 4 rfl ?_
  refine mf_iload dX10_film_16 0 rfl ?_
  refine mf_iconst 1 dX10_film_18 (by decide) ?_
  refine mf_isub dX10_film_19 ?_
  refine mf_callVi (stk := []) (wX6_refusal l _ _ _ _ _) cl_X10_282 rfl (by decide) rfl rfl rfl (Nat.le_of_ble_eq_true rfl) rfl rfl dX10_film_20 (fun x3 s4 => ?_)
  refine mf_istore [(5, .int x3), (4, .int x1), (0, .ref 0), (1, .int p1), (2, .int p2), (3, .int p3)] dX10_film_23 (by decide) rfl ?_
  refine mf_iload dX10_film_25 0 rfl ?_
  refine mf_if_eq 33 dX10_film_27 (by decide) ?_ ?_
  · refine mf_aload_n dX10_film_33 rfl 2 rfl ?_
    refine mf_getR fl_X10_36 rfl rfl dX10_film_34 ?_
    refine mf_aload_n dX10_film_37 rfl 2 rfl ?_
    refine mf_getR fl_X10_10 rfl rfl dX10_film_38 ?_
    refine mf_callVv (stk := []) (wX0_load l _) cl_X10_152 rfl (by decide) rfl rfl rfl (Nat.le_of_ble_eq_true rfl) rfl rfl dX10_film_41 (fun us5 s5 => ?_)
    refine mf_iconst 1 dX10_film_44 (by decide) ?_
    refine mf_istore [(6, .int 1), (5, .int x3), (4, .int x1), (0, .ref 0), (1, .int p1), (2, .int p2), (3, .int p3)] dX10_film_45 (by decide) rfl ?_
    exact mf_sub [3, 4, 6, 2, 0] rfl (wlX10_film_47 l _ _ _ FU _ _)
  · refine mf_iload dX10_film_30 0 rfl ?_
    exact mf_iret dX10_film_32
set_option maxRecDepth 100000 in
set_option maxHeartbeats 4000000 in
theorem wlJA_fillLR_10 (l : Launch) (a2 : Int32) (a3 : Int64)   : ∀ (n : Nat) (a5 : Int32) (s0 : mx_G), mf_X ev l "java/util/Arrays" cJA_fillLR 6 none "fill" 1 (lJA_fillLR_10 a2 a3  n a5 s0) 10 [(0, .ref 43), (2, .int a2), (3, .long a3), (5, .int a5)] [] s0 := by
  intro n
  induction n with
  | zero => intro a5 s0; exact mf_none
  | succ n ih10 =>
    intro a5 s0
    rw [lJA_fillLR_10]
    refine mf_iload dJA_fillLR_10 3 rfl ?_
    refine mf_iload_n dJA_fillLR_12 rfl 1 rfl ?_
    refine mf_icmp_ge 27 dJA_fillLR_13 (by decide) ?_ ?_
    · exact mf_vret dJA_fillLR_27
    · refine mf_aload_n dJA_fillLR_16 rfl 0 rfl ?_
      refine mf_iload dJA_fillLR_17 3 rfl ?_
      refine mf_lload_n dJA_fillLR_19 rfl 2 rfl ?_
      refine mf_last rfl dJA_fillLR_20 (fun s2 => ?_)
      refine mf_iinc 1 [(5, .int (a5 + 1)), (0, .ref 43), (2, .int a2), (3, .long a3)] dJA_fillLR_21 3 rfl (by decide) (by decide) rfl ?_
      refine mf_goto 10 dJA_fillLR_24 (by decide) ?_
      exact mf_sub [1, 2, 3, 0] rfl (ih10 _ _)
set_option maxRecDepth 100000 in
set_option maxHeartbeats 4000000 in
theorem wJA_fillLR (l : Launch) (p1 : Int32) (p2 : Int32) (p3 : Int64) (s : mx_G) : mf_M ev l yJA_fillLR cJA_fillLR 6 none 1 [.ref 43, .int p1, .int p2, .long p3] s (fJA_fillLR p1 p2 p3 s) := by
  refine mf_intro rfl (Nat.le_of_ble_eq_true rfl) rfl rfl ?_
  refine mf_sub (loc' := [(0, .ref 43), (1, .int p1), (2, .int p2), (3, .long p3)]) [0, 1, 2, 3] rfl ?_
  unfold fJA_fillLR
  refine mf_aload_n dJA_fillLR_0 rfl 0 rfl ?_
  refine mf_alenl 96 rfl (by decide) dJA_fillLR_1 ?_
  refine mf_iload_n dJA_fillLR_2 rfl 1 rfl ?_
  refine mf_iload_n dJA_fillLR_3 rfl 2 rfl ?_
  refine mf_callSv (stk := []) (wJA_rangeCheck l _ _ _ _) cl_JA_13 rfl (by decide) rfl (Nat.le_of_ble_eq_true rfl) rfl rfl dJA_fillLR_4 (fun us1 s1 => ?_)
  refine mf_iload_n dJA_fillLR_7 rfl 1 rfl ?_
  refine mf_istore [(5, .int p1), (0, .ref 43), (1, .int p1), (2, .int p2), (3, .long p3)] dJA_fillLR_8 (by decide) rfl ?_
  exact mf_sub [1, 3, 4, 0] rfl (wlJA_fillLR_10 l _ _ FU _ _)
set_option maxRecDepth 100000 in
set_option maxHeartbeats 4000000 in
theorem wX6_renew (l : Launch) (p1 : Int32) (p2 : Int32) (p3 : Int32) (s : mx_G) : mf_M ev l yX6_renew cX6_renew 4 none 2 [.ref 40, .int p1, .int p2, .int p3] s (fX6_renew p1 p2 p3 s) := by
  refine mf_intro rfl (Nat.le_of_ble_eq_true rfl) rfl rfl ?_
  refine mf_sub (loc' := [(0, .ref 40), (1, .int p1), (2, .int p2), (3, .int p3)]) [0, 1, 2, 3] rfl ?_
  unfold fX6_renew
  refine mf_aload_n dX6_renew_0 rfl 0 rfl ?_
  refine mf_getR fl_X6_11 rfl rfl dX6_renew_1 ?_
  refine mf_iload_n dX6_renew_4 rfl 1 rfl ?_
  refine mf_iload_n dX6_renew_5 rfl 2 rfl ?_
  refine mf_iast rfl dX6_renew_6 (fun s1 => ?_)
  refine mf_aload_n dX6_renew_7 rfl 0 rfl ?_
  refine mf_getR fl_X6_15 rfl rfl dX6_renew_8 ?_
  refine mf_iload_n dX6_renew_11 rfl 1 rfl ?_
  refine mf_iload_n dX6_renew_12 rfl 3 rfl ?_
  refine mf_iast rfl dX6_renew_13 (fun s2 => ?_)
  refine mf_aload_n dX6_renew_14 rfl 0 rfl ?_
  refine mf_getR fl_X6_18 rfl rfl dX6_renew_15 ?_
  refine mf_iload_n dX6_renew_18 rfl 1 rfl ?_
  refine mf_bipush 24 dX6_renew_19 (by decide) ?_
  refine mf_imul dX6_renew_21 ?_
  refine mf_iload_n dX6_renew_22 rfl 1 rfl ?_
  refine mf_iconst 1 dX6_renew_23 (by decide) ?_
  refine mf_iadd dX6_renew_24 ?_
  refine mf_bipush 24 dX6_renew_25 (by decide) ?_
  refine mf_imul dX6_renew_27 ?_
  refine mf_lconst 0 dX6_renew_28 (by decide) ?_
  refine mf_callSv (stk := []) (wJA_fillLR l _ _ _ _) cl_X6_36 rfl (by decide) rfl (Nat.le_of_ble_eq_true rfl) rfl rfl dX6_renew_29 (fun us3 s3 => ?_)
  exact mf_vret dX6_renew_32
set_option maxRecDepth 100000 in
set_option maxHeartbeats 4000000 in
theorem wX10_sheet (l : Launch) (p1 : Int32) (p2 : Int32) (p3 : Int32) (s : mx_G) : mf_M ei l yX10_sheet cX10_sheet 4 (some .int) 3 [.ref 0, .int p1, .int p2, .int p3] s (fX10_sheet p1 p2 p3 s) := by
  refine mf_intro rfl (Nat.le_of_ble_eq_true rfl) rfl rfl ?_
  refine mf_sub (loc' := [(0, .ref 0), (1, .int p1), (2, .int p2), (3, .int p3)]) [0, 1, 2, 3] rfl ?_
  unfold fX10_sheet
  refine mf_iload_n dX10_sheet_0 rfl 1 rfl ?_
  refine mf_callSi (stk := []) (wX6_isSheet l _ _) cl_X10_303 rfl (by decide) rfl (Nat.le_of_ble_eq_true rfl) rfl rfl dX10_sheet_1 (fun x1 s2 => ?_)
  refine mf_if_eq 20 dX10_sheet_4 (by decide) ?_ ?_
  · refine mf_iconst (-1) dX10_sheet_20 (by decide) ?_
    exact mf_iret dX10_sheet_21
  · refine mf_iload_n dX10_sheet_7 rfl 2 rfl ?_
    refine mf_callSi (stk := []) (wX6_isLane l _ _) cl_X10_306 rfl (by decide) rfl (Nat.le_of_ble_eq_true rfl) rfl rfl dX10_sheet_8 (fun x3 s4 => ?_)
    refine mf_if_eq 20 dX10_sheet_11 (by decide) ?_ ?_
    · refine mf_iconst (-1) dX10_sheet_20 (by decide) ?_
      exact mf_iret dX10_sheet_21
    · refine mf_iload_n dX10_sheet_14 rfl 3 rfl ?_
      refine mf_bipush 24 dX10_sheet_15 (by decide) ?_
      refine mf_icmp_le 22 dX10_sheet_17 (by decide) ?_ ?_
      · refine mf_iload_n dX10_sheet_22 rfl 3 rfl ?_
        refine mf_if_ge 29 dX10_sheet_23 (by decide) ?_ ?_
        · refine mf_aload_n dX10_sheet_29 rfl 0 rfl ?_
          refine mf_getR fl_X10_78 rfl rfl dX10_sheet_30 ?_
          refine mf_iload_n dX10_sheet_33 rfl 1 rfl ?_
          refine mf_iload_n dX10_sheet_34 rfl 2 rfl ?_
          refine mf_iload_n dX10_sheet_35 rfl 3 rfl ?_
          refine mf_callVv (stk := []) (wX6_renew l _ _ _ _) cl_X10_309 rfl (by decide) rfl rfl rfl (Nat.le_of_ble_eq_true rfl) rfl rfl dX10_sheet_36 (fun us5 s5 => ?_)
          refine mf_iload_n dX10_sheet_39 rfl 3 rfl ?_
          exact mf_iret dX10_sheet_40
        · refine mf_bipush (-14) dX10_sheet_26 (by decide) ?_
          exact mf_iret dX10_sheet_28
      · refine mf_iconst (-1) dX10_sheet_20 (by decide) ?_
        exact mf_iret dX10_sheet_21
set_option maxRecDepth 100000 in
set_option maxHeartbeats 4000000 in
theorem wX6_lengthOf (l : Launch) (p1 : Int32) (s : mx_G) : mf_M ei l yX6_lengthOf cX6_lengthOf 2 (some .int) 0 [.ref 40, .int p1] s (fX6_lengthOf p1 s) := by
  refine mf_intro rfl (Nat.le_of_ble_eq_true rfl) rfl rfl ?_
  refine mf_sub (loc' := [(0, .ref 40), (1, .int p1)]) [0, 1] rfl ?_
  unfold fX6_lengthOf
  refine mf_aload_n dX6_lengthOf_0 rfl 0 rfl ?_
  refine mf_getR fl_X6_15 rfl rfl dX6_lengthOf_1 ?_
  refine mf_iload_n dX6_lengthOf_4 rfl 1 rfl ?_
  refine mf_iald rfl dX6_lengthOf_5 ?_
  exact mf_iret dX6_lengthOf_6
set_option maxRecDepth 100000 in
set_option maxHeartbeats 4000000 in
theorem wX6_lose (l : Launch) (p1 : Int32) (s : mx_G) : mf_M ev l yX6_lose cX6_lose 2 none 0 [.ref 40, .int p1] s (fX6_lose p1 s) := by
  refine mf_intro rfl (Nat.le_of_ble_eq_true rfl) rfl rfl ?_
  refine mf_sub (loc' := [(0, .ref 40), (1, .int p1)]) [0, 1] rfl ?_
  unfold fX6_lose
  refine mf_aload_n dX6_lose_0 rfl 0 rfl ?_
  refine mf_getR fl_X6_11 rfl rfl dX6_lose_1 ?_
  refine mf_iload_n dX6_lose_4 rfl 1 rfl ?_
  refine mf_iconst (-1) dX6_lose_5 (by decide) ?_
  refine mf_iast rfl dX6_lose_6 (fun s1 => ?_)
  refine mf_aload_n dX6_lose_7 rfl 0 rfl ?_
  refine mf_getR fl_X6_15 rfl rfl dX6_lose_8 ?_
  refine mf_iload_n dX6_lose_11 rfl 1 rfl ?_
  refine mf_iconst 0 dX6_lose_12 (by decide) ?_
  refine mf_iast rfl dX6_lose_13 (fun s2 => ?_)
  exact mf_vret dX6_lose_14
set_option maxRecDepth 100000 in
set_option maxHeartbeats 4000000 in
theorem wX10_drop (l : Launch) (p1 : Int32) (s : mx_G) : mf_M ei l yX10_drop cX10_drop 3 (some .int) 1 [.ref 0, .int p1] s (fX10_drop p1 s) := by
  refine mf_intro rfl (Nat.le_of_ble_eq_true rfl) rfl rfl ?_
  refine mf_sub (loc' := [(0, .ref 0), (1, .int p1)]) [0, 1] rfl ?_
  unfold fX10_drop
  refine mf_iload_n dX10_drop_0 rfl 1 rfl ?_
  refine mf_callSi (stk := []) (wX6_isSheet l _ _) cl_X10_303 rfl (by decide) rfl (Nat.le_of_ble_eq_true rfl) rfl rfl dX10_drop_1 (fun x1 s2 => ?_)
  refine mf_if_ne 9 dX10_drop_4 (by decide) ?_ ?_
  · refine mf_iconst (-1) dX10_drop_7 (by decide) ?_
    exact mf_iret dX10_drop_8
  · refine mf_aload_n dX10_drop_9 rfl 0 rfl ?_
    refine mf_getR fl_X10_78 rfl rfl dX10_drop_10 ?_
    refine mf_iload_n dX10_drop_13 rfl 1 rfl ?_
    refine mf_callVi (stk := []) (wX6_isMissing l _ _) cl_X10_312 rfl (by decide) rfl rfl rfl (Nat.le_of_ble_eq_true rfl) rfl rfl dX10_drop_14 (fun x3 s4 => ?_)
    refine mf_if_eq 23 dX10_drop_17 (by decide) ?_ ?_
    · refine mf_aload_n dX10_drop_23 rfl 0 rfl ?_
      refine mf_getR fl_X10_78 rfl rfl dX10_drop_24 ?_
      refine mf_iload_n dX10_drop_27 rfl 1 rfl ?_
      refine mf_callVi (stk := []) (wX6_lengthOf l _ _) cl_X10_315 rfl (by decide) rfl rfl rfl (Nat.le_of_ble_eq_true rfl) rfl rfl dX10_drop_28 (fun x5 s6 => ?_)
      refine mf_istore_n [(2, .int x5), (0, .ref 0), (1, .int p1)] dX10_drop_31 rfl (by decide) rfl ?_
      refine mf_aload_n dX10_drop_32 rfl 1 rfl ?_
      refine mf_getR fl_X10_78 rfl rfl dX10_drop_33 ?_
      refine mf_iload_n dX10_drop_36 rfl 2 rfl ?_
      refine mf_callVv (stk := []) (wX6_lose l _ _) cl_X10_318 rfl (by decide) rfl rfl rfl (Nat.le_of_ble_eq_true rfl) rfl rfl dX10_drop_37 (fun us7 s7 => ?_)
      refine mf_iload_n dX10_drop_40 rfl 0 rfl ?_
      exact mf_iret dX10_drop_41
    · refine mf_bipush (-11) dX10_drop_20 (by decide) ?_
      exact mf_iret dX10_drop_22
set_option maxRecDepth 100000 in
set_option maxHeartbeats 4000000 in
theorem wX10_item (l : Launch) (p1 : Int32) (p2 : Int32) (p3 : Int32) (p4 : Int64) (s : mx_G) : mf_M ei l yX10_item cX10_item 7 (some .int) 2 [.ref 0, .int p1, .int p2, .int p3, .long p4] s (fX10_item p1 p2 p3 p4 s) := by
  refine mf_intro rfl (Nat.le_of_ble_eq_true rfl) rfl rfl ?_
  refine mf_sub (loc' := [(0, .ref 0), (1, .int p1), (2, .int p2), (3, .int p3), (4, .long p4)]) [0, 1, 2, 3, 4] rfl ?_
  unfold fX10_item
  refine mf_aload_n dX10_item_0 rfl 0 rfl ?_
  refine mf_getR fl_X10_78 rfl rfl dX10_item_1 ?_
  refine mf_iload_n dX10_item_4 rfl 1 rfl ?_
  refine mf_iload_n dX10_item_5 rfl 2 rfl ?_
  refine mf_iload_n dX10_item_6 rfl 3 rfl ?_
  refine mf_iconst 1 dX10_item_7 (by decide) ?_
  refine mf_callVi (stk := []) (wX6_refusal l _ _ _ _ _) cl_X10_282 rfl (by decide) rfl rfl rfl (Nat.le_of_ble_eq_true rfl) rfl rfl dX10_item_8 (fun x1 s2 => ?_)
  refine mf_istore [(6, .int x1), (0, .ref 0), (1, .int p1), (2, .int p2), (3, .int p3), (4, .long p4)] dX10_item_11 (by decide) rfl ?_
  refine mf_iload dX10_item_13 0 rfl ?_
  refine mf_if_eq 21 dX10_item_15 (by decide) ?_ ?_
  · refine mf_aload_n dX10_item_21 rfl 1 rfl ?_
    refine mf_getR fl_X10_78 rfl rfl dX10_item_22 ?_
    refine mf_iload_n dX10_item_25 rfl 2 rfl ?_
    refine mf_iload_n dX10_item_26 rfl 4 rfl ?_
    refine mf_lload dX10_item_27 5 rfl ?_
    refine mf_callVv (stk := []) (wX6_setItem l _ _ _ _) cl_X10_299 rfl (by decide) rfl rfl rfl (Nat.le_of_ble_eq_true rfl) rfl rfl dX10_item_29 (fun us3 s3 => ?_)
    refine mf_iconst 1 dX10_item_32 (by decide) ?_
    exact mf_iret dX10_item_33
  · refine mf_iload dX10_item_18 0 rfl ?_
    exact mf_iret dX10_item_20
set_option maxRecDepth 100000 in
set_option maxHeartbeats 4000000 in
theorem wX6_laneOf (l : Launch) (p1 : Int32) (s : mx_G) : mf_M ei l yX6_laneOf cX6_laneOf 2 (some .int) 0 [.ref 40, .int p1] s (fX6_laneOf p1 s) := by
  refine mf_intro rfl (Nat.le_of_ble_eq_true rfl) rfl rfl ?_
  refine mf_sub (loc' := [(0, .ref 40), (1, .int p1)]) [0, 1] rfl ?_
  unfold fX6_laneOf
  refine mf_aload_n dX6_laneOf_0 rfl 0 rfl ?_
  refine mf_getR fl_X6_11 rfl rfl dX6_laneOf_1 ?_
  refine mf_iload_n dX6_laneOf_4 rfl 1 rfl ?_
  refine mf_iald rfl dX6_laneOf_5 ?_
  exact mf_iret dX6_laneOf_6
set_option maxRecDepth 100000 in
set_option maxHeartbeats 4000000 in
theorem wX6_move (l : Launch) (p1 : Int32) (p2 : Int32) (p3 : Int32) (p4 : Int32) (p5 : Int32) (s : mx_G) : mf_M ev l yX6_move cX6_move 6 none 3 [.ref 40, .int p1, .int p2, .int p3, .int p4, .int p5] s (fX6_move p1 p2 p3 p4 p5 s) := by
  refine mf_intro rfl (Nat.le_of_ble_eq_true rfl) rfl rfl ?_
  refine mf_sub (loc' := [(0, .ref 40), (1, .int p1), (2, .int p2), (3, .int p3), (4, .int p4), (5, .int p5)]) [0, 1, 2, 3, 4, 5] rfl ?_
  unfold fX6_move
  refine mf_aload_n dX6_move_0 rfl 0 rfl ?_
  refine mf_getR fl_X6_18 rfl rfl dX6_move_1 ?_
  refine mf_iload_n dX6_move_4 rfl 1 rfl ?_
  refine mf_bipush 24 dX6_move_5 (by decide) ?_
  refine mf_imul dX6_move_7 ?_
  refine mf_iload_n dX6_move_8 rfl 2 rfl ?_
  refine mf_iadd dX6_move_9 ?_
  refine mf_aload_n dX6_move_10 rfl 0 rfl ?_
  refine mf_getR fl_X6_18 rfl rfl dX6_move_11 ?_
  refine mf_iload_n dX6_move_14 rfl 3 rfl ?_
  refine mf_bipush 24 dX6_move_15 (by decide) ?_
  refine mf_imul dX6_move_17 ?_
  refine mf_iload dX6_move_18 4 rfl ?_
  refine mf_iadd dX6_move_20 ?_
  refine mf_iload dX6_move_21 5 rfl ?_
  refine mf_copyl cl_X6_46 ac_2 ac_3 ac_4 rfl rfl (by decide) (Nat.le_of_ble_eq_true rfl) dX6_move_23 (fun s1 => ?_)
  exact mf_vret dX6_move_26
set_option maxRecDepth 100000 in
set_option maxHeartbeats 4000000 in
theorem wX10_copy (l : Launch) (p1 : Int32) (p2 : Int32) (p3 : Int32) (p4 : Int32) (p5 : Int32) (s : mx_G) : mf_M ei l yX10_copy cX10_copy 6 (some .int) 4 [.ref 0, .int p1, .int p2, .int p3, .int p4, .int p5] s (fX10_copy p1 p2 p3 p4 p5 s) := by
  refine mf_intro rfl (Nat.le_of_ble_eq_true rfl) rfl rfl ?_
  refine mf_sub (loc' := [(0, .ref 0), (1, .int p1), (2, .int p2), (3, .int p3), (4, .int p4), (5, .int p5)]) [0, 1, 2, 3, 4, 5] rfl ?_
  unfold fX10_copy
  refine mf_iload_n dX10_copy_0 rfl 1 rfl ?_
  refine mf_callSi (stk := []) (wX6_isSheet l _ _) cl_X10_303 rfl (by decide) rfl (Nat.le_of_ble_eq_true rfl) rfl rfl dX10_copy_1 (fun x1 s2 => ?_)
  refine mf_if_eq 14 dX10_copy_4 (by decide) ?_ ?_
  · refine mf_iconst (-1) dX10_copy_14 (by decide) ?_
    exact mf_iret dX10_copy_15
  · refine mf_iload_n dX10_copy_7 rfl 3 rfl ?_
    refine mf_callSi (stk := []) (wX6_isSheet l _ _) cl_X10_303 rfl (by decide) rfl (Nat.le_of_ble_eq_true rfl) rfl rfl dX10_copy_8 (fun x3 s4 => ?_)
    refine mf_if_ne 16 dX10_copy_11 (by decide) ?_ ?_
    · refine mf_iconst (-1) dX10_copy_14 (by decide) ?_
      exact mf_iret dX10_copy_15
    · refine mf_aload_n dX10_copy_16 rfl 0 rfl ?_
      refine mf_getR fl_X10_78 rfl rfl dX10_copy_17 ?_
      refine mf_iload_n dX10_copy_20 rfl 1 rfl ?_
      refine mf_callVi (stk := []) (wX6_isMissing l _ _) cl_X10_312 rfl (by decide) rfl rfl rfl (Nat.le_of_ble_eq_true rfl) rfl rfl dX10_copy_21 (fun x5 s6 => ?_)
      refine mf_if_ne 38 dX10_copy_24 (by decide) ?_ ?_
      · refine mf_aload_n dX10_copy_27 rfl 0 rfl ?_
        refine mf_getR fl_X10_78 rfl rfl dX10_copy_28 ?_
        refine mf_iload_n dX10_copy_31 rfl 3 rfl ?_
        refine mf_callVi (stk := []) (wX6_isMissing l _ _) cl_X10_312 rfl (by decide) rfl rfl rfl (Nat.le_of_ble_eq_true rfl) rfl rfl dX10_copy_32 (fun x7 s8 => ?_)
        refine mf_if_eq 41 dX10_copy_35 (by decide) ?_ ?_
        · refine mf_aload_n dX10_copy_41 rfl 0 rfl ?_
          refine mf_getR fl_X10_78 rfl rfl dX10_copy_42 ?_
          refine mf_iload_n dX10_copy_45 rfl 1 rfl ?_
          refine mf_callVi (stk := []) (wX6_laneOf l _ _) cl_X10_321 rfl (by decide) rfl rfl rfl (Nat.le_of_ble_eq_true rfl) rfl rfl dX10_copy_46 (fun x9 s10 => ?_)
          refine mf_aload_n dX10_copy_49 rfl 0 rfl ?_
          refine mf_getR fl_X10_78 rfl rfl dX10_copy_50 ?_
          refine mf_iload_n dX10_copy_53 rfl 3 rfl ?_
          refine mf_callVi (stk := [.int x9]) (wX6_laneOf l _ _) cl_X10_321 rfl (by decide) rfl rfl rfl (Nat.le_of_ble_eq_true rfl) rfl rfl dX10_copy_54 (fun x11 s12 => ?_)
          refine mf_icmp_eq 63 dX10_copy_57 (by decide) ?_ ?_
          · refine mf_aload_n dX10_copy_63 rfl 0 rfl ?_
            refine mf_getR fl_X10_78 rfl rfl dX10_copy_64 ?_
            refine mf_iload_n dX10_copy_67 rfl 1 rfl ?_
            refine mf_iload_n dX10_copy_68 rfl 2 rfl ?_
            refine mf_iload dX10_copy_69 5 rfl ?_
            refine mf_callVi (stk := []) (wX6_holds l _ _ _ _) cl_X10_324 rfl (by decide) rfl rfl rfl (Nat.le_of_ble_eq_true rfl) rfl rfl dX10_copy_71 (fun x13 s14 => ?_)
            refine mf_if_eq 92 dX10_copy_74 (by decide) ?_ ?_
            · refine mf_bipush (-13) dX10_copy_92 (by decide) ?_
              exact mf_iret dX10_copy_94
            · refine mf_aload_n dX10_copy_77 rfl 0 rfl ?_
              refine mf_getR fl_X10_78 rfl rfl dX10_copy_78 ?_
              refine mf_iload_n dX10_copy_81 rfl 3 rfl ?_
              refine mf_iload dX10_copy_82 4 rfl ?_
              refine mf_iload dX10_copy_84 5 rfl ?_
              refine mf_callVi (stk := []) (wX6_holds l _ _ _ _) cl_X10_324 rfl (by decide) rfl rfl rfl (Nat.le_of_ble_eq_true rfl) rfl rfl dX10_copy_86 (fun x15 s16 => ?_)
              refine mf_if_ne 95 dX10_copy_89 (by decide) ?_ ?_
              · refine mf_bipush (-13) dX10_copy_92 (by decide) ?_
                exact mf_iret dX10_copy_94
              · refine mf_aload_n dX10_copy_95 rfl 0 rfl ?_
                refine mf_getR fl_X10_78 rfl rfl dX10_copy_96 ?_
                refine mf_iload_n dX10_copy_99 rfl 1 rfl ?_
                refine mf_iload_n dX10_copy_100 rfl 2 rfl ?_
                refine mf_iload_n dX10_copy_101 rfl 3 rfl ?_
                refine mf_iload dX10_copy_102 4 rfl ?_
                refine mf_iload dX10_copy_104 5 rfl ?_
                refine mf_callVv (stk := []) (wX6_move l _ _ _ _ _ _) cl_X10_328 rfl (by decide) rfl rfl rfl (Nat.le_of_ble_eq_true rfl) rfl rfl dX10_copy_106 (fun us17 s17 => ?_)
                refine mf_iload dX10_copy_109 5 rfl ?_
                exact mf_iret dX10_copy_111
          · refine mf_bipush (-12) dX10_copy_60 (by decide) ?_
            exact mf_iret dX10_copy_62
        · refine mf_bipush (-11) dX10_copy_38 (by decide) ?_
          exact mf_iret dX10_copy_40
      · refine mf_bipush (-11) dX10_copy_38 (by decide) ?_
        exact mf_iret dX10_copy_40
set_option maxRecDepth 100000 in
set_option maxHeartbeats 4000000 in
theorem wX11_in (l : Launch) (p0 : Int64) (p2 : Int64) (p4 : Int64) (s : mx_G) : mf_M ei l yX11_in cX11_in 6 (some .boolean) 0 [.long p0, .long p2, .long p4] s (fX11_in p0 p2 p4 s) := by
  refine mf_intro rfl (Nat.le_of_ble_eq_true rfl) rfl rfl ?_
  refine mf_sub (loc' := [(0, .long p0), (2, .long p2), (4, .long p4)]) [0, 1, 2] rfl ?_
  unfold fX11_in
  refine mf_lload_n dX11_in_0 rfl 0 rfl ?_
  refine mf_lload_n dX11_in_1 rfl 1 rfl ?_
  refine mf_lcmp dX11_in_2 ?_
  refine mf_if_lt 17 dX11_in_3 (by decide) ?_ ?_
  · refine mf_iconst 0 dX11_in_17 (by decide) ?_
    exact mf_zret (by decide) dX11_in_18
  · refine mf_lload_n dX11_in_6 rfl 0 rfl ?_
    refine mf_lload dX11_in_7 2 rfl ?_
    refine mf_lcmp dX11_in_9 ?_
    refine mf_if_gt 17 dX11_in_10 (by decide) ?_ ?_
    · refine mf_iconst 0 dX11_in_17 (by decide) ?_
      exact mf_zret (by decide) dX11_in_18
    · refine mf_iconst 1 dX11_in_13 (by decide) ?_
      refine mf_goto 18 dX11_in_14 (by decide) ?_
      exact mf_zret (by decide) dX11_in_18
set_option maxRecDepth 100000 in
set_option maxHeartbeats 4000000 in
theorem wX11_isDomain (l : Launch) (p1 : Int32) (s : mx_G) : mf_M ei l yX11_isDomain cX11_isDomain 2 (some .boolean) 1 [.ref 45, .int p1] s (fX11_isDomain p1 s) := by
  refine mf_intro rfl (Nat.le_of_ble_eq_true rfl) rfl rfl ?_
  refine mf_sub (loc' := [(0, .ref 45), (1, .int p1)]) [0, 1] rfl ?_
  unfold fX11_isDomain
  refine mf_iload_n dX11_isDomain_0 rfl 1 rfl ?_
  refine mf_i2l dX11_isDomain_1 ?_
  refine mf_lconst 0 dX11_isDomain_2 (by decide) ?_
  refine mf_aload_n dX11_isDomain_3 rfl 0 rfl ?_
  refine mf_getR fl_X11_7 rfl rfl dX11_isDomain_4 ?_
  refine mf_iconst 0 dX11_isDomain_7 (by decide) ?_
  refine mf_iald rfl dX11_isDomain_8 ?_
  refine mf_iconst 1 dX11_isDomain_9 (by decide) ?_
  refine mf_isub dX11_isDomain_10 ?_
  refine mf_i2l dX11_isDomain_11 ?_
  refine mf_callSi (stk := []) (wX11_in l _ _ _ _) cl_X11_88 rfl (by decide) rfl (Nat.le_of_ble_eq_true rfl) rfl rfl dX11_isDomain_12 (fun x1 s2 => ?_)
  exact mf_zretG dX11_isDomain_15
set_option maxRecDepth 100000 in
set_option maxHeartbeats 4000000 in
theorem wX11_areTwo (l : Launch) (p1 : Int32) (p2 : Int32) (s : mx_G) : mf_M ei l yX11_areTwo cX11_areTwo 3 (some .boolean) 2 [.ref 45, .int p1, .int p2] s (fX11_areTwo p1 p2 s) := by
  refine mf_intro rfl (Nat.le_of_ble_eq_true rfl) rfl rfl ?_
  refine mf_sub (loc' := [(0, .ref 45), (1, .int p1), (2, .int p2)]) [0, 1, 2] rfl ?_
  unfold fX11_areTwo
  refine mf_aload_n dX11_areTwo_0 rfl 0 rfl ?_
  refine mf_iload_n dX11_areTwo_1 rfl 1 rfl ?_
  refine mf_callVi (stk := []) (wX11_isDomain l _ _) cl_X11_92 rfl (by decide) rfl rfl rfl (Nat.le_of_ble_eq_true rfl) rfl rfl dX11_areTwo_2 (fun x1 s2 => ?_)
  refine mf_if_eq 25 dX11_areTwo_5 (by decide) ?_ ?_
  · refine mf_iconst 0 dX11_areTwo_25 (by decide) ?_
    exact mf_zret (by decide) dX11_areTwo_26
  · refine mf_aload_n dX11_areTwo_8 rfl 0 rfl ?_
    refine mf_iload_n dX11_areTwo_9 rfl 2 rfl ?_
    refine mf_callVi (stk := []) (wX11_isDomain l _ _) cl_X11_92 rfl (by decide) rfl rfl rfl (Nat.le_of_ble_eq_true rfl) rfl rfl dX11_areTwo_10 (fun x3 s4 => ?_)
    refine mf_if_eq 25 dX11_areTwo_13 (by decide) ?_ ?_
    · refine mf_iconst 0 dX11_areTwo_25 (by decide) ?_
      exact mf_zret (by decide) dX11_areTwo_26
    · refine mf_iload_n dX11_areTwo_16 rfl 1 rfl ?_
      refine mf_iload_n dX11_areTwo_17 rfl 2 rfl ?_
      refine mf_icmp_eq 25 dX11_areTwo_18 (by decide) ?_ ?_
      · refine mf_iconst 0 dX11_areTwo_25 (by decide) ?_
        exact mf_zret (by decide) dX11_areTwo_26
      · refine mf_iconst 1 dX11_areTwo_21 (by decide) ?_
        refine mf_goto 26 dX11_areTwo_22 (by decide) ?_
        exact mf_zret (by decide) dX11_areTwo_26
set_option maxRecDepth 100000 in
set_option maxHeartbeats 4000000 in
theorem wX11_pair (l : Launch) (p0 : Int32) (p1 : Int32) (s : mx_G) : mf_M ei l yX11_pair cX11_pair 2 (some .int) 0 [.int p0, .int p1] s (fX11_pair p0 p1 s) := by
  refine mf_intro rfl (Nat.le_of_ble_eq_true rfl) rfl rfl ?_
  refine mf_sub (loc' := [(0, .int p0), (1, .int p1)]) [0, 1] rfl ?_
  unfold fX11_pair
  refine mf_bipush 6 dX11_pair_0 (by decide) ?_
  refine mf_iload_n dX11_pair_2 rfl 0 rfl ?_
  refine mf_imul dX11_pair_3 ?_
  refine mf_iload_n dX11_pair_4 rfl 1 rfl ?_
  refine mf_iadd dX11_pair_5 ?_
  exact mf_iret dX11_pair_6
set_option maxRecDepth 100000 in
set_option maxHeartbeats 4000000 in
theorem wlX11_bring_3 (l : Launch) (a1 : Int32) (a3 : Int32) (a4 : Int32)   : ∀ (n : Nat) (a5 : Int32) (s0 : mx_G), mf_X ev l RX11 cX11_bring 6 none "bring" 0 (lX11_bring_3 a1 a3 a4  n a5 s0) 3 [(0, .ref 46), (1, .int a1), (2, .ref 47), (3, .int a3), (4, .int a4), (5, .int a5)] [] s0 := by
  intro n
  induction n with
  | zero => intro a5 s0; exact mf_none
  | succ n ih3 =>
    intro a5 s0
    rw [lX11_bring_3]
    refine mf_iload dX11_bring_3 5 rfl ?_
    refine mf_iload dX11_bring_5 4 rfl ?_
    refine mf_icmp_ge 28 dX11_bring_7 (by decide) ?_ ?_
    · exact mf_vret dX11_bring_28
    · refine mf_aload_n dX11_bring_10 rfl 2 rfl ?_
      refine mf_iload_n dX11_bring_11 rfl 3 rfl ?_
      refine mf_iload dX11_bring_12 5 rfl ?_
      refine mf_iadd dX11_bring_14 ?_
      refine mf_aload_n dX11_bring_15 rfl 0 rfl ?_
      refine mf_iload_n dX11_bring_16 rfl 1 rfl ?_
      refine mf_iload dX11_bring_17 5 rfl ?_
      refine mf_iadd dX11_bring_19 ?_
      refine mf_iald rfl dX11_bring_20 ?_
      refine mf_iast rfl dX11_bring_21 (fun s1 => ?_)
      refine mf_iinc 1 [(5, .int (a5 + 1)), (0, .ref 46), (1, .int a1), (2, .ref 47), (3, .int a3), (4, .int a4)] dX11_bring_22 5 rfl (by decide) (by decide) rfl ?_
      refine mf_goto 3 dX11_bring_25 (by decide) ?_
      exact mf_sub [1, 2, 3, 4, 5, 0] rfl (ih3 _ _)
set_option maxRecDepth 100000 in
set_option maxHeartbeats 4000000 in
theorem wX11_bring (l : Launch) (p1 : Int32) (p3 : Int32) (p4 : Int32) (s : mx_G) : mf_M ev l yX11_bring cX11_bring 6 none 0 [.ref 46, .int p1, .ref 47, .int p3, .int p4] s (fX11_bring p1 p3 p4 s) := by
  refine mf_intro rfl (Nat.le_of_ble_eq_true rfl) rfl rfl ?_
  refine mf_sub (loc' := [(0, .ref 46), (1, .int p1), (2, .ref 47), (3, .int p3), (4, .int p4)]) [0, 1, 2, 3, 4] rfl ?_
  unfold fX11_bring
  refine mf_iconst 0 dX11_bring_0 (by decide) ?_
  refine mf_istore [(5, .int 0), (0, .ref 46), (1, .int p1), (2, .ref 47), (3, .int p3), (4, .int p4)] dX11_bring_1 (by decide) rfl ?_
  exact mf_sub [1, 2, 3, 4, 5, 0] rfl (wlX11_bring_3 l _ _ _ FU _ _)
set_option maxRecDepth 100000 in
set_option maxHeartbeats 4000000 in
theorem wlX11_bring_1_3 (l : Launch) (a1 : Int32) (a3 : Int32) (a4 : Int32)   : ∀ (n : Nat) (a5 : Int32) (s0 : mx_G), mf_X ev l RX11 cX11_bring 6 none "bring" 0 (lX11_bring_1_3 a1 a3 a4  n a5 s0) 3 [(0, .ref 47), (1, .int a1), (2, .ref 47), (3, .int a3), (4, .int a4), (5, .int a5)] [] s0 := by
  intro n
  induction n with
  | zero => intro a5 s0; exact mf_none
  | succ n ih3 =>
    intro a5 s0
    rw [lX11_bring_1_3]
    refine mf_iload dX11_bring_3 5 rfl ?_
    refine mf_iload dX11_bring_5 4 rfl ?_
    refine mf_icmp_ge 28 dX11_bring_7 (by decide) ?_ ?_
    · exact mf_vret dX11_bring_28
    · refine mf_aload_n dX11_bring_10 rfl 2 rfl ?_
      refine mf_iload_n dX11_bring_11 rfl 3 rfl ?_
      refine mf_iload dX11_bring_12 5 rfl ?_
      refine mf_iadd dX11_bring_14 ?_
      refine mf_aload_n dX11_bring_15 rfl 0 rfl ?_
      refine mf_iload_n dX11_bring_16 rfl 1 rfl ?_
      refine mf_iload dX11_bring_17 5 rfl ?_
      refine mf_iadd dX11_bring_19 ?_
      refine mf_iald rfl dX11_bring_20 ?_
      refine mf_iast rfl dX11_bring_21 (fun s1 => ?_)
      refine mf_iinc 1 [(5, .int (a5 + 1)), (0, .ref 47), (1, .int a1), (2, .ref 47), (3, .int a3), (4, .int a4)] dX11_bring_22 5 rfl (by decide) (by decide) rfl ?_
      refine mf_goto 3 dX11_bring_25 (by decide) ?_
      exact mf_sub [1, 2, 3, 4, 5, 0] rfl (ih3 _ _)
set_option maxRecDepth 100000 in
set_option maxHeartbeats 4000000 in
theorem wX11_bring_1 (l : Launch) (p1 : Int32) (p3 : Int32) (p4 : Int32) (s : mx_G) : mf_M ev l yX11_bring cX11_bring 6 none 0 [.ref 47, .int p1, .ref 47, .int p3, .int p4] s (fX11_bring_1 p1 p3 p4 s) := by
  refine mf_intro rfl (Nat.le_of_ble_eq_true rfl) rfl rfl ?_
  refine mf_sub (loc' := [(0, .ref 47), (1, .int p1), (2, .ref 47), (3, .int p3), (4, .int p4)]) [0, 1, 2, 3, 4] rfl ?_
  unfold fX11_bring_1
  refine mf_iconst 0 dX11_bring_0 (by decide) ?_
  refine mf_istore [(5, .int 0), (0, .ref 47), (1, .int p1), (2, .ref 47), (3, .int p3), (4, .int p4)] dX11_bring_1 (by decide) rfl ?_
  exact mf_sub [1, 2, 3, 4, 5, 0] rfl (wlX11_bring_1_3 l _ _ _ FU _ _)
set_option maxRecDepth 100000 in
set_option maxHeartbeats 4000000 in
theorem wX11_notes (l : Launch) (s : mx_G) : mf_M ev l yX11_notes cX11_notes 1 none 1 [.ref 45] s (fX11_notes  s) := by
  refine mf_intro rfl (Nat.le_of_ble_eq_true rfl) rfl rfl ?_
  refine mf_sub (loc' := [(0, .ref 45)]) [0] rfl ?_
  unfold fX11_notes
  refine mf_aload_n dX11_notes_0 rfl 0 rfl ?_
  refine mf_getI fl_X11_81 rfl rfl dX11_notes_1 ?_
  refine mf_bipush 6 dX11_notes_4 (by decide) ?_
  refine mf_join (fun (J : mx_G → Option (Unit × mx_G)) => ∀ (s_37 : mx_G), mf_X ev l RX11 cX11_notes 1 none "notes" 1 (J s_37) 37 [(0, .ref 45)] [] s_37) ?_ (fun J37 hJ37 => ?_)
  · intro s_37
    refine mf_aload_n dX11_notes_37 rfl 0 rfl ?_
    refine mf_getR fl_X11_7 rfl rfl dX11_notes_38 ?_
    refine mf_iconst 0 dX11_notes_41 (by decide) ?_
    refine mf_aload_n dX11_notes_42 rfl 0 rfl ?_
    refine mf_getR fl_X11_13 rfl rfl dX11_notes_43 ?_
    refine mf_sipush 128 dX11_notes_46 (by decide) ?_
    refine mf_aload_n dX11_notes_49 rfl 0 rfl ?_
    refine mf_getI fl_X11_81 rfl rfl dX11_notes_50 ?_
    refine mf_imul dX11_notes_53 ?_
    refine mf_sipush 128 dX11_notes_54 (by decide) ?_
    refine mf_callSv (stk := []) (wX11_bring l _ _ _ _) cl_X11_84 rfl (by decide) rfl (Nat.le_of_ble_eq_true rfl) rfl rfl dX11_notes_57 (fun us1 s1 => ?_)
    refine mf_aload_n dX11_notes_60 rfl 0 rfl ?_
    refine mf_dup rfl dX11_notes_61 ?_
    refine mf_getI fl_X11_81 rfl rfl dX11_notes_62 ?_
    refine mf_iconst 1 dX11_notes_65 (by decide) ?_
    refine mf_iadd dX11_notes_66 ?_
    refine mf_putI fl_X11_81 rfl rfl dX11_notes_67 (fun s2 => ?_)
    exact mf_vret dX11_notes_70
  refine mf_icmp_ne 37 dX11_notes_6 (by decide) ?_ ?_
  · refine mf_aload_n dX11_notes_9 rfl 0 rfl ?_
    refine mf_getR fl_X11_13 rfl rfl dX11_notes_10 ?_
    refine mf_sipush 128 dX11_notes_13 (by decide) ?_
    refine mf_aload_n dX11_notes_16 rfl 0 rfl ?_
    refine mf_getR fl_X11_13 rfl rfl dX11_notes_17 ?_
    refine mf_iconst 0 dX11_notes_20 (by decide) ?_
    refine mf_sipush 640 dX11_notes_21 (by decide) ?_
    refine mf_callSv (stk := []) (wX11_bring_1 l _ _ _ _) cl_X11_84 rfl (by decide) rfl (Nat.le_of_ble_eq_true rfl) rfl rfl dX11_notes_24 (fun us3 s3 => ?_)
    refine mf_aload_n dX11_notes_27 rfl 0 rfl ?_
    refine mf_dup rfl dX11_notes_28 ?_
    refine mf_getI fl_X11_81 rfl rfl dX11_notes_29 ?_
    refine mf_iconst 1 dX11_notes_32 (by decide) ?_
    refine mf_isub dX11_notes_33 ?_
    refine mf_putI fl_X11_81 rfl rfl dX11_notes_34 (fun s4 => ?_)
    exact mf_sub [0] rfl (hJ37 _)
  · exact mf_sub [0] rfl (hJ37 _)
set_option maxRecDepth 100000 in
set_option maxHeartbeats 4000000 in
theorem wX11_links (l : Launch) (p1 : Int32) (p2 : Int32) (p3 : Int32) (p4 : Int32) (s : mx_G) : mf_M ev l yX11_links cX11_links 5 none 1 [.ref 45, .int p1, .int p2, .int p3, .int p4] s (fX11_links p1 p2 p3 p4 s) := by
  refine mf_intro rfl (Nat.le_of_ble_eq_true rfl) rfl rfl ?_
  refine mf_sub (loc' := [(0, .ref 45), (1, .int p1), (2, .int p2), (3, .int p3), (4, .int p4)]) [0, 1, 2, 3, 4] rfl ?_
  unfold fX11_links
  refine mf_aload_n dX11_links_0 rfl 0 rfl ?_
  refine mf_getR fl_X11_7 rfl rfl dX11_links_1 ?_
  refine mf_iconst 1 dX11_links_4 (by decide) ?_
  refine mf_iload_n dX11_links_5 rfl 1 rfl ?_
  refine mf_iload_n dX11_links_6 rfl 2 rfl ?_
  refine mf_callSi (stk := [.int 1, .ref 46]) (wX11_pair l _ _ _) cl_X11_96 rfl (by decide) rfl (Nat.le_of_ble_eq_true rfl) rfl rfl dX11_links_7 (fun x1 s2 => ?_)
  refine mf_iadd dX11_links_10 ?_
  refine mf_iload_n dX11_links_11 rfl 3 rfl ?_
  refine mf_iast rfl dX11_links_12 (fun s3 => ?_)
  refine mf_aload_n dX11_links_13 rfl 0 rfl ?_
  refine mf_getR fl_X11_7 rfl rfl dX11_links_14 ?_
  refine mf_iconst 1 dX11_links_17 (by decide) ?_
  refine mf_iload_n dX11_links_18 rfl 2 rfl ?_
  refine mf_iload_n dX11_links_19 rfl 1 rfl ?_
  refine mf_callSi (stk := [.int 1, .ref 46]) (wX11_pair l _ _ _) cl_X11_96 rfl (by decide) rfl (Nat.le_of_ble_eq_true rfl) rfl rfl dX11_links_20 (fun x4 s5 => ?_)
  refine mf_iadd dX11_links_23 ?_
  refine mf_iload_n dX11_links_24 rfl 3 rfl ?_
  refine mf_join (fun (J : Int32 → Int32 → mx_G → Option (Unit × mx_G)) => ∀ (q0_35 : Int32) (q1_35 : Int32) (s_35 : mx_G), mf_X ev l RX11 cX11_links 5 none "links" 1 (J q0_35 q1_35 s_35) 35 [(0, .ref 45), (1, .int p1), (2, .int p2), (4, .int p4)] [.int q0_35, .int q1_35, .ref 46] s_35) ?_ (fun J35 hJ35 => ?_)
  · intro q0_35 q1_35 s_35
    refine mf_iast rfl dX11_links_35 (fun s6 => ?_)
    refine mf_aload_n dX11_links_36 rfl 0 rfl ?_
    refine mf_getR fl_X11_7 rfl rfl dX11_links_37 ?_
    refine mf_bipush 37 dX11_links_40 (by decide) ?_
    refine mf_iload_n dX11_links_42 rfl 1 rfl ?_
    refine mf_iload_n dX11_links_43 rfl 2 rfl ?_
    refine mf_callSi (stk := [.int 37, .ref 46]) (wX11_pair l _ _ _) cl_X11_96 rfl (by decide) rfl (Nat.le_of_ble_eq_true rfl) rfl rfl dX11_links_44 (fun x7 s8 => ?_)
    refine mf_iadd dX11_links_47 ?_
    refine mf_iload dX11_links_48 3 rfl ?_
    refine mf_iast rfl dX11_links_50 (fun s9 => ?_)
    refine mf_aload_n dX11_links_51 rfl 0 rfl ?_
    refine mf_getR fl_X11_7 rfl rfl dX11_links_52 ?_
    refine mf_bipush 37 dX11_links_55 (by decide) ?_
    refine mf_iload_n dX11_links_57 rfl 2 rfl ?_
    refine mf_iload_n dX11_links_58 rfl 1 rfl ?_
    refine mf_callSi (stk := [.int 37, .ref 46]) (wX11_pair l _ _ _) cl_X11_96 rfl (by decide) rfl (Nat.le_of_ble_eq_true rfl) rfl rfl dX11_links_59 (fun x10 s11 => ?_)
    refine mf_iadd dX11_links_62 ?_
    refine mf_iload dX11_links_63 3 rfl ?_
    refine mf_iast rfl dX11_links_65 (fun s12 => ?_)
    exact mf_vret dX11_links_66
  refine mf_if_ne 32 dX11_links_25 (by decide) ?_ ?_
  · refine mf_iconst 0 dX11_links_28 (by decide) ?_
    refine mf_goto 35 dX11_links_29 (by decide) ?_
    exact mf_sub [0, 1, 2, 4] rfl (hJ35 _ _ _)
  · refine mf_iconst 4 dX11_links_32 (by decide) ?_
    refine mf_iload_n dX11_links_33 rfl 3 rfl ?_
    refine mf_isub dX11_links_34 ?_
    exact mf_sub [0, 1, 2, 4] rfl (hJ35 _ _ _)
set_option maxRecDepth 100000 in
set_option maxHeartbeats 4000000 in
theorem wX11_link (l : Launch) (p1 : Int32) (p2 : Int32) (p3 : Int32) (s : mx_G) : mf_M ei l yX11_link cX11_link 5 (some .int) 3 [.ref 45, .int p1, .int p2, .int p3] s (fX11_link p1 p2 p3 s) := by
  refine mf_intro rfl (Nat.le_of_ble_eq_true rfl) rfl rfl ?_
  refine mf_sub (loc' := [(0, .ref 45), (1, .int p1), (2, .int p2), (3, .int p3)]) [0, 1, 2, 3] rfl ?_
  unfold fX11_link
  refine mf_aload_n dX11_link_0 rfl 0 rfl ?_
  refine mf_iload_n dX11_link_1 rfl 1 rfl ?_
  refine mf_iload_n dX11_link_2 rfl 2 rfl ?_
  refine mf_callVi (stk := []) (wX11_areTwo l _ _ _) cl_X11_100 rfl (by decide) rfl rfl rfl (Nat.le_of_ble_eq_true rfl) rfl rfl dX11_link_3 (fun x1 s2 => ?_)
  refine mf_if_eq 21 dX11_link_6 (by decide) ?_ ?_
  · refine mf_iconst (-1) dX11_link_21 (by decide) ?_
    exact mf_iret dX11_link_22
  · refine mf_iload_n dX11_link_9 rfl 3 rfl ?_
    refine mf_i2l dX11_link_10 ?_
    refine mf_lconst 0 dX11_link_11 (by decide) ?_
    refine mf_ldc2 kl_X11_104 dX11_link_12 ?_
    refine mf_callSi (stk := []) (wX11_in l _ _ _ _) cl_X11_88 rfl (by decide) rfl (Nat.le_of_ble_eq_true rfl) rfl rfl dX11_link_15 (fun x3 s4 => ?_)
    refine mf_if_ne 23 dX11_link_18 (by decide) ?_ ?_
    · refine mf_iconst (-1) dX11_link_21 (by decide) ?_
      exact mf_iret dX11_link_22
    · refine mf_aload_n dX11_link_23 rfl 0 rfl ?_
      refine mf_getR fl_X11_7 rfl rfl dX11_link_24 ?_
      refine mf_iconst 1 dX11_link_27 (by decide) ?_
      refine mf_iload_n dX11_link_28 rfl 1 rfl ?_
      refine mf_iload_n dX11_link_29 rfl 2 rfl ?_
      refine mf_callSi (stk := [.int 1, .ref 46]) (wX11_pair l _ _ _) cl_X11_96 rfl (by decide) rfl (Nat.le_of_ble_eq_true rfl) rfl rfl dX11_link_30 (fun x5 s6 => ?_)
      refine mf_iadd dX11_link_33 ?_
      refine mf_iald rfl dX11_link_34 ?_
      refine mf_leti (fun x7 => ?_)
      refine mf_istore [(4, .int x7), (0, .ref 45), (1, .int p1), (2, .int p2), (3, .int p3)] dX11_link_35 (by decide) rfl ?_
      refine mf_iload dX11_link_37 0 rfl ?_
      refine mf_iload_n dX11_link_39 rfl 4 rfl ?_
      refine mf_join (fun (J : mx_G → Option (Int32 × mx_G)) => ∀ (s_62 : mx_G), mf_X ei l RX11 cX11_link 5 (some .int) "link" 3 (J s_62) 62 [(0, .ref 45), (1, .int p1), (2, .int p2), (3, .int p3), (4, .int x7)] [] s_62) ?_ (fun J62 hJ62 => ?_)
      · intro s_62
        refine mf_aload_n dX11_link_62 rfl 0 rfl ?_
        refine mf_callVv (stk := []) (wX11_notes l _) cl_X11_106 rfl (by decide) rfl rfl rfl (Nat.le_of_ble_eq_true rfl) rfl rfl dX11_link_63 (fun us8 s8 => ?_)
        refine mf_aload_n dX11_link_66 rfl 0 rfl ?_
        refine mf_iload_n dX11_link_67 rfl 1 rfl ?_
        refine mf_iload_n dX11_link_68 rfl 2 rfl ?_
        refine mf_iload_n dX11_link_69 rfl 3 rfl ?_
        refine mf_iconst 0 dX11_link_70 (by decide) ?_
        refine mf_callVv (stk := []) (wX11_links l _ _ _ _ _) cl_X11_109 rfl (by decide) rfl rfl rfl (Nat.le_of_ble_eq_true rfl) rfl rfl dX11_link_71 (fun us9 s9 => ?_)
        refine mf_iload dX11_link_74 4 rfl ?_
        exact mf_iret dX11_link_76
      refine mf_icmp_ne 62 dX11_link_40 (by decide) ?_ ?_
      · refine mf_aload_n dX11_link_43 rfl 1 rfl ?_
        refine mf_getR fl_X11_7 rfl rfl dX11_link_44 ?_
        refine mf_bipush 37 dX11_link_47 (by decide) ?_
        refine mf_iload_n dX11_link_49 rfl 2 rfl ?_
        refine mf_iload_n dX11_link_50 rfl 3 rfl ?_
        refine mf_callSi (stk := [.int 37, .ref 46]) (wX11_pair l _ _ _) cl_X11_96 rfl (by decide) rfl (Nat.le_of_ble_eq_true rfl) rfl rfl dX11_link_51 (fun x10 s11 => ?_)
        refine mf_iadd dX11_link_54 ?_
        refine mf_iald rfl dX11_link_55 ?_
        refine mf_if_ne 62 dX11_link_56 (by decide) ?_ ?_
        · refine mf_bipush (-2) dX11_link_59 (by decide) ?_
          exact mf_iret dX11_link_61
        · exact mf_sub [1, 2, 3, 4, 0] rfl (hJ62 _)
      · exact mf_sub [1, 2, 3, 4, 0] rfl (hJ62 _)
set_option maxRecDepth 100000 in
set_option maxHeartbeats 4000000 in
theorem wX11_cut (l : Launch) (p1 : Int32) (p2 : Int32) (s : mx_G) : mf_M ei l yX11_cut cX11_cut 4 (some .int) 3 [.ref 45, .int p1, .int p2] s (fX11_cut p1 p2 s) := by
  refine mf_intro rfl (Nat.le_of_ble_eq_true rfl) rfl rfl ?_
  refine mf_sub (loc' := [(0, .ref 45), (1, .int p1), (2, .int p2)]) [0, 1, 2] rfl ?_
  unfold fX11_cut
  refine mf_aload_n dX11_cut_0 rfl 0 rfl ?_
  refine mf_iload_n dX11_cut_1 rfl 1 rfl ?_
  refine mf_iload_n dX11_cut_2 rfl 2 rfl ?_
  refine mf_callVi (stk := []) (wX11_areTwo l _ _ _) cl_X11_100 rfl (by decide) rfl rfl rfl (Nat.le_of_ble_eq_true rfl) rfl rfl dX11_cut_3 (fun x1 s2 => ?_)
  refine mf_if_ne 11 dX11_cut_6 (by decide) ?_ ?_
  · refine mf_iconst (-1) dX11_cut_9 (by decide) ?_
    exact mf_iret dX11_cut_10
  · refine mf_aload_n dX11_cut_11 rfl 0 rfl ?_
    refine mf_getR fl_X11_7 rfl rfl dX11_cut_12 ?_
    refine mf_iconst 1 dX11_cut_15 (by decide) ?_
    refine mf_iload_n dX11_cut_16 rfl 1 rfl ?_
    refine mf_iload_n dX11_cut_17 rfl 2 rfl ?_
    refine mf_callSi (stk := [.int 1, .ref 46]) (wX11_pair l _ _ _) cl_X11_96 rfl (by decide) rfl (Nat.le_of_ble_eq_true rfl) rfl rfl dX11_cut_18 (fun x3 s4 => ?_)
    refine mf_iadd dX11_cut_21 ?_
    refine mf_iald rfl dX11_cut_22 ?_
    refine mf_leti (fun x5 => ?_)
    refine mf_istore_n [(3, .int x5), (0, .ref 45), (1, .int p1), (2, .int p2)] dX11_cut_23 rfl (by decide) rfl ?_
    refine mf_iload_n dX11_cut_24 rfl 0 rfl ?_
    refine mf_if_ne 31 dX11_cut_25 (by decide) ?_ ?_
    · refine mf_bipush (-4) dX11_cut_28 (by decide) ?_
      exact mf_iret dX11_cut_30
    · refine mf_aload_n dX11_cut_31 rfl 1 rfl ?_
      refine mf_callVv (stk := []) (wX11_notes l _) cl_X11_106 rfl (by decide) rfl rfl rfl (Nat.le_of_ble_eq_true rfl) rfl rfl dX11_cut_32 (fun us6 s6 => ?_)
      refine mf_aload_n dX11_cut_35 rfl 1 rfl ?_
      refine mf_iload_n dX11_cut_36 rfl 2 rfl ?_
      refine mf_iload_n dX11_cut_37 rfl 3 rfl ?_
      refine mf_iload_n dX11_cut_38 rfl 0 rfl ?_
      refine mf_iconst 1 dX11_cut_39 (by decide) ?_
      refine mf_aload_n dX11_cut_40 rfl 1 rfl ?_
      refine mf_getR fl_X11_7 rfl rfl dX11_cut_41 ?_
      refine mf_bipush 37 dX11_cut_44 (by decide) ?_
      refine mf_iload_n dX11_cut_46 rfl 2 rfl ?_
      refine mf_iload_n dX11_cut_47 rfl 3 rfl ?_
      refine mf_callSi (stk := [.int 37, .ref 46, .int 1, .int x5, .int p2, .int p1, .ref 45]) (wX11_pair l _ _ _) cl_X11_96 rfl (by decide) rfl (Nat.le_of_ble_eq_true rfl) rfl rfl dX11_cut_48 (fun x7 s8 => ?_)
      refine mf_iadd dX11_cut_51 ?_
      refine mf_iald rfl dX11_cut_52 ?_
      refine mf_isub dX11_cut_53 ?_
      refine mf_callVv (stk := []) (wX11_links l _ _ _ _ _) cl_X11_109 rfl (by decide) rfl rfl rfl (Nat.le_of_ble_eq_true rfl) rfl rfl dX11_cut_54 (fun us9 s9 => ?_)
      refine mf_aload_n dX11_cut_57 rfl 1 rfl ?_
      refine mf_getR fl_X11_7 rfl rfl dX11_cut_58 ?_
      refine mf_bipush 37 dX11_cut_61 (by decide) ?_
      refine mf_iload_n dX11_cut_63 rfl 2 rfl ?_
      refine mf_iload_n dX11_cut_64 rfl 3 rfl ?_
      refine mf_callSi (stk := [.int 37, .ref 46]) (wX11_pair l _ _ _) cl_X11_96 rfl (by decide) rfl (Nat.le_of_ble_eq_true rfl) rfl rfl dX11_cut_65 (fun x10 s11 => ?_)
      refine mf_iadd dX11_cut_68 ?_
      refine mf_iald rfl dX11_cut_69 ?_
      exact mf_iret dX11_cut_70
set_option maxRecDepth 100000 in
set_option maxHeartbeats 4000000 in
theorem wX11_becomes (l : Launch) (p1 : Int32) (p2 : Int32) (s : mx_G) : mf_M ei l yX11_becomes cX11_becomes 4 (some .int) 2 [.ref 45, .int p1, .int p2] s (fX11_becomes p1 p2 s) := by
  refine mf_intro rfl (Nat.le_of_ble_eq_true rfl) rfl rfl ?_
  refine mf_sub (loc' := [(0, .ref 45), (1, .int p1), (2, .int p2)]) [0, 1, 2] rfl ?_
  unfold fX11_becomes
  refine mf_aload_n dX11_becomes_0 rfl 0 rfl ?_
  refine mf_getR fl_X11_7 rfl rfl dX11_becomes_1 ?_
  refine mf_iload_n dX11_becomes_4 rfl 1 rfl ?_
  refine mf_iald rfl dX11_becomes_5 ?_
  refine mf_leti (fun x1 => ?_)
  refine mf_istore_n [(3, .int x1), (0, .ref 45), (1, .int p1), (2, .int p2)] dX11_becomes_6 rfl (by decide) rfl ?_
  refine mf_iload_n dX11_becomes_7 rfl 0 rfl ?_
  refine mf_iload_n dX11_becomes_8 rfl 3 rfl ?_
  refine mf_icmp_ne 15 dX11_becomes_9 (by decide) ?_ ?_
  · refine mf_bipush (-2) dX11_becomes_12 (by decide) ?_
    exact mf_iret dX11_becomes_14
  · refine mf_aload_n dX11_becomes_15 rfl 1 rfl ?_
    refine mf_callVv (stk := []) (wX11_notes l _) cl_X11_106 rfl (by decide) rfl rfl rfl (Nat.le_of_ble_eq_true rfl) rfl rfl dX11_becomes_16 (fun us2 s2 => ?_)
    refine mf_aload_n dX11_becomes_19 rfl 1 rfl ?_
    refine mf_getR fl_X11_7 rfl rfl dX11_becomes_20 ?_
    refine mf_iload_n dX11_becomes_23 rfl 2 rfl ?_
    refine mf_iload_n dX11_becomes_24 rfl 3 rfl ?_
    refine mf_iast rfl dX11_becomes_25 (fun s3 => ?_)
    refine mf_iload_n dX11_becomes_26 rfl 0 rfl ?_
    exact mf_iret dX11_becomes_27
set_option maxRecDepth 100000 in
set_option maxHeartbeats 4000000 in
theorem wX11_like (l : Launch) (p1 : Int32) (p2 : Int32) (p3 : Int32) (s : mx_G) : mf_M ei l yX11_like cX11_like 4 (some .int) 3 [.ref 45, .int p1, .int p2, .int p3] s (fX11_like p1 p2 p3 s) := by
  refine mf_intro rfl (Nat.le_of_ble_eq_true rfl) rfl rfl ?_
  refine mf_sub (loc' := [(0, .ref 45), (1, .int p1), (2, .int p2), (3, .int p3)]) [0, 1, 2, 3] rfl ?_
  unfold fX11_like
  refine mf_aload_n dX11_like_0 rfl 0 rfl ?_
  refine mf_iload_n dX11_like_1 rfl 1 rfl ?_
  refine mf_iload_n dX11_like_2 rfl 2 rfl ?_
  refine mf_callVi (stk := []) (wX11_areTwo l _ _ _) cl_X11_100 rfl (by decide) rfl rfl rfl (Nat.le_of_ble_eq_true rfl) rfl rfl dX11_like_3 (fun x1 s2 => ?_)
  refine mf_if_eq 37 dX11_like_6 (by decide) ?_ ?_
  · refine mf_iconst (-1) dX11_like_37 (by decide) ?_
    exact mf_iret dX11_like_38
  · refine mf_iload_n dX11_like_9 rfl 3 rfl ?_
    refine mf_i2l dX11_like_10 ?_
    refine mf_lconst 0 dX11_like_11 (by decide) ?_
    refine mf_ldc2 kl_X11_113 dX11_like_12 ?_
    refine mf_callSi (stk := []) (wX11_in l _ _ _ _) cl_X11_88 rfl (by decide) rfl (Nat.le_of_ble_eq_true rfl) rfl rfl dX11_like_15 (fun x3 s4 => ?_)
    refine mf_if_eq 37 dX11_like_18 (by decide) ?_ ?_
    · refine mf_iconst (-1) dX11_like_37 (by decide) ?_
      exact mf_iret dX11_like_38
    · refine mf_aload_n dX11_like_21 rfl 0 rfl ?_
      refine mf_bipush 73 dX11_like_22 (by decide) ?_
      refine mf_iload_n dX11_like_24 rfl 1 rfl ?_
      refine mf_iload_n dX11_like_25 rfl 2 rfl ?_
      refine mf_callSi (stk := [.int 73, .ref 45]) (wX11_pair l _ _ _) cl_X11_96 rfl (by decide) rfl (Nat.le_of_ble_eq_true rfl) rfl rfl dX11_like_26 (fun x5 s6 => ?_)
      refine mf_iadd dX11_like_29 ?_
      refine mf_iload_n dX11_like_30 rfl 3 rfl ?_
      refine mf_callVi (stk := []) (wX11_becomes l _ _ _) cl_X11_115 rfl (by decide) rfl rfl rfl (Nat.le_of_ble_eq_true rfl) rfl rfl dX11_like_31 (fun x7 s8 => ?_)
      refine mf_goto 38 dX11_like_34 (by decide) ?_
      exact mf_iret dX11_like_38
set_option maxRecDepth 100000 in
set_option maxHeartbeats 4000000 in
theorem wX11_manner (l : Launch) (p1 : Int32) (p2 : Int32) (s : mx_G) : mf_M ei l yX11_manner cX11_manner 3 (some .int) 3 [.ref 45, .int p1, .int p2] s (fX11_manner p1 p2 s) := by
  refine mf_intro rfl (Nat.le_of_ble_eq_true rfl) rfl rfl ?_
  refine mf_sub (loc' := [(0, .ref 45), (1, .int p1), (2, .int p2)]) [0, 1, 2] rfl ?_
  unfold fX11_manner
  refine mf_aload_n dX11_manner_0 rfl 0 rfl ?_
  refine mf_iload_n dX11_manner_1 rfl 1 rfl ?_
  refine mf_callVi (stk := []) (wX11_isDomain l _ _) cl_X11_92 rfl (by decide) rfl rfl rfl (Nat.le_of_ble_eq_true rfl) rfl rfl dX11_manner_2 (fun x1 s2 => ?_)
  refine mf_if_eq 32 dX11_manner_5 (by decide) ?_ ?_
  · refine mf_iconst (-1) dX11_manner_32 (by decide) ?_
    exact mf_iret dX11_manner_33
  · refine mf_iload_n dX11_manner_8 rfl 2 rfl ?_
    refine mf_i2l dX11_manner_9 ?_
    refine mf_lconst 0 dX11_manner_10 (by decide) ?_
    refine mf_ldc2 kl_X11_104 dX11_manner_11 ?_
    refine mf_callSi (stk := []) (wX11_in l _ _ _ _) cl_X11_88 rfl (by decide) rfl (Nat.le_of_ble_eq_true rfl) rfl rfl dX11_manner_14 (fun x3 s4 => ?_)
    refine mf_if_eq 32 dX11_manner_17 (by decide) ?_ ?_
    · refine mf_iconst (-1) dX11_manner_32 (by decide) ?_
      exact mf_iret dX11_manner_33
    · refine mf_aload_n dX11_manner_20 rfl 0 rfl ?_
      refine mf_bipush 109 dX11_manner_21 (by decide) ?_
      refine mf_iload_n dX11_manner_23 rfl 1 rfl ?_
      refine mf_iadd dX11_manner_24 ?_
      refine mf_iload_n dX11_manner_25 rfl 2 rfl ?_
      refine mf_callVi (stk := []) (wX11_becomes l _ _ _) cl_X11_115 rfl (by decide) rfl rfl rfl (Nat.le_of_ble_eq_true rfl) rfl rfl dX11_manner_26 (fun x5 s6 => ?_)
      refine mf_goto 33 dX11_manner_29 (by decide) ?_
      exact mf_iret dX11_manner_33
set_option maxRecDepth 100000 in
set_option maxHeartbeats 4000000 in
theorem wX11_has (l : Launch) (p0 : Int32) (p1 : Int32) (s : mx_G) : mf_M ei l yX11_has cX11_has 2 (some .boolean) 0 [.int p0, .int p1] s (fX11_has p0 p1 s) := by
  refine mf_intro rfl (Nat.le_of_ble_eq_true rfl) rfl rfl ?_
  refine mf_sub (loc' := [(0, .int p0), (1, .int p1)]) [0, 1] rfl ?_
  unfold fX11_has
  refine mf_iload_n dX11_has_0 rfl 0 rfl ?_
  refine mf_iload_n dX11_has_1 rfl 1 rfl ?_
  refine mf_ishr dX11_has_2 ?_
  refine mf_iconst 1 dX11_has_3 (by decide) ?_
  refine mf_iand dX11_has_4 ?_
  refine mf_iconst 1 dX11_has_5 (by decide) ?_
  refine mf_icmp_ne 13 dX11_has_6 (by decide) ?_ ?_
  · refine mf_iconst 1 dX11_has_9 (by decide) ?_
    refine mf_goto 14 dX11_has_10 (by decide) ?_
    exact mf_zret (by decide) dX11_has_14
  · refine mf_iconst 0 dX11_has_13 (by decide) ?_
    exact mf_zret (by decide) dX11_has_14
