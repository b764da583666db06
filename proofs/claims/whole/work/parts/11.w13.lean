set_option maxRecDepth 100000 in
set_option maxHeartbeats 4000000 in
theorem wX11_seed (l : Launch) (p1 : Int32) (s : mx_G) : mf_M ei l yX11_seed cX11_seed 3 (some .int) 0 [.ref 45, .int p1] s (fX11_seed p1 s) := by
  refine mf_intro rfl (Nat.le_of_ble_eq_true rfl) rfl rfl ?_
  refine mf_sub (loc' := [(0, .ref 45), (1, .int p1)]) [0, 1] rfl ?_
  unfold fX11_seed
  refine mf_iload_n dX11_seed_0 rfl 1 rfl ?_
  refine mf_if_ge 6 dX11_seed_1 (by decide) ?_ ?_
  · refine mf_aload_n dX11_seed_6 rfl 0 rfl ?_
    refine mf_getR fl_X11_7 rfl rfl dX11_seed_7 ?_
    refine mf_bipush 127 dX11_seed_10 (by decide) ?_
    refine mf_iald rfl dX11_seed_12 ?_
    refine mf_leti (fun x1 => ?_)
    refine mf_istore_n [(2, .int x1), (0, .ref 45), (1, .int p1)] dX11_seed_13 rfl (by decide) rfl ?_
    refine mf_aload_n dX11_seed_14 rfl 1 rfl ?_
    refine mf_getR fl_X11_7 rfl rfl dX11_seed_15 ?_
    refine mf_bipush 127 dX11_seed_18 (by decide) ?_
    refine mf_iload_n dX11_seed_20 rfl 2 rfl ?_
    refine mf_iast rfl dX11_seed_21 (fun s2 => ?_)
    refine mf_iload_n dX11_seed_22 rfl 0 rfl ?_
    exact mf_iret dX11_seed_23
  · refine mf_iconst (-1) dX11_seed_4 (by decide) ?_
    exact mf_iret dX11_seed_5
set_option maxRecDepth 100000 in
set_option maxHeartbeats 4000000 in
theorem wlX11_bring_8_3 (l : Launch) (a1 : Int32) (a3 : Int32) (a4 : Int32)   : ∀ (n : Nat) (a5 : Int32) (s0 : mx_G), mf_X ev l RX11 cX11_bring 6 none "bring" 0 (lX11_bring_8_3 a1 a3 a4  n a5 s0) 3 [(0, .ref 46), (1, .int a1), (2, .ref 48), (3, .int a3), (4, .int a4), (5, .int a5)] [] s0 := by
  intro n
  induction n with
  | zero => intro a5 s0; exact mf_none
  | succ n ih3 =>
    intro a5 s0
    rw [lX11_bring_8_3]
    refine mf_iload dX11_bring_3 5 rfl ?_
    refine mf_iload dX11_bring_5 4 rfl ?_
    refine mf_icmp_ge 28 dX11_bring_7 (by decide) ?_ ?_
    · exact mf_vret dX11_bring_28
    · refine mf_aload_n dX11_bring_10 rfl 2 rfl ?_
      refine mf_iload_n dX11_bring_11 rfl 3 rfl ?_
      refine mf_iload dX11_bring_12 5 rfl ?_
      refine mf_iadd dX11_bring_14 ?_
      refine mf_aload_n dX11_bring_15 rfl 0 rfl ?_
      refine mf_iload_n dX11_bring_16 rfl 1 rfl ?_
      refine mf_iload dX11_bring_17 5 rfl ?_
      refine mf_iadd dX11_bring_19 ?_
      refine mf_iald rfl dX11_bring_20 ?_
      refine mf_iast rfl dX11_bring_21 (fun s1 => ?_)
      refine mf_iinc 1 [(5, .int (a5 + 1)), (0, .ref 46), (1, .int a1), (2, .ref 48), (3, .int a3), (4, .int a4)] dX11_bring_22 5 rfl (by decide) (by decide) rfl ?_
      refine mf_goto 3 dX11_bring_25 (by decide) ?_
      exact mf_sub [1, 2, 3, 4, 5, 0] rfl (ih3 _ _)
set_option maxRecDepth 100000 in
set_option maxHeartbeats 4000000 in
theorem wX11_bring_8 (l : Launch) (p1 : Int32) (p3 : Int32) (p4 : Int32) (s : mx_G) : mf_M ev l yX11_bring cX11_bring 6 none 0 [.ref 46, .int p1, .ref 48, .int p3, .int p4] s (fX11_bring_8 p1 p3 p4 s) := by
  refine mf_intro rfl (Nat.le_of_ble_eq_true rfl) rfl rfl ?_
  refine mf_sub (loc' := [(0, .ref 46), (1, .int p1), (2, .ref 48), (3, .int p3), (4, .int p4)]) [0, 1, 2, 3, 4] rfl ?_
  unfold fX11_bring_8
  refine mf_iconst 0 dX11_bring_0 (by decide) ?_
  refine mf_istore [(5, .int 0), (0, .ref 46), (1, .int p1), (2, .ref 48), (3, .int p3), (4, .int p4)] dX11_bring_1 (by decide) rfl ?_
  exact mf_sub [1, 2, 3, 4, 5, 0] rfl (wlX11_bring_8_3 l _ _ _ FU _ _)
set_option maxRecDepth 100000 in
set_option maxHeartbeats 4000000 in
theorem wlX11_bring_9_3 (l : Launch) (a1 : Int32) (a3 : Int32) (a4 : Int32)   : ∀ (n : Nat) (a5 : Int32) (s0 : mx_G), mf_X ev l RX11 cX11_bring 6 none "bring" 0 (lX11_bring_9_3 a1 a3 a4  n a5 s0) 3 [(0, .ref 47), (1, .int a1), (2, .ref 49), (3, .int a3), (4, .int a4), (5, .int a5)] [] s0 := by
  intro n
  induction n with
  | zero => intro a5 s0; exact mf_none
  | succ n ih3 =>
    intro a5 s0
    rw [lX11_bring_9_3]
    refine mf_iload dX11_bring_3 5 rfl ?_
    refine mf_iload dX11_bring_5 4 rfl ?_
    refine mf_icmp_ge 28 dX11_bring_7 (by decide) ?_ ?_
    · exact mf_vret dX11_bring_28
    · refine mf_aload_n dX11_bring_10 rfl 2 rfl ?_
      refine mf_iload_n dX11_bring_11 rfl 3 rfl ?_
      refine mf_iload dX11_bring_12 5 rfl ?_
      refine mf_iadd dX11_bring_14 ?_
      refine mf_aload_n dX11_bring_15 rfl 0 rfl ?_
      refine mf_iload_n dX11_bring_16 rfl 1 rfl ?_
      refine mf_iload dX11_bring_17 5 rfl ?_
      refine mf_iadd dX11_bring_19 ?_
      refine mf_iald rfl dX11_bring_20 ?_
      refine mf_iast rfl dX11_bring_21 (fun s1 => ?_)
      refine mf_iinc 1 [(5, .int (a5 + 1)), (0, .ref 47), (1, .int a1), (2, .ref 49), (3, .int a3), (4, .int a4)] dX11_bring_22 5 rfl (by decide) (by decide) rfl ?_
      refine mf_goto 3 dX11_bring_25 (by decide) ?_
      exact mf_sub [1, 2, 3, 4, 5, 0] rfl (ih3 _ _)
set_option maxRecDepth 100000 in
set_option maxHeartbeats 4000000 in
theorem wX11_bring_9 (l : Launch) (p1 : Int32) (p3 : Int32) (p4 : Int32) (s : mx_G) : mf_M ev l yX11_bring cX11_bring 6 none 0 [.ref 47, .int p1, .ref 49, .int p3, .int p4] s (fX11_bring_9 p1 p3 p4 s) := by
  refine mf_intro rfl (Nat.le_of_ble_eq_true rfl) rfl rfl ?_
  refine mf_sub (loc' := [(0, .ref 47), (1, .int p1), (2, .ref 49), (3, .int p3), (4, .int p4)]) [0, 1, 2, 3, 4] rfl ?_
  unfold fX11_bring_9
  refine mf_iconst 0 dX11_bring_0 (by decide) ?_
  refine mf_istore [(5, .int 0), (0, .ref 47), (1, .int p1), (2, .ref 49), (3, .int p3), (4, .int p4)] dX11_bring_1 (by decide) rfl ?_
  exact mf_sub [1, 2, 3, 4, 5, 0] rfl (wlX11_bring_9_3 l _ _ _ FU _ _)
set_option maxRecDepth 100000 in
set_option maxHeartbeats 4000000 in
theorem wX11_image (l : Launch) (s : mx_G) : mf_M ei l yX11_image cX11_image 1 (some .int) 1 [.ref 45] s (fX11_image  s) := by
  refine mf_intro rfl (Nat.le_of_ble_eq_true rfl) rfl rfl ?_
  refine mf_sub (loc' := [(0, .ref 45)]) [0] rfl ?_
  unfold fX11_image
  refine mf_aload_n dX11_image_0 rfl 0 rfl ?_
  refine mf_getR fl_X11_7 rfl rfl dX11_image_1 ?_
  refine mf_iconst 0 dX11_image_4 (by decide) ?_
  refine mf_aload_n dX11_image_5 rfl 0 rfl ?_
  refine mf_getR fl_X11_16 rfl rfl dX11_image_6 ?_
  refine mf_iconst 0 dX11_image_9 (by decide) ?_
  refine mf_sipush 128 dX11_image_10 (by decide) ?_
  refine mf_callSv (stk := []) (wX11_bring_8 l _ _ _ _) cl_X11_84 rfl (by decide) rfl (Nat.le_of_ble_eq_true rfl) rfl rfl dX11_image_13 (fun us1 s1 => ?_)
  refine mf_aload_n dX11_image_16 rfl 0 rfl ?_
  refine mf_getR fl_X11_13 rfl rfl dX11_image_17 ?_
  refine mf_iconst 0 dX11_image_20 (by decide) ?_
  refine mf_aload_n dX11_image_21 rfl 0 rfl ?_
  refine mf_getR fl_X11_19 rfl rfl dX11_image_22 ?_
  refine mf_iconst 0 dX11_image_25 (by decide) ?_
  refine mf_sipush 768 dX11_image_26 (by decide) ?_
  refine mf_callSv (stk := []) (wX11_bring_9 l _ _ _ _) cl_X11_84 rfl (by decide) rfl (Nat.le_of_ble_eq_true rfl) rfl rfl dX11_image_29 (fun us2 s2 => ?_)
  refine mf_aload_n dX11_image_32 rfl 0 rfl ?_
  refine mf_aload_n dX11_image_33 rfl 0 rfl ?_
  refine mf_getI fl_X11_81 rfl rfl dX11_image_34 ?_
  refine mf_putI fl_X11_22 rfl rfl dX11_image_37 (fun s3 => ?_)
  refine mf_iconst 1 dX11_image_40 (by decide) ?_
  exact mf_iret dX11_image_41
set_option maxRecDepth 100000 in
set_option maxHeartbeats 4000000 in
theorem wlX11_bring_10_3 (l : Launch) (a1 : Int32) (a3 : Int32) (a4 : Int32)   : ∀ (n : Nat) (a5 : Int32) (s0 : mx_G), mf_X ev l RX11 cX11_bring 6 none "bring" 0 (lX11_bring_10_3 a1 a3 a4  n a5 s0) 3 [(0, .ref 48), (1, .int a1), (2, .ref 46), (3, .int a3), (4, .int a4), (5, .int a5)] [] s0 := by
  intro n
  induction n with
  | zero => intro a5 s0; exact mf_none
  | succ n ih3 =>
    intro a5 s0
    rw [lX11_bring_10_3]
    refine mf_iload dX11_bring_3 5 rfl ?_
    refine mf_iload dX11_bring_5 4 rfl ?_
    refine mf_icmp_ge 28 dX11_bring_7 (by decide) ?_ ?_
    · exact mf_vret dX11_bring_28
    · refine mf_aload_n dX11_bring_10 rfl 2 rfl ?_
      refine mf_iload_n dX11_bring_11 rfl 3 rfl ?_
      refine mf_iload dX11_bring_12 5 rfl ?_
      refine mf_iadd dX11_bring_14 ?_
      refine mf_aload_n dX11_bring_15 rfl 0 rfl ?_
      refine mf_iload_n dX11_bring_16 rfl 1 rfl ?_
      refine mf_iload dX11_bring_17 5 rfl ?_
      refine mf_iadd dX11_bring_19 ?_
      refine mf_iald rfl dX11_bring_20 ?_
      refine mf_iast rfl dX11_bring_21 (fun s1 => ?_)
      refine mf_iinc 1 [(5, .int (a5 + 1)), (0, .ref 48), (1, .int a1), (2, .ref 46), (3, .int a3), (4, .int a4)] dX11_bring_22 5 rfl (by decide) (by decide) rfl ?_
      refine mf_goto 3 dX11_bring_25 (by decide) ?_
      exact mf_sub [1, 2, 3, 4, 5, 0] rfl (ih3 _ _)
set_option maxRecDepth 100000 in
set_option maxHeartbeats 4000000 in
theorem wX11_bring_10 (l : Launch) (p1 : Int32) (p3 : Int32) (p4 : Int32) (s : mx_G) : mf_M ev l yX11_bring cX11_bring 6 none 0 [.ref 48, .int p1, .ref 46, .int p3, .int p4] s (fX11_bring_10 p1 p3 p4 s) := by
  refine mf_intro rfl (Nat.le_of_ble_eq_true rfl) rfl rfl ?_
  refine mf_sub (loc' := [(0, .ref 48), (1, .int p1), (2, .ref 46), (3, .int p3), (4, .int p4)]) [0, 1, 2, 3, 4] rfl ?_
  unfold fX11_bring_10
  refine mf_iconst 0 dX11_bring_0 (by decide) ?_
  refine mf_istore [(5, .int 0), (0, .ref 48), (1, .int p1), (2, .ref 46), (3, .int p3), (4, .int p4)] dX11_bring_1 (by decide) rfl ?_
  exact mf_sub [1, 2, 3, 4, 5, 0] rfl (wlX11_bring_10_3 l _ _ _ FU _ _)
set_option maxRecDepth 100000 in
set_option maxHeartbeats 4000000 in
theorem wlX11_bring_11_3 (l : Launch) (a1 : Int32) (a3 : Int32) (a4 : Int32)   : ∀ (n : Nat) (a5 : Int32) (s0 : mx_G), mf_X ev l RX11 cX11_bring 6 none "bring" 0 (lX11_bring_11_3 a1 a3 a4  n a5 s0) 3 [(0, .ref 49), (1, .int a1), (2, .ref 47), (3, .int a3), (4, .int a4), (5, .int a5)] [] s0 := by
  intro n
  induction n with
  | zero => intro a5 s0; exact mf_none
  | succ n ih3 =>
    intro a5 s0
    rw [lX11_bring_11_3]
    refine mf_iload dX11_bring_3 5 rfl ?_
    refine mf_iload dX11_bring_5 4 rfl ?_
    refine mf_icmp_ge 28 dX11_bring_7 (by decide) ?_ ?_
    · exact mf_vret dX11_bring_28
    · refine mf_aload_n dX11_bring_10 rfl 2 rfl ?_
      refine mf_iload_n dX11_bring_11 rfl 3 rfl ?_
      refine mf_iload dX11_bring_12 5 rfl ?_
      refine mf_iadd dX11_bring_14 ?_
      refine mf_aload_n dX11_bring_15 rfl 0 rfl ?_
      refine mf_iload_n dX11_bring_16 rfl 1 rfl ?_
      refine mf_iload dX11_bring_17 5 rfl ?_
      refine mf_iadd dX11_bring_19 ?_
      refine mf_iald rfl dX11_bring_20 ?_
      refine mf_iast rfl dX11_bring_21 (fun s1 => ?_)
      refine mf_iinc 1 [(5, .int (a5 + 1)), (0, .ref 49), (1, .int a1), (2, .ref 47), (3, .int a3), (4, .int a4)] dX11_bring_22 5 rfl (by decide) (by decide) rfl ?_
      refine mf_goto 3 dX11_bring_25 (by decide) ?_
      exact mf_sub [1, 2, 3, 4, 5, 0] rfl (ih3 _ _)
set_option maxRecDepth 100000 in
set_option maxHeartbeats 4000000 in
theorem wX11_bring_11 (l : Launch) (p1 : Int32) (p3 : Int32) (p4 : Int32) (s : mx_G) : mf_M ev l yX11_bring cX11_bring 6 none 0 [.ref 49, .int p1, .ref 47, .int p3, .int p4] s (fX11_bring_11 p1 p3 p4 s) := by
  refine mf_intro rfl (Nat.le_of_ble_eq_true rfl) rfl rfl ?_
  refine mf_sub (loc' := [(0, .ref 49), (1, .int p1), (2, .ref 47), (3, .int p3), (4, .int p4)]) [0, 1, 2, 3, 4] rfl ?_
  unfold fX11_bring_11
  refine mf_iconst 0 dX11_bring_0 (by decide) ?_
  refine mf_istore [(5, .int 0), (0, .ref 49), (1, .int p1), (2, .ref 47), (3, .int p3), (4, .int p4)] dX11_bring_1 (by decide) rfl ?_
  exact mf_sub [1, 2, 3, 4, 5, 0] rfl (wlX11_bring_11_3 l _ _ _ FU _ _)
set_option maxRecDepth 100000 in
set_option maxHeartbeats 4000000 in
theorem wX11_restore (l : Launch) (s : mx_G) : mf_M ei l yX11_restore cX11_restore 1 (some .int) 1 [.ref 45] s (fX11_restore  s) := by
  refine mf_intro rfl (Nat.le_of_ble_eq_true rfl) rfl rfl ?_
  refine mf_sub (loc' := [(0, .ref 45)]) [0] rfl ?_
  unfold fX11_restore
  refine mf_aload_n dX11_restore_0 rfl 0 rfl ?_
  refine mf_getI fl_X11_22 rfl rfl dX11_restore_1 ?_
  refine mf_if_ge 10 dX11_restore_4 (by decide) ?_ ?_
  · refine mf_aload_n dX11_restore_10 rfl 0 rfl ?_
    refine mf_getR fl_X11_16 rfl rfl dX11_restore_11 ?_
    refine mf_iconst 0 dX11_restore_14 (by decide) ?_
    refine mf_aload_n dX11_restore_15 rfl 0 rfl ?_
    refine mf_getR fl_X11_7 rfl rfl dX11_restore_16 ?_
    refine mf_iconst 0 dX11_restore_19 (by decide) ?_
    refine mf_sipush 128 dX11_restore_20 (by decide) ?_
    refine mf_callSv (stk := []) (wX11_bring_10 l _ _ _ _) cl_X11_84 rfl (by decide) rfl (Nat.le_of_ble_eq_true rfl) rfl rfl dX11_restore_23 (fun us1 s1 => ?_)
    refine mf_aload_n dX11_restore_26 rfl 0 rfl ?_
    refine mf_getR fl_X11_19 rfl rfl dX11_restore_27 ?_
    refine mf_iconst 0 dX11_restore_30 (by decide) ?_
    refine mf_aload_n dX11_restore_31 rfl 0 rfl ?_
    refine mf_getR fl_X11_13 rfl rfl dX11_restore_32 ?_
    refine mf_iconst 0 dX11_restore_35 (by decide) ?_
    refine mf_sipush 768 dX11_restore_36 (by decide) ?_
    refine mf_callSv (stk := []) (wX11_bring_11 l _ _ _ _) cl_X11_84 rfl (by decide) rfl (Nat.le_of_ble_eq_true rfl) rfl rfl dX11_restore_39 (fun us2 s2 => ?_)
    refine mf_aload_n dX11_restore_42 rfl 0 rfl ?_
    refine mf_aload_n dX11_restore_43 rfl 0 rfl ?_
    refine mf_getI fl_X11_22 rfl rfl dX11_restore_44 ?_
    refine mf_putI fl_X11_81 rfl rfl dX11_restore_47 (fun s3 => ?_)
    refine mf_iconst 1 dX11_restore_50 (by decide) ?_
    exact mf_iret dX11_restore_51
  · refine mf_bipush (-4) dX11_restore_7 (by decide) ?_
    exact mf_iret dX11_restore_9
set_option maxRecDepth 100000 in
set_option maxHeartbeats 4000000 in
theorem wX11_isSheet (l : Launch) (p0 : Int32) (p1 : Int32) (s : mx_G) : mf_M ei l yX11_isSheet cX11_isSheet 2 (some .boolean) 1 [.int p0, .int p1] s (fX11_isSheet p0 p1 s) := by
  refine mf_intro rfl (Nat.le_of_ble_eq_true rfl) rfl rfl ?_
  refine mf_sub (loc' := [(0, .int p0), (1, .int p1)]) [0, 1] rfl ?_
  unfold fX11_isSheet
  refine mf_iload_n dX11_isSheet_0 rfl 0 rfl ?_
  refine mf_i2l dX11_isSheet_1 ?_
  refine mf_lconst 0 dX11_isSheet_2 (by decide) ?_
  refine mf_ldc2 kl_X11_104 dX11_isSheet_3 ?_
  refine mf_callSi (stk := []) (wX11_in l _ _ _ _) cl_X11_88 rfl (by decide) rfl (Nat.le_of_ble_eq_true rfl) rfl rfl dX11_isSheet_6 (fun x1 s2 => ?_)
  refine mf_if_eq 28 dX11_isSheet_9 (by decide) ?_ ?_
  · refine mf_iconst 0 dX11_isSheet_28 (by decide) ?_
    exact mf_zret (by decide) dX11_isSheet_29
  · refine mf_iload_n dX11_isSheet_12 rfl 1 rfl ?_
    refine mf_i2l dX11_isSheet_13 ?_
    refine mf_lconst 0 dX11_isSheet_14 (by decide) ?_
    refine mf_ldc2 kl_X11_104 dX11_isSheet_15 ?_
    refine mf_callSi (stk := []) (wX11_in l _ _ _ _) cl_X11_88 rfl (by decide) rfl (Nat.le_of_ble_eq_true rfl) rfl rfl dX11_isSheet_18 (fun x3 s4 => ?_)
    refine mf_if_eq 28 dX11_isSheet_21 (by decide) ?_ ?_
    · refine mf_iconst 0 dX11_isSheet_28 (by decide) ?_
      exact mf_zret (by decide) dX11_isSheet_29
    · refine mf_iconst 1 dX11_isSheet_24 (by decide) ?_
      refine mf_goto 29 dX11_isSheet_25 (by decide) ?_
      exact mf_zret (by decide) dX11_isSheet_29
set_option maxRecDepth 100000 in
set_option maxHeartbeats 4000000 in
theorem wX11_found (l : Launch) (p1 : Int32) (p2 : Int32) (p3 : Int32) (p4 : Int32) (s : mx_G) : mf_M ei l yX11_found cX11_found 5 (some .int) 0 [.ref 45, .int p1, .int p2, .int p3, .int p4] s (fX11_found p1 p2 p3 p4 s) := by
  refine mf_intro rfl (Nat.le_of_ble_eq_true rfl) rfl rfl ?_
  refine mf_sub (loc' := [(0, .ref 45), (1, .int p1), (2, .int p2), (3, .int p3), (4, .int p4)]) [0, 1, 2, 3, 4] rfl ?_
  unfold fX11_found
  refine mf_aload_n dX11_found_0 rfl 0 rfl ?_
  refine mf_getR fl_X11_29 rfl rfl dX11_found_1 ?_
  refine mf_iload_n dX11_found_4 rfl 1 rfl ?_
  refine mf_iald rfl dX11_found_5 ?_
  refine mf_if_ge 12 dX11_found_6 (by decide) ?_ ?_
  · refine mf_aload_n dX11_found_12 rfl 0 rfl ?_
    refine mf_getR fl_X11_29 rfl rfl dX11_found_13 ?_
    refine mf_iload_n dX11_found_16 rfl 1 rfl ?_
    refine mf_iald rfl dX11_found_17 ?_
    refine mf_iload_n dX11_found_18 rfl 2 rfl ?_
    refine mf_icmp_eq 25 dX11_found_19 (by decide) ?_ ?_
    · refine mf_iload_n dX11_found_25 rfl 3 rfl ?_
      refine mf_if_lt 42 dX11_found_26 (by decide) ?_ ?_
      · refine mf_bipush (-13) dX11_found_42 (by decide) ?_
        refine mf_goto 48 dX11_found_44 (by decide) ?_
        exact mf_iret dX11_found_48
      · refine mf_iload_n dX11_found_29 rfl 3 rfl ?_
        refine mf_aload_n dX11_found_30 rfl 0 rfl ?_
        refine mf_getR fl_X11_32 rfl rfl dX11_found_31 ?_
        refine mf_iload_n dX11_found_34 rfl 1 rfl ?_
        refine mf_iald rfl dX11_found_35 ?_
        refine mf_iload dX11_found_36 4 rfl ?_
        refine mf_isub dX11_found_38 ?_
        refine mf_icmp_le 47 dX11_found_39 (by decide) ?_ ?_
        · refine mf_iconst 0 dX11_found_47 (by decide) ?_
          exact mf_iret dX11_found_48
        · refine mf_bipush (-13) dX11_found_42 (by decide) ?_
          refine mf_goto 48 dX11_found_44 (by decide) ?_
          exact mf_iret dX11_found_48
    · refine mf_bipush (-12) dX11_found_22 (by decide) ?_
      exact mf_iret dX11_found_24
  · refine mf_bipush (-11) dX11_found_9 (by decide) ?_
    exact mf_iret dX11_found_11
set_option maxRecDepth 100000 in
set_option maxHeartbeats 4000000 in
theorem wlX11_tried_38 (l : Launch) (a1 : Int32) (a3 : Int32)   : ∀ (n : Nat) (a5 : Int32) (s0 : mx_G), mf_X ei l RX11 cX11_tried 8 (some .int) "tried" 6 (lX11_tried_38 a1 a3  n a5 s0) 38 [(0, .ref 45), (1, .int a1), (3, .int a3), (5, .int a5)] [] s0 := by
  intro n
  induction n with
  | zero => intro a5 s0; exact mf_none
  | succ n ih38 =>
    intro a5 s0
    rw [lX11_tried_38]
    refine mf_iload dX11_tried_38 3 rfl ?_
    refine mf_aload_n dX11_tried_40 rfl 0 rfl ?_
    refine mf_getR fl_X11_7 rfl rfl dX11_tried_41 ?_
    refine mf_iconst 0 dX11_tried_44 (by decide) ?_
    refine mf_iald rfl dX11_tried_45 ?_
    refine mf_icmp_ge 113 dX11_tried_46 (by decide) ?_ ?_
    · refine mf_aload_n dX11_tried_113 rfl 0 rfl ?_
      refine mf_callVi (stk := []) (wX11_thinksOfNexts l _) cl_X11_214 rfl (by decide) rfl rfl rfl (Nat.le_of_ble_eq_true rfl) rfl rfl dX11_tried_114 (fun x5 s6 => ?_)
      refine mf_pop rfl dX11_tried_117 ?_
      refine mf_aload_n dX11_tried_118 rfl 0 rfl ?_
      refine mf_callVi (stk := []) (wX11_notContent l _) cl_X11_193 rfl (by decide) rfl rfl rfl (Nat.le_of_ble_eq_true rfl) rfl rfl dX11_tried_119 (fun x7 s8 => ?_)
      exact mf_iret dX11_tried_122
    · refine mf_aload_n dX11_tried_49 rfl 0 rfl ?_
      refine mf_getR fl_X11_35 rfl rfl dX11_tried_50 ?_
      refine mf_bipush 24 dX11_tried_53 (by decide) ?_
      refine mf_iload_n dX11_tried_55 rfl 1 rfl ?_
      refine mf_imul dX11_tried_56 ?_
      refine mf_iload_n dX11_tried_57 rfl 2 rfl ?_
      refine mf_iadd dX11_tried_58 ?_
      refine mf_iload dX11_tried_59 3 rfl ?_
      refine mf_iadd dX11_tried_61 ?_
      refine mf_iconst 1 dX11_tried_62 (by decide) ?_
      refine mf_isub dX11_tried_63 ?_
      refine mf_lald rfl dX11_tried_64 ?_
      refine mf_letl (fun x9 => ?_)
      refine mf_lstore [(6, .long x9), (0, .ref 45), (1, .int a1), (3, .int a3), (5, .int a5)] dX11_tried_65 (by decide) rfl ?_
      refine mf_lload dX11_tried_67 0 rfl ?_
      refine mf_lconst 0 dX11_tried_69 (by decide) ?_
      refine mf_aload_n dX11_tried_70 rfl 1 rfl ?_
      refine mf_getR fl_X11_7 rfl rfl dX11_tried_71 ?_
      refine mf_iconst 0 dX11_tried_74 (by decide) ?_
      refine mf_iald rfl dX11_tried_75 ?_
      refine mf_iconst 1 dX11_tried_76 (by decide) ?_
      refine mf_isub dX11_tried_77 ?_
      refine mf_i2l dX11_tried_78 ?_
      refine mf_callSi (stk := []) (wX11_in l _ _ _ _) cl_X11_88 rfl (by decide) rfl (Nat.le_of_ble_eq_true rfl) rfl rfl dX11_tried_79 (fun x10 s11 => ?_)
      refine mf_join (fun (J : mx_G → Option (Int32 × mx_G)) => ∀ (s_97 : mx_G), mf_X ei l RX11 cX11_tried 8 (some .int) "tried" 6 (J s_97) 97 [(0, .ref 45), (1, .int a1), (3, .int a3), (5, .int a5), (6, .long x9)] [] s_97) ?_ (fun J97 hJ97 => ?_)
      · intro s_97
        refine mf_aload_n dX11_tried_97 rfl 0 rfl ?_
        refine mf_getR fl_X11_54 rfl rfl dX11_tried_98 ?_
        refine mf_iload dX11_tried_101 3 rfl ?_
        refine mf_lload dX11_tried_103 4 rfl ?_
        refine mf_l2i dX11_tried_105 ?_
        refine mf_iast rfl dX11_tried_106 (fun s12 => ?_)
        refine mf_iinc 1 [(5, .int (a5 + 1)), (0, .ref 45), (1, .int a1), (3, .int a3), (6, .long x9)] dX11_tried_107 3 rfl (by decide) (by decide) rfl ?_
        refine mf_goto 38 dX11_tried_110 (by decide) ?_
        exact mf_sub [1, 2, 3, 0] rfl (ih38 _ _)
      refine mf_if_ne 97 dX11_tried_82 (by decide) ?_ ?_
      · refine mf_lload dX11_tried_85 0 rfl ?_
        refine mf_ldc2 kl_X11_113 dX11_tried_87 ?_
        refine mf_lcmp dX11_tried_90 ?_
        refine mf_if_eq 97 dX11_tried_91 (by decide) ?_ ?_
        · exact mf_sub [1, 2, 3, 4, 0] rfl (hJ97 _)
        · refine mf_bipush (-2) dX11_tried_94 (by decide) ?_
          exact mf_iret dX11_tried_96
      · exact mf_sub [1, 2, 3, 4, 0] rfl (hJ97 _)
set_option maxRecDepth 100000 in
set_option maxHeartbeats 4000000 in
theorem wX11_tried (l : Launch) (p1 : Int32) (p2 : Int32) (p3 : Int32) (s : mx_G) : mf_M ei l yX11_tried cX11_tried 8 (some .int) 6 [.ref 45, .int p1, .int p2, .int p3] s (fX11_tried p1 p2 p3 s) := by
  refine mf_intro rfl (Nat.le_of_ble_eq_true rfl) rfl rfl ?_
  refine mf_sub (loc' := [(0, .ref 45), (1, .int p1), (2, .int p2), (3, .int p3)]) [0, 1, 2, 3] rfl ?_
  unfold fX11_tried
  refine mf_iload_n dX11_tried_0 rfl 1 rfl ?_
  refine mf_iload_n dX11_tried_1 rfl 2 rfl ?_
  refine mf_callSi (stk := []) (wX11_isSheet l _ _ _) cl_X11_301 rfl (by decide) rfl (Nat.le_of_ble_eq_true rfl) rfl rfl dX11_tried_2 (fun x1 s2 => ?_)
  refine mf_if_ne 10 dX11_tried_5 (by decide) ?_ ?_
  · refine mf_iconst (-1) dX11_tried_8 (by decide) ?_
    exact mf_iret dX11_tried_9
  · refine mf_aload_n dX11_tried_10 rfl 0 rfl ?_
    refine mf_iload_n dX11_tried_11 rfl 1 rfl ?_
    refine mf_iload_n dX11_tried_12 rfl 2 rfl ?_
    refine mf_iload_n dX11_tried_13 rfl 3 rfl ?_
    refine mf_aload_n dX11_tried_14 rfl 0 rfl ?_
    refine mf_getR fl_X11_7 rfl rfl dX11_tried_15 ?_
    refine mf_iconst 0 dX11_tried_18 (by decide) ?_
    refine mf_iald rfl dX11_tried_19 ?_
    refine mf_iconst 1 dX11_tried_20 (by decide) ?_
    refine mf_isub dX11_tried_21 ?_
    refine mf_callVi (stk := []) (wX11_found l _ _ _ _ _) cl_X11_304 rfl (by decide) rfl rfl rfl (Nat.le_of_ble_eq_true rfl) rfl rfl dX11_tried_22 (fun x3 s4 => ?_)
    refine mf_istore [(4, .int x3), (0, .ref 45), (1, .int p1), (2, .int p2), (3, .int p3)] dX11_tried_25 (by decide) rfl ?_
    refine mf_iload dX11_tried_27 0 rfl ?_
    refine mf_if_eq 35 dX11_tried_29 (by decide) ?_ ?_
    · refine mf_iconst 1 dX11_tried_35 (by decide) ?_
      refine mf_istore [(5, .int 1), (4, .int x3), (0, .ref 45), (1, .int p1), (2, .int p2), (3, .int p3)] dX11_tried_36 (by decide) rfl ?_
      exact mf_sub [2, 3, 5, 0] rfl (wlX11_tried_38 l _ _ FU _ _)
    · refine mf_iload dX11_tried_32 0 rfl ?_
      exact mf_iret dX11_tried_34
set_option maxRecDepth 100000 in
set_option maxHeartbeats 4000000 in
theorem wlX11_film_38 (l : Launch) (a1 : Int32) (a3 : Int32) (k102 : mx_G → Option (Int32 × mx_G)) (hk102 : ∀ (sz : mx_G), mf_X ei l RX11 cX11_film 7 (some .int) "film" 3 (k102 sz) 102 [(0, .ref 45)] [] sz) : ∀ (n : Nat) (a5 : Int32) (s0 : mx_G), mf_X ei l RX11 cX11_film 7 (some .int) "film" 3 (lX11_film_38 a1 a3 k102 n a5 s0) 38 [(0, .ref 45), (1, .int a1), (3, .int a3), (5, .int a5)] [] s0 := by
  intro n
  induction n with
  | zero => intro a5 s0; exact mf_none
  | succ n ih38 =>
    intro a5 s0
    rw [lX11_film_38]
    refine mf_iload dX11_film_38 3 rfl ?_
    refine mf_aload_n dX11_film_40 rfl 0 rfl ?_
    refine mf_getR fl_X11_7 rfl rfl dX11_film_41 ?_
    refine mf_iconst 0 dX11_film_44 (by decide) ?_
    refine mf_iald rfl dX11_film_45 ?_
    refine mf_icmp_ge 102 dX11_film_46 (by decide) ?_ ?_
    · exact mf_sub [0] rfl (hk102 _)
    · refine mf_aload_n dX11_film_49 rfl 0 rfl ?_
      refine mf_getR fl_X11_7 rfl rfl dX11_film_50 ?_
      refine mf_bipush 121 dX11_film_53 (by decide) ?_
      refine mf_iload dX11_film_55 3 rfl ?_
      refine mf_iadd dX11_film_57 ?_
      refine mf_iald rfl dX11_film_58 ?_
      refine mf_leti (fun x5 => ?_)
      refine mf_istore [(6, .int x5), (0, .ref 45), (1, .int a1), (3, .int a3), (5, .int a5)] dX11_film_59 (by decide) rfl ?_
      refine mf_aload_n dX11_film_61 rfl 1 rfl ?_
      refine mf_getR fl_X11_35 rfl rfl dX11_film_62 ?_
      refine mf_bipush 24 dX11_film_65 (by decide) ?_
      refine mf_iload_n dX11_film_67 rfl 2 rfl ?_
      refine mf_imul dX11_film_68 ?_
      refine mf_iload_n dX11_film_69 rfl 3 rfl ?_
      refine mf_iadd dX11_film_70 ?_
      refine mf_iload dX11_film_71 4 rfl ?_
      refine mf_iadd dX11_film_73 ?_
      refine mf_iconst 1 dX11_film_74 (by decide) ?_
      refine mf_isub dX11_film_75 ?_
      refine mf_iload dX11_film_76 0 rfl ?_
      refine mf_bipush (-4) dX11_film_78 (by decide) ?_
      refine mf_icmp_ne 89 dX11_film_80 (by decide) ?_ ?_
      · refine mf_ldc2 kl_X11_113 dX11_film_83 ?_
        refine mf_goto 95 dX11_film_86 (by decide) ?_
        refine mf_last rfl dX11_film_95 (fun s9 => ?_)
        refine mf_iinc 1 [(5, .int (a5 + 1)), (6, .int x5), (0, .ref 45), (1, .int a1), (3, .int a3)] dX11_film_96 4 rfl (by decide) (by decide) rfl ?_
        refine mf_goto 38 dX11_film_99 (by decide) ?_
        exact mf_sub [2, 3, 4, 0] rfl (ih38 _ _)
      · refine mf_iload dX11_film_89 0 rfl ?_
        refine mf_callSi (stk := [.int ((((24 * a1) + a3) + a5) - 1), .ref 53]) (wX11_second l _ _) cl_X11_144 rfl (by decide) rfl (Nat.le_of_ble_eq_true rfl) rfl rfl dX11_film_91 (fun x6 s7 => ?_)
        refine mf_i2l dX11_film_94 ?_
        refine mf_last rfl dX11_film_95 (fun s8 => ?_)
        refine mf_iinc 1 [(5, .int (a5 + 1)), (6, .int x5), (0, .ref 45), (1, .int a1), (3, .int a3)] dX11_film_96 4 rfl (by decide) (by decide) rfl ?_
        refine mf_goto 38 dX11_film_99 (by decide) ?_
        exact mf_sub [2, 3, 4, 0] rfl (ih38 _ _)
set_option maxRecDepth 100000 in
set_option maxHeartbeats 4000000 in
theorem wX11_film (l : Launch) (p1 : Int32) (p2 : Int32) (p3 : Int32) (s : mx_G) : mf_M ei l yX11_film cX11_film 7 (some .int) 3 [.ref 45, .int p1, .int p2, .int p3] s (fX11_film p1 p2 p3 s) := by
  refine mf_intro rfl (Nat.le_of_ble_eq_true rfl) rfl rfl ?_
  refine mf_sub (loc' := [(0, .ref 45), (1, .int p1), (2, .int p2), (3, .int p3)]) [0, 1, 2, 3] rfl ?_
  unfold fX11_film
  refine mf_iload_n dX11_film_0 rfl 1 rfl ?_
  refine mf_iload_n dX11_film_1 rfl 2 rfl ?_
  refine mf_callSi (stk := []) (wX11_isSheet l _ _ _) cl_X11_301 rfl (by decide) rfl (Nat.le_of_ble_eq_true rfl) rfl rfl dX11_film_2 (fun x1 s2 => ?_)
  refine mf_if_ne 10 dX11_film_5 (by decide) ?_ ?_
  · refine mf_iconst (-1) dX11_film_8 (by decide) ?_
    exact mf_iret dX11_film_9
  · refine mf_aload_n dX11_film_10 rfl 0 rfl ?_
    refine mf_iload_n dX11_film_11 rfl 1 rfl ?_
    refine mf_iload_n dX11_film_12 rfl 2 rfl ?_
    refine mf_iload_n dX11_film_13 rfl 3 rfl ?_
    refine mf_aload_n dX11_film_14 rfl 0 rfl ?_
    refine mf_getR fl_X11_7 rfl rfl dX11_film_15 ?_
    refine mf_iconst 0 dX11_film_18 (by decide) ?_
    refine mf_iald rfl dX11_film_19 ?_
    refine mf_iconst 1 dX11_film_20 (by decide) ?_
    refine mf_isub dX11_film_21 ?_
    refine mf_callVi (stk := []) (wX11_found l _ _ _ _ _) cl_X11_304 rfl (by decide) rfl rfl rfl (Nat.le_of_ble_eq_true rfl) rfl rfl dX11_film_22 (fun x3 s4 => ?_)
    refine mf_istore [(4, .int x3), (0, .ref 45), (1, .int p1), (2, .int p2), (3, .int p3)] dX11_film_25 (by decide) rfl ?_
    refine mf_iload dX11_film_27 0 rfl ?_
    refine mf_if_eq 35 dX11_film_29 (by decide) ?_ ?_
    · refine mf_iconst 1 dX11_film_35 (by decide) ?_
      refine mf_istore [(5, .int 1), (4, .int x3), (0, .ref 45), (1, .int p1), (2, .int p2), (3, .int p3)] dX11_film_36 (by decide) rfl ?_
      refine mf_sub [2, 3, 5, 0] rfl (wlX11_film_38 l _ _ _ (fun s10 => ?_) FU _ _)
      refine mf_aload_n dX11_film_102 rfl 0 rfl ?_
      refine mf_getR fl_X11_7 rfl rfl dX11_film_103 ?_
      refine mf_iconst 0 dX11_film_106 (by decide) ?_
      refine mf_iald rfl dX11_film_107 ?_
      refine mf_iconst 1 dX11_film_108 (by decide) ?_
      refine mf_isub dX11_film_109 ?_
      exact mf_iret dX11_film_110
    · refine mf_iload dX11_film_32 0 rfl ?_
      exact mf_iret dX11_film_34
set_option maxRecDepth 100000 in
set_option maxHeartbeats 4000000 in
theorem wlX11_sheet_40 (l : Launch) (a1 : Int32) (a3 : Int32)   : ∀ (n : Nat) (a4 : Int32) (s0 : mx_G), mf_X ei l RX11 cX11_sheet 5 (some .int) "sheet" 2 (lX11_sheet_40 a1 a3  n a4 s0) 40 [(0, .ref 45), (1, .int a1), (3, .int a3), (4, .int a4)] [] s0 := by
  intro n
  induction n with
  | zero => intro a4 s0; exact mf_none
  | succ n ih40 =>
    intro a4 s0
    rw [lX11_sheet_40]
    refine mf_iload dX11_sheet_40 3 rfl ?_
    refine mf_iload_n dX11_sheet_42 rfl 2 rfl ?_
    refine mf_icmp_ge 65 dX11_sheet_43 (by decide) ?_ ?_
    · refine mf_iload_n dX11_sheet_65 rfl 2 rfl ?_
      exact mf_iret dX11_sheet_66
    · refine mf_aload_n dX11_sheet_46 rfl 0 rfl ?_
      refine mf_getR fl_X11_35 rfl rfl dX11_sheet_47 ?_
      refine mf_bipush 24 dX11_sheet_50 (by decide) ?_
      refine mf_iload_n dX11_sheet_52 rfl 1 rfl ?_
      refine mf_imul dX11_sheet_53 ?_
      refine mf_iload dX11_sheet_54 3 rfl ?_
      refine mf_iadd dX11_sheet_56 ?_
      refine mf_lconst 0 dX11_sheet_57 (by decide) ?_
      refine mf_last rfl dX11_sheet_58 (fun s5 => ?_)
      refine mf_iinc 1 [(4, .int (a4 + 1)), (0, .ref 45), (1, .int a1), (3, .int a3)] dX11_sheet_59 3 rfl (by decide) (by decide) rfl ?_
      refine mf_goto 40 dX11_sheet_62 (by decide) ?_
      exact mf_sub [1, 2, 3, 0] rfl (ih40 _ _)
set_option maxRecDepth 100000 in
set_option maxHeartbeats 4000000 in
theorem wX11_sheet (l : Launch) (p1 : Int32) (p2 : Int32) (p3 : Int32) (s : mx_G) : mf_M ei l yX11_sheet cX11_sheet 5 (some .int) 2 [.ref 45, .int p1, .int p2, .int p3] s (fX11_sheet p1 p2 p3 s) := by
  refine mf_intro rfl (Nat.le_of_ble_eq_true rfl) rfl rfl ?_
  refine mf_sub (loc' := [(0, .ref 45), (1, .int p1), (2, .int p2), (3, .int p3)]) [0, 1, 2, 3] rfl ?_
  unfold fX11_sheet
  refine mf_iload_n dX11_sheet_0 rfl 1 rfl ?_
  refine mf_iload_n dX11_sheet_1 rfl 2 rfl ?_
  refine mf_callSi (stk := []) (wX11_isSheet l _ _ _) cl_X11_301 rfl (by decide) rfl (Nat.le_of_ble_eq_true rfl) rfl rfl dX11_sheet_2 (fun x1 s2 => ?_)
  refine mf_if_eq 14 dX11_sheet_5 (by decide) ?_ ?_
  · refine mf_iconst (-1) dX11_sheet_14 (by decide) ?_
    exact mf_iret dX11_sheet_15
  · refine mf_iload_n dX11_sheet_8 rfl 3 rfl ?_
    refine mf_bipush 24 dX11_sheet_9 (by decide) ?_
    refine mf_icmp_le 16 dX11_sheet_11 (by decide) ?_ ?_
    · refine mf_iload_n dX11_sheet_16 rfl 3 rfl ?_
      refine mf_if_ge 23 dX11_sheet_17 (by decide) ?_ ?_
      · refine mf_aload_n dX11_sheet_23 rfl 0 rfl ?_
        refine mf_getR fl_X11_29 rfl rfl dX11_sheet_24 ?_
        refine mf_iload_n dX11_sheet_27 rfl 1 rfl ?_
        refine mf_iload_n dX11_sheet_28 rfl 2 rfl ?_
        refine mf_iast rfl dX11_sheet_29 (fun s3 => ?_)
        refine mf_aload_n dX11_sheet_30 rfl 0 rfl ?_
        refine mf_getR fl_X11_32 rfl rfl dX11_sheet_31 ?_
        refine mf_iload_n dX11_sheet_34 rfl 1 rfl ?_
        refine mf_iload_n dX11_sheet_35 rfl 3 rfl ?_
        refine mf_iast rfl dX11_sheet_36 (fun s4 => ?_)
        refine mf_iconst 0 dX11_sheet_37 (by decide) ?_
        refine mf_istore [(4, .int 0), (0, .ref 45), (1, .int p1), (2, .int p2), (3, .int p3)] dX11_sheet_38 (by decide) rfl ?_
        exact mf_sub [1, 2, 4, 0] rfl (wlX11_sheet_40 l _ _ FU _ _)
      · refine mf_bipush (-14) dX11_sheet_20 (by decide) ?_
        exact mf_iret dX11_sheet_22
    · refine mf_iconst (-1) dX11_sheet_14 (by decide) ?_
      exact mf_iret dX11_sheet_15
set_option maxRecDepth 100000 in
set_option maxHeartbeats 4000000 in
theorem wX11_drop (l : Launch) (p1 : Int32) (s : mx_G) : mf_M ei l yX11_drop cX11_drop 2 (some .int) 1 [.ref 45, .int p1] s (fX11_drop p1 s) := by
  refine mf_intro rfl (Nat.le_of_ble_eq_true rfl) rfl rfl ?_
  refine mf_sub (loc' := [(0, .ref 45), (1, .int p1)]) [0, 1] rfl ?_
  unfold fX11_drop
  refine mf_iload_n dX11_drop_0 rfl 1 rfl ?_
  refine mf_i2l dX11_drop_1 ?_
  refine mf_lconst 0 dX11_drop_2 (by decide) ?_
  refine mf_ldc2 kl_X11_104 dX11_drop_3 ?_
  refine mf_callSi (stk := []) (wX11_in l _ _ _ _) cl_X11_88 rfl (by decide) rfl (Nat.le_of_ble_eq_true rfl) rfl rfl dX11_drop_6 (fun x1 s2 => ?_)
  refine mf_if_ne 14 dX11_drop_9 (by decide) ?_ ?_
  · refine mf_iconst (-1) dX11_drop_12 (by decide) ?_
    exact mf_iret dX11_drop_13
  · refine mf_aload_n dX11_drop_14 rfl 0 rfl ?_
    refine mf_getR fl_X11_29 rfl rfl dX11_drop_15 ?_
    refine mf_iload_n dX11_drop_18 rfl 1 rfl ?_
    refine mf_iald rfl dX11_drop_19 ?_
    refine mf_if_ge 26 dX11_drop_20 (by decide) ?_ ?_
    · refine mf_aload_n dX11_drop_26 rfl 0 rfl ?_
      refine mf_getR fl_X11_29 rfl rfl dX11_drop_27 ?_
      refine mf_iload_n dX11_drop_30 rfl 1 rfl ?_
      refine mf_bipush (-4) dX11_drop_31 (by decide) ?_
      refine mf_iast rfl dX11_drop_33 (fun s3 => ?_)
      refine mf_aload_n dX11_drop_34 rfl 0 rfl ?_
      refine mf_getR fl_X11_32 rfl rfl dX11_drop_35 ?_
      refine mf_iload_n dX11_drop_38 rfl 1 rfl ?_
      refine mf_iald rfl dX11_drop_39 ?_
      exact mf_iret dX11_drop_40
    · refine mf_bipush (-11) dX11_drop_23 (by decide) ?_
      exact mf_iret dX11_drop_25
set_option maxRecDepth 100000 in
set_option maxHeartbeats 4000000 in
theorem wX11_lowest (l : Launch) (p0 : Int64) (p2 : Int32) (s : mx_G) : mf_M el l yX11_lowest cX11_lowest 3 (some .long) 0 [.long p0, .int p2] s (fX11_lowest p0 p2 s) := by
  refine mf_intro rfl (Nat.le_of_ble_eq_true rfl) rfl rfl ?_
  refine mf_sub (loc' := [(0, .long p0), (2, .int p2)]) [0, 1] rfl ?_
  unfold fX11_lowest
  refine mf_iload_n dX11_lowest_0 rfl 1 rfl ?_
  refine mf_if_ne 14 dX11_lowest_1 (by decide) ?_ ?_
  · refine mf_lload_n dX11_lowest_4 rfl 0 rfl ?_
    refine mf_bipush 56 dX11_lowest_5 (by decide) ?_
    refine mf_lshl dX11_lowest_7 ?_
    refine mf_bipush 56 dX11_lowest_8 (by decide) ?_
    refine mf_lshr dX11_lowest_10 ?_
    refine mf_goto 45 dX11_lowest_11 (by decide) ?_
    exact mf_lret dX11_lowest_45
  · refine mf_iload_n dX11_lowest_14 rfl 1 rfl ?_
    refine mf_iconst 1 dX11_lowest_15 (by decide) ?_
    refine mf_icmp_ne 29 dX11_lowest_16 (by decide) ?_ ?_
    · refine mf_lload_n dX11_lowest_19 rfl 0 rfl ?_
      refine mf_bipush 48 dX11_lowest_20 (by decide) ?_
      refine mf_lshl dX11_lowest_22 ?_
      refine mf_bipush 48 dX11_lowest_23 (by decide) ?_
      refine mf_lshr dX11_lowest_25 ?_
      refine mf_goto 45 dX11_lowest_26 (by decide) ?_
      exact mf_lret dX11_lowest_45
    · refine mf_iload_n dX11_lowest_29 rfl 1 rfl ?_
      refine mf_iconst 2 dX11_lowest_30 (by decide) ?_
      refine mf_icmp_ne 44 dX11_lowest_31 (by decide) ?_ ?_
      · refine mf_lload_n dX11_lowest_34 rfl 0 rfl ?_
        refine mf_bipush 32 dX11_lowest_35 (by decide) ?_
        refine mf_lshl dX11_lowest_37 ?_
        refine mf_bipush 32 dX11_lowest_38 (by decide) ?_
        refine mf_lshr dX11_lowest_40 ?_
        refine mf_goto 45 dX11_lowest_41 (by decide) ?_
        exact mf_lret dX11_lowest_45
      · refine mf_lload_n dX11_lowest_44 rfl 0 rfl ?_
        exact mf_lret dX11_lowest_45
set_option maxRecDepth 100000 in
set_option maxHeartbeats 4000000 in
theorem wX11_item (l : Launch) (p1 : Int32) (p2 : Int32) (p3 : Int32) (p4 : Int64) (s : mx_G) : mf_M ei l yX11_item cX11_item 7 (some .int) 2 [.ref 45, .int p1, .int p2, .int p3, .long p4] s (fX11_item p1 p2 p3 p4 s) := by
  refine mf_intro rfl (Nat.le_of_ble_eq_true rfl) rfl rfl ?_
  refine mf_sub (loc' := [(0, .ref 45), (1, .int p1), (2, .int p2), (3, .int p3), (4, .long p4)]) [0, 1, 2, 3, 4] rfl ?_
  unfold fX11_item
  refine mf_iload_n dX11_item_0 rfl 1 rfl ?_
  refine mf_iload_n dX11_item_1 rfl 2 rfl ?_
  refine mf_callSi (stk := []) (wX11_isSheet l _ _ _) cl_X11_301 rfl (by decide) rfl (Nat.le_of_ble_eq_true rfl) rfl rfl dX11_item_2 (fun x1 s2 => ?_)
  refine mf_if_ne 10 dX11_item_5 (by decide) ?_ ?_
  · refine mf_iconst (-1) dX11_item_8 (by decide) ?_
    exact mf_iret dX11_item_9
  · refine mf_aload_n dX11_item_10 rfl 0 rfl ?_
    refine mf_iload_n dX11_item_11 rfl 1 rfl ?_
    refine mf_iload_n dX11_item_12 rfl 2 rfl ?_
    refine mf_iload_n dX11_item_13 rfl 3 rfl ?_
    refine mf_iconst 1 dX11_item_14 (by decide) ?_
    refine mf_callVi (stk := []) (wX11_found l _ _ _ _ _) cl_X11_304 rfl (by decide) rfl rfl rfl (Nat.le_of_ble_eq_true rfl) rfl rfl dX11_item_15 (fun x3 s4 => ?_)
    refine mf_istore [(6, .int x3), (0, .ref 45), (1, .int p1), (2, .int p2), (3, .int p3), (4, .long p4)] dX11_item_18 (by decide) rfl ?_
    refine mf_iload dX11_item_20 0 rfl ?_
    refine mf_if_eq 28 dX11_item_22 (by decide) ?_ ?_
    · refine mf_aload_n dX11_item_28 rfl 1 rfl ?_
      refine mf_getR fl_X11_35 rfl rfl dX11_item_29 ?_
      refine mf_bipush 24 dX11_item_32 (by decide) ?_
      refine mf_iload_n dX11_item_34 rfl 2 rfl ?_
      refine mf_imul dX11_item_35 ?_
      refine mf_iload_n dX11_item_36 rfl 4 rfl ?_
      refine mf_iadd dX11_item_37 ?_
      refine mf_lload dX11_item_38 5 rfl ?_
      refine mf_iload_n dX11_item_40 rfl 3 rfl ?_
      refine mf_callSl (stk := [.int ((24 * p1) + p3), .ref 53]) (wX11_lowest l _ _ _) cl_X11_308 rfl (by decide) rfl (Nat.le_of_ble_eq_true rfl) rfl rfl dX11_item_41 (fun x5 s6 => ?_)
      refine mf_last rfl dX11_item_44 (fun s7 => ?_)
      refine mf_iconst 1 dX11_item_45 (by decide) ?_
      exact mf_iret dX11_item_46
    · refine mf_iload dX11_item_25 0 rfl ?_
      exact mf_iret dX11_item_27
set_option maxRecDepth 100000 in
set_option maxHeartbeats 4000000 in
theorem wlX11_copy_132 (l : Launch) (a1 : Int32) (a2 : Int32) (a3 : Int32) (a4 : Int32) (a5 : Int32) (a6 : Int32)   : ∀ (n : Nat) (a7 : Int32) (s0 : mx_G), mf_X ei l RX11 cX11_copy 9 (some .int) "copy" 1 (lX11_copy_132 a1 a2 a3 a4 a5 a6  n a7 s0) 132 [(0, .ref 45), (1, .int a1), (2, .int a2), (3, .int a3), (4, .int a4), (5, .int a5), (6, .int a6), (7, .int a7)] [] s0 := by
  intro n
  induction n with
  | zero => intro a7 s0; exact mf_none
  | succ n ih132 =>
    intro a7 s0
    rw [lX11_copy_132]
    refine mf_iload dX11_copy_132 7 rfl ?_
    refine mf_iload dX11_copy_134 5 rfl ?_
    refine mf_icmp_ge 193 dX11_copy_136 (by decide) ?_ ?_
    · refine mf_iload dX11_copy_193 5 rfl ?_
      exact mf_iret dX11_copy_195
    · refine mf_iload dX11_copy_139 6 rfl ?_
      refine mf_join (fun (J : Int32 → mx_G → Option (Int32 × mx_G)) => ∀ (q0_156 : Int32) (s_156 : mx_G), mf_X ei l RX11 cX11_copy 9 (some .int) "copy" 1 (J q0_156 s_156) 156 [(0, .ref 45), (1, .int a1), (2, .int a2), (3, .int a3), (4, .int a4), (5, .int a5), (6, .int a6), (7, .int a7)] [.int q0_156] s_156) ?_ (fun J156 hJ156 => ?_)
      · intro q0_156 s_156
        refine mf_istore [(8, .int q0_156), (0, .ref 45), (1, .int a1), (2, .int a2), (3, .int a3), (4, .int a4), (5, .int a5), (6, .int a6), (7, .int a7)] dX11_copy_156 (by decide) rfl ?_
        refine mf_aload_n dX11_copy_158 rfl 1 rfl ?_
        refine mf_getR fl_X11_35 rfl rfl dX11_copy_159 ?_
        refine mf_bipush 24 dX11_copy_162 (by decide) ?_
        refine mf_iload_n dX11_copy_164 rfl 4 rfl ?_
        refine mf_imul dX11_copy_165 ?_
        refine mf_iload dX11_copy_166 5 rfl ?_
        refine mf_iadd dX11_copy_168 ?_
        refine mf_iload dX11_copy_169 0 rfl ?_
        refine mf_iadd dX11_copy_171 ?_
        refine mf_aload_n dX11_copy_172 rfl 1 rfl ?_
        refine mf_getR fl_X11_35 rfl rfl dX11_copy_173 ?_
        refine mf_bipush 24 dX11_copy_176 (by decide) ?_
        refine mf_iload_n dX11_copy_178 rfl 2 rfl ?_
        refine mf_imul dX11_copy_179 ?_
        refine mf_iload_n dX11_copy_180 rfl 3 rfl ?_
        refine mf_iadd dX11_copy_181 ?_
        refine mf_iload dX11_copy_182 0 rfl ?_
        refine mf_iadd dX11_copy_184 ?_
        refine mf_lald rfl dX11_copy_185 ?_
        refine mf_last rfl dX11_copy_186 (fun s5 => ?_)
        refine mf_iinc 1 [(7, .int (a7 + 1)), (8, .int q0_156), (0, .ref 45), (1, .int a1), (2, .int a2), (3, .int a3), (4, .int a4), (5, .int a5), (6, .int a6)] dX11_copy_187 8 rfl (by decide) (by decide) rfl ?_
        refine mf_goto 132 dX11_copy_190 (by decide) ?_
        exact mf_sub [2, 3, 4, 5, 6, 7, 8, 0] rfl (ih132 _ _)
      refine mf_if_eq 154 dX11_copy_141 (by decide) ?_ ?_
      · refine mf_iload dX11_copy_154 7 rfl ?_
        exact mf_sub [0, 1, 2, 3, 4, 5, 6, 7] rfl (hJ156 _ _)
      · refine mf_iload dX11_copy_144 5 rfl ?_
        refine mf_iconst 1 dX11_copy_146 (by decide) ?_
        refine mf_isub dX11_copy_147 ?_
        refine mf_iload dX11_copy_148 7 rfl ?_
        refine mf_isub dX11_copy_150 ?_
        refine mf_goto 156 dX11_copy_151 (by decide) ?_
        exact mf_sub [0, 1, 2, 3, 4, 5, 6, 7] rfl (hJ156 _ _)
set_option maxRecDepth 100000 in
set_option maxHeartbeats 4000000 in
theorem wX11_copy (l : Launch) (p1 : Int32) (p2 : Int32) (p3 : Int32) (p4 : Int32) (p5 : Int32) (s : mx_G) : mf_M ei l yX11_copy cX11_copy 9 (some .int) 1 [.ref 45, .int p1, .int p2, .int p3, .int p4, .int p5] s (fX11_copy p1 p2 p3 p4 p5 s) := by
  refine mf_intro rfl (Nat.le_of_ble_eq_true rfl) rfl rfl ?_
  refine mf_sub (loc' := [(0, .ref 45), (1, .int p1), (2, .int p2), (3, .int p3), (4, .int p4), (5, .int p5)]) [0, 1, 2, 3, 4, 5] rfl ?_
  unfold fX11_copy
  refine mf_iload_n dX11_copy_0 rfl 1 rfl ?_
  refine mf_i2l dX11_copy_1 ?_
  refine mf_lconst 0 dX11_copy_2 (by decide) ?_
  refine mf_ldc2 kl_X11_104 dX11_copy_3 ?_
  refine mf_callSi (stk := []) (wX11_in l _ _ _ _) cl_X11_88 rfl (by decide) rfl (Nat.le_of_ble_eq_true rfl) rfl rfl dX11_copy_6 (fun x1 s2 => ?_)
  refine mf_if_eq 24 dX11_copy_9 (by decide) ?_ ?_
  · refine mf_iconst (-1) dX11_copy_24 (by decide) ?_
    exact mf_iret dX11_copy_25
  · refine mf_iload_n dX11_copy_12 rfl 3 rfl ?_
    refine mf_i2l dX11_copy_13 ?_
    refine mf_lconst 0 dX11_copy_14 (by decide) ?_
    refine mf_ldc2 kl_X11_104 dX11_copy_15 ?_
    refine mf_callSi (stk := []) (wX11_in l _ _ _ _) cl_X11_88 rfl (by decide) rfl (Nat.le_of_ble_eq_true rfl) rfl rfl dX11_copy_18 (fun x3 s4 => ?_)
    refine mf_if_ne 26 dX11_copy_21 (by decide) ?_ ?_
    · refine mf_iconst (-1) dX11_copy_24 (by decide) ?_
      exact mf_iret dX11_copy_25
    · refine mf_aload_n dX11_copy_26 rfl 0 rfl ?_
      refine mf_getR fl_X11_29 rfl rfl dX11_copy_27 ?_
      refine mf_iload_n dX11_copy_30 rfl 1 rfl ?_
      refine mf_iald rfl dX11_copy_31 ?_
      refine mf_if_lt 44 dX11_copy_32 (by decide) ?_ ?_
      · refine mf_bipush (-11) dX11_copy_44 (by decide) ?_
        exact mf_iret dX11_copy_46
      · refine mf_aload_n dX11_copy_35 rfl 0 rfl ?_
        refine mf_getR fl_X11_29 rfl rfl dX11_copy_36 ?_
        refine mf_iload_n dX11_copy_39 rfl 3 rfl ?_
        refine mf_iald rfl dX11_copy_40 ?_
        refine mf_if_ge 47 dX11_copy_41 (by decide) ?_ ?_
        · refine mf_aload_n dX11_copy_47 rfl 0 rfl ?_
          refine mf_getR fl_X11_29 rfl rfl dX11_copy_48 ?_
          refine mf_iload_n dX11_copy_51 rfl 1 rfl ?_
          refine mf_iald rfl dX11_copy_52 ?_
          refine mf_aload_n dX11_copy_53 rfl 0 rfl ?_
          refine mf_getR fl_X11_29 rfl rfl dX11_copy_54 ?_
          refine mf_iload_n dX11_copy_57 rfl 3 rfl ?_
          refine mf_iald rfl dX11_copy_58 ?_
          refine mf_icmp_eq 65 dX11_copy_59 (by decide) ?_ ?_
          · refine mf_iload dX11_copy_65 5 rfl ?_
            refine mf_if_lt 113 dX11_copy_67 (by decide) ?_ ?_
            · refine mf_bipush (-13) dX11_copy_113 (by decide) ?_
              exact mf_iret dX11_copy_115
            · refine mf_iload dX11_copy_70 5 rfl ?_
              refine mf_bipush 24 dX11_copy_72 (by decide) ?_
              refine mf_icmp_gt 113 dX11_copy_74 (by decide) ?_ ?_
              · refine mf_bipush (-13) dX11_copy_113 (by decide) ?_
                exact mf_iret dX11_copy_115
              · refine mf_iload_n dX11_copy_77 rfl 2 rfl ?_
                refine mf_if_lt 113 dX11_copy_78 (by decide) ?_ ?_
                · refine mf_bipush (-13) dX11_copy_113 (by decide) ?_
                  exact mf_iret dX11_copy_115
                · refine mf_iload dX11_copy_81 4 rfl ?_
                  refine mf_if_lt 113 dX11_copy_83 (by decide) ?_ ?_
                  · refine mf_bipush (-13) dX11_copy_113 (by decide) ?_
                    exact mf_iret dX11_copy_115
                  · refine mf_iload_n dX11_copy_86 rfl 2 rfl ?_
                    refine mf_aload_n dX11_copy_87 rfl 0 rfl ?_
                    refine mf_getR fl_X11_32 rfl rfl dX11_copy_88 ?_
                    refine mf_iload_n dX11_copy_91 rfl 1 rfl ?_
                    refine mf_iald rfl dX11_copy_92 ?_
                    refine mf_iload dX11_copy_93 5 rfl ?_
                    refine mf_isub dX11_copy_95 ?_
                    refine mf_icmp_gt 113 dX11_copy_96 (by decide) ?_ ?_
                    · refine mf_bipush (-13) dX11_copy_113 (by decide) ?_
                      exact mf_iret dX11_copy_115
                    · refine mf_iload dX11_copy_99 4 rfl ?_
                      refine mf_aload_n dX11_copy_101 rfl 0 rfl ?_
                      refine mf_getR fl_X11_32 rfl rfl dX11_copy_102 ?_
                      refine mf_iload_n dX11_copy_105 rfl 3 rfl ?_
                      refine mf_iald rfl dX11_copy_106 ?_
                      refine mf_iload dX11_copy_107 5 rfl ?_
                      refine mf_isub dX11_copy_109 ?_
                      refine mf_icmp_le 116 dX11_copy_110 (by decide) ?_ ?_
                      · refine mf_iload dX11_copy_116 4 rfl ?_
                        refine mf_iload_n dX11_copy_118 rfl 2 rfl ?_
                        refine mf_join (fun (J : Int32 → mx_G → Option (Int32 × mx_G)) => ∀ (q0_127 : Int32) (s_127 : mx_G), mf_X ei l RX11 cX11_copy 9 (some .int) "copy" 1 (J q0_127 s_127) 127 [(0, .ref 45), (1, .int p1), (2, .int p2), (3, .int p3), (4, .int p4), (5, .int p5)] [.int q0_127] s_127) ?_ (fun J127 hJ127 => ?_)
                        · intro q0_127 s_127
                          refine mf_istore [(6, .int q0_127), (0, .ref 45), (1, .int p1), (2, .int p2), (3, .int p3), (4, .int p4), (5, .int p5)] dX11_copy_127 (by decide) rfl ?_
                          refine mf_iconst 0 dX11_copy_129 (by decide) ?_
                          refine mf_istore [(7, .int 0), (6, .int q0_127), (0, .ref 45), (1, .int p1), (2, .int p2), (3, .int p3), (4, .int p4), (5, .int p5)] dX11_copy_130 (by decide) rfl ?_
                          exact mf_sub [2, 3, 4, 5, 6, 7, 1, 0] rfl (wlX11_copy_132 l _ _ _ _ _ _ FU _ _)
                        refine mf_icmp_le 126 dX11_copy_119 (by decide) ?_ ?_
                        · refine mf_iconst 0 dX11_copy_126 (by decide) ?_
                          exact mf_sub [0, 1, 2, 3, 4, 5] rfl (hJ127 _ _)
                        · refine mf_iconst 1 dX11_copy_122 (by decide) ?_
                          refine mf_goto 127 dX11_copy_123 (by decide) ?_
                          exact mf_sub [0, 1, 2, 3, 4, 5] rfl (hJ127 _ _)
                      · refine mf_bipush (-13) dX11_copy_113 (by decide) ?_
                        exact mf_iret dX11_copy_115
          · refine mf_bipush (-12) dX11_copy_62 (by decide) ?_
            exact mf_iret dX11_copy_64
        · refine mf_bipush (-11) dX11_copy_44 (by decide) ?_
          exact mf_iret dX11_copy_46
