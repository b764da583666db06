set_option maxRecDepth 100000 in
set_option maxHeartbeats 4000000 in
theorem wX11_thinksOfNexts (l : Launch) (s : mx_G) : mf_M ei l yX11_thinksOfNexts cX11_thinksOfNexts 3 (some .boolean) 1 [.ref 45] s (fX11_thinksOfNexts  s) := by
  refine mf_intro rfl (Nat.le_of_ble_eq_true rfl) rfl rfl ?_
  refine mf_sub (loc' := [(0, .ref 45)]) [0] rfl ?_
  unfold fX11_thinksOfNexts
  refine mf_iconst 1 dX11_thinksOfNexts_0 (by decide) ?_
  refine mf_istore_n [(1, .int 1), (0, .ref 45)] dX11_thinksOfNexts_1 rfl (by decide) rfl ?_
  refine mf_iconst 0 dX11_thinksOfNexts_2 (by decide) ?_
  refine mf_istore_n [(2, .int 0), (1, .int 1), (0, .ref 45)] dX11_thinksOfNexts_3 rfl (by decide) rfl ?_
  exact mf_sub [2, 1, 0] rfl (wlX11_thinksOfNexts_4 l FU _ _ _)
set_option maxRecDepth 100000 in
set_option maxHeartbeats 4000000 in
theorem wlX11_goesOn_9 (l : Launch) (k42 : Int32 → mx_G → Option (Int32 × mx_G)) (hk42 : ∀ (b1 : Int32) (sz : mx_G), mf_X ei l RX11 cX11_goesOn 2 (some .boolean) "goesOn" 1 (k42 b1 sz) 42 [(0, .ref 45), (1, .int b1)] [] sz) : ∀ (n : Nat) (a1 : Int32) (s0 : mx_G), mf_X ei l RX11 cX11_goesOn 2 (some .boolean) "goesOn" 1 (lX11_goesOn_9  k42 n a1 s0) 9 [(0, .ref 45), (1, .int a1)] [] s0 := by
  intro n
  induction n with
  | zero => intro a1 s0; exact mf_none
  | succ n ih9 =>
    intro a1 s0
    rw [lX11_goesOn_9]
    refine mf_iload_n dX11_goesOn_9 rfl 1 rfl ?_
    refine mf_if_le 42 dX11_goesOn_10 (by decide) ?_ ?_
    · exact mf_sub [0, 1] rfl (hk42 _ _)
    · refine mf_aload_n dX11_goesOn_13 rfl 0 rfl ?_
      refine mf_getR fl_X11_54 rfl rfl dX11_goesOn_14 ?_
      refine mf_iload_n dX11_goesOn_17 rfl 1 rfl ?_
      refine mf_iald rfl dX11_goesOn_18 ?_
      refine mf_bipush 9 dX11_goesOn_19 (by decide) ?_
      refine mf_icmp_ne 42 dX11_goesOn_21 (by decide) ?_ ?_
      · refine mf_aload_n dX11_goesOn_24 rfl 0 rfl ?_
        refine mf_getR fl_X11_54 rfl rfl dX11_goesOn_25 ?_
        refine mf_iload_n dX11_goesOn_28 rfl 1 rfl ?_
        refine mf_aload_n dX11_goesOn_29 rfl 0 rfl ?_
        refine mf_iload_n dX11_goesOn_30 rfl 1 rfl ?_
        refine mf_iconst (-1) dX11_goesOn_31 (by decide) ?_
        refine mf_callVi (stk := [.int a1, .ref 59]) (wX11_nextOne l _ _ _) cl_X11_211 rfl (by decide) rfl rfl rfl (Nat.le_of_ble_eq_true rfl) rfl rfl dX11_goesOn_32 (fun x2 s3 => ?_)
        refine mf_iast rfl dX11_goesOn_35 (fun s4 => ?_)
        refine mf_iinc (-1) [(1, .int (a1 + (-1))), (0, .ref 45)] dX11_goesOn_36 1 rfl (by decide) (by decide) rfl ?_
        refine mf_goto 9 dX11_goesOn_39 (by decide) ?_
        exact mf_sub [1, 0] rfl (ih9 _ _)
      · exact mf_sub [0, 1] rfl (hk42 _ _)
set_option maxRecDepth 100000 in
set_option maxHeartbeats 4000000 in
theorem wX11_goesOn (l : Launch) (s : mx_G) : mf_M ei l yX11_goesOn cX11_goesOn 2 (some .boolean) 1 [.ref 45] s (fX11_goesOn  s) := by
  refine mf_intro rfl (Nat.le_of_ble_eq_true rfl) rfl rfl ?_
  refine mf_sub (loc' := [(0, .ref 45)]) [0] rfl ?_
  unfold fX11_goesOn
  refine mf_aload_n dX11_goesOn_0 rfl 0 rfl ?_
  refine mf_getR fl_X11_7 rfl rfl dX11_goesOn_1 ?_
  refine mf_iconst 0 dX11_goesOn_4 (by decide) ?_
  refine mf_iald rfl dX11_goesOn_5 ?_
  refine mf_iconst 1 dX11_goesOn_6 (by decide) ?_
  refine mf_isub dX11_goesOn_7 ?_
  refine mf_leti (fun x1 => ?_)
  refine mf_istore_n [(1, .int x1), (0, .ref 45)] dX11_goesOn_8 rfl (by decide) rfl ?_
  refine mf_sub [1, 0] rfl (wlX11_goesOn_9 l _ (fun y6 s5 => ?_) FU _ _)
  refine mf_iload_n dX11_goesOn_42 rfl 1 rfl ?_
  refine mf_if_le 63 dX11_goesOn_43 (by decide) ?_ ?_
  · refine mf_iload_n dX11_goesOn_63 rfl 1 rfl ?_
    refine mf_if_le 71 dX11_goesOn_64 (by decide) ?_ ?_
    · refine mf_iconst 0 dX11_goesOn_71 (by decide) ?_
      exact mf_zret (by decide) dX11_goesOn_72
    · refine mf_iconst 1 dX11_goesOn_67 (by decide) ?_
      refine mf_goto 72 dX11_goesOn_68 (by decide) ?_
      exact mf_zret (by decide) dX11_goesOn_72
  · refine mf_aload_n dX11_goesOn_46 rfl 0 rfl ?_
    refine mf_getR fl_X11_54 rfl rfl dX11_goesOn_47 ?_
    refine mf_iload_n dX11_goesOn_50 rfl 1 rfl ?_
    refine mf_aload_n dX11_goesOn_51 rfl 0 rfl ?_
    refine mf_iload_n dX11_goesOn_52 rfl 1 rfl ?_
    refine mf_aload_n dX11_goesOn_53 rfl 0 rfl ?_
    refine mf_getR fl_X11_54 rfl rfl dX11_goesOn_54 ?_
    refine mf_iload_n dX11_goesOn_57 rfl 1 rfl ?_
    refine mf_iald rfl dX11_goesOn_58 ?_
    refine mf_callVi (stk := [.int y6, .ref 59]) (wX11_nextOne l _ _ _) cl_X11_211 rfl (by decide) rfl rfl rfl (Nat.le_of_ble_eq_true rfl) rfl rfl dX11_goesOn_59 (fun x7 s8 => ?_)
    refine mf_iast rfl dX11_goesOn_62 (fun s9 => ?_)
    refine mf_iload_n dX11_goesOn_63 rfl 1 rfl ?_
    refine mf_if_le 71 dX11_goesOn_64 (by decide) ?_ ?_
    · refine mf_iconst 0 dX11_goesOn_71 (by decide) ?_
      exact mf_zret (by decide) dX11_goesOn_72
    · refine mf_iconst 1 dX11_goesOn_67 (by decide) ?_
      refine mf_goto 72 dX11_goesOn_68 (by decide) ?_
      exact mf_zret (by decide) dX11_goesOn_72
set_option maxRecDepth 100000 in
set_option maxHeartbeats 4000000 in
theorem wlX11_stableTo_7 (l : Launch) (a1 : Int32) (a2 : Int32) (a3 : Int32) (k38 : mx_G → Option (Int32 × mx_G)) (hk38 : ∀ (sz : mx_G), mf_X ei l RX11 cX11_stableTo 5 (some .int) "stableTo" 6 (k38 sz) 38 [(0, .ref 45), (1, .int a1), (2, .int a2), (3, .int a3)] [] sz) : ∀ (n : Nat) (a4 : Int32) (s0 : mx_G), mf_X ei l RX11 cX11_stableTo 5 (some .int) "stableTo" 6 (lX11_stableTo_7 a1 a2 a3 k38 n a4 s0) 7 [(0, .ref 45), (1, .int a1), (2, .int a2), (3, .int a3), (4, .int a4)] [] s0 := by
  intro n
  induction n with
  | zero => intro a4 s0; exact mf_none
  | succ n ih7 =>
    intro a4 s0
    rw [lX11_stableTo_7]
    refine mf_iload dX11_stableTo_7 4 rfl ?_
    refine mf_aload_n dX11_stableTo_9 rfl 0 rfl ?_
    refine mf_getR fl_X11_7 rfl rfl dX11_stableTo_10 ?_
    refine mf_iconst 0 dX11_stableTo_13 (by decide) ?_
    refine mf_iald rfl dX11_stableTo_14 ?_
    refine mf_icmp_ge 38 dX11_stableTo_15 (by decide) ?_ ?_
    · exact mf_sub [0, 1, 2, 3] rfl (hk38 _)
    · refine mf_aload_n dX11_stableTo_18 rfl 0 rfl ?_
      refine mf_getR fl_X11_54 rfl rfl dX11_stableTo_19 ?_
      refine mf_iload dX11_stableTo_22 4 rfl ?_
      refine mf_aload_n dX11_stableTo_24 rfl 0 rfl ?_
      refine mf_iload dX11_stableTo_25 4 rfl ?_
      refine mf_iconst (-1) dX11_stableTo_27 (by decide) ?_
      refine mf_callVi (stk := [.int a4, .ref 59]) (wX11_nextOne l _ _ _) cl_X11_211 rfl (by decide) rfl rfl rfl (Nat.le_of_ble_eq_true rfl) rfl rfl dX11_stableTo_28 (fun x1 s2 => ?_)
      refine mf_iast rfl dX11_stableTo_31 (fun s3 => ?_)
      refine mf_iinc 1 [(4, .int (a4 + 1)), (0, .ref 45), (1, .int a1), (2, .int a2), (3, .int a3)] dX11_stableTo_32 4 rfl (by decide) (by decide) rfl ?_
      refine mf_goto 7 dX11_stableTo_35 (by decide) ?_
      exact mf_sub [1, 2, 3, 4, 0] rfl (ih7 _ _)
set_option maxRecDepth 100000 in
set_option maxHeartbeats 4000000 in
theorem wlX11_stableTo_38 (l : Launch) (a1 : Int32)   : ∀ (n : Nat) (a2 : Int32) (a3 : Int32) (s0 : mx_G), mf_X ei l RX11 cX11_stableTo 5 (some .int) "stableTo" 6 (lX11_stableTo_38 a1  n a2 a3 s0) 38 [(0, .ref 45), (1, .int a1), (2, .int a2), (3, .int a3)] [] s0 := by
  intro n
  induction n with
  | zero => intro a2 a3 s0; exact mf_none
  | succ n ih38 =>
    intro a2 a3 s0
    rw [lX11_stableTo_38]
    refine mf_iload_n dX11_stableTo_38 rfl 3 rfl ?_
    refine mf_if_eq 74 dX11_stableTo_39 (by decide) ?_ ?_
    · refine mf_iload_n dX11_stableTo_74 rfl 1 rfl ?_
      refine mf_if_ge 82 dX11_stableTo_75 (by decide) ?_ ?_
      · refine mf_bipush (-4) dX11_stableTo_82 (by decide) ?_
        exact mf_iret dX11_stableTo_84
      · refine mf_iload_n dX11_stableTo_78 rfl 2 rfl ?_
        refine mf_goto 84 dX11_stableTo_79 (by decide) ?_
        exact mf_iret dX11_stableTo_84
    · refine mf_aload_n dX11_stableTo_42 rfl 0 rfl ?_
      refine mf_callVi (stk := []) (wX11_thinksOfNexts l _) cl_X11_214 rfl (by decide) rfl rfl rfl (Nat.le_of_ble_eq_true rfl) rfl rfl dX11_stableTo_43 (fun x5 s6 => ?_)
      refine mf_if_eq 66 dX11_stableTo_46 (by decide) ?_ ?_
      · refine mf_aload_n dX11_stableTo_66 rfl 0 rfl ?_
        refine mf_callVi (stk := []) (wX11_goesOn l _) cl_X11_218 rfl (by decide) rfl rfl rfl (Nat.le_of_ble_eq_true rfl) rfl rfl dX11_stableTo_67 (fun x7 s8 => ?_)
        refine mf_istore_n [(3, .int x7), (0, .ref 45), (1, .int a1), (2, .int a2)] dX11_stableTo_70 rfl (by decide) rfl ?_
        refine mf_goto 38 dX11_stableTo_71 (by decide) ?_
        exact mf_sub [1, 2, 3, 0] rfl (ih38 _ _ _)
      · refine mf_aload_n dX11_stableTo_49 rfl 0 rfl ?_
        refine mf_callVi (stk := []) (wX11_notContent l _) cl_X11_193 rfl (by decide) rfl rfl rfl (Nat.le_of_ble_eq_true rfl) rfl rfl dX11_stableTo_50 (fun x9 s10 => ?_)
        refine mf_if_ne 66 dX11_stableTo_53 (by decide) ?_ ?_
        · refine mf_iload_n dX11_stableTo_56 rfl 2 rfl ?_
          refine mf_iload_n dX11_stableTo_57 rfl 1 rfl ?_
          refine mf_icmp_ne 63 dX11_stableTo_58 (by decide) ?_ ?_
          · refine mf_iload_n dX11_stableTo_61 rfl 1 rfl ?_
            exact mf_iret dX11_stableTo_62
          · refine mf_iinc 1 [(2, .int (a2 + 1)), (0, .ref 45), (1, .int a1), (3, .int a3)] dX11_stableTo_63 2 rfl (by decide) (by decide) rfl ?_
            refine mf_aload_n dX11_stableTo_66 rfl 1 rfl ?_
            refine mf_callVi (stk := []) (wX11_goesOn l _) cl_X11_218 rfl (by decide) rfl rfl rfl (Nat.le_of_ble_eq_true rfl) rfl rfl dX11_stableTo_67 (fun x13 s14 => ?_)
            refine mf_istore_n [(3, .int x13), (2, .int (a2 + 1)), (0, .ref 45), (1, .int a1)] dX11_stableTo_70 rfl (by decide) rfl ?_
            refine mf_goto 38 dX11_stableTo_71 (by decide) ?_
            exact mf_sub [2, 3, 1, 0] rfl (ih38 _ _ _)
        · refine mf_aload_n dX11_stableTo_66 rfl 0 rfl ?_
          refine mf_callVi (stk := []) (wX11_goesOn l _) cl_X11_218 rfl (by decide) rfl rfl rfl (Nat.le_of_ble_eq_true rfl) rfl rfl dX11_stableTo_67 (fun x11 s12 => ?_)
          refine mf_istore_n [(3, .int x11), (0, .ref 45), (1, .int a1), (2, .int a2)] dX11_stableTo_70 rfl (by decide) rfl ?_
          refine mf_goto 38 dX11_stableTo_71 (by decide) ?_
          exact mf_sub [1, 2, 3, 0] rfl (ih38 _ _ _)
set_option maxRecDepth 100000 in
set_option maxHeartbeats 4000000 in
theorem wX11_stableTo (l : Launch) (p1 : Int32) (s : mx_G) : mf_M ei l yX11_stableTo cX11_stableTo 5 (some .int) 6 [.ref 45, .int p1] s (fX11_stableTo p1 s) := by
  refine mf_intro rfl (Nat.le_of_ble_eq_true rfl) rfl rfl ?_
  refine mf_sub (loc' := [(0, .ref 45), (1, .int p1)]) [0, 1] rfl ?_
  unfold fX11_stableTo
  refine mf_iconst 0 dX11_stableTo_0 (by decide) ?_
  refine mf_istore_n [(2, .int 0), (0, .ref 45), (1, .int p1)] dX11_stableTo_1 rfl (by decide) rfl ?_
  refine mf_iconst 1 dX11_stableTo_2 (by decide) ?_
  refine mf_istore_n [(3, .int 1), (2, .int 0), (0, .ref 45), (1, .int p1)] dX11_stableTo_3 rfl (by decide) rfl ?_
  refine mf_iconst 1 dX11_stableTo_4 (by decide) ?_
  refine mf_istore [(4, .int 1), (3, .int 1), (2, .int 0), (0, .ref 45), (1, .int p1)] dX11_stableTo_5 (by decide) rfl ?_
  refine mf_sub [3, 4, 2, 1, 0] rfl (wlX11_stableTo_7 l _ _ _ _ (fun s4 => ?_) FU _ _)
  exact mf_sub [0, 1, 2, 3] rfl (wlX11_stableTo_38 l _ FU _ _ _)
set_option maxRecDepth 100000 in
set_option maxHeartbeats 4000000 in
theorem wX11_count (l : Launch) (p1 : Int32) (s : mx_G) : mf_M ei l yX11_count cX11_count 2 (some .int) 7 [.ref 45, .int p1] s (fX11_count p1 s) := by
  refine mf_intro rfl (Nat.le_of_ble_eq_true rfl) rfl rfl ?_
  refine mf_sub (loc' := [(0, .ref 45), (1, .int p1)]) [0, 1] rfl ?_
  unfold fX11_count
  refine mf_iload_n dX11_count_0 rfl 1 rfl ?_
  refine mf_if (fun c0 => mf_tabIn (off := 47) 48 dX11_count_1 c0 (by decide) (by decide) (by decide) (by decide) ?_) (fun c0 => ?_)
  · refine mf_aload_n dX11_count_48 rfl 0 rfl ?_
    refine mf_getR fl_X11_7 rfl rfl dX11_count_49 ?_
    refine mf_iconst 0 dX11_count_52 (by decide) ?_
    refine mf_iald rfl dX11_count_53 ?_
    exact mf_iret dX11_count_54
  refine mf_if (fun c1 => mf_tabIn (off := 54) 55 dX11_count_1 c1 (by decide) (by decide) (by decide) (by decide) ?_) (fun c1 => ?_)
  · refine mf_aload_n dX11_count_55 rfl 0 rfl ?_
    refine mf_iconst 1 dX11_count_56 (by decide) ?_
    refine mf_callVi (stk := []) (wX11_linkMany l _ _) cl_X11_187 rfl (by decide) rfl rfl rfl (Nat.le_of_ble_eq_true rfl) rfl rfl dX11_count_57 (fun x1 s2 => ?_)
    exact mf_iret dX11_count_60
  refine mf_if (fun c2 => mf_tabIn (off := 60) 61 dX11_count_1 c2 (by decide) (by decide) (by decide) (by decide) ?_) (fun c2 => ?_)
  · refine mf_aload_n dX11_count_61 rfl 0 rfl ?_
    refine mf_bipush 37 dX11_count_62 (by decide) ?_
    refine mf_callVi (stk := []) (wX11_linkMany l _ _) cl_X11_187 rfl (by decide) rfl rfl rfl (Nat.le_of_ble_eq_true rfl) rfl rfl dX11_count_64 (fun x3 s4 => ?_)
    exact mf_iret dX11_count_67
  refine mf_if (fun c3 => mf_tabIn (off := 67) 68 dX11_count_1 c3 (by decide) (by decide) (by decide) (by decide) ?_) (fun c3 => ?_)
  · refine mf_aload_n dX11_count_68 rfl 0 rfl ?_
    refine mf_callVi (stk := []) (wX11_chosenSet l _) cl_X11_190 rfl (by decide) rfl rfl rfl (Nat.le_of_ble_eq_true rfl) rfl rfl dX11_count_69 (fun x5 s6 => ?_)
    exact mf_iret dX11_count_72
  refine mf_if (fun c4 => mf_tabIn (off := 72) 73 dX11_count_1 c4 (by decide) (by decide) (by decide) (by decide) ?_) (fun c4 => ?_)
  · refine mf_aload_n dX11_count_73 rfl 0 rfl ?_
    refine mf_callVv (stk := []) (wX11_thinks l _) cl_X11_177 rfl (by decide) rfl rfl rfl (Nat.le_of_ble_eq_true rfl) rfl rfl dX11_count_74 (fun us7 s7 => ?_)
    refine mf_aload_n dX11_count_77 rfl 0 rfl ?_
    refine mf_callVi (stk := []) (wX11_notContent l _) cl_X11_193 rfl (by decide) rfl rfl rfl (Nat.le_of_ble_eq_true rfl) rfl rfl dX11_count_78 (fun x8 s9 => ?_)
    exact mf_iret dX11_count_81
  refine mf_if (fun c5 => mf_tabIn (off := 81) 82 dX11_count_1 c5 (by decide) (by decide) (by decide) (by decide) ?_) (fun c5 => ?_)
  · refine mf_aload_n dX11_count_82 rfl 0 rfl ?_
    refine mf_callVv (stk := []) (wX11_laysWays l _) cl_X11_160 rfl (by decide) rfl rfl rfl (Nat.le_of_ble_eq_true rfl) rfl rfl dX11_count_83 (fun us10 s10 => ?_)
    refine mf_aload_n dX11_count_86 rfl 0 rfl ?_
    refine mf_getI fl_X11_151 rfl rfl dX11_count_87 ?_
    exact mf_iret dX11_count_90
  refine mf_if (fun c6 => mf_tabIn (off := 90) 91 dX11_count_1 c6 (by decide) (by decide) (by decide) (by decide) ?_) (fun c6 => ?_)
  · refine mf_aload_n dX11_count_91 rfl 0 rfl ?_
    refine mf_bipush (-4) dX11_count_92 (by decide) ?_
    refine mf_callVi (stk := []) (wX11_stableTo l _ _) cl_X11_196 rfl (by decide) rfl rfl rfl (Nat.le_of_ble_eq_true rfl) rfl rfl dX11_count_94 (fun x11 s12 => ?_)
    exact mf_iret dX11_count_97
  refine mf_if (fun c7 => mf_tabIn (off := 97) 98 dX11_count_1 c7 (by decide) (by decide) (by decide) (by decide) ?_) (fun c7 => ?_)
  · refine mf_aload_n dX11_count_98 rfl 0 rfl ?_
    refine mf_getI fl_X11_81 rfl rfl dX11_count_99 ?_
    exact mf_iret dX11_count_102
  refine mf_tabOut 103 dX11_count_1 (fun j hj => by rcases (show j = 0 ∨ j = 1 ∨ j = 2 ∨ j = 3 ∨ j = 4 ∨ j = 5 ∨ j = 6 ∨ j = 7 by omega) with rfl | rfl | rfl | rfl | rfl | rfl | rfl | rfl <;> assumption) (by decide) ?_
  refine mf_iconst (-1) dX11_count_103 (by decide) ?_
  exact mf_iret dX11_count_104
set_option maxRecDepth 100000 in
set_option maxHeartbeats 4000000 in
theorem wlX11_turnsInMind_4 (l : Launch) (a1 : Int32) (k31 : mx_G → Option (Int32 × mx_G)) (hk31 : ∀ (sz : mx_G), mf_X ei l RX11 cX11_turnsInMind 3 (some .int) "turnsInMind" 5 (k31 sz) 31 [(0, .ref 45), (1, .int a1)] [] sz) : ∀ (n : Nat) (a2 : Int32) (s0 : mx_G), mf_X ei l RX11 cX11_turnsInMind 3 (some .int) "turnsInMind" 5 (lX11_turnsInMind_4 a1 k31 n a2 s0) 4 [(0, .ref 45), (1, .int a1), (2, .int a2)] [] s0 := by
  intro n
  induction n with
  | zero => intro a2 s0; exact mf_none
  | succ n ih4 =>
    intro a2 s0
    rw [lX11_turnsInMind_4]
    refine mf_iload_n dX11_turnsInMind_4 rfl 2 rfl ?_
    refine mf_aload_n dX11_turnsInMind_5 rfl 0 rfl ?_
    refine mf_getR fl_X11_7 rfl rfl dX11_turnsInMind_6 ?_
    refine mf_iconst 0 dX11_turnsInMind_9 (by decide) ?_
    refine mf_iald rfl dX11_turnsInMind_10 ?_
    refine mf_icmp_ge 31 dX11_turnsInMind_11 (by decide) ?_ ?_
    · exact mf_sub [0, 1] rfl (hk31 _)
    · refine mf_aload_n dX11_turnsInMind_14 rfl 0 rfl ?_
      refine mf_getR fl_X11_48 rfl rfl dX11_turnsInMind_15 ?_
      refine mf_iload_n dX11_turnsInMind_18 rfl 2 rfl ?_
      refine mf_aload_n dX11_turnsInMind_19 rfl 0 rfl ?_
      refine mf_iload_n dX11_turnsInMind_20 rfl 2 rfl ?_
      refine mf_callVi (stk := [.int a2, .ref 57]) (wX11_wouldChoose l _ _) cl_X11_174 rfl (by decide) rfl rfl rfl (Nat.le_of_ble_eq_true rfl) rfl rfl dX11_turnsInMind_21 (fun x1 s2 => ?_)
      refine mf_iast rfl dX11_turnsInMind_24 (fun s3 => ?_)
      refine mf_iinc 1 [(2, .int (a2 + 1)), (0, .ref 45), (1, .int a1)] dX11_turnsInMind_25 2 rfl (by decide) (by decide) rfl ?_
      refine mf_goto 4 dX11_turnsInMind_28 (by decide) ?_
      exact mf_sub [1, 2, 0] rfl (ih4 _ _)
set_option maxRecDepth 100000 in
set_option maxHeartbeats 4000000 in
theorem wlX11_turnsInMind_33 (l : Launch)    : ∀ (n : Nat) (a1 : Int32) (a2 : Int32) (s0 : mx_G), mf_X ei l RX11 cX11_turnsInMind 3 (some .int) "turnsInMind" 5 (lX11_turnsInMind_33   n a1 a2 s0) 33 [(0, .ref 45), (1, .int a1), (2, .int a2)] [] s0 := by
  intro n
  induction n with
  | zero => intro a1 a2 s0; exact mf_none
  | succ n ih33 =>
    intro a1 a2 s0
    rw [lX11_turnsInMind_33]
    refine mf_iload_n dX11_turnsInMind_33 rfl 2 rfl ?_
    refine mf_aload_n dX11_turnsInMind_34 rfl 0 rfl ?_
    refine mf_getR fl_X11_7 rfl rfl dX11_turnsInMind_35 ?_
    refine mf_iconst 0 dX11_turnsInMind_38 (by decide) ?_
    refine mf_iald rfl dX11_turnsInMind_39 ?_
    refine mf_icmp_ge 84 dX11_turnsInMind_40 (by decide) ?_ ?_
    · refine mf_iload_n dX11_turnsInMind_84 rfl 1 rfl ?_
      exact mf_iret dX11_turnsInMind_85
    · refine mf_iload_n dX11_turnsInMind_43 rfl 1 rfl ?_
      refine mf_aload_n dX11_turnsInMind_44 rfl 0 rfl ?_
      refine mf_getR fl_X11_48 rfl rfl dX11_turnsInMind_45 ?_
      refine mf_iload_n dX11_turnsInMind_48 rfl 2 rfl ?_
      refine mf_iald rfl dX11_turnsInMind_49 ?_
      refine mf_aload_n dX11_turnsInMind_50 rfl 0 rfl ?_
      refine mf_getR fl_X11_45 rfl rfl dX11_turnsInMind_51 ?_
      refine mf_iload_n dX11_turnsInMind_54 rfl 2 rfl ?_
      refine mf_iald rfl dX11_turnsInMind_55 ?_
      refine mf_join (fun (J : Int32 → Int32 → mx_G → Option (Int32 × mx_G)) => ∀ (q0_64 : Int32) (q1_64 : Int32) (s_64 : mx_G), mf_X ei l RX11 cX11_turnsInMind 3 (some .int) "turnsInMind" 5 (J q0_64 q1_64 s_64) 64 [(0, .ref 45), (2, .int a2)] [.int q0_64, .int q1_64] s_64) ?_ (fun J64 hJ64 => ?_)
      · intro q0_64 q1_64 s_64
        refine mf_iadd dX11_turnsInMind_64 ?_
        refine mf_leti (fun x5 => ?_)
        refine mf_istore_n [(1, .int x5), (0, .ref 45), (2, .int a2)] dX11_turnsInMind_65 rfl (by decide) rfl ?_
        refine mf_aload_n dX11_turnsInMind_66 rfl 1 rfl ?_
        refine mf_getR fl_X11_45 rfl rfl dX11_turnsInMind_67 ?_
        refine mf_iload_n dX11_turnsInMind_70 rfl 2 rfl ?_
        refine mf_aload_n dX11_turnsInMind_71 rfl 1 rfl ?_
        refine mf_getR fl_X11_48 rfl rfl dX11_turnsInMind_72 ?_
        refine mf_iload_n dX11_turnsInMind_75 rfl 2 rfl ?_
        refine mf_iald rfl dX11_turnsInMind_76 ?_
        refine mf_iast rfl dX11_turnsInMind_77 (fun s6 => ?_)
        refine mf_iinc 1 [(2, .int (a2 + 1)), (1, .int x5), (0, .ref 45)] dX11_turnsInMind_78 2 rfl (by decide) (by decide) rfl ?_
        refine mf_goto 33 dX11_turnsInMind_81 (by decide) ?_
        exact mf_sub [2, 1, 0] rfl (ih33 _ _ _)
      refine mf_icmp_eq 63 dX11_turnsInMind_56 (by decide) ?_ ?_
      · refine mf_iconst 0 dX11_turnsInMind_63 (by decide) ?_
        exact mf_sub [0, 2] rfl (hJ64 _ _ _)
      · refine mf_iconst 1 dX11_turnsInMind_59 (by decide) ?_
        refine mf_goto 64 dX11_turnsInMind_60 (by decide) ?_
        exact mf_sub [0, 2] rfl (hJ64 _ _ _)
set_option maxRecDepth 100000 in
set_option maxHeartbeats 4000000 in
theorem wX11_turnsInMind (l : Launch) (s : mx_G) : mf_M ei l yX11_turnsInMind cX11_turnsInMind 3 (some .int) 5 [.ref 45] s (fX11_turnsInMind  s) := by
  refine mf_intro rfl (Nat.le_of_ble_eq_true rfl) rfl rfl ?_
  refine mf_sub (loc' := [(0, .ref 45)]) [0] rfl ?_
  unfold fX11_turnsInMind
  refine mf_iconst 0 dX11_turnsInMind_0 (by decide) ?_
  refine mf_istore_n [(1, .int 0), (0, .ref 45)] dX11_turnsInMind_1 rfl (by decide) rfl ?_
  refine mf_iconst 0 dX11_turnsInMind_2 (by decide) ?_
  refine mf_istore_n [(2, .int 0), (1, .int 0), (0, .ref 45)] dX11_turnsInMind_3 rfl (by decide) rfl ?_
  refine mf_sub [2, 1, 0] rfl (wlX11_turnsInMind_4 l _ _ (fun s4 => ?_) FU _ _)
  refine mf_iconst 0 dX11_turnsInMind_31 (by decide) ?_
  refine mf_istore_n [(2, .int 0), (0, .ref 45), (1, .int 0)] dX11_turnsInMind_32 rfl (by decide) rfl ?_
  exact mf_sub [1, 2, 0] rfl (wlX11_turnsInMind_33 l FU _ _ _)
set_option maxRecDepth 100000 in
set_option maxHeartbeats 4000000 in
theorem wlX11_bring_3_3 (l : Launch) (a1 : Int32) (a3 : Int32) (a4 : Int32)   : ∀ (n : Nat) (a5 : Int32) (s0 : mx_G), mf_X ev l RX11 cX11_bring 6 none "bring" 0 (lX11_bring_3_3 a1 a3 a4  n a5 s0) 3 [(0, .ref 56), (1, .int a1), (2, .ref 46), (3, .int a3), (4, .int a4), (5, .int a5)] [] s0 := by
  intro n
  induction n with
  | zero => intro a5 s0; exact mf_none
  | succ n ih3 =>
    intro a5 s0
    rw [lX11_bring_3_3]
    refine mf_iload dX11_bring_3 5 rfl ?_
    refine mf_iload dX11_bring_5 4 rfl ?_
    refine mf_icmp_ge 28 dX11_bring_7 (by decide) ?_ ?_
    · exact mf_vret dX11_bring_28
    · refine mf_aload_n dX11_bring_10 rfl 2 rfl ?_
      refine mf_iload_n dX11_bring_11 rfl 3 rfl ?_
      refine mf_iload dX11_bring_12 5 rfl ?_
      refine mf_iadd dX11_bring_14 ?_
      refine mf_aload_n dX11_bring_15 rfl 0 rfl ?_
      refine mf_iload_n dX11_bring_16 rfl 1 rfl ?_
      refine mf_iload dX11_bring_17 5 rfl ?_
      refine mf_iadd dX11_bring_19 ?_
      refine mf_iald rfl dX11_bring_20 ?_
      refine mf_iast rfl dX11_bring_21 (fun s1 => ?_)
      refine mf_iinc 1 [(5, .int (a5 + 1)), (0, .ref 56), (1, .int a1), (2, .ref 46), (3, .int a3), (4, .int a4)] dX11_bring_22 5 rfl (by decide) (by decide) rfl ?_
      refine mf_goto 3 dX11_bring_25 (by decide) ?_
      exact mf_sub [1, 2, 3, 4, 5, 0] rfl (ih3 _ _)
set_option maxRecDepth 100000 in
set_option maxHeartbeats 4000000 in
theorem wX11_bring_3 (l : Launch) (p1 : Int32) (p3 : Int32) (p4 : Int32) (s : mx_G) : mf_M ev l yX11_bring cX11_bring 6 none 0 [.ref 56, .int p1, .ref 46, .int p3, .int p4] s (fX11_bring_3 p1 p3 p4 s) := by
  refine mf_intro rfl (Nat.le_of_ble_eq_true rfl) rfl rfl ?_
  refine mf_sub (loc' := [(0, .ref 56), (1, .int p1), (2, .ref 46), (3, .int p3), (4, .int p4)]) [0, 1, 2, 3, 4] rfl ?_
  unfold fX11_bring_3
  refine mf_iconst 0 dX11_bring_0 (by decide) ?_
  refine mf_istore [(5, .int 0), (0, .ref 56), (1, .int p1), (2, .ref 46), (3, .int p3), (4, .int p4)] dX11_bring_1 (by decide) rfl ?_
  exact mf_sub [1, 2, 3, 4, 5, 0] rfl (wlX11_bring_3_3 l _ _ _ FU _ _)
set_option maxRecDepth 100000 in
set_option maxHeartbeats 4000000 in
theorem wX11_turnsOnce (l : Launch) (s : mx_G) : mf_M ei l yX11_turnsOnce cX11_turnsOnce 2 (some .int) 6 [.ref 45] s (fX11_turnsOnce  s) := by
  refine mf_intro rfl (Nat.le_of_ble_eq_true rfl) rfl rfl ?_
  refine mf_sub (loc' := [(0, .ref 45)]) [0] rfl ?_
  unfold fX11_turnsOnce
  refine mf_aload_n dX11_turnsOnce_0 rfl 0 rfl ?_
  refine mf_callVv (stk := []) (wX11_thinks l _) cl_X11_177 rfl (by decide) rfl rfl rfl (Nat.le_of_ble_eq_true rfl) rfl rfl dX11_turnsOnce_1 (fun us1 s1 => ?_)
  refine mf_aload_n dX11_turnsOnce_4 rfl 0 rfl ?_
  refine mf_callVi (stk := []) (wX11_turnsInMind l _) cl_X11_180 rfl (by decide) rfl rfl rfl (Nat.le_of_ble_eq_true rfl) rfl rfl dX11_turnsOnce_5 (fun x2 s3 => ?_)
  refine mf_istore_n [(1, .int x2), (0, .ref 45)] dX11_turnsOnce_8 rfl (by decide) rfl ?_
  refine mf_aload_n dX11_turnsOnce_9 rfl 1 rfl ?_
  refine mf_getR fl_X11_45 rfl rfl dX11_turnsOnce_10 ?_
  refine mf_iconst 0 dX11_turnsOnce_13 (by decide) ?_
  refine mf_aload_n dX11_turnsOnce_14 rfl 1 rfl ?_
  refine mf_getR fl_X11_7 rfl rfl dX11_turnsOnce_15 ?_
  refine mf_bipush 121 dX11_turnsOnce_18 (by decide) ?_
  refine mf_bipush 6 dX11_turnsOnce_20 (by decide) ?_
  refine mf_callSv (stk := []) (wX11_bring_3 l _ _ _ _) cl_X11_84 rfl (by decide) rfl (Nat.le_of_ble_eq_true rfl) rfl rfl dX11_turnsOnce_22 (fun us4 s4 => ?_)
  refine mf_iload_n dX11_turnsOnce_25 rfl 0 rfl ?_
  exact mf_iret dX11_turnsOnce_26
set_option maxRecDepth 100000 in
set_option maxHeartbeats 4000000 in
theorem wX11_turn (l : Launch) (s : mx_G) : mf_M ei l yX11_turn cX11_turn 1 (some .int) 7 [.ref 45] s (fX11_turn  s) := by
  refine mf_intro rfl (Nat.le_of_ble_eq_true rfl) rfl rfl ?_
  refine mf_sub (loc' := [(0, .ref 45)]) [0] rfl ?_
  unfold fX11_turn
  refine mf_aload_n dX11_turn_0 rfl 0 rfl ?_
  refine mf_callVv (stk := []) (wX11_thinks l _) cl_X11_177 rfl (by decide) rfl rfl rfl (Nat.le_of_ble_eq_true rfl) rfl rfl dX11_turn_1 (fun us1 s1 => ?_)
  refine mf_aload_n dX11_turn_4 rfl 0 rfl ?_
  refine mf_callVi (stk := []) (wX11_notContent l _) cl_X11_193 rfl (by decide) rfl rfl rfl (Nat.le_of_ble_eq_true rfl) rfl rfl dX11_turn_5 (fun x2 s3 => ?_)
  refine mf_if_ne 13 dX11_turn_8 (by decide) ?_ ?_
  · refine mf_iconst 0 dX11_turn_11 (by decide) ?_
    exact mf_iret dX11_turn_12
  · refine mf_aload_n dX11_turn_13 rfl 0 rfl ?_
    refine mf_callVv (stk := []) (wX11_notes l _) cl_X11_106 rfl (by decide) rfl rfl rfl (Nat.le_of_ble_eq_true rfl) rfl rfl dX11_turn_14 (fun us4 s4 => ?_)
    refine mf_aload_n dX11_turn_17 rfl 0 rfl ?_
    refine mf_callVi (stk := []) (wX11_turnsOnce l _) cl_X11_199 rfl (by decide) rfl rfl rfl (Nat.le_of_ble_eq_true rfl) rfl rfl dX11_turn_18 (fun x5 s6 => ?_)
    exact mf_iret dX11_turn_21
set_option maxRecDepth 100000 in
set_option maxHeartbeats 4000000 in
theorem wX11_choosesAnew (l : Launch) (p1 : Int32) (s : mx_G) : mf_M ei l yX11_choosesAnew cX11_choosesAnew 4 (some .int) 5 [.ref 45, .int p1] s (fX11_choosesAnew p1 s) := by
  refine mf_intro rfl (Nat.le_of_ble_eq_true rfl) rfl rfl ?_
  refine mf_sub (loc' := [(0, .ref 45), (1, .int p1)]) [0, 1] rfl ?_
  unfold fX11_choosesAnew
  refine mf_aload_n dX11_choosesAnew_0 rfl 0 rfl ?_
  refine mf_callVv (stk := []) (wX11_thinks l _) cl_X11_177 rfl (by decide) rfl rfl rfl (Nat.le_of_ble_eq_true rfl) rfl rfl dX11_choosesAnew_1 (fun us1 s1 => ?_)
  refine mf_aload_n dX11_choosesAnew_4 rfl 0 rfl ?_
  refine mf_iload_n dX11_choosesAnew_5 rfl 1 rfl ?_
  refine mf_callVi (stk := []) (wX11_wouldChoose l _ _) cl_X11_174 rfl (by decide) rfl rfl rfl (Nat.le_of_ble_eq_true rfl) rfl rfl dX11_choosesAnew_6 (fun x2 s3 => ?_)
  refine mf_istore_n [(2, .int x2), (0, .ref 45), (1, .int p1)] dX11_choosesAnew_9 rfl (by decide) rfl ?_
  refine mf_iload_n dX11_choosesAnew_10 rfl 0 rfl ?_
  refine mf_aload_n dX11_choosesAnew_11 rfl 1 rfl ?_
  refine mf_getR fl_X11_7 rfl rfl dX11_choosesAnew_12 ?_
  refine mf_bipush 121 dX11_choosesAnew_15 (by decide) ?_
  refine mf_iload_n dX11_choosesAnew_17 rfl 2 rfl ?_
  refine mf_iadd dX11_choosesAnew_18 ?_
  refine mf_iald rfl dX11_choosesAnew_19 ?_
  refine mf_join (fun (J : Int32 → mx_G → Option (Int32 × mx_G)) => ∀ (q0_28 : Int32) (s_28 : mx_G), mf_X ei l RX11 cX11_choosesAnew 4 (some .int) "choosesAnew" 5 (J q0_28 s_28) 28 [(0, .ref 45), (1, .int p1), (2, .int x2)] [.int q0_28] s_28) ?_ (fun J28 hJ28 => ?_)
  · intro q0_28 s_28
    refine mf_istore_n [(3, .int q0_28), (0, .ref 45), (1, .int p1), (2, .int x2)] dX11_choosesAnew_28 rfl (by decide) rfl ?_
    refine mf_aload_n dX11_choosesAnew_29 rfl 1 rfl ?_
    refine mf_getR fl_X11_7 rfl rfl dX11_choosesAnew_30 ?_
    refine mf_bipush 121 dX11_choosesAnew_33 (by decide) ?_
    refine mf_iload_n dX11_choosesAnew_35 rfl 2 rfl ?_
    refine mf_iadd dX11_choosesAnew_36 ?_
    refine mf_iload_n dX11_choosesAnew_37 rfl 3 rfl ?_
    refine mf_iast rfl dX11_choosesAnew_38 (fun s4 => ?_)
    refine mf_iload_n dX11_choosesAnew_39 rfl 0 rfl ?_
    exact mf_iret dX11_choosesAnew_40
  refine mf_icmp_eq 27 dX11_choosesAnew_20 (by decide) ?_ ?_
  · refine mf_iconst 0 dX11_choosesAnew_27 (by decide) ?_
    exact mf_sub [1, 2, 0] rfl (hJ28 _ _)
  · refine mf_iconst 1 dX11_choosesAnew_23 (by decide) ?_
    refine mf_goto 28 dX11_choosesAnew_24 (by decide) ?_
    exact mf_sub [1, 2, 0] rfl (hJ28 _ _)
set_option maxRecDepth 100000 in
set_option maxHeartbeats 4000000 in
theorem wX11_choose (l : Launch) (p1 : Int32) (s : mx_G) : mf_M ei l yX11_choose cX11_choose 2 (some .int) 6 [.ref 45, .int p1] s (fX11_choose p1 s) := by
  refine mf_intro rfl (Nat.le_of_ble_eq_true rfl) rfl rfl ?_
  refine mf_sub (loc' := [(0, .ref 45), (1, .int p1)]) [0, 1] rfl ?_
  unfold fX11_choose
  refine mf_aload_n dX11_choose_0 rfl 0 rfl ?_
  refine mf_iload_n dX11_choose_1 rfl 1 rfl ?_
  refine mf_callVi (stk := []) (wX11_isDomain l _ _) cl_X11_92 rfl (by decide) rfl rfl rfl (Nat.le_of_ble_eq_true rfl) rfl rfl dX11_choose_2 (fun x1 s2 => ?_)
  refine mf_if_ne 10 dX11_choose_5 (by decide) ?_ ?_
  · refine mf_iconst (-1) dX11_choose_8 (by decide) ?_
    exact mf_iret dX11_choose_9
  · refine mf_aload_n dX11_choose_10 rfl 0 rfl ?_
    refine mf_callVv (stk := []) (wX11_thinks l _) cl_X11_177 rfl (by decide) rfl rfl rfl (Nat.le_of_ble_eq_true rfl) rfl rfl dX11_choose_11 (fun us3 s3 => ?_)
    refine mf_aload_n dX11_choose_14 rfl 0 rfl ?_
    refine mf_iload_n dX11_choose_15 rfl 1 rfl ?_
    refine mf_callVi (stk := []) (wX11_wouldChoose l _ _) cl_X11_174 rfl (by decide) rfl rfl rfl (Nat.le_of_ble_eq_true rfl) rfl rfl dX11_choose_16 (fun x4 s5 => ?_)
    refine mf_aload_n dX11_choose_19 rfl 0 rfl ?_
    refine mf_getR fl_X11_7 rfl rfl dX11_choose_20 ?_
    refine mf_bipush 121 dX11_choose_23 (by decide) ?_
    refine mf_iload_n dX11_choose_25 rfl 1 rfl ?_
    refine mf_iadd dX11_choose_26 ?_
    refine mf_iald rfl dX11_choose_27 ?_
    refine mf_icmp_ne 33 dX11_choose_28 (by decide) ?_ ?_
    · refine mf_iconst 0 dX11_choose_31 (by decide) ?_
      exact mf_iret dX11_choose_32
    · refine mf_aload_n dX11_choose_33 rfl 0 rfl ?_
      refine mf_callVv (stk := []) (wX11_notes l _) cl_X11_106 rfl (by decide) rfl rfl rfl (Nat.le_of_ble_eq_true rfl) rfl rfl dX11_choose_34 (fun us6 s6 => ?_)
      refine mf_aload_n dX11_choose_37 rfl 0 rfl ?_
      refine mf_iload_n dX11_choose_38 rfl 1 rfl ?_
      refine mf_callVi (stk := []) (wX11_choosesAnew l _ _) cl_X11_202 rfl (by decide) rfl rfl rfl (Nat.le_of_ble_eq_true rfl) rfl rfl dX11_choose_39 (fun x7 s8 => ?_)
      exact mf_iret dX11_choose_42
set_option maxRecDepth 100000 in
set_option maxHeartbeats 4000000 in
theorem wlX11_rest_19 (l : Launch)    : ∀ (n : Nat) (a1 : Int32) (s0 : mx_G), mf_X ei l RX11 cX11_rest 2 (some .int) "rest" 7 (lX11_rest_19   n a1 s0) 19 [(0, .ref 45), (1, .int a1)] [] s0 := by
  intro n
  induction n with
  | zero => intro a1 s0; exact mf_none
  | succ n ih19 =>
    intro a1 s0
    rw [lX11_rest_19]
    refine mf_iload_n dX11_rest_19 rfl 1 rfl ?_
    refine mf_bipush 40 dX11_rest_20 (by decide) ?_
    refine mf_icmp_gt 45 dX11_rest_22 (by decide) ?_ ?_
    · refine mf_bipush (-4) dX11_rest_45 (by decide) ?_
      exact mf_iret dX11_rest_47
    · refine mf_aload_n dX11_rest_25 rfl 0 rfl ?_
      refine mf_callVi (stk := []) (wX11_turnsOnce l _) cl_X11_199 rfl (by decide) rfl rfl rfl (Nat.le_of_ble_eq_true rfl) rfl rfl dX11_rest_26 (fun x5 s6 => ?_)
      refine mf_pop rfl dX11_rest_29 ?_
      refine mf_aload_n dX11_rest_30 rfl 0 rfl ?_
      refine mf_callVi (stk := []) (wX11_notContent l _) cl_X11_193 rfl (by decide) rfl rfl rfl (Nat.le_of_ble_eq_true rfl) rfl rfl dX11_rest_31 (fun x7 s8 => ?_)
      refine mf_if_ne 39 dX11_rest_34 (by decide) ?_ ?_
      · refine mf_iload_n dX11_rest_37 rfl 1 rfl ?_
        exact mf_iret dX11_rest_38
      · refine mf_iinc 1 [(1, .int (a1 + 1)), (0, .ref 45)] dX11_rest_39 1 rfl (by decide) (by decide) rfl ?_
        refine mf_goto 19 dX11_rest_42 (by decide) ?_
        exact mf_sub [1, 0] rfl (ih19 _ _)
set_option maxRecDepth 100000 in
set_option maxHeartbeats 4000000 in
theorem wX11_rest (l : Launch) (s : mx_G) : mf_M ei l yX11_rest cX11_rest 2 (some .int) 7 [.ref 45] s (fX11_rest  s) := by
  refine mf_intro rfl (Nat.le_of_ble_eq_true rfl) rfl rfl ?_
  refine mf_sub (loc' := [(0, .ref 45)]) [0] rfl ?_
  unfold fX11_rest
  refine mf_aload_n dX11_rest_0 rfl 0 rfl ?_
  refine mf_callVv (stk := []) (wX11_thinks l _) cl_X11_177 rfl (by decide) rfl rfl rfl (Nat.le_of_ble_eq_true rfl) rfl rfl dX11_rest_1 (fun us1 s1 => ?_)
  refine mf_aload_n dX11_rest_4 rfl 0 rfl ?_
  refine mf_callVi (stk := []) (wX11_notContent l _) cl_X11_193 rfl (by decide) rfl rfl rfl (Nat.le_of_ble_eq_true rfl) rfl rfl dX11_rest_5 (fun x2 s3 => ?_)
  refine mf_if_ne 13 dX11_rest_8 (by decide) ?_ ?_
  · refine mf_iconst 0 dX11_rest_11 (by decide) ?_
    exact mf_iret dX11_rest_12
  · refine mf_aload_n dX11_rest_13 rfl 0 rfl ?_
    refine mf_callVv (stk := []) (wX11_notes l _) cl_X11_106 rfl (by decide) rfl rfl rfl (Nat.le_of_ble_eq_true rfl) rfl rfl dX11_rest_14 (fun us4 s4 => ?_)
    refine mf_iconst 1 dX11_rest_17 (by decide) ?_
    refine mf_istore_n [(1, .int 1), (0, .ref 45)] dX11_rest_18 rfl (by decide) rfl ?_
    exact mf_sub [1, 0] rfl (wlX11_rest_19 l FU _ _)
set_option maxRecDepth 100000 in
set_option maxHeartbeats 4000000 in
theorem wlX11_clear_4 (l : Launch) (k42 : Int32 → mx_G → Option (Int32 × mx_G)) (hk42 : ∀ (b1 : Int32) (sz : mx_G), mf_X ei l RX11 cX11_clear 3 (some .int) "clear" 2 (k42 b1 sz) 42 [(0, .ref 45), (1, .int b1)] [] sz) : ∀ (n : Nat) (a1 : Int32) (a2 : Int32) (s0 : mx_G), mf_X ei l RX11 cX11_clear 3 (some .int) "clear" 2 (lX11_clear_4  k42 n a1 a2 s0) 4 [(0, .ref 45), (1, .int a1), (2, .int a2)] [] s0 := by
  intro n
  induction n with
  | zero => intro a1 a2 s0; exact mf_none
  | succ n ih4 =>
    intro a1 a2 s0
    rw [lX11_clear_4]
    refine mf_iload_n dX11_clear_4 rfl 2 rfl ?_
    refine mf_aload_n dX11_clear_5 rfl 0 rfl ?_
    refine mf_getR fl_X11_7 rfl rfl dX11_clear_6 ?_
    refine mf_iconst 0 dX11_clear_9 (by decide) ?_
    refine mf_iald rfl dX11_clear_10 ?_
    refine mf_icmp_ge 42 dX11_clear_11 (by decide) ?_ ?_
    · exact mf_sub [0, 1] rfl (hk42 _ _)
    · refine mf_iload_n dX11_clear_14 rfl 1 rfl ?_
      refine mf_aload_n dX11_clear_15 rfl 0 rfl ?_
      refine mf_getR fl_X11_7 rfl rfl dX11_clear_16 ?_
      refine mf_bipush 121 dX11_clear_19 (by decide) ?_
      refine mf_iload_n dX11_clear_21 rfl 2 rfl ?_
      refine mf_iadd dX11_clear_22 ?_
      refine mf_iald rfl dX11_clear_23 ?_
      refine mf_bipush (-4) dX11_clear_24 (by decide) ?_
      refine mf_icmp_eq 33 dX11_clear_26 (by decide) ?_ ?_
      · refine mf_iconst 0 dX11_clear_33 (by decide) ?_
        refine mf_iadd dX11_clear_34 ?_
        refine mf_leti (fun x1 => ?_)
        refine mf_istore_n [(1, .int x1), (0, .ref 45), (2, .int a2)] dX11_clear_35 rfl (by decide) rfl ?_
        refine mf_iinc 1 [(2, .int (a2 + 1)), (1, .int x1), (0, .ref 45)] dX11_clear_36 2 rfl (by decide) (by decide) rfl ?_
        refine mf_goto 4 dX11_clear_39 (by decide) ?_
        exact mf_sub [2, 1, 0] rfl (ih4 _ _ _)
      · refine mf_iconst 1 dX11_clear_29 (by decide) ?_
        refine mf_goto 34 dX11_clear_30 (by decide) ?_
        refine mf_iadd dX11_clear_34 ?_
        refine mf_leti (fun x2 => ?_)
        refine mf_istore_n [(1, .int x2), (0, .ref 45), (2, .int a2)] dX11_clear_35 rfl (by decide) rfl ?_
        refine mf_iinc 1 [(2, .int (a2 + 1)), (1, .int x2), (0, .ref 45)] dX11_clear_36 2 rfl (by decide) (by decide) rfl ?_
        refine mf_goto 4 dX11_clear_39 (by decide) ?_
        exact mf_sub [2, 1, 0] rfl (ih4 _ _ _)
set_option maxRecDepth 100000 in
set_option maxHeartbeats 4000000 in
theorem wlX11_clear_55 (l : Launch) (a1 : Int32)   : ∀ (n : Nat) (a2 : Int32) (s0 : mx_G), mf_X ei l RX11 cX11_clear 3 (some .int) "clear" 2 (lX11_clear_55 a1  n a2 s0) 55 [(0, .ref 45), (1, .int a1), (2, .int a2)] [] s0 := by
  intro n
  induction n with
  | zero => intro a2 s0; exact mf_none
  | succ n ih55 =>
    intro a2 s0
    rw [lX11_clear_55]
    refine mf_iload_n dX11_clear_55 rfl 2 rfl ?_
    refine mf_bipush 6 dX11_clear_56 (by decide) ?_
    refine mf_icmp_ge 78 dX11_clear_58 (by decide) ?_ ?_
    · refine mf_iload_n dX11_clear_78 rfl 1 rfl ?_
      exact mf_iret dX11_clear_79
    · refine mf_aload_n dX11_clear_61 rfl 0 rfl ?_
      refine mf_getR fl_X11_7 rfl rfl dX11_clear_62 ?_
      refine mf_bipush 121 dX11_clear_65 (by decide) ?_
      refine mf_iload_n dX11_clear_67 rfl 2 rfl ?_
      refine mf_iadd dX11_clear_68 ?_
      refine mf_bipush (-4) dX11_clear_69 (by decide) ?_
      refine mf_iast rfl dX11_clear_71 (fun s6 => ?_)
      refine mf_iinc 1 [(2, .int (a2 + 1)), (0, .ref 45), (1, .int a1)] dX11_clear_72 2 rfl (by decide) (by decide) rfl ?_
      refine mf_goto 55 dX11_clear_75 (by decide) ?_
      exact mf_sub [1, 2, 0] rfl (ih55 _ _)
set_option maxRecDepth 100000 in
set_option maxHeartbeats 4000000 in
theorem wX11_clear (l : Launch) (s : mx_G) : mf_M ei l yX11_clear cX11_clear 3 (some .int) 2 [.ref 45] s (fX11_clear  s) := by
  refine mf_intro rfl (Nat.le_of_ble_eq_true rfl) rfl rfl ?_
  refine mf_sub (loc' := [(0, .ref 45)]) [0] rfl ?_
  unfold fX11_clear
  refine mf_iconst 0 dX11_clear_0 (by decide) ?_
  refine mf_istore_n [(1, .int 0), (0, .ref 45)] dX11_clear_1 rfl (by decide) rfl ?_
  refine mf_iconst 1 dX11_clear_2 (by decide) ?_
  refine mf_istore_n [(2, .int 1), (1, .int 0), (0, .ref 45)] dX11_clear_3 rfl (by decide) rfl ?_
  refine mf_sub [2, 1, 0] rfl (wlX11_clear_4 l _ (fun y4 s3 => ?_) FU _ _ _)
  refine mf_iload_n dX11_clear_42 rfl 1 rfl ?_
  refine mf_if_ne 49 dX11_clear_43 (by decide) ?_ ?_
  · refine mf_bipush (-2) dX11_clear_46 (by decide) ?_
    exact mf_iret dX11_clear_48
  · refine mf_aload_n dX11_clear_49 rfl 0 rfl ?_
    refine mf_callVv (stk := []) (wX11_notes l _) cl_X11_106 rfl (by decide) rfl rfl rfl (Nat.le_of_ble_eq_true rfl) rfl rfl dX11_clear_50 (fun us5 s5 => ?_)
    refine mf_iconst 1 dX11_clear_53 (by decide) ?_
    refine mf_istore_n [(2, .int 1), (0, .ref 45), (1, .int y4)] dX11_clear_54 rfl (by decide) rfl ?_
    exact mf_sub [1, 2, 0] rfl (wlX11_clear_55 l _ FU _ _)
set_option maxRecDepth 100000 in
set_option maxHeartbeats 4000000 in
theorem wlX11_bring_4_3 (l : Launch) (a1 : Int32) (a3 : Int32) (a4 : Int32)   : ∀ (n : Nat) (a5 : Int32) (s0 : mx_G), mf_X ev l RX11 cX11_bring 6 none "bring" 0 (lX11_bring_4_3 a1 a3 a4  n a5 s0) 3 [(0, .ref 56), (1, .int a1), (2, .ref 58), (3, .int a3), (4, .int a4), (5, .int a5)] [] s0 := by
  intro n
  induction n with
  | zero => intro a5 s0; exact mf_none
  | succ n ih3 =>
    intro a5 s0
    rw [lX11_bring_4_3]
    refine mf_iload dX11_bring_3 5 rfl ?_
    refine mf_iload dX11_bring_5 4 rfl ?_
    refine mf_icmp_ge 28 dX11_bring_7 (by decide) ?_ ?_
    · exact mf_vret dX11_bring_28
    · refine mf_aload_n dX11_bring_10 rfl 2 rfl ?_
      refine mf_iload_n dX11_bring_11 rfl 3 rfl ?_
      refine mf_iload dX11_bring_12 5 rfl ?_
      refine mf_iadd dX11_bring_14 ?_
      refine mf_aload_n dX11_bring_15 rfl 0 rfl ?_
      refine mf_iload_n dX11_bring_16 rfl 1 rfl ?_
      refine mf_iload dX11_bring_17 5 rfl ?_
      refine mf_iadd dX11_bring_19 ?_
      refine mf_iald rfl dX11_bring_20 ?_
      refine mf_iast rfl dX11_bring_21 (fun s1 => ?_)
      refine mf_iinc 1 [(5, .int (a5 + 1)), (0, .ref 56), (1, .int a1), (2, .ref 58), (3, .int a3), (4, .int a4)] dX11_bring_22 5 rfl (by decide) (by decide) rfl ?_
      refine mf_goto 3 dX11_bring_25 (by decide) ?_
      exact mf_sub [1, 2, 3, 4, 5, 0] rfl (ih3 _ _)
set_option maxRecDepth 100000 in
set_option maxHeartbeats 4000000 in
theorem wX11_bring_4 (l : Launch) (p1 : Int32) (p3 : Int32) (p4 : Int32) (s : mx_G) : mf_M ev l yX11_bring cX11_bring 6 none 0 [.ref 56, .int p1, .ref 58, .int p3, .int p4] s (fX11_bring_4 p1 p3 p4 s) := by
  refine mf_intro rfl (Nat.le_of_ble_eq_true rfl) rfl rfl ?_
  refine mf_sub (loc' := [(0, .ref 56), (1, .int p1), (2, .ref 58), (3, .int p3), (4, .int p4)]) [0, 1, 2, 3, 4] rfl ?_
  unfold fX11_bring_4
  refine mf_iconst 0 dX11_bring_0 (by decide) ?_
  refine mf_istore [(5, .int 0), (0, .ref 56), (1, .int p1), (2, .ref 58), (3, .int p3), (4, .int p4)] dX11_bring_1 (by decide) rfl ?_
  exact mf_sub [1, 2, 3, 4, 5, 0] rfl (wlX11_bring_4_3 l _ _ _ FU _ _)
set_option maxRecDepth 100000 in
set_option maxHeartbeats 4000000 in
theorem wlX11_isAsBehind_4 (l : Launch) (a1 : Int32)   : ∀ (n : Nat) (a2 : Int32) (a3 : Int32) (s0 : mx_G), mf_X ei l RX11 cX11_isAsBehind 4 (some .boolean) "isAsBehind" 0 (lX11_isAsBehind_4 a1  n a2 a3 s0) 4 [(0, .ref 45), (1, .int a1), (2, .int a2), (3, .int a3)] [] s0 := by
  intro n
  induction n with
  | zero => intro a2 a3 s0; exact mf_none
  | succ n ih4 =>
    intro a2 a3 s0
    rw [lX11_isAsBehind_4]
    refine mf_iload_n dX11_isAsBehind_4 rfl 3 rfl ?_
    refine mf_bipush 6 dX11_isAsBehind_5 (by decide) ?_
    refine mf_icmp_ge 46 dX11_isAsBehind_7 (by decide) ?_ ?_
    · refine mf_iload_n dX11_isAsBehind_46 rfl 2 rfl ?_
      exact mf_zretG dX11_isAsBehind_47
    · refine mf_iload_n dX11_isAsBehind_10 rfl 2 rfl ?_
      refine mf_if_eq 38 dX11_isAsBehind_11 (by decide) ?_ ?_
      · refine mf_iconst 0 dX11_isAsBehind_38 (by decide) ?_
        refine mf_istore_n [(2, .int 0), (0, .ref 45), (1, .int a1), (3, .int a3)] dX11_isAsBehind_39 rfl (by decide) rfl ?_
        refine mf_iinc 1 [(3, .int (a3 + 1)), (2, .int 0), (0, .ref 45), (1, .int a1)] dX11_isAsBehind_40 3 rfl (by decide) (by decide) rfl ?_
        refine mf_goto 4 dX11_isAsBehind_43 (by decide) ?_
        exact mf_sub [2, 3, 1, 0] rfl (ih4 _ _ _)
      · refine mf_aload_n dX11_isAsBehind_14 rfl 0 rfl ?_
        refine mf_getR fl_X11_51 rfl rfl dX11_isAsBehind_15 ?_
        refine mf_bipush 6 dX11_isAsBehind_18 (by decide) ?_
        refine mf_iload_n dX11_isAsBehind_20 rfl 1 rfl ?_
        refine mf_imul dX11_isAsBehind_21 ?_
        refine mf_iload_n dX11_isAsBehind_22 rfl 3 rfl ?_
        refine mf_iadd dX11_isAsBehind_23 ?_
        refine mf_iald rfl dX11_isAsBehind_24 ?_
        refine mf_aload_n dX11_isAsBehind_25 rfl 0 rfl ?_
        refine mf_getR fl_X11_45 rfl rfl dX11_isAsBehind_26 ?_
        refine mf_iload_n dX11_isAsBehind_29 rfl 3 rfl ?_
        refine mf_iald rfl dX11_isAsBehind_30 ?_
        refine mf_icmp_ne 38 dX11_isAsBehind_31 (by decide) ?_ ?_
        · refine mf_iconst 1 dX11_isAsBehind_34 (by decide) ?_
          refine mf_goto 39 dX11_isAsBehind_35 (by decide) ?_
          refine mf_istore_n [(2, .int 1), (0, .ref 45), (1, .int a1), (3, .int a3)] dX11_isAsBehind_39 rfl (by decide) rfl ?_
          refine mf_iinc 1 [(3, .int (a3 + 1)), (2, .int 1), (0, .ref 45), (1, .int a1)] dX11_isAsBehind_40 3 rfl (by decide) (by decide) rfl ?_
          refine mf_goto 4 dX11_isAsBehind_43 (by decide) ?_
          exact mf_sub [2, 3, 1, 0] rfl (ih4 _ _ _)
        · refine mf_iconst 0 dX11_isAsBehind_38 (by decide) ?_
          refine mf_istore_n [(2, .int 0), (0, .ref 45), (1, .int a1), (3, .int a3)] dX11_isAsBehind_39 rfl (by decide) rfl ?_
          refine mf_iinc 1 [(3, .int (a3 + 1)), (2, .int 0), (0, .ref 45), (1, .int a1)] dX11_isAsBehind_40 3 rfl (by decide) (by decide) rfl ?_
          refine mf_goto 4 dX11_isAsBehind_43 (by decide) ?_
          exact mf_sub [2, 3, 1, 0] rfl (ih4 _ _ _)
set_option maxRecDepth 100000 in
set_option maxHeartbeats 4000000 in
theorem wX11_isAsBehind (l : Launch) (p1 : Int32) (s : mx_G) : mf_M ei l yX11_isAsBehind cX11_isAsBehind 4 (some .boolean) 0 [.ref 45, .int p1] s (fX11_isAsBehind p1 s) := by
  refine mf_intro rfl (Nat.le_of_ble_eq_true rfl) rfl rfl ?_
  refine mf_sub (loc' := [(0, .ref 45), (1, .int p1)]) [0, 1] rfl ?_
  unfold fX11_isAsBehind
  refine mf_iconst 1 dX11_isAsBehind_0 (by decide) ?_
  refine mf_istore_n [(2, .int 1), (0, .ref 45), (1, .int p1)] dX11_isAsBehind_1 rfl (by decide) rfl ?_
  refine mf_iconst 0 dX11_isAsBehind_2 (by decide) ?_
  refine mf_istore_n [(3, .int 0), (2, .int 1), (0, .ref 45), (1, .int p1)] dX11_isAsBehind_3 rfl (by decide) rfl ?_
  exact mf_sub [2, 3, 1, 0] rfl (wlX11_isAsBehind_4 l _ FU _ _ _)
set_option maxRecDepth 100000 in
set_option maxHeartbeats 4000000 in
theorem wlX11_foreseen_48 (l : Launch) (a1 : Int32) (a2 : Int32) (k61 : Int32 → mx_G → Option (Int32 × mx_G)) (k97 : mx_G → Option (Int32 × mx_G)) (hk61 : ∀ (b3 : Int32) (sz : mx_G), mf_X ei l RX11 cX11_foreseen 4 (some .int) "foreseen" 6 (k61 b3 sz) 61 [(1, .int a1), (2, .int a2), (3, .int b3)] [] sz) (hk97 : ∀ (sz : mx_G), mf_X ei l RX11 cX11_foreseen 4 (some .int) "foreseen" 6 (k97 sz) 97 [(0, .ref 45), (1, .int a1), (2, .int a2)] [] sz) : ∀ (n : Nat) (a3 : Int32) (s0 : mx_G), mf_X ei l RX11 cX11_foreseen 4 (some .int) "foreseen" 6 (lX11_foreseen_48 a1 a2 k61 k97 n a3 s0) 48 [(0, .ref 45), (1, .int a1), (2, .int a2), (3, .int a3)] [] s0 := by
  intro n
  induction n with
  | zero => intro a3 s0; exact mf_none
  | succ n ih48 =>
    intro a3 s0
    rw [lX11_foreseen_48]
    refine mf_iload_n dX11_foreseen_48 rfl 3 rfl ?_
    refine mf_iload_n dX11_foreseen_49 rfl 2 rfl ?_
    refine mf_icmp_ge 97 dX11_foreseen_50 (by decide) ?_ ?_
    · exact mf_sub [0, 1, 2] rfl (hk97 _)
    · refine mf_aload_n dX11_foreseen_53 rfl 0 rfl ?_
      refine mf_iload_n dX11_foreseen_54 rfl 3 rfl ?_
      refine mf_callVi (stk := []) (wX11_isAsBehind l _ _) cl_X11_205 rfl (by decide) rfl rfl rfl (Nat.le_of_ble_eq_true rfl) rfl rfl dX11_foreseen_55 (fun x7 s8 => ?_)
      refine mf_if_eq 91 dX11_foreseen_58 (by decide) ?_ ?_
      · refine mf_iinc 1 [(3, .int (a3 + 1)), (0, .ref 45), (1, .int a1), (2, .int a2)] dX11_foreseen_91 3 rfl (by decide) (by decide) rfl ?_
        refine mf_goto 48 dX11_foreseen_94 (by decide) ?_
        exact mf_sub [1, 2, 3, 0] rfl (ih48 _ _)
      · exact mf_sub [1, 2, 3] rfl (hk61 _ _)
set_option maxRecDepth 100000 in
set_option maxHeartbeats 4000000 in
theorem wlX11_foreseen_35 (l : Launch) (a1 : Int32) (k61 : Int32 → Int32 → mx_G → Option (Int32 × mx_G)) (hk61 : ∀ (b2 : Int32) (b3 : Int32) (sz : mx_G), mf_X ei l RX11 cX11_foreseen 4 (some .int) "foreseen" 6 (k61 b2 b3 sz) 61 [(1, .int a1), (2, .int b2), (3, .int b3)] [] sz) : ∀ (n : Nat) (a2 : Int32) (s0 : mx_G), mf_X ei l RX11 cX11_foreseen 4 (some .int) "foreseen" 6 (lX11_foreseen_35 a1 k61 n a2 s0) 35 [(0, .ref 45), (1, .int a1), (2, .int a2)] [] s0 := by
  intro n
  induction n with
  | zero => intro a2 s0; exact mf_none
  | succ n ih35 =>
    intro a2 s0
    rw [lX11_foreseen_35]
    refine mf_iload_n dX11_foreseen_35 rfl 2 rfl ?_
    refine mf_bipush 60 dX11_foreseen_36 (by decide) ?_
    refine mf_icmp_gt 121 dX11_foreseen_38 (by decide) ?_ ?_
    · refine mf_bipush (-4) dX11_foreseen_121 (by decide) ?_
      exact mf_iret dX11_foreseen_123
    · refine mf_aload_n dX11_foreseen_41 rfl 0 rfl ?_
      refine mf_callVi (stk := []) (wX11_turnsInMind l _) cl_X11_180 rfl (by decide) rfl rfl rfl (Nat.le_of_ble_eq_true rfl) rfl rfl dX11_foreseen_42 (fun x5 s6 => ?_)
      refine mf_pop rfl dX11_foreseen_45 ?_
      refine mf_iconst 0 dX11_foreseen_46 (by decide) ?_
      refine mf_istore_n [(3, .int 0), (0, .ref 45), (1, .int a1), (2, .int a2)] dX11_foreseen_47 rfl (by decide) rfl ?_
      refine mf_sub [1, 2, 3, 0] rfl (wlX11_foreseen_48 l _ _ _ _ (fun y10 s9 => ?_) (fun s11 => ?_) FU _ _)
      · exact mf_sub [0, 1, 2] rfl (hk61 _ _ _)
      · refine mf_aload_n dX11_foreseen_97 rfl 0 rfl ?_
        refine mf_getR fl_X11_45 rfl rfl dX11_foreseen_98 ?_
        refine mf_iconst 0 dX11_foreseen_101 (by decide) ?_
        refine mf_aload_n dX11_foreseen_102 rfl 0 rfl ?_
        refine mf_getR fl_X11_51 rfl rfl dX11_foreseen_103 ?_
        refine mf_bipush 6 dX11_foreseen_106 (by decide) ?_
        refine mf_iload_n dX11_foreseen_108 rfl 2 rfl ?_
        refine mf_imul dX11_foreseen_109 ?_
        refine mf_bipush 6 dX11_foreseen_110 (by decide) ?_
        refine mf_callSv (stk := []) (wX11_bring_4 l _ _ _ _) cl_X11_84 rfl (by decide) rfl (Nat.le_of_ble_eq_true rfl) rfl rfl dX11_foreseen_112 (fun us12 s12 => ?_)
        refine mf_iinc 1 [(2, .int (a2 + 1)), (0, .ref 45), (1, .int a1)] dX11_foreseen_115 2 rfl (by decide) (by decide) rfl ?_
        refine mf_goto 35 dX11_foreseen_118 (by decide) ?_
        exact mf_sub [1, 2, 0] rfl (ih35 _ _)
set_option maxRecDepth 100000 in
set_option maxHeartbeats 4000000 in
theorem wX11_foreseen (l : Launch) (p1 : Int32) (s : mx_G) : mf_M ei l yX11_foreseen cX11_foreseen 4 (some .int) 6 [.ref 45, .int p1] s (fX11_foreseen p1 s) := by
  refine mf_intro rfl (Nat.le_of_ble_eq_true rfl) rfl rfl ?_
  refine mf_sub (loc' := [(0, .ref 45), (1, .int p1)]) [0, 1] rfl ?_
  unfold fX11_foreseen
  refine mf_iload_n dX11_foreseen_0 rfl 1 rfl ?_
  refine mf_i2l dX11_foreseen_1 ?_
  refine mf_lconst 0 dX11_foreseen_2 (by decide) ?_
  refine mf_ldc2 kl_X11_121 dX11_foreseen_3 ?_
  refine mf_callSi (stk := []) (wX11_in l _ _ _ _) cl_X11_88 rfl (by decide) rfl (Nat.le_of_ble_eq_true rfl) rfl rfl dX11_foreseen_6 (fun x1 s2 => ?_)
  refine mf_if_ne 14 dX11_foreseen_9 (by decide) ?_ ?_
  · refine mf_iconst (-1) dX11_foreseen_12 (by decide) ?_
    exact mf_iret dX11_foreseen_13
  · refine mf_aload_n dX11_foreseen_14 rfl 0 rfl ?_
    refine mf_callVv (stk := []) (wX11_thinks l _) cl_X11_177 rfl (by decide) rfl rfl rfl (Nat.le_of_ble_eq_true rfl) rfl rfl dX11_foreseen_15 (fun us3 s3 => ?_)
    refine mf_aload_n dX11_foreseen_18 rfl 0 rfl ?_
    refine mf_getR fl_X11_45 rfl rfl dX11_foreseen_19 ?_
    refine mf_iconst 0 dX11_foreseen_22 (by decide) ?_
    refine mf_aload_n dX11_foreseen_23 rfl 0 rfl ?_
    refine mf_getR fl_X11_51 rfl rfl dX11_foreseen_24 ?_
    refine mf_iconst 0 dX11_foreseen_27 (by decide) ?_
    refine mf_bipush 6 dX11_foreseen_28 (by decide) ?_
    refine mf_callSv (stk := []) (wX11_bring_4 l _ _ _ _) cl_X11_84 rfl (by decide) rfl (Nat.le_of_ble_eq_true rfl) rfl rfl dX11_foreseen_30 (fun us4 s4 => ?_)
    refine mf_iconst 1 dX11_foreseen_33 (by decide) ?_
    refine mf_istore_n [(2, .int 1), (0, .ref 45), (1, .int p1)] dX11_foreseen_34 rfl (by decide) rfl ?_
    refine mf_sub [1, 2, 0] rfl (wlX11_foreseen_35 l _ _ (fun y14 y15 s13 => ?_) FU _ _)
    refine mf_iload_n dX11_foreseen_61 rfl 0 rfl ?_
    refine mf_iconst 1 dX11_foreseen_62 (by decide) ?_
    refine mf_icmp_ne 72 dX11_foreseen_63 (by decide) ?_ ?_
    · refine mf_iload_n dX11_foreseen_66 rfl 1 rfl ?_
      refine mf_iload_n dX11_foreseen_67 rfl 2 rfl ?_
      refine mf_isub dX11_foreseen_68 ?_
      refine mf_goto 90 dX11_foreseen_69 (by decide) ?_
      exact mf_iret dX11_foreseen_90
    · refine mf_iload_n dX11_foreseen_72 rfl 0 rfl ?_
      refine mf_iconst 2 dX11_foreseen_73 (by decide) ?_
      refine mf_icmp_eq 84 dX11_foreseen_74 (by decide) ?_ ?_
      · refine mf_iload_n dX11_foreseen_84 rfl 2 rfl ?_
        refine mf_goto 90 dX11_foreseen_85 (by decide) ?_
        exact mf_iret dX11_foreseen_90
      · refine mf_iload_n dX11_foreseen_77 rfl 1 rfl ?_
        refine mf_iload_n dX11_foreseen_78 rfl 2 rfl ?_
        refine mf_isub dX11_foreseen_79 ?_
        refine mf_iconst 1 dX11_foreseen_80 (by decide) ?_
        refine mf_icmp_ne 88 dX11_foreseen_81 (by decide) ?_ ?_
        · refine mf_iload_n dX11_foreseen_84 rfl 2 rfl ?_
          refine mf_goto 90 dX11_foreseen_85 (by decide) ?_
          exact mf_iret dX11_foreseen_90
        · refine mf_bipush (-4) dX11_foreseen_88 (by decide) ?_
          exact mf_iret dX11_foreseen_90
set_option maxRecDepth 100000 in
set_option maxHeartbeats 4000000 in
theorem wX11_stable (l : Launch) (p1 : Int32) (p2 : Int32) (s : mx_G) : mf_M ei l yX11_stable cX11_stable 3 (some .int) 7 [.ref 45, .int p1, .int p2] s (fX11_stable p1 p2 s) := by
  refine mf_intro rfl (Nat.le_of_ble_eq_true rfl) rfl rfl ?_
  refine mf_sub (loc' := [(0, .ref 45), (1, .int p1), (2, .int p2)]) [0, 1, 2] rfl ?_
  unfold fX11_stable
  refine mf_iload_n dX11_stable_0 rfl 1 rfl ?_
  refine mf_if_lt 12 dX11_stable_1 (by decide) ?_ ?_
  · refine mf_iconst (-1) dX11_stable_12 (by decide) ?_
    exact mf_iret dX11_stable_13
  · refine mf_aload_n dX11_stable_4 rfl 0 rfl ?_
    refine mf_iload_n dX11_stable_5 rfl 2 rfl ?_
    refine mf_callVi (stk := []) (wX11_isDomain l _ _) cl_X11_92 rfl (by decide) rfl rfl rfl (Nat.le_of_ble_eq_true rfl) rfl rfl dX11_stable_6 (fun x1 s2 => ?_)
    refine mf_if_ne 14 dX11_stable_9 (by decide) ?_ ?_
    · refine mf_iconst (-1) dX11_stable_12 (by decide) ?_
      exact mf_iret dX11_stable_13
    · refine mf_aload_n dX11_stable_14 rfl 0 rfl ?_
      refine mf_iload_n dX11_stable_15 rfl 1 rfl ?_
      refine mf_callVi (stk := []) (wX11_stableTo l _ _) cl_X11_196 rfl (by decide) rfl rfl rfl (Nat.le_of_ble_eq_true rfl) rfl rfl dX11_stable_16 (fun x3 s4 => ?_)
      refine mf_bipush (-4) dX11_stable_19 (by decide) ?_
      refine mf_icmp_ne 29 dX11_stable_21 (by decide) ?_ ?_
      · refine mf_bipush (-2) dX11_stable_24 (by decide) ?_
        refine mf_goto 35 dX11_stable_26 (by decide) ?_
        exact mf_iret dX11_stable_35
      · refine mf_aload_n dX11_stable_29 rfl 0 rfl ?_
        refine mf_getR fl_X11_45 rfl rfl dX11_stable_30 ?_
        refine mf_iload_n dX11_stable_33 rfl 2 rfl ?_
        refine mf_iald rfl dX11_stable_34 ?_
        exact mf_iret dX11_stable_35
set_option maxRecDepth 100000 in
set_option maxHeartbeats 4000000 in
theorem wX11_behind (l : Launch) (p0 : Int32) (s : mx_G) : mf_M ei l yX11_behind cX11_behind 1 (some .int) 1 [.int p0] s (fX11_behind p0 s) := by
  refine mf_intro rfl (Nat.le_of_ble_eq_true rfl) rfl rfl ?_
  refine mf_sub (loc' := [(0, .int p0)]) [0] rfl ?_
  unfold fX11_behind
  refine mf_iload_n dX11_behind_0 rfl 0 rfl ?_
  refine mf_iload_n dX11_behind_1 rfl 0 rfl ?_
  refine mf_callSi (stk := [.int p0]) (wX11_figures l _ _) cl_X11_125 rfl (by decide) rfl (Nat.le_of_ble_eq_true rfl) rfl rfl dX11_behind_2 (fun x1 s2 => ?_)
  refine mf_iconst 1 dX11_behind_5 (by decide) ?_
  refine mf_isub dX11_behind_6 ?_
  refine mf_callSi (stk := [.int p0]) (wX11_ten l _ _) cl_X11_129 rfl (by decide) rfl (Nat.le_of_ble_eq_true rfl) rfl rfl dX11_behind_7 (fun x3 s4 => ?_)
  refine mf_iremG dX11_behind_10 ?_
  exact mf_iret dX11_behind_11
set_option maxRecDepth 100000 in
set_option maxHeartbeats 4000000 in
theorem wX11_leadsTo (l : Launch) (p1 : Int32) (p2 : Int32) (s : mx_G) : mf_M ei l yX11_leadsTo cX11_leadsTo 5 (some .boolean) 4 [.ref 45, .int p1, .int p2] s (fX11_leadsTo p1 p2 s) := by
  refine mf_intro rfl (Nat.le_of_ble_eq_true rfl) rfl rfl ?_
  refine mf_sub (loc' := [(0, .ref 45), (1, .int p1), (2, .int p2)]) [0, 1, 2] rfl ?_
  unfold fX11_leadsTo
  refine mf_aload_n dX11_leadsTo_0 rfl 0 rfl ?_
  refine mf_getR fl_X11_42 rfl rfl dX11_leadsTo_1 ?_
  refine mf_iload_n dX11_leadsTo_4 rfl 2 rfl ?_
  refine mf_iald rfl dX11_leadsTo_5 ?_
  refine mf_leti (fun x1 => ?_)
  refine mf_istore_n [(3, .int x1), (0, .ref 45), (1, .int p1), (2, .int p2)] dX11_leadsTo_6 rfl (by decide) rfl ?_
  refine mf_iload_n dX11_leadsTo_7 rfl 0 rfl ?_
  refine mf_if_ne 13 dX11_leadsTo_8 (by decide) ?_ ?_
  · refine mf_iconst 0 dX11_leadsTo_11 (by decide) ?_
    exact mf_zret (by decide) dX11_leadsTo_12
  · refine mf_aload_n dX11_leadsTo_13 rfl 1 rfl ?_
    refine mf_getR fl_X11_39 rfl rfl dX11_leadsTo_14 ?_
    refine mf_iload_n dX11_leadsTo_17 rfl 3 rfl ?_
    refine mf_iald rfl dX11_leadsTo_18 ?_
    refine mf_callSi (stk := []) (wX11_behind l _ _) cl_X11_221 rfl (by decide) rfl (Nat.le_of_ble_eq_true rfl) rfl rfl dX11_leadsTo_19 (fun x2 s3 => ?_)
    refine mf_istore [(4, .int x2), (3, .int x1), (0, .ref 45), (1, .int p1), (2, .int p2)] dX11_leadsTo_22 (by decide) rfl ?_
    refine mf_aload_n dX11_leadsTo_24 rfl 2 rfl ?_
    refine mf_getR fl_X11_39 rfl rfl dX11_leadsTo_25 ?_
    refine mf_iload_n dX11_leadsTo_28 rfl 3 rfl ?_
    refine mf_iald rfl dX11_leadsTo_29 ?_
    refine mf_iload dX11_leadsTo_30 0 rfl ?_
    refine mf_icmp_ne 37 dX11_leadsTo_32 (by decide) ?_ ?_
    · refine mf_iconst 1 dX11_leadsTo_35 (by decide) ?_
      exact mf_zret (by decide) dX11_leadsTo_36
    · refine mf_aload_n dX11_leadsTo_37 rfl 2 rfl ?_
      refine mf_getR fl_X11_42 rfl rfl dX11_leadsTo_38 ?_
      refine mf_iload_n dX11_leadsTo_41 rfl 3 rfl ?_
      refine mf_iald rfl dX11_leadsTo_42 ?_
      refine mf_if_eq 82 dX11_leadsTo_43 (by decide) ?_ ?_
      · refine mf_iconst 0 dX11_leadsTo_82 (by decide) ?_
        exact mf_zret (by decide) dX11_leadsTo_83
      · refine mf_aload_n dX11_leadsTo_46 rfl 2 rfl ?_
        refine mf_getR fl_X11_42 rfl rfl dX11_leadsTo_47 ?_
        refine mf_iload_n dX11_leadsTo_50 rfl 3 rfl ?_
        refine mf_iald rfl dX11_leadsTo_51 ?_
        refine mf_iload dX11_leadsTo_52 0 rfl ?_
        refine mf_iconst 0 dX11_leadsTo_54 (by decide) ?_
        refine mf_callSi (stk := [.int (s3.1 55 (Int32.toNatClampNeg p1))]) (wX11_figure l _ _ _) cl_X11_135 rfl (by decide) rfl (Nat.le_of_ble_eq_true rfl) rfl rfl dX11_leadsTo_55 (fun x4 s5 => ?_)
        refine mf_icmp_ne 82 dX11_leadsTo_58 (by decide) ?_ ?_
        · refine mf_aload_n dX11_leadsTo_61 rfl 2 rfl ?_
          refine mf_aload_n dX11_leadsTo_62 rfl 2 rfl ?_
          refine mf_getR fl_X11_42 rfl rfl dX11_leadsTo_63 ?_
          refine mf_iload_n dX11_leadsTo_66 rfl 3 rfl ?_
          refine mf_iald rfl dX11_leadsTo_67 ?_
          refine mf_aload_n dX11_leadsTo_68 rfl 2 rfl ?_
          refine mf_getR fl_X11_39 rfl rfl dX11_leadsTo_69 ?_
          refine mf_iload_n dX11_leadsTo_72 rfl 3 rfl ?_
          refine mf_iald rfl dX11_leadsTo_73 ?_
          refine mf_iload dX11_leadsTo_74 0 rfl ?_
          refine mf_callVi (stk := []) (wX11_isBetter l _ _ _ _) cl_X11_163 rfl (by decide) rfl rfl rfl (Nat.le_of_ble_eq_true rfl) rfl rfl dX11_leadsTo_76 (fun x6 s7 => ?_)
          refine mf_if_ne 84 dX11_leadsTo_79 (by decide) ?_ ?_
          · refine mf_iconst 0 dX11_leadsTo_82 (by decide) ?_
            exact mf_zret (by decide) dX11_leadsTo_83
          · refine mf_aload_n dX11_leadsTo_84 rfl 2 rfl ?_
            refine mf_iload_n dX11_leadsTo_85 rfl 1 rfl ?_
            refine mf_aload_n dX11_leadsTo_86 rfl 2 rfl ?_
            refine mf_getR fl_X11_39 rfl rfl dX11_leadsTo_87 ?_
            refine mf_iload_n dX11_leadsTo_90 rfl 3 rfl ?_
            refine mf_iald rfl dX11_leadsTo_91 ?_
            refine mf_callVi (stk := []) (wX11_takes l _ _ _) cl_X11_154 rfl (by decide) rfl rfl rfl (Nat.le_of_ble_eq_true rfl) rfl rfl dX11_leadsTo_92 (fun x8 s9 => ?_)
            refine mf_if_eq 122 dX11_leadsTo_95 (by decide) ?_ ?_
            · refine mf_iconst 1 dX11_leadsTo_122 (by decide) ?_
              refine mf_goto 127 dX11_leadsTo_123 (by decide) ?_
              exact mf_zret (by decide) dX11_leadsTo_127
            · refine mf_aload_n dX11_leadsTo_98 rfl 2 rfl ?_
              refine mf_iload_n dX11_leadsTo_99 rfl 1 rfl ?_
              refine mf_aload_n dX11_leadsTo_100 rfl 2 rfl ?_
              refine mf_getR fl_X11_39 rfl rfl dX11_leadsTo_101 ?_
              refine mf_iload_n dX11_leadsTo_104 rfl 4 rfl ?_
              refine mf_iald rfl dX11_leadsTo_105 ?_
              refine mf_iload_n dX11_leadsTo_106 rfl 1 rfl ?_
              refine mf_aload_n dX11_leadsTo_107 rfl 2 rfl ?_
              refine mf_getR fl_X11_39 rfl rfl dX11_leadsTo_108 ?_
              refine mf_iload_n dX11_leadsTo_111 rfl 3 rfl ?_
              refine mf_iald rfl dX11_leadsTo_112 ?_
              refine mf_callSi (stk := [.int (s9.1 54 (Int32.toNatClampNeg p2)), .int x1, .ref 45]) (wX11_together l _ _ _) cl_X11_157 rfl (by decide) rfl (Nat.le_of_ble_eq_true rfl) rfl rfl dX11_leadsTo_113 (fun x10 s11 => ?_)
              refine mf_callVi (stk := []) (wX11_isBetter l _ _ _ _) cl_X11_163 rfl (by decide) rfl rfl rfl (Nat.le_of_ble_eq_true rfl) rfl rfl dX11_leadsTo_116 (fun x12 s13 => ?_)
              refine mf_if_eq 126 dX11_leadsTo_119 (by decide) ?_ ?_
              · refine mf_iconst 0 dX11_leadsTo_126 (by decide) ?_
                exact mf_zret (by decide) dX11_leadsTo_127
              · refine mf_iconst 1 dX11_leadsTo_122 (by decide) ?_
                refine mf_goto 127 dX11_leadsTo_123 (by decide) ?_
                exact mf_zret (by decide) dX11_leadsTo_127
        · refine mf_iconst 0 dX11_leadsTo_82 (by decide) ?_
          exact mf_zret (by decide) dX11_leadsTo_83
