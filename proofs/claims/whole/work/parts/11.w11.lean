set_option maxRecDepth 100000 in
set_option maxHeartbeats 4000000 in
theorem wlX11_laysLeads_6 (l : Launch) (k26 : mx_G → Option (Unit × mx_G)) (hk26 : ∀ (sz : mx_G), mf_X ev l RX11 cX11_laysLeads 3 none "laysLeads" 5 (k26 sz) 26 [(0, .ref 45)] [] sz) : ∀ (n : Nat) (a1 : Int32) (s0 : mx_G), mf_X ev l RX11 cX11_laysLeads 3 none "laysLeads" 5 (lX11_laysLeads_6  k26 n a1 s0) 6 [(0, .ref 45), (1, .int a1)] [] s0 := by
  intro n
  induction n with
  | zero => intro a1 s0; exact mf_none
  | succ n ih6 =>
    intro a1 s0
    rw [lX11_laysLeads_6]
    refine mf_iload_n dX11_laysLeads_6 rfl 1 rfl ?_
    refine mf_sipush 1956 dX11_laysLeads_7 (by decide) ?_
    refine mf_icmp_ge 26 dX11_laysLeads_10 (by decide) ?_ ?_
    · exact mf_sub [0] rfl (hk26 _)
    · refine mf_aload_n dX11_laysLeads_13 rfl 0 rfl ?_
      refine mf_getR fl_X11_57 rfl rfl dX11_laysLeads_14 ?_
      refine mf_iload_n dX11_laysLeads_17 rfl 1 rfl ?_
      refine mf_lconst 0 dX11_laysLeads_18 (by decide) ?_
      refine mf_last rfl dX11_laysLeads_19 (fun s2 => ?_)
      refine mf_iinc 1 [(1, .int (a1 + 1)), (0, .ref 45)] dX11_laysLeads_20 1 rfl (by decide) (by decide) rfl ?_
      refine mf_goto 6 dX11_laysLeads_23 (by decide) ?_
      exact mf_sub [1, 0] rfl (ih6 _ _)
set_option maxRecDepth 100000 in
set_option maxHeartbeats 4000000 in
theorem wlX11_laysLeads_38 (l : Launch) (a1 : Int32) (k84 : mx_G → Option (Unit × mx_G)) (hk84 : ∀ (sz : mx_G), mf_X ev l RX11 cX11_laysLeads 3 none "laysLeads" 5 (k84 sz) 84 [(0, .ref 45), (1, .int a1)] [] sz) : ∀ (n : Nat) (a2 : Int32) (s0 : mx_G), mf_X ev l RX11 cX11_laysLeads 3 none "laysLeads" 5 (lX11_laysLeads_38 a1 k84 n a2 s0) 38 [(0, .ref 45), (1, .int a1), (2, .int a2)] [] s0 := by
  intro n
  induction n with
  | zero => intro a2 s0; exact mf_none
  | succ n ih38 =>
    intro a2 s0
    rw [lX11_laysLeads_38]
    refine mf_iload_n dX11_laysLeads_38 rfl 2 rfl ?_
    refine mf_aload_n dX11_laysLeads_39 rfl 0 rfl ?_
    refine mf_getI fl_X11_151 rfl rfl dX11_laysLeads_40 ?_
    refine mf_icmp_ge 84 dX11_laysLeads_43 (by decide) ?_ ?_
    · exact mf_sub [0, 1] rfl (hk84 _)
    · refine mf_aload_n dX11_laysLeads_46 rfl 0 rfl ?_
      refine mf_iload_n dX11_laysLeads_47 rfl 1 rfl ?_
      refine mf_iload_n dX11_laysLeads_48 rfl 2 rfl ?_
      refine mf_callVi (stk := []) (wX11_leadsTo l _ _ _) cl_X11_224 rfl (by decide) rfl rfl rfl (Nat.le_of_ble_eq_true rfl) rfl rfl dX11_laysLeads_49 (fun x4 s5 => ?_)
      refine mf_if_eq 78 dX11_laysLeads_52 (by decide) ?_ ?_
      · refine mf_iinc 1 [(2, .int (a2 + 1)), (0, .ref 45), (1, .int a1)] dX11_laysLeads_78 2 rfl (by decide) (by decide) rfl ?_
        refine mf_goto 38 dX11_laysLeads_81 (by decide) ?_
        exact mf_sub [1, 2, 0] rfl (ih38 _ _)
      · refine mf_aload_n dX11_laysLeads_55 rfl 0 rfl ?_
        refine mf_getR fl_X11_57 rfl rfl dX11_laysLeads_56 ?_
        refine mf_bipush 6 dX11_laysLeads_59 (by decide) ?_
        refine mf_iload_n dX11_laysLeads_61 rfl 1 rfl ?_
        refine mf_imul dX11_laysLeads_62 ?_
        refine mf_iload_n dX11_laysLeads_63 rfl 2 rfl ?_
        refine mf_bipush 64 dX11_laysLeads_64 (by decide) ?_
        refine mf_idiv (by decide) dX11_laysLeads_66 ?_
        refine mf_iadd dX11_laysLeads_67 ?_
        refine mf_dup2 rfl rfl dX11_laysLeads_68 ?_
        refine mf_lald rfl dX11_laysLeads_69 ?_
        refine mf_lconst 1 dX11_laysLeads_70 (by decide) ?_
        refine mf_iload_n dX11_laysLeads_71 rfl 2 rfl ?_
        refine mf_bipush 64 dX11_laysLeads_72 (by decide) ?_
        refine mf_irem (by decide) dX11_laysLeads_74 ?_
        refine mf_lshl dX11_laysLeads_75 ?_
        refine mf_lor dX11_laysLeads_76 ?_
        refine mf_last rfl dX11_laysLeads_77 (fun s6 => ?_)
        refine mf_iinc 1 [(2, .int (a2 + 1)), (0, .ref 45), (1, .int a1)] dX11_laysLeads_78 2 rfl (by decide) (by decide) rfl ?_
        refine mf_goto 38 dX11_laysLeads_81 (by decide) ?_
        exact mf_sub [1, 2, 0] rfl (ih38 _ _)
set_option maxRecDepth 100000 in
set_option maxHeartbeats 4000000 in
theorem wlX11_laysLeads_28 (l : Launch)    : ∀ (n : Nat) (a1 : Int32) (s0 : mx_G), mf_X ev l RX11 cX11_laysLeads 3 none "laysLeads" 5 (lX11_laysLeads_28   n a1 s0) 28 [(0, .ref 45), (1, .int a1)] [] s0 := by
  intro n
  induction n with
  | zero => intro a1 s0; exact mf_none
  | succ n ih28 =>
    intro a1 s0
    rw [lX11_laysLeads_28]
    refine mf_iload_n dX11_laysLeads_28 rfl 1 rfl ?_
    refine mf_aload_n dX11_laysLeads_29 rfl 0 rfl ?_
    refine mf_getI fl_X11_151 rfl rfl dX11_laysLeads_30 ?_
    refine mf_icmp_ge 90 dX11_laysLeads_33 (by decide) ?_ ?_
    · exact mf_vret dX11_laysLeads_90
    · refine mf_iconst 0 dX11_laysLeads_36 (by decide) ?_
      refine mf_istore_n [(2, .int 0), (0, .ref 45), (1, .int a1)] dX11_laysLeads_37 rfl (by decide) rfl ?_
      refine mf_sub [1, 2, 0] rfl (wlX11_laysLeads_38 l _ _ (fun s7 => ?_) FU _ _)
      refine mf_iinc 1 [(1, .int (a1 + 1)), (0, .ref 45)] dX11_laysLeads_84 1 rfl (by decide) (by decide) rfl ?_
      refine mf_goto 28 dX11_laysLeads_87 (by decide) ?_
      exact mf_sub [1, 0] rfl (ih28 _ _)
set_option maxRecDepth 100000 in
set_option maxHeartbeats 4000000 in
theorem wX11_laysLeads (l : Launch) (s : mx_G) : mf_M ev l yX11_laysLeads cX11_laysLeads 3 none 5 [.ref 45] s (fX11_laysLeads  s) := by
  refine mf_intro rfl (Nat.le_of_ble_eq_true rfl) rfl rfl ?_
  refine mf_sub (loc' := [(0, .ref 45)]) [0] rfl ?_
  unfold fX11_laysLeads
  refine mf_aload_n dX11_laysLeads_0 rfl 0 rfl ?_
  refine mf_callVv (stk := []) (wX11_laysWays l _) cl_X11_160 rfl (by decide) rfl rfl rfl (Nat.le_of_ble_eq_true rfl) rfl rfl dX11_laysLeads_1 (fun us1 s1 => ?_)
  refine mf_iconst 0 dX11_laysLeads_4 (by decide) ?_
  refine mf_istore_n [(1, .int 0), (0, .ref 45)] dX11_laysLeads_5 rfl (by decide) rfl ?_
  refine mf_sub [1, 0] rfl (wlX11_laysLeads_6 l _ (fun s3 => ?_) FU _ _)
  refine mf_iconst 0 dX11_laysLeads_26 (by decide) ?_
  refine mf_istore_n [(1, .int 0), (0, .ref 45)] dX11_laysLeads_27 rfl (by decide) rfl ?_
  exact mf_sub [1, 0] rfl (wlX11_laysLeads_28 l FU _ _)
set_option maxRecDepth 100000 in
set_option maxHeartbeats 4000000 in
theorem wX11_isIn (l : Launch) (p1 : Int32) (s : mx_G) : mf_M ei l yX11_isIn cX11_isIn 2 (some .boolean) 0 [.ref 61, .int p1] s (fX11_isIn p1 s) := by
  refine mf_intro rfl (Nat.le_of_ble_eq_true rfl) rfl rfl ?_
  refine mf_sub (loc' := [(0, .ref 61), (1, .int p1)]) [0, 1] rfl ?_
  unfold fX11_isIn
  refine mf_aload_n dX11_isIn_0 rfl 0 rfl ?_
  refine mf_iload_n dX11_isIn_1 rfl 1 rfl ?_
  refine mf_bipush 64 dX11_isIn_2 (by decide) ?_
  refine mf_idiv (by decide) dX11_isIn_4 ?_
  refine mf_lald rfl dX11_isIn_5 ?_
  refine mf_iload_n dX11_isIn_6 rfl 1 rfl ?_
  refine mf_bipush 64 dX11_isIn_7 (by decide) ?_
  refine mf_irem (by decide) dX11_isIn_9 ?_
  refine mf_lshr dX11_isIn_10 ?_
  refine mf_lconst 1 dX11_isIn_11 (by decide) ?_
  refine mf_land dX11_isIn_12 ?_
  refine mf_lconst 1 dX11_isIn_13 (by decide) ?_
  refine mf_lcmp dX11_isIn_14 ?_
  refine mf_if_ne 22 dX11_isIn_15 (by decide) ?_ ?_
  · refine mf_iconst 1 dX11_isIn_18 (by decide) ?_
    refine mf_goto 23 dX11_isIn_19 (by decide) ?_
    exact mf_zret (by decide) dX11_isIn_23
  · refine mf_iconst 0 dX11_isIn_22 (by decide) ?_
    exact mf_zret (by decide) dX11_isIn_23
set_option maxRecDepth 100000 in
set_option maxHeartbeats 4000000 in
theorem wlX11_movesOn_4 (l : Launch) (a1 : Int32) (k23 : mx_G → Option (Int32 × mx_G)) (hk23 : ∀ (sz : mx_G), mf_X ei l RX11 cX11_movesOn 4 (some .boolean) "movesOn" 1 (k23 sz) 23 [(0, .ref 45), (1, .int a1)] [] sz) : ∀ (n : Nat) (a2 : Int32) (s0 : mx_G), mf_X ei l RX11 cX11_movesOn 4 (some .boolean) "movesOn" 1 (lX11_movesOn_4 a1 k23 n a2 s0) 4 [(0, .ref 45), (1, .int a1), (2, .int a2)] [] s0 := by
  intro n
  induction n with
  | zero => intro a2 s0; exact mf_none
  | succ n ih4 =>
    intro a2 s0
    rw [lX11_movesOn_4]
    refine mf_iload_n dX11_movesOn_4 rfl 2 rfl ?_
    refine mf_bipush 6 dX11_movesOn_5 (by decide) ?_
    refine mf_icmp_ge 23 dX11_movesOn_7 (by decide) ?_ ?_
    · exact mf_sub [0, 1] rfl (hk23 _)
    · refine mf_aload_n dX11_movesOn_10 rfl 0 rfl ?_
      refine mf_getR fl_X11_66 rfl rfl dX11_movesOn_11 ?_
      refine mf_iload_n dX11_movesOn_14 rfl 2 rfl ?_
      refine mf_lconst 0 dX11_movesOn_15 (by decide) ?_
      refine mf_last rfl dX11_movesOn_16 (fun s1 => ?_)
      refine mf_iinc 1 [(2, .int (a2 + 1)), (0, .ref 45), (1, .int a1)] dX11_movesOn_17 2 rfl (by decide) (by decide) rfl ?_
      refine mf_goto 4 dX11_movesOn_20 (by decide) ?_
      exact mf_sub [1, 2, 0] rfl (ih4 _ _)
set_option maxRecDepth 100000 in
set_option maxHeartbeats 4000000 in
theorem wlX11_movesOn_35 (l : Launch) (a1 : Int32) (a2 : Int32) (k78 : mx_G → Option (Int32 × mx_G)) (hk78 : ∀ (sz : mx_G), mf_X ei l RX11 cX11_movesOn 4 (some .boolean) "movesOn" 1 (k78 sz) 78 [(0, .ref 45), (1, .int a1), (2, .int a2)] [] sz) : ∀ (n : Nat) (a3 : Int32) (s0 : mx_G), mf_X ei l RX11 cX11_movesOn 4 (some .boolean) "movesOn" 1 (lX11_movesOn_35 a1 a2 k78 n a3 s0) 35 [(0, .ref 45), (1, .int a1), (2, .int a2), (3, .int a3)] [] s0 := by
  intro n
  induction n with
  | zero => intro a3 s0; exact mf_none
  | succ n ih35 =>
    intro a3 s0
    rw [lX11_movesOn_35]
    refine mf_iload_n dX11_movesOn_35 rfl 3 rfl ?_
    refine mf_bipush 6 dX11_movesOn_36 (by decide) ?_
    refine mf_icmp_ge 78 dX11_movesOn_38 (by decide) ?_ ?_
    · exact mf_sub [0, 1, 2] rfl (hk78 _)
    · refine mf_aload_n dX11_movesOn_41 rfl 0 rfl ?_
      refine mf_getR fl_X11_60 rfl rfl dX11_movesOn_42 ?_
      refine mf_iload_n dX11_movesOn_45 rfl 2 rfl ?_
      refine mf_callSi (stk := []) (wX11_isIn l _ _) cl_X11_227 rfl (by decide) rfl (Nat.le_of_ble_eq_true rfl) rfl rfl dX11_movesOn_46 (fun x3 s4 => ?_)
      refine mf_if_eq 78 dX11_movesOn_49 (by decide) ?_ ?_
      · exact mf_sub [0, 1, 2] rfl (hk78 _)
      · refine mf_aload_n dX11_movesOn_52 rfl 0 rfl ?_
        refine mf_getR fl_X11_66 rfl rfl dX11_movesOn_53 ?_
        refine mf_iload_n dX11_movesOn_56 rfl 3 rfl ?_
        refine mf_dup2 rfl rfl dX11_movesOn_57 ?_
        refine mf_lald rfl dX11_movesOn_58 ?_
        refine mf_aload_n dX11_movesOn_59 rfl 0 rfl ?_
        refine mf_getR fl_X11_57 rfl rfl dX11_movesOn_60 ?_
        refine mf_bipush 6 dX11_movesOn_63 (by decide) ?_
        refine mf_iload_n dX11_movesOn_65 rfl 2 rfl ?_
        refine mf_imul dX11_movesOn_66 ?_
        refine mf_iload_n dX11_movesOn_67 rfl 3 rfl ?_
        refine mf_iadd dX11_movesOn_68 ?_
        refine mf_lald rfl dX11_movesOn_69 ?_
        refine mf_lor dX11_movesOn_70 ?_
        refine mf_last rfl dX11_movesOn_71 (fun s5 => ?_)
        refine mf_iinc 1 [(3, .int (a3 + 1)), (0, .ref 45), (1, .int a1), (2, .int a2)] dX11_movesOn_72 3 rfl (by decide) (by decide) rfl ?_
        refine mf_goto 35 dX11_movesOn_75 (by decide) ?_
        exact mf_sub [1, 2, 3, 0] rfl (ih35 _ _)
set_option maxRecDepth 100000 in
set_option maxHeartbeats 4000000 in
theorem wlX11_movesOn_25 (l : Launch) (a1 : Int32) (k84 : mx_G → Option (Int32 × mx_G)) (hk84 : ∀ (sz : mx_G), mf_X ei l RX11 cX11_movesOn 4 (some .boolean) "movesOn" 1 (k84 sz) 84 [(0, .ref 45), (1, .int a1)] [] sz) : ∀ (n : Nat) (a2 : Int32) (s0 : mx_G), mf_X ei l RX11 cX11_movesOn 4 (some .boolean) "movesOn" 1 (lX11_movesOn_25 a1 k84 n a2 s0) 25 [(0, .ref 45), (1, .int a1), (2, .int a2)] [] s0 := by
  intro n
  induction n with
  | zero => intro a2 s0; exact mf_none
  | succ n ih25 =>
    intro a2 s0
    rw [lX11_movesOn_25]
    refine mf_iload_n dX11_movesOn_25 rfl 2 rfl ?_
    refine mf_aload_n dX11_movesOn_26 rfl 0 rfl ?_
    refine mf_getI fl_X11_151 rfl rfl dX11_movesOn_27 ?_
    refine mf_icmp_ge 84 dX11_movesOn_30 (by decide) ?_ ?_
    · exact mf_sub [0, 1] rfl (hk84 _)
    · refine mf_iconst 0 dX11_movesOn_33 (by decide) ?_
      refine mf_istore_n [(3, .int 0), (0, .ref 45), (1, .int a1), (2, .int a2)] dX11_movesOn_34 rfl (by decide) rfl ?_
      refine mf_sub [1, 2, 3, 0] rfl (wlX11_movesOn_35 l _ _ _ (fun s6 => ?_) FU _ _)
      refine mf_iinc 1 [(2, .int (a2 + 1)), (0, .ref 45), (1, .int a1)] dX11_movesOn_78 2 rfl (by decide) (by decide) rfl ?_
      refine mf_goto 25 dX11_movesOn_81 (by decide) ?_
      exact mf_sub [1, 2, 0] rfl (ih25 _ _)
set_option maxRecDepth 100000 in
set_option maxHeartbeats 4000000 in
theorem wlX11_movesOn_86 (l : Launch)    : ∀ (n : Nat) (a1 : Int32) (a2 : Int32) (s0 : mx_G), mf_X ei l RX11 cX11_movesOn 4 (some .boolean) "movesOn" 1 (lX11_movesOn_86   n a1 a2 s0) 86 [(0, .ref 45), (1, .int a1), (2, .int a2)] [] s0 := by
  intro n
  induction n with
  | zero => intro a1 a2 s0; exact mf_none
  | succ n ih86 =>
    intro a1 a2 s0
    rw [lX11_movesOn_86]
    refine mf_iload_n dX11_movesOn_86 rfl 2 rfl ?_
    refine mf_bipush 6 dX11_movesOn_87 (by decide) ?_
    refine mf_icmp_ge 157 dX11_movesOn_89 (by decide) ?_ ?_
    · refine mf_iload_n dX11_movesOn_157 rfl 1 rfl ?_
      exact mf_zretG dX11_movesOn_158
    · refine mf_aload_n dX11_movesOn_92 rfl 0 rfl ?_
      refine mf_getR fl_X11_60 rfl rfl dX11_movesOn_93 ?_
      refine mf_iload_n dX11_movesOn_96 rfl 2 rfl ?_
      refine mf_aload_n dX11_movesOn_97 rfl 0 rfl ?_
      refine mf_getR fl_X11_66 rfl rfl dX11_movesOn_98 ?_
      refine mf_iload_n dX11_movesOn_101 rfl 2 rfl ?_
      refine mf_lald rfl dX11_movesOn_102 ?_
      refine mf_aload_n dX11_movesOn_103 rfl 0 rfl ?_
      refine mf_getR fl_X11_63 rfl rfl dX11_movesOn_104 ?_
      refine mf_iload_n dX11_movesOn_107 rfl 2 rfl ?_
      refine mf_lald rfl dX11_movesOn_108 ?_
      refine mf_ldc2 kl_X11_231 dX11_movesOn_109 ?_
      refine mf_lxor dX11_movesOn_112 ?_
      refine mf_land dX11_movesOn_113 ?_
      refine mf_last rfl dX11_movesOn_114 (fun s8 => ?_)
      refine mf_aload_n dX11_movesOn_115 rfl 0 rfl ?_
      refine mf_getR fl_X11_63 rfl rfl dX11_movesOn_116 ?_
      refine mf_iload_n dX11_movesOn_119 rfl 2 rfl ?_
      refine mf_dup2 rfl rfl dX11_movesOn_120 ?_
      refine mf_lald rfl dX11_movesOn_121 ?_
      refine mf_aload_n dX11_movesOn_122 rfl 0 rfl ?_
      refine mf_getR fl_X11_66 rfl rfl dX11_movesOn_123 ?_
      refine mf_iload_n dX11_movesOn_126 rfl 2 rfl ?_
      refine mf_lald rfl dX11_movesOn_127 ?_
      refine mf_lor dX11_movesOn_128 ?_
      refine mf_last rfl dX11_movesOn_129 (fun s9 => ?_)
      refine mf_iload_n dX11_movesOn_130 rfl 1 rfl ?_
      refine mf_if_ne 145 dX11_movesOn_131 (by decide) ?_ ?_
      · refine mf_aload_n dX11_movesOn_134 rfl 0 rfl ?_
        refine mf_getR fl_X11_60 rfl rfl dX11_movesOn_135 ?_
        refine mf_iload_n dX11_movesOn_138 rfl 2 rfl ?_
        refine mf_lald rfl dX11_movesOn_139 ?_
        refine mf_lconst 0 dX11_movesOn_140 (by decide) ?_
        refine mf_lcmp dX11_movesOn_141 ?_
        refine mf_if_eq 149 dX11_movesOn_142 (by decide) ?_ ?_
        · refine mf_iconst 0 dX11_movesOn_149 (by decide) ?_
          refine mf_istore_n [(1, .int 0), (0, .ref 45), (2, .int a2)] dX11_movesOn_150 rfl (by decide) rfl ?_
          refine mf_iinc 1 [(2, .int (a2 + 1)), (1, .int 0), (0, .ref 45)] dX11_movesOn_151 2 rfl (by decide) (by decide) rfl ?_
          refine mf_goto 86 dX11_movesOn_154 (by decide) ?_
          exact mf_sub [2, 1, 0] rfl (ih86 _ _ _)
        · refine mf_iconst 1 dX11_movesOn_145 (by decide) ?_
          refine mf_goto 150 dX11_movesOn_146 (by decide) ?_
          refine mf_istore_n [(1, .int 1), (0, .ref 45), (2, .int a2)] dX11_movesOn_150 rfl (by decide) rfl ?_
          refine mf_iinc 1 [(2, .int (a2 + 1)), (1, .int 1), (0, .ref 45)] dX11_movesOn_151 2 rfl (by decide) (by decide) rfl ?_
          refine mf_goto 86 dX11_movesOn_154 (by decide) ?_
          exact mf_sub [2, 1, 0] rfl (ih86 _ _ _)
      · refine mf_iconst 1 dX11_movesOn_145 (by decide) ?_
        refine mf_goto 150 dX11_movesOn_146 (by decide) ?_
        refine mf_istore_n [(1, .int 1), (0, .ref 45), (2, .int a2)] dX11_movesOn_150 rfl (by decide) rfl ?_
        refine mf_iinc 1 [(2, .int (a2 + 1)), (1, .int 1), (0, .ref 45)] dX11_movesOn_151 2 rfl (by decide) (by decide) rfl ?_
        refine mf_goto 86 dX11_movesOn_154 (by decide) ?_
        exact mf_sub [2, 1, 0] rfl (ih86 _ _ _)
set_option maxRecDepth 100000 in
set_option maxHeartbeats 4000000 in
theorem wX11_movesOn (l : Launch) (s : mx_G) : mf_M ei l yX11_movesOn cX11_movesOn 4 (some .boolean) 1 [.ref 45] s (fX11_movesOn  s) := by
  refine mf_intro rfl (Nat.le_of_ble_eq_true rfl) rfl rfl ?_
  refine mf_sub (loc' := [(0, .ref 45)]) [0] rfl ?_
  unfold fX11_movesOn
  refine mf_iconst 0 dX11_movesOn_0 (by decide) ?_
  refine mf_istore_n [(1, .int 0), (0, .ref 45)] dX11_movesOn_1 rfl (by decide) rfl ?_
  refine mf_iconst 0 dX11_movesOn_2 (by decide) ?_
  refine mf_istore_n [(2, .int 0), (1, .int 0), (0, .ref 45)] dX11_movesOn_3 rfl (by decide) rfl ?_
  refine mf_sub [2, 1, 0] rfl (wlX11_movesOn_4 l _ _ (fun s2 => ?_) FU _ _)
  refine mf_iconst 0 dX11_movesOn_23 (by decide) ?_
  refine mf_istore_n [(2, .int 0), (0, .ref 45), (1, .int 0)] dX11_movesOn_24 rfl (by decide) rfl ?_
  refine mf_sub [1, 2, 0] rfl (wlX11_movesOn_25 l _ _ (fun s7 => ?_) FU _ _)
  refine mf_iconst 0 dX11_movesOn_84 (by decide) ?_
  refine mf_istore_n [(2, .int 0), (0, .ref 45), (1, .int 0)] dX11_movesOn_85 rfl (by decide) rfl ?_
  exact mf_sub [1, 2, 0] rfl (wlX11_movesOn_86 l FU _ _ _)
set_option maxRecDepth 100000 in
set_option maxHeartbeats 4000000 in
theorem wX11_isIn_1 (l : Launch) (p1 : Int32) (s : mx_G) : mf_M ei l yX11_isIn cX11_isIn 2 (some .boolean) 0 [.ref 62, .int p1] s (fX11_isIn_1 p1 s) := by
  refine mf_intro rfl (Nat.le_of_ble_eq_true rfl) rfl rfl ?_
  refine mf_sub (loc' := [(0, .ref 62), (1, .int p1)]) [0, 1] rfl ?_
  unfold fX11_isIn_1
  refine mf_aload_n dX11_isIn_0 rfl 0 rfl ?_
  refine mf_iload_n dX11_isIn_1 rfl 1 rfl ?_
  refine mf_bipush 64 dX11_isIn_2 (by decide) ?_
  refine mf_idiv (by decide) dX11_isIn_4 ?_
  refine mf_lald rfl dX11_isIn_5 ?_
  refine mf_iload_n dX11_isIn_6 rfl 1 rfl ?_
  refine mf_bipush 64 dX11_isIn_7 (by decide) ?_
  refine mf_irem (by decide) dX11_isIn_9 ?_
  refine mf_lshr dX11_isIn_10 ?_
  refine mf_lconst 1 dX11_isIn_11 (by decide) ?_
  refine mf_land dX11_isIn_12 ?_
  refine mf_lconst 1 dX11_isIn_13 (by decide) ?_
  refine mf_lcmp dX11_isIn_14 ?_
  refine mf_if_ne 22 dX11_isIn_15 (by decide) ?_ ?_
  · refine mf_iconst 1 dX11_isIn_18 (by decide) ?_
    refine mf_goto 23 dX11_isIn_19 (by decide) ?_
    exact mf_zret (by decide) dX11_isIn_23
  · refine mf_iconst 0 dX11_isIn_22 (by decide) ?_
    exact mf_zret (by decide) dX11_isIn_23
set_option maxRecDepth 100000 in
set_option maxHeartbeats 4000000 in
theorem wlX11_roundOf_2 (l : Launch) (a1 : Int32) (k28 : mx_G → Option (Int32 × mx_G)) (hk28 : ∀ (sz : mx_G), mf_X ei l RX11 cX11_roundOf 4 (some .int) "roundOf" 2 (k28 sz) 28 [(0, .ref 45), (1, .int a1)] [] sz) : ∀ (n : Nat) (a2 : Int32) (s0 : mx_G), mf_X ei l RX11 cX11_roundOf 4 (some .int) "roundOf" 2 (lX11_roundOf_2 a1 k28 n a2 s0) 2 [(0, .ref 45), (1, .int a1), (2, .int a2)] [] s0 := by
  intro n
  induction n with
  | zero => intro a2 s0; exact mf_none
  | succ n ih2 =>
    intro a2 s0
    rw [lX11_roundOf_2]
    refine mf_iload_n dX11_roundOf_2 rfl 2 rfl ?_
    refine mf_bipush 6 dX11_roundOf_3 (by decide) ?_
    refine mf_icmp_ge 28 dX11_roundOf_5 (by decide) ?_ ?_
    · exact mf_sub [0, 1] rfl (hk28 _)
    · refine mf_aload_n dX11_roundOf_8 rfl 0 rfl ?_
      refine mf_getR fl_X11_60 rfl rfl dX11_roundOf_9 ?_
      refine mf_iload_n dX11_roundOf_12 rfl 2 rfl ?_
      refine mf_lconst 0 dX11_roundOf_13 (by decide) ?_
      refine mf_last rfl dX11_roundOf_14 (fun s1 => ?_)
      refine mf_aload_n dX11_roundOf_15 rfl 0 rfl ?_
      refine mf_getR fl_X11_63 rfl rfl dX11_roundOf_16 ?_
      refine mf_iload_n dX11_roundOf_19 rfl 2 rfl ?_
      refine mf_lconst 0 dX11_roundOf_20 (by decide) ?_
      refine mf_last rfl dX11_roundOf_21 (fun s2 => ?_)
      refine mf_iinc 1 [(2, .int (a2 + 1)), (0, .ref 45), (1, .int a1)] dX11_roundOf_22 2 rfl (by decide) (by decide) rfl ?_
      refine mf_goto 2 dX11_roundOf_25 (by decide) ?_
      exact mf_sub [1, 2, 0] rfl (ih2 _ _)
set_option maxRecDepth 100000 in
set_option maxHeartbeats 4000000 in
theorem wlX11_roundOf_47 (l : Launch) (a1 : Int32)   : ∀ (n : Nat) (a2 : Int32) (a3 : Int32) (s0 : mx_G), mf_X ei l RX11 cX11_roundOf 4 (some .int) "roundOf" 2 (lX11_roundOf_47 a1  n a2 a3 s0) 47 [(0, .ref 45), (1, .int a1), (2, .int a2), (3, .int a3)] [] s0 := by
  intro n
  induction n with
  | zero => intro a2 a3 s0; exact mf_none
  | succ n ih47 =>
    intro a2 a3 s0
    rw [lX11_roundOf_47]
    refine mf_iload_n dX11_roundOf_47 rfl 3 rfl ?_
    refine mf_if_eq 72 dX11_roundOf_48 (by decide) ?_ ?_
    · refine mf_bipush (-4) dX11_roundOf_72 (by decide) ?_
      exact mf_iret dX11_roundOf_74
    · refine mf_aload_n dX11_roundOf_51 rfl 0 rfl ?_
      refine mf_callVi (stk := []) (wX11_movesOn l _) cl_X11_233 rfl (by decide) rfl rfl rfl (Nat.le_of_ble_eq_true rfl) rfl rfl dX11_roundOf_52 (fun x5 s6 => ?_)
      refine mf_istore_n [(3, .int x5), (0, .ref 45), (1, .int a1), (2, .int a2)] dX11_roundOf_55 rfl (by decide) rfl ?_
      refine mf_iinc 1 [(2, .int (a2 + 1)), (3, .int x5), (0, .ref 45), (1, .int a1)] dX11_roundOf_56 3 rfl (by decide) (by decide) rfl ?_
      refine mf_aload_n dX11_roundOf_59 rfl 2 rfl ?_
      refine mf_getR fl_X11_63 rfl rfl dX11_roundOf_60 ?_
      refine mf_iload_n dX11_roundOf_63 rfl 3 rfl ?_
      refine mf_callSi (stk := []) (wX11_isIn_1 l _ _) cl_X11_227 rfl (by decide) rfl (Nat.le_of_ble_eq_true rfl) rfl rfl dX11_roundOf_64 (fun x7 s8 => ?_)
      refine mf_if_eq 47 dX11_roundOf_67 (by decide) ?_ ?_
      · exact mf_sub [2, 3, 0, 1] rfl (ih47 _ _ _)
      · refine mf_iload_n dX11_roundOf_70 rfl 0 rfl ?_
        exact mf_iret dX11_roundOf_71
set_option maxRecDepth 100000 in
set_option maxHeartbeats 4000000 in
theorem wX11_roundOf (l : Launch) (p1 : Int32) (s : mx_G) : mf_M ei l yX11_roundOf cX11_roundOf 4 (some .int) 2 [.ref 45, .int p1] s (fX11_roundOf p1 s) := by
  refine mf_intro rfl (Nat.le_of_ble_eq_true rfl) rfl rfl ?_
  refine mf_sub (loc' := [(0, .ref 45), (1, .int p1)]) [0, 1] rfl ?_
  unfold fX11_roundOf
  refine mf_iconst 0 dX11_roundOf_0 (by decide) ?_
  refine mf_istore_n [(2, .int 0), (0, .ref 45), (1, .int p1)] dX11_roundOf_1 rfl (by decide) rfl ?_
  refine mf_sub [1, 2, 0] rfl (wlX11_roundOf_2 l _ _ (fun s3 => ?_) FU _ _)
  refine mf_aload_n dX11_roundOf_28 rfl 0 rfl ?_
  refine mf_getR fl_X11_60 rfl rfl dX11_roundOf_29 ?_
  refine mf_iload_n dX11_roundOf_32 rfl 1 rfl ?_
  refine mf_bipush 64 dX11_roundOf_33 (by decide) ?_
  refine mf_idiv (by decide) dX11_roundOf_35 ?_
  refine mf_lconst 1 dX11_roundOf_36 (by decide) ?_
  refine mf_iload_n dX11_roundOf_37 rfl 1 rfl ?_
  refine mf_bipush 64 dX11_roundOf_38 (by decide) ?_
  refine mf_irem (by decide) dX11_roundOf_40 ?_
  refine mf_lshl dX11_roundOf_41 ?_
  refine mf_last rfl dX11_roundOf_42 (fun s4 => ?_)
  refine mf_iconst 0 dX11_roundOf_43 (by decide) ?_
  refine mf_istore_n [(2, .int 0), (0, .ref 45), (1, .int p1)] dX11_roundOf_44 rfl (by decide) rfl ?_
  refine mf_iconst 1 dX11_roundOf_45 (by decide) ?_
  refine mf_istore_n [(3, .int 1), (2, .int 0), (0, .ref 45), (1, .int p1)] dX11_roundOf_46 rfl (by decide) rfl ?_
  exact mf_sub [2, 3, 1, 0] rfl (wlX11_roundOf_47 l _ FU _ _ _)
set_option maxRecDepth 100000 in
set_option maxHeartbeats 4000000 in
theorem wlX11_ring_30 (l : Launch) (a1 : Int32) (k109 : Int32 → Int32 → Int32 → mx_G → Option (Int32 × mx_G)) (hk109 : ∀ (b2 : Int32) (b3 : Int32) (b4 : Int32) (sz : mx_G), mf_X ei l RX11 cX11_ring 7 (some .int) "ring" 6 (k109 b2 b3 b4 sz) 109 [(1, .int a1), (2, .int b2), (3, .int b3), (4, .int b4)] [] sz) : ∀ (n : Nat) (a2 : Int32) (a3 : Int32) (a4 : Int32) (a5 : Int32) (s0 : mx_G), mf_X ei l RX11 cX11_ring 7 (some .int) "ring" 6 (lX11_ring_30 a1 k109 n a2 a3 a4 a5 s0) 30 [(0, .ref 45), (1, .int a1), (2, .int a2), (3, .int a3), (4, .int a4), (5, .int a5)] [] s0 := by
  intro n
  induction n with
  | zero => intro a2 a3 a4 a5 s0; exact mf_none
  | succ n ih30 =>
    intro a2 a3 a4 a5 s0
    rw [lX11_ring_30]
    refine mf_iload dX11_ring_30 5 rfl ?_
    refine mf_aload_n dX11_ring_32 rfl 0 rfl ?_
    refine mf_getI fl_X11_151 rfl rfl dX11_ring_33 ?_
    refine mf_icmp_ge 109 dX11_ring_36 (by decide) ?_ ?_
    · exact mf_sub [1, 2, 3, 4] rfl (hk109 _ _ _ _)
    · refine mf_aload_n dX11_ring_39 rfl 0 rfl ?_
      refine mf_iload dX11_ring_40 5 rfl ?_
      refine mf_callVi (stk := []) (wX11_roundOf l _ _) cl_X11_239 rfl (by decide) rfl rfl rfl (Nat.le_of_ble_eq_true rfl) rfl rfl dX11_ring_42 (fun x4 s5 => ?_)
      refine mf_istore [(6, .int x4), (0, .ref 45), (1, .int a1), (2, .int a2), (3, .int a3), (4, .int a4), (5, .int a5)] dX11_ring_45 (by decide) rfl ?_
      refine mf_iload dX11_ring_47 0 rfl ?_
      refine mf_if_le 103 dX11_ring_49 (by decide) ?_ ?_
      · refine mf_iinc 1 [(5, .int (a5 + 1)), (6, .int x4), (0, .ref 45), (1, .int a1), (2, .int a2), (3, .int a3), (4, .int a4)] dX11_ring_103 6 rfl (by decide) (by decide) rfl ?_
        refine mf_goto 30 dX11_ring_106 (by decide) ?_
        exact mf_sub [2, 3, 4, 5, 6, 0] rfl (ih30 _ _ _ _ _)
      · refine mf_iinc 1 [(3, .int (a3 + 1)), (6, .int x4), (0, .ref 45), (1, .int a1), (2, .int a2), (4, .int a4), (5, .int a5)] dX11_ring_52 4 rfl (by decide) (by decide) rfl ?_
        refine mf_iload_n dX11_ring_55 rfl 4 rfl ?_
        refine mf_join (fun (J : Int32 → mx_G → Option (Int32 × mx_G)) => ∀ (q0_71 : Int32) (s_71 : mx_G), mf_X ei l RX11 cX11_ring 7 (some .int) "ring" 6 (J q0_71 s_71) 71 [(0, .ref 45), (1, .int a1), (3, .int (a3 + 1)), (4, .int a4), (5, .int a5)] [.int q0_71] s_71) ?_ (fun J71 hJ71 => ?_)
        · intro q0_71 s_71
          refine mf_istore_n [(2, .int q0_71), (0, .ref 45), (1, .int a1), (3, .int (a3 + 1)), (4, .int a4), (5, .int a5)] dX11_ring_71 rfl (by decide) rfl ?_
          refine mf_iload dX11_ring_72 4 rfl ?_
          refine mf_join (fun (J : mx_G → Option (Int32 × mx_G)) => ∀ (s_89 : mx_G), mf_X ei l RX11 cX11_ring 7 (some .int) "ring" 6 (J s_89) 89 [(0, .ref 45), (1, .int a1), (2, .int q0_71), (3, .int (a3 + 1)), (5, .int a5)] [] s_89) ?_ (fun J89 hJ89 => ?_)
          · intro s_89
            refine mf_aload_n dX11_ring_89 rfl 0 rfl ?_
            refine mf_getR fl_X11_39 rfl rfl dX11_ring_90 ?_
            refine mf_iload dX11_ring_93 4 rfl ?_
            refine mf_iald rfl dX11_ring_95 ?_
            refine mf_goto 101 dX11_ring_96 (by decide) ?_
            refine mf_leti (fun x6 => ?_)
            refine mf_istore [(4, .int x6), (0, .ref 45), (1, .int a1), (2, .int q0_71), (3, .int (a3 + 1)), (5, .int a5)] dX11_ring_101 (by decide) rfl ?_
            refine mf_iinc 1 [(5, .int (a5 + 1)), (4, .int x6), (0, .ref 45), (1, .int a1), (2, .int q0_71), (3, .int (a3 + 1))] dX11_ring_103 5 rfl (by decide) (by decide) rfl ?_
            refine mf_goto 30 dX11_ring_106 (by decide) ?_
            exact mf_sub [2, 3, 4, 5, 1, 0] rfl (ih30 _ _ _ _ _)
          refine mf_if_lt 89 dX11_ring_74 (by decide) ?_ ?_
          · exact mf_sub [1, 2, 0, 3, 5] rfl (hJ89 _)
          · refine mf_aload_n dX11_ring_77 rfl 1 rfl ?_
            refine mf_getR fl_X11_39 rfl rfl dX11_ring_78 ?_
            refine mf_iload dX11_ring_81 5 rfl ?_
            refine mf_iald rfl dX11_ring_83 ?_
            refine mf_iload dX11_ring_84 4 rfl ?_
            refine mf_icmp_ge 99 dX11_ring_86 (by decide) ?_ ?_
            · refine mf_iload dX11_ring_99 4 rfl ?_
              refine mf_istore [(4, .int a4), (2, .int q0_71), (0, .ref 45), (1, .int a1), (3, .int (a3 + 1)), (5, .int a5)] dX11_ring_101 (by decide) rfl ?_
              refine mf_iinc 1 [(5, .int (a5 + 1)), (4, .int a4), (2, .int q0_71), (0, .ref 45), (1, .int a1), (3, .int (a3 + 1))] dX11_ring_103 5 rfl (by decide) (by decide) rfl ?_
              refine mf_goto 30 dX11_ring_106 (by decide) ?_
              exact mf_sub [3, 4, 2, 5, 1, 0] rfl (ih30 _ _ _ _ _)
            · exact mf_sub [1, 2, 0, 3, 5] rfl (hJ89 _)
        refine mf_join (fun (J : mx_G → Option (Int32 × mx_G)) => ∀ (s_65 : mx_G), mf_X ei l RX11 cX11_ring 7 (some .int) "ring" 6 (J s_65) 65 [(0, .ref 45), (1, .int a1), (3, .int (a3 + 1)), (4, .int a4), (5, .int a5), (6, .int x4)] [] s_65) ?_ (fun J65 hJ65 => ?_)
        · intro s_65
          refine mf_iload dX11_ring_65 5 rfl ?_
          refine mf_goto 71 dX11_ring_67 (by decide) ?_
          exact mf_sub [0, 1, 2, 3, 4] rfl (hJ71 _ _)
        refine mf_if_lt 65 dX11_ring_56 (by decide) ?_ ?_
        · exact mf_sub [2, 3, 0, 5, 6, 1] rfl (hJ65 _)
        · refine mf_iload dX11_ring_59 1 rfl ?_
          refine mf_iload_n dX11_ring_61 rfl 4 rfl ?_
          refine mf_icmp_ge 70 dX11_ring_62 (by decide) ?_ ?_
          · refine mf_iload_n dX11_ring_70 rfl 4 rfl ?_
            exact mf_sub [2, 3, 0, 5, 6] rfl (hJ71 _ _)
          · exact mf_sub [2, 3, 0, 5, 6, 1] rfl (hJ65 _)
set_option maxRecDepth 100000 in
set_option maxHeartbeats 4000000 in
theorem wX11_ring (l : Launch) (p1 : Int32) (s : mx_G) : mf_M ei l yX11_ring cX11_ring 7 (some .int) 6 [.ref 45, .int p1] s (fX11_ring p1 s) := by
  refine mf_intro rfl (Nat.le_of_ble_eq_true rfl) rfl rfl ?_
  refine mf_sub (loc' := [(0, .ref 45), (1, .int p1)]) [0, 1] rfl ?_
  unfold fX11_ring
  refine mf_iload_n dX11_ring_0 rfl 1 rfl ?_
  refine mf_i2l dX11_ring_1 ?_
  refine mf_lconst 0 dX11_ring_2 (by decide) ?_
  refine mf_ldc2 kl_X11_104 dX11_ring_3 ?_
  refine mf_callSi (stk := []) (wX11_in l _ _ _ _) cl_X11_88 rfl (by decide) rfl (Nat.le_of_ble_eq_true rfl) rfl rfl dX11_ring_6 (fun x1 s2 => ?_)
  refine mf_if_ne 14 dX11_ring_9 (by decide) ?_ ?_
  · refine mf_iconst (-1) dX11_ring_12 (by decide) ?_
    exact mf_iret dX11_ring_13
  · refine mf_aload_n dX11_ring_14 rfl 0 rfl ?_
    refine mf_callVv (stk := []) (wX11_laysLeads l _) cl_X11_236 rfl (by decide) rfl rfl rfl (Nat.le_of_ble_eq_true rfl) rfl rfl dX11_ring_15 (fun us3 s3 => ?_)
    refine mf_bipush (-4) dX11_ring_18 (by decide) ?_
    refine mf_istore_n [(2, .int (-4)), (0, .ref 45), (1, .int p1)] dX11_ring_20 rfl (by decide) rfl ?_
    refine mf_iconst 0 dX11_ring_21 (by decide) ?_
    refine mf_istore_n [(3, .int 0), (2, .int (-4)), (0, .ref 45), (1, .int p1)] dX11_ring_22 rfl (by decide) rfl ?_
    refine mf_bipush (-4) dX11_ring_23 (by decide) ?_
    refine mf_istore [(4, .int (-4)), (3, .int 0), (2, .int (-4)), (0, .ref 45), (1, .int p1)] dX11_ring_25 (by decide) rfl ?_
    refine mf_iconst 0 dX11_ring_27 (by decide) ?_
    refine mf_istore [(5, .int 0), (4, .int (-4)), (3, .int 0), (2, .int (-4)), (0, .ref 45), (1, .int p1)] dX11_ring_28 (by decide) rfl ?_
    refine mf_sub [4, 5, 3, 2, 1, 0] rfl (wlX11_ring_30 l _ _ (fun y8 y9 y10 s7 => ?_) FU _ _ _ _ _)
    refine mf_iload_n dX11_ring_109 rfl 0 rfl ?_
    refine mf_if_ne 125 dX11_ring_110 (by decide) ?_ ?_
    · refine mf_iload_n dX11_ring_113 rfl 2 rfl ?_
      refine mf_if_le 121 dX11_ring_114 (by decide) ?_ ?_
      · refine mf_iconst 0 dX11_ring_121 (by decide) ?_
        refine mf_goto 145 dX11_ring_122 (by decide) ?_
        exact mf_iret dX11_ring_145
      · refine mf_iconst 1 dX11_ring_117 (by decide) ?_
        refine mf_goto 145 dX11_ring_118 (by decide) ?_
        exact mf_iret dX11_ring_145
    · refine mf_iload_n dX11_ring_125 rfl 0 rfl ?_
      refine mf_iconst 1 dX11_ring_126 (by decide) ?_
      refine mf_icmp_ne 134 dX11_ring_127 (by decide) ?_ ?_
      · refine mf_iload_n dX11_ring_130 rfl 1 rfl ?_
        refine mf_goto 145 dX11_ring_131 (by decide) ?_
        exact mf_iret dX11_ring_145
      · refine mf_iload_n dX11_ring_134 rfl 0 rfl ?_
        refine mf_iconst 2 dX11_ring_135 (by decide) ?_
        refine mf_icmp_ne 143 dX11_ring_136 (by decide) ?_ ?_
        · refine mf_iload_n dX11_ring_139 rfl 2 rfl ?_
          refine mf_goto 145 dX11_ring_140 (by decide) ?_
          exact mf_iret dX11_ring_145
        · refine mf_iload dX11_ring_143 3 rfl ?_
          exact mf_iret dX11_ring_145
set_option maxRecDepth 100000 in
set_option maxHeartbeats 4000000 in
theorem wlX11_laysLinks_12 (l : Launch) (a2 : Int32) (k57 : Int32 → mx_G → Option (Int32 × mx_G)) (hk57 : ∀ (b1 : Int32) (sz : mx_G), mf_X ei l RX11 cX11_laysLinks 4 (some .int) "laysLinks" 2 (k57 b1 sz) 57 [(0, .ref 45), (1, .int b1), (2, .int a2)] [] sz) : ∀ (n : Nat) (a1 : Int32) (a3 : Int32) (s0 : mx_G), mf_X ei l RX11 cX11_laysLinks 4 (some .int) "laysLinks" 2 (lX11_laysLinks_12 a2 k57 n a1 a3 s0) 12 [(0, .ref 45), (1, .int a1), (2, .int a2), (3, .int a3)] [] s0 := by
  intro n
  induction n with
  | zero => intro a1 a3 s0; exact mf_none
  | succ n ih12 =>
    intro a1 a3 s0
    rw [lX11_laysLinks_12]
    refine mf_iload_n dX11_laysLinks_12 rfl 3 rfl ?_
    refine mf_iload_n dX11_laysLinks_13 rfl 2 rfl ?_
    refine mf_icmp_ge 57 dX11_laysLinks_14 (by decide) ?_ ?_
    · exact mf_sub [0, 1, 2] rfl (hk57 _ _)
    · refine mf_aload_n dX11_laysLinks_17 rfl 0 rfl ?_
      refine mf_iload_n dX11_laysLinks_18 rfl 2 rfl ?_
      refine mf_iload_n dX11_laysLinks_19 rfl 3 rfl ?_
      refine mf_callVi (stk := []) (wX11_areLinked l _ _ _) cl_X11_141 rfl (by decide) rfl rfl rfl (Nat.le_of_ble_eq_true rfl) rfl rfl dX11_laysLinks_20 (fun x1 s2 => ?_)
      refine mf_if_eq 51 dX11_laysLinks_23 (by decide) ?_ ?_
      · refine mf_iinc 1 [(3, .int (a3 + 1)), (0, .ref 45), (1, .int a1), (2, .int a2)] dX11_laysLinks_51 3 rfl (by decide) (by decide) rfl ?_
        refine mf_goto 12 dX11_laysLinks_54 (by decide) ?_
        exact mf_sub [1, 2, 3, 0] rfl (ih12 _ _ _)
      · refine mf_aload_n dX11_laysLinks_26 rfl 0 rfl ?_
        refine mf_getR fl_X11_69 rfl rfl dX11_laysLinks_27 ?_
        refine mf_iload_n dX11_laysLinks_30 rfl 2 rfl ?_
        refine mf_iload_n dX11_laysLinks_31 rfl 3 rfl ?_
        refine mf_callSi (stk := [.ref 64]) (wX11_pair l _ _ _) cl_X11_96 rfl (by decide) rfl (Nat.le_of_ble_eq_true rfl) rfl rfl dX11_laysLinks_32 (fun x3 s4 => ?_)
        refine mf_iload_n dX11_laysLinks_35 rfl 1 rfl ?_
        refine mf_iast rfl dX11_laysLinks_36 (fun s5 => ?_)
        refine mf_aload_n dX11_laysLinks_37 rfl 0 rfl ?_
        refine mf_getR fl_X11_69 rfl rfl dX11_laysLinks_38 ?_
        refine mf_iload_n dX11_laysLinks_41 rfl 3 rfl ?_
        refine mf_iload_n dX11_laysLinks_42 rfl 2 rfl ?_
        refine mf_callSi (stk := [.ref 64]) (wX11_pair l _ _ _) cl_X11_96 rfl (by decide) rfl (Nat.le_of_ble_eq_true rfl) rfl rfl dX11_laysLinks_43 (fun x6 s7 => ?_)
        refine mf_iload_n dX11_laysLinks_46 rfl 1 rfl ?_
        refine mf_iast rfl dX11_laysLinks_47 (fun s8 => ?_)
        refine mf_iinc 1 [(1, .int (a1 + 1)), (0, .ref 45), (2, .int a2), (3, .int a3)] dX11_laysLinks_48 1 rfl (by decide) (by decide) rfl ?_
        refine mf_iinc 1 [(3, .int (a3 + 1)), (1, .int (a1 + 1)), (0, .ref 45), (2, .int a2)] dX11_laysLinks_51 3 rfl (by decide) (by decide) rfl ?_
        refine mf_goto 12 dX11_laysLinks_54 (by decide) ?_
        exact mf_sub [2, 1, 3, 0] rfl (ih12 _ _ _)
set_option maxRecDepth 100000 in
set_option maxHeartbeats 4000000 in
theorem wlX11_laysLinks_4 (l : Launch)    : ∀ (n : Nat) (a1 : Int32) (a2 : Int32) (s0 : mx_G), mf_X ei l RX11 cX11_laysLinks 4 (some .int) "laysLinks" 2 (lX11_laysLinks_4   n a1 a2 s0) 4 [(0, .ref 45), (1, .int a1), (2, .int a2)] [] s0 := by
  intro n
  induction n with
  | zero => intro a1 a2 s0; exact mf_none
  | succ n ih4 =>
    intro a1 a2 s0
    rw [lX11_laysLinks_4]
    refine mf_iload_n dX11_laysLinks_4 rfl 2 rfl ?_
    refine mf_bipush 6 dX11_laysLinks_5 (by decide) ?_
    refine mf_icmp_ge 63 dX11_laysLinks_7 (by decide) ?_ ?_
    · refine mf_iload_n dX11_laysLinks_63 rfl 1 rfl ?_
      exact mf_iret dX11_laysLinks_64
    · refine mf_iconst 0 dX11_laysLinks_10 (by decide) ?_
      refine mf_istore_n [(3, .int 0), (0, .ref 45), (1, .int a1), (2, .int a2)] dX11_laysLinks_11 rfl (by decide) rfl ?_
      refine mf_sub [1, 2, 3, 0] rfl (wlX11_laysLinks_12 l _ _ (fun y10 s9 => ?_) FU _ _ _)
      refine mf_iinc 1 [(2, .int (a2 + 1)), (0, .ref 45), (1, .int y10)] dX11_laysLinks_57 2 rfl (by decide) (by decide) rfl ?_
      refine mf_goto 4 dX11_laysLinks_60 (by decide) ?_
      exact mf_sub [1, 2, 0] rfl (ih4 _ _ _)
set_option maxRecDepth 100000 in
set_option maxHeartbeats 4000000 in
theorem wX11_laysLinks (l : Launch) (s : mx_G) : mf_M ei l yX11_laysLinks cX11_laysLinks 4 (some .int) 2 [.ref 45] s (fX11_laysLinks  s) := by
  refine mf_intro rfl (Nat.le_of_ble_eq_true rfl) rfl rfl ?_
  refine mf_sub (loc' := [(0, .ref 45)]) [0] rfl ?_
  unfold fX11_laysLinks
  refine mf_iconst 0 dX11_laysLinks_0 (by decide) ?_
  refine mf_istore_n [(1, .int 0), (0, .ref 45)] dX11_laysLinks_1 rfl (by decide) rfl ?_
  refine mf_iconst 0 dX11_laysLinks_2 (by decide) ?_
  refine mf_istore_n [(2, .int 0), (1, .int 0), (0, .ref 45)] dX11_laysLinks_3 rfl (by decide) rfl ?_
  exact mf_sub [2, 1, 0] rfl (wlX11_laysLinks_4 l FU _ _ _)
set_option maxRecDepth 100000 in
set_option maxHeartbeats 4000000 in
theorem wlX11_maskOf_4 (l : Launch) (a1 : Int32)   : ∀ (n : Nat) (a2 : Int32) (a3 : Int32) (s0 : mx_G), mf_X ei l RX11 cX11_maskOf 4 (some .int) "maskOf" 2 (lX11_maskOf_4 a1  n a2 a3 s0) 4 [(0, .ref 45), (1, .int a1), (2, .int a2), (3, .int a3)] [] s0 := by
  intro n
  induction n with
  | zero => intro a2 a3 s0; exact mf_none
  | succ n ih4 =>
    intro a2 a3 s0
    rw [lX11_maskOf_4]
    refine mf_iload_n dX11_maskOf_4 rfl 3 rfl ?_
    refine mf_iload_n dX11_maskOf_5 rfl 1 rfl ?_
    refine mf_callSi (stk := [.int a3]) (wX11_figures l _ _) cl_X11_125 rfl (by decide) rfl (Nat.le_of_ble_eq_true rfl) rfl rfl dX11_maskOf_6 (fun x1 s2 => ?_)
    refine mf_icmp_ge 43 dX11_maskOf_9 (by decide) ?_ ?_
    · refine mf_iload_n dX11_maskOf_43 rfl 2 rfl ?_
      exact mf_iret dX11_maskOf_44
    · refine mf_iload_n dX11_maskOf_12 rfl 2 rfl ?_
      refine mf_iconst 1 dX11_maskOf_13 (by decide) ?_
      refine mf_aload_n dX11_maskOf_14 rfl 0 rfl ?_
      refine mf_getR fl_X11_69 rfl rfl dX11_maskOf_15 ?_
      refine mf_iload_n dX11_maskOf_18 rfl 1 rfl ?_
      refine mf_iload_n dX11_maskOf_19 rfl 3 rfl ?_
      refine mf_iconst 1 dX11_maskOf_20 (by decide) ?_
      refine mf_isub dX11_maskOf_21 ?_
      refine mf_callSi (stk := [.ref 64, .int 1, .int a2]) (wX11_figure l _ _ _) cl_X11_135 rfl (by decide) rfl (Nat.le_of_ble_eq_true rfl) rfl rfl dX11_maskOf_22 (fun x3 s4 => ?_)
      refine mf_iload_n dX11_maskOf_25 rfl 1 rfl ?_
      refine mf_iload_n dX11_maskOf_26 rfl 3 rfl ?_
      refine mf_callSi (stk := [.int x3, .ref 64, .int 1, .int a2]) (wX11_figure l _ _ _) cl_X11_135 rfl (by decide) rfl (Nat.le_of_ble_eq_true rfl) rfl rfl dX11_maskOf_27 (fun x5 s6 => ?_)
      refine mf_callSi (stk := [.ref 64, .int 1, .int a2]) (wX11_pair l _ _ _) cl_X11_96 rfl (by decide) rfl (Nat.le_of_ble_eq_true rfl) rfl rfl dX11_maskOf_30 (fun x7 s8 => ?_)
      refine mf_iald rfl dX11_maskOf_33 ?_
      refine mf_ishl dX11_maskOf_34 ?_
      refine mf_ior dX11_maskOf_35 ?_
      refine mf_leti (fun x9 => ?_)
      refine mf_istore_n [(2, .int x9), (0, .ref 45), (1, .int a1), (3, .int a3)] dX11_maskOf_36 rfl (by decide) rfl ?_
      refine mf_iinc 1 [(3, .int (a3 + 1)), (2, .int x9), (0, .ref 45), (1, .int a1)] dX11_maskOf_37 3 rfl (by decide) (by decide) rfl ?_
      refine mf_goto 4 dX11_maskOf_40 (by decide) ?_
      exact mf_sub [2, 3, 1, 0] rfl (ih4 _ _ _)
set_option maxRecDepth 100000 in
set_option maxHeartbeats 4000000 in
theorem wX11_maskOf (l : Launch) (p1 : Int32) (s : mx_G) : mf_M ei l yX11_maskOf cX11_maskOf 4 (some .int) 2 [.ref 45, .int p1] s (fX11_maskOf p1 s) := by
  refine mf_intro rfl (Nat.le_of_ble_eq_true rfl) rfl rfl ?_
  refine mf_sub (loc' := [(0, .ref 45), (1, .int p1)]) [0, 1] rfl ?_
  unfold fX11_maskOf
  refine mf_iconst 0 dX11_maskOf_0 (by decide) ?_
  refine mf_istore_n [(2, .int 0), (0, .ref 45), (1, .int p1)] dX11_maskOf_1 rfl (by decide) rfl ?_
  refine mf_iconst 1 dX11_maskOf_2 (by decide) ?_
  refine mf_istore_n [(3, .int 1), (2, .int 0), (0, .ref 45), (1, .int p1)] dX11_maskOf_3 rfl (by decide) rfl ?_
  exact mf_sub [2, 3, 1, 0] rfl (wlX11_maskOf_4 l _ FU _ _ _)
set_option maxRecDepth 100000 in
set_option maxHeartbeats 4000000 in
theorem wlX11_bits_4 (l : Launch)    : ∀ (n : Nat) (a1 : Int32) (a2 : Int32) (s0 : mx_G), mf_X ei l RX11 cX11_bits 3 (some .int) "bits" 0 (lX11_bits_4   n a1 a2 s0) 4 [(1, .int a1), (2, .int a2)] [] s0 := by
  intro n
  induction n with
  | zero => intro a1 a2 s0; exact mf_none
  | succ n ih4 =>
    intro a1 a2 s0
    rw [lX11_bits_4]
    refine mf_iload_n dX11_bits_4 rfl 1 rfl ?_
    refine mf_if_le 20 dX11_bits_5 (by decide) ?_ ?_
    · refine mf_iload_n dX11_bits_20 rfl 0 rfl ?_
      exact mf_iret dX11_bits_21
    · refine mf_iinc 1 [(1, .int (a1 + 1)), (2, .int a2)] dX11_bits_8 0 rfl (by decide) (by decide) rfl ?_
      refine mf_iload_n dX11_bits_11 rfl 1 rfl ?_
      refine mf_iload_n dX11_bits_12 rfl 1 rfl ?_
      refine mf_iconst 1 dX11_bits_13 (by decide) ?_
      refine mf_isub dX11_bits_14 ?_
      refine mf_iand dX11_bits_15 ?_
      refine mf_leti (fun x1 => ?_)
      refine mf_istore_n [(2, .int x1), (1, .int (a1 + 1))] dX11_bits_16 rfl (by decide) rfl ?_
      refine mf_goto 4 dX11_bits_17 (by decide) ?_
      exact mf_sub [1, 0] rfl (ih4 _ _ _)
set_option maxRecDepth 100000 in
set_option maxHeartbeats 4000000 in
theorem wX11_bits (l : Launch) (p0 : Int32) (s : mx_G) : mf_M ei l yX11_bits cX11_bits 3 (some .int) 0 [.int p0] s (fX11_bits p0 s) := by
  refine mf_intro rfl (Nat.le_of_ble_eq_true rfl) rfl rfl ?_
  refine mf_sub (loc' := [(0, .int p0)]) [0] rfl ?_
  unfold fX11_bits
  refine mf_iconst 0 dX11_bits_0 (by decide) ?_
  refine mf_istore_n [(1, .int 0), (0, .int p0)] dX11_bits_1 rfl (by decide) rfl ?_
  refine mf_iload_n dX11_bits_2 rfl 1 rfl ?_
  refine mf_istore_n [(2, .int p0), (1, .int 0), (0, .int p0)] dX11_bits_3 rfl (by decide) rfl ?_
  exact mf_sub [1, 0] rfl (wlX11_bits_4 l FU _ _ _)
set_option maxRecDepth 100000 in
set_option maxHeartbeats 4000000 in
theorem wlX11_power_5 (l : Launch) (a0 : Int64) (a2 : Int32)   : ∀ (n : Nat) (a3 : Int64) (a5 : Int32) (s0 : mx_G), mf_X el l RX11 cX11_power 6 (some .long) "power" 0 (lX11_power_5 a0 a2  n a3 a5 s0) 5 [(0, .long a0), (2, .int a2), (3, .long a3), (5, .int a5)] [] s0 := by
  intro n
  induction n with
  | zero => intro a3 a5 s0; exact mf_none
  | succ n ih5 =>
    intro a3 a5 s0
    rw [lX11_power_5]
    refine mf_iload dX11_power_5 3 rfl ?_
    refine mf_iload_n dX11_power_7 rfl 1 rfl ?_
    refine mf_icmp_ge 21 dX11_power_8 (by decide) ?_ ?_
    · refine mf_lload_n dX11_power_21 rfl 2 rfl ?_
      exact mf_lret dX11_power_22
    · refine mf_lload_n dX11_power_11 rfl 2 rfl ?_
      refine mf_lload_n dX11_power_12 rfl 0 rfl ?_
      refine mf_lmul dX11_power_13 ?_
      refine mf_letl (fun x1 => ?_)
      refine mf_lstore_n [(3, .long x1), (0, .long a0), (2, .int a2), (5, .int a5)] dX11_power_14 rfl (by decide) rfl ?_
      refine mf_iinc 1 [(5, .int (a5 + 1)), (3, .long x1), (0, .long a0), (2, .int a2)] dX11_power_15 3 rfl (by decide) (by decide) rfl ?_
      refine mf_goto 5 dX11_power_18 (by decide) ?_
      exact mf_sub [2, 3, 1, 0] rfl (ih5 _ _ _)
set_option maxRecDepth 100000 in
set_option maxHeartbeats 4000000 in
theorem wX11_power (l : Launch) (p0 : Int64) (p2 : Int32) (s : mx_G) : mf_M el l yX11_power cX11_power 6 (some .long) 0 [.long p0, .int p2] s (fX11_power p0 p2 s) := by
  refine mf_intro rfl (Nat.le_of_ble_eq_true rfl) rfl rfl ?_
  refine mf_sub (loc' := [(0, .long p0), (2, .int p2)]) [0, 1] rfl ?_
  unfold fX11_power
  refine mf_lconst 1 dX11_power_0 (by decide) ?_
  refine mf_lstore_n [(3, .long 1), (0, .long p0), (2, .int p2)] dX11_power_1 rfl (by decide) rfl ?_
  refine mf_iconst 0 dX11_power_2 (by decide) ?_
  refine mf_istore [(5, .int 0), (3, .long 1), (0, .long p0), (2, .int p2)] dX11_power_3 (by decide) rfl ?_
  exact mf_sub [2, 3, 1, 0] rfl (wlX11_power_5 l _ _ FU _ _ _)
set_option maxRecDepth 100000 in
set_option maxHeartbeats 4000000 in
theorem wlX11_above_6 (l : Launch) (a1 : Int32) (a2 : Int32) (a3 : Int32) (k53 : Int32 → mx_G → Option (Int64 × mx_G)) (hk53 : ∀ (b4 : Int32) (sz : mx_G), mf_X el l RX11 cX11_above 10 (some .long) "above" 3 (k53 b4 sz) 53 [(0, .ref 45), (2, .int a2), (3, .int a3), (4, .int b4)] [] sz) : ∀ (n : Nat) (a4 : Int32) (a5 : Int32) (s0 : mx_G), mf_X el l RX11 cX11_above 10 (some .long) "above" 3 (lX11_above_6 a1 a2 a3 k53 n a4 a5 s0) 6 [(0, .ref 45), (1, .int a1), (2, .int a2), (3, .int a3), (4, .int a4), (5, .int a5)] [] s0 := by
  intro n
  induction n with
  | zero => intro a4 a5 s0; exact mf_none
  | succ n ih6 =>
    intro a4 a5 s0
    rw [lX11_above_6]
    refine mf_iload dX11_above_6 5 rfl ?_
    refine mf_aload_n dX11_above_8 rfl 0 rfl ?_
    refine mf_getI fl_X11_151 rfl rfl dX11_above_9 ?_
    refine mf_icmp_ge 53 dX11_above_12 (by decide) ?_ ?_
    · exact mf_sub [0, 2, 3, 4] rfl (hk53 _ _)
    · refine mf_aload_n dX11_above_15 rfl 0 rfl ?_
      refine mf_getR fl_X11_42 rfl rfl dX11_above_16 ?_
      refine mf_iload dX11_above_19 5 rfl ?_
      refine mf_iald rfl dX11_above_21 ?_
      refine mf_iload_n dX11_above_22 rfl 1 rfl ?_
      refine mf_icmp_ne 47 dX11_above_23 (by decide) ?_ ?_
      · refine mf_aload_n dX11_above_26 rfl 0 rfl ?_
        refine mf_getR fl_X11_72 rfl rfl dX11_above_27 ?_
        refine mf_iload dX11_above_30 4 rfl ?_
        refine mf_aload_n dX11_above_32 rfl 0 rfl ?_
        refine mf_aload_n dX11_above_33 rfl 0 rfl ?_
        refine mf_getR fl_X11_39 rfl rfl dX11_above_34 ?_
        refine mf_iload dX11_above_37 5 rfl ?_
        refine mf_iald rfl dX11_above_39 ?_
        refine mf_callVi (stk := [.int a4, .ref 65]) (wX11_maskOf l _ _) cl_X11_242 rfl (by decide) rfl rfl rfl (Nat.le_of_ble_eq_true rfl) rfl rfl dX11_above_40 (fun x1 s2 => ?_)
        refine mf_iast rfl dX11_above_43 (fun s3 => ?_)
        refine mf_iinc 1 [(4, .int (a4 + 1)), (0, .ref 45), (1, .int a1), (2, .int a2), (3, .int a3), (5, .int a5)] dX11_above_44 4 rfl (by decide) (by decide) rfl ?_
        refine mf_iinc 1 [(5, .int (a5 + 1)), (4, .int (a4 + 1)), (0, .ref 45), (1, .int a1), (2, .int a2), (3, .int a3)] dX11_above_47 5 rfl (by decide) (by decide) rfl ?_
        refine mf_goto 6 dX11_above_50 (by decide) ?_
        exact mf_sub [2, 3, 4, 5, 1, 0] rfl (ih6 _ _ _)
      · refine mf_iinc 1 [(5, .int (a5 + 1)), (0, .ref 45), (1, .int a1), (2, .int a2), (3, .int a3), (4, .int a4)] dX11_above_47 5 rfl (by decide) (by decide) rfl ?_
        refine mf_goto 6 dX11_above_50 (by decide) ?_
        exact mf_sub [1, 2, 3, 4, 5, 0] rfl (ih6 _ _ _)
set_option maxRecDepth 100000 in
set_option maxHeartbeats 4000000 in
theorem wlX11_above_73 (l : Launch) (a2 : Int32) (a3 : Int32) (a4 : Int32) (a5 : Int64) (a7 : Int32) (k113 : Int32 → mx_G → Option (Int64 × mx_G)) (hk113 : ∀ (b8 : Int32) (sz : mx_G), mf_X el l RX11 cX11_above 10 (some .long) "above" 3 (k113 b8 sz) 113 [(0, .ref 45), (2, .int a2), (3, .int a3), (4, .int a4), (5, .long a5), (7, .int a7), (8, .int b8)] [] sz) : ∀ (n : Nat) (a8 : Int32) (a9 : Int32) (s0 : mx_G), mf_X el l RX11 cX11_above 10 (some .long) "above" 3 (lX11_above_73 a2 a3 a4 a5 a7 k113 n a8 a9 s0) 73 [(0, .ref 45), (2, .int a2), (3, .int a3), (4, .int a4), (5, .long a5), (7, .int a7), (8, .int a8), (9, .int a9)] [] s0 := by
  intro n
  induction n with
  | zero => intro a8 a9 s0; exact mf_none
  | succ n ih73 =>
    intro a8 a9 s0
    rw [lX11_above_73]
    refine mf_iload dX11_above_73 7 rfl ?_
    refine mf_iload dX11_above_75 3 rfl ?_
    refine mf_icmp_ge 113 dX11_above_77 (by decide) ?_ ?_
    · exact mf_sub [0, 1, 2, 3, 4, 5, 6] rfl (hk113 _ _)
    · refine mf_iload dX11_above_80 6 rfl ?_
      refine mf_if_ne 113 dX11_above_82 (by decide) ?_ ?_
      · refine mf_aload_n dX11_above_85 rfl 0 rfl ?_
        refine mf_getR fl_X11_72 rfl rfl dX11_above_86 ?_
        refine mf_iload dX11_above_89 7 rfl ?_
        refine mf_iald rfl dX11_above_91 ?_
        refine mf_iload dX11_above_92 5 rfl ?_
        refine mf_iconst (-1) dX11_above_94 (by decide) ?_
        refine mf_ixor dX11_above_95 ?_
        refine mf_iand dX11_above_96 ?_
        refine mf_if_ne 104 dX11_above_97 (by decide) ?_ ?_
        · refine mf_iconst 1 dX11_above_100 (by decide) ?_
          refine mf_goto 105 dX11_above_101 (by decide) ?_
          refine mf_istore [(8, .int 1), (0, .ref 45), (2, .int a2), (3, .int a3), (4, .int a4), (5, .long a5), (7, .int a7), (9, .int a9)] dX11_above_105 (by decide) rfl ?_
          refine mf_iinc 1 [(9, .int (a9 + 1)), (8, .int 1), (0, .ref 45), (2, .int a2), (3, .int a3), (4, .int a4), (5, .long a5), (7, .int a7)] dX11_above_107 7 rfl (by decide) (by decide) rfl ?_
          refine mf_goto 73 dX11_above_110 (by decide) ?_
          exact mf_sub [2, 3, 4, 5, 6, 7, 1, 0] rfl (ih73 _ _ _)
        · refine mf_iconst 0 dX11_above_104 (by decide) ?_
          refine mf_istore [(8, .int 0), (0, .ref 45), (2, .int a2), (3, .int a3), (4, .int a4), (5, .long a5), (7, .int a7), (9, .int a9)] dX11_above_105 (by decide) rfl ?_
          refine mf_iinc 1 [(9, .int (a9 + 1)), (8, .int 0), (0, .ref 45), (2, .int a2), (3, .int a3), (4, .int a4), (5, .long a5), (7, .int a7)] dX11_above_107 7 rfl (by decide) (by decide) rfl ?_
          refine mf_goto 73 dX11_above_110 (by decide) ?_
          exact mf_sub [2, 3, 4, 5, 6, 7, 1, 0] rfl (ih73 _ _ _)
      · exact mf_sub [0, 1, 2, 3, 4, 5, 6] rfl (hk113 _ _)
set_option maxRecDepth 100000 in
set_option maxHeartbeats 4000000 in
theorem wlX11_above_59 (l : Launch) (a2 : Int32) (a3 : Int32) (a4 : Int32)   : ∀ (n : Nat) (a5 : Int64) (a7 : Int32) (s0 : mx_G), mf_X el l RX11 cX11_above 10 (some .long) "above" 3 (lX11_above_59 a2 a3 a4  n a5 a7 s0) 59 [(0, .ref 45), (2, .int a2), (3, .int a3), (4, .int a4), (5, .long a5), (7, .int a7)] [] s0 := by
  intro n
  induction n with
  | zero => intro a5 a7 s0; exact mf_none
  | succ n ih59 =>
    intro a5 a7 s0
    rw [lX11_above_59]
    refine mf_iload dX11_above_59 5 rfl ?_
    refine mf_iconst 1 dX11_above_61 (by decide) ?_
    refine mf_iload_n dX11_above_62 rfl 2 rfl ?_
    refine mf_ishl dX11_above_63 ?_
    refine mf_icmp_ge 160 dX11_above_64 (by decide) ?_ ?_
    · refine mf_lload dX11_above_160 4 rfl ?_
      exact mf_lret dX11_above_162
    · refine mf_iconst 0 dX11_above_67 (by decide) ?_
      refine mf_istore [(8, .int 0), (0, .ref 45), (2, .int a2), (3, .int a3), (4, .int a4), (5, .long a5), (7, .int a7)] dX11_above_68 (by decide) rfl ?_
      refine mf_iconst 0 dX11_above_70 (by decide) ?_
      refine mf_istore [(9, .int 0), (8, .int 0), (0, .ref 45), (2, .int a2), (3, .int a3), (4, .int a4), (5, .long a5), (7, .int a7)] dX11_above_71 (by decide) rfl ?_
      refine mf_sub [2, 3, 4, 5, 6, 7, 1, 0] rfl (wlX11_above_73 l _ _ _ _ _ _ (fun y7 s6 => ?_) FU _ _ _)
      refine mf_lload dX11_above_113 4 rfl ?_
      refine mf_iload dX11_above_115 6 rfl ?_
      refine mf_if_eq 150 dX11_above_117 (by decide) ?_ ?_
      · refine mf_lconst 0 dX11_above_150 (by decide) ?_
        refine mf_ladd dX11_above_151 ?_
        refine mf_letl (fun x8 => ?_)
        refine mf_lstore [(5, .long x8), (0, .ref 45), (2, .int a2), (3, .int a3), (4, .int a4), (7, .int a7), (8, .int y7)] dX11_above_152 (by decide) rfl ?_
        refine mf_iinc 1 [(7, .int (a7 + 1)), (5, .long x8), (0, .ref 45), (2, .int a2), (3, .int a3), (4, .int a4), (8, .int y7)] dX11_above_154 5 rfl (by decide) (by decide) rfl ?_
        refine mf_goto 59 dX11_above_157 (by decide) ?_
        exact mf_sub [2, 3, 4, 5, 1, 0] rfl (ih59 _ _ _)
      · refine mf_ldc2 kl_X11_245 dX11_above_120 ?_
        refine mf_iload_n dX11_above_123 rfl 1 rfl ?_
        refine mf_i2l dX11_above_124 ?_
        refine mf_lsub dX11_above_125 ?_
        refine mf_iload dX11_above_126 5 rfl ?_
        refine mf_callSi (stk := [.long (10 - (Int32.toInt64 a2)), .long a5]) (wX11_bits l _ _) cl_X11_247 rfl (by decide) rfl (Nat.le_of_ble_eq_true rfl) rfl rfl dX11_above_128 (fun x9 s10 => ?_)
        refine mf_callSl (stk := [.long a5]) (wX11_power l _ _ _) cl_X11_250 rfl (by decide) rfl (Nat.le_of_ble_eq_true rfl) rfl rfl dX11_above_131 (fun x11 s12 => ?_)
        refine mf_iload_n dX11_above_134 rfl 1 rfl ?_
        refine mf_i2l dX11_above_135 ?_
        refine mf_iload_n dX11_above_136 rfl 2 rfl ?_
        refine mf_iload dX11_above_137 5 rfl ?_
        refine mf_callSi (stk := [.int a3, .long (Int32.toInt64 a2), .long x11, .long a5]) (wX11_bits l _ _) cl_X11_247 rfl (by decide) rfl (Nat.le_of_ble_eq_true rfl) rfl rfl dX11_above_139 (fun x13 s14 => ?_)
        refine mf_isub dX11_above_142 ?_
        refine mf_callSl (stk := [.long x11, .long a5]) (wX11_power l _ _ _) cl_X11_250 rfl (by decide) rfl (Nat.le_of_ble_eq_true rfl) rfl rfl dX11_above_143 (fun x15 s16 => ?_)
        refine mf_lmul dX11_above_146 ?_
        refine mf_goto 151 dX11_above_147 (by decide) ?_
        refine mf_ladd dX11_above_151 ?_
        refine mf_letl (fun x17 => ?_)
        refine mf_lstore [(5, .long x17), (0, .ref 45), (2, .int a2), (3, .int a3), (4, .int a4), (7, .int a7), (8, .int y7)] dX11_above_152 (by decide) rfl ?_
        refine mf_iinc 1 [(7, .int (a7 + 1)), (5, .long x17), (0, .ref 45), (2, .int a2), (3, .int a3), (4, .int a4), (8, .int y7)] dX11_above_154 5 rfl (by decide) (by decide) rfl ?_
        refine mf_goto 59 dX11_above_157 (by decide) ?_
        exact mf_sub [2, 3, 4, 5, 1, 0] rfl (ih59 _ _ _)
set_option maxRecDepth 100000 in
set_option maxHeartbeats 4000000 in
theorem wX11_above (l : Launch) (p1 : Int32) (p2 : Int32) (p3 : Int32) (s : mx_G) : mf_M el l yX11_above cX11_above 10 (some .long) 3 [.ref 45, .int p1, .int p2, .int p3] s (fX11_above p1 p2 p3 s) := by
  refine mf_intro rfl (Nat.le_of_ble_eq_true rfl) rfl rfl ?_
  refine mf_sub (loc' := [(0, .ref 45), (1, .int p1), (2, .int p2), (3, .int p3)]) [0, 1, 2, 3] rfl ?_
  unfold fX11_above
  refine mf_iconst 0 dX11_above_0 (by decide) ?_
  refine mf_istore [(4, .int 0), (0, .ref 45), (1, .int p1), (2, .int p2), (3, .int p3)] dX11_above_1 (by decide) rfl ?_
  refine mf_iconst 0 dX11_above_3 (by decide) ?_
  refine mf_istore [(5, .int 0), (4, .int 0), (0, .ref 45), (1, .int p1), (2, .int p2), (3, .int p3)] dX11_above_4 (by decide) rfl ?_
  refine mf_sub [2, 3, 4, 5, 1, 0] rfl (wlX11_above_6 l _ _ _ _ (fun y5 s4 => ?_) FU _ _ _)
  refine mf_lconst 0 dX11_above_53 (by decide) ?_
  refine mf_lstore [(5, .long 0), (0, .ref 45), (2, .int p2), (3, .int p3), (4, .int y5)] dX11_above_54 (by decide) rfl ?_
  refine mf_iconst 0 dX11_above_56 (by decide) ?_
  refine mf_istore [(7, .int 0), (5, .long 0), (0, .ref 45), (2, .int p2), (3, .int p3), (4, .int y5)] dX11_above_57 (by decide) rfl ?_
  exact mf_sub [2, 3, 4, 5, 1, 0] rfl (wlX11_above_59 l _ _ _ FU _ _ _)
set_option maxRecDepth 100000 in
set_option maxHeartbeats 4000000 in
theorem wlX11_fail_72 (l : Launch) (a3 : Int32) (a5 : Int64) (a7 : Int64) (k97 : Int64 → mx_G → Option (Int64 × mx_G)) (hk97 : ∀ (b9 : Int64) (sz : mx_G), mf_X el l RX11 cX11_fail 15 (some .long) "fail" 5 (k97 b9 sz) 97 [(3, .int a3), (5, .long a5), (7, .long a7), (9, .long b9)] [] sz) : ∀ (n : Nat) (a9 : Int64) (a11 : Int64) (s0 : mx_G), mf_X el l RX11 cX11_fail 15 (some .long) "fail" 5 (lX11_fail_72 a3 a5 a7 k97 n a9 a11 s0) 72 [(3, .int a3), (5, .long a5), (7, .long a7), (9, .long a9), (11, .long a11)] [] s0 := by
  intro n
  induction n with
  | zero => intro a9 a11 s0; exact mf_none
  | succ n ih72 =>
    intro a9 a11 s0
    rw [lX11_fail_72]
    refine mf_lload dX11_fail_72 4 rfl ?_
    refine mf_lconst 0 dX11_fail_74 (by decide) ?_
    refine mf_lcmp dX11_fail_75 ?_
    refine mf_if_eq 97 dX11_fail_76 (by decide) ?_ ?_
    · exact mf_sub [0, 1, 2, 3] rfl (hk97 _ _)
    · refine mf_lload dX11_fail_79 3 rfl ?_
      refine mf_lload dX11_fail_81 4 rfl ?_
      refine mf_lremG dX11_fail_83 ?_
      refine mf_letl (fun x14 => ?_)
      refine mf_lstore [(13, .long x14), (3, .int a3), (5, .long a5), (7, .long a7), (9, .long a9), (11, .long a11)] dX11_fail_84 (by decide) rfl ?_
      refine mf_lload dX11_fail_86 5 rfl ?_
      refine mf_lstore [(9, .long a11), (13, .long x14), (3, .int a3), (5, .long a5), (7, .long a7), (11, .long a11)] dX11_fail_88 (by decide) rfl ?_
      refine mf_lload dX11_fail_90 1 rfl ?_
      refine mf_lstore [(11, .long x14), (9, .long a11), (13, .long x14), (3, .int a3), (5, .long a5), (7, .long a7)] dX11_fail_92 (by decide) rfl ?_
      refine mf_goto 72 dX11_fail_94 (by decide) ?_
      exact mf_sub [3, 4, 5, 1, 0] rfl (ih72 _ _ _)
set_option maxRecDepth 100000 in
set_option maxHeartbeats 4000000 in
theorem wX11_fail (l : Launch) (p1 : Int32) (p2 : Int32) (p3 : Int32) (s : mx_G) : mf_M el l yX11_fail cX11_fail 15 (some .long) 5 [.ref 45, .int p1, .int p2, .int p3] s (fX11_fail p1 p2 p3 s) := by
  refine mf_intro rfl (Nat.le_of_ble_eq_true rfl) rfl rfl ?_
  refine mf_sub (loc' := [(0, .ref 45), (1, .int p1), (2, .int p2), (3, .int p3)]) [0, 1, 2, 3] rfl ?_
  unfold fX11_fail
  refine mf_aload_n dX11_fail_0 rfl 0 rfl ?_
  refine mf_iload_n dX11_fail_1 rfl 1 rfl ?_
  refine mf_callVi (stk := []) (wX11_isDomain l _ _) cl_X11_92 rfl (by decide) rfl rfl rfl (Nat.le_of_ble_eq_true rfl) rfl rfl dX11_fail_2 (fun x1 s2 => ?_)
  refine mf_if_eq 30 dX11_fail_5 (by decide) ?_ ?_
  · refine mf_ldc2 kl_X11_231 dX11_fail_30 ?_
    exact mf_lret dX11_fail_33
  · refine mf_iload_n dX11_fail_8 rfl 2 rfl ?_
    refine mf_i2l dX11_fail_9 ?_
    refine mf_lconst 0 dX11_fail_10 (by decide) ?_
    refine mf_ldc2 kl_X11_245 dX11_fail_11 ?_
    refine mf_callSi (stk := []) (wX11_in l _ _ _ _) cl_X11_88 rfl (by decide) rfl (Nat.le_of_ble_eq_true rfl) rfl rfl dX11_fail_14 (fun x3 s4 => ?_)
    refine mf_if_eq 30 dX11_fail_17 (by decide) ?_ ?_
    · refine mf_ldc2 kl_X11_231 dX11_fail_30 ?_
      exact mf_lret dX11_fail_33
    · refine mf_iload_n dX11_fail_20 rfl 3 rfl ?_
      refine mf_i2l dX11_fail_21 ?_
      refine mf_lconst 0 dX11_fail_22 (by decide) ?_
      refine mf_lconst 1 dX11_fail_23 (by decide) ?_
      refine mf_callSi (stk := []) (wX11_in l _ _ _ _) cl_X11_88 rfl (by decide) rfl (Nat.le_of_ble_eq_true rfl) rfl rfl dX11_fail_24 (fun x5 s6 => ?_)
      refine mf_if_ne 34 dX11_fail_27 (by decide) ?_ ?_
      · refine mf_ldc2 kl_X11_231 dX11_fail_30 ?_
        exact mf_lret dX11_fail_33
      · refine mf_aload_n dX11_fail_34 rfl 0 rfl ?_
        refine mf_callVv (stk := []) (wX11_laysWays l _) cl_X11_160 rfl (by decide) rfl rfl rfl (Nat.le_of_ble_eq_true rfl) rfl rfl dX11_fail_35 (fun us7 s7 => ?_)
        refine mf_aload_n dX11_fail_38 rfl 0 rfl ?_
        refine mf_callVi (stk := []) (wX11_laysLinks l _) cl_X11_254 rfl (by decide) rfl rfl rfl (Nat.le_of_ble_eq_true rfl) rfl rfl dX11_fail_39 (fun x8 s9 => ?_)
        refine mf_istore [(4, .int x8), (0, .ref 45), (1, .int p1), (2, .int p2), (3, .int p3)] dX11_fail_42 (by decide) rfl ?_
        refine mf_aload_n dX11_fail_44 rfl 1 rfl ?_
        refine mf_iload_n dX11_fail_45 rfl 2 rfl ?_
        refine mf_iload_n dX11_fail_46 rfl 3 rfl ?_
        refine mf_iload dX11_fail_47 0 rfl ?_
        refine mf_callVl (stk := []) (wX11_above l _ _ _ _) cl_X11_257 rfl (by decide) rfl rfl rfl (Nat.le_of_ble_eq_true rfl) rfl rfl dX11_fail_49 (fun x10 s11 => ?_)
        refine mf_lstore [(5, .long x10), (4, .int x8), (0, .ref 45), (1, .int p1), (2, .int p2), (3, .int p3)] dX11_fail_52 (by decide) rfl ?_
        refine mf_ldc2 kl_X11_245 dX11_fail_54 ?_
        refine mf_iload dX11_fail_57 1 rfl ?_
        refine mf_callSl (stk := []) (wX11_power l _ _ _) cl_X11_250 rfl (by decide) rfl (Nat.le_of_ble_eq_true rfl) rfl rfl dX11_fail_59 (fun x12 s13 => ?_)
        refine mf_lstore [(7, .long x12), (5, .long x10), (4, .int x8), (0, .ref 45), (1, .int p1), (2, .int p2), (3, .int p3)] dX11_fail_62 (by decide) rfl ?_
        refine mf_lload dX11_fail_64 1 rfl ?_
        refine mf_lstore [(9, .long x10), (7, .long x12), (5, .long x10), (4, .int x8), (0, .ref 45), (1, .int p1), (2, .int p2), (3, .int p3)] dX11_fail_66 (by decide) rfl ?_
        refine mf_lload dX11_fail_68 1 rfl ?_
        refine mf_lstore [(11, .long x12), (9, .long x10), (7, .long x12), (5, .long x10), (4, .int x8), (0, .ref 45), (1, .int p1), (2, .int p2), (3, .int p3)] dX11_fail_70 (by decide) rfl ?_
        refine mf_sub [8, 3, 2, 1, 0] rfl (wlX11_fail_72 l _ _ _ _ (fun y16 s15 => ?_) FU _ _ _)
        refine mf_iload_n dX11_fail_97 rfl 0 rfl ?_
        refine mf_if_ne 109 dX11_fail_98 (by decide) ?_ ?_
        · refine mf_lload dX11_fail_101 1 rfl ?_
          refine mf_lload dX11_fail_103 3 rfl ?_
          refine mf_ldivG dX11_fail_105 ?_
          refine mf_goto 114 dX11_fail_106 (by decide) ?_
          exact mf_lret dX11_fail_114
        · refine mf_lload dX11_fail_109 2 rfl ?_
          refine mf_lload dX11_fail_111 3 rfl ?_
          refine mf_ldivG dX11_fail_113 ?_
          exact mf_lret dX11_fail_114
