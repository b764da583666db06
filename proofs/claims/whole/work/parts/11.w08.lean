set_option maxRecDepth 100000 in
set_option maxHeartbeats 4000000 in
theorem wX11_bar (l : Launch) (p1 : Int32) (p2 : Int32) (s : mx_G) : mf_M ei l yX11_bar cX11_bar 4 (some .int) 3 [.ref 45, .int p1, .int p2] s (fX11_bar p1 p2 s) := by
  refine mf_intro rfl (Nat.le_of_ble_eq_true rfl) rfl rfl ?_
  refine mf_sub (loc' := [(0, .ref 45), (1, .int p1), (2, .int p2)]) [0, 1, 2] rfl ?_
  unfold fX11_bar
  refine mf_aload_n dX11_bar_0 rfl 0 rfl ?_
  refine mf_iload_n dX11_bar_1 rfl 1 rfl ?_
  refine mf_callVi (stk := []) (wX11_isDomain l _ _) cl_X11_92 rfl (by decide) rfl rfl rfl (Nat.le_of_ble_eq_true rfl) rfl rfl dX11_bar_2 (fun x1 s2 => ?_)
  refine mf_join (fun (J : Int32 → mx_G → Option (Int32 × mx_G)) => ∀ (q0_41 : Int32) (s_41 : mx_G), mf_X ei l RX11 cX11_bar 4 (some .int) "bar" 3 (J q0_41 s_41) 41 [(0, .ref 45), (1, .int p1), (2, .int p2)] [.int q0_41] s_41) ?_ (fun J41 hJ41 => ?_)
  · intro q0_41 s_41
    refine mf_istore_n [(3, .int q0_41), (0, .ref 45), (1, .int p1), (2, .int p2)] dX11_bar_41 rfl (by decide) rfl ?_
    refine mf_iload_n dX11_bar_42 rfl 0 rfl ?_
    refine mf_if_eq 58 dX11_bar_43 (by decide) ?_ ?_
    · refine mf_iconst (-1) dX11_bar_58 (by decide) ?_
      exact mf_iret dX11_bar_59
    · refine mf_aload_n dX11_bar_46 rfl 1 rfl ?_
      refine mf_bipush 115 dX11_bar_47 (by decide) ?_
      refine mf_iload_n dX11_bar_49 rfl 2 rfl ?_
      refine mf_iadd dX11_bar_50 ?_
      refine mf_iload_n dX11_bar_51 rfl 3 rfl ?_
      refine mf_callVi (stk := []) (wX11_becomes l _ _ _) cl_X11_115 rfl (by decide) rfl rfl rfl (Nat.le_of_ble_eq_true rfl) rfl rfl dX11_bar_52 (fun x3 s4 => ?_)
      refine mf_goto 59 dX11_bar_55 (by decide) ?_
      exact mf_iret dX11_bar_59
  refine mf_join (fun (J : mx_G → Option (Int32 × mx_G)) => ∀ (s_40 : mx_G), mf_X ei l RX11 cX11_bar 4 (some .int) "bar" 3 (J s_40) 40 [(0, .ref 45), (1, .int p1), (2, .int p2)] [] s_40) ?_ (fun J40 hJ40 => ?_)
  · intro s_40
    refine mf_iconst 0 dX11_bar_40 (by decide) ?_
    exact mf_sub [0, 1, 2] rfl (hJ41 _ _)
  refine mf_if_eq 40 dX11_bar_5 (by decide) ?_ ?_
  · exact mf_sub [0, 1, 2] rfl (hJ40 _)
  · refine mf_iload_n dX11_bar_8 rfl 2 rfl ?_
    refine mf_i2l dX11_bar_9 ?_
    refine mf_lconst 0 dX11_bar_10 (by decide) ?_
    refine mf_iconst 1 dX11_bar_11 (by decide) ?_
    refine mf_aload_n dX11_bar_12 rfl 0 rfl ?_
    refine mf_getR fl_X11_7 rfl rfl dX11_bar_13 ?_
    refine mf_iconst 0 dX11_bar_16 (by decide) ?_
    refine mf_iald rfl dX11_bar_17 ?_
    refine mf_ishl dX11_bar_18 ?_
    refine mf_iconst 1 dX11_bar_19 (by decide) ?_
    refine mf_isub dX11_bar_20 ?_
    refine mf_i2l dX11_bar_21 ?_
    refine mf_callSi (stk := []) (wX11_in l _ _ _ _) cl_X11_88 rfl (by decide) rfl (Nat.le_of_ble_eq_true rfl) rfl rfl dX11_bar_22 (fun x5 s6 => ?_)
    refine mf_if_eq 40 dX11_bar_25 (by decide) ?_ ?_
    · exact mf_sub [0, 1, 2] rfl (hJ40 _)
    · refine mf_iload_n dX11_bar_28 rfl 2 rfl ?_
      refine mf_iload_n dX11_bar_29 rfl 1 rfl ?_
      refine mf_callSi (stk := []) (wX11_has l _ _ _) cl_X11_118 rfl (by decide) rfl (Nat.le_of_ble_eq_true rfl) rfl rfl dX11_bar_30 (fun x7 s8 => ?_)
      refine mf_if_ne 40 dX11_bar_33 (by decide) ?_ ?_
      · refine mf_iconst 1 dX11_bar_36 (by decide) ?_
        refine mf_goto 41 dX11_bar_37 (by decide) ?_
        exact mf_sub [0, 1, 2] rfl (hJ41 _ _)
      · exact mf_sub [0, 1, 2] rfl (hJ40 _)
set_option maxRecDepth 100000 in
set_option maxHeartbeats 4000000 in
theorem wlX11_domains_53 (l : Launch) (a1 : Int32) (a2 : Int32) (a3 : Int32) (k121 : mx_G → Option (Int32 × mx_G)) (hk121 : ∀ (sz : mx_G), mf_X ei l RX11 cX11_domains 5 (some .int) "domains" 2 (k121 sz) 121 [(0, .ref 45), (1, .int a1), (2, .int a2), (3, .int a3)] [] sz) : ∀ (n : Nat) (a4 : Int32) (s0 : mx_G), mf_X ei l RX11 cX11_domains 5 (some .int) "domains" 2 (lX11_domains_53 a1 a2 a3 k121 n a4 s0) 53 [(0, .ref 45), (1, .int a1), (2, .int a2), (3, .int a3), (4, .int a4)] [] s0 := by
  intro n
  induction n with
  | zero => intro a4 s0; exact mf_none
  | succ n ih53 =>
    intro a4 s0
    rw [lX11_domains_53]
    refine mf_iload dX11_domains_53 4 rfl ?_
    refine mf_bipush 6 dX11_domains_55 (by decide) ?_
    refine mf_icmp_ge 121 dX11_domains_57 (by decide) ?_ ?_
    · exact mf_sub [0, 1, 2, 3] rfl (hk121 _)
    · refine mf_iload_n dX11_domains_60 rfl 3 rfl ?_
      refine mf_iload_n dX11_domains_61 rfl 1 rfl ?_
      refine mf_join (fun (J : mx_G → Option (Int32 × mx_G)) => ∀ (s_71 : mx_G), mf_X ei l RX11 cX11_domains 5 (some .int) "domains" 2 (J s_71) 71 [(0, .ref 45), (1, .int a1), (2, .int a2), (3, .int a3), (4, .int a4)] [] s_71) ?_ (fun J71 hJ71 => ?_)
      · intro s_71
        refine mf_aload_n dX11_domains_71 rfl 0 rfl ?_
        refine mf_getR fl_X11_7 rfl rfl dX11_domains_72 ?_
        refine mf_iconst 1 dX11_domains_75 (by decide) ?_
        refine mf_iload_n dX11_domains_76 rfl 3 rfl ?_
        refine mf_iload dX11_domains_77 4 rfl ?_
        refine mf_callSi (stk := [.int 1, .ref 46]) (wX11_pair l _ _ _) cl_X11_96 rfl (by decide) rfl (Nat.le_of_ble_eq_true rfl) rfl rfl dX11_domains_79 (fun x6 s7 => ?_)
        refine mf_iadd dX11_domains_82 ?_
        refine mf_iconst 0 dX11_domains_83 (by decide) ?_
        refine mf_iast rfl dX11_domains_84 (fun s8 => ?_)
        refine mf_aload_n dX11_domains_85 rfl 0 rfl ?_
        refine mf_getR fl_X11_7 rfl rfl dX11_domains_86 ?_
        refine mf_bipush 37 dX11_domains_89 (by decide) ?_
        refine mf_iload_n dX11_domains_91 rfl 3 rfl ?_
        refine mf_iload dX11_domains_92 4 rfl ?_
        refine mf_callSi (stk := [.int 37, .ref 46]) (wX11_pair l _ _ _) cl_X11_96 rfl (by decide) rfl (Nat.le_of_ble_eq_true rfl) rfl rfl dX11_domains_94 (fun x9 s10 => ?_)
        refine mf_iadd dX11_domains_97 ?_
        refine mf_iconst 0 dX11_domains_98 (by decide) ?_
        refine mf_iast rfl dX11_domains_99 (fun s11 => ?_)
        refine mf_aload_n dX11_domains_100 rfl 0 rfl ?_
        refine mf_getR fl_X11_7 rfl rfl dX11_domains_101 ?_
        refine mf_bipush 73 dX11_domains_104 (by decide) ?_
        refine mf_iload_n dX11_domains_106 rfl 3 rfl ?_
        refine mf_iload dX11_domains_107 4 rfl ?_
        refine mf_callSi (stk := [.int 73, .ref 46]) (wX11_pair l _ _ _) cl_X11_96 rfl (by decide) rfl (Nat.le_of_ble_eq_true rfl) rfl rfl dX11_domains_109 (fun x12 s13 => ?_)
        refine mf_iadd dX11_domains_112 ?_
        refine mf_iconst 0 dX11_domains_113 (by decide) ?_
        refine mf_iast rfl dX11_domains_114 (fun s14 => ?_)
        refine mf_iinc 1 [(4, .int (a4 + 1)), (0, .ref 45), (1, .int a1), (2, .int a2), (3, .int a3)] dX11_domains_115 4 rfl (by decide) (by decide) rfl ?_
        refine mf_goto 53 dX11_domains_118 (by decide) ?_
        exact mf_sub [1, 2, 3, 4, 0] rfl (ih53 _ _)
      refine mf_icmp_ge 71 dX11_domains_62 (by decide) ?_ ?_
      · exact mf_sub [0, 1, 2, 3, 4] rfl (hJ71 _)
      · refine mf_iload dX11_domains_65 4 rfl ?_
        refine mf_iload_n dX11_domains_67 rfl 1 rfl ?_
        refine mf_icmp_lt 115 dX11_domains_68 (by decide) ?_ ?_
        · refine mf_iinc 1 [(4, .int (a4 + 1)), (0, .ref 45), (1, .int a1), (2, .int a2), (3, .int a3)] dX11_domains_115 4 rfl (by decide) (by decide) rfl ?_
          refine mf_goto 53 dX11_domains_118 (by decide) ?_
          exact mf_sub [1, 2, 3, 4, 0] rfl (ih53 _ _)
        · exact mf_sub [0, 1, 2, 3, 4] rfl (hJ71 _)
set_option maxRecDepth 100000 in
set_option maxHeartbeats 4000000 in
theorem wlX11_domains_44 (l : Launch) (a1 : Int32) (a2 : Int32)   : ∀ (n : Nat) (a3 : Int32) (s0 : mx_G), mf_X ei l RX11 cX11_domains 5 (some .int) "domains" 2 (lX11_domains_44 a1 a2  n a3 s0) 44 [(0, .ref 45), (1, .int a1), (2, .int a2), (3, .int a3)] [] s0 := by
  intro n
  induction n with
  | zero => intro a3 s0; exact mf_none
  | succ n ih44 =>
    intro a3 s0
    rw [lX11_domains_44]
    refine mf_iload_n dX11_domains_44 rfl 3 rfl ?_
    refine mf_bipush 6 dX11_domains_45 (by decide) ?_
    refine mf_icmp_ge 206 dX11_domains_47 (by decide) ?_ ?_
    · refine mf_iload_n dX11_domains_206 rfl 2 rfl ?_
      exact mf_iret dX11_domains_207
    · refine mf_iconst 0 dX11_domains_50 (by decide) ?_
      refine mf_istore [(4, .int 0), (0, .ref 45), (1, .int a1), (2, .int a2), (3, .int a3)] dX11_domains_51 (by decide) rfl ?_
      refine mf_sub [1, 2, 3, 4, 0] rfl (wlX11_domains_53 l _ _ _ _ (fun s15 => ?_) FU _ _)
      refine mf_aload_n dX11_domains_121 rfl 0 rfl ?_
      refine mf_getR fl_X11_7 rfl rfl dX11_domains_122 ?_
      refine mf_bipush 109 dX11_domains_125 (by decide) ?_
      refine mf_iload_n dX11_domains_127 rfl 3 rfl ?_
      refine mf_iadd dX11_domains_128 ?_
      refine mf_iload_n dX11_domains_129 rfl 3 rfl ?_
      refine mf_iload_n dX11_domains_130 rfl 1 rfl ?_
      refine mf_join (fun (J : Int32 → Int32 → mx_G → Option (Int32 × mx_G)) => ∀ (q0_147 : Int32) (q1_147 : Int32) (s_147 : mx_G), mf_X ei l RX11 cX11_domains 5 (some .int) "domains" 2 (J q0_147 q1_147 s_147) 147 [(0, .ref 45), (1, .int a1), (2, .int a2), (3, .int a3)] [.int q0_147, .int q1_147, .ref 46] s_147) ?_ (fun J147 hJ147 => ?_)
      · intro q0_147 q1_147 s_147
        refine mf_iast rfl dX11_domains_147 (fun s16 => ?_)
        refine mf_aload_n dX11_domains_148 rfl 0 rfl ?_
        refine mf_getR fl_X11_7 rfl rfl dX11_domains_149 ?_
        refine mf_bipush 115 dX11_domains_152 (by decide) ?_
        refine mf_iload_n dX11_domains_154 rfl 3 rfl ?_
        refine mf_iadd dX11_domains_155 ?_
        refine mf_iload_n dX11_domains_156 rfl 3 rfl ?_
        refine mf_iload_n dX11_domains_157 rfl 1 rfl ?_
        refine mf_join (fun (J : Int32 → Int32 → mx_G → Option (Int32 × mx_G)) => ∀ (q0_180 : Int32) (q1_180 : Int32) (s_180 : mx_G), mf_X ei l RX11 cX11_domains 5 (some .int) "domains" 2 (J q0_180 q1_180 s_180) 180 [(0, .ref 45), (1, .int a1), (2, .int a2), (3, .int a3)] [.int q0_180, .int q1_180, .ref 46] s_180) ?_ (fun J180 hJ180 => ?_)
        · intro q0_180 q1_180 s_180
          refine mf_iast rfl dX11_domains_180 (fun s17 => ?_)
          refine mf_aload_n dX11_domains_181 rfl 0 rfl ?_
          refine mf_getR fl_X11_7 rfl rfl dX11_domains_182 ?_
          refine mf_bipush 121 dX11_domains_185 (by decide) ?_
          refine mf_iload_n dX11_domains_187 rfl 3 rfl ?_
          refine mf_iadd dX11_domains_188 ?_
          refine mf_iload_n dX11_domains_189 rfl 3 rfl ?_
          refine mf_if_ne 197 dX11_domains_190 (by decide) ?_ ?_
          · refine mf_iconst 0 dX11_domains_193 (by decide) ?_
            refine mf_goto 199 dX11_domains_194 (by decide) ?_
            refine mf_iast rfl dX11_domains_199 (fun s19 => ?_)
            refine mf_iinc 1 [(3, .int (a3 + 1)), (0, .ref 45), (1, .int a1), (2, .int a2)] dX11_domains_200 3 rfl (by decide) (by decide) rfl ?_
            refine mf_goto 44 dX11_domains_203 (by decide) ?_
            exact mf_sub [1, 2, 3, 0] rfl (ih44 _ _)
          · refine mf_bipush (-4) dX11_domains_197 (by decide) ?_
            refine mf_iast rfl dX11_domains_199 (fun s18 => ?_)
            refine mf_iinc 1 [(3, .int (a3 + 1)), (0, .ref 45), (1, .int a1), (2, .int a2)] dX11_domains_200 3 rfl (by decide) (by decide) rfl ?_
            refine mf_goto 44 dX11_domains_203 (by decide) ?_
            exact mf_sub [1, 2, 3, 0] rfl (ih44 _ _)
        refine mf_icmp_lt 165 dX11_domains_158 (by decide) ?_ ?_
        · refine mf_aload_n dX11_domains_165 rfl 0 rfl ?_
          refine mf_getR fl_X11_7 rfl rfl dX11_domains_166 ?_
          refine mf_bipush 115 dX11_domains_169 (by decide) ?_
          refine mf_iload_n dX11_domains_171 rfl 3 rfl ?_
          refine mf_iadd dX11_domains_172 ?_
          refine mf_iald rfl dX11_domains_173 ?_
          refine mf_iconst 1 dX11_domains_174 (by decide) ?_
          refine mf_iload_n dX11_domains_175 rfl 1 rfl ?_
          refine mf_ishl dX11_domains_176 ?_
          refine mf_iconst 1 dX11_domains_177 (by decide) ?_
          refine mf_isub dX11_domains_178 ?_
          refine mf_iand dX11_domains_179 ?_
          exact mf_sub [0, 1, 2, 3] rfl (hJ180 _ _ _)
        · refine mf_iconst 0 dX11_domains_161 (by decide) ?_
          refine mf_goto 180 dX11_domains_162 (by decide) ?_
          exact mf_sub [0, 1, 2, 3] rfl (hJ180 _ _ _)
      refine mf_icmp_lt 138 dX11_domains_131 (by decide) ?_ ?_
      · refine mf_aload_n dX11_domains_138 rfl 0 rfl ?_
        refine mf_getR fl_X11_7 rfl rfl dX11_domains_139 ?_
        refine mf_bipush 109 dX11_domains_142 (by decide) ?_
        refine mf_iload_n dX11_domains_144 rfl 3 rfl ?_
        refine mf_iadd dX11_domains_145 ?_
        refine mf_iald rfl dX11_domains_146 ?_
        exact mf_sub [0, 1, 2, 3] rfl (hJ147 _ _ _)
      · refine mf_iconst 3 dX11_domains_134 (by decide) ?_
        refine mf_goto 147 dX11_domains_135 (by decide) ?_
        exact mf_sub [0, 1, 2, 3] rfl (hJ147 _ _ _)
set_option maxRecDepth 100000 in
set_option maxHeartbeats 4000000 in
theorem wX11_domains (l : Launch) (p1 : Int32) (s : mx_G) : mf_M ei l yX11_domains cX11_domains 5 (some .int) 2 [.ref 45, .int p1] s (fX11_domains p1 s) := by
  refine mf_intro rfl (Nat.le_of_ble_eq_true rfl) rfl rfl ?_
  refine mf_sub (loc' := [(0, .ref 45), (1, .int p1)]) [0, 1] rfl ?_
  unfold fX11_domains
  refine mf_iload_n dX11_domains_0 rfl 1 rfl ?_
  refine mf_i2l dX11_domains_1 ?_
  refine mf_ldc2 kl_X11_121 dX11_domains_2 ?_
  refine mf_ldc2 kl_X11_123 dX11_domains_5 ?_
  refine mf_callSi (stk := []) (wX11_in l _ _ _ _) cl_X11_88 rfl (by decide) rfl (Nat.le_of_ble_eq_true rfl) rfl rfl dX11_domains_8 (fun x1 s2 => ?_)
  refine mf_if_ne 16 dX11_domains_11 (by decide) ?_ ?_
  · refine mf_iconst (-1) dX11_domains_14 (by decide) ?_
    exact mf_iret dX11_domains_15
  · refine mf_aload_n dX11_domains_16 rfl 0 rfl ?_
    refine mf_getR fl_X11_7 rfl rfl dX11_domains_17 ?_
    refine mf_iconst 0 dX11_domains_20 (by decide) ?_
    refine mf_iald rfl dX11_domains_21 ?_
    refine mf_leti (fun x3 => ?_)
    refine mf_istore_n [(2, .int x3), (0, .ref 45), (1, .int p1)] dX11_domains_22 rfl (by decide) rfl ?_
    refine mf_iload_n dX11_domains_23 rfl 0 rfl ?_
    refine mf_iload_n dX11_domains_24 rfl 2 rfl ?_
    refine mf_icmp_ne 31 dX11_domains_25 (by decide) ?_ ?_
    · refine mf_bipush (-2) dX11_domains_28 (by decide) ?_
      exact mf_iret dX11_domains_30
    · refine mf_aload_n dX11_domains_31 rfl 1 rfl ?_
      refine mf_callVv (stk := []) (wX11_notes l _) cl_X11_106 rfl (by decide) rfl rfl rfl (Nat.le_of_ble_eq_true rfl) rfl rfl dX11_domains_32 (fun us4 s4 => ?_)
      refine mf_aload_n dX11_domains_35 rfl 1 rfl ?_
      refine mf_getR fl_X11_7 rfl rfl dX11_domains_36 ?_
      refine mf_iconst 0 dX11_domains_39 (by decide) ?_
      refine mf_iload_n dX11_domains_40 rfl 2 rfl ?_
      refine mf_iast rfl dX11_domains_41 (fun s5 => ?_)
      refine mf_iconst 0 dX11_domains_42 (by decide) ?_
      refine mf_istore_n [(3, .int 0), (2, .int x3), (0, .ref 45), (1, .int p1)] dX11_domains_43 rfl (by decide) rfl ?_
      exact mf_sub [2, 3, 1, 0] rfl (wlX11_domains_44 l _ _ FU _ _)
set_option maxRecDepth 100000 in
set_option maxHeartbeats 4000000 in
theorem wX11_told (l : Launch) (p1 : Int32) (p2 : Int32) (p3 : Int32) (s : mx_G) : mf_M ei l yX11_told cX11_told 4 (some .int) 3 [.ref 45, .int p1, .int p2, .int p3] s (fX11_told p1 p2 p3 s) := by
  refine mf_intro rfl (Nat.le_of_ble_eq_true rfl) rfl rfl ?_
  refine mf_sub (loc' := [(0, .ref 45), (1, .int p1), (2, .int p2), (3, .int p3)]) [0, 1, 2, 3] rfl ?_
  unfold fX11_told
  refine mf_aload_n dX11_told_0 rfl 0 rfl ?_
  refine mf_iload_n dX11_told_1 rfl 1 rfl ?_
  refine mf_iload_n dX11_told_2 rfl 2 rfl ?_
  refine mf_callVi (stk := []) (wX11_areTwo l _ _ _) cl_X11_100 rfl (by decide) rfl rfl rfl (Nat.le_of_ble_eq_true rfl) rfl rfl dX11_told_3 (fun x1 s2 => ?_)
  refine mf_if_ne 11 dX11_told_6 (by decide) ?_ ?_
  · refine mf_iconst (-1) dX11_told_9 (by decide) ?_
    exact mf_iret dX11_told_10
  · refine mf_iload_n dX11_told_11 rfl 3 rfl ?_
    refine mf_if (fun c0 => mf_tabIn (off := 28) 40 dX11_told_12 c0 (by decide) (by decide) (by decide) (by decide) ?_) (fun c0 => ?_)
    · refine mf_aload_n dX11_told_40 rfl 0 rfl ?_
      refine mf_getR fl_X11_7 rfl rfl dX11_told_41 ?_
      refine mf_iconst 1 dX11_told_44 (by decide) ?_
      refine mf_iload_n dX11_told_45 rfl 1 rfl ?_
      refine mf_iload_n dX11_told_46 rfl 2 rfl ?_
      refine mf_callSi (stk := [.int 1, .ref 46]) (wX11_pair l _ _ _) cl_X11_96 rfl (by decide) rfl (Nat.le_of_ble_eq_true rfl) rfl rfl dX11_told_47 (fun x3 s4 => ?_)
      refine mf_iadd dX11_told_50 ?_
      refine mf_iald rfl dX11_told_51 ?_
      exact mf_iret dX11_told_52
    refine mf_if (fun c1 => mf_tabIn (off := 41) 53 dX11_told_12 c1 (by decide) (by decide) (by decide) (by decide) ?_) (fun c1 => ?_)
    · refine mf_aload_n dX11_told_53 rfl 0 rfl ?_
      refine mf_getR fl_X11_7 rfl rfl dX11_told_54 ?_
      refine mf_bipush 37 dX11_told_57 (by decide) ?_
      refine mf_iload_n dX11_told_59 rfl 1 rfl ?_
      refine mf_iload_n dX11_told_60 rfl 2 rfl ?_
      refine mf_callSi (stk := [.int 37, .ref 46]) (wX11_pair l _ _ _) cl_X11_96 rfl (by decide) rfl (Nat.le_of_ble_eq_true rfl) rfl rfl dX11_told_61 (fun x5 s6 => ?_)
      refine mf_iadd dX11_told_64 ?_
      refine mf_iald rfl dX11_told_65 ?_
      exact mf_iret dX11_told_66
    refine mf_if (fun c2 => mf_tabIn (off := 55) 67 dX11_told_12 c2 (by decide) (by decide) (by decide) (by decide) ?_) (fun c2 => ?_)
    · refine mf_aload_n dX11_told_67 rfl 0 rfl ?_
      refine mf_getR fl_X11_7 rfl rfl dX11_told_68 ?_
      refine mf_bipush 73 dX11_told_71 (by decide) ?_
      refine mf_iload_n dX11_told_73 rfl 1 rfl ?_
      refine mf_iload_n dX11_told_74 rfl 2 rfl ?_
      refine mf_callSi (stk := [.int 73, .ref 46]) (wX11_pair l _ _ _) cl_X11_96 rfl (by decide) rfl (Nat.le_of_ble_eq_true rfl) rfl rfl dX11_told_75 (fun x7 s8 => ?_)
      refine mf_iadd dX11_told_78 ?_
      refine mf_iald rfl dX11_told_79 ?_
      exact mf_iret dX11_told_80
    refine mf_tabOut 81 dX11_told_12 (fun j hj => by rcases (show j = 0 ∨ j = 1 ∨ j = 2 by omega) with rfl | rfl | rfl <;> assumption) (by decide) ?_
    refine mf_iconst (-1) dX11_told_81 (by decide) ?_
    exact mf_iret dX11_told_82
set_option maxRecDepth 100000 in
set_option maxHeartbeats 4000000 in
theorem wlX11_figures_7 (l : Launch)    : ∀ (n : Nat) (a1 : Int32) (a2 : Int32) (s0 : mx_G), mf_X ei l RX11 cX11_figures 3 (some .int) "figures" 0 (lX11_figures_7   n a1 a2 s0) 7 [(1, .int a1), (2, .int a2)] [] s0 := by
  intro n
  induction n with
  | zero => intro a1 a2 s0; exact mf_none
  | succ n ih7 =>
    intro a1 a2 s0
    rw [lX11_figures_7]
    refine mf_iload_n dX11_figures_7 rfl 1 rfl ?_
    refine mf_if_le 22 dX11_figures_8 (by decide) ?_ ?_
    · refine mf_iload_n dX11_figures_22 rfl 0 rfl ?_
      exact mf_iret dX11_figures_23
    · refine mf_iinc 1 [(1, .int (a1 + 1)), (2, .int a2)] dX11_figures_11 0 rfl (by decide) (by decide) rfl ?_
      refine mf_iload_n dX11_figures_14 rfl 1 rfl ?_
      refine mf_bipush 10 dX11_figures_15 (by decide) ?_
      refine mf_idiv (by decide) dX11_figures_17 ?_
      refine mf_leti (fun x2 => ?_)
      refine mf_istore_n [(2, .int x2), (1, .int (a1 + 1))] dX11_figures_18 rfl (by decide) rfl ?_
      refine mf_goto 7 dX11_figures_19 (by decide) ?_
      exact mf_sub [1, 0] rfl (ih7 _ _ _)
set_option maxRecDepth 100000 in
set_option maxHeartbeats 4000000 in
theorem wX11_figures (l : Launch) (p0 : Int32) (s : mx_G) : mf_M ei l yX11_figures cX11_figures 3 (some .int) 0 [.int p0] s (fX11_figures p0 s) := by
  refine mf_intro rfl (Nat.le_of_ble_eq_true rfl) rfl rfl ?_
  refine mf_sub (loc' := [(0, .int p0)]) [0] rfl ?_
  unfold fX11_figures
  refine mf_iconst 1 dX11_figures_0 (by decide) ?_
  refine mf_istore_n [(1, .int 1), (0, .int p0)] dX11_figures_1 rfl (by decide) rfl ?_
  refine mf_iload_n dX11_figures_2 rfl 1 rfl ?_
  refine mf_bipush 10 dX11_figures_3 (by decide) ?_
  refine mf_idiv (by decide) dX11_figures_5 ?_
  refine mf_leti (fun x1 => ?_)
  refine mf_istore_n [(2, .int x1), (1, .int 1), (0, .int p0)] dX11_figures_6 rfl (by decide) rfl ?_
  exact mf_sub [1, 0] rfl (wlX11_figures_7 l FU _ _ _)
set_option maxRecDepth 100000 in
set_option maxHeartbeats 4000000 in
theorem wlX11_figure_9 (l : Launch) (a1 : Int32)   : ∀ (n : Nat) (a2 : Int32) (a3 : Int32) (s0 : mx_G), mf_X ei l RX11 cX11_figure 4 (some .int) "figure" 1 (lX11_figure_9 a1  n a2 a3 s0) 9 [(1, .int a1), (2, .int a2), (3, .int a3)] [] s0 := by
  intro n
  induction n with
  | zero => intro a2 a3 s0; exact mf_none
  | succ n ih9 =>
    intro a2 a3 s0
    rw [lX11_figure_9]
    refine mf_iload_n dX11_figure_9 rfl 2 rfl ?_
    refine mf_iload_n dX11_figure_10 rfl 0 rfl ?_
    refine mf_icmp_le 25 dX11_figure_11 (by decide) ?_ ?_
    · refine mf_iload_n dX11_figure_25 rfl 1 rfl ?_
      refine mf_bipush 10 dX11_figure_26 (by decide) ?_
      refine mf_irem (by decide) dX11_figure_28 ?_
      exact mf_iret dX11_figure_29
    · refine mf_iload_n dX11_figure_14 rfl 1 rfl ?_
      refine mf_bipush 10 dX11_figure_15 (by decide) ?_
      refine mf_idiv (by decide) dX11_figure_17 ?_
      refine mf_leti (fun x4 => ?_)
      refine mf_istore_n [(2, .int x4), (1, .int a1), (3, .int a3)] dX11_figure_18 rfl (by decide) rfl ?_
      refine mf_iinc (-1) [(3, .int (a3 + (-1))), (2, .int x4), (1, .int a1)] dX11_figure_19 2 rfl (by decide) (by decide) rfl ?_
      refine mf_goto 9 dX11_figure_22 (by decide) ?_
      exact mf_sub [2, 1, 0] rfl (ih9 _ _ _)
set_option maxRecDepth 100000 in
set_option maxHeartbeats 4000000 in
theorem wX11_figure (l : Launch) (p0 : Int32) (p1 : Int32) (s : mx_G) : mf_M ei l yX11_figure cX11_figure 4 (some .int) 1 [.int p0, .int p1] s (fX11_figure p0 p1 s) := by
  refine mf_intro rfl (Nat.le_of_ble_eq_true rfl) rfl rfl ?_
  refine mf_sub (loc' := [(0, .int p0), (1, .int p1)]) [0, 1] rfl ?_
  unfold fX11_figure
  refine mf_iload_n dX11_figure_0 rfl 0 rfl ?_
  refine mf_istore_n [(2, .int p0), (0, .int p0), (1, .int p1)] dX11_figure_1 rfl (by decide) rfl ?_
  refine mf_iload_n dX11_figure_2 rfl 1 rfl ?_
  refine mf_callSi (stk := []) (wX11_figures l _ _) cl_X11_125 rfl (by decide) rfl (Nat.le_of_ble_eq_true rfl) rfl rfl dX11_figure_3 (fun x1 s2 => ?_)
  refine mf_iconst 1 dX11_figure_6 (by decide) ?_
  refine mf_isub dX11_figure_7 ?_
  refine mf_leti (fun x3 => ?_)
  refine mf_istore_n [(3, .int x3), (2, .int p0), (0, .int p0), (1, .int p1)] dX11_figure_8 rfl (by decide) rfl ?_
  exact mf_sub [3, 1, 0] rfl (wlX11_figure_9 l _ FU _ _ _)
set_option maxRecDepth 100000 in
set_option maxHeartbeats 4000000 in
theorem wlX11_setOf_9 (l : Launch)    : ∀ (n : Nat) (a1 : Int32) (a2 : Int32) (a3 : Int32) (s0 : mx_G), mf_X ei l RX11 cX11_setOf 4 (some .int) "setOf" 1 (lX11_setOf_9   n a1 a2 a3 s0) 9 [(1, .int a1), (2, .int a2), (3, .int a3)] [] s0 := by
  intro n
  induction n with
  | zero => intro a1 a2 a3 s0; exact mf_none
  | succ n ih9 =>
    intro a1 a2 a3 s0
    rw [lX11_setOf_9]
    refine mf_iload_n dX11_setOf_9 rfl 2 rfl ?_
    refine mf_if_le 33 dX11_setOf_10 (by decide) ?_ ?_
    · refine mf_iload_n dX11_setOf_33 rfl 0 rfl ?_
      exact mf_iret dX11_setOf_34
    · refine mf_iload_n dX11_setOf_13 rfl 0 rfl ?_
      refine mf_iconst 1 dX11_setOf_14 (by decide) ?_
      refine mf_iload_n dX11_setOf_15 rfl 1 rfl ?_
      refine mf_bipush 10 dX11_setOf_16 (by decide) ?_
      refine mf_irem (by decide) dX11_setOf_18 ?_
      refine mf_ishl dX11_setOf_19 ?_
      refine mf_ior dX11_setOf_20 ?_
      refine mf_leti (fun x3 => ?_)
      refine mf_istore_n [(1, .int x3), (2, .int a2), (3, .int a3)] dX11_setOf_21 rfl (by decide) rfl ?_
      refine mf_iload_n dX11_setOf_22 rfl 1 rfl ?_
      refine mf_bipush 10 dX11_setOf_23 (by decide) ?_
      refine mf_idiv (by decide) dX11_setOf_25 ?_
      refine mf_leti (fun x4 => ?_)
      refine mf_istore_n [(2, .int x4), (1, .int x3), (3, .int a3)] dX11_setOf_26 rfl (by decide) rfl ?_
      refine mf_iinc (-1) [(3, .int (a3 + (-1))), (2, .int x4), (1, .int x3)] dX11_setOf_27 2 rfl (by decide) (by decide) rfl ?_
      refine mf_goto 9 dX11_setOf_30 (by decide) ?_
      exact mf_sub [2, 1, 0] rfl (ih9 _ _ _ _)
set_option maxRecDepth 100000 in
set_option maxHeartbeats 4000000 in
theorem wX11_setOf (l : Launch) (p0 : Int32) (s : mx_G) : mf_M ei l yX11_setOf cX11_setOf 4 (some .int) 1 [.int p0] s (fX11_setOf p0 s) := by
  refine mf_intro rfl (Nat.le_of_ble_eq_true rfl) rfl rfl ?_
  refine mf_sub (loc' := [(0, .int p0)]) [0] rfl ?_
  unfold fX11_setOf
  refine mf_iconst 0 dX11_setOf_0 (by decide) ?_
  refine mf_istore_n [(1, .int 0), (0, .int p0)] dX11_setOf_1 rfl (by decide) rfl ?_
  refine mf_iload_n dX11_setOf_2 rfl 1 rfl ?_
  refine mf_istore_n [(2, .int p0), (1, .int 0), (0, .int p0)] dX11_setOf_3 rfl (by decide) rfl ?_
  refine mf_iload_n dX11_setOf_4 rfl 2 rfl ?_
  refine mf_callSi (stk := []) (wX11_figures l _ _) cl_X11_125 rfl (by decide) rfl (Nat.le_of_ble_eq_true rfl) rfl rfl dX11_setOf_5 (fun x1 s2 => ?_)
  refine mf_istore_n [(3, .int x1), (2, .int p0), (1, .int 0), (0, .int p0)] dX11_setOf_8 rfl (by decide) rfl ?_
  exact mf_sub [2, 1, 0] rfl (wlX11_setOf_9 l FU _ _ _ _)
set_option maxRecDepth 100000 in
set_option maxHeartbeats 4000000 in
theorem wX11_areLinked (l : Launch) (p1 : Int32) (p2 : Int32) (s : mx_G) : mf_M ei l yX11_areLinked cX11_areLinked 3 (some .boolean) 1 [.ref 45, .int p1, .int p2] s (fX11_areLinked p1 p2 s) := by
  refine mf_intro rfl (Nat.le_of_ble_eq_true rfl) rfl rfl ?_
  refine mf_sub (loc' := [(0, .ref 45), (1, .int p1), (2, .int p2)]) [0, 1, 2] rfl ?_
  unfold fX11_areLinked
  refine mf_aload_n dX11_areLinked_0 rfl 0 rfl ?_
  refine mf_getR fl_X11_7 rfl rfl dX11_areLinked_1 ?_
  refine mf_iconst 1 dX11_areLinked_4 (by decide) ?_
  refine mf_iload_n dX11_areLinked_5 rfl 1 rfl ?_
  refine mf_iload_n dX11_areLinked_6 rfl 2 rfl ?_
  refine mf_callSi (stk := [.int 1, .ref 46]) (wX11_pair l _ _ _) cl_X11_96 rfl (by decide) rfl (Nat.le_of_ble_eq_true rfl) rfl rfl dX11_areLinked_7 (fun x1 s2 => ?_)
  refine mf_iadd dX11_areLinked_10 ?_
  refine mf_iald rfl dX11_areLinked_11 ?_
  refine mf_if_le 35 dX11_areLinked_12 (by decide) ?_ ?_
  · refine mf_iconst 0 dX11_areLinked_35 (by decide) ?_
    exact mf_zret (by decide) dX11_areLinked_36
  · refine mf_aload_n dX11_areLinked_15 rfl 0 rfl ?_
    refine mf_getR fl_X11_7 rfl rfl dX11_areLinked_16 ?_
    refine mf_bipush 37 dX11_areLinked_19 (by decide) ?_
    refine mf_iload_n dX11_areLinked_21 rfl 1 rfl ?_
    refine mf_iload_n dX11_areLinked_22 rfl 2 rfl ?_
    refine mf_callSi (stk := [.int 37, .ref 46]) (wX11_pair l _ _ _) cl_X11_96 rfl (by decide) rfl (Nat.le_of_ble_eq_true rfl) rfl rfl dX11_areLinked_23 (fun x3 s4 => ?_)
    refine mf_iadd dX11_areLinked_26 ?_
    refine mf_iald rfl dX11_areLinked_27 ?_
    refine mf_if_ne 35 dX11_areLinked_28 (by decide) ?_ ?_
    · refine mf_iconst 1 dX11_areLinked_31 (by decide) ?_
      refine mf_goto 36 dX11_areLinked_32 (by decide) ?_
      exact mf_zret (by decide) dX11_areLinked_36
    · refine mf_iconst 0 dX11_areLinked_35 (by decide) ?_
      exact mf_zret (by decide) dX11_areLinked_36
set_option maxRecDepth 100000 in
set_option maxHeartbeats 4000000 in
theorem wX11_second (l : Launch) (p0 : Int32) (s : mx_G) : mf_M ei l yX11_second cX11_second 1 (some .int) 2 [.int p0] s (fX11_second p0 s) := by
  refine mf_intro rfl (Nat.le_of_ble_eq_true rfl) rfl rfl ?_
  refine mf_sub (loc' := [(0, .int p0)]) [0] rfl ?_
  unfold fX11_second
  refine mf_iload_n dX11_second_0 rfl 0 rfl ?_
  refine mf_if_ne 8 dX11_second_1 (by decide) ?_ ?_
  · refine mf_iconst (-1) dX11_second_4 (by decide) ?_
    refine mf_goto 13 dX11_second_5 (by decide) ?_
    exact mf_iret dX11_second_13
  · refine mf_iload_n dX11_second_8 rfl 0 rfl ?_
    refine mf_iconst 1 dX11_second_9 (by decide) ?_
    refine mf_callSi (stk := []) (wX11_figure l _ _ _) cl_X11_135 rfl (by decide) rfl (Nat.le_of_ble_eq_true rfl) rfl rfl dX11_second_10 (fun x1 s2 => ?_)
    exact mf_iret dX11_second_13
set_option maxRecDepth 100000 in
set_option maxHeartbeats 4000000 in
theorem wX11_isCustomer (l : Launch) (p1 : Int32) (p2 : Int32) (s : mx_G) : mf_M ei l yX11_isCustomer cX11_isCustomer 3 (some .boolean) 1 [.ref 45, .int p1, .int p2] s (fX11_isCustomer p1 p2 s) := by
  refine mf_intro rfl (Nat.le_of_ble_eq_true rfl) rfl rfl ?_
  refine mf_sub (loc' := [(0, .ref 45), (1, .int p1), (2, .int p2)]) [0, 1, 2] rfl ?_
  unfold fX11_isCustomer
  refine mf_aload_n dX11_isCustomer_0 rfl 0 rfl ?_
  refine mf_getR fl_X11_7 rfl rfl dX11_isCustomer_1 ?_
  refine mf_iconst 1 dX11_isCustomer_4 (by decide) ?_
  refine mf_iload_n dX11_isCustomer_5 rfl 1 rfl ?_
  refine mf_iload_n dX11_isCustomer_6 rfl 2 rfl ?_
  refine mf_callSi (stk := [.int 1, .ref 46]) (wX11_pair l _ _ _) cl_X11_96 rfl (by decide) rfl (Nat.le_of_ble_eq_true rfl) rfl rfl dX11_isCustomer_7 (fun x1 s2 => ?_)
  refine mf_iadd dX11_isCustomer_10 ?_
  refine mf_iald rfl dX11_isCustomer_11 ?_
  refine mf_iconst 1 dX11_isCustomer_12 (by decide) ?_
  refine mf_icmp_ne 20 dX11_isCustomer_13 (by decide) ?_ ?_
  · refine mf_iconst 1 dX11_isCustomer_16 (by decide) ?_
    refine mf_goto 21 dX11_isCustomer_17 (by decide) ?_
    exact mf_zret (by decide) dX11_isCustomer_21
  · refine mf_iconst 0 dX11_isCustomer_20 (by decide) ?_
    exact mf_zret (by decide) dX11_isCustomer_21
set_option maxRecDepth 100000 in
set_option maxHeartbeats 4000000 in
theorem wX11_lets (l : Launch) (p1 : Int32) (p2 : Int32) (p3 : Int32) (s : mx_G) : mf_M ei l yX11_lets cX11_lets 4 (some .boolean) 2 [.ref 45, .int p1, .int p2, .int p3] s (fX11_lets p1 p2 p3 s) := by
  refine mf_intro rfl (Nat.le_of_ble_eq_true rfl) rfl rfl ?_
  refine mf_sub (loc' := [(0, .ref 45), (1, .int p1), (2, .int p2), (3, .int p3)]) [0, 1, 2, 3] rfl ?_
  unfold fX11_lets
  refine mf_aload_n dX11_lets_0 rfl 0 rfl ?_
  refine mf_getR fl_X11_7 rfl rfl dX11_lets_1 ?_
  refine mf_bipush 109 dX11_lets_4 (by decide) ?_
  refine mf_iload_n dX11_lets_6 rfl 1 rfl ?_
  refine mf_iadd dX11_lets_7 ?_
  refine mf_iald rfl dX11_lets_8 ?_
  refine mf_iconst 2 dX11_lets_9 (by decide) ?_
  refine mf_iand dX11_lets_10 ?_
  refine mf_if_eq 36 dX11_lets_11 (by decide) ?_ ?_
  · refine mf_iconst 1 dX11_lets_36 (by decide) ?_
    refine mf_goto 41 dX11_lets_37 (by decide) ?_
    exact mf_zret (by decide) dX11_lets_41
  · refine mf_aload_n dX11_lets_14 rfl 0 rfl ?_
    refine mf_iload_n dX11_lets_15 rfl 1 rfl ?_
    refine mf_iload_n dX11_lets_16 rfl 2 rfl ?_
    refine mf_callVi (stk := []) (wX11_isCustomer l _ _ _) cl_X11_132 rfl (by decide) rfl rfl rfl (Nat.le_of_ble_eq_true rfl) rfl rfl dX11_lets_17 (fun x1 s2 => ?_)
    refine mf_if_ne 36 dX11_lets_20 (by decide) ?_ ?_
    · refine mf_iload_n dX11_lets_23 rfl 3 rfl ?_
      refine mf_if_lt 36 dX11_lets_24 (by decide) ?_ ?_
      · refine mf_iconst 1 dX11_lets_36 (by decide) ?_
        refine mf_goto 41 dX11_lets_37 (by decide) ?_
        exact mf_zret (by decide) dX11_lets_41
      · refine mf_aload_n dX11_lets_27 rfl 0 rfl ?_
        refine mf_iload_n dX11_lets_28 rfl 1 rfl ?_
        refine mf_iload_n dX11_lets_29 rfl 3 rfl ?_
        refine mf_callVi (stk := []) (wX11_isCustomer l _ _ _) cl_X11_132 rfl (by decide) rfl rfl rfl (Nat.le_of_ble_eq_true rfl) rfl rfl dX11_lets_30 (fun x3 s4 => ?_)
        refine mf_if_eq 40 dX11_lets_33 (by decide) ?_ ?_
        · refine mf_iconst 0 dX11_lets_40 (by decide) ?_
          exact mf_zret (by decide) dX11_lets_41
        · refine mf_iconst 1 dX11_lets_36 (by decide) ?_
          refine mf_goto 41 dX11_lets_37 (by decide) ?_
          exact mf_zret (by decide) dX11_lets_41
    · refine mf_iconst 1 dX11_lets_36 (by decide) ?_
      refine mf_goto 41 dX11_lets_37 (by decide) ?_
      exact mf_zret (by decide) dX11_lets_41
set_option maxRecDepth 100000 in
set_option maxHeartbeats 4000000 in
theorem wX11_takes (l : Launch) (p1 : Int32) (p2 : Int32) (s : mx_G) : mf_M ei l yX11_takes cX11_takes 5 (some .boolean) 3 [.ref 45, .int p1, .int p2] s (fX11_takes p1 p2 s) := by
  refine mf_intro rfl (Nat.le_of_ble_eq_true rfl) rfl rfl ?_
  refine mf_sub (loc' := [(0, .ref 45), (1, .int p1), (2, .int p2)]) [0, 1, 2] rfl ?_
  unfold fX11_takes
  refine mf_iload_n dX11_takes_0 rfl 2 rfl ?_
  refine mf_iconst 0 dX11_takes_1 (by decide) ?_
  refine mf_callSi (stk := []) (wX11_figure l _ _ _) cl_X11_135 rfl (by decide) rfl (Nat.le_of_ble_eq_true rfl) rfl rfl dX11_takes_2 (fun x1 s2 => ?_)
  refine mf_istore_n [(3, .int x1), (0, .ref 45), (1, .int p1), (2, .int p2)] dX11_takes_5 rfl (by decide) rfl ?_
  refine mf_iload_n dX11_takes_6 rfl 3 rfl ?_
  refine mf_callSi (stk := []) (wX11_setOf l _ _) cl_X11_138 rfl (by decide) rfl (Nat.le_of_ble_eq_true rfl) rfl rfl dX11_takes_7 (fun x3 s4 => ?_)
  refine mf_istore [(4, .int x3), (3, .int x1), (0, .ref 45), (1, .int p1), (2, .int p2)] dX11_takes_10 (by decide) rfl ?_
  refine mf_aload_n dX11_takes_12 rfl 2 rfl ?_
  refine mf_iload_n dX11_takes_13 rfl 3 rfl ?_
  refine mf_iload_n dX11_takes_14 rfl 1 rfl ?_
  refine mf_callVi (stk := []) (wX11_areLinked l _ _ _) cl_X11_141 rfl (by decide) rfl rfl rfl (Nat.le_of_ble_eq_true rfl) rfl rfl dX11_takes_15 (fun x5 s6 => ?_)
  refine mf_if_eq 62 dX11_takes_18 (by decide) ?_ ?_
  · refine mf_iconst 0 dX11_takes_62 (by decide) ?_
    exact mf_zret (by decide) dX11_takes_63
  · refine mf_iload dX11_takes_21 0 rfl ?_
    refine mf_iload_n dX11_takes_23 rfl 3 rfl ?_
    refine mf_callSi (stk := []) (wX11_has l _ _ _) cl_X11_118 rfl (by decide) rfl (Nat.le_of_ble_eq_true rfl) rfl rfl dX11_takes_24 (fun x7 s8 => ?_)
    refine mf_if_ne 62 dX11_takes_27 (by decide) ?_ ?_
    · refine mf_aload_n dX11_takes_30 rfl 2 rfl ?_
      refine mf_getR fl_X11_7 rfl rfl dX11_takes_31 ?_
      refine mf_bipush 115 dX11_takes_34 (by decide) ?_
      refine mf_iload_n dX11_takes_36 rfl 3 rfl ?_
      refine mf_iadd dX11_takes_37 ?_
      refine mf_iald rfl dX11_takes_38 ?_
      refine mf_iload dX11_takes_39 0 rfl ?_
      refine mf_iand dX11_takes_41 ?_
      refine mf_if_ne 62 dX11_takes_42 (by decide) ?_ ?_
      · refine mf_aload_n dX11_takes_45 rfl 2 rfl ?_
        refine mf_iload_n dX11_takes_46 rfl 1 rfl ?_
        refine mf_iload_n dX11_takes_47 rfl 3 rfl ?_
        refine mf_iload_n dX11_takes_48 rfl 4 rfl ?_
        refine mf_callSi (stk := [.int p1, .int x1, .ref 45]) (wX11_second l _ _) cl_X11_144 rfl (by decide) rfl (Nat.le_of_ble_eq_true rfl) rfl rfl dX11_takes_49 (fun x9 s10 => ?_)
        refine mf_callVi (stk := []) (wX11_lets l _ _ _ _) cl_X11_147 rfl (by decide) rfl rfl rfl (Nat.le_of_ble_eq_true rfl) rfl rfl dX11_takes_52 (fun x11 s12 => ?_)
        refine mf_if_eq 62 dX11_takes_55 (by decide) ?_ ?_
        · refine mf_iconst 0 dX11_takes_62 (by decide) ?_
          exact mf_zret (by decide) dX11_takes_63
        · refine mf_iconst 1 dX11_takes_58 (by decide) ?_
          refine mf_goto 63 dX11_takes_59 (by decide) ?_
          exact mf_zret (by decide) dX11_takes_63
      · refine mf_iconst 0 dX11_takes_62 (by decide) ?_
        exact mf_zret (by decide) dX11_takes_63
    · refine mf_iconst 0 dX11_takes_62 (by decide) ?_
      exact mf_zret (by decide) dX11_takes_63
set_option maxRecDepth 100000 in
set_option maxHeartbeats 4000000 in
theorem wlX11_ten_4 (l : Launch) (a0 : Int32)   : ∀ (n : Nat) (a1 : Int32) (a2 : Int32) (s0 : mx_G), mf_X ei l RX11 cX11_ten 3 (some .int) "ten" 0 (lX11_ten_4 a0  n a1 a2 s0) 4 [(0, .int a0), (1, .int a1), (2, .int a2)] [] s0 := by
  intro n
  induction n with
  | zero => intro a1 a2 s0; exact mf_none
  | succ n ih4 =>
    intro a1 a2 s0
    rw [lX11_ten_4]
    refine mf_iload_n dX11_ten_4 rfl 2 rfl ?_
    refine mf_iload_n dX11_ten_5 rfl 0 rfl ?_
    refine mf_icmp_ge 20 dX11_ten_6 (by decide) ?_ ?_
    · refine mf_iload_n dX11_ten_20 rfl 1 rfl ?_
      exact mf_iret dX11_ten_21
    · refine mf_iload_n dX11_ten_9 rfl 1 rfl ?_
      refine mf_bipush 10 dX11_ten_10 (by decide) ?_
      refine mf_imul dX11_ten_12 ?_
      refine mf_leti (fun x1 => ?_)
      refine mf_istore_n [(1, .int x1), (0, .int a0), (2, .int a2)] dX11_ten_13 rfl (by decide) rfl ?_
      refine mf_iinc 1 [(2, .int (a2 + 1)), (1, .int x1), (0, .int a0)] dX11_ten_14 2 rfl (by decide) (by decide) rfl ?_
      refine mf_goto 4 dX11_ten_17 (by decide) ?_
      exact mf_sub [2, 1, 0] rfl (ih4 _ _ _)
set_option maxRecDepth 100000 in
set_option maxHeartbeats 4000000 in
theorem wX11_ten (l : Launch) (p0 : Int32) (s : mx_G) : mf_M ei l yX11_ten cX11_ten 3 (some .int) 0 [.int p0] s (fX11_ten p0 s) := by
  refine mf_intro rfl (Nat.le_of_ble_eq_true rfl) rfl rfl ?_
  refine mf_sub (loc' := [(0, .int p0)]) [0] rfl ?_
  unfold fX11_ten
  refine mf_iconst 1 dX11_ten_0 (by decide) ?_
  refine mf_istore_n [(1, .int 1), (0, .int p0)] dX11_ten_1 rfl (by decide) rfl ?_
  refine mf_iconst 0 dX11_ten_2 (by decide) ?_
  refine mf_istore_n [(2, .int 0), (1, .int 1), (0, .int p0)] dX11_ten_3 rfl (by decide) rfl ?_
  exact mf_sub [2, 1, 0] rfl (wlX11_ten_4 l _ FU _ _ _)
set_option maxRecDepth 100000 in
set_option maxHeartbeats 4000000 in
theorem wX11_together (l : Launch) (p0 : Int32) (p1 : Int32) (s : mx_G) : mf_M ei l yX11_together cX11_together 2 (some .int) 1 [.int p0, .int p1] s (fX11_together p0 p1 s) := by
  refine mf_intro rfl (Nat.le_of_ble_eq_true rfl) rfl rfl ?_
  refine mf_sub (loc' := [(0, .int p0), (1, .int p1)]) [0, 1] rfl ?_
  unfold fX11_together
  refine mf_iload_n dX11_together_0 rfl 0 rfl ?_
  refine mf_iload_n dX11_together_1 rfl 1 rfl ?_
  refine mf_callSi (stk := [.int p0]) (wX11_figures l _ _) cl_X11_125 rfl (by decide) rfl (Nat.le_of_ble_eq_true rfl) rfl rfl dX11_together_2 (fun x1 s2 => ?_)
  refine mf_callSi (stk := [.int p0]) (wX11_ten l _ _) cl_X11_129 rfl (by decide) rfl (Nat.le_of_ble_eq_true rfl) rfl rfl dX11_together_5 (fun x3 s4 => ?_)
  refine mf_imul dX11_together_8 ?_
  refine mf_iload_n dX11_together_9 rfl 1 rfl ?_
  refine mf_iadd dX11_together_10 ?_
  exact mf_iret dX11_together_11
set_option maxRecDepth 100000 in
set_option maxHeartbeats 4000000 in
theorem wlX11_laysWays_31 (l : Launch) (a1 : Int32) (k100 : mx_G → Option (Unit × mx_G)) (hk100 : ∀ (sz : mx_G), mf_X ev l RX11 cX11_laysWays 3 none "laysWays" 4 (k100 sz) 100 [(0, .ref 45), (1, .int a1)] [] sz) : ∀ (n : Nat) (a2 : Int32) (s0 : mx_G), mf_X ev l RX11 cX11_laysWays 3 none "laysWays" 4 (lX11_laysWays_31 a1 k100 n a2 s0) 31 [(0, .ref 45), (1, .int a1), (2, .int a2)] [] s0 := by
  intro n
  induction n with
  | zero => intro a2 s0; exact mf_none
  | succ n ih31 =>
    intro a2 s0
    rw [lX11_laysWays_31]
    refine mf_iload_n dX11_laysWays_31 rfl 2 rfl ?_
    refine mf_aload_n dX11_laysWays_32 rfl 0 rfl ?_
    refine mf_getR fl_X11_7 rfl rfl dX11_laysWays_33 ?_
    refine mf_iconst 0 dX11_laysWays_36 (by decide) ?_
    refine mf_iald rfl dX11_laysWays_37 ?_
    refine mf_icmp_ge 100 dX11_laysWays_38 (by decide) ?_ ?_
    · exact mf_sub [0, 1] rfl (hk100 _)
    · refine mf_aload_n dX11_laysWays_41 rfl 0 rfl ?_
      refine mf_iload_n dX11_laysWays_42 rfl 2 rfl ?_
      refine mf_aload_n dX11_laysWays_43 rfl 0 rfl ?_
      refine mf_getR fl_X11_39 rfl rfl dX11_laysWays_44 ?_
      refine mf_iload_n dX11_laysWays_47 rfl 1 rfl ?_
      refine mf_iald rfl dX11_laysWays_48 ?_
      refine mf_callVi (stk := []) (wX11_takes l _ _ _) cl_X11_154 rfl (by decide) rfl rfl rfl (Nat.le_of_ble_eq_true rfl) rfl rfl dX11_laysWays_49 (fun x4 s5 => ?_)
      refine mf_if_eq 94 dX11_laysWays_52 (by decide) ?_ ?_
      · refine mf_iinc 1 [(2, .int (a2 + 1)), (0, .ref 45), (1, .int a1)] dX11_laysWays_94 2 rfl (by decide) (by decide) rfl ?_
        refine mf_goto 31 dX11_laysWays_97 (by decide) ?_
        exact mf_sub [1, 2, 0] rfl (ih31 _ _)
      · refine mf_aload_n dX11_laysWays_55 rfl 0 rfl ?_
        refine mf_getR fl_X11_39 rfl rfl dX11_laysWays_56 ?_
        refine mf_aload_n dX11_laysWays_59 rfl 0 rfl ?_
        refine mf_getI fl_X11_151 rfl rfl dX11_laysWays_60 ?_
        refine mf_iload_n dX11_laysWays_63 rfl 2 rfl ?_
        refine mf_aload_n dX11_laysWays_64 rfl 0 rfl ?_
        refine mf_getR fl_X11_39 rfl rfl dX11_laysWays_65 ?_
        refine mf_iload_n dX11_laysWays_68 rfl 1 rfl ?_
        refine mf_iald rfl dX11_laysWays_69 ?_
        refine mf_callSi (stk := [.int (s5.1 45 13), .ref 54]) (wX11_together l _ _ _) cl_X11_157 rfl (by decide) rfl (Nat.le_of_ble_eq_true rfl) rfl rfl dX11_laysWays_70 (fun x6 s7 => ?_)
        refine mf_iast rfl dX11_laysWays_73 (fun s8 => ?_)
        refine mf_aload_n dX11_laysWays_74 rfl 0 rfl ?_
        refine mf_getR fl_X11_42 rfl rfl dX11_laysWays_75 ?_
        refine mf_aload_n dX11_laysWays_78 rfl 0 rfl ?_
        refine mf_getI fl_X11_151 rfl rfl dX11_laysWays_79 ?_
        refine mf_iload_n dX11_laysWays_82 rfl 2 rfl ?_
        refine mf_iast rfl dX11_laysWays_83 (fun s9 => ?_)
        refine mf_aload_n dX11_laysWays_84 rfl 0 rfl ?_
        refine mf_dup rfl dX11_laysWays_85 ?_
        refine mf_getI fl_X11_151 rfl rfl dX11_laysWays_86 ?_
        refine mf_iconst 1 dX11_laysWays_89 (by decide) ?_
        refine mf_iadd dX11_laysWays_90 ?_
        refine mf_putI fl_X11_151 rfl rfl dX11_laysWays_91 (fun s10 => ?_)
        refine mf_iinc 1 [(2, .int (a2 + 1)), (0, .ref 45), (1, .int a1)] dX11_laysWays_94 2 rfl (by decide) (by decide) rfl ?_
        refine mf_goto 31 dX11_laysWays_97 (by decide) ?_
        exact mf_sub [1, 2, 0] rfl (ih31 _ _)
set_option maxRecDepth 100000 in
set_option maxHeartbeats 4000000 in
theorem wlX11_laysWays_21 (l : Launch)    : ∀ (n : Nat) (a1 : Int32) (s0 : mx_G), mf_X ev l RX11 cX11_laysWays 3 none "laysWays" 4 (lX11_laysWays_21   n a1 s0) 21 [(0, .ref 45), (1, .int a1)] [] s0 := by
  intro n
  induction n with
  | zero => intro a1 s0; exact mf_none
  | succ n ih21 =>
    intro a1 s0
    rw [lX11_laysWays_21]
    refine mf_iload_n dX11_laysWays_21 rfl 1 rfl ?_
    refine mf_aload_n dX11_laysWays_22 rfl 0 rfl ?_
    refine mf_getI fl_X11_151 rfl rfl dX11_laysWays_23 ?_
    refine mf_icmp_ge 106 dX11_laysWays_26 (by decide) ?_ ?_
    · exact mf_vret dX11_laysWays_106
    · refine mf_iconst 1 dX11_laysWays_29 (by decide) ?_
      refine mf_istore_n [(2, .int 1), (0, .ref 45), (1, .int a1)] dX11_laysWays_30 rfl (by decide) rfl ?_
      refine mf_sub [1, 2, 0] rfl (wlX11_laysWays_31 l _ _ (fun s11 => ?_) FU _ _)
      refine mf_iinc 1 [(1, .int (a1 + 1)), (0, .ref 45)] dX11_laysWays_100 1 rfl (by decide) (by decide) rfl ?_
      refine mf_goto 21 dX11_laysWays_103 (by decide) ?_
      exact mf_sub [1, 0] rfl (ih21 _ _)
set_option maxRecDepth 100000 in
set_option maxHeartbeats 4000000 in
theorem wX11_laysWays (l : Launch) (s : mx_G) : mf_M ev l yX11_laysWays cX11_laysWays 3 none 4 [.ref 45] s (fX11_laysWays  s) := by
  refine mf_intro rfl (Nat.le_of_ble_eq_true rfl) rfl rfl ?_
  refine mf_sub (loc' := [(0, .ref 45)]) [0] rfl ?_
  unfold fX11_laysWays
  refine mf_aload_n dX11_laysWays_0 rfl 0 rfl ?_
  refine mf_iconst 1 dX11_laysWays_1 (by decide) ?_
  refine mf_putI fl_X11_151 rfl rfl dX11_laysWays_2 (fun s1 => ?_)
  refine mf_aload_n dX11_laysWays_5 rfl 0 rfl ?_
  refine mf_getR fl_X11_39 rfl rfl dX11_laysWays_6 ?_
  refine mf_iconst 0 dX11_laysWays_9 (by decide) ?_
  refine mf_iconst 0 dX11_laysWays_10 (by decide) ?_
  refine mf_iast rfl dX11_laysWays_11 (fun s2 => ?_)
  refine mf_aload_n dX11_laysWays_12 rfl 0 rfl ?_
  refine mf_getR fl_X11_42 rfl rfl dX11_laysWays_13 ?_
  refine mf_iconst 0 dX11_laysWays_16 (by decide) ?_
  refine mf_iconst 0 dX11_laysWays_17 (by decide) ?_
  refine mf_iast rfl dX11_laysWays_18 (fun s3 => ?_)
  refine mf_iconst 0 dX11_laysWays_19 (by decide) ?_
  refine mf_istore_n [(1, .int 0), (0, .ref 45)] dX11_laysWays_20 rfl (by decide) rfl ?_
  exact mf_sub [1, 0] rfl (wlX11_laysWays_21 l FU _ _)
set_option maxRecDepth 100000 in
set_option maxHeartbeats 4000000 in
theorem wX11_isBetter (l : Launch) (p1 : Int32) (p2 : Int32) (p3 : Int32) (s : mx_G) : mf_M ei l yX11_isBetter cX11_isBetter 8 (some .boolean) 2 [.ref 45, .int p1, .int p2, .int p3] s (fX11_isBetter p1 p2 p3 s) := by
  refine mf_intro rfl (Nat.le_of_ble_eq_true rfl) rfl rfl ?_
  refine mf_sub (loc' := [(0, .ref 45), (1, .int p1), (2, .int p2), (3, .int p3)]) [0, 1, 2, 3] rfl ?_
  unfold fX11_isBetter
  refine mf_iload_n dX11_isBetter_0 rfl 2 rfl ?_
  refine mf_iconst 1 dX11_isBetter_1 (by decide) ?_
  refine mf_callSi (stk := []) (wX11_figure l _ _ _) cl_X11_135 rfl (by decide) rfl (Nat.le_of_ble_eq_true rfl) rfl rfl dX11_isBetter_2 (fun x1 s2 => ?_)
  refine mf_istore [(4, .int x1), (0, .ref 45), (1, .int p1), (2, .int p2), (3, .int p3)] dX11_isBetter_5 (by decide) rfl ?_
  refine mf_iload_n dX11_isBetter_7 rfl 4 rfl ?_
  refine mf_iconst 1 dX11_isBetter_8 (by decide) ?_
  refine mf_callSi (stk := []) (wX11_figure l _ _ _) cl_X11_135 rfl (by decide) rfl (Nat.le_of_ble_eq_true rfl) rfl rfl dX11_isBetter_9 (fun x3 s4 => ?_)
  refine mf_istore [(5, .int x3), (4, .int x1), (0, .ref 45), (1, .int p1), (2, .int p2), (3, .int p3)] dX11_isBetter_12 (by decide) rfl ?_
  refine mf_aload_n dX11_isBetter_14 rfl 2 rfl ?_
  refine mf_getR fl_X11_7 rfl rfl dX11_isBetter_15 ?_
  refine mf_iconst 1 dX11_isBetter_18 (by decide) ?_
  refine mf_iload_n dX11_isBetter_19 rfl 3 rfl ?_
  refine mf_iload dX11_isBetter_20 1 rfl ?_
  refine mf_callSi (stk := [.int 1, .ref 46]) (wX11_pair l _ _ _) cl_X11_96 rfl (by decide) rfl (Nat.le_of_ble_eq_true rfl) rfl rfl dX11_isBetter_22 (fun x5 s6 => ?_)
  refine mf_iadd dX11_isBetter_25 ?_
  refine mf_iald rfl dX11_isBetter_26 ?_
  refine mf_aload_n dX11_isBetter_27 rfl 2 rfl ?_
  refine mf_getR fl_X11_7 rfl rfl dX11_isBetter_28 ?_
  refine mf_iconst 1 dX11_isBetter_31 (by decide) ?_
  refine mf_iload_n dX11_isBetter_32 rfl 3 rfl ?_
  refine mf_iload dX11_isBetter_33 0 rfl ?_
  refine mf_callSi (stk := [.int 1, .ref 46, .int (s6.1 46 (Int32.toNatClampNeg (1 + x5)))]) (wX11_pair l _ _ _) cl_X11_96 rfl (by decide) rfl (Nat.le_of_ble_eq_true rfl) rfl rfl dX11_isBetter_35 (fun x7 s8 => ?_)
  refine mf_iadd dX11_isBetter_38 ?_
  refine mf_iald rfl dX11_isBetter_39 ?_
  refine mf_isub dX11_isBetter_40 ?_
  refine mf_leti (fun x9 => ?_)
  refine mf_istore [(6, .int x9), (5, .int x3), (4, .int x1), (0, .ref 45), (1, .int p1), (2, .int p2), (3, .int p3)] dX11_isBetter_41 (by decide) rfl ?_
  refine mf_aload_n dX11_isBetter_43 rfl 3 rfl ?_
  refine mf_getR fl_X11_7 rfl rfl dX11_isBetter_44 ?_
  refine mf_bipush 109 dX11_isBetter_47 (by decide) ?_
  refine mf_iload_n dX11_isBetter_49 rfl 4 rfl ?_
  refine mf_iadd dX11_isBetter_50 ?_
  refine mf_iald rfl dX11_isBetter_51 ?_
  refine mf_iconst 1 dX11_isBetter_52 (by decide) ?_
  refine mf_iand dX11_isBetter_53 ?_
  refine mf_iconst 1 dX11_isBetter_54 (by decide) ?_
  refine mf_join (fun (J : mx_G → Option (Int32 × mx_G)) => ∀ (s_74 : mx_G), mf_X ei l RX11 cX11_isBetter 8 (some .boolean) "isBetter" 2 (J s_74) 74 [(0, .ref 45), (1, .int p1), (2, .int p2), (3, .int p3), (4, .int x1), (5, .int x3)] [] s_74) ?_ (fun J74 hJ74 => ?_)
  · intro s_74
    refine mf_aload_n dX11_isBetter_74 rfl 0 rfl ?_
    refine mf_getR fl_X11_7 rfl rfl dX11_isBetter_75 ?_
    refine mf_bipush 73 dX11_isBetter_78 (by decide) ?_
    refine mf_iload_n dX11_isBetter_80 rfl 1 rfl ?_
    refine mf_iload dX11_isBetter_81 4 rfl ?_
    refine mf_callSi (stk := [.int 73, .ref 46]) (wX11_pair l _ _ _) cl_X11_96 rfl (by decide) rfl (Nat.le_of_ble_eq_true rfl) rfl rfl dX11_isBetter_83 (fun x10 s11 => ?_)
    refine mf_iadd dX11_isBetter_86 ?_
    refine mf_iald rfl dX11_isBetter_87 ?_
    refine mf_aload_n dX11_isBetter_88 rfl 0 rfl ?_
    refine mf_getR fl_X11_7 rfl rfl dX11_isBetter_89 ?_
    refine mf_bipush 73 dX11_isBetter_92 (by decide) ?_
    refine mf_iload_n dX11_isBetter_94 rfl 1 rfl ?_
    refine mf_iload dX11_isBetter_95 5 rfl ?_
    refine mf_callSi (stk := [.int 73, .ref 46, .int (s11.1 46 (Int32.toNatClampNeg (73 + x10)))]) (wX11_pair l _ _ _) cl_X11_96 rfl (by decide) rfl (Nat.le_of_ble_eq_true rfl) rfl rfl dX11_isBetter_97 (fun x12 s13 => ?_)
    refine mf_iadd dX11_isBetter_100 ?_
    refine mf_iald rfl dX11_isBetter_101 ?_
    refine mf_isub dX11_isBetter_102 ?_
    refine mf_leti (fun x14 => ?_)
    refine mf_istore [(7, .int x14), (0, .ref 45), (1, .int p1), (2, .int p2), (3, .int p3), (4, .int x1), (5, .int x3)] dX11_isBetter_103 (by decide) rfl ?_
    refine mf_iload dX11_isBetter_105 0 rfl ?_
    refine mf_if_eq 121 dX11_isBetter_107 (by decide) ?_ ?_
    · refine mf_iload_n dX11_isBetter_121 rfl 3 rfl ?_
      refine mf_callSi (stk := []) (wX11_figures l _ _) cl_X11_125 rfl (by decide) rfl (Nat.le_of_ble_eq_true rfl) rfl rfl dX11_isBetter_122 (fun x15 s16 => ?_)
      refine mf_iload_n dX11_isBetter_125 rfl 4 rfl ?_
      refine mf_callSi (stk := [.int x15]) (wX11_figures l _ _) cl_X11_125 rfl (by decide) rfl (Nat.le_of_ble_eq_true rfl) rfl rfl dX11_isBetter_126 (fun x17 s18 => ?_)
      refine mf_icmp_eq 151 dX11_isBetter_129 (by decide) ?_ ?_
      · refine mf_iload_n dX11_isBetter_151 rfl 3 rfl ?_
        refine mf_iload_n dX11_isBetter_152 rfl 4 rfl ?_
        refine mf_icmp_ge 160 dX11_isBetter_153 (by decide) ?_ ?_
        · refine mf_iconst 0 dX11_isBetter_160 (by decide) ?_
          exact mf_zret (by decide) dX11_isBetter_161
        · refine mf_iconst 1 dX11_isBetter_156 (by decide) ?_
          refine mf_goto 161 dX11_isBetter_157 (by decide) ?_
          exact mf_zret (by decide) dX11_isBetter_161
      · refine mf_iload_n dX11_isBetter_132 rfl 3 rfl ?_
        refine mf_callSi (stk := []) (wX11_figures l _ _) cl_X11_125 rfl (by decide) rfl (Nat.le_of_ble_eq_true rfl) rfl rfl dX11_isBetter_133 (fun x19 s20 => ?_)
        refine mf_iload_n dX11_isBetter_136 rfl 4 rfl ?_
        refine mf_callSi (stk := [.int x19]) (wX11_figures l _ _) cl_X11_125 rfl (by decide) rfl (Nat.le_of_ble_eq_true rfl) rfl rfl dX11_isBetter_137 (fun x21 s22 => ?_)
        refine mf_icmp_ge 147 dX11_isBetter_140 (by decide) ?_ ?_
        · refine mf_iconst 0 dX11_isBetter_147 (by decide) ?_
          refine mf_goto 161 dX11_isBetter_148 (by decide) ?_
          exact mf_zret (by decide) dX11_isBetter_161
        · refine mf_iconst 1 dX11_isBetter_143 (by decide) ?_
          refine mf_goto 161 dX11_isBetter_144 (by decide) ?_
          exact mf_zret (by decide) dX11_isBetter_161
    · refine mf_iload dX11_isBetter_110 0 rfl ?_
      refine mf_if_le 119 dX11_isBetter_112 (by decide) ?_ ?_
      · refine mf_iconst 0 dX11_isBetter_119 (by decide) ?_
        exact mf_zret (by decide) dX11_isBetter_120
      · refine mf_iconst 1 dX11_isBetter_115 (by decide) ?_
        refine mf_goto 120 dX11_isBetter_116 (by decide) ?_
        exact mf_zret (by decide) dX11_isBetter_120
  refine mf_icmp_ne 74 dX11_isBetter_55 (by decide) ?_ ?_
  · refine mf_iload dX11_isBetter_58 0 rfl ?_
    refine mf_if_eq 74 dX11_isBetter_60 (by decide) ?_ ?_
    · exact mf_sub [3, 4, 5, 6, 2, 1] rfl (hJ74 _)
    · refine mf_iload dX11_isBetter_63 0 rfl ?_
      refine mf_if_ge 72 dX11_isBetter_65 (by decide) ?_ ?_
      · refine mf_iconst 0 dX11_isBetter_72 (by decide) ?_
        exact mf_zret (by decide) dX11_isBetter_73
      · refine mf_iconst 1 dX11_isBetter_68 (by decide) ?_
        refine mf_goto 73 dX11_isBetter_69 (by decide) ?_
        exact mf_zret (by decide) dX11_isBetter_73
  · exact mf_sub [3, 4, 5, 6, 2, 1] rfl (hJ74 _)
set_option maxRecDepth 100000 in
set_option maxHeartbeats 4000000 in
theorem wlX11_way_34 (l : Launch) (a1 : Int32) (a2 : Int32) (a3 : Int32) (k101 : Int32 → mx_G → Option (Int32 × mx_G)) (hk101 : ∀ (b4 : Int32) (sz : mx_G), mf_X ei l RX11 cX11_way 6 (some .int) "way" 5 (k101 b4 sz) 101 [(0, .ref 45), (1, .int a1), (2, .int a2), (3, .int a3), (4, .int b4)] [] sz) : ∀ (n : Nat) (a4 : Int32) (a5 : Int32) (s0 : mx_G), mf_X ei l RX11 cX11_way 6 (some .int) "way" 5 (lX11_way_34 a1 a2 a3 k101 n a4 a5 s0) 34 [(0, .ref 45), (1, .int a1), (2, .int a2), (3, .int a3), (4, .int a4), (5, .int a5)] [] s0 := by
  intro n
  induction n with
  | zero => intro a4 a5 s0; exact mf_none
  | succ n ih34 =>
    intro a4 a5 s0
    rw [lX11_way_34]
    refine mf_iload dX11_way_34 5 rfl ?_
    refine mf_aload_n dX11_way_36 rfl 0 rfl ?_
    refine mf_getI fl_X11_151 rfl rfl dX11_way_37 ?_
    refine mf_icmp_ge 101 dX11_way_40 (by decide) ?_ ?_
    · exact mf_sub [0, 1, 2, 3, 4] rfl (hk101 _ _)
    · refine mf_iload dX11_way_43 4 rfl ?_
      refine mf_iload_n dX11_way_45 rfl 1 rfl ?_
      refine mf_if_le 91 dX11_way_46 (by decide) ?_ ?_
      · refine mf_iconst 0 dX11_way_91 (by decide) ?_
        refine mf_iadd dX11_way_92 ?_
        refine mf_leti (fun x4 => ?_)
        refine mf_istore [(4, .int x4), (0, .ref 45), (1, .int a1), (2, .int a2), (3, .int a3), (5, .int a5)] dX11_way_93 (by decide) rfl ?_
        refine mf_iinc 1 [(5, .int (a5 + 1)), (4, .int x4), (0, .ref 45), (1, .int a1), (2, .int a2), (3, .int a3)] dX11_way_95 5 rfl (by decide) (by decide) rfl ?_
        refine mf_goto 34 dX11_way_98 (by decide) ?_
        exact mf_sub [2, 3, 4, 5, 1, 0] rfl (ih34 _ _ _)
      · refine mf_aload_n dX11_way_49 rfl 0 rfl ?_
        refine mf_getR fl_X11_42 rfl rfl dX11_way_50 ?_
        refine mf_iload dX11_way_53 5 rfl ?_
        refine mf_iald rfl dX11_way_55 ?_
        refine mf_iload_n dX11_way_56 rfl 1 rfl ?_
        refine mf_icmp_ne 91 dX11_way_57 (by decide) ?_ ?_
        · refine mf_iload dX11_way_60 5 rfl ?_
          refine mf_iload_n dX11_way_62 rfl 3 rfl ?_
          refine mf_icmp_eq 91 dX11_way_63 (by decide) ?_ ?_
          · refine mf_iconst 0 dX11_way_91 (by decide) ?_
            refine mf_iadd dX11_way_92 ?_
            refine mf_leti (fun x6 => ?_)
            refine mf_istore [(4, .int x6), (0, .ref 45), (1, .int a1), (2, .int a2), (3, .int a3), (5, .int a5)] dX11_way_93 (by decide) rfl ?_
            refine mf_iinc 1 [(5, .int (a5 + 1)), (4, .int x6), (0, .ref 45), (1, .int a1), (2, .int a2), (3, .int a3)] dX11_way_95 5 rfl (by decide) (by decide) rfl ?_
            refine mf_goto 34 dX11_way_98 (by decide) ?_
            exact mf_sub [2, 3, 4, 5, 1, 0] rfl (ih34 _ _ _)
          · refine mf_aload_n dX11_way_66 rfl 0 rfl ?_
            refine mf_iload_n dX11_way_67 rfl 1 rfl ?_
            refine mf_aload_n dX11_way_68 rfl 0 rfl ?_
            refine mf_getR fl_X11_39 rfl rfl dX11_way_69 ?_
            refine mf_iload dX11_way_72 5 rfl ?_
            refine mf_iald rfl dX11_way_74 ?_
            refine mf_aload_n dX11_way_75 rfl 0 rfl ?_
            refine mf_getR fl_X11_39 rfl rfl dX11_way_76 ?_
            refine mf_iload_n dX11_way_79 rfl 3 rfl ?_
            refine mf_iald rfl dX11_way_80 ?_
            refine mf_callVi (stk := [.int a4]) (wX11_isBetter l _ _ _ _) cl_X11_163 rfl (by decide) rfl rfl rfl (Nat.le_of_ble_eq_true rfl) rfl rfl dX11_way_81 (fun x7 s8 => ?_)
            refine mf_if_eq 91 dX11_way_84 (by decide) ?_ ?_
            · refine mf_iconst 0 dX11_way_91 (by decide) ?_
              refine mf_iadd dX11_way_92 ?_
              refine mf_leti (fun x9 => ?_)
              refine mf_istore [(4, .int x9), (0, .ref 45), (1, .int a1), (2, .int a2), (3, .int a3), (5, .int a5)] dX11_way_93 (by decide) rfl ?_
              refine mf_iinc 1 [(5, .int (a5 + 1)), (4, .int x9), (0, .ref 45), (1, .int a1), (2, .int a2), (3, .int a3)] dX11_way_95 5 rfl (by decide) (by decide) rfl ?_
              refine mf_goto 34 dX11_way_98 (by decide) ?_
              exact mf_sub [2, 3, 4, 5, 1, 0] rfl (ih34 _ _ _)
            · refine mf_iconst 1 dX11_way_87 (by decide) ?_
              refine mf_goto 92 dX11_way_88 (by decide) ?_
              refine mf_iadd dX11_way_92 ?_
              refine mf_leti (fun x10 => ?_)
              refine mf_istore [(4, .int x10), (0, .ref 45), (1, .int a1), (2, .int a2), (3, .int a3), (5, .int a5)] dX11_way_93 (by decide) rfl ?_
              refine mf_iinc 1 [(5, .int (a5 + 1)), (4, .int x10), (0, .ref 45), (1, .int a1), (2, .int a2), (3, .int a3)] dX11_way_95 5 rfl (by decide) (by decide) rfl ?_
              refine mf_goto 34 dX11_way_98 (by decide) ?_
              exact mf_sub [2, 3, 4, 5, 1, 0] rfl (ih34 _ _ _)
        · refine mf_iconst 0 dX11_way_91 (by decide) ?_
          refine mf_iadd dX11_way_92 ?_
          refine mf_leti (fun x5 => ?_)
          refine mf_istore [(4, .int x5), (0, .ref 45), (1, .int a1), (2, .int a2), (3, .int a3), (5, .int a5)] dX11_way_93 (by decide) rfl ?_
          refine mf_iinc 1 [(5, .int (a5 + 1)), (4, .int x5), (0, .ref 45), (1, .int a1), (2, .int a2), (3, .int a3)] dX11_way_95 5 rfl (by decide) (by decide) rfl ?_
          refine mf_goto 34 dX11_way_98 (by decide) ?_
          exact mf_sub [2, 3, 4, 5, 1, 0] rfl (ih34 _ _ _)
set_option maxRecDepth 100000 in
set_option maxHeartbeats 4000000 in
theorem wlX11_way_20 (l : Launch) (a1 : Int32) (a2 : Int32)   : ∀ (n : Nat) (a3 : Int32) (s0 : mx_G), mf_X ei l RX11 cX11_way 6 (some .int) "way" 5 (lX11_way_20 a1 a2  n a3 s0) 20 [(0, .ref 45), (1, .int a1), (2, .int a2), (3, .int a3)] [] s0 := by
  intro n
  induction n with
  | zero => intro a3 s0; exact mf_none
  | succ n ih20 =>
    intro a3 s0
    rw [lX11_way_20]
    refine mf_iload_n dX11_way_20 rfl 3 rfl ?_
    refine mf_aload_n dX11_way_21 rfl 0 rfl ?_
    refine mf_getI fl_X11_151 rfl rfl dX11_way_22 ?_
    refine mf_icmp_ge 130 dX11_way_25 (by decide) ?_ ?_
    · refine mf_bipush (-4) dX11_way_130 (by decide) ?_
      exact mf_iret dX11_way_132
    · refine mf_iconst 0 dX11_way_28 (by decide) ?_
      refine mf_istore [(4, .int 0), (0, .ref 45), (1, .int a1), (2, .int a2), (3, .int a3)] dX11_way_29 (by decide) rfl ?_
      refine mf_iconst 0 dX11_way_31 (by decide) ?_
      refine mf_istore [(5, .int 0), (4, .int 0), (0, .ref 45), (1, .int a1), (2, .int a2), (3, .int a3)] dX11_way_32 (by decide) rfl ?_
      refine mf_sub [2, 3, 4, 5, 1, 0] rfl (wlX11_way_34 l _ _ _ _ (fun y12 s11 => ?_) FU _ _ _)
      refine mf_aload_n dX11_way_101 rfl 0 rfl ?_
      refine mf_getR fl_X11_42 rfl rfl dX11_way_102 ?_
      refine mf_iload_n dX11_way_105 rfl 3 rfl ?_
      refine mf_iald rfl dX11_way_106 ?_
      refine mf_iload_n dX11_way_107 rfl 1 rfl ?_
      refine mf_icmp_ne 124 dX11_way_108 (by decide) ?_ ?_
      · refine mf_iload dX11_way_111 4 rfl ?_
        refine mf_iload_n dX11_way_113 rfl 2 rfl ?_
        refine mf_icmp_ne 124 dX11_way_114 (by decide) ?_ ?_
        · refine mf_aload_n dX11_way_117 rfl 0 rfl ?_
          refine mf_getR fl_X11_39 rfl rfl dX11_way_118 ?_
          refine mf_iload_n dX11_way_121 rfl 3 rfl ?_
          refine mf_iald rfl dX11_way_122 ?_
          exact mf_iret dX11_way_123
        · refine mf_iinc 1 [(3, .int (a3 + 1)), (0, .ref 45), (1, .int a1), (2, .int a2), (4, .int y12)] dX11_way_124 3 rfl (by decide) (by decide) rfl ?_
          refine mf_goto 20 dX11_way_127 (by decide) ?_
          exact mf_sub [1, 2, 3, 0] rfl (ih20 _ _)
      · refine mf_iinc 1 [(3, .int (a3 + 1)), (0, .ref 45), (1, .int a1), (2, .int a2), (4, .int y12)] dX11_way_124 3 rfl (by decide) (by decide) rfl ?_
        refine mf_goto 20 dX11_way_127 (by decide) ?_
        exact mf_sub [1, 2, 3, 0] rfl (ih20 _ _)
