set_option maxRecDepth 100000 in
set_option maxHeartbeats 4000000 in
theorem wlX11_seen_29 (l : Launch) (a1 : Int32) (a2 : Int32) (k70 : Int32 → mx_G → Option (Int32 × mx_G)) (hk70 : ∀ (b3 : Int32) (sz : mx_G), mf_X ei l RX11 cX11_seen 5 (some .int) "seen" 6 (k70 b3 sz) 70 [(0, .ref 45), (1, .int a1), (2, .int a2), (3, .int b3)] [] sz) : ∀ (n : Nat) (a3 : Int32) (a4 : Int32) (s0 : mx_G), mf_X ei l RX11 cX11_seen 5 (some .int) "seen" 6 (lX11_seen_29 a1 a2 k70 n a3 a4 s0) 29 [(0, .ref 45), (1, .int a1), (2, .int a2), (3, .int a3), (4, .int a4)] [] s0 := by
  intro n
  induction n with
  | zero => intro a3 a4 s0; exact mf_none
  | succ n ih29 =>
    intro a3 a4 s0
    rw [lX11_seen_29]
    refine mf_iload dX11_seen_29 4 rfl ?_
    refine mf_iconst 4 dX11_seen_31 (by decide) ?_
    refine mf_icmp_ge 70 dX11_seen_32 (by decide) ?_ ?_
    · exact mf_sub [0, 1, 2, 3] rfl (hk70 _ _)
    · refine mf_aload_n dX11_seen_35 rfl 0 rfl ?_
      refine mf_getR fl_X11_7 rfl rfl dX11_seen_36 ?_
      refine mf_bipush 109 dX11_seen_39 (by decide) ?_
      refine mf_iload_n dX11_seen_41 rfl 1 rfl ?_
      refine mf_iadd dX11_seen_42 ?_
      refine mf_iload dX11_seen_43 4 rfl ?_
      refine mf_iast rfl dX11_seen_45 (fun s5 => ?_)
      refine mf_iload_n dX11_seen_46 rfl 3 rfl ?_
      refine mf_aload_n dX11_seen_47 rfl 0 rfl ?_
      refine mf_callVi (stk := [.int a3]) (wX11_notContent l _) cl_X11_193 rfl (by decide) rfl rfl rfl (Nat.le_of_ble_eq_true rfl) rfl rfl dX11_seen_48 (fun x6 s7 => ?_)
      refine mf_if_ne 61 dX11_seen_51 (by decide) ?_ ?_
      · refine mf_iconst 1 dX11_seen_54 (by decide) ?_
        refine mf_iload dX11_seen_55 4 rfl ?_
        refine mf_ishl dX11_seen_57 ?_
        refine mf_goto 62 dX11_seen_58 (by decide) ?_
        refine mf_ior dX11_seen_62 ?_
        refine mf_leti (fun x9 => ?_)
        refine mf_istore_n [(3, .int x9), (0, .ref 45), (1, .int a1), (2, .int a2), (4, .int a4)] dX11_seen_63 rfl (by decide) rfl ?_
        refine mf_iinc 1 [(4, .int (a4 + 1)), (3, .int x9), (0, .ref 45), (1, .int a1), (2, .int a2)] dX11_seen_64 4 rfl (by decide) (by decide) rfl ?_
        refine mf_goto 29 dX11_seen_67 (by decide) ?_
        exact mf_sub [2, 3, 4, 1, 0] rfl (ih29 _ _ _)
      · refine mf_iconst 0 dX11_seen_61 (by decide) ?_
        refine mf_ior dX11_seen_62 ?_
        refine mf_leti (fun x8 => ?_)
        refine mf_istore_n [(3, .int x8), (0, .ref 45), (1, .int a1), (2, .int a2), (4, .int a4)] dX11_seen_63 rfl (by decide) rfl ?_
        refine mf_iinc 1 [(4, .int (a4 + 1)), (3, .int x8), (0, .ref 45), (1, .int a1), (2, .int a2)] dX11_seen_64 4 rfl (by decide) (by decide) rfl ?_
        refine mf_goto 29 dX11_seen_67 (by decide) ?_
        exact mf_sub [2, 3, 4, 1, 0] rfl (ih29 _ _ _)
set_option maxRecDepth 100000 in
set_option maxHeartbeats 4000000 in
theorem wX11_seen (l : Launch) (p1 : Int32) (s : mx_G) : mf_M ei l yX11_seen cX11_seen 5 (some .int) 6 [.ref 45, .int p1] s (fX11_seen p1 s) := by
  refine mf_intro rfl (Nat.le_of_ble_eq_true rfl) rfl rfl ?_
  refine mf_sub (loc' := [(0, .ref 45), (1, .int p1)]) [0, 1] rfl ?_
  unfold fX11_seen
  refine mf_aload_n dX11_seen_0 rfl 0 rfl ?_
  refine mf_iload_n dX11_seen_1 rfl 1 rfl ?_
  refine mf_callVi (stk := []) (wX11_isDomain l _ _) cl_X11_92 rfl (by decide) rfl rfl rfl (Nat.le_of_ble_eq_true rfl) rfl rfl dX11_seen_2 (fun x1 s2 => ?_)
  refine mf_if_ne 10 dX11_seen_5 (by decide) ?_ ?_
  · refine mf_iconst (-1) dX11_seen_8 (by decide) ?_
    exact mf_iret dX11_seen_9
  · refine mf_aload_n dX11_seen_10 rfl 0 rfl ?_
    refine mf_getR fl_X11_7 rfl rfl dX11_seen_11 ?_
    refine mf_bipush 109 dX11_seen_14 (by decide) ?_
    refine mf_iload_n dX11_seen_16 rfl 1 rfl ?_
    refine mf_iadd dX11_seen_17 ?_
    refine mf_iald rfl dX11_seen_18 ?_
    refine mf_leti (fun x3 => ?_)
    refine mf_istore_n [(2, .int x3), (0, .ref 45), (1, .int p1)] dX11_seen_19 rfl (by decide) rfl ?_
    refine mf_iconst 0 dX11_seen_20 (by decide) ?_
    refine mf_istore_n [(3, .int 0), (2, .int x3), (0, .ref 45), (1, .int p1)] dX11_seen_21 rfl (by decide) rfl ?_
    refine mf_aload_n dX11_seen_22 rfl 2 rfl ?_
    refine mf_callVv (stk := []) (wX11_thinks l _) cl_X11_177 rfl (by decide) rfl rfl rfl (Nat.le_of_ble_eq_true rfl) rfl rfl dX11_seen_23 (fun us4 s4 => ?_)
    refine mf_iconst 0 dX11_seen_26 (by decide) ?_
    refine mf_istore [(4, .int 0), (3, .int 0), (2, .int x3), (0, .ref 45), (1, .int p1)] dX11_seen_27 (by decide) rfl ?_
    refine mf_sub [3, 4, 2, 1, 0] rfl (wlX11_seen_29 l _ _ _ (fun y11 s10 => ?_) FU _ _ _)
    refine mf_aload_n dX11_seen_70 rfl 0 rfl ?_
    refine mf_getR fl_X11_7 rfl rfl dX11_seen_71 ?_
    refine mf_bipush 109 dX11_seen_74 (by decide) ?_
    refine mf_iload_n dX11_seen_76 rfl 1 rfl ?_
    refine mf_iadd dX11_seen_77 ?_
    refine mf_iload_n dX11_seen_78 rfl 2 rfl ?_
    refine mf_iast rfl dX11_seen_79 (fun s12 => ?_)
    refine mf_iload_n dX11_seen_80 rfl 3 rfl ?_
    exact mf_iret dX11_seen_81
set_option maxRecDepth 100000 in
set_option maxHeartbeats 4000000 in
theorem wX11_type (l : Launch) (p1 : Int32) (s : mx_G) : mf_M ei l yX11_type cX11_type 2 (some .int) 1 [.ref 45, .int p1] s (fX11_type p1 s) := by
  refine mf_intro rfl (Nat.le_of_ble_eq_true rfl) rfl rfl ?_
  refine mf_sub (loc' := [(0, .ref 45), (1, .int p1)]) [0, 1] rfl ?_
  unfold fX11_type
  refine mf_iload_n dX11_type_0 rfl 1 rfl ?_
  refine mf_i2l dX11_type_1 ?_
  refine mf_ldc2 kl_X11_261 dX11_type_2 ?_
  refine mf_ldc2 kl_X11_263 dX11_type_5 ?_
  refine mf_callSi (stk := []) (wX11_in l _ _ _ _) cl_X11_88 rfl (by decide) rfl (Nat.le_of_ble_eq_true rfl) rfl rfl dX11_type_8 (fun x1 s2 => ?_)
  refine mf_if_ne 16 dX11_type_11 (by decide) ?_ ?_
  · refine mf_iconst (-1) dX11_type_14 (by decide) ?_
    exact mf_iret dX11_type_15
  · refine mf_aload_n dX11_type_16 rfl 0 rfl ?_
    refine mf_getI fl_X11_265 rfl rfl dX11_type_17 ?_
    refine mf_bipush 80 dX11_type_20 (by decide) ?_
    refine mf_icmp_ne 28 dX11_type_22 (by decide) ?_ ?_
    · refine mf_bipush (-3) dX11_type_25 (by decide) ?_
      exact mf_iret dX11_type_27
    · refine mf_aload_n dX11_type_28 rfl 0 rfl ?_
      refine mf_getR fl_X11_26 rfl rfl dX11_type_29 ?_
      refine mf_aload_n dX11_type_32 rfl 0 rfl ?_
      refine mf_getI fl_X11_265 rfl rfl dX11_type_33 ?_
      refine mf_iload_n dX11_type_36 rfl 1 rfl ?_
      refine mf_iast rfl dX11_type_37 (fun s3 => ?_)
      refine mf_aload_n dX11_type_38 rfl 0 rfl ?_
      refine mf_dup rfl dX11_type_39 ?_
      refine mf_getI fl_X11_265 rfl rfl dX11_type_40 ?_
      refine mf_iconst 1 dX11_type_43 (by decide) ?_
      refine mf_iadd dX11_type_44 ?_
      refine mf_putI fl_X11_265 rfl rfl dX11_type_45 (fun s4 => ?_)
      refine mf_aload_n dX11_type_48 rfl 0 rfl ?_
      refine mf_getI fl_X11_265 rfl rfl dX11_type_49 ?_
      exact mf_iret dX11_type_52
set_option maxRecDepth 100000 in
set_option maxHeartbeats 4000000 in
theorem wlX11_looks_0 (l : Launch) (k38 : mx_G → Option (Int32 × mx_G)) (hk38 : ∀ (sz : mx_G), mf_X ei l RX11 cX11_looks 1 (some .int) "looks" 0 (k38 sz) 38 [(0, .ref 45)] [] sz) : ∀ (n : Nat) (s0 : mx_G), mf_X ei l RX11 cX11_looks 1 (some .int) "looks" 0 (lX11_looks_0  k38 n  s0) 0 [(0, .ref 45)] [] s0 := by
  intro n
  induction n with
  | zero => intro  s0; exact mf_none
  | succ n ih0 =>
    intro  s0
    rw [lX11_looks_0]
    refine mf_aload_n dX11_looks_0 rfl 0 rfl ?_
    refine mf_getI fl_X11_268 rfl rfl dX11_looks_1 ?_
    refine mf_aload_n dX11_looks_4 rfl 0 rfl ?_
    refine mf_getI fl_X11_265 rfl rfl dX11_looks_5 ?_
    refine mf_icmp_ge 38 dX11_looks_8 (by decide) ?_ ?_
    · exact mf_sub [0] rfl (hk38 _)
    · refine mf_aload_n dX11_looks_11 rfl 0 rfl ?_
      refine mf_getR fl_X11_26 rfl rfl dX11_looks_12 ?_
      refine mf_aload_n dX11_looks_15 rfl 0 rfl ?_
      refine mf_getI fl_X11_268 rfl rfl dX11_looks_16 ?_
      refine mf_iald rfl dX11_looks_19 ?_
      refine mf_bipush 32 dX11_looks_20 (by decide) ?_
      refine mf_icmp_ne 38 dX11_looks_22 (by decide) ?_ ?_
      · refine mf_aload_n dX11_looks_25 rfl 0 rfl ?_
        refine mf_dup rfl dX11_looks_26 ?_
        refine mf_getI fl_X11_268 rfl rfl dX11_looks_27 ?_
        refine mf_iconst 1 dX11_looks_30 (by decide) ?_
        refine mf_iadd dX11_looks_31 ?_
        refine mf_putI fl_X11_268 rfl rfl dX11_looks_32 (fun s1 => ?_)
        refine mf_goto 0 dX11_looks_35 (by decide) ?_
        exact mf_sub [0] rfl (ih0 _)
      · exact mf_sub [0] rfl (hk38 _)
set_option maxRecDepth 100000 in
set_option maxHeartbeats 4000000 in
theorem wX11_looks (l : Launch) (s : mx_G) : mf_M ei l yX11_looks cX11_looks 1 (some .int) 0 [.ref 45] s (fX11_looks  s) := by
  refine mf_intro rfl (Nat.le_of_ble_eq_true rfl) rfl rfl ?_
  refine mf_sub (loc' := [(0, .ref 45)]) [0] rfl ?_
  unfold fX11_looks
  refine mf_sub [0] rfl (wlX11_looks_0 l _ (fun s2 => ?_) FU _)
  refine mf_aload_n dX11_looks_38 rfl 0 rfl ?_
  refine mf_getI fl_X11_268 rfl rfl dX11_looks_39 ?_
  refine mf_aload_n dX11_looks_42 rfl 0 rfl ?_
  refine mf_getI fl_X11_265 rfl rfl dX11_looks_43 ?_
  refine mf_icmp_ge 61 dX11_looks_46 (by decide) ?_ ?_
  · refine mf_iconst 0 dX11_looks_61 (by decide) ?_
    exact mf_iret dX11_looks_62
  · refine mf_aload_n dX11_looks_49 rfl 0 rfl ?_
    refine mf_getR fl_X11_26 rfl rfl dX11_looks_50 ?_
    refine mf_aload_n dX11_looks_53 rfl 0 rfl ?_
    refine mf_getI fl_X11_268 rfl rfl dX11_looks_54 ?_
    refine mf_iald rfl dX11_looks_57 ?_
    refine mf_goto 62 dX11_looks_58 (by decide) ?_
    exact mf_iret dX11_looks_62
set_option maxRecDepth 100000 in
set_option maxHeartbeats 4000000 in
theorem wX11_reads (l : Launch) (p1 : Int32) (s : mx_G) : mf_M ev l yX11_reads cX11_reads 2 none 0 [.ref 45, .int p1] s (fX11_reads p1 s) := by
  refine mf_intro rfl (Nat.le_of_ble_eq_true rfl) rfl rfl ?_
  refine mf_sub (loc' := [(0, .ref 45), (1, .int p1)]) [0, 1] rfl ?_
  unfold fX11_reads
  refine mf_aload_n dX11_reads_0 rfl 0 rfl ?_
  refine mf_aload_n dX11_reads_1 rfl 0 rfl ?_
  refine mf_getI fl_X11_271 rfl rfl dX11_reads_2 ?_
  refine mf_join (fun (J : Int32 → mx_G → Option (Unit × mx_G)) => ∀ (q0_17 : Int32) (s_17 : mx_G), mf_X ev l RX11 cX11_reads 2 none "reads" 0 (J q0_17 s_17) 17 [(0, .ref 45)] [.int q0_17, .ref 45] s_17) ?_ (fun J17 hJ17 => ?_)
  · intro q0_17 s_17
    refine mf_putZ (i := 45) (x := q0_17) fl_X11_271 rfl rfl dX11_reads_17 (fun s1 => ?_)
    refine mf_aload_n dX11_reads_20 rfl 0 rfl ?_
    refine mf_dup rfl dX11_reads_21 ?_
    refine mf_getI fl_X11_268 rfl rfl dX11_reads_22 ?_
    refine mf_aload_n dX11_reads_25 rfl 0 rfl ?_
    refine mf_getI fl_X11_271 rfl rfl dX11_reads_26 ?_
    refine mf_if_eq 36 dX11_reads_29 (by decide) ?_ ?_
    · refine mf_iconst 1 dX11_reads_36 (by decide) ?_
      refine mf_iadd dX11_reads_37 ?_
      refine mf_putI fl_X11_268 rfl rfl dX11_reads_38 (fun s2 => ?_)
      exact mf_vret dX11_reads_41
    · refine mf_iconst 0 dX11_reads_32 (by decide) ?_
      refine mf_goto 37 dX11_reads_33 (by decide) ?_
      refine mf_iadd dX11_reads_37 ?_
      refine mf_putI fl_X11_268 rfl rfl dX11_reads_38 (fun s3 => ?_)
      exact mf_vret dX11_reads_41
  refine mf_join (fun (J : mx_G → Option (Unit × mx_G)) => ∀ (s_12 : mx_G), mf_X ev l RX11 cX11_reads 2 none "reads" 0 (J s_12) 12 [(0, .ref 45)] [.ref 45] s_12) ?_ (fun J12 hJ12 => ?_)
  · intro s_12
    refine mf_iconst 1 dX11_reads_12 (by decide) ?_
    refine mf_goto 17 dX11_reads_13 (by decide) ?_
    exact mf_sub [0] rfl (hJ17 _ _)
  refine mf_if_ne 12 dX11_reads_5 (by decide) ?_ ?_
  · refine mf_iload_n dX11_reads_8 rfl 1 rfl ?_
    refine mf_if_ne 16 dX11_reads_9 (by decide) ?_ ?_
    · exact mf_sub [0] rfl (hJ12 _)
    · refine mf_iconst 0 dX11_reads_16 (by decide) ?_
      exact mf_sub [0] rfl (hJ17 _ _)
  · exact mf_sub [0] rfl (hJ12 _)
set_option maxRecDepth 100000 in
set_option maxHeartbeats 4000000 in
theorem wX11_readsLink (l : Launch) (s : mx_G) : mf_M ev l yX11_readsLink cX11_readsLink 6 none 2 [.ref 45] s (fX11_readsLink  s) := by
  refine mf_intro rfl (Nat.le_of_ble_eq_true rfl) rfl rfl ?_
  refine mf_sub (loc' := [(0, .ref 45)]) [0] rfl ?_
  unfold fX11_readsLink
  refine mf_aload_n dX11_readsLink_0 rfl 0 rfl ?_
  refine mf_callVi (stk := []) (wX11_looks l _) cl_X11_275 rfl (by decide) rfl rfl rfl (Nat.le_of_ble_eq_true rfl) rfl rfl dX11_readsLink_1 (fun x1 s2 => ?_)
  refine mf_bipush 48 dX11_readsLink_4 (by decide) ?_
  refine mf_isub dX11_readsLink_6 ?_
  refine mf_leti (fun x3 => ?_)
  refine mf_istore_n [(1, .int x3), (0, .ref 45)] dX11_readsLink_7 rfl (by decide) rfl ?_
  refine mf_aload_n dX11_readsLink_8 rfl 1 rfl ?_
  refine mf_aload_n dX11_readsLink_9 rfl 1 rfl ?_
  refine mf_iload_n dX11_readsLink_10 rfl 0 rfl ?_
  refine mf_callVi (stk := [.ref 45]) (wX11_isDomain l _ _) cl_X11_92 rfl (by decide) rfl rfl rfl (Nat.le_of_ble_eq_true rfl) rfl rfl dX11_readsLink_11 (fun x4 s5 => ?_)
  refine mf_callVv (stk := []) (wX11_reads l _ _) cl_X11_278 rfl (by decide) rfl rfl rfl (Nat.le_of_ble_eq_true rfl) rfl rfl dX11_readsLink_14 (fun us6 s6 => ?_)
  refine mf_aload_n dX11_readsLink_17 rfl 1 rfl ?_
  refine mf_getI fl_X11_271 rfl rfl dX11_readsLink_18 ?_
  refine mf_join (fun (J : Int32 → mx_G → Option (Unit × mx_G)) => ∀ (q0_32 : Int32) (s_32 : mx_G), mf_X ev l RX11 cX11_readsLink 6 none "readsLink" 2 (J q0_32 s_32) 32 [(0, .ref 45), (1, .int x3)] [.int q0_32] s_32) ?_ (fun J32 hJ32 => ?_)
  · intro q0_32 s_32
    refine mf_istore_n [(2, .int q0_32), (0, .ref 45), (1, .int x3)] dX11_readsLink_32 rfl (by decide) rfl ?_
    refine mf_iload_n dX11_readsLink_33 rfl 0 rfl ?_
    refine mf_bipush 62 dX11_readsLink_34 (by decide) ?_
    refine mf_join (fun (J : Int32 → mx_G → Option (Unit × mx_G)) => ∀ (q0_64 : Int32) (s_64 : mx_G), mf_X ev l RX11 cX11_readsLink 6 none "readsLink" 2 (J q0_64 s_64) 64 [(0, .ref 45), (1, .int x3)] [.int q0_64] s_64) ?_ (fun J64 hJ64 => ?_)
    · intro q0_64 s_64
      refine mf_istore_n [(3, .int q0_64), (0, .ref 45), (1, .int x3)] dX11_readsLink_64 rfl (by decide) rfl ?_
      refine mf_aload_n dX11_readsLink_65 rfl 1 rfl ?_
      refine mf_iload_n dX11_readsLink_66 rfl 0 rfl ?_
      refine mf_join (fun (J : Int32 → mx_G → Option (Unit × mx_G)) => ∀ (q0_75 : Int32) (s_75 : mx_G), mf_X ev l RX11 cX11_readsLink 6 none "readsLink" 2 (J q0_75 s_75) 75 [(0, .ref 45), (1, .int x3), (3, .int q0_64)] [.int q0_75, .ref 45] s_75) ?_ (fun J75 hJ75 => ?_)
      · intro q0_75 s_75
        refine mf_callVv (stk := []) (wX11_reads l _ _) cl_X11_278 rfl (by decide) rfl rfl rfl (Nat.le_of_ble_eq_true rfl) rfl rfl dX11_readsLink_75 (fun us7 s7 => ?_)
        refine mf_aload_n dX11_readsLink_78 rfl 0 rfl ?_
        refine mf_getI fl_X11_271 rfl rfl dX11_readsLink_79 ?_
        refine mf_join (fun (J : Int32 → mx_G → Option (Unit × mx_G)) => ∀ (q0_96 : Int32) (s_96 : mx_G), mf_X ev l RX11 cX11_readsLink 6 none "readsLink" 2 (J q0_96 s_96) 96 [(0, .ref 45), (1, .int x3), (3, .int q0_64)] [.int q0_96] s_96) ?_ (fun J96 hJ96 => ?_)
        · intro q0_96 s_96
          refine mf_istore [(4, .int q0_96), (0, .ref 45), (1, .int x3), (3, .int q0_64)] dX11_readsLink_96 (by decide) rfl ?_
          refine mf_aload_n dX11_readsLink_98 rfl 1 rfl ?_
          refine mf_aload_n dX11_readsLink_99 rfl 1 rfl ?_
          refine mf_getI fl_X11_271 rfl rfl dX11_readsLink_100 ?_
          refine mf_join (fun (J : Int32 → mx_G → Option (Unit × mx_G)) => ∀ (q0_140 : Int32) (s_140 : mx_G), mf_X ev l RX11 cX11_readsLink 6 none "readsLink" 2 (J q0_140 s_140) 140 [(0, .ref 45), (1, .int x3), (3, .int q0_64), (4, .int q0_96)] [.int q0_140, .ref 45] s_140) ?_ (fun J140 hJ140 => ?_)
          · intro q0_140 s_140
            refine mf_callVv (stk := []) (wX11_reads l _ _) cl_X11_278 rfl (by decide) rfl rfl rfl (Nat.le_of_ble_eq_true rfl) rfl rfl dX11_readsLink_140 (fun us8 s8 => ?_)
            refine mf_aload_n dX11_readsLink_143 rfl 0 rfl ?_
            refine mf_getI fl_X11_271 rfl rfl dX11_readsLink_144 ?_
            refine mf_if_eq 151 dX11_readsLink_147 (by decide) ?_ ?_
            · refine mf_aload_n dX11_readsLink_151 rfl 0 rfl ?_
              refine mf_callVi (stk := []) (wX11_looks l _) cl_X11_275 rfl (by decide) rfl rfl rfl (Nat.le_of_ble_eq_true rfl) rfl rfl dX11_readsLink_152 (fun x9 s10 => ?_)
              refine mf_bipush 33 dX11_readsLink_155 (by decide) ?_
              refine mf_join (fun (J : Int32 → mx_G → Option (Unit × mx_G)) => ∀ (q0_165 : Int32) (s_165 : mx_G), mf_X ev l RX11 cX11_readsLink 6 none "readsLink" 2 (J q0_165 s_165) 165 [(0, .ref 45), (1, .int x3), (3, .int q0_64), (4, .int q0_96)] [.int q0_165] s_165) ?_ (fun J165 hJ165 => ?_)
              · intro q0_165 s_165
                refine mf_istore [(5, .int q0_165), (0, .ref 45), (1, .int x3), (3, .int q0_64), (4, .int q0_96)] dX11_readsLink_165 (by decide) rfl ?_
                refine mf_aload_n dX11_readsLink_167 rfl 1 rfl ?_
                refine mf_dup rfl dX11_readsLink_168 ?_
                refine mf_getI fl_X11_268 rfl rfl dX11_readsLink_169 ?_
                refine mf_iload dX11_readsLink_172 0 rfl ?_
                refine mf_iadd dX11_readsLink_174 ?_
                refine mf_putI fl_X11_268 rfl rfl dX11_readsLink_175 (fun s11 => ?_)
                refine mf_aload_n dX11_readsLink_178 rfl 1 rfl ?_
                refine mf_getR fl_X11_75 rfl rfl dX11_readsLink_179 ?_
                refine mf_iload_n dX11_readsLink_182 rfl 2 rfl ?_
                refine mf_iload dX11_readsLink_183 4 rfl ?_
                refine mf_callSi (stk := [.ref 66]) (wX11_pair l _ _ _) cl_X11_96 rfl (by decide) rfl (Nat.le_of_ble_eq_true rfl) rfl rfl dX11_readsLink_185 (fun x12 s13 => ?_)
                refine mf_iload_n dX11_readsLink_188 rfl 3 rfl ?_
                refine mf_iast rfl dX11_readsLink_189 (fun s14 => ?_)
                refine mf_aload_n dX11_readsLink_190 rfl 1 rfl ?_
                refine mf_getR fl_X11_75 rfl rfl dX11_readsLink_191 ?_
                refine mf_iload dX11_readsLink_194 4 rfl ?_
                refine mf_iload_n dX11_readsLink_196 rfl 2 rfl ?_
                refine mf_callSi (stk := [.ref 66]) (wX11_pair l _ _ _) cl_X11_96 rfl (by decide) rfl (Nat.le_of_ble_eq_true rfl) rfl rfl dX11_readsLink_197 (fun x15 s16 => ?_)
                refine mf_iconst 4 dX11_readsLink_200 (by decide) ?_
                refine mf_iload_n dX11_readsLink_201 rfl 3 rfl ?_
                refine mf_isub dX11_readsLink_202 ?_
                refine mf_iast rfl dX11_readsLink_203 (fun s17 => ?_)
                refine mf_aload_n dX11_readsLink_204 rfl 1 rfl ?_
                refine mf_getR fl_X11_78 rfl rfl dX11_readsLink_205 ?_
                refine mf_iload_n dX11_readsLink_208 rfl 2 rfl ?_
                refine mf_iload dX11_readsLink_209 4 rfl ?_
                refine mf_callSi (stk := [.ref 67]) (wX11_pair l _ _ _) cl_X11_96 rfl (by decide) rfl (Nat.le_of_ble_eq_true rfl) rfl rfl dX11_readsLink_211 (fun x18 s19 => ?_)
                refine mf_iload dX11_readsLink_214 0 rfl ?_
                refine mf_iast rfl dX11_readsLink_216 (fun s20 => ?_)
                refine mf_aload_n dX11_readsLink_217 rfl 1 rfl ?_
                refine mf_getR fl_X11_78 rfl rfl dX11_readsLink_218 ?_
                refine mf_iload dX11_readsLink_221 4 rfl ?_
                refine mf_iload_n dX11_readsLink_223 rfl 2 rfl ?_
                refine mf_callSi (stk := [.ref 67]) (wX11_pair l _ _ _) cl_X11_96 rfl (by decide) rfl (Nat.le_of_ble_eq_true rfl) rfl rfl dX11_readsLink_224 (fun x21 s22 => ?_)
                refine mf_iload dX11_readsLink_227 0 rfl ?_
                refine mf_iast rfl dX11_readsLink_229 (fun s23 => ?_)
                exact mf_vret dX11_readsLink_230
              refine mf_icmp_ne 164 dX11_readsLink_157 (by decide) ?_ ?_
              · refine mf_iconst 1 dX11_readsLink_160 (by decide) ?_
                refine mf_goto 165 dX11_readsLink_161 (by decide) ?_
                exact mf_sub [0, 1, 2, 3] rfl (hJ165 _ _)
              · refine mf_iconst 0 dX11_readsLink_164 (by decide) ?_
                exact mf_sub [0, 1, 2, 3] rfl (hJ165 _ _)
            · exact mf_vret dX11_readsLink_150
          refine mf_join (fun (J : mx_G → Option (Unit × mx_G)) => ∀ (s_139 : mx_G), mf_X ev l RX11 cX11_readsLink 6 none "readsLink" 2 (J s_139) 139 [(0, .ref 45), (1, .int x3), (3, .int q0_64), (4, .int q0_96)] [.ref 45] s_139) ?_ (fun J139 hJ139 => ?_)
          · intro s_139
            refine mf_iconst 0 dX11_readsLink_139 (by decide) ?_
            exact mf_sub [0, 1, 2, 3] rfl (hJ140 _ _)
          refine mf_if_ne 139 dX11_readsLink_103 (by decide) ?_ ?_
          · refine mf_aload_n dX11_readsLink_106 rfl 1 rfl ?_
            refine mf_iload dX11_readsLink_107 0 rfl ?_
            refine mf_callVi (stk := [.ref 45]) (wX11_isDomain l _ _) cl_X11_92 rfl (by decide) rfl rfl rfl (Nat.le_of_ble_eq_true rfl) rfl rfl dX11_readsLink_109 (fun x24 s25 => ?_)
            refine mf_if_eq 139 dX11_readsLink_112 (by decide) ?_ ?_
            · exact mf_sub [1, 2, 3, 0] rfl (hJ139 _)
            · refine mf_iload dX11_readsLink_115 0 rfl ?_
              refine mf_iload_n dX11_readsLink_117 rfl 2 rfl ?_
              refine mf_icmp_eq 139 dX11_readsLink_118 (by decide) ?_ ?_
              · exact mf_sub [1, 2, 3, 0] rfl (hJ139 _)
              · refine mf_aload_n dX11_readsLink_121 rfl 1 rfl ?_
                refine mf_getR fl_X11_75 rfl rfl dX11_readsLink_122 ?_
                refine mf_iload_n dX11_readsLink_125 rfl 2 rfl ?_
                refine mf_iload dX11_readsLink_126 0 rfl ?_
                refine mf_callSi (stk := [.ref 66, .ref 45]) (wX11_pair l _ _ _) cl_X11_96 rfl (by decide) rfl (Nat.le_of_ble_eq_true rfl) rfl rfl dX11_readsLink_128 (fun x26 s27 => ?_)
                refine mf_iald rfl dX11_readsLink_131 ?_
                refine mf_if_ne 139 dX11_readsLink_132 (by decide) ?_ ?_
                · refine mf_iconst 1 dX11_readsLink_135 (by decide) ?_
                  refine mf_goto 140 dX11_readsLink_136 (by decide) ?_
                  exact mf_sub [1, 2, 3, 0] rfl (hJ140 _ _)
                · exact mf_sub [1, 2, 3, 0] rfl (hJ139 _)
          · exact mf_sub [1, 2, 3, 0] rfl (hJ139 _)
        refine mf_if_eq 89 dX11_readsLink_82 (by decide) ?_ ?_
        · refine mf_aload_n dX11_readsLink_89 rfl 0 rfl ?_
          refine mf_callVi (stk := []) (wX11_looks l _) cl_X11_275 rfl (by decide) rfl rfl rfl (Nat.le_of_ble_eq_true rfl) rfl rfl dX11_readsLink_90 (fun x28 s29 => ?_)
          refine mf_bipush 48 dX11_readsLink_93 (by decide) ?_
          refine mf_isub dX11_readsLink_95 ?_
          exact mf_sub [0, 1, 2] rfl (hJ96 _ _)
        · refine mf_iconst 0 dX11_readsLink_85 (by decide) ?_
          refine mf_goto 96 dX11_readsLink_86 (by decide) ?_
          exact mf_sub [0, 1, 2] rfl (hJ96 _ _)
      refine mf_if_le 74 dX11_readsLink_67 (by decide) ?_ ?_
      · refine mf_iconst 0 dX11_readsLink_74 (by decide) ?_
        exact mf_sub [1, 2, 0] rfl (hJ75 _ _)
      · refine mf_iconst 1 dX11_readsLink_70 (by decide) ?_
        refine mf_goto 75 dX11_readsLink_71 (by decide) ?_
        exact mf_sub [1, 2, 0] rfl (hJ75 _ _)
    refine mf_icmp_ne 43 dX11_readsLink_36 (by decide) ?_ ?_
    · refine mf_iconst 1 dX11_readsLink_39 (by decide) ?_
      refine mf_goto 64 dX11_readsLink_40 (by decide) ?_
      exact mf_sub [1, 2] rfl (hJ64 _ _)
    · refine mf_iload_n dX11_readsLink_43 rfl 0 rfl ?_
      refine mf_bipush 45 dX11_readsLink_44 (by decide) ?_
      refine mf_icmp_ne 53 dX11_readsLink_46 (by decide) ?_ ?_
      · refine mf_iconst 2 dX11_readsLink_49 (by decide) ?_
        refine mf_goto 64 dX11_readsLink_50 (by decide) ?_
        exact mf_sub [1, 2] rfl (hJ64 _ _)
      · refine mf_iload_n dX11_readsLink_53 rfl 0 rfl ?_
        refine mf_bipush 60 dX11_readsLink_54 (by decide) ?_
        refine mf_icmp_ne 63 dX11_readsLink_56 (by decide) ?_ ?_
        · refine mf_iconst 3 dX11_readsLink_59 (by decide) ?_
          refine mf_goto 64 dX11_readsLink_60 (by decide) ?_
          exact mf_sub [1, 2] rfl (hJ64 _ _)
        · refine mf_iconst 0 dX11_readsLink_63 (by decide) ?_
          exact mf_sub [1, 2] rfl (hJ64 _ _)
  refine mf_if_eq 28 dX11_readsLink_21 (by decide) ?_ ?_
  · refine mf_aload_n dX11_readsLink_28 rfl 1 rfl ?_
    refine mf_callVi (stk := []) (wX11_looks l _) cl_X11_275 rfl (by decide) rfl rfl rfl (Nat.le_of_ble_eq_true rfl) rfl rfl dX11_readsLink_29 (fun x30 s31 => ?_)
    exact mf_sub [1, 0] rfl (hJ32 _ _)
  · refine mf_iconst 0 dX11_readsLink_24 (by decide) ?_
    refine mf_goto 32 dX11_readsLink_25 (by decide) ?_
    exact mf_sub [1, 0] rfl (hJ32 _ _)
set_option maxRecDepth 100000 in
set_option maxHeartbeats 4000000 in
theorem wlX11_readsAll_12 (l : Launch) (k38 : mx_G → Option (Unit × mx_G)) (hk38 : ∀ (sz : mx_G), mf_X ev l RX11 cX11_readsAll 2 none "readsAll" 3 (k38 sz) 38 [(0, .ref 45)] [] sz) : ∀ (n : Nat) (a1 : Int32) (s0 : mx_G), mf_X ev l RX11 cX11_readsAll 2 none "readsAll" 3 (lX11_readsAll_12  k38 n a1 s0) 12 [(0, .ref 45), (1, .int a1)] [] s0 := by
  intro n
  induction n with
  | zero => intro a1 s0; exact mf_none
  | succ n ih12 =>
    intro a1 s0
    rw [lX11_readsAll_12]
    refine mf_iload_n dX11_readsAll_12 rfl 1 rfl ?_
    refine mf_bipush 36 dX11_readsAll_13 (by decide) ?_
    refine mf_icmp_ge 38 dX11_readsAll_15 (by decide) ?_ ?_
    · exact mf_sub [0] rfl (hk38 _)
    · refine mf_aload_n dX11_readsAll_18 rfl 0 rfl ?_
      refine mf_getR fl_X11_75 rfl rfl dX11_readsAll_19 ?_
      refine mf_iload_n dX11_readsAll_22 rfl 1 rfl ?_
      refine mf_iconst 0 dX11_readsAll_23 (by decide) ?_
      refine mf_iast rfl dX11_readsAll_24 (fun s3 => ?_)
      refine mf_aload_n dX11_readsAll_25 rfl 0 rfl ?_
      refine mf_getR fl_X11_78 rfl rfl dX11_readsAll_26 ?_
      refine mf_iload_n dX11_readsAll_29 rfl 1 rfl ?_
      refine mf_iconst 0 dX11_readsAll_30 (by decide) ?_
      refine mf_iast rfl dX11_readsAll_31 (fun s4 => ?_)
      refine mf_iinc 1 [(1, .int (a1 + 1)), (0, .ref 45)] dX11_readsAll_32 1 rfl (by decide) (by decide) rfl ?_
      refine mf_goto 12 dX11_readsAll_35 (by decide) ?_
      exact mf_sub [1, 0] rfl (ih12 _ _)
set_option maxRecDepth 100000 in
set_option maxHeartbeats 4000000 in
theorem wlX11_readsAll_51 (l : Launch) (k109 : mx_G → Option (Unit × mx_G)) (hk109 : ∀ (sz : mx_G), mf_X ev l RX11 cX11_readsAll 2 none "readsAll" 3 (k109 sz) 109 [(0, .ref 45)] [] sz) : ∀ (n : Nat) (a1 : Int32) (s0 : mx_G), mf_X ev l RX11 cX11_readsAll 2 none "readsAll" 3 (lX11_readsAll_51  k109 n a1 s0) 51 [(0, .ref 45), (1, .int a1)] [] s0 := by
  intro n
  induction n with
  | zero => intro a1 s0; exact mf_none
  | succ n ih51 =>
    intro a1 s0
    rw [lX11_readsAll_51]
    refine mf_iload_n dX11_readsAll_51 rfl 1 rfl ?_
    refine mf_if_eq 109 dX11_readsAll_52 (by decide) ?_ ?_
    · exact mf_sub [0] rfl (hk109 _)
    · refine mf_aload_n dX11_readsAll_55 rfl 0 rfl ?_
      refine mf_getI fl_X11_271 rfl rfl dX11_readsAll_56 ?_
      refine mf_if_ne 109 dX11_readsAll_59 (by decide) ?_ ?_
      · refine mf_aload_n dX11_readsAll_62 rfl 0 rfl ?_
        refine mf_callVv (stk := []) (wX11_readsLink l _) cl_X11_282 rfl (by decide) rfl rfl rfl (Nat.le_of_ble_eq_true rfl) rfl rfl dX11_readsAll_63 (fun us8 s8 => ?_)
        refine mf_aload_n dX11_readsAll_66 rfl 0 rfl ?_
        refine mf_getI fl_X11_271 rfl rfl dX11_readsAll_67 ?_
        refine mf_join (fun (J : Int32 → mx_G → Option (Unit × mx_G)) => ∀ (q0_87 : Int32) (s_87 : mx_G), mf_X ev l RX11 cX11_readsAll 2 none "readsAll" 3 (J q0_87 s_87) 87 [(0, .ref 45)] [.int q0_87] s_87) ?_ (fun J87 hJ87 => ?_)
        · intro q0_87 s_87
          refine mf_istore_n [(1, .int q0_87), (0, .ref 45)] dX11_readsAll_87 rfl (by decide) rfl ?_
          refine mf_aload_n dX11_readsAll_88 rfl 1 rfl ?_
          refine mf_dup rfl dX11_readsAll_89 ?_
          refine mf_getI fl_X11_268 rfl rfl dX11_readsAll_90 ?_
          refine mf_iload_n dX11_readsAll_93 rfl 0 rfl ?_
          refine mf_if_eq 101 dX11_readsAll_94 (by decide) ?_ ?_
          · refine mf_iconst 0 dX11_readsAll_101 (by decide) ?_
            refine mf_iadd dX11_readsAll_102 ?_
            refine mf_putI fl_X11_268 rfl rfl dX11_readsAll_103 (fun s9 => ?_)
            refine mf_goto 51 dX11_readsAll_106 (by decide) ?_
            exact mf_sub [1, 0] rfl (ih51 _ _)
          · refine mf_iconst 1 dX11_readsAll_97 (by decide) ?_
            refine mf_goto 102 dX11_readsAll_98 (by decide) ?_
            refine mf_iadd dX11_readsAll_102 ?_
            refine mf_putI fl_X11_268 rfl rfl dX11_readsAll_103 (fun s10 => ?_)
            refine mf_goto 51 dX11_readsAll_106 (by decide) ?_
            exact mf_sub [1, 0] rfl (ih51 _ _)
        refine mf_join (fun (J : mx_G → Option (Unit × mx_G)) => ∀ (s_86 : mx_G), mf_X ev l RX11 cX11_readsAll 2 none "readsAll" 3 (J s_86) 86 [(0, .ref 45)] [] s_86) ?_ (fun J86 hJ86 => ?_)
        · intro s_86
          refine mf_iconst 0 dX11_readsAll_86 (by decide) ?_
          exact mf_sub [0] rfl (hJ87 _ _)
        refine mf_if_ne 86 dX11_readsAll_70 (by decide) ?_ ?_
        · refine mf_aload_n dX11_readsAll_73 rfl 0 rfl ?_
          refine mf_callVi (stk := []) (wX11_looks l _) cl_X11_275 rfl (by decide) rfl rfl rfl (Nat.le_of_ble_eq_true rfl) rfl rfl dX11_readsAll_74 (fun x11 s12 => ?_)
          refine mf_bipush 44 dX11_readsAll_77 (by decide) ?_
          refine mf_icmp_ne 86 dX11_readsAll_79 (by decide) ?_ ?_
          · refine mf_iconst 1 dX11_readsAll_82 (by decide) ?_
            refine mf_goto 87 dX11_readsAll_83 (by decide) ?_
            exact mf_sub [0] rfl (hJ87 _ _)
          · exact mf_sub [0] rfl (hJ86 _)
        · exact mf_sub [0] rfl (hJ86 _)
      · exact mf_sub [0] rfl (hk109 _)
set_option maxRecDepth 100000 in
set_option maxHeartbeats 4000000 in
theorem wX11_readsAll (l : Launch) (s : mx_G) : mf_M ev l yX11_readsAll cX11_readsAll 2 none 3 [.ref 45] s (fX11_readsAll  s) := by
  refine mf_intro rfl (Nat.le_of_ble_eq_true rfl) rfl rfl ?_
  refine mf_sub (loc' := [(0, .ref 45)]) [0] rfl ?_
  unfold fX11_readsAll
  refine mf_aload_n dX11_readsAll_0 rfl 0 rfl ?_
  refine mf_iconst 0 dX11_readsAll_1 (by decide) ?_
  refine mf_putI fl_X11_268 rfl rfl dX11_readsAll_2 (fun s1 => ?_)
  refine mf_aload_n dX11_readsAll_5 rfl 0 rfl ?_
  refine mf_iconst 0 dX11_readsAll_6 (by decide) ?_
  refine mf_putZ (i := 45) (x := 0) fl_X11_271 rfl rfl dX11_readsAll_7 (fun s2 => ?_)
  refine mf_iconst 0 dX11_readsAll_10 (by decide) ?_
  refine mf_istore_n [(1, .int 0), (0, .ref 45)] dX11_readsAll_11 rfl (by decide) rfl ?_
  refine mf_sub [1, 0] rfl (wlX11_readsAll_12 l _ (fun s5 => ?_) FU _ _)
  refine mf_aload_n dX11_readsAll_38 rfl 0 rfl ?_
  refine mf_callVi (stk := []) (wX11_looks l _) cl_X11_275 rfl (by decide) rfl rfl rfl (Nat.le_of_ble_eq_true rfl) rfl rfl dX11_readsAll_39 (fun x6 s7 => ?_)
  refine mf_join (fun (J : Int32 → mx_G → Option (Unit × mx_G)) => ∀ (q0_50 : Int32) (s_50 : mx_G), mf_X ev l RX11 cX11_readsAll 2 none "readsAll" 3 (J q0_50 s_50) 50 [(0, .ref 45)] [.int q0_50] s_50) ?_ (fun J50 hJ50 => ?_)
  · intro q0_50 s_50
    refine mf_istore_n [(1, .int q0_50), (0, .ref 45)] dX11_readsAll_50 rfl (by decide) rfl ?_
    refine mf_sub [1, 0] rfl (wlX11_readsAll_51 l _ (fun s13 => ?_) FU _ _)
    refine mf_aload_n dX11_readsAll_109 rfl 0 rfl ?_
    refine mf_aload_n dX11_readsAll_110 rfl 0 rfl ?_
    refine mf_getI fl_X11_271 rfl rfl dX11_readsAll_111 ?_
    refine mf_if_ne 124 dX11_readsAll_114 (by decide) ?_ ?_
    · refine mf_aload_n dX11_readsAll_117 rfl 0 rfl ?_
      refine mf_callVi (stk := [.ref 45]) (wX11_looks l _) cl_X11_275 rfl (by decide) rfl rfl rfl (Nat.le_of_ble_eq_true rfl) rfl rfl dX11_readsAll_118 (fun x15 s16 => ?_)
      refine mf_if_eq 128 dX11_readsAll_121 (by decide) ?_ ?_
      · refine mf_iconst 0 dX11_readsAll_128 (by decide) ?_
        refine mf_putZ (i := 45) (x := 0) fl_X11_271 rfl rfl dX11_readsAll_129 (fun s17 => ?_)
        exact mf_vret dX11_readsAll_132
      · refine mf_iconst 1 dX11_readsAll_124 (by decide) ?_
        refine mf_goto 129 dX11_readsAll_125 (by decide) ?_
        refine mf_putZ (i := 45) (x := 1) fl_X11_271 rfl rfl dX11_readsAll_129 (fun s18 => ?_)
        exact mf_vret dX11_readsAll_132
    · refine mf_iconst 1 dX11_readsAll_124 (by decide) ?_
      refine mf_goto 129 dX11_readsAll_125 (by decide) ?_
      refine mf_putZ (i := 45) (x := 1) fl_X11_271 rfl rfl dX11_readsAll_129 (fun s14 => ?_)
      exact mf_vret dX11_readsAll_132
  refine mf_if_eq 49 dX11_readsAll_42 (by decide) ?_ ?_
  · refine mf_iconst 0 dX11_readsAll_49 (by decide) ?_
    exact mf_sub [0] rfl (hJ50 _ _)
  · refine mf_iconst 1 dX11_readsAll_45 (by decide) ?_
    refine mf_goto 50 dX11_readsAll_46 (by decide) ?_
    exact mf_sub [0] rfl (hJ50 _ _)
set_option maxRecDepth 100000 in
set_option maxHeartbeats 4000000 in
theorem wlX11_bring_5_3 (l : Launch) (a1 : Int32) (a3 : Int32) (a4 : Int32)   : ∀ (n : Nat) (a5 : Int32) (s0 : mx_G), mf_X ev l RX11 cX11_bring 6 none "bring" 0 (lX11_bring_5_3 a1 a3 a4  n a5 s0) 3 [(0, .ref 66), (1, .int a1), (2, .ref 46), (3, .int a3), (4, .int a4), (5, .int a5)] [] s0 := by
  intro n
  induction n with
  | zero => intro a5 s0; exact mf_none
  | succ n ih3 =>
    intro a5 s0
    rw [lX11_bring_5_3]
    refine mf_iload dX11_bring_3 5 rfl ?_
    refine mf_iload dX11_bring_5 4 rfl ?_
    refine mf_icmp_ge 28 dX11_bring_7 (by decide) ?_ ?_
    · exact mf_vret dX11_bring_28
    · refine mf_aload_n dX11_bring_10 rfl 2 rfl ?_
      refine mf_iload_n dX11_bring_11 rfl 3 rfl ?_
      refine mf_iload dX11_bring_12 5 rfl ?_
      refine mf_iadd dX11_bring_14 ?_
      refine mf_aload_n dX11_bring_15 rfl 0 rfl ?_
      refine mf_iload_n dX11_bring_16 rfl 1 rfl ?_
      refine mf_iload dX11_bring_17 5 rfl ?_
      refine mf_iadd dX11_bring_19 ?_
      refine mf_iald rfl dX11_bring_20 ?_
      refine mf_iast rfl dX11_bring_21 (fun s1 => ?_)
      refine mf_iinc 1 [(5, .int (a5 + 1)), (0, .ref 66), (1, .int a1), (2, .ref 46), (3, .int a3), (4, .int a4)] dX11_bring_22 5 rfl (by decide) (by decide) rfl ?_
      refine mf_goto 3 dX11_bring_25 (by decide) ?_
      exact mf_sub [1, 2, 3, 4, 5, 0] rfl (ih3 _ _)
set_option maxRecDepth 100000 in
set_option maxHeartbeats 4000000 in
theorem wX11_bring_5 (l : Launch) (p1 : Int32) (p3 : Int32) (p4 : Int32) (s : mx_G) : mf_M ev l yX11_bring cX11_bring 6 none 0 [.ref 66, .int p1, .ref 46, .int p3, .int p4] s (fX11_bring_5 p1 p3 p4 s) := by
  refine mf_intro rfl (Nat.le_of_ble_eq_true rfl) rfl rfl ?_
  refine mf_sub (loc' := [(0, .ref 66), (1, .int p1), (2, .ref 46), (3, .int p3), (4, .int p4)]) [0, 1, 2, 3, 4] rfl ?_
  unfold fX11_bring_5
  refine mf_iconst 0 dX11_bring_0 (by decide) ?_
  refine mf_istore [(5, .int 0), (0, .ref 66), (1, .int p1), (2, .ref 46), (3, .int p3), (4, .int p4)] dX11_bring_1 (by decide) rfl ?_
  exact mf_sub [1, 2, 3, 4, 5, 0] rfl (wlX11_bring_5_3 l _ _ _ FU _ _)
set_option maxRecDepth 100000 in
set_option maxHeartbeats 4000000 in
theorem wlX11_bring_6_3 (l : Launch) (a1 : Int32) (a3 : Int32) (a4 : Int32)   : ∀ (n : Nat) (a5 : Int32) (s0 : mx_G), mf_X ev l RX11 cX11_bring 6 none "bring" 0 (lX11_bring_6_3 a1 a3 a4  n a5 s0) 3 [(0, .ref 67), (1, .int a1), (2, .ref 46), (3, .int a3), (4, .int a4), (5, .int a5)] [] s0 := by
  intro n
  induction n with
  | zero => intro a5 s0; exact mf_none
  | succ n ih3 =>
    intro a5 s0
    rw [lX11_bring_6_3]
    refine mf_iload dX11_bring_3 5 rfl ?_
    refine mf_iload dX11_bring_5 4 rfl ?_
    refine mf_icmp_ge 28 dX11_bring_7 (by decide) ?_ ?_
    · exact mf_vret dX11_bring_28
    · refine mf_aload_n dX11_bring_10 rfl 2 rfl ?_
      refine mf_iload_n dX11_bring_11 rfl 3 rfl ?_
      refine mf_iload dX11_bring_12 5 rfl ?_
      refine mf_iadd dX11_bring_14 ?_
      refine mf_aload_n dX11_bring_15 rfl 0 rfl ?_
      refine mf_iload_n dX11_bring_16 rfl 1 rfl ?_
      refine mf_iload dX11_bring_17 5 rfl ?_
      refine mf_iadd dX11_bring_19 ?_
      refine mf_iald rfl dX11_bring_20 ?_
      refine mf_iast rfl dX11_bring_21 (fun s1 => ?_)
      refine mf_iinc 1 [(5, .int (a5 + 1)), (0, .ref 67), (1, .int a1), (2, .ref 46), (3, .int a3), (4, .int a4)] dX11_bring_22 5 rfl (by decide) (by decide) rfl ?_
      refine mf_goto 3 dX11_bring_25 (by decide) ?_
      exact mf_sub [1, 2, 3, 4, 5, 0] rfl (ih3 _ _)
set_option maxRecDepth 100000 in
set_option maxHeartbeats 4000000 in
theorem wX11_bring_6 (l : Launch) (p1 : Int32) (p3 : Int32) (p4 : Int32) (s : mx_G) : mf_M ev l yX11_bring cX11_bring 6 none 0 [.ref 67, .int p1, .ref 46, .int p3, .int p4] s (fX11_bring_6 p1 p3 p4 s) := by
  refine mf_intro rfl (Nat.le_of_ble_eq_true rfl) rfl rfl ?_
  refine mf_sub (loc' := [(0, .ref 67), (1, .int p1), (2, .ref 46), (3, .int p3), (4, .int p4)]) [0, 1, 2, 3, 4] rfl ?_
  unfold fX11_bring_6
  refine mf_iconst 0 dX11_bring_0 (by decide) ?_
  refine mf_istore [(5, .int 0), (0, .ref 67), (1, .int p1), (2, .ref 46), (3, .int p3), (4, .int p4)] dX11_bring_1 (by decide) rfl ?_
  exact mf_sub [1, 2, 3, 4, 5, 0] rfl (wlX11_bring_6_3 l _ _ _ FU _ _)
set_option maxRecDepth 100000 in
set_option maxHeartbeats 4000000 in
theorem wX11_read (l : Launch) (s : mx_G) : mf_M ei l yX11_read cX11_read 2 (some .int) 4 [.ref 45] s (fX11_read  s) := by
  refine mf_intro rfl (Nat.le_of_ble_eq_true rfl) rfl rfl ?_
  refine mf_sub (loc' := [(0, .ref 45)]) [0] rfl ?_
  unfold fX11_read
  refine mf_aload_n dX11_read_0 rfl 0 rfl ?_
  refine mf_callVv (stk := []) (wX11_readsAll l _) cl_X11_285 rfl (by decide) rfl rfl rfl (Nat.le_of_ble_eq_true rfl) rfl rfl dX11_read_1 (fun us1 s1 => ?_)
  refine mf_aload_n dX11_read_4 rfl 0 rfl ?_
  refine mf_callVi (stk := []) (wX11_looks l _) cl_X11_275 rfl (by decide) rfl rfl rfl (Nat.le_of_ble_eq_true rfl) rfl rfl dX11_read_5 (fun x2 s3 => ?_)
  refine mf_pop rfl dX11_read_8 ?_
  refine mf_aload_n dX11_read_9 rfl 0 rfl ?_
  refine mf_getI fl_X11_268 rfl rfl dX11_read_10 ?_
  refine mf_leti (fun x4 => ?_)
  refine mf_istore_n [(1, .int x4), (0, .ref 45)] dX11_read_13 rfl (by decide) rfl ?_
  refine mf_aload_n dX11_read_14 rfl 1 rfl ?_
  refine mf_iconst 0 dX11_read_15 (by decide) ?_
  refine mf_putI fl_X11_265 rfl rfl dX11_read_16 (fun s5 => ?_)
  refine mf_aload_n dX11_read_19 rfl 1 rfl ?_
  refine mf_getI fl_X11_271 rfl rfl dX11_read_20 ?_
  refine mf_if_eq 31 dX11_read_23 (by decide) ?_ ?_
  · refine mf_aload_n dX11_read_31 rfl 1 rfl ?_
    refine mf_callVv (stk := []) (wX11_notes l _) cl_X11_106 rfl (by decide) rfl rfl rfl (Nat.le_of_ble_eq_true rfl) rfl rfl dX11_read_32 (fun us6 s6 => ?_)
    refine mf_aload_n dX11_read_35 rfl 1 rfl ?_
    refine mf_getR fl_X11_75 rfl rfl dX11_read_36 ?_
    refine mf_iconst 0 dX11_read_39 (by decide) ?_
    refine mf_aload_n dX11_read_40 rfl 1 rfl ?_
    refine mf_getR fl_X11_7 rfl rfl dX11_read_41 ?_
    refine mf_iconst 1 dX11_read_44 (by decide) ?_
    refine mf_bipush 36 dX11_read_45 (by decide) ?_
    refine mf_callSv (stk := []) (wX11_bring_5 l _ _ _ _) cl_X11_84 rfl (by decide) rfl (Nat.le_of_ble_eq_true rfl) rfl rfl dX11_read_47 (fun us7 s7 => ?_)
    refine mf_aload_n dX11_read_50 rfl 1 rfl ?_
    refine mf_getR fl_X11_78 rfl rfl dX11_read_51 ?_
    refine mf_iconst 0 dX11_read_54 (by decide) ?_
    refine mf_aload_n dX11_read_55 rfl 1 rfl ?_
    refine mf_getR fl_X11_7 rfl rfl dX11_read_56 ?_
    refine mf_bipush 37 dX11_read_59 (by decide) ?_
    refine mf_bipush 36 dX11_read_61 (by decide) ?_
    refine mf_callSv (stk := []) (wX11_bring_6 l _ _ _ _) cl_X11_84 rfl (by decide) rfl (Nat.le_of_ble_eq_true rfl) rfl rfl dX11_read_63 (fun us8 s8 => ?_)
    refine mf_aload_n dX11_read_66 rfl 1 rfl ?_
    refine mf_iconst 1 dX11_read_67 (by decide) ?_
    refine mf_callVi (stk := []) (wX11_linkMany l _ _) cl_X11_187 rfl (by decide) rfl rfl rfl (Nat.le_of_ble_eq_true rfl) rfl rfl dX11_read_68 (fun x9 s10 => ?_)
    exact mf_iret dX11_read_71
  · refine mf_bipush (-20) dX11_read_26 (by decide) ?_
    refine mf_iload_n dX11_read_28 rfl 0 rfl ?_
    refine mf_isub dX11_read_29 ?_
    exact mf_iret dX11_read_30
set_option maxRecDepth 100000 in
set_option maxHeartbeats 4000000 in
theorem wX11_drifts (l : Launch) (p1 : Int32) (s : mx_G) : mf_M ev l yX11_drifts cX11_drifts 8 none 7 [.ref 45, .int p1] s (fX11_drifts p1 s) := by
  refine mf_intro rfl (Nat.le_of_ble_eq_true rfl) rfl rfl ?_
  refine mf_sub (loc' := [(0, .ref 45), (1, .int p1)]) [0, 1] rfl ?_
  unfold fX11_drifts
  refine mf_iload_n dX11_drifts_0 rfl 1 rfl ?_
  refine mf_bipush 8 dX11_drifts_1 (by decide) ?_
  refine mf_idiv (by decide) dX11_drifts_3 ?_
  refine mf_leti (fun x1 => ?_)
  refine mf_istore_n [(2, .int x1), (0, .ref 45), (1, .int p1)] dX11_drifts_4 rfl (by decide) rfl ?_
  refine mf_iload_n dX11_drifts_5 rfl 0 rfl ?_
  refine mf_aload_n dX11_drifts_6 rfl 1 rfl ?_
  refine mf_getR fl_X11_7 rfl rfl dX11_drifts_7 ?_
  refine mf_iconst 0 dX11_drifts_10 (by decide) ?_
  refine mf_iald rfl dX11_drifts_11 ?_
  refine mf_iremG dX11_drifts_12 ?_
  refine mf_leti (fun x2 => ?_)
  refine mf_istore_n [(3, .int x2), (2, .int x1), (0, .ref 45), (1, .int p1)] dX11_drifts_13 rfl (by decide) rfl ?_
  refine mf_iload_n dX11_drifts_14 rfl 1 rfl ?_
  refine mf_bipush 8 dX11_drifts_15 (by decide) ?_
  refine mf_idiv (by decide) dX11_drifts_17 ?_
  refine mf_aload_n dX11_drifts_18 rfl 2 rfl ?_
  refine mf_getR fl_X11_7 rfl rfl dX11_drifts_19 ?_
  refine mf_iconst 0 dX11_drifts_22 (by decide) ?_
  refine mf_iald rfl dX11_drifts_23 ?_
  refine mf_iremG dX11_drifts_24 ?_
  refine mf_leti (fun x3 => ?_)
  refine mf_istore [(4, .int x3), (3, .int x2), (2, .int x1), (0, .ref 45), (1, .int p1)] dX11_drifts_25 (by decide) rfl ?_
  refine mf_iload_n dX11_drifts_27 rfl 2 rfl ?_
  refine mf_bipush 64 dX11_drifts_28 (by decide) ?_
  refine mf_idiv (by decide) dX11_drifts_30 ?_
  refine mf_leti (fun x4 => ?_)
  refine mf_istore [(5, .int x4), (4, .int x3), (3, .int x2), (2, .int x1), (0, .ref 45), (1, .int p1)] dX11_drifts_31 (by decide) rfl ?_
  refine mf_iload_n dX11_drifts_33 rfl 5 rfl ?_
  refine mf_bipush 8 dX11_drifts_34 (by decide) ?_
  refine mf_irem (by decide) dX11_drifts_36 ?_
  refine mf_leti (fun x5 => ?_)
  refine mf_istore [(6, .int x5), (5, .int x4), (4, .int x3), (3, .int x2), (2, .int x1), (0, .ref 45), (1, .int p1)] dX11_drifts_37 (by decide) rfl ?_
  refine mf_iload_n dX11_drifts_39 rfl 3 rfl ?_
  refine mf_iload dX11_drifts_40 2 rfl ?_
  refine mf_callSi (stk := []) (wX11_pair l _ _ _) cl_X11_96 rfl (by decide) rfl (Nat.le_of_ble_eq_true rfl) rfl rfl dX11_drifts_42 (fun x6 s7 => ?_)
  refine mf_istore [(7, .int x6), (6, .int x5), (5, .int x4), (4, .int x3), (3, .int x2), (2, .int x1), (0, .ref 45), (1, .int p1)] dX11_drifts_45 (by decide) rfl ?_
  refine mf_iload dX11_drifts_47 1 rfl ?_
  refine mf_bipush 6 dX11_drifts_49 (by decide) ?_
  refine mf_icmp_le 63 dX11_drifts_51 (by decide) ?_ ?_
  · refine mf_iload dX11_drifts_63 1 rfl ?_
    refine mf_iconst 4 dX11_drifts_65 (by decide) ?_
    refine mf_icmp_le 77 dX11_drifts_66 (by decide) ?_ ?_
    · refine mf_iload dX11_drifts_77 1 rfl ?_
      refine mf_iconst 3 dX11_drifts_79 (by decide) ?_
      refine mf_icmp_ne 99 dX11_drifts_80 (by decide) ?_ ?_
      · refine mf_aload_n dX11_drifts_83 rfl 6 rfl ?_
        refine mf_getR fl_X11_7 rfl rfl dX11_drifts_84 ?_
        refine mf_bipush 109 dX11_drifts_87 (by decide) ?_
        refine mf_iload_n dX11_drifts_89 rfl 4 rfl ?_
        refine mf_iadd dX11_drifts_90 ?_
        refine mf_iload dX11_drifts_91 2 rfl ?_
        refine mf_iconst 4 dX11_drifts_93 (by decide) ?_
        refine mf_irem (by decide) dX11_drifts_94 ?_
        refine mf_iast rfl dX11_drifts_95 (fun s12 => ?_)
        refine mf_goto 238 dX11_drifts_96 (by decide) ?_
        exact mf_vret dX11_drifts_238
      · refine mf_iload_n dX11_drifts_99 rfl 4 rfl ?_
        refine mf_iload dX11_drifts_100 3 rfl ?_
        refine mf_join (fun (J : mx_G → Option (Unit × mx_G)) => ∀ (s_125 : mx_G), mf_X ev l RX11 cX11_drifts 8 none "drifts" 7 (J s_125) 125 [(0, .ref 45), (3, .int x2), (4, .int x3), (5, .int x4), (6, .int x5), (7, .int x6)] [] s_125) ?_ (fun J125 hJ125 => ?_)
        · intro s_125
          refine mf_iload_n dX11_drifts_125 rfl 1 rfl ?_
          refine mf_iload dX11_drifts_126 2 rfl ?_
          refine mf_join (fun (J : mx_G → Option (Unit × mx_G)) => ∀ (s_180 : mx_G), mf_X ev l RX11 cX11_drifts 8 none "drifts" 7 (J s_180) 180 [(0, .ref 45), (3, .int x2), (4, .int x3), (5, .int x4), (6, .int x5), (7, .int x6)] [] s_180) ?_ (fun J180 hJ180 => ?_)
          · intro s_180
            refine mf_iload_n dX11_drifts_180 rfl 1 rfl ?_
            refine mf_iload dX11_drifts_181 2 rfl ?_
            refine mf_join (fun (J : mx_G → Option (Unit × mx_G)) => ∀ (s_210 : mx_G), mf_X ev l RX11 cX11_drifts 8 none "drifts" 7 (J s_210) 210 [(0, .ref 45), (3, .int x2), (4, .int x3), (6, .int x5)] [] s_210) ?_ (fun J210 hJ210 => ?_)
            · intro s_210
              refine mf_iload_n dX11_drifts_210 rfl 1 rfl ?_
              refine mf_iload dX11_drifts_211 2 rfl ?_
              refine mf_icmp_eq 238 dX11_drifts_213 (by decide) ?_ ?_
              · exact mf_vret dX11_drifts_238
              · refine mf_iload dX11_drifts_216 3 rfl ?_
                refine mf_iconst 4 dX11_drifts_218 (by decide) ?_
                refine mf_icmp_ne 238 dX11_drifts_219 (by decide) ?_ ?_
                · refine mf_aload_n dX11_drifts_222 rfl 0 rfl ?_
                  refine mf_getR fl_X11_7 rfl rfl dX11_drifts_223 ?_
                  refine mf_bipush 115 dX11_drifts_226 (by decide) ?_
                  refine mf_iload_n dX11_drifts_228 rfl 1 rfl ?_
                  refine mf_iadd dX11_drifts_229 ?_
                  refine mf_dup2 rfl rfl dX11_drifts_230 ?_
                  refine mf_iald rfl dX11_drifts_231 ?_
                  refine mf_iconst 1 dX11_drifts_232 (by decide) ?_
                  refine mf_iload dX11_drifts_233 2 rfl ?_
                  refine mf_ishl dX11_drifts_235 ?_
                  refine mf_ixor dX11_drifts_236 ?_
                  refine mf_iast rfl dX11_drifts_237 (fun s8 => ?_)
                  exact mf_vret dX11_drifts_238
                · exact mf_vret dX11_drifts_238
            refine mf_icmp_eq 210 dX11_drifts_183 (by decide) ?_ ?_
            · exact mf_sub [0, 1, 2, 4] rfl (hJ210 _)
            · refine mf_iload dX11_drifts_186 4 rfl ?_
              refine mf_iconst 2 dX11_drifts_188 (by decide) ?_
              refine mf_icmp_ne 210 dX11_drifts_189 (by decide) ?_ ?_
              · refine mf_aload_n dX11_drifts_192 rfl 0 rfl ?_
                refine mf_getR fl_X11_7 rfl rfl dX11_drifts_193 ?_
                refine mf_bipush 73 dX11_drifts_196 (by decide) ?_
                refine mf_iload dX11_drifts_198 5 rfl ?_
                refine mf_iadd dX11_drifts_200 ?_
                refine mf_iload dX11_drifts_201 3 rfl ?_
                refine mf_bipush 10 dX11_drifts_203 (by decide) ?_
                refine mf_irem (by decide) dX11_drifts_205 ?_
                refine mf_iast rfl dX11_drifts_206 (fun s9 => ?_)
                refine mf_goto 238 dX11_drifts_207 (by decide) ?_
                exact mf_vret dX11_drifts_238
              · exact mf_sub [0, 1, 2, 4] rfl (hJ210 _)
          refine mf_icmp_eq 180 dX11_drifts_128 (by decide) ?_ ?_
          · exact mf_sub [0, 1, 2, 3, 4, 5] rfl (hJ180 _)
          · refine mf_iload dX11_drifts_131 4 rfl ?_
            refine mf_iconst 1 dX11_drifts_133 (by decide) ?_
            refine mf_icmp_ne 180 dX11_drifts_134 (by decide) ?_ ?_
            · refine mf_aload_n dX11_drifts_137 rfl 0 rfl ?_
              refine mf_getR fl_X11_7 rfl rfl dX11_drifts_138 ?_
              refine mf_iconst 1 dX11_drifts_141 (by decide) ?_
              refine mf_iload dX11_drifts_142 5 rfl ?_
              refine mf_iadd dX11_drifts_144 ?_
              refine mf_iald rfl dX11_drifts_145 ?_
              refine mf_if_le 180 dX11_drifts_146 (by decide) ?_ ?_
              · exact mf_sub [0, 1, 2, 3, 4, 5] rfl (hJ180 _)
              · refine mf_aload_n dX11_drifts_149 rfl 0 rfl ?_
                refine mf_iload_n dX11_drifts_150 rfl 1 rfl ?_
                refine mf_iload dX11_drifts_151 2 rfl ?_
                refine mf_aload_n dX11_drifts_153 rfl 0 rfl ?_
                refine mf_getR fl_X11_7 rfl rfl dX11_drifts_154 ?_
                refine mf_iconst 1 dX11_drifts_157 (by decide) ?_
                refine mf_iload dX11_drifts_158 5 rfl ?_
                refine mf_iadd dX11_drifts_160 ?_
                refine mf_iald rfl dX11_drifts_161 ?_
                refine mf_iconst 1 dX11_drifts_162 (by decide) ?_
                refine mf_aload_n dX11_drifts_163 rfl 0 rfl ?_
                refine mf_getR fl_X11_7 rfl rfl dX11_drifts_164 ?_
                refine mf_bipush 37 dX11_drifts_167 (by decide) ?_
                refine mf_iload dX11_drifts_169 5 rfl ?_
                refine mf_iadd dX11_drifts_171 ?_
                refine mf_iald rfl dX11_drifts_172 ?_
                refine mf_isub dX11_drifts_173 ?_
                refine mf_callVv (stk := []) (wX11_links l _ _ _ _ _) cl_X11_109 rfl (by decide) rfl rfl rfl (Nat.le_of_ble_eq_true rfl) rfl rfl dX11_drifts_174 (fun us10 s10 => ?_)
                refine mf_goto 238 dX11_drifts_177 (by decide) ?_
                exact mf_vret dX11_drifts_238
            · exact mf_sub [0, 1, 2, 3, 4, 5] rfl (hJ180 _)
        refine mf_icmp_eq 125 dX11_drifts_102 (by decide) ?_ ?_
        · exact mf_sub [6, 4, 3, 2, 1, 0] rfl (hJ125 _)
        · refine mf_iload dX11_drifts_105 1 rfl ?_
          refine mf_if_ne 125 dX11_drifts_107 (by decide) ?_ ?_
          · refine mf_aload_n dX11_drifts_110 rfl 6 rfl ?_
            refine mf_iload_n dX11_drifts_111 rfl 4 rfl ?_
            refine mf_iload dX11_drifts_112 3 rfl ?_
            refine mf_iload dX11_drifts_114 2 rfl ?_
            refine mf_iconst 4 dX11_drifts_116 (by decide) ?_
            refine mf_irem (by decide) dX11_drifts_117 ?_
            refine mf_iconst 0 dX11_drifts_118 (by decide) ?_
            refine mf_callVv (stk := []) (wX11_links l _ _ _ _ _) cl_X11_109 rfl (by decide) rfl rfl rfl (Nat.le_of_ble_eq_true rfl) rfl rfl dX11_drifts_119 (fun us11 s11 => ?_)
            refine mf_goto 238 dX11_drifts_122 (by decide) ?_
            exact mf_vret dX11_drifts_238
          · exact mf_sub [6, 4, 3, 2, 1, 0] rfl (hJ125 _)
    · refine mf_aload_n dX11_drifts_69 rfl 6 rfl ?_
      refine mf_callVi (stk := []) (wX11_turnsOnce l _) cl_X11_199 rfl (by decide) rfl rfl rfl (Nat.le_of_ble_eq_true rfl) rfl rfl dX11_drifts_70 (fun x13 s14 => ?_)
      refine mf_pop rfl dX11_drifts_73 ?_
      refine mf_goto 238 dX11_drifts_74 (by decide) ?_
      exact mf_vret dX11_drifts_238
  · refine mf_aload_n dX11_drifts_54 rfl 6 rfl ?_
    refine mf_iload_n dX11_drifts_55 rfl 4 rfl ?_
    refine mf_callVi (stk := []) (wX11_choosesAnew l _ _) cl_X11_202 rfl (by decide) rfl rfl rfl (Nat.le_of_ble_eq_true rfl) rfl rfl dX11_drifts_56 (fun x15 s16 => ?_)
    refine mf_pop rfl dX11_drifts_59 ?_
    refine mf_goto 238 dX11_drifts_60 (by decide) ?_
    exact mf_vret dX11_drifts_238
set_option maxRecDepth 100000 in
set_option maxHeartbeats 4000000 in
theorem wlX11_drift_16 (l : Launch) (a1 : Int32)   : ∀ (n : Nat) (a2 : Int32) (s0 : mx_G), mf_X ei l RX11 cX11_drift 5 (some .int) "drift" 8 (lX11_drift_16 a1  n a2 s0) 16 [(0, .ref 45), (1, .int a1), (2, .int a2)] [] s0 := by
  intro n
  induction n with
  | zero => intro a2 s0; exact mf_none
  | succ n ih16 =>
    intro a2 s0
    rw [lX11_drift_16]
    refine mf_iload_n dX11_drift_16 rfl 2 rfl ?_
    refine mf_iload_n dX11_drift_17 rfl 1 rfl ?_
    refine mf_icmp_ge 76 dX11_drift_18 (by decide) ?_ ?_
    · refine mf_aload_n dX11_drift_76 rfl 0 rfl ?_
      refine mf_callVi (stk := []) (wX11_chosenSet l _) cl_X11_190 rfl (by decide) rfl rfl rfl (Nat.le_of_ble_eq_true rfl) rfl rfl dX11_drift_77 (fun x3 s4 => ?_)
      exact mf_iret dX11_drift_80
    · refine mf_aload_n dX11_drift_21 rfl 0 rfl ?_
      refine mf_callVv (stk := []) (wX11_notes l _) cl_X11_106 rfl (by decide) rfl rfl rfl (Nat.le_of_ble_eq_true rfl) rfl rfl dX11_drift_22 (fun us5 s5 => ?_)
      refine mf_aload_n dX11_drift_25 rfl 0 rfl ?_
      refine mf_getR fl_X11_7 rfl rfl dX11_drift_26 ?_
      refine mf_bipush 127 dX11_drift_29 (by decide) ?_
      refine mf_iald rfl dX11_drift_31 ?_
      refine mf_i2l dX11_drift_32 ?_
      refine mf_ldc2 kl_X11_290 dX11_drift_33 ?_
      refine mf_lmul dX11_drift_36 ?_
      refine mf_ldc2 kl_X11_292 dX11_drift_37 ?_
      refine mf_ladd dX11_drift_40 ?_
      refine mf_letl (fun x6 => ?_)
      refine mf_lstore_n [(3, .long x6), (0, .ref 45), (1, .int a1), (2, .int a2)] dX11_drift_41 rfl (by decide) rfl ?_
      refine mf_aload_n dX11_drift_42 rfl 1 rfl ?_
      refine mf_getR fl_X11_7 rfl rfl dX11_drift_43 ?_
      refine mf_bipush 127 dX11_drift_46 (by decide) ?_
      refine mf_lload_n dX11_drift_48 rfl 0 rfl ?_
      refine mf_ldc2 kl_X11_294 dX11_drift_49 ?_
      refine mf_lrem (by decide) dX11_drift_52 ?_
      refine mf_l2i dX11_drift_53 ?_
      refine mf_iast rfl dX11_drift_54 (fun s7 => ?_)
      refine mf_aload_n dX11_drift_55 rfl 1 rfl ?_
      refine mf_aload_n dX11_drift_56 rfl 1 rfl ?_
      refine mf_getR fl_X11_7 rfl rfl dX11_drift_57 ?_
      refine mf_bipush 127 dX11_drift_60 (by decide) ?_
      refine mf_iald rfl dX11_drift_62 ?_
      refine mf_ldcw kl_X11_296 dX11_drift_63 ?_
      refine mf_idiv (by decide) dX11_drift_66 ?_
      refine mf_callVv (stk := []) (wX11_drifts l _ _) cl_X11_297 rfl (by decide) rfl rfl rfl (Nat.le_of_ble_eq_true rfl) rfl rfl dX11_drift_67 (fun us8 s8 => ?_)
      refine mf_iinc 1 [(2, .int (a2 + 1)), (3, .long x6), (0, .ref 45), (1, .int a1)] dX11_drift_70 3 rfl (by decide) (by decide) rfl ?_
      refine mf_goto 16 dX11_drift_73 (by decide) ?_
      exact mf_sub [2, 3, 0] rfl (ih16 _ _)
set_option maxRecDepth 100000 in
set_option maxHeartbeats 4000000 in
theorem wX11_drift (l : Launch) (p1 : Int32) (s : mx_G) : mf_M ei l yX11_drift cX11_drift 5 (some .int) 8 [.ref 45, .int p1] s (fX11_drift p1 s) := by
  refine mf_intro rfl (Nat.le_of_ble_eq_true rfl) rfl rfl ?_
  refine mf_sub (loc' := [(0, .ref 45), (1, .int p1)]) [0, 1] rfl ?_
  unfold fX11_drift
  refine mf_iload_n dX11_drift_0 rfl 1 rfl ?_
  refine mf_i2l dX11_drift_1 ?_
  refine mf_lconst 1 dX11_drift_2 (by decide) ?_
  refine mf_ldc2 kl_X11_288 dX11_drift_3 ?_
  refine mf_callSi (stk := []) (wX11_in l _ _ _ _) cl_X11_88 rfl (by decide) rfl (Nat.le_of_ble_eq_true rfl) rfl rfl dX11_drift_6 (fun x1 s2 => ?_)
  refine mf_if_ne 14 dX11_drift_9 (by decide) ?_ ?_
  · refine mf_iconst (-1) dX11_drift_12 (by decide) ?_
    exact mf_iret dX11_drift_13
  · refine mf_iconst 0 dX11_drift_14 (by decide) ?_
    refine mf_istore_n [(2, .int 0), (0, .ref 45), (1, .int p1)] dX11_drift_15 rfl (by decide) rfl ?_
    exact mf_sub [1, 2, 0] rfl (wlX11_drift_16 l _ FU _ _)
set_option maxRecDepth 100000 in
set_option maxHeartbeats 4000000 in
theorem wlX11_bring_7_3 (l : Launch) (a1 : Int32) (a3 : Int32) (a4 : Int32)   : ∀ (n : Nat) (a5 : Int32) (s0 : mx_G), mf_X ev l RX11 cX11_bring 6 none "bring" 0 (lX11_bring_7_3 a1 a3 a4  n a5 s0) 3 [(0, .ref 47), (1, .int a1), (2, .ref 46), (3, .int a3), (4, .int a4), (5, .int a5)] [] s0 := by
  intro n
  induction n with
  | zero => intro a5 s0; exact mf_none
  | succ n ih3 =>
    intro a5 s0
    rw [lX11_bring_7_3]
    refine mf_iload dX11_bring_3 5 rfl ?_
    refine mf_iload dX11_bring_5 4 rfl ?_
    refine mf_icmp_ge 28 dX11_bring_7 (by decide) ?_ ?_
    · exact mf_vret dX11_bring_28
    · refine mf_aload_n dX11_bring_10 rfl 2 rfl ?_
      refine mf_iload_n dX11_bring_11 rfl 3 rfl ?_
      refine mf_iload dX11_bring_12 5 rfl ?_
      refine mf_iadd dX11_bring_14 ?_
      refine mf_aload_n dX11_bring_15 rfl 0 rfl ?_
      refine mf_iload_n dX11_bring_16 rfl 1 rfl ?_
      refine mf_iload dX11_bring_17 5 rfl ?_
      refine mf_iadd dX11_bring_19 ?_
      refine mf_iald rfl dX11_bring_20 ?_
      refine mf_iast rfl dX11_bring_21 (fun s1 => ?_)
      refine mf_iinc 1 [(5, .int (a5 + 1)), (0, .ref 47), (1, .int a1), (2, .ref 46), (3, .int a3), (4, .int a4)] dX11_bring_22 5 rfl (by decide) (by decide) rfl ?_
      refine mf_goto 3 dX11_bring_25 (by decide) ?_
      exact mf_sub [1, 2, 3, 4, 5, 0] rfl (ih3 _ _)
set_option maxRecDepth 100000 in
set_option maxHeartbeats 4000000 in
theorem wX11_bring_7 (l : Launch) (p1 : Int32) (p3 : Int32) (p4 : Int32) (s : mx_G) : mf_M ev l yX11_bring cX11_bring 6 none 0 [.ref 47, .int p1, .ref 46, .int p3, .int p4] s (fX11_bring_7 p1 p3 p4 s) := by
  refine mf_intro rfl (Nat.le_of_ble_eq_true rfl) rfl rfl ?_
  refine mf_sub (loc' := [(0, .ref 47), (1, .int p1), (2, .ref 46), (3, .int p3), (4, .int p4)]) [0, 1, 2, 3, 4] rfl ?_
  unfold fX11_bring_7
  refine mf_iconst 0 dX11_bring_0 (by decide) ?_
  refine mf_istore [(5, .int 0), (0, .ref 47), (1, .int p1), (2, .ref 46), (3, .int p3), (4, .int p4)] dX11_bring_1 (by decide) rfl ?_
  exact mf_sub [1, 2, 3, 4, 5, 0] rfl (wlX11_bring_7_3 l _ _ _ FU _ _)
set_option maxRecDepth 100000 in
set_option maxHeartbeats 4000000 in
theorem wX11_undo (l : Launch) (s : mx_G) : mf_M ei l yX11_undo cX11_undo 1 (some .int) 1 [.ref 45] s (fX11_undo  s) := by
  refine mf_intro rfl (Nat.le_of_ble_eq_true rfl) rfl rfl ?_
  refine mf_sub (loc' := [(0, .ref 45)]) [0] rfl ?_
  unfold fX11_undo
  refine mf_aload_n dX11_undo_0 rfl 0 rfl ?_
  refine mf_getI fl_X11_81 rfl rfl dX11_undo_1 ?_
  refine mf_if_ne 10 dX11_undo_4 (by decide) ?_ ?_
  · refine mf_bipush (-4) dX11_undo_7 (by decide) ?_
    exact mf_iret dX11_undo_9
  · refine mf_aload_n dX11_undo_10 rfl 0 rfl ?_
    refine mf_dup rfl dX11_undo_11 ?_
    refine mf_getI fl_X11_81 rfl rfl dX11_undo_12 ?_
    refine mf_iconst 1 dX11_undo_15 (by decide) ?_
    refine mf_isub dX11_undo_16 ?_
    refine mf_putI fl_X11_81 rfl rfl dX11_undo_17 (fun s1 => ?_)
    refine mf_aload_n dX11_undo_20 rfl 0 rfl ?_
    refine mf_getR fl_X11_13 rfl rfl dX11_undo_21 ?_
    refine mf_sipush 128 dX11_undo_24 (by decide) ?_
    refine mf_aload_n dX11_undo_27 rfl 0 rfl ?_
    refine mf_getI fl_X11_81 rfl rfl dX11_undo_28 ?_
    refine mf_imul dX11_undo_31 ?_
    refine mf_aload_n dX11_undo_32 rfl 0 rfl ?_
    refine mf_getR fl_X11_7 rfl rfl dX11_undo_33 ?_
    refine mf_iconst 0 dX11_undo_36 (by decide) ?_
    refine mf_sipush 128 dX11_undo_37 (by decide) ?_
    refine mf_callSv (stk := []) (wX11_bring_7 l _ _ _ _) cl_X11_84 rfl (by decide) rfl (Nat.le_of_ble_eq_true rfl) rfl rfl dX11_undo_40 (fun us2 s2 => ?_)
    refine mf_aload_n dX11_undo_43 rfl 0 rfl ?_
    refine mf_getI fl_X11_81 rfl rfl dX11_undo_44 ?_
    exact mf_iret dX11_undo_47
