set_option maxRecDepth 100000 in
set_option maxHeartbeats 4000000 in
theorem wX5_has (l : Launch) (p1 : Int32) (s : mx_G) : mf_M ei l yX5_has cX5_has 2 (some .boolean) 0 [.ref 27, .int p1] s (fX5_has p1 s) := by
  refine mf_intro rfl (Nat.le_of_ble_eq_true rfl) rfl rfl ?_
  refine mf_sub (loc' := [(0, .ref 27), (1, .int p1)]) [0, 1] rfl ?_
  unfold fX5_has
  refine mf_aload_n dX5_has_0 rfl 0 rfl ?_
  refine mf_iload_n dX5_has_1 rfl 1 rfl ?_
  refine mf_bipush 64 dX5_has_2 (by decide) ?_
  refine mf_idiv (by decide) dX5_has_4 ?_
  refine mf_lald rfl dX5_has_5 ?_
  refine mf_iload_n dX5_has_6 rfl 1 rfl ?_
  refine mf_bipush 64 dX5_has_7 (by decide) ?_
  refine mf_irem (by decide) dX5_has_9 ?_
  refine mf_lushr dX5_has_10 ?_
  refine mf_lconst 1 dX5_has_11 (by decide) ?_
  refine mf_land dX5_has_12 ?_
  refine mf_lconst 0 dX5_has_13 (by decide) ?_
  refine mf_lcmp dX5_has_14 ?_
  refine mf_if_eq 22 dX5_has_15 (by decide) ?_ ?_
  · refine mf_iconst 0 dX5_has_22 (by decide) ?_
    exact mf_zret (by decide) dX5_has_23
  · refine mf_iconst 1 dX5_has_18 (by decide) ?_
    refine mf_goto 23 dX5_has_19 (by decide) ?_
    exact mf_zret (by decide) dX5_has_23
set_option maxRecDepth 100000 in
set_option maxHeartbeats 4000000 in
theorem wlJA_fillL_2_6 (l : Launch) (a1 : Int64) (a4 : Int32)   : ∀ (n : Nat) (a3 : Int32) (s0 : mx_G), mf_X ev l "java/util/Arrays" cJA_fillL 5 none "fill" 0 (lJA_fillL_2_6 a1 a4  n a3 s0) 6 [(0, .ref 28), (1, .long a1), (3, .int a3), (4, .int a4)] [] s0 := by
  intro n
  induction n with
  | zero => intro a3 s0; exact mf_none
  | succ n ih6 =>
    intro a3 s0
    rw [lJA_fillL_2_6]
    refine mf_iload_n dJA_fillL_6 rfl 2 rfl ?_
    refine mf_iload dJA_fillL_7 3 rfl ?_
    refine mf_icmp_ge 22 dJA_fillL_9 (by decide) ?_ ?_
    · exact mf_vret dJA_fillL_22
    · refine mf_aload_n dJA_fillL_12 rfl 0 rfl ?_
      refine mf_iload_n dJA_fillL_13 rfl 2 rfl ?_
      refine mf_lload_n dJA_fillL_14 rfl 1 rfl ?_
      refine mf_last rfl dJA_fillL_15 (fun s1 => ?_)
      refine mf_iinc 1 [(3, .int (a3 + 1)), (0, .ref 28), (1, .long a1), (4, .int a4)] dJA_fillL_16 2 rfl (by decide) (by decide) rfl ?_
      refine mf_goto 6 dJA_fillL_19 (by decide) ?_
      exact mf_sub [1, 2, 0, 3] rfl (ih6 _ _)
set_option maxRecDepth 100000 in
set_option maxHeartbeats 4000000 in
theorem wJA_fillL_2 (l : Launch) (p1 : Int64) (s : mx_G) : mf_M ev l yJA_fillL cJA_fillL 5 none 0 [.ref 28, .long p1] s (fJA_fillL_2 p1 s) := by
  refine mf_intro rfl (Nat.le_of_ble_eq_true rfl) rfl rfl ?_
  refine mf_sub (loc' := [(0, .ref 28), (1, .long p1)]) [0, 1] rfl ?_
  unfold fJA_fillL_2
  refine mf_iconst 0 dJA_fillL_0 (by decide) ?_
  refine mf_istore_n [(3, .int 0), (0, .ref 28), (1, .long p1)] dJA_fillL_1 rfl (by decide) rfl ?_
  refine mf_aload_n dJA_fillL_2 rfl 1 rfl ?_
  refine mf_alenl 6 rfl (by decide) dJA_fillL_3 ?_
  refine mf_istore [(4, .int 6), (3, .int 0), (0, .ref 28), (1, .long p1)] dJA_fillL_4 (by decide) rfl ?_
  exact mf_sub [2, 3, 1, 0] rfl (wlJA_fillL_2_6 l _ _ FU _ _)
set_option maxRecDepth 100000 in
set_option maxHeartbeats 4000000 in
theorem wlJA_fillL_3_6 (l : Launch) (a1 : Int64) (a4 : Int32)   : ∀ (n : Nat) (a3 : Int32) (s0 : mx_G), mf_X ev l "java/util/Arrays" cJA_fillL 5 none "fill" 0 (lJA_fillL_3_6 a1 a4  n a3 s0) 6 [(0, .ref 29), (1, .long a1), (3, .int a3), (4, .int a4)] [] s0 := by
  intro n
  induction n with
  | zero => intro a3 s0; exact mf_none
  | succ n ih6 =>
    intro a3 s0
    rw [lJA_fillL_3_6]
    refine mf_iload_n dJA_fillL_6 rfl 2 rfl ?_
    refine mf_iload dJA_fillL_7 3 rfl ?_
    refine mf_icmp_ge 22 dJA_fillL_9 (by decide) ?_ ?_
    · exact mf_vret dJA_fillL_22
    · refine mf_aload_n dJA_fillL_12 rfl 0 rfl ?_
      refine mf_iload_n dJA_fillL_13 rfl 2 rfl ?_
      refine mf_lload_n dJA_fillL_14 rfl 1 rfl ?_
      refine mf_last rfl dJA_fillL_15 (fun s1 => ?_)
      refine mf_iinc 1 [(3, .int (a3 + 1)), (0, .ref 29), (1, .long a1), (4, .int a4)] dJA_fillL_16 2 rfl (by decide) (by decide) rfl ?_
      refine mf_goto 6 dJA_fillL_19 (by decide) ?_
      exact mf_sub [1, 2, 0, 3] rfl (ih6 _ _)
set_option maxRecDepth 100000 in
set_option maxHeartbeats 4000000 in
theorem wJA_fillL_3 (l : Launch) (p1 : Int64) (s : mx_G) : mf_M ev l yJA_fillL cJA_fillL 5 none 0 [.ref 29, .long p1] s (fJA_fillL_3 p1 s) := by
  refine mf_intro rfl (Nat.le_of_ble_eq_true rfl) rfl rfl ?_
  refine mf_sub (loc' := [(0, .ref 29), (1, .long p1)]) [0, 1] rfl ?_
  unfold fJA_fillL_3
  refine mf_iconst 0 dJA_fillL_0 (by decide) ?_
  refine mf_istore_n [(3, .int 0), (0, .ref 29), (1, .long p1)] dJA_fillL_1 rfl (by decide) rfl ?_
  refine mf_aload_n dJA_fillL_2 rfl 1 rfl ?_
  refine mf_alenl 6 rfl (by decide) dJA_fillL_3 ?_
  refine mf_istore [(4, .int 6), (3, .int 0), (0, .ref 29), (1, .long p1)] dJA_fillL_4 (by decide) rfl ?_
  exact mf_sub [2, 3, 1, 0] rfl (wlJA_fillL_3_6 l _ _ FU _ _)
set_option maxRecDepth 100000 in
set_option maxHeartbeats 4000000 in
theorem wlJA_fillL_4_6 (l : Launch) (a1 : Int64) (a4 : Int32)   : ∀ (n : Nat) (a3 : Int32) (s0 : mx_G), mf_X ev l "java/util/Arrays" cJA_fillL 5 none "fill" 0 (lJA_fillL_4_6 a1 a4  n a3 s0) 6 [(0, .ref 30), (1, .long a1), (3, .int a3), (4, .int a4)] [] s0 := by
  intro n
  induction n with
  | zero => intro a3 s0; exact mf_none
  | succ n ih6 =>
    intro a3 s0
    rw [lJA_fillL_4_6]
    refine mf_iload_n dJA_fillL_6 rfl 2 rfl ?_
    refine mf_iload dJA_fillL_7 3 rfl ?_
    refine mf_icmp_ge 22 dJA_fillL_9 (by decide) ?_ ?_
    · exact mf_vret dJA_fillL_22
    · refine mf_aload_n dJA_fillL_12 rfl 0 rfl ?_
      refine mf_iload_n dJA_fillL_13 rfl 2 rfl ?_
      refine mf_lload_n dJA_fillL_14 rfl 1 rfl ?_
      refine mf_last rfl dJA_fillL_15 (fun s1 => ?_)
      refine mf_iinc 1 [(3, .int (a3 + 1)), (0, .ref 30), (1, .long a1), (4, .int a4)] dJA_fillL_16 2 rfl (by decide) (by decide) rfl ?_
      refine mf_goto 6 dJA_fillL_19 (by decide) ?_
      exact mf_sub [1, 2, 0, 3] rfl (ih6 _ _)
set_option maxRecDepth 100000 in
set_option maxHeartbeats 4000000 in
theorem wJA_fillL_4 (l : Launch) (p1 : Int64) (s : mx_G) : mf_M ev l yJA_fillL cJA_fillL 5 none 0 [.ref 30, .long p1] s (fJA_fillL_4 p1 s) := by
  refine mf_intro rfl (Nat.le_of_ble_eq_true rfl) rfl rfl ?_
  refine mf_sub (loc' := [(0, .ref 30), (1, .long p1)]) [0, 1] rfl ?_
  unfold fJA_fillL_4
  refine mf_iconst 0 dJA_fillL_0 (by decide) ?_
  refine mf_istore_n [(3, .int 0), (0, .ref 30), (1, .long p1)] dJA_fillL_1 rfl (by decide) rfl ?_
  refine mf_aload_n dJA_fillL_2 rfl 1 rfl ?_
  refine mf_alenl 6 rfl (by decide) dJA_fillL_3 ?_
  refine mf_istore [(4, .int 6), (3, .int 0), (0, .ref 30), (1, .long p1)] dJA_fillL_4 (by decide) rfl ?_
  exact mf_sub [2, 3, 1, 0] rfl (wlJA_fillL_4_6 l _ _ FU _ _)
set_option maxRecDepth 100000 in
set_option maxHeartbeats 4000000 in
theorem wJL_bitCount (l : Launch) (p0 : Int64) (s : mx_G) : mf_M ei l yJL_bitCount cJL_bitCount 2 (some .int) 0 [.long p0] s (fJL_bitCount p0 s) := by
  refine mf_intro rfl (Nat.le_of_ble_eq_true rfl) rfl rfl ?_
  refine mf_sub (loc' := [(0, .long p0)]) [0] rfl ?_
  unfold fJL_bitCount
  refine mf_lload_n dJL_bitCount_0 rfl 0 rfl ?_
  refine mf_lload_n dJL_bitCount_1 rfl 0 rfl ?_
  refine mf_iconst 1 dJL_bitCount_2 (by decide) ?_
  refine mf_lushr dJL_bitCount_3 ?_
  refine mf_ldc2 kl_JL_314 dJL_bitCount_4 ?_
  refine mf_land dJL_bitCount_7 ?_
  refine mf_lsub dJL_bitCount_8 ?_
  refine mf_letl (fun x1 => ?_)
  refine mf_lstore_n [(0, .long x1)] dJL_bitCount_9 rfl (by decide) rfl ?_
  refine mf_lload_n dJL_bitCount_10 rfl 0 rfl ?_
  refine mf_ldc2 kl_JL_316 dJL_bitCount_11 ?_
  refine mf_land dJL_bitCount_14 ?_
  refine mf_lload_n dJL_bitCount_15 rfl 0 rfl ?_
  refine mf_iconst 2 dJL_bitCount_16 (by decide) ?_
  refine mf_lushr dJL_bitCount_17 ?_
  refine mf_ldc2 kl_JL_316 dJL_bitCount_18 ?_
  refine mf_land dJL_bitCount_21 ?_
  refine mf_ladd dJL_bitCount_22 ?_
  refine mf_letl (fun x2 => ?_)
  refine mf_lstore_n [(0, .long x2)] dJL_bitCount_23 rfl (by decide) rfl ?_
  refine mf_lload_n dJL_bitCount_24 rfl 0 rfl ?_
  refine mf_lload_n dJL_bitCount_25 rfl 0 rfl ?_
  refine mf_iconst 4 dJL_bitCount_26 (by decide) ?_
  refine mf_lushr dJL_bitCount_27 ?_
  refine mf_ladd dJL_bitCount_28 ?_
  refine mf_ldc2 kl_JL_318 dJL_bitCount_29 ?_
  refine mf_land dJL_bitCount_32 ?_
  refine mf_letl (fun x3 => ?_)
  refine mf_lstore_n [(0, .long x3)] dJL_bitCount_33 rfl (by decide) rfl ?_
  refine mf_lload_n dJL_bitCount_34 rfl 0 rfl ?_
  refine mf_lload_n dJL_bitCount_35 rfl 0 rfl ?_
  refine mf_bipush 8 dJL_bitCount_36 (by decide) ?_
  refine mf_lushr dJL_bitCount_38 ?_
  refine mf_ladd dJL_bitCount_39 ?_
  refine mf_letl (fun x4 => ?_)
  refine mf_lstore_n [(0, .long x4)] dJL_bitCount_40 rfl (by decide) rfl ?_
  refine mf_lload_n dJL_bitCount_41 rfl 0 rfl ?_
  refine mf_lload_n dJL_bitCount_42 rfl 0 rfl ?_
  refine mf_bipush 16 dJL_bitCount_43 (by decide) ?_
  refine mf_lushr dJL_bitCount_45 ?_
  refine mf_ladd dJL_bitCount_46 ?_
  refine mf_letl (fun x5 => ?_)
  refine mf_lstore_n [(0, .long x5)] dJL_bitCount_47 rfl (by decide) rfl ?_
  refine mf_lload_n dJL_bitCount_48 rfl 0 rfl ?_
  refine mf_lload_n dJL_bitCount_49 rfl 0 rfl ?_
  refine mf_bipush 32 dJL_bitCount_50 (by decide) ?_
  refine mf_lushr dJL_bitCount_52 ?_
  refine mf_ladd dJL_bitCount_53 ?_
  refine mf_letl (fun x6 => ?_)
  refine mf_lstore_n [(0, .long x6)] dJL_bitCount_54 rfl (by decide) rfl ?_
  refine mf_lload_n dJL_bitCount_55 rfl 0 rfl ?_
  refine mf_l2i dJL_bitCount_56 ?_
  refine mf_bipush 127 dJL_bitCount_57 (by decide) ?_
  refine mf_iand dJL_bitCount_59 ?_
  exact mf_iret dJL_bitCount_60
set_option maxRecDepth 100000 in
set_option maxHeartbeats 4000000 in
theorem wlX5_join_18 (l : Launch) (a1 : Int32) (k70 : Int64 → mx_G → Option (Int32 × mx_G)) (hk70 : ∀ (b2 : Int64) (sz : mx_G), mf_X ei l RX5 cX5_join 7 (some .boolean) "join" 0 (k70 b2 sz) 70 [(2, .long b2)] [] sz) : ∀ (n : Nat) (a2 : Int64) (a4 : Int32) (s0 : mx_G), mf_X ei l RX5 cX5_join 7 (some .boolean) "join" 0 (lX5_join_18 a1 k70 n a2 a4 s0) 18 [(0, .ref 25), (1, .int a1), (2, .long a2), (4, .int a4)] [] s0 := by
  intro n
  induction n with
  | zero => intro a2 a4 s0; exact mf_none
  | succ n ih18 =>
    intro a2 a4 s0
    rw [lX5_join_18]
    refine mf_iload dX5_join_18 3 rfl ?_
    refine mf_bipush 6 dX5_join_20 (by decide) ?_
    refine mf_icmp_ge 70 dX5_join_22 (by decide) ?_ ?_
    · exact mf_sub [2] rfl (hk70 _ _)
    · refine mf_aload_n dX5_join_25 rfl 0 rfl ?_
      refine mf_getR fl_X5_26 rfl rfl dX5_join_26 ?_
      refine mf_iload_n dX5_join_29 rfl 1 rfl ?_
      refine mf_bipush 6 dX5_join_30 (by decide) ?_
      refine mf_imul dX5_join_32 ?_
      refine mf_iload dX5_join_33 3 rfl ?_
      refine mf_iadd dX5_join_35 ?_
      refine mf_lald rfl dX5_join_36 ?_
      refine mf_aload_n dX5_join_37 rfl 0 rfl ?_
      refine mf_getR fl_X5_30 rfl rfl dX5_join_38 ?_
      refine mf_iload dX5_join_41 3 rfl ?_
      refine mf_lald rfl dX5_join_43 ?_
      refine mf_land dX5_join_44 ?_
      refine mf_letl (fun x1 => ?_)
      refine mf_lstore [(5, .long x1), (0, .ref 25), (1, .int a1), (2, .long a2), (4, .int a4)] dX5_join_45 (by decide) rfl ?_
      refine mf_aload_n dX5_join_47 rfl 1 rfl ?_
      refine mf_getR fl_X5_39 rfl rfl dX5_join_48 ?_
      refine mf_iload dX5_join_51 4 rfl ?_
      refine mf_dup2 rfl rfl dX5_join_53 ?_
      refine mf_lald rfl dX5_join_54 ?_
      refine mf_lload dX5_join_55 0 rfl ?_
      refine mf_lor dX5_join_57 ?_
      refine mf_last rfl dX5_join_58 (fun s2 => ?_)
      refine mf_lload_n dX5_join_59 rfl 3 rfl ?_
      refine mf_lload dX5_join_60 0 rfl ?_
      refine mf_lor dX5_join_62 ?_
      refine mf_letl (fun x3 => ?_)
      refine mf_lstore_n [(2, .long x3), (5, .long x1), (0, .ref 25), (1, .int a1), (4, .int a4)] dX5_join_63 rfl (by decide) rfl ?_
      refine mf_iinc 1 [(4, .int (a4 + 1)), (2, .long x3), (5, .long x1), (0, .ref 25), (1, .int a1)] dX5_join_64 4 rfl (by decide) (by decide) rfl ?_
      refine mf_goto 18 dX5_join_67 (by decide) ?_
      exact mf_sub [3, 4, 1, 0] rfl (ih18 _ _ _)
set_option maxRecDepth 100000 in
set_option maxHeartbeats 4000000 in
theorem wX5_join (l : Launch) (p1 : Int32) (s : mx_G) : mf_M ei l yX5_join cX5_join 7 (some .boolean) 0 [.ref 25, .int p1] s (fX5_join p1 s) := by
  refine mf_intro rfl (Nat.le_of_ble_eq_true rfl) rfl rfl ?_
  refine mf_sub (loc' := [(0, .ref 25), (1, .int p1)]) [0, 1] rfl ?_
  unfold fX5_join
  refine mf_iload_n dX5_join_0 rfl 1 rfl ?_
  refine mf_if_lt 11 dX5_join_1 (by decide) ?_ ?_
  · refine mf_iconst 0 dX5_join_11 (by decide) ?_
    exact mf_zret (by decide) dX5_join_12
  · refine mf_iload_n dX5_join_4 rfl 1 rfl ?_
    refine mf_sipush 326 dX5_join_5 (by decide) ?_
    refine mf_icmp_lt 13 dX5_join_8 (by decide) ?_ ?_
    · refine mf_lconst 0 dX5_join_13 (by decide) ?_
      refine mf_lstore_n [(2, .long 0), (0, .ref 25), (1, .int p1)] dX5_join_14 rfl (by decide) rfl ?_
      refine mf_iconst 0 dX5_join_15 (by decide) ?_
      refine mf_istore [(4, .int 0), (2, .long 0), (0, .ref 25), (1, .int p1)] dX5_join_16 (by decide) rfl ?_
      refine mf_sub [2, 3, 1, 0] rfl (wlX5_join_18 l _ _ (fun y5 s4 => ?_) FU _ _ _)
      refine mf_lload_n dX5_join_70 rfl 0 rfl ?_
      refine mf_lconst 0 dX5_join_71 (by decide) ?_
      refine mf_lcmp dX5_join_72 ?_
      refine mf_if_eq 80 dX5_join_73 (by decide) ?_ ?_
      · refine mf_iconst 0 dX5_join_80 (by decide) ?_
        exact mf_zret (by decide) dX5_join_81
      · refine mf_iconst 1 dX5_join_76 (by decide) ?_
        refine mf_goto 81 dX5_join_77 (by decide) ?_
        exact mf_zret (by decide) dX5_join_81
    · refine mf_iconst 0 dX5_join_11 (by decide) ?_
      exact mf_zret (by decide) dX5_join_12
set_option maxRecDepth 100000 in
set_option maxHeartbeats 4000000 in
theorem wlX5_spread_26 (l : Launch) (a1 : Int32) (k73 : mx_G → Option (Int32 × mx_G)) (hk73 : ∀ (sz : mx_G), mf_X ei l RX5 cX5_spread 7 (some .boolean) "spread" 1 (k73 sz) 73 [(0, .ref 25), (1, .int a1)] [] sz) : ∀ (n : Nat) (a2 : Int64) (a4 : Int32) (s0 : mx_G), mf_X ei l RX5 cX5_spread 7 (some .boolean) "spread" 1 (lX5_spread_26 a1 k73 n a2 a4 s0) 26 [(0, .ref 25), (1, .int a1), (2, .long a2), (4, .int a4)] [] s0 := by
  intro n
  induction n with
  | zero => intro a2 a4 s0; exact mf_none
  | succ n ih26 =>
    intro a2 a4 s0
    rw [lX5_spread_26]
    refine mf_iload dX5_spread_26 3 rfl ?_
    refine mf_bipush 64 dX5_spread_28 (by decide) ?_
    refine mf_icmp_ge 73 dX5_spread_30 (by decide) ?_ ?_
    · exact mf_sub [0, 1] rfl (hk73 _)
    · refine mf_lload_n dX5_spread_33 rfl 2 rfl ?_
      refine mf_lconst 0 dX5_spread_34 (by decide) ?_
      refine mf_lcmp dX5_spread_35 ?_
      refine mf_if_eq 73 dX5_spread_36 (by decide) ?_ ?_
      · exact mf_sub [0, 1] rfl (hk73 _)
      · refine mf_lload_n dX5_spread_39 rfl 2 rfl ?_
        refine mf_lload_n dX5_spread_40 rfl 2 rfl ?_
        refine mf_lneg dX5_spread_41 ?_
        refine mf_land dX5_spread_42 ?_
        refine mf_letl (fun x3 => ?_)
        refine mf_lstore [(5, .long x3), (0, .ref 25), (1, .int a1), (2, .long a2), (4, .int a4)] dX5_spread_43 (by decide) rfl ?_
        refine mf_aload_n dX5_spread_45 rfl 1 rfl ?_
        refine mf_iload_n dX5_spread_46 rfl 2 rfl ?_
        refine mf_bipush 64 dX5_spread_47 (by decide) ?_
        refine mf_imul dX5_spread_49 ?_
        refine mf_lload dX5_spread_50 0 rfl ?_
        refine mf_lconst 1 dX5_spread_52 (by decide) ?_
        refine mf_lsub dX5_spread_53 ?_
        refine mf_callSi (stk := [.int (a1 * 64), .ref 25]) (wJL_bitCount l _ _) cl_X5_124 rfl (by decide) rfl (Nat.le_of_ble_eq_true rfl) rfl rfl dX5_spread_54 (fun x4 s5 => ?_)
        refine mf_iadd dX5_spread_57 ?_
        refine mf_callVi (stk := []) (wX5_join l _ _) cl_X5_104 rfl (by decide) rfl rfl rfl (Nat.le_of_ble_eq_true rfl) rfl rfl dX5_spread_58 (fun x6 s7 => ?_)
        refine mf_pop rfl dX5_spread_61 ?_
        refine mf_lload_n dX5_spread_62 rfl 3 rfl ?_
        refine mf_lload dX5_spread_63 0 rfl ?_
        refine mf_lxor dX5_spread_65 ?_
        refine mf_letl (fun x8 => ?_)
        refine mf_lstore_n [(2, .long x8), (5, .long x3), (0, .ref 25), (1, .int a1), (4, .int a4)] dX5_spread_66 rfl (by decide) rfl ?_
        refine mf_iinc 1 [(4, .int (a4 + 1)), (2, .long x8), (5, .long x3), (0, .ref 25), (1, .int a1)] dX5_spread_67 4 rfl (by decide) (by decide) rfl ?_
        refine mf_goto 26 dX5_spread_70 (by decide) ?_
        exact mf_sub [3, 4, 1, 0] rfl (ih26 _ _ _)
set_option maxRecDepth 100000 in
set_option maxHeartbeats 4000000 in
theorem wlX5_spread_10 (l : Launch) (k79 : mx_G → Option (Int32 × mx_G)) (hk79 : ∀ (sz : mx_G), mf_X ei l RX5 cX5_spread 7 (some .boolean) "spread" 1 (k79 sz) 79 [(0, .ref 25)] [] sz) : ∀ (n : Nat) (a1 : Int32) (s0 : mx_G), mf_X ei l RX5 cX5_spread 7 (some .boolean) "spread" 1 (lX5_spread_10  k79 n a1 s0) 10 [(0, .ref 25), (1, .int a1)] [] s0 := by
  intro n
  induction n with
  | zero => intro a1 s0; exact mf_none
  | succ n ih10 =>
    intro a1 s0
    rw [lX5_spread_10]
    refine mf_iload_n dX5_spread_10 rfl 1 rfl ?_
    refine mf_bipush 6 dX5_spread_11 (by decide) ?_
    refine mf_icmp_ge 79 dX5_spread_13 (by decide) ?_ ?_
    · exact mf_sub [0] rfl (hk79 _)
    · refine mf_aload_n dX5_spread_16 rfl 0 rfl ?_
      refine mf_getR fl_X5_36 rfl rfl dX5_spread_17 ?_
      refine mf_iload_n dX5_spread_20 rfl 1 rfl ?_
      refine mf_lald rfl dX5_spread_21 ?_
      refine mf_letl (fun x2 => ?_)
      refine mf_lstore_n [(2, .long x2), (0, .ref 25), (1, .int a1)] dX5_spread_22 rfl (by decide) rfl ?_
      refine mf_iconst 0 dX5_spread_23 (by decide) ?_
      refine mf_istore [(4, .int 0), (2, .long x2), (0, .ref 25), (1, .int a1)] dX5_spread_24 (by decide) rfl ?_
      refine mf_sub [2, 3, 1, 0] rfl (wlX5_spread_26 l _ _ (fun s9 => ?_) FU _ _ _)
      refine mf_iinc 1 [(1, .int (a1 + 1)), (0, .ref 25)] dX5_spread_73 1 rfl (by decide) (by decide) rfl ?_
      refine mf_goto 10 dX5_spread_76 (by decide) ?_
      exact mf_sub [1, 0] rfl (ih10 _ _)
set_option maxRecDepth 100000 in
set_option maxHeartbeats 4000000 in
theorem wlX5_spread_83 (l : Launch) (k142 : Int64 → mx_G → Option (Int32 × mx_G)) (hk142 : ∀ (b1 : Int64) (sz : mx_G), mf_X ei l RX5 cX5_spread 7 (some .boolean) "spread" 1 (k142 b1 sz) 142 [(1, .long b1)] [] sz) : ∀ (n : Nat) (a1 : Int64) (a3 : Int32) (s0 : mx_G), mf_X ei l RX5 cX5_spread 7 (some .boolean) "spread" 1 (lX5_spread_83  k142 n a1 a3 s0) 83 [(0, .ref 25), (1, .long a1), (3, .int a3)] [] s0 := by
  intro n
  induction n with
  | zero => intro a1 a3 s0; exact mf_none
  | succ n ih83 =>
    intro a1 a3 s0
    rw [lX5_spread_83]
    refine mf_iload_n dX5_spread_83 rfl 2 rfl ?_
    refine mf_bipush 6 dX5_spread_84 (by decide) ?_
    refine mf_icmp_ge 142 dX5_spread_86 (by decide) ?_ ?_
    · exact mf_sub [1] rfl (hk142 _ _)
    · refine mf_aload_n dX5_spread_89 rfl 0 rfl ?_
      refine mf_getR fl_X5_36 rfl rfl dX5_spread_90 ?_
      refine mf_iload_n dX5_spread_93 rfl 2 rfl ?_
      refine mf_aload_n dX5_spread_94 rfl 0 rfl ?_
      refine mf_getR fl_X5_39 rfl rfl dX5_spread_95 ?_
      refine mf_iload_n dX5_spread_98 rfl 2 rfl ?_
      refine mf_lald rfl dX5_spread_99 ?_
      refine mf_aload_n dX5_spread_100 rfl 0 rfl ?_
      refine mf_getR fl_X5_33 rfl rfl dX5_spread_101 ?_
      refine mf_iload_n dX5_spread_104 rfl 2 rfl ?_
      refine mf_lald rfl dX5_spread_105 ?_
      refine mf_ldc2 kl_X5_108 dX5_spread_106 ?_
      refine mf_lxor dX5_spread_109 ?_
      refine mf_land dX5_spread_110 ?_
      refine mf_last rfl dX5_spread_111 (fun s11 => ?_)
      refine mf_aload_n dX5_spread_112 rfl 0 rfl ?_
      refine mf_getR fl_X5_33 rfl rfl dX5_spread_113 ?_
      refine mf_iload_n dX5_spread_116 rfl 2 rfl ?_
      refine mf_dup2 rfl rfl dX5_spread_117 ?_
      refine mf_lald rfl dX5_spread_118 ?_
      refine mf_aload_n dX5_spread_119 rfl 0 rfl ?_
      refine mf_getR fl_X5_36 rfl rfl dX5_spread_120 ?_
      refine mf_iload_n dX5_spread_123 rfl 2 rfl ?_
      refine mf_lald rfl dX5_spread_124 ?_
      refine mf_lor dX5_spread_125 ?_
      refine mf_last rfl dX5_spread_126 (fun s12 => ?_)
      refine mf_lload_n dX5_spread_127 rfl 1 rfl ?_
      refine mf_aload_n dX5_spread_128 rfl 0 rfl ?_
      refine mf_getR fl_X5_36 rfl rfl dX5_spread_129 ?_
      refine mf_iload_n dX5_spread_132 rfl 2 rfl ?_
      refine mf_lald rfl dX5_spread_133 ?_
      refine mf_lor dX5_spread_134 ?_
      refine mf_letl (fun x13 => ?_)
      refine mf_lstore_n [(1, .long x13), (0, .ref 25), (3, .int a3)] dX5_spread_135 rfl (by decide) rfl ?_
      refine mf_iinc 1 [(3, .int (a3 + 1)), (1, .long x13), (0, .ref 25)] dX5_spread_136 2 rfl (by decide) (by decide) rfl ?_
      refine mf_goto 83 dX5_spread_139 (by decide) ?_
      exact mf_sub [2, 1, 0] rfl (ih83 _ _ _)
set_option maxRecDepth 100000 in
set_option maxHeartbeats 4000000 in
theorem wX5_spread (l : Launch) (s : mx_G) : mf_M ei l yX5_spread cX5_spread 7 (some .boolean) 1 [.ref 25] s (fX5_spread  s) := by
  refine mf_intro rfl (Nat.le_of_ble_eq_true rfl) rfl rfl ?_
  refine mf_sub (loc' := [(0, .ref 25)]) [0] rfl ?_
  unfold fX5_spread
  refine mf_aload_n dX5_spread_0 rfl 0 rfl ?_
  refine mf_getR fl_X5_39 rfl rfl dX5_spread_1 ?_
  refine mf_lconst 0 dX5_spread_4 (by decide) ?_
  refine mf_callSv (stk := []) (wJA_fillL_4 l _ _) cl_X5_45 rfl (by decide) rfl (Nat.le_of_ble_eq_true rfl) rfl rfl dX5_spread_5 (fun us1 s1 => ?_)
  refine mf_iconst 0 dX5_spread_8 (by decide) ?_
  refine mf_istore_n [(1, .int 0), (0, .ref 25)] dX5_spread_9 rfl (by decide) rfl ?_
  refine mf_sub [1, 0] rfl (wlX5_spread_10 l _ (fun s10 => ?_) FU _ _)
  refine mf_lconst 0 dX5_spread_79 (by decide) ?_
  refine mf_lstore_n [(1, .long 0), (0, .ref 25)] dX5_spread_80 rfl (by decide) rfl ?_
  refine mf_iconst 0 dX5_spread_81 (by decide) ?_
  refine mf_istore_n [(3, .int 0), (1, .long 0), (0, .ref 25)] dX5_spread_82 rfl (by decide) rfl ?_
  refine mf_sub [2, 1, 0] rfl (wlX5_spread_83 l _ (fun y15 s14 => ?_) FU _ _ _)
  refine mf_lload_n dX5_spread_142 rfl 0 rfl ?_
  refine mf_lconst 0 dX5_spread_143 (by decide) ?_
  refine mf_lcmp dX5_spread_144 ?_
  refine mf_if_eq 152 dX5_spread_145 (by decide) ?_ ?_
  · refine mf_iconst 0 dX5_spread_152 (by decide) ?_
    exact mf_zret (by decide) dX5_spread_153
  · refine mf_iconst 1 dX5_spread_148 (by decide) ?_
    refine mf_goto 153 dX5_spread_149 (by decide) ?_
    exact mf_zret (by decide) dX5_spread_153
set_option maxRecDepth 100000 in
set_option maxHeartbeats 4000000 in
theorem wX5_has_1 (l : Launch) (p1 : Int32) (s : mx_G) : mf_M ei l yX5_has cX5_has 2 (some .boolean) 0 [.ref 29, .int p1] s (fX5_has_1 p1 s) := by
  refine mf_intro rfl (Nat.le_of_ble_eq_true rfl) rfl rfl ?_
  refine mf_sub (loc' := [(0, .ref 29), (1, .int p1)]) [0, 1] rfl ?_
  unfold fX5_has_1
  refine mf_aload_n dX5_has_0 rfl 0 rfl ?_
  refine mf_iload_n dX5_has_1 rfl 1 rfl ?_
  refine mf_bipush 64 dX5_has_2 (by decide) ?_
  refine mf_idiv (by decide) dX5_has_4 ?_
  refine mf_lald rfl dX5_has_5 ?_
  refine mf_iload_n dX5_has_6 rfl 1 rfl ?_
  refine mf_bipush 64 dX5_has_7 (by decide) ?_
  refine mf_irem (by decide) dX5_has_9 ?_
  refine mf_lushr dX5_has_10 ?_
  refine mf_lconst 1 dX5_has_11 (by decide) ?_
  refine mf_land dX5_has_12 ?_
  refine mf_lconst 0 dX5_has_13 (by decide) ?_
  refine mf_lcmp dX5_has_14 ?_
  refine mf_if_eq 22 dX5_has_15 (by decide) ?_ ?_
  · refine mf_iconst 0 dX5_has_22 (by decide) ?_
    exact mf_zret (by decide) dX5_has_23
  · refine mf_iconst 1 dX5_has_18 (by decide) ?_
    refine mf_goto 23 dX5_has_19 (by decide) ?_
    exact mf_zret (by decide) dX5_has_23
set_option maxRecDepth 100000 in
set_option maxHeartbeats 4000000 in
theorem wlX5_lengthThrough_36 (l : Launch) (a1 : Int32)   : ∀ (n : Nat) (a2 : Int32) (s0 : mx_G), mf_X ei l RX5 cX5_lengthThrough 3 (some .int) "lengthThrough" 2 (lX5_lengthThrough_36 a1  n a2 s0) 36 [(0, .ref 25), (1, .int a1), (2, .int a2)] [] s0 := by
  intro n
  induction n with
  | zero => intro a2 s0; exact mf_none
  | succ n ih36 =>
    intro a2 s0
    rw [lX5_lengthThrough_36]
    refine mf_iload_n dX5_lengthThrough_36 rfl 2 rfl ?_
    refine mf_sipush 326 dX5_lengthThrough_37 (by decide) ?_
    refine mf_icmp_gt 71 dX5_lengthThrough_40 (by decide) ?_ ?_
    · refine mf_iconst 0 dX5_lengthThrough_71 (by decide) ?_
      exact mf_iret dX5_lengthThrough_72
    · refine mf_aload_n dX5_lengthThrough_43 rfl 0 rfl ?_
      refine mf_callVi (stk := []) (wX5_spread l _) cl_X5_121 rfl (by decide) rfl rfl rfl (Nat.le_of_ble_eq_true rfl) rfl rfl dX5_lengthThrough_44 (fun x4 s5 => ?_)
      refine mf_if_ne 52 dX5_lengthThrough_47 (by decide) ?_ ?_
      · refine mf_iconst 0 dX5_lengthThrough_50 (by decide) ?_
        exact mf_iret dX5_lengthThrough_51
      · refine mf_aload_n dX5_lengthThrough_52 rfl 0 rfl ?_
        refine mf_getR fl_X5_36 rfl rfl dX5_lengthThrough_53 ?_
        refine mf_iload_n dX5_lengthThrough_56 rfl 1 rfl ?_
        refine mf_callSi (stk := []) (wX5_has_1 l _ _) cl_X5_100 rfl (by decide) rfl (Nat.le_of_ble_eq_true rfl) rfl rfl dX5_lengthThrough_57 (fun x6 s7 => ?_)
        refine mf_if_eq 65 dX5_lengthThrough_60 (by decide) ?_ ?_
        · refine mf_iinc 1 [(2, .int (a2 + 1)), (0, .ref 25), (1, .int a1)] dX5_lengthThrough_65 2 rfl (by decide) (by decide) rfl ?_
          refine mf_goto 36 dX5_lengthThrough_68 (by decide) ?_
          exact mf_sub [1, 2, 0] rfl (ih36 _ _)
        · refine mf_iload_n dX5_lengthThrough_63 rfl 2 rfl ?_
          exact mf_iret dX5_lengthThrough_64
set_option maxRecDepth 100000 in
set_option maxHeartbeats 4000000 in
theorem wX5_lengthThrough (l : Launch) (p1 : Int32) (s : mx_G) : mf_M ei l yX5_lengthThrough cX5_lengthThrough 3 (some .int) 2 [.ref 25, .int p1] s (fX5_lengthThrough p1 s) := by
  refine mf_intro rfl (Nat.le_of_ble_eq_true rfl) rfl rfl ?_
  refine mf_sub (loc' := [(0, .ref 25), (1, .int p1)]) [0, 1] rfl ?_
  unfold fX5_lengthThrough
  refine mf_aload_n dX5_lengthThrough_0 rfl 0 rfl ?_
  refine mf_getR fl_X5_33 rfl rfl dX5_lengthThrough_1 ?_
  refine mf_lconst 0 dX5_lengthThrough_4 (by decide) ?_
  refine mf_callSv (stk := []) (wJA_fillL_2 l _ _) cl_X5_45 rfl (by decide) rfl (Nat.le_of_ble_eq_true rfl) rfl rfl dX5_lengthThrough_5 (fun us1 s1 => ?_)
  refine mf_aload_n dX5_lengthThrough_8 rfl 0 rfl ?_
  refine mf_getR fl_X5_36 rfl rfl dX5_lengthThrough_9 ?_
  refine mf_lconst 0 dX5_lengthThrough_12 (by decide) ?_
  refine mf_callSv (stk := []) (wJA_fillL_3 l _ _) cl_X5_45 rfl (by decide) rfl (Nat.le_of_ble_eq_true rfl) rfl rfl dX5_lengthThrough_13 (fun us2 s2 => ?_)
  refine mf_aload_n dX5_lengthThrough_16 rfl 0 rfl ?_
  refine mf_getR fl_X5_36 rfl rfl dX5_lengthThrough_17 ?_
  refine mf_iload_n dX5_lengthThrough_20 rfl 1 rfl ?_
  refine mf_bipush 64 dX5_lengthThrough_21 (by decide) ?_
  refine mf_idiv (by decide) dX5_lengthThrough_23 ?_
  refine mf_dup2 rfl rfl dX5_lengthThrough_24 ?_
  refine mf_lald rfl dX5_lengthThrough_25 ?_
  refine mf_lconst 1 dX5_lengthThrough_26 (by decide) ?_
  refine mf_iload_n dX5_lengthThrough_27 rfl 1 rfl ?_
  refine mf_bipush 64 dX5_lengthThrough_28 (by decide) ?_
  refine mf_irem (by decide) dX5_lengthThrough_30 ?_
  refine mf_lshl dX5_lengthThrough_31 ?_
  refine mf_lor dX5_lengthThrough_32 ?_
  refine mf_last rfl dX5_lengthThrough_33 (fun s3 => ?_)
  refine mf_iconst 1 dX5_lengthThrough_34 (by decide) ?_
  refine mf_istore_n [(2, .int 1), (0, .ref 25), (1, .int p1)] dX5_lengthThrough_35 rfl (by decide) rfl ?_
  exact mf_sub [1, 2, 0] rfl (wlX5_lengthThrough_36 l _ FU _ _)
set_option maxRecDepth 100000 in
set_option maxHeartbeats 4000000 in
theorem wlX5_measure_2 (l : Launch)    : ∀ (n : Nat) (a2 : Int32) (s0 : mx_G), mf_X ev l RX5 cX5_measure 4 none "measure" 3 (lX5_measure_2   n a2 s0) 2 [(0, .ref 25), (1, .ref 15), (2, .int a2)] [] s0 := by
  intro n
  induction n with
  | zero => intro a2 s0; exact mf_none
  | succ n ih2 =>
    intro a2 s0
    rw [lX5_measure_2]
    refine mf_iload_n dX5_measure_2 rfl 2 rfl ?_
    refine mf_aload_n dX5_measure_3 rfl 1 rfl ?_
    refine mf_callVi (stk := [.int a2]) (wX8_countAll l _) cl_X5_51 rfl (by decide) rfl rfl rfl (Nat.le_of_ble_eq_true rfl) rfl rfl dX5_measure_4 (fun x1 s2 => ?_)
    refine mf_icmp_ge 107 dX5_measure_7 (by decide) ?_ ?_
    · exact mf_vret dX5_measure_107
    · refine mf_aload_n dX5_measure_10 rfl 0 rfl ?_
      refine mf_getR fl_X5_30 rfl rfl dX5_measure_11 ?_
      refine mf_iload_n dX5_measure_14 rfl 2 rfl ?_
      refine mf_callSi (stk := []) (wX5_has l _ _) cl_X5_100 rfl (by decide) rfl (Nat.le_of_ble_eq_true rfl) rfl rfl dX5_measure_15 (fun x3 s4 => ?_)
      refine mf_join (fun (J : Int32 → mx_G → Option (Unit × mx_G)) => ∀ (q0_30 : Int32) (s_30 : mx_G), mf_X ev l RX5 cX5_measure 4 none "measure" 3 (J q0_30 s_30) 30 [(0, .ref 25), (1, .ref 15), (2, .int a2)] [.int q0_30] s_30) ?_ (fun J30 hJ30 => ?_)
      · intro q0_30 s_30
        refine mf_istore_n [(3, .int q0_30), (0, .ref 25), (1, .ref 15), (2, .int a2)] dX5_measure_30 rfl (by decide) rfl ?_
        refine mf_iload_n dX5_measure_31 rfl 0 rfl ?_
        refine mf_if_le 101 dX5_measure_32 (by decide) ?_ ?_
        · refine mf_iinc 1 [(2, .int (a2 + 1)), (3, .int q0_30), (0, .ref 25), (1, .ref 15)] dX5_measure_101 3 rfl (by decide) (by decide) rfl ?_
          refine mf_goto 2 dX5_measure_104 (by decide) ?_
          exact mf_sub [2, 3, 0] rfl (ih2 _ _)
        · refine mf_aload_n dX5_measure_35 rfl 1 rfl ?_
          refine mf_dup rfl dX5_measure_36 ?_
          refine mf_getI fl_X5_15 rfl rfl dX5_measure_37 ?_
          refine mf_iconst 1 dX5_measure_40 (by decide) ?_
          refine mf_iadd dX5_measure_41 ?_
          refine mf_putI fl_X5_15 rfl rfl dX5_measure_42 (fun s5 => ?_)
          refine mf_aload_n dX5_measure_45 rfl 1 rfl ?_
          refine mf_aload_n dX5_measure_46 rfl 1 rfl ?_
          refine mf_getI fl_X5_9 rfl rfl dX5_measure_47 ?_
          refine mf_join (fun (J : Int32 → mx_G → Option (Unit × mx_G)) => ∀ (q0_65 : Int32) (s_65 : mx_G), mf_X ev l RX5 cX5_measure 4 none "measure" 3 (J q0_65 s_65) 65 [(0, .ref 25), (1, .ref 15), (2, .int a2)] [.int q0_65, .ref 25] s_65) ?_ (fun J65 hJ65 => ?_)
          · intro q0_65 s_65
            refine mf_putI fl_X5_9 rfl rfl dX5_measure_65 (fun s6 => ?_)
            refine mf_aload_n dX5_measure_68 rfl 0 rfl ?_
            refine mf_aload_n dX5_measure_69 rfl 0 rfl ?_
            refine mf_getI fl_X5_18 rfl rfl dX5_measure_70 ?_
            refine mf_bipush (-4) dX5_measure_73 (by decide) ?_
            refine mf_icmp_ne 86 dX5_measure_75 (by decide) ?_ ?_
            · refine mf_aload_n dX5_measure_78 rfl 1 rfl ?_
              refine mf_iload_n dX5_measure_79 rfl 2 rfl ?_
              refine mf_callVi (stk := [.ref 25]) (wX8_numberOf l _ _) cl_X5_118 rfl (by decide) rfl rfl rfl (Nat.le_of_ble_eq_true rfl) rfl rfl dX5_measure_80 (fun x10 s11 => ?_)
              refine mf_goto 98 dX5_measure_83 (by decide) ?_
              refine mf_putI fl_X5_18 rfl rfl dX5_measure_98 (fun s12 => ?_)
              refine mf_iinc 1 [(2, .int (a2 + 1)), (0, .ref 25), (1, .ref 15)] dX5_measure_101 2 rfl (by decide) (by decide) rfl ?_
              refine mf_goto 2 dX5_measure_104 (by decide) ?_
              exact mf_sub [1, 2, 0] rfl (ih2 _ _)
            · refine mf_aload_n dX5_measure_86 rfl 0 rfl ?_
              refine mf_getI fl_X5_18 rfl rfl dX5_measure_87 ?_
              refine mf_aload_n dX5_measure_90 rfl 1 rfl ?_
              refine mf_iload_n dX5_measure_91 rfl 2 rfl ?_
              refine mf_callVi (stk := [.int (s6.1 25 2), .ref 25]) (wX8_numberOf l _ _) cl_X5_118 rfl (by decide) rfl rfl rfl (Nat.le_of_ble_eq_true rfl) rfl rfl dX5_measure_92 (fun x7 s8 => ?_)
              refine mf_mmin cl_X5_113.1 (by decide) (Nat.le_of_ble_eq_true rfl) dX5_measure_95 ?_
              refine mf_putI fl_X5_18 rfl rfl dX5_measure_98 (fun s9 => ?_)
              refine mf_iinc 1 [(2, .int (a2 + 1)), (0, .ref 25), (1, .ref 15)] dX5_measure_101 2 rfl (by decide) (by decide) rfl ?_
              refine mf_goto 2 dX5_measure_104 (by decide) ?_
              exact mf_sub [1, 2, 0] rfl (ih2 _ _)
          refine mf_if_ne 57 dX5_measure_50 (by decide) ?_ ?_
          · refine mf_iload_n dX5_measure_53 rfl 0 rfl ?_
            refine mf_goto 65 dX5_measure_54 (by decide) ?_
            exact mf_sub [1, 2, 3] rfl (hJ65 _ _)
          · refine mf_aload_n dX5_measure_57 rfl 1 rfl ?_
            refine mf_getI fl_X5_9 rfl rfl dX5_measure_58 ?_
            refine mf_iload_n dX5_measure_61 rfl 0 rfl ?_
            refine mf_mmin cl_X5_113.1 (by decide) (Nat.le_of_ble_eq_true rfl) dX5_measure_62 ?_
            exact mf_sub [1, 2, 3] rfl (hJ65 _ _)
      refine mf_if_eq 29 dX5_measure_18 (by decide) ?_ ?_
      · refine mf_iconst 0 dX5_measure_29 (by decide) ?_
        exact mf_sub [0, 1, 2] rfl (hJ30 _ _)
      · refine mf_aload_n dX5_measure_21 rfl 0 rfl ?_
        refine mf_iload_n dX5_measure_22 rfl 2 rfl ?_
        refine mf_callVi (stk := []) (wX5_lengthThrough l _ _) cl_X5_110 rfl (by decide) rfl rfl rfl (Nat.le_of_ble_eq_true rfl) rfl rfl dX5_measure_23 (fun x13 s14 => ?_)
        refine mf_goto 30 dX5_measure_26 (by decide) ?_
        exact mf_sub [0, 1, 2] rfl (hJ30 _ _)
set_option maxRecDepth 100000 in
set_option maxHeartbeats 4000000 in
theorem wX5_measure (l : Launch) (s : mx_G) : mf_M ev l yX5_measure cX5_measure 4 none 3 [.ref 25, .ref 15] s (fX5_measure  s) := by
  refine mf_intro rfl (Nat.le_of_ble_eq_true rfl) rfl rfl ?_
  refine mf_sub (loc' := [(0, .ref 25), (1, .ref 15)]) [0, 1] rfl ?_
  unfold fX5_measure
  refine mf_iconst 0 dX5_measure_0 (by decide) ?_
  refine mf_istore_n [(2, .int 0), (0, .ref 25), (1, .ref 15)] dX5_measure_1 rfl (by decide) rfl ?_
  exact mf_sub [1, 2, 0] rfl (wlX5_measure_2 l FU _ _)
set_option maxRecDepth 100000 in
set_option maxHeartbeats 4000000 in
theorem wlX5_thinOut_12 (l : Launch) (k68 : Int32 → mx_G → Option (Int32 × mx_G)) (hk68 : ∀ (b1 : Int32) (sz : mx_G), mf_X ei l RX5 cX5_thinOut 3 (some .boolean) "thinOut" 1 (k68 b1 sz) 68 [(0, .ref 25), (1, .int b1)] [] sz) : ∀ (n : Nat) (a1 : Int32) (a2 : Int32) (s0 : mx_G), mf_X ei l RX5 cX5_thinOut 3 (some .boolean) "thinOut" 1 (lX5_thinOut_12  k68 n a1 a2 s0) 12 [(0, .ref 25), (1, .int a1), (2, .int a2)] [] s0 := by
  intro n
  induction n with
  | zero => intro a1 a2 s0; exact mf_none
  | succ n ih12 =>
    intro a1 a2 s0
    rw [lX5_thinOut_12]
    refine mf_iload_n dX5_thinOut_12 rfl 2 rfl ?_
    refine mf_sipush 326 dX5_thinOut_13 (by decide) ?_
    refine mf_icmp_ge 68 dX5_thinOut_16 (by decide) ?_ ?_
    · exact mf_sub [0, 1] rfl (hk68 _ _)
    · refine mf_aload_n dX5_thinOut_19 rfl 0 rfl ?_
      refine mf_getR fl_X5_30 rfl rfl dX5_thinOut_20 ?_
      refine mf_iload_n dX5_thinOut_23 rfl 2 rfl ?_
      refine mf_callSi (stk := []) (wX5_has l _ _) cl_X5_100 rfl (by decide) rfl (Nat.le_of_ble_eq_true rfl) rfl rfl dX5_thinOut_24 (fun x2 s3 => ?_)
      refine mf_if_eq 62 dX5_thinOut_27 (by decide) ?_ ?_
      · refine mf_iinc 1 [(2, .int (a2 + 1)), (0, .ref 25), (1, .int a1)] dX5_thinOut_62 2 rfl (by decide) (by decide) rfl ?_
        refine mf_goto 12 dX5_thinOut_65 (by decide) ?_
        exact mf_sub [1, 2, 0] rfl (ih12 _ _ _)
      · refine mf_aload_n dX5_thinOut_30 rfl 0 rfl ?_
        refine mf_iload_n dX5_thinOut_31 rfl 2 rfl ?_
        refine mf_callVi (stk := []) (wX5_join l _ _) cl_X5_104 rfl (by decide) rfl rfl rfl (Nat.le_of_ble_eq_true rfl) rfl rfl dX5_thinOut_32 (fun x4 s5 => ?_)
        refine mf_if_ne 62 dX5_thinOut_35 (by decide) ?_ ?_
        · refine mf_aload_n dX5_thinOut_38 rfl 0 rfl ?_
          refine mf_getR fl_X5_30 rfl rfl dX5_thinOut_39 ?_
          refine mf_iload_n dX5_thinOut_42 rfl 2 rfl ?_
          refine mf_bipush 64 dX5_thinOut_43 (by decide) ?_
          refine mf_idiv (by decide) dX5_thinOut_45 ?_
          refine mf_dup2 rfl rfl dX5_thinOut_46 ?_
          refine mf_lald rfl dX5_thinOut_47 ?_
          refine mf_lconst 1 dX5_thinOut_48 (by decide) ?_
          refine mf_iload_n dX5_thinOut_49 rfl 2 rfl ?_
          refine mf_bipush 64 dX5_thinOut_50 (by decide) ?_
          refine mf_irem (by decide) dX5_thinOut_52 ?_
          refine mf_lshl dX5_thinOut_53 ?_
          refine mf_ldc2 kl_X5_108 dX5_thinOut_54 ?_
          refine mf_lxor dX5_thinOut_57 ?_
          refine mf_land dX5_thinOut_58 ?_
          refine mf_last rfl dX5_thinOut_59 (fun s6 => ?_)
          refine mf_iconst 1 dX5_thinOut_60 (by decide) ?_
          refine mf_istore_n [(1, .int 1), (0, .ref 25), (2, .int a2)] dX5_thinOut_61 rfl (by decide) rfl ?_
          refine mf_iinc 1 [(2, .int (a2 + 1)), (1, .int 1), (0, .ref 25)] dX5_thinOut_62 2 rfl (by decide) (by decide) rfl ?_
          refine mf_goto 12 dX5_thinOut_65 (by decide) ?_
          exact mf_sub [2, 1, 0] rfl (ih12 _ _ _)
        · refine mf_iinc 1 [(2, .int (a2 + 1)), (0, .ref 25), (1, .int a1)] dX5_thinOut_62 2 rfl (by decide) (by decide) rfl ?_
          refine mf_goto 12 dX5_thinOut_65 (by decide) ?_
          exact mf_sub [1, 2, 0] rfl (ih12 _ _ _)
set_option maxRecDepth 100000 in
set_option maxHeartbeats 4000000 in
theorem wlX5_thinOut_70 (l : Launch)    : ∀ (n : Nat) (a1 : Int32) (a2 : Int32) (s0 : mx_G), mf_X ei l RX5 cX5_thinOut 3 (some .boolean) "thinOut" 1 (lX5_thinOut_70   n a1 a2 s0) 70 [(0, .ref 25), (1, .int a1), (2, .int a2)] [] s0 := by
  intro n
  induction n with
  | zero => intro a1 a2 s0; exact mf_none
  | succ n ih70 =>
    intro a1 a2 s0
    rw [lX5_thinOut_70]
    refine mf_iload_n dX5_thinOut_70 rfl 2 rfl ?_
    refine mf_bipush 6 dX5_thinOut_71 (by decide) ?_
    refine mf_icmp_ge 129 dX5_thinOut_73 (by decide) ?_ ?_
    · refine mf_iload_n dX5_thinOut_129 rfl 1 rfl ?_
      exact mf_zretG dX5_thinOut_130
    · refine mf_iload_n dX5_thinOut_76 rfl 1 rfl ?_
      refine mf_join (fun (J : Int32 → mx_G → Option (Int32 × mx_G)) => ∀ (q0_107 : Int32) (s_107 : mx_G), mf_X ei l RX5 cX5_thinOut 3 (some .boolean) "thinOut" 1 (J q0_107 s_107) 107 [(0, .ref 25), (2, .int a2)] [.int q0_107] s_107) ?_ (fun J107 hJ107 => ?_)
      · intro q0_107 s_107
        refine mf_istore_n [(1, .int q0_107), (0, .ref 25), (2, .int a2)] dX5_thinOut_107 rfl (by decide) rfl ?_
        refine mf_aload_n dX5_thinOut_108 rfl 1 rfl ?_
        refine mf_getR fl_X5_30 rfl rfl dX5_thinOut_109 ?_
        refine mf_iload_n dX5_thinOut_112 rfl 2 rfl ?_
        refine mf_dup2 rfl rfl dX5_thinOut_113 ?_
        refine mf_lald rfl dX5_thinOut_114 ?_
        refine mf_aload_n dX5_thinOut_115 rfl 1 rfl ?_
        refine mf_getR fl_X5_39 rfl rfl dX5_thinOut_116 ?_
        refine mf_iload_n dX5_thinOut_119 rfl 2 rfl ?_
        refine mf_lald rfl dX5_thinOut_120 ?_
        refine mf_land dX5_thinOut_121 ?_
        refine mf_last rfl dX5_thinOut_122 (fun s9 => ?_)
        refine mf_iinc 1 [(2, .int (a2 + 1)), (1, .int q0_107), (0, .ref 25)] dX5_thinOut_123 2 rfl (by decide) (by decide) rfl ?_
        refine mf_goto 70 dX5_thinOut_126 (by decide) ?_
        exact mf_sub [2, 1, 0] rfl (ih70 _ _ _)
      refine mf_join (fun (J : mx_G → Option (Int32 × mx_G)) => ∀ (s_102 : mx_G), mf_X ei l RX5 cX5_thinOut 3 (some .boolean) "thinOut" 1 (J s_102) 102 [(0, .ref 25), (2, .int a2)] [] s_102) ?_ (fun J102 hJ102 => ?_)
      · intro s_102
        refine mf_iconst 1 dX5_thinOut_102 (by decide) ?_
        refine mf_goto 107 dX5_thinOut_103 (by decide) ?_
        exact mf_sub [0, 1] rfl (hJ107 _ _)
      refine mf_if_ne 102 dX5_thinOut_77 (by decide) ?_ ?_
      · refine mf_aload_n dX5_thinOut_80 rfl 0 rfl ?_
        refine mf_getR fl_X5_30 rfl rfl dX5_thinOut_81 ?_
        refine mf_iload_n dX5_thinOut_84 rfl 2 rfl ?_
        refine mf_lald rfl dX5_thinOut_85 ?_
        refine mf_aload_n dX5_thinOut_86 rfl 0 rfl ?_
        refine mf_getR fl_X5_39 rfl rfl dX5_thinOut_87 ?_
        refine mf_iload_n dX5_thinOut_90 rfl 2 rfl ?_
        refine mf_lald rfl dX5_thinOut_91 ?_
        refine mf_ldc2 kl_X5_108 dX5_thinOut_92 ?_
        refine mf_lxor dX5_thinOut_95 ?_
        refine mf_land dX5_thinOut_96 ?_
        refine mf_lconst 0 dX5_thinOut_97 (by decide) ?_
        refine mf_lcmp dX5_thinOut_98 ?_
        refine mf_if_eq 106 dX5_thinOut_99 (by decide) ?_ ?_
        · refine mf_iconst 0 dX5_thinOut_106 (by decide) ?_
          exact mf_sub [0, 2] rfl (hJ107 _ _)
        · exact mf_sub [0, 2] rfl (hJ102 _)
      · exact mf_sub [0, 2] rfl (hJ102 _)
set_option maxRecDepth 100000 in
set_option maxHeartbeats 4000000 in
theorem wX5_thinOut (l : Launch) (s : mx_G) : mf_M ei l yX5_thinOut cX5_thinOut 3 (some .boolean) 1 [.ref 25] s (fX5_thinOut  s) := by
  refine mf_intro rfl (Nat.le_of_ble_eq_true rfl) rfl rfl ?_
  refine mf_sub (loc' := [(0, .ref 25)]) [0] rfl ?_
  unfold fX5_thinOut
  refine mf_aload_n dX5_thinOut_0 rfl 0 rfl ?_
  refine mf_getR fl_X5_39 rfl rfl dX5_thinOut_1 ?_
  refine mf_lconst 0 dX5_thinOut_4 (by decide) ?_
  refine mf_callSv (stk := []) (wJA_fillL_4 l _ _) cl_X5_45 rfl (by decide) rfl (Nat.le_of_ble_eq_true rfl) rfl rfl dX5_thinOut_5 (fun us1 s1 => ?_)
  refine mf_iconst 0 dX5_thinOut_8 (by decide) ?_
  refine mf_istore_n [(1, .int 0), (0, .ref 25)] dX5_thinOut_9 rfl (by decide) rfl ?_
  refine mf_iconst 0 dX5_thinOut_10 (by decide) ?_
  refine mf_istore_n [(2, .int 0), (1, .int 0), (0, .ref 25)] dX5_thinOut_11 rfl (by decide) rfl ?_
  refine mf_sub [2, 1, 0] rfl (wlX5_thinOut_12 l _ (fun y8 s7 => ?_) FU _ _ _)
  refine mf_iconst 0 dX5_thinOut_68 (by decide) ?_
  refine mf_istore_n [(2, .int 0), (0, .ref 25), (1, .int y8)] dX5_thinOut_69 rfl (by decide) rfl ?_
  exact mf_sub [1, 2, 0] rfl (wlX5_thinOut_70 l FU _ _ _)
set_option maxRecDepth 100000 in
set_option maxHeartbeats 4000000 in
theorem wlX5_freshen_54 (l : Launch) (k97 : mx_G → Option (Unit × mx_G)) (hk97 : ∀ (sz : mx_G), mf_X ev l RX5 cX5_freshen 5 none "freshen" 4 (k97 sz) 97 [(0, .ref 25), (2, .ref 15)] [] sz) : ∀ (n : Nat) (a3 : Int32) (s0 : mx_G), mf_X ev l RX5 cX5_freshen 5 none "freshen" 4 (lX5_freshen_54  k97 n a3 s0) 54 [(0, .ref 25), (1, .ref 1), (2, .ref 15), (3, .int a3)] [] s0 := by
  intro n
  induction n with
  | zero => intro a3 s0; exact mf_none
  | succ n ih54 =>
    intro a3 s0
    rw [lX5_freshen_54]
    refine mf_iload_n dX5_freshen_54 rfl 3 rfl ?_
    refine mf_aload_n dX5_freshen_55 rfl 2 rfl ?_
    refine mf_callVi (stk := [.int a3]) (wX8_countAll l _) cl_X5_51 rfl (by decide) rfl rfl rfl (Nat.le_of_ble_eq_true rfl) rfl rfl dX5_freshen_56 (fun x11 s12 => ?_)
    refine mf_icmp_ge 97 dX5_freshen_59 (by decide) ?_ ?_
    · exact mf_sub [0, 2] rfl (hk97 _)
    · refine mf_aload_n dX5_freshen_62 rfl 0 rfl ?_
      refine mf_getR fl_X5_30 rfl rfl dX5_freshen_63 ?_
      refine mf_iload_n dX5_freshen_66 rfl 3 rfl ?_
      refine mf_bipush 64 dX5_freshen_67 (by decide) ?_
      refine mf_idiv (by decide) dX5_freshen_69 ?_
      refine mf_dup2 rfl rfl dX5_freshen_70 ?_
      refine mf_lald rfl dX5_freshen_71 ?_
      refine mf_lconst 1 dX5_freshen_72 (by decide) ?_
      refine mf_iload_n dX5_freshen_73 rfl 3 rfl ?_
      refine mf_bipush 64 dX5_freshen_74 (by decide) ?_
      refine mf_irem (by decide) dX5_freshen_76 ?_
      refine mf_lshl dX5_freshen_77 ?_
      refine mf_lor dX5_freshen_78 ?_
      refine mf_last rfl dX5_freshen_79 (fun s13 => ?_)
      refine mf_iload_n dX5_freshen_80 rfl 3 rfl ?_
      refine mf_if_le 91 dX5_freshen_81 (by decide) ?_ ?_
      · refine mf_iinc 1 [(3, .int (a3 + 1)), (0, .ref 25), (1, .ref 1), (2, .ref 15)] dX5_freshen_91 3 rfl (by decide) (by decide) rfl ?_
        refine mf_goto 54 dX5_freshen_94 (by decide) ?_
        exact mf_sub [1, 2, 3, 0] rfl (ih54 _ _)
      · refine mf_aload_n dX5_freshen_84 rfl 0 rfl ?_
        refine mf_aload_n dX5_freshen_85 rfl 1 rfl ?_
        refine mf_aload_n dX5_freshen_86 rfl 2 rfl ?_
        refine mf_iload_n dX5_freshen_87 rfl 3 rfl ?_
        refine mf_callVv (stk := []) (wX5_noteLeading l _ _) cl_X5_54 rfl (by decide) rfl rfl rfl (Nat.le_of_ble_eq_true rfl) rfl rfl dX5_freshen_88 (fun us14 s14 => ?_)
        refine mf_iinc 1 [(3, .int (a3 + 1)), (0, .ref 25), (1, .ref 1), (2, .ref 15)] dX5_freshen_91 3 rfl (by decide) (by decide) rfl ?_
        refine mf_goto 54 dX5_freshen_94 (by decide) ?_
        exact mf_sub [1, 2, 3, 0] rfl (ih54 _ _)
set_option maxRecDepth 100000 in
set_option maxHeartbeats 4000000 in
theorem wlX5_freshen_102 (l : Launch)    : ∀ (n : Nat) (a3 : Int32) (a4 : Int32) (s0 : mx_G), mf_X ev l RX5 cX5_freshen 5 none "freshen" 4 (lX5_freshen_102   n a3 a4 s0) 102 [(0, .ref 25), (2, .ref 15), (3, .int a3), (4, .int a4)] [] s0 := by
  intro n
  induction n with
  | zero => intro a3 a4 s0; exact mf_none
  | succ n ih102 =>
    intro a3 a4 s0
    rw [lX5_freshen_102]
    refine mf_iload dX5_freshen_102 3 rfl ?_
    refine mf_sipush 326 dX5_freshen_104 (by decide) ?_
    refine mf_icmp_ge 125 dX5_freshen_107 (by decide) ?_ ?_
    · refine mf_aload_n dX5_freshen_125 rfl 0 rfl ?_
      refine mf_aload_n dX5_freshen_126 rfl 1 rfl ?_
      refine mf_callVv (stk := []) (wX5_measure l _) cl_X5_62 rfl (by decide) rfl rfl rfl (Nat.le_of_ble_eq_true rfl) rfl rfl dX5_freshen_127 (fun us16 s16 => ?_)
      exact mf_vret dX5_freshen_130
    · refine mf_iload_n dX5_freshen_110 rfl 2 rfl ?_
      refine mf_if_eq 125 dX5_freshen_111 (by decide) ?_ ?_
      · refine mf_aload_n dX5_freshen_125 rfl 0 rfl ?_
        refine mf_aload_n dX5_freshen_126 rfl 1 rfl ?_
        refine mf_callVv (stk := []) (wX5_measure l _) cl_X5_62 rfl (by decide) rfl rfl rfl (Nat.le_of_ble_eq_true rfl) rfl rfl dX5_freshen_127 (fun us17 s17 => ?_)
        exact mf_vret dX5_freshen_130
      · refine mf_aload_n dX5_freshen_114 rfl 0 rfl ?_
        refine mf_callVi (stk := []) (wX5_thinOut l _) cl_X5_58 rfl (by decide) rfl rfl rfl (Nat.le_of_ble_eq_true rfl) rfl rfl dX5_freshen_115 (fun x18 s19 => ?_)
        refine mf_istore_n [(3, .int x18), (0, .ref 25), (2, .ref 15), (4, .int a4)] dX5_freshen_118 rfl (by decide) rfl ?_
        refine mf_iinc 1 [(4, .int (a4 + 1)), (3, .int x18), (0, .ref 25), (2, .ref 15)] dX5_freshen_119 3 rfl (by decide) (by decide) rfl ?_
        refine mf_goto 102 dX5_freshen_122 (by decide) ?_
        exact mf_sub [2, 3, 1, 0] rfl (ih102 _ _ _)
set_option maxRecDepth 100000 in
set_option maxHeartbeats 4000000 in
theorem wX5_freshen (l : Launch) (s : mx_G) : mf_M ev l yX5_freshen cX5_freshen 5 none 4 [.ref 25, .ref 1, .ref 15] s (fX5_freshen  s) := by
  refine mf_intro rfl (Nat.le_of_ble_eq_true rfl) rfl rfl ?_
  refine mf_sub (loc' := [(0, .ref 25), (1, .ref 1), (2, .ref 15)]) [0, 1, 2] rfl ?_
  unfold fX5_freshen
  refine mf_aload_n dX5_freshen_0 rfl 0 rfl ?_
  refine mf_getI fl_X5_21 rfl rfl dX5_freshen_1 ?_
  refine mf_aload_n dX5_freshen_4 rfl 2 rfl ?_
  refine mf_callVi (stk := [.int (s.1 25 3)]) (wX8_version l _) cl_X5_42 rfl (by decide) rfl rfl rfl (Nat.le_of_ble_eq_true rfl) rfl rfl dX5_freshen_5 (fun x1 s2 => ?_)
  refine mf_icmp_ne 12 dX5_freshen_8 (by decide) ?_ ?_
  · exact mf_vret dX5_freshen_11
  · refine mf_aload_n dX5_freshen_12 rfl 0 rfl ?_
    refine mf_aload_n dX5_freshen_13 rfl 2 rfl ?_
    refine mf_callVi (stk := [.ref 25]) (wX8_version l _) cl_X5_42 rfl (by decide) rfl rfl rfl (Nat.le_of_ble_eq_true rfl) rfl rfl dX5_freshen_14 (fun x3 s4 => ?_)
    refine mf_putI fl_X5_21 rfl rfl dX5_freshen_17 (fun s5 => ?_)
    refine mf_aload_n dX5_freshen_20 rfl 0 rfl ?_
    refine mf_iconst 0 dX5_freshen_21 (by decide) ?_
    refine mf_putI fl_X5_9 rfl rfl dX5_freshen_22 (fun s6 => ?_)
    refine mf_aload_n dX5_freshen_25 rfl 0 rfl ?_
    refine mf_iconst 0 dX5_freshen_26 (by decide) ?_
    refine mf_putI fl_X5_15 rfl rfl dX5_freshen_27 (fun s7 => ?_)
    refine mf_aload_n dX5_freshen_30 rfl 0 rfl ?_
    refine mf_bipush (-4) dX5_freshen_31 (by decide) ?_
    refine mf_putI fl_X5_18 rfl rfl dX5_freshen_33 (fun s8 => ?_)
    refine mf_aload_n dX5_freshen_36 rfl 0 rfl ?_
    refine mf_getR fl_X5_26 rfl rfl dX5_freshen_37 ?_
    refine mf_lconst 0 dX5_freshen_40 (by decide) ?_
    refine mf_callSv (stk := []) (wJA_fillL l _ _) cl_X5_45 rfl (by decide) rfl (Nat.le_of_ble_eq_true rfl) rfl rfl dX5_freshen_41 (fun us9 s9 => ?_)
    refine mf_aload_n dX5_freshen_44 rfl 0 rfl ?_
    refine mf_getR fl_X5_30 rfl rfl dX5_freshen_45 ?_
    refine mf_lconst 0 dX5_freshen_48 (by decide) ?_
    refine mf_callSv (stk := []) (wJA_fillL_1 l _ _) cl_X5_45 rfl (by decide) rfl (Nat.le_of_ble_eq_true rfl) rfl rfl dX5_freshen_49 (fun us10 s10 => ?_)
    refine mf_iconst 0 dX5_freshen_52 (by decide) ?_
    refine mf_istore_n [(3, .int 0), (0, .ref 25), (1, .ref 1), (2, .ref 15)] dX5_freshen_53 rfl (by decide) rfl ?_
    refine mf_sub [1, 2, 3, 0] rfl (wlX5_freshen_54 l _ (fun s15 => ?_) FU _ _)
    refine mf_iconst 1 dX5_freshen_97 (by decide) ?_
    refine mf_istore_n [(3, .int 1), (0, .ref 25), (2, .ref 15)] dX5_freshen_98 rfl (by decide) rfl ?_
    refine mf_iconst 0 dX5_freshen_99 (by decide) ?_
    refine mf_istore [(4, .int 0), (3, .int 1), (0, .ref 25), (2, .ref 15)] dX5_freshen_100 (by decide) rfl ?_
    exact mf_sub [2, 3, 1, 0] rfl (wlX5_freshen_102 l FU _ _ _)
set_option maxRecDepth 100000 in
set_option maxHeartbeats 4000000 in
theorem wX10_ring (l : Launch) (p1 : Int32) (s : mx_G) : mf_M ei l yX10_ring cX10_ring 2 (some .int) 5 [.ref 0, .int p1] s (fX10_ring p1 s) := by
  refine mf_intro rfl (Nat.le_of_ble_eq_true rfl) rfl rfl ?_
  refine mf_sub (loc' := [(0, .ref 0), (1, .int p1)]) [0, 1] rfl ?_
  unfold fX10_ring
  refine mf_iload_n dX10_ring_0 rfl 1 rfl ?_
  refine mf_if_lt 9 dX10_ring_1 (by decide) ?_ ?_
  · refine mf_iconst (-1) dX10_ring_9 (by decide) ?_
    exact mf_iret dX10_ring_10
  · refine mf_iload_n dX10_ring_4 rfl 1 rfl ?_
    refine mf_iconst 3 dX10_ring_5 (by decide) ?_
    refine mf_icmp_le 11 dX10_ring_6 (by decide) ?_ ?_
    · refine mf_aload_n dX10_ring_11 rfl 0 rfl ?_
      refine mf_getR fl_X10_43 rfl rfl dX10_ring_12 ?_
      refine mf_aload_n dX10_ring_15 rfl 0 rfl ?_
      refine mf_getR fl_X10_10 rfl rfl dX10_ring_16 ?_
      refine mf_callVv (stk := []) (wX8_freshen l _) cl_X10_143 rfl (by decide) rfl rfl rfl (Nat.le_of_ble_eq_true rfl) rfl rfl dX10_ring_19 (fun us1 s1 => ?_)
      refine mf_aload_n dX10_ring_22 rfl 0 rfl ?_
      refine mf_getR fl_X10_50 rfl rfl dX10_ring_23 ?_
      refine mf_aload_n dX10_ring_26 rfl 0 rfl ?_
      refine mf_getR fl_X10_10 rfl rfl dX10_ring_27 ?_
      refine mf_aload_n dX10_ring_30 rfl 0 rfl ?_
      refine mf_getR fl_X10_43 rfl rfl dX10_ring_31 ?_
      refine mf_callVv (stk := []) (wX5_freshen l _) cl_X10_236 rfl (by decide) rfl rfl rfl (Nat.le_of_ble_eq_true rfl) rfl rfl dX10_ring_34 (fun us2 s2 => ?_)
      refine mf_iload_n dX10_ring_37 rfl 1 rfl ?_
      refine mf_if (fun c0 => mf_tabIn (off := 26) 64 dX10_ring_38 c0 (by decide) (by decide) (by decide) (by decide) ?_) (fun c0 => ?_)
      · refine mf_aload_n dX10_ring_64 rfl 0 rfl ?_
        refine mf_getR fl_X10_50 rfl rfl dX10_ring_65 ?_
        refine mf_getI fl_X10_239 rfl rfl dX10_ring_68 ?_
        refine mf_if_le 78 dX10_ring_71 (by decide) ?_ ?_
        · refine mf_iconst 0 dX10_ring_78 (by decide) ?_
          exact mf_iret dX10_ring_79
        · refine mf_iconst 1 dX10_ring_74 (by decide) ?_
          refine mf_goto 79 dX10_ring_75 (by decide) ?_
          exact mf_iret dX10_ring_79
      refine mf_if (fun c1 => mf_tabIn (off := 42) 80 dX10_ring_38 c1 (by decide) (by decide) (by decide) (by decide) ?_) (fun c1 => ?_)
      · refine mf_aload_n dX10_ring_80 rfl 0 rfl ?_
        refine mf_getR fl_X10_50 rfl rfl dX10_ring_81 ?_
        refine mf_getI fl_X10_239 rfl rfl dX10_ring_84 ?_
        refine mf_if_le 100 dX10_ring_87 (by decide) ?_ ?_
        · refine mf_bipush (-4) dX10_ring_100 (by decide) ?_
          exact mf_iret dX10_ring_102
        · refine mf_aload_n dX10_ring_90 rfl 0 rfl ?_
          refine mf_getR fl_X10_50 rfl rfl dX10_ring_91 ?_
          refine mf_getI fl_X10_239 rfl rfl dX10_ring_94 ?_
          refine mf_goto 102 dX10_ring_97 (by decide) ?_
          exact mf_iret dX10_ring_102
      refine mf_if (fun c2 => mf_tabIn (off := 65) 103 dX10_ring_38 c2 (by decide) (by decide) (by decide) (by decide) ?_) (fun c2 => ?_)
      · refine mf_aload_n dX10_ring_103 rfl 0 rfl ?_
        refine mf_getR fl_X10_50 rfl rfl dX10_ring_104 ?_
        refine mf_getI fl_X10_242 rfl rfl dX10_ring_107 ?_
        exact mf_iret dX10_ring_110
      refine mf_tabOut 111 dX10_ring_38 (fun j hj => by rcases (show j = 0 ∨ j = 1 ∨ j = 2 by omega) with rfl | rfl | rfl <;> assumption) (by decide) ?_
      refine mf_aload_n dX10_ring_111 rfl 0 rfl ?_
      refine mf_getR fl_X10_50 rfl rfl dX10_ring_112 ?_
      refine mf_getI fl_X10_245 rfl rfl dX10_ring_115 ?_
      exact mf_iret dX10_ring_118
    · refine mf_iconst (-1) dX10_ring_9 (by decide) ?_
      exact mf_iret dX10_ring_10
set_option maxRecDepth 100000 in
set_option maxHeartbeats 4000000 in
theorem wlX8_linkInDoubt_6 (l : Launch) (a1 : Int32) (a2 : Int32) (a3 : Int32) (k81 : Int32 → mx_G → Option (Int32 × mx_G)) (hk81 : ∀ (b4 : Int32) (sz : mx_G), mf_X ei l RX8 cX8_linkInDoubt 8 (some .int) "linkInDoubt" 1 (k81 b4 sz) 81 [(4, .int b4)] [] sz) : ∀ (n : Nat) (a4 : Int32) (a5 : Int32) (s0 : mx_G), mf_X ei l RX8 cX8_linkInDoubt 8 (some .int) "linkInDoubt" 1 (lX8_linkInDoubt_6 a1 a2 a3 k81 n a4 a5 s0) 6 [(0, .ref 15), (1, .int a1), (2, .int a2), (3, .int a3), (4, .int a4), (5, .int a5)] [] s0 := by
  intro n
  induction n with
  | zero => intro a4 a5 s0; exact mf_none
  | succ n ih6 =>
    intro a4 a5 s0
    rw [lX8_linkInDoubt_6]
    refine mf_iload dX8_linkInDoubt_6 5 rfl ?_
    refine mf_aload_n dX8_linkInDoubt_8 rfl 0 rfl ?_
    refine mf_getR fl_X8_42 rfl rfl dX8_linkInDoubt_9 ?_
    refine mf_iload_n dX8_linkInDoubt_12 rfl 1 rfl ?_
    refine mf_iald rfl dX8_linkInDoubt_13 ?_
    refine mf_icmp_ge 81 dX8_linkInDoubt_14 (by decide) ?_ ?_
    · exact mf_sub [4] rfl (hk81 _ _)
    · refine mf_aload_n dX8_linkInDoubt_17 rfl 0 rfl ?_
      refine mf_getR fl_X8_36 rfl rfl dX8_linkInDoubt_18 ?_
      refine mf_aload_n dX8_linkInDoubt_21 rfl 0 rfl ?_
      refine mf_iload_n dX8_linkInDoubt_22 rfl 1 rfl ?_
      refine mf_iload dX8_linkInDoubt_23 5 rfl ?_
      refine mf_callVi (stk := [.ref 21]) (wX8_rankedAt l _ _ _) cl_X8_50 rfl (by decide) rfl rfl rfl (Nat.le_of_ble_eq_true rfl) rfl rfl dX8_linkInDoubt_25 (fun x1 s2 => ?_)
      refine mf_iald rfl dX8_linkInDoubt_28 ?_
      refine mf_leti (fun x3 => ?_)
      refine mf_istore [(6, .int x3), (0, .ref 15), (1, .int a1), (2, .int a2), (3, .int a3), (4, .int a4), (5, .int a5)] dX8_linkInDoubt_29 (by decide) rfl ?_
      refine mf_iload dX8_linkInDoubt_31 0 rfl ?_
      refine mf_iload_n dX8_linkInDoubt_33 rfl 3 rfl ?_
      refine mf_iconst (-1) dX8_linkInDoubt_34 (by decide) ?_
      refine mf_ixor dX8_linkInDoubt_35 ?_
      refine mf_iand dX8_linkInDoubt_36 ?_
      refine mf_leti (fun x4 => ?_)
      refine mf_istore [(7, .int x4), (6, .int x3), (0, .ref 15), (1, .int a1), (2, .int a2), (3, .int a3), (4, .int a4), (5, .int a5)] dX8_linkInDoubt_37 (by decide) rfl ?_
      refine mf_iload dX8_linkInDoubt_39 1 rfl ?_
      refine mf_iload_n dX8_linkInDoubt_41 rfl 5 rfl ?_
      refine mf_iand dX8_linkInDoubt_42 ?_
      refine mf_if_ne 68 dX8_linkInDoubt_43 (by decide) ?_ ?_
      · refine mf_iload dX8_linkInDoubt_46 6 rfl ?_
        refine mf_join (fun (J : mx_G → Option (Int32 × mx_G)) => ∀ (s_64 : mx_G), mf_X ei l RX8 cX8_linkInDoubt 8 (some .int) "linkInDoubt" 1 (J s_64) 64 [(0, .ref 15), (1, .int a1), (2, .int a2), (3, .int a3), (5, .int a5), (7, .int x4)] [] s_64) ?_ (fun J64 hJ64 => ?_)
        · intro s_64
          refine mf_iload dX8_linkInDoubt_64 5 rfl ?_
          refine mf_istore [(4, .int x4), (0, .ref 15), (1, .int a1), (2, .int a2), (3, .int a3), (5, .int a5), (7, .int x4)] dX8_linkInDoubt_66 (by decide) rfl ?_
          refine mf_iload dX8_linkInDoubt_68 0 rfl ?_
          refine mf_if_ne 75 dX8_linkInDoubt_70 (by decide) ?_ ?_
          · refine mf_iconst 0 dX8_linkInDoubt_73 (by decide) ?_
            exact mf_iret dX8_linkInDoubt_74
          · refine mf_iinc 1 [(5, .int (a5 + 1)), (4, .int x4), (0, .ref 15), (1, .int a1), (2, .int a2), (3, .int a3), (7, .int x4)] dX8_linkInDoubt_75 5 rfl (by decide) (by decide) rfl ?_
            refine mf_goto 6 dX8_linkInDoubt_78 (by decide) ?_
            exact mf_sub [2, 3, 4, 5, 1, 0] rfl (ih6 _ _ _)
        refine mf_if_lt 64 dX8_linkInDoubt_48 (by decide) ?_ ?_
        · exact mf_sub [2, 3, 4, 5, 7, 0] rfl (hJ64 _)
        · refine mf_iload dX8_linkInDoubt_51 0 rfl ?_
          refine mf_callSi (stk := []) (wJI_bitCount l _ _) cl_X8_121 rfl (by decide) rfl (Nat.le_of_ble_eq_true rfl) rfl rfl dX8_linkInDoubt_53 (fun x5 s6 => ?_)
          refine mf_iload dX8_linkInDoubt_56 6 rfl ?_
          refine mf_callSi (stk := [.int x5]) (wJI_bitCount l _ _) cl_X8_121 rfl (by decide) rfl (Nat.le_of_ble_eq_true rfl) rfl rfl dX8_linkInDoubt_58 (fun x7 s8 => ?_)
          refine mf_icmp_ge 68 dX8_linkInDoubt_61 (by decide) ?_ ?_
          · refine mf_iload dX8_linkInDoubt_68 6 rfl ?_
            refine mf_if_ne 75 dX8_linkInDoubt_70 (by decide) ?_ ?_
            · refine mf_iconst 0 dX8_linkInDoubt_73 (by decide) ?_
              exact mf_iret dX8_linkInDoubt_74
            · refine mf_iinc 1 [(5, .int (a5 + 1)), (7, .int x4), (6, .int x3), (0, .ref 15), (1, .int a1), (2, .int a2), (3, .int a3), (4, .int a4)] dX8_linkInDoubt_75 7 rfl (by decide) (by decide) rfl ?_
              refine mf_goto 6 dX8_linkInDoubt_78 (by decide) ?_
              exact mf_sub [3, 4, 5, 6, 7, 0] rfl (ih6 _ _ _)
          · exact mf_sub [2, 3, 4, 5, 7, 0] rfl (hJ64 _)
      · refine mf_iload dX8_linkInDoubt_68 6 rfl ?_
        refine mf_if_ne 75 dX8_linkInDoubt_70 (by decide) ?_ ?_
        · refine mf_iconst 0 dX8_linkInDoubt_73 (by decide) ?_
          exact mf_iret dX8_linkInDoubt_74
        · refine mf_iinc 1 [(5, .int (a5 + 1)), (7, .int x4), (6, .int x3), (0, .ref 15), (1, .int a1), (2, .int a2), (3, .int a3), (4, .int a4)] dX8_linkInDoubt_75 7 rfl (by decide) (by decide) rfl ?_
          refine mf_goto 6 dX8_linkInDoubt_78 (by decide) ?_
          exact mf_sub [3, 4, 5, 6, 7, 0] rfl (ih6 _ _ _)
