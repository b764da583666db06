/-! THE CONSTRUCTORS over concrete cells -/
abbrev zI (n : Nat) : mx_C := .inl (.int, n, .inl fun _ => 0)
abbrev zZ (n : Nat) : mx_C := .inl (.boolean, n, .inl fun _ => 0)
abbrev zL (n : Nat) : mx_C := .inl (.long, n, .inr (.inl fun _ => 0))
abbrev aI (n : Nat) (f : Nat → Int32) : mx_C := .inl (.int, n, .inl f)
abbrev ob (ci : Nat) (fs : List Value) : mx_C := .inr (ci, fs)
section MH
variable {l : Launch} {E : mx_E} {own : String} {cc : ByteArray} {nL : Nat} {rt : Option FieldType} {nm : String} {R : Room} {Qs : mx_Qt} {n0 pc : Nat} {loc : List (Nat × Value)} {stk : List Value} {h : List mx_C} {kc ks : Nat}
theorem mx_hp (h' : List mx_C) (e : h = h') (k : mx_X l E own cc nL rt nm R Qs n0 pc loc stk h' kc ks) : mx_X l E own cc nL rt nm R Qs n0 pc loc stk h kc ks := e ▸ k
theorem mx_top {x : Int32} (y : Int32) (e : x = y) (k : mx_X l E own cc nL rt nm R Qs n0 pc loc (.int y :: stk) h kc ks) : mx_X l E own cc nL rt nm R Qs n0 pc loc (.int x :: stk) h kc ks := e ▸ k
theorem mx_kk {kc' ks' : Nat} (e1 : kc = kc') (e2 : ks = ks') (k : mx_X l E own cc nL rt nm R Qs n0 pc loc stk h kc' ks') : mx_X l E own cc nL rt nm R Qs n0 pc loc stk h kc ks := e1 ▸ e2 ▸ k
end MH
abbrev ca_1 : Nat → Int32 := upd (fun _ => 0) 0 4
abbrev ca_2 : Nat → Int32 := upd ca_1 127 1
abbrev ca_3 : Nat → Int32 := upd ca_2 1 3
abbrev ca_4 : Nat → Int32 := upd ca_3 121 0
abbrev ca_5 : Nat → Int32 := upd ca_4 2 3
abbrev ca_6 : Nat → Int32 := upd ca_5 122 (-4)
abbrev ca_7 : Nat → Int32 := upd ca_6 3 3
abbrev ca_8 : Nat → Int32 := upd ca_7 123 (-4)
abbrev ca_9 : Nat → Int32 := upd ca_8 4 3
abbrev ca_10 : Nat → Int32 := upd ca_9 124 (-4)
abbrev ca_11 : Nat → Int32 := upd ca_10 5 3
abbrev ca_12 : Nat → Int32 := upd ca_11 125 (-4)
abbrev ca_13 : Nat → Int32 := upd ca_12 6 3
abbrev ca_14 : Nat → Int32 := upd ca_13 126 (-4)
set_option maxRecDepth 100000 in
set_option maxHeartbeats 4000000 in
theorem nX9_init_1 (l : Launch) : mx_M l yX9_init cX9_init 2 none 1 [.ref 1] [ob 9 [.null, .null, .null, .null, .int 0, .null, .null, .null, .null, .null, .null, .null, .null], ob 8 [.null]] none [ob 9 [.null, .null, .null, .null, .int 0, .null, .null, .null, .null, .null, .null, .null, .null], ob 8 [.ref 2], aI 128 ca_14] 1 128 := by
  refine mx_intro (own := RX9) (nm := "<init>") rfl (Nat.le_of_ble_eq_true rfl) rfl rfl ?_
  refine mx_sub (loc' := [(0, .ref 1)]) [0] rfl ?_
  refine mx_aload_n dX9_init_0 rfl 0 rfl ?_
  refine mx_objInit cl_X9_3 ol_1 ol_2 ⟨Nat.le_of_ble_eq_true rfl, Nat.le_of_ble_eq_true rfl⟩ (Nat.le_of_ble_eq_true rfl) dX9_init_1 ?_
  refine mx_aload_n dX9_init_4 rfl 0 rfl ?_
  refine mx_sipush 128 dX9_init_5 (by decide) ?_
  refine mx_newarr (N := 128) (a0 := (128, .inl fun _ => 0)) 0 al_int rfl (fun _ => rfl) (fun _ => rfl) (by decide) (by decide) (by decide) ⟨Nat.le_of_ble_eq_true rfl, Nat.le_of_ble_eq_true rfl⟩ (Nat.le_of_ble_eq_true rfl) rfl rfl rfl dX9_init_8 ?_
  refine mx_hp [ob 9 [.null, .null, .null, .null, .int 0, .null, .null, .null, .null, .null, .null, .null, .null], ob 8 [.null], zI 128] rfl ?_
  refine mx_putF rfl fl_X9_11 rfl (by decide) (fun _ => rfl) (fun _ => rfl) dX9_init_10 ?_
  refine mx_hp [ob 9 [.null, .null, .null, .null, .int 0, .null, .null, .null, .null, .null, .null, .null, .null], ob 8 [.ref 2], zI 128] rfl ?_
  refine mx_aload_n dX9_init_13 rfl 0 rfl ?_
  refine mx_get fl_X9_11 rfl rfl dX9_init_14 ?_
  refine mx_iconst 0 dX9_init_17 (by decide) ?_
  refine mx_iconst 4 dX9_init_18 (by decide) ?_
  refine mx_iast rfl (by unfold vp_in; decide) dX9_init_19 ?_
  refine mx_hp [ob 9 [.null, .null, .null, .null, .int 0, .null, .null, .null, .null, .null, .null, .null, .null], ob 8 [.ref 2], aI 128 ca_1] rfl ?_
  refine mx_aload_n dX9_init_20 rfl 0 rfl ?_
  refine mx_get fl_X9_11 rfl rfl dX9_init_21 ?_
  refine mx_bipush 127 dX9_init_24 (by decide) ?_
  refine mx_iconst 1 dX9_init_26 (by decide) ?_
  refine mx_iast rfl (by unfold vp_in; decide) dX9_init_27 ?_
  refine mx_hp [ob 9 [.null, .null, .null, .null, .int 0, .null, .null, .null, .null, .null, .null, .null, .null], ob 8 [.ref 2], aI 128 ca_2] rfl ?_
  refine mx_iconst 0 dX9_init_28 (by decide) ?_
  refine mx_istore_n [(1, .int 0), (0, .ref 1)] dX9_init_29 rfl (by decide) rfl ?_
  refine mx_iload_n dX9_init_30 rfl 0 rfl ?_
  refine mx_bipush 6 dX9_init_31 (by decide) ?_
  refine mx_icmp_ge 70 dX9_init_33 (by decide) (fun c => absurd c (by decide)) (fun _ => ?_)
  refine mx_aload_n dX9_init_36 rfl 1 rfl ?_
  refine mx_get fl_X9_11 rfl rfl dX9_init_37 ?_
  refine mx_iconst 1 dX9_init_40 (by decide) ?_
  refine mx_iload_n dX9_init_41 rfl 0 rfl ?_
  refine mx_iadd dX9_init_42 ?_
  refine mx_top 1 (by decide) ?_
  refine mx_iconst 3 dX9_init_43 (by decide) ?_
  refine mx_iast rfl (by unfold vp_in; decide) dX9_init_44 ?_
  refine mx_hp [ob 9 [.null, .null, .null, .null, .int 0, .null, .null, .null, .null, .null, .null, .null, .null], ob 8 [.ref 2], aI 128 ca_3] rfl ?_
  refine mx_aload_n dX9_init_45 rfl 1 rfl ?_
  refine mx_get fl_X9_11 rfl rfl dX9_init_46 ?_
  refine mx_bipush 121 dX9_init_49 (by decide) ?_
  refine mx_iload_n dX9_init_51 rfl 0 rfl ?_
  refine mx_iadd dX9_init_52 ?_
  refine mx_top 121 (by decide) ?_
  refine mx_iload_n dX9_init_53 rfl 0 rfl ?_
  refine mx_if_ne 61 dX9_init_54 (by decide) (fun c => absurd c (by decide)) (fun _ => ?_)
  refine mx_iconst 0 dX9_init_57 (by decide) ?_
  refine mx_goto 63 dX9_init_58 (by decide) ?_
  refine mx_iast rfl (by unfold vp_in; decide) dX9_init_63 ?_
  refine mx_hp [ob 9 [.null, .null, .null, .null, .int 0, .null, .null, .null, .null, .null, .null, .null, .null], ob 8 [.ref 2], aI 128 ca_4] rfl ?_
  refine mx_iinc 1 [(1, .int (0 + 1)), (0, .ref 1)] dX9_init_64 0 rfl (by decide) (by decide) rfl ?_
  refine mx_sub (loc' := [(1, .int 1), (0, .ref 1)]) [0, 1] rfl ?_
  refine mx_goto 30 dX9_init_67 (by decide) ?_
  refine mx_iload_n dX9_init_30 rfl 0 rfl ?_
  refine mx_bipush 6 dX9_init_31 (by decide) ?_
  refine mx_icmp_ge 70 dX9_init_33 (by decide) (fun c => absurd c (by decide)) (fun _ => ?_)
  refine mx_aload_n dX9_init_36 rfl 1 rfl ?_
  refine mx_get fl_X9_11 rfl rfl dX9_init_37 ?_
  refine mx_iconst 1 dX9_init_40 (by decide) ?_
  refine mx_iload_n dX9_init_41 rfl 0 rfl ?_
  refine mx_iadd dX9_init_42 ?_
  refine mx_top 2 (by decide) ?_
  refine mx_iconst 3 dX9_init_43 (by decide) ?_
  refine mx_iast rfl (by unfold vp_in; decide) dX9_init_44 ?_
  refine mx_hp [ob 9 [.null, .null, .null, .null, .int 0, .null, .null, .null, .null, .null, .null, .null, .null], ob 8 [.ref 2], aI 128 ca_5] rfl ?_
  refine mx_aload_n dX9_init_45 rfl 1 rfl ?_
  refine mx_get fl_X9_11 rfl rfl dX9_init_46 ?_
  refine mx_bipush 121 dX9_init_49 (by decide) ?_
  refine mx_iload_n dX9_init_51 rfl 0 rfl ?_
  refine mx_iadd dX9_init_52 ?_
  refine mx_top 122 (by decide) ?_
  refine mx_iload_n dX9_init_53 rfl 0 rfl ?_
  refine mx_if_ne 61 dX9_init_54 (by decide) (fun _ => ?_) (fun c => absurd c (by decide))
  refine mx_bipush (-4) dX9_init_61 (by decide) ?_
  refine mx_iast rfl (by unfold vp_in; decide) dX9_init_63 ?_
  refine mx_hp [ob 9 [.null, .null, .null, .null, .int 0, .null, .null, .null, .null, .null, .null, .null, .null], ob 8 [.ref 2], aI 128 ca_6] rfl ?_
  refine mx_iinc 1 [(1, .int (1 + 1)), (0, .ref 1)] dX9_init_64 0 rfl (by decide) (by decide) rfl ?_
  refine mx_sub (loc' := [(1, .int 2), (0, .ref 1)]) [0, 1] rfl ?_
  refine mx_goto 30 dX9_init_67 (by decide) ?_
  refine mx_iload_n dX9_init_30 rfl 0 rfl ?_
  refine mx_bipush 6 dX9_init_31 (by decide) ?_
  refine mx_icmp_ge 70 dX9_init_33 (by decide) (fun c => absurd c (by decide)) (fun _ => ?_)
  refine mx_aload_n dX9_init_36 rfl 1 rfl ?_
  refine mx_get fl_X9_11 rfl rfl dX9_init_37 ?_
  refine mx_iconst 1 dX9_init_40 (by decide) ?_
  refine mx_iload_n dX9_init_41 rfl 0 rfl ?_
  refine mx_iadd dX9_init_42 ?_
  refine mx_top 3 (by decide) ?_
  refine mx_iconst 3 dX9_init_43 (by decide) ?_
  refine mx_iast rfl (by unfold vp_in; decide) dX9_init_44 ?_
  refine mx_hp [ob 9 [.null, .null, .null, .null, .int 0, .null, .null, .null, .null, .null, .null, .null, .null], ob 8 [.ref 2], aI 128 ca_7] rfl ?_
  refine mx_aload_n dX9_init_45 rfl 1 rfl ?_
  refine mx_get fl_X9_11 rfl rfl dX9_init_46 ?_
  refine mx_bipush 121 dX9_init_49 (by decide) ?_
  refine mx_iload_n dX9_init_51 rfl 0 rfl ?_
  refine mx_iadd dX9_init_52 ?_
  refine mx_top 123 (by decide) ?_
  refine mx_iload_n dX9_init_53 rfl 0 rfl ?_
  refine mx_if_ne 61 dX9_init_54 (by decide) (fun _ => ?_) (fun c => absurd c (by decide))
  refine mx_bipush (-4) dX9_init_61 (by decide) ?_
  refine mx_iast rfl (by unfold vp_in; decide) dX9_init_63 ?_
  refine mx_hp [ob 9 [.null, .null, .null, .null, .int 0, .null, .null, .null, .null, .null, .null, .null, .null], ob 8 [.ref 2], aI 128 ca_8] rfl ?_
  refine mx_iinc 1 [(1, .int (2 + 1)), (0, .ref 1)] dX9_init_64 0 rfl (by decide) (by decide) rfl ?_
  refine mx_sub (loc' := [(1, .int 3), (0, .ref 1)]) [0, 1] rfl ?_
  refine mx_goto 30 dX9_init_67 (by decide) ?_
  refine mx_iload_n dX9_init_30 rfl 0 rfl ?_
  refine mx_bipush 6 dX9_init_31 (by decide) ?_
  refine mx_icmp_ge 70 dX9_init_33 (by decide) (fun c => absurd c (by decide)) (fun _ => ?_)
  refine mx_aload_n dX9_init_36 rfl 1 rfl ?_
  refine mx_get fl_X9_11 rfl rfl dX9_init_37 ?_
  refine mx_iconst 1 dX9_init_40 (by decide) ?_
  refine mx_iload_n dX9_init_41 rfl 0 rfl ?_
  refine mx_iadd dX9_init_42 ?_
  refine mx_top 4 (by decide) ?_
  refine mx_iconst 3 dX9_init_43 (by decide) ?_
  refine mx_iast rfl (by unfold vp_in; decide) dX9_init_44 ?_
  refine mx_hp [ob 9 [.null, .null, .null, .null, .int 0, .null, .null, .null, .null, .null, .null, .null, .null], ob 8 [.ref 2], aI 128 ca_9] rfl ?_
  refine mx_aload_n dX9_init_45 rfl 1 rfl ?_
  refine mx_get fl_X9_11 rfl rfl dX9_init_46 ?_
  refine mx_bipush 121 dX9_init_49 (by decide) ?_
  refine mx_iload_n dX9_init_51 rfl 0 rfl ?_
  refine mx_iadd dX9_init_52 ?_
  refine mx_top 124 (by decide) ?_
  refine mx_iload_n dX9_init_53 rfl 0 rfl ?_
  refine mx_if_ne 61 dX9_init_54 (by decide) (fun _ => ?_) (fun c => absurd c (by decide))
  refine mx_bipush (-4) dX9_init_61 (by decide) ?_
  refine mx_iast rfl (by unfold vp_in; decide) dX9_init_63 ?_
  refine mx_hp [ob 9 [.null, .null, .null, .null, .int 0, .null, .null, .null, .null, .null, .null, .null, .null], ob 8 [.ref 2], aI 128 ca_10] rfl ?_
  refine mx_iinc 1 [(1, .int (3 + 1)), (0, .ref 1)] dX9_init_64 0 rfl (by decide) (by decide) rfl ?_
  refine mx_sub (loc' := [(1, .int 4), (0, .ref 1)]) [0, 1] rfl ?_
  refine mx_goto 30 dX9_init_67 (by decide) ?_
  refine mx_iload_n dX9_init_30 rfl 0 rfl ?_
  refine mx_bipush 6 dX9_init_31 (by decide) ?_
  refine mx_icmp_ge 70 dX9_init_33 (by decide) (fun c => absurd c (by decide)) (fun _ => ?_)
  refine mx_aload_n dX9_init_36 rfl 1 rfl ?_
  refine mx_get fl_X9_11 rfl rfl dX9_init_37 ?_
  refine mx_iconst 1 dX9_init_40 (by decide) ?_
  refine mx_iload_n dX9_init_41 rfl 0 rfl ?_
  refine mx_iadd dX9_init_42 ?_
  refine mx_top 5 (by decide) ?_
  refine mx_iconst 3 dX9_init_43 (by decide) ?_
  refine mx_iast rfl (by unfold vp_in; decide) dX9_init_44 ?_
  refine mx_hp [ob 9 [.null, .null, .null, .null, .int 0, .null, .null, .null, .null, .null, .null, .null, .null], ob 8 [.ref 2], aI 128 ca_11] rfl ?_
  refine mx_aload_n dX9_init_45 rfl 1 rfl ?_
  refine mx_get fl_X9_11 rfl rfl dX9_init_46 ?_
  refine mx_bipush 121 dX9_init_49 (by decide) ?_
  refine mx_iload_n dX9_init_51 rfl 0 rfl ?_
  refine mx_iadd dX9_init_52 ?_
  refine mx_top 125 (by decide) ?_
  refine mx_iload_n dX9_init_53 rfl 0 rfl ?_
  refine mx_if_ne 61 dX9_init_54 (by decide) (fun _ => ?_) (fun c => absurd c (by decide))
  refine mx_bipush (-4) dX9_init_61 (by decide) ?_
  refine mx_iast rfl (by unfold vp_in; decide) dX9_init_63 ?_
  refine mx_hp [ob 9 [.null, .null, .null, .null, .int 0, .null, .null, .null, .null, .null, .null, .null, .null], ob 8 [.ref 2], aI 128 ca_12] rfl ?_
  refine mx_iinc 1 [(1, .int (4 + 1)), (0, .ref 1)] dX9_init_64 0 rfl (by decide) (by decide) rfl ?_
  refine mx_sub (loc' := [(1, .int 5), (0, .ref 1)]) [0, 1] rfl ?_
  refine mx_goto 30 dX9_init_67 (by decide) ?_
  refine mx_iload_n dX9_init_30 rfl 0 rfl ?_
  refine mx_bipush 6 dX9_init_31 (by decide) ?_
  refine mx_icmp_ge 70 dX9_init_33 (by decide) (fun c => absurd c (by decide)) (fun _ => ?_)
  refine mx_aload_n dX9_init_36 rfl 1 rfl ?_
  refine mx_get fl_X9_11 rfl rfl dX9_init_37 ?_
  refine mx_iconst 1 dX9_init_40 (by decide) ?_
  refine mx_iload_n dX9_init_41 rfl 0 rfl ?_
  refine mx_iadd dX9_init_42 ?_
  refine mx_top 6 (by decide) ?_
  refine mx_iconst 3 dX9_init_43 (by decide) ?_
  refine mx_iast rfl (by unfold vp_in; decide) dX9_init_44 ?_
  refine mx_hp [ob 9 [.null, .null, .null, .null, .int 0, .null, .null, .null, .null, .null, .null, .null, .null], ob 8 [.ref 2], aI 128 ca_13] rfl ?_
  refine mx_aload_n dX9_init_45 rfl 1 rfl ?_
  refine mx_get fl_X9_11 rfl rfl dX9_init_46 ?_
  refine mx_bipush 121 dX9_init_49 (by decide) ?_
  refine mx_iload_n dX9_init_51 rfl 0 rfl ?_
  refine mx_iadd dX9_init_52 ?_
  refine mx_top 126 (by decide) ?_
  refine mx_iload_n dX9_init_53 rfl 0 rfl ?_
  refine mx_if_ne 61 dX9_init_54 (by decide) (fun _ => ?_) (fun c => absurd c (by decide))
  refine mx_bipush (-4) dX9_init_61 (by decide) ?_
  refine mx_iast rfl (by unfold vp_in; decide) dX9_init_63 ?_
  refine mx_hp [ob 9 [.null, .null, .null, .null, .int 0, .null, .null, .null, .null, .null, .null, .null, .null], ob 8 [.ref 2], aI 128 ca_14] rfl ?_
  refine mx_iinc 1 [(1, .int (5 + 1)), (0, .ref 1)] dX9_init_64 0 rfl (by decide) (by decide) rfl ?_
  refine mx_sub (loc' := [(1, .int 6), (0, .ref 1)]) [0, 1] rfl ?_
  refine mx_goto 30 dX9_init_67 (by decide) ?_
  refine mx_iload_n dX9_init_30 rfl 0 rfl ?_
  refine mx_bipush 6 dX9_init_31 (by decide) ?_
  refine mx_icmp_ge 70 dX9_init_33 (by decide) (fun _ => ?_) (fun c => absurd c (by decide))
  exact mx_vret (Nat.le_of_ble_eq_true rfl) (Nat.le_of_ble_eq_true rfl) dX9_init_70
set_option maxRecDepth 100000 in
set_option maxHeartbeats 4000000 in
theorem nX3_init_3 (l : Launch) : mx_M l yX3_init cX3_init 1 none 1 [.ref 3] [ob 9 [.ref 1, .null, .null, .null, .int 0, .null, .null, .null, .null, .null, .null, .null, .null], ob 8 [.ref 2], aI 128 ca_14, ob 2 [.null, .int 0, .int 0]] none [ob 9 [.ref 1, .null, .null, .null, .int 0, .null, .null, .null, .null, .null, .null, .null, .null], ob 8 [.ref 2], aI 128 ca_14, ob 2 [.ref 4, .int 0, .int 0], zI 768] 1 768 := by
  refine mx_intro (own := RX3) (nm := "<init>") rfl (Nat.le_of_ble_eq_true rfl) rfl rfl ?_
  refine mx_sub (loc' := [(0, .ref 3)]) [0] rfl ?_
  refine mx_aload_n dX3_init_0 rfl 0 rfl ?_
  refine mx_objInit cl_X3_1 ol_1 ol_2 ⟨Nat.le_of_ble_eq_true rfl, Nat.le_of_ble_eq_true rfl⟩ (Nat.le_of_ble_eq_true rfl) dX3_init_1 ?_
  refine mx_aload_n dX3_init_4 rfl 0 rfl ?_
  refine mx_sipush 768 dX3_init_5 (by decide) ?_
  refine mx_newarr (N := 768) (a0 := (768, .inl fun _ => 0)) 0 al_int rfl (fun _ => rfl) (fun _ => rfl) (by decide) (by decide) (by decide) ⟨Nat.le_of_ble_eq_true rfl, Nat.le_of_ble_eq_true rfl⟩ (Nat.le_of_ble_eq_true rfl) rfl rfl rfl dX3_init_8 ?_
  refine mx_hp [ob 9 [.ref 1, .null, .null, .null, .int 0, .null, .null, .null, .null, .null, .null, .null, .null], ob 8 [.ref 2], aI 128 ca_14, ob 2 [.null, .int 0, .int 0], zI 768] rfl ?_
  refine mx_putF rfl fl_X3_11 rfl (by decide) (fun _ => rfl) (fun _ => rfl) dX3_init_10 ?_
  refine mx_hp [ob 9 [.ref 1, .null, .null, .null, .int 0, .null, .null, .null, .null, .null, .null, .null, .null], ob 8 [.ref 2], aI 128 ca_14, ob 2 [.ref 4, .int 0, .int 0], zI 768] rfl ?_
  refine mx_aload_n dX3_init_13 rfl 0 rfl ?_
  refine mx_iconst 0 dX3_init_14 (by decide) ?_
  refine mx_put fl_X3_15 rfl (by decide) (fun _ => rfl) (fun _ => rfl) dX3_init_15 ?_
  refine mx_hp [ob 9 [.ref 1, .null, .null, .null, .int 0, .null, .null, .null, .null, .null, .null, .null, .null], ob 8 [.ref 2], aI 128 ca_14, ob 2 [.ref 4, .int 0, .int 0], zI 768] rfl ?_
  refine mx_aload_n dX3_init_18 rfl 0 rfl ?_
  refine mx_iconst 0 dX3_init_19 (by decide) ?_
  refine mx_put fl_X3_19 rfl (by decide) (fun _ => rfl) (fun _ => rfl) dX3_init_20 ?_
  refine mx_hp [ob 9 [.ref 1, .null, .null, .null, .int 0, .null, .null, .null, .null, .null, .null, .null, .null], ob 8 [.ref 2], aI 128 ca_14, ob 2 [.ref 4, .int 0, .int 0], zI 768] rfl ?_
  exact mx_vret (Nat.le_of_ble_eq_true rfl) (Nat.le_of_ble_eq_true rfl) dX3_init_23
abbrev ca_15 : Nat → Int32 := upd (fun _ => 0) 0 4
abbrev ca_16 : Nat → Int32 := upd ca_15 127 1
abbrev ca_17 : Nat → Int32 := upd ca_16 1 3
abbrev ca_18 : Nat → Int32 := upd ca_17 121 0
abbrev ca_19 : Nat → Int32 := upd ca_18 2 3
abbrev ca_20 : Nat → Int32 := upd ca_19 122 (-4)
abbrev ca_21 : Nat → Int32 := upd ca_20 3 3
abbrev ca_22 : Nat → Int32 := upd ca_21 123 (-4)
abbrev ca_23 : Nat → Int32 := upd ca_22 4 3
abbrev ca_24 : Nat → Int32 := upd ca_23 124 (-4)
abbrev ca_25 : Nat → Int32 := upd ca_24 5 3
abbrev ca_26 : Nat → Int32 := upd ca_25 125 (-4)
abbrev ca_27 : Nat → Int32 := upd ca_26 6 3
abbrev ca_28 : Nat → Int32 := upd ca_27 126 (-4)
set_option maxRecDepth 100000 in
set_option maxHeartbeats 4000000 in
theorem nX9_init_5 (l : Launch) : mx_M l yX9_init cX9_init 2 none 1 [.ref 5] [ob 9 [.ref 1, .ref 3, .null, .null, .int 0, .null, .null, .null, .null, .null, .null, .null, .null], ob 8 [.ref 2], aI 128 ca_14, ob 2 [.ref 4, .int 0, .int 0], zI 768, ob 8 [.null]] none [ob 9 [.ref 1, .ref 3, .null, .null, .int 0, .null, .null, .null, .null, .null, .null, .null, .null], ob 8 [.ref 2], aI 128 ca_14, ob 2 [.ref 4, .int 0, .int 0], zI 768, ob 8 [.ref 6], aI 128 ca_28] 1 128 := by
  refine mx_intro (own := RX9) (nm := "<init>") rfl (Nat.le_of_ble_eq_true rfl) rfl rfl ?_
  refine mx_sub (loc' := [(0, .ref 5)]) [0] rfl ?_
  refine mx_aload_n dX9_init_0 rfl 0 rfl ?_
  refine mx_objInit cl_X9_3 ol_1 ol_2 ⟨Nat.le_of_ble_eq_true rfl, Nat.le_of_ble_eq_true rfl⟩ (Nat.le_of_ble_eq_true rfl) dX9_init_1 ?_
  refine mx_aload_n dX9_init_4 rfl 0 rfl ?_
  refine mx_sipush 128 dX9_init_5 (by decide) ?_
  refine mx_newarr (N := 128) (a0 := (128, .inl fun _ => 0)) 0 al_int rfl (fun _ => rfl) (fun _ => rfl) (by decide) (by decide) (by decide) ⟨Nat.le_of_ble_eq_true rfl, Nat.le_of_ble_eq_true rfl⟩ (Nat.le_of_ble_eq_true rfl) rfl rfl rfl dX9_init_8 ?_
  refine mx_hp [ob 9 [.ref 1, .ref 3, .null, .null, .int 0, .null, .null, .null, .null, .null, .null, .null, .null], ob 8 [.ref 2], aI 128 ca_14, ob 2 [.ref 4, .int 0, .int 0], zI 768, ob 8 [.null], zI 128] rfl ?_
  refine mx_putF rfl fl_X9_11 rfl (by decide) (fun _ => rfl) (fun _ => rfl) dX9_init_10 ?_
  refine mx_hp [ob 9 [.ref 1, .ref 3, .null, .null, .int 0, .null, .null, .null, .null, .null, .null, .null, .null], ob 8 [.ref 2], aI 128 ca_14, ob 2 [.ref 4, .int 0, .int 0], zI 768, ob 8 [.ref 6], zI 128] rfl ?_
  refine mx_aload_n dX9_init_13 rfl 0 rfl ?_
  refine mx_get fl_X9_11 rfl rfl dX9_init_14 ?_
  refine mx_iconst 0 dX9_init_17 (by decide) ?_
  refine mx_iconst 4 dX9_init_18 (by decide) ?_
  refine mx_iast rfl (by unfold vp_in; decide) dX9_init_19 ?_
  refine mx_hp [ob 9 [.ref 1, .ref 3, .null, .null, .int 0, .null, .null, .null, .null, .null, .null, .null, .null], ob 8 [.ref 2], aI 128 ca_14, ob 2 [.ref 4, .int 0, .int 0], zI 768, ob 8 [.ref 6], aI 128 ca_15] rfl ?_
  refine mx_aload_n dX9_init_20 rfl 0 rfl ?_
  refine mx_get fl_X9_11 rfl rfl dX9_init_21 ?_
  refine mx_bipush 127 dX9_init_24 (by decide) ?_
  refine mx_iconst 1 dX9_init_26 (by decide) ?_
  refine mx_iast rfl (by unfold vp_in; decide) dX9_init_27 ?_
  refine mx_hp [ob 9 [.ref 1, .ref 3, .null, .null, .int 0, .null, .null, .null, .null, .null, .null, .null, .null], ob 8 [.ref 2], aI 128 ca_14, ob 2 [.ref 4, .int 0, .int 0], zI 768, ob 8 [.ref 6], aI 128 ca_16] rfl ?_
  refine mx_iconst 0 dX9_init_28 (by decide) ?_
  refine mx_istore_n [(1, .int 0), (0, .ref 5)] dX9_init_29 rfl (by decide) rfl ?_
  refine mx_iload_n dX9_init_30 rfl 0 rfl ?_
  refine mx_bipush 6 dX9_init_31 (by decide) ?_
  refine mx_icmp_ge 70 dX9_init_33 (by decide) (fun c => absurd c (by decide)) (fun _ => ?_)
  refine mx_aload_n dX9_init_36 rfl 1 rfl ?_
  refine mx_get fl_X9_11 rfl rfl dX9_init_37 ?_
  refine mx_iconst 1 dX9_init_40 (by decide) ?_
  refine mx_iload_n dX9_init_41 rfl 0 rfl ?_
  refine mx_iadd dX9_init_42 ?_
  refine mx_top 1 (by decide) ?_
  refine mx_iconst 3 dX9_init_43 (by decide) ?_
  refine mx_iast rfl (by unfold vp_in; decide) dX9_init_44 ?_
  refine mx_hp [ob 9 [.ref 1, .ref 3, .null, .null, .int 0, .null, .null, .null, .null, .null, .null, .null, .null], ob 8 [.ref 2], aI 128 ca_14, ob 2 [.ref 4, .int 0, .int 0], zI 768, ob 8 [.ref 6], aI 128 ca_17] rfl ?_
  refine mx_aload_n dX9_init_45 rfl 1 rfl ?_
  refine mx_get fl_X9_11 rfl rfl dX9_init_46 ?_
  refine mx_bipush 121 dX9_init_49 (by decide) ?_
  refine mx_iload_n dX9_init_51 rfl 0 rfl ?_
  refine mx_iadd dX9_init_52 ?_
  refine mx_top 121 (by decide) ?_
  refine mx_iload_n dX9_init_53 rfl 0 rfl ?_
  refine mx_if_ne 61 dX9_init_54 (by decide) (fun c => absurd c (by decide)) (fun _ => ?_)
  refine mx_iconst 0 dX9_init_57 (by decide) ?_
  refine mx_goto 63 dX9_init_58 (by decide) ?_
  refine mx_iast rfl (by unfold vp_in; decide) dX9_init_63 ?_
  refine mx_hp [ob 9 [.ref 1, .ref 3, .null, .null, .int 0, .null, .null, .null, .null, .null, .null, .null, .null], ob 8 [.ref 2], aI 128 ca_14, ob 2 [.ref 4, .int 0, .int 0], zI 768, ob 8 [.ref 6], aI 128 ca_18] rfl ?_
  refine mx_iinc 1 [(1, .int (0 + 1)), (0, .ref 5)] dX9_init_64 0 rfl (by decide) (by decide) rfl ?_
  refine mx_sub (loc' := [(1, .int 1), (0, .ref 5)]) [0, 1] rfl ?_
  refine mx_goto 30 dX9_init_67 (by decide) ?_
  refine mx_iload_n dX9_init_30 rfl 0 rfl ?_
  refine mx_bipush 6 dX9_init_31 (by decide) ?_
  refine mx_icmp_ge 70 dX9_init_33 (by decide) (fun c => absurd c (by decide)) (fun _ => ?_)
  refine mx_aload_n dX9_init_36 rfl 1 rfl ?_
  refine mx_get fl_X9_11 rfl rfl dX9_init_37 ?_
  refine mx_iconst 1 dX9_init_40 (by decide) ?_
  refine mx_iload_n dX9_init_41 rfl 0 rfl ?_
  refine mx_iadd dX9_init_42 ?_
  refine mx_top 2 (by decide) ?_
  refine mx_iconst 3 dX9_init_43 (by decide) ?_
  refine mx_iast rfl (by unfold vp_in; decide) dX9_init_44 ?_
  refine mx_hp [ob 9 [.ref 1, .ref 3, .null, .null, .int 0, .null, .null, .null, .null, .null, .null, .null, .null], ob 8 [.ref 2], aI 128 ca_14, ob 2 [.ref 4, .int 0, .int 0], zI 768, ob 8 [.ref 6], aI 128 ca_19] rfl ?_
  refine mx_aload_n dX9_init_45 rfl 1 rfl ?_
  refine mx_get fl_X9_11 rfl rfl dX9_init_46 ?_
  refine mx_bipush 121 dX9_init_49 (by decide) ?_
  refine mx_iload_n dX9_init_51 rfl 0 rfl ?_
  refine mx_iadd dX9_init_52 ?_
  refine mx_top 122 (by decide) ?_
  refine mx_iload_n dX9_init_53 rfl 0 rfl ?_
  refine mx_if_ne 61 dX9_init_54 (by decide) (fun _ => ?_) (fun c => absurd c (by decide))
  refine mx_bipush (-4) dX9_init_61 (by decide) ?_
  refine mx_iast rfl (by unfold vp_in; decide) dX9_init_63 ?_
  refine mx_hp [ob 9 [.ref 1, .ref 3, .null, .null, .int 0, .null, .null, .null, .null, .null, .null, .null, .null], ob 8 [.ref 2], aI 128 ca_14, ob 2 [.ref 4, .int 0, .int 0], zI 768, ob 8 [.ref 6], aI 128 ca_20] rfl ?_
  refine mx_iinc 1 [(1, .int (1 + 1)), (0, .ref 5)] dX9_init_64 0 rfl (by decide) (by decide) rfl ?_
  refine mx_sub (loc' := [(1, .int 2), (0, .ref 5)]) [0, 1] rfl ?_
  refine mx_goto 30 dX9_init_67 (by decide) ?_
  refine mx_iload_n dX9_init_30 rfl 0 rfl ?_
  refine mx_bipush 6 dX9_init_31 (by decide) ?_
  refine mx_icmp_ge 70 dX9_init_33 (by decide) (fun c => absurd c (by decide)) (fun _ => ?_)
  refine mx_aload_n dX9_init_36 rfl 1 rfl ?_
  refine mx_get fl_X9_11 rfl rfl dX9_init_37 ?_
  refine mx_iconst 1 dX9_init_40 (by decide) ?_
  refine mx_iload_n dX9_init_41 rfl 0 rfl ?_
  refine mx_iadd dX9_init_42 ?_
  refine mx_top 3 (by decide) ?_
  refine mx_iconst 3 dX9_init_43 (by decide) ?_
  refine mx_iast rfl (by unfold vp_in; decide) dX9_init_44 ?_
  refine mx_hp [ob 9 [.ref 1, .ref 3, .null, .null, .int 0, .null, .null, .null, .null, .null, .null, .null, .null], ob 8 [.ref 2], aI 128 ca_14, ob 2 [.ref 4, .int 0, .int 0], zI 768, ob 8 [.ref 6], aI 128 ca_21] rfl ?_
  refine mx_aload_n dX9_init_45 rfl 1 rfl ?_
  refine mx_get fl_X9_11 rfl rfl dX9_init_46 ?_
  refine mx_bipush 121 dX9_init_49 (by decide) ?_
  refine mx_iload_n dX9_init_51 rfl 0 rfl ?_
  refine mx_iadd dX9_init_52 ?_
  refine mx_top 123 (by decide) ?_
  refine mx_iload_n dX9_init_53 rfl 0 rfl ?_
  refine mx_if_ne 61 dX9_init_54 (by decide) (fun _ => ?_) (fun c => absurd c (by decide))
  refine mx_bipush (-4) dX9_init_61 (by decide) ?_
  refine mx_iast rfl (by unfold vp_in; decide) dX9_init_63 ?_
  refine mx_hp [ob 9 [.ref 1, .ref 3, .null, .null, .int 0, .null, .null, .null, .null, .null, .null, .null, .null], ob 8 [.ref 2], aI 128 ca_14, ob 2 [.ref 4, .int 0, .int 0], zI 768, ob 8 [.ref 6], aI 128 ca_22] rfl ?_
  refine mx_iinc 1 [(1, .int (2 + 1)), (0, .ref 5)] dX9_init_64 0 rfl (by decide) (by decide) rfl ?_
  refine mx_sub (loc' := [(1, .int 3), (0, .ref 5)]) [0, 1] rfl ?_
  refine mx_goto 30 dX9_init_67 (by decide) ?_
  refine mx_iload_n dX9_init_30 rfl 0 rfl ?_
  refine mx_bipush 6 dX9_init_31 (by decide) ?_
  refine mx_icmp_ge 70 dX9_init_33 (by decide) (fun c => absurd c (by decide)) (fun _ => ?_)
  refine mx_aload_n dX9_init_36 rfl 1 rfl ?_
  refine mx_get fl_X9_11 rfl rfl dX9_init_37 ?_
  refine mx_iconst 1 dX9_init_40 (by decide) ?_
  refine mx_iload_n dX9_init_41 rfl 0 rfl ?_
  refine mx_iadd dX9_init_42 ?_
  refine mx_top 4 (by decide) ?_
  refine mx_iconst 3 dX9_init_43 (by decide) ?_
  refine mx_iast rfl (by unfold vp_in; decide) dX9_init_44 ?_
  refine mx_hp [ob 9 [.ref 1, .ref 3, .null, .null, .int 0, .null, .null, .null, .null, .null, .null, .null, .null], ob 8 [.ref 2], aI 128 ca_14, ob 2 [.ref 4, .int 0, .int 0], zI 768, ob 8 [.ref 6], aI 128 ca_23] rfl ?_
  refine mx_aload_n dX9_init_45 rfl 1 rfl ?_
  refine mx_get fl_X9_11 rfl rfl dX9_init_46 ?_
  refine mx_bipush 121 dX9_init_49 (by decide) ?_
  refine mx_iload_n dX9_init_51 rfl 0 rfl ?_
  refine mx_iadd dX9_init_52 ?_
  refine mx_top 124 (by decide) ?_
  refine mx_iload_n dX9_init_53 rfl 0 rfl ?_
  refine mx_if_ne 61 dX9_init_54 (by decide) (fun _ => ?_) (fun c => absurd c (by decide))
  refine mx_bipush (-4) dX9_init_61 (by decide) ?_
  refine mx_iast rfl (by unfold vp_in; decide) dX9_init_63 ?_
  refine mx_hp [ob 9 [.ref 1, .ref 3, .null, .null, .int 0, .null, .null, .null, .null, .null, .null, .null, .null], ob 8 [.ref 2], aI 128 ca_14, ob 2 [.ref 4, .int 0, .int 0], zI 768, ob 8 [.ref 6], aI 128 ca_24] rfl ?_
  refine mx_iinc 1 [(1, .int (3 + 1)), (0, .ref 5)] dX9_init_64 0 rfl (by decide) (by decide) rfl ?_
  refine mx_sub (loc' := [(1, .int 4), (0, .ref 5)]) [0, 1] rfl ?_
  refine mx_goto 30 dX9_init_67 (by decide) ?_
  refine mx_iload_n dX9_init_30 rfl 0 rfl ?_
  refine mx_bipush 6 dX9_init_31 (by decide) ?_
  refine mx_icmp_ge 70 dX9_init_33 (by decide) (fun c => absurd c (by decide)) (fun _ => ?_)
  refine mx_aload_n dX9_init_36 rfl 1 rfl ?_
  refine mx_get fl_X9_11 rfl rfl dX9_init_37 ?_
  refine mx_iconst 1 dX9_init_40 (by decide) ?_
  refine mx_iload_n dX9_init_41 rfl 0 rfl ?_
  refine mx_iadd dX9_init_42 ?_
  refine mx_top 5 (by decide) ?_
  refine mx_iconst 3 dX9_init_43 (by decide) ?_
  refine mx_iast rfl (by unfold vp_in; decide) dX9_init_44 ?_
  refine mx_hp [ob 9 [.ref 1, .ref 3, .null, .null, .int 0, .null, .null, .null, .null, .null, .null, .null, .null], ob 8 [.ref 2], aI 128 ca_14, ob 2 [.ref 4, .int 0, .int 0], zI 768, ob 8 [.ref 6], aI 128 ca_25] rfl ?_
  refine mx_aload_n dX9_init_45 rfl 1 rfl ?_
  refine mx_get fl_X9_11 rfl rfl dX9_init_46 ?_
  refine mx_bipush 121 dX9_init_49 (by decide) ?_
  refine mx_iload_n dX9_init_51 rfl 0 rfl ?_
  refine mx_iadd dX9_init_52 ?_
  refine mx_top 125 (by decide) ?_
  refine mx_iload_n dX9_init_53 rfl 0 rfl ?_
  refine mx_if_ne 61 dX9_init_54 (by decide) (fun _ => ?_) (fun c => absurd c (by decide))
  refine mx_bipush (-4) dX9_init_61 (by decide) ?_
  refine mx_iast rfl (by unfold vp_in; decide) dX9_init_63 ?_
  refine mx_hp [ob 9 [.ref 1, .ref 3, .null, .null, .int 0, .null, .null, .null, .null, .null, .null, .null, .null], ob 8 [.ref 2], aI 128 ca_14, ob 2 [.ref 4, .int 0, .int 0], zI 768, ob 8 [.ref 6], aI 128 ca_26] rfl ?_
  refine mx_iinc 1 [(1, .int (4 + 1)), (0, .ref 5)] dX9_init_64 0 rfl (by decide) (by decide) rfl ?_
  refine mx_sub (loc' := [(1, .int 5), (0, .ref 5)]) [0, 1] rfl ?_
  refine mx_goto 30 dX9_init_67 (by decide) ?_
  refine mx_iload_n dX9_init_30 rfl 0 rfl ?_
  refine mx_bipush 6 dX9_init_31 (by decide) ?_
  refine mx_icmp_ge 70 dX9_init_33 (by decide) (fun c => absurd c (by decide)) (fun _ => ?_)
  refine mx_aload_n dX9_init_36 rfl 1 rfl ?_
  refine mx_get fl_X9_11 rfl rfl dX9_init_37 ?_
  refine mx_iconst 1 dX9_init_40 (by decide) ?_
  refine mx_iload_n dX9_init_41 rfl 0 rfl ?_
  refine mx_iadd dX9_init_42 ?_
  refine mx_top 6 (by decide) ?_
  refine mx_iconst 3 dX9_init_43 (by decide) ?_
  refine mx_iast rfl (by unfold vp_in; decide) dX9_init_44 ?_
  refine mx_hp [ob 9 [.ref 1, .ref 3, .null, .null, .int 0, .null, .null, .null, .null, .null, .null, .null, .null], ob 8 [.ref 2], aI 128 ca_14, ob 2 [.ref 4, .int 0, .int 0], zI 768, ob 8 [.ref 6], aI 128 ca_27] rfl ?_
  refine mx_aload_n dX9_init_45 rfl 1 rfl ?_
  refine mx_get fl_X9_11 rfl rfl dX9_init_46 ?_
  refine mx_bipush 121 dX9_init_49 (by decide) ?_
  refine mx_iload_n dX9_init_51 rfl 0 rfl ?_
  refine mx_iadd dX9_init_52 ?_
  refine mx_top 126 (by decide) ?_
  refine mx_iload_n dX9_init_53 rfl 0 rfl ?_
  refine mx_if_ne 61 dX9_init_54 (by decide) (fun _ => ?_) (fun c => absurd c (by decide))
  refine mx_bipush (-4) dX9_init_61 (by decide) ?_
  refine mx_iast rfl (by unfold vp_in; decide) dX9_init_63 ?_
  refine mx_hp [ob 9 [.ref 1, .ref 3, .null, .null, .int 0, .null, .null, .null, .null, .null, .null, .null, .null], ob 8 [.ref 2], aI 128 ca_14, ob 2 [.ref 4, .int 0, .int 0], zI 768, ob 8 [.ref 6], aI 128 ca_28] rfl ?_
  refine mx_iinc 1 [(1, .int (5 + 1)), (0, .ref 5)] dX9_init_64 0 rfl (by decide) (by decide) rfl ?_
  refine mx_sub (loc' := [(1, .int 6), (0, .ref 5)]) [0, 1] rfl ?_
  refine mx_goto 30 dX9_init_67 (by decide) ?_
  refine mx_iload_n dX9_init_30 rfl 0 rfl ?_
  refine mx_bipush 6 dX9_init_31 (by decide) ?_
  refine mx_icmp_ge 70 dX9_init_33 (by decide) (fun _ => ?_) (fun c => absurd c (by decide))
  exact mx_vret (Nat.le_of_ble_eq_true rfl) (Nat.le_of_ble_eq_true rfl) dX9_init_70
set_option maxRecDepth 100000 in
set_option maxHeartbeats 4000000 in
theorem nX3_init_7 (l : Launch) : mx_M l yX3_init cX3_init 1 none 1 [.ref 7] [ob 9 [.ref 1, .ref 3, .ref 5, .null, .int 0, .null, .null, .null, .null, .null, .null, .null, .null], ob 8 [.ref 2], aI 128 ca_14, ob 2 [.ref 4, .int 0, .int 0], zI 768, ob 8 [.ref 6], aI 128 ca_28, ob 2 [.null, .int 0, .int 0]] none [ob 9 [.ref 1, .ref 3, .ref 5, .null, .int 0, .null, .null, .null, .null, .null, .null, .null, .null], ob 8 [.ref 2], aI 128 ca_14, ob 2 [.ref 4, .int 0, .int 0], zI 768, ob 8 [.ref 6], aI 128 ca_28, ob 2 [.ref 8, .int 0, .int 0], zI 768] 1 768 := by
  refine mx_intro (own := RX3) (nm := "<init>") rfl (Nat.le_of_ble_eq_true rfl) rfl rfl ?_
  refine mx_sub (loc' := [(0, .ref 7)]) [0] rfl ?_
  refine mx_aload_n dX3_init_0 rfl 0 rfl ?_
  refine mx_objInit cl_X3_1 ol_1 ol_2 ⟨Nat.le_of_ble_eq_true rfl, Nat.le_of_ble_eq_true rfl⟩ (Nat.le_of_ble_eq_true rfl) dX3_init_1 ?_
  refine mx_aload_n dX3_init_4 rfl 0 rfl ?_
  refine mx_sipush 768 dX3_init_5 (by decide) ?_
  refine mx_newarr (N := 768) (a0 := (768, .inl fun _ => 0)) 0 al_int rfl (fun _ => rfl) (fun _ => rfl) (by decide) (by decide) (by decide) ⟨Nat.le_of_ble_eq_true rfl, Nat.le_of_ble_eq_true rfl⟩ (Nat.le_of_ble_eq_true rfl) rfl rfl rfl dX3_init_8 ?_
  refine mx_hp [ob 9 [.ref 1, .ref 3, .ref 5, .null, .int 0, .null, .null, .null, .null, .null, .null, .null, .null], ob 8 [.ref 2], aI 128 ca_14, ob 2 [.ref 4, .int 0, .int 0], zI 768, ob 8 [.ref 6], aI 128 ca_28, ob 2 [.null, .int 0, .int 0], zI 768] rfl ?_
  refine mx_putF rfl fl_X3_11 rfl (by decide) (fun _ => rfl) (fun _ => rfl) dX3_init_10 ?_
  refine mx_hp [ob 9 [.ref 1, .ref 3, .ref 5, .null, .int 0, .null, .null, .null, .null, .null, .null, .null, .null], ob 8 [.ref 2], aI 128 ca_14, ob 2 [.ref 4, .int 0, .int 0], zI 768, ob 8 [.ref 6], aI 128 ca_28, ob 2 [.ref 8, .int 0, .int 0], zI 768] rfl ?_
  refine mx_aload_n dX3_init_13 rfl 0 rfl ?_
  refine mx_iconst 0 dX3_init_14 (by decide) ?_
  refine mx_put fl_X3_15 rfl (by decide) (fun _ => rfl) (fun _ => rfl) dX3_init_15 ?_
  refine mx_hp [ob 9 [.ref 1, .ref 3, .ref 5, .null, .int 0, .null, .null, .null, .null, .null, .null, .null, .null], ob 8 [.ref 2], aI 128 ca_14, ob 2 [.ref 4, .int 0, .int 0], zI 768, ob 8 [.ref 6], aI 128 ca_28, ob 2 [.ref 8, .int 0, .int 0], zI 768] rfl ?_
  refine mx_aload_n dX3_init_18 rfl 0 rfl ?_
  refine mx_iconst 0 dX3_init_19 (by decide) ?_
  refine mx_put fl_X3_19 rfl (by decide) (fun _ => rfl) (fun _ => rfl) dX3_init_20 ?_
  refine mx_hp [ob 9 [.ref 1, .ref 3, .ref 5, .null, .int 0, .null, .null, .null, .null, .null, .null, .null, .null], ob 8 [.ref 2], aI 128 ca_14, ob 2 [.ref 4, .int 0, .int 0], zI 768, ob 8 [.ref 6], aI 128 ca_28, ob 2 [.ref 8, .int 0, .int 0], zI 768] rfl ?_
  exact mx_vret (Nat.le_of_ble_eq_true rfl) (Nat.le_of_ble_eq_true rfl) dX3_init_23
set_option maxRecDepth 100000 in
set_option maxHeartbeats 4000000 in
theorem nX0_init_9 (l : Launch) : mx_M l yX0_init cX0_init 1 none 1 [.ref 9] [ob 9 [.ref 1, .ref 3, .ref 5, .ref 7, .int 0, .null, .null, .null, .null, .null, .null, .null, .null], ob 8 [.ref 2], aI 128 ca_14, ob 2 [.ref 4, .int 0, .int 0], zI 768, ob 8 [.ref 6], aI 128 ca_28, ob 2 [.ref 8, .int 0, .int 0], zI 768, ob 0 [.null, .null, .null, .null, .null]] none [ob 9 [.ref 1, .ref 3, .ref 5, .ref 7, .int 0, .null, .null, .null, .null, .null, .null, .null, .null], ob 8 [.ref 2], aI 128 ca_14, ob 2 [.ref 4, .int 0, .int 0], zI 768, ob 8 [.ref 6], aI 128 ca_28, ob 2 [.ref 8, .int 0, .int 0], zI 768, ob 0 [.ref 10, .ref 11, .ref 12, .ref 13, .ref 14], zI 6, zI 6, zI 6, zI 6, zI 6] 5 30 := by
  refine mx_intro (own := RX0) (nm := "<init>") rfl (Nat.le_of_ble_eq_true rfl) rfl rfl ?_
  refine mx_sub (loc' := [(0, .ref 9)]) [0] rfl ?_
  refine mx_aload_n dX0_init_0 rfl 0 rfl ?_
  refine mx_objInit cl_X0_3 ol_1 ol_2 ⟨Nat.le_of_ble_eq_true rfl, Nat.le_of_ble_eq_true rfl⟩ (Nat.le_of_ble_eq_true rfl) dX0_init_1 ?_
  refine mx_aload_n dX0_init_4 rfl 0 rfl ?_
  refine mx_bipush 6 dX0_init_5 (by decide) ?_
  refine mx_newarr (N := 6) (a0 := (6, .inl fun _ => 0)) 0 al_int rfl (fun _ => rfl) (fun _ => rfl) (by decide) (by decide) (by decide) ⟨Nat.le_of_ble_eq_true rfl, Nat.le_of_ble_eq_true rfl⟩ (Nat.le_of_ble_eq_true rfl) rfl rfl rfl dX0_init_7 ?_
  refine mx_hp [ob 9 [.ref 1, .ref 3, .ref 5, .ref 7, .int 0, .null, .null, .null, .null, .null, .null, .null, .null], ob 8 [.ref 2], aI 128 ca_14, ob 2 [.ref 4, .int 0, .int 0], zI 768, ob 8 [.ref 6], aI 128 ca_28, ob 2 [.ref 8, .int 0, .int 0], zI 768, ob 0 [.null, .null, .null, .null, .null], zI 6] rfl ?_
  refine mx_putF rfl fl_X0_9 rfl (by decide) (fun _ => rfl) (fun _ => rfl) dX0_init_9 ?_
  refine mx_hp [ob 9 [.ref 1, .ref 3, .ref 5, .ref 7, .int 0, .null, .null, .null, .null, .null, .null, .null, .null], ob 8 [.ref 2], aI 128 ca_14, ob 2 [.ref 4, .int 0, .int 0], zI 768, ob 8 [.ref 6], aI 128 ca_28, ob 2 [.ref 8, .int 0, .int 0], zI 768, ob 0 [.ref 10, .null, .null, .null, .null], zI 6] rfl ?_
  refine mx_aload_n dX0_init_12 rfl 0 rfl ?_
  refine mx_bipush 6 dX0_init_13 (by decide) ?_
  refine mx_newarr (N := 6) (a0 := (6, .inl fun _ => 0)) 0 al_int rfl (fun _ => rfl) (fun _ => rfl) (by decide) (by decide) (by decide) ⟨Nat.le_of_ble_eq_true rfl, Nat.le_of_ble_eq_true rfl⟩ (Nat.le_of_ble_eq_true rfl) rfl rfl rfl dX0_init_15 ?_
  refine mx_hp [ob 9 [.ref 1, .ref 3, .ref 5, .ref 7, .int 0, .null, .null, .null, .null, .null, .null, .null, .null], ob 8 [.ref 2], aI 128 ca_14, ob 2 [.ref 4, .int 0, .int 0], zI 768, ob 8 [.ref 6], aI 128 ca_28, ob 2 [.ref 8, .int 0, .int 0], zI 768, ob 0 [.ref 10, .null, .null, .null, .null], zI 6, zI 6] rfl ?_
  refine mx_putF rfl fl_X0_15 rfl (by decide) (fun _ => rfl) (fun _ => rfl) dX0_init_17 ?_
  refine mx_hp [ob 9 [.ref 1, .ref 3, .ref 5, .ref 7, .int 0, .null, .null, .null, .null, .null, .null, .null, .null], ob 8 [.ref 2], aI 128 ca_14, ob 2 [.ref 4, .int 0, .int 0], zI 768, ob 8 [.ref 6], aI 128 ca_28, ob 2 [.ref 8, .int 0, .int 0], zI 768, ob 0 [.ref 10, .ref 11, .null, .null, .null], zI 6, zI 6] rfl ?_
  refine mx_aload_n dX0_init_20 rfl 0 rfl ?_
  refine mx_bipush 6 dX0_init_21 (by decide) ?_
  refine mx_newarr (N := 6) (a0 := (6, .inl fun _ => 0)) 0 al_int rfl (fun _ => rfl) (fun _ => rfl) (by decide) (by decide) (by decide) ⟨Nat.le_of_ble_eq_true rfl, Nat.le_of_ble_eq_true rfl⟩ (Nat.le_of_ble_eq_true rfl) rfl rfl rfl dX0_init_23 ?_
  refine mx_hp [ob 9 [.ref 1, .ref 3, .ref 5, .ref 7, .int 0, .null, .null, .null, .null, .null, .null, .null, .null], ob 8 [.ref 2], aI 128 ca_14, ob 2 [.ref 4, .int 0, .int 0], zI 768, ob 8 [.ref 6], aI 128 ca_28, ob 2 [.ref 8, .int 0, .int 0], zI 768, ob 0 [.ref 10, .ref 11, .null, .null, .null], zI 6, zI 6, zI 6] rfl ?_
  refine mx_putF rfl fl_X0_18 rfl (by decide) (fun _ => rfl) (fun _ => rfl) dX0_init_25 ?_
  refine mx_hp [ob 9 [.ref 1, .ref 3, .ref 5, .ref 7, .int 0, .null, .null, .null, .null, .null, .null, .null, .null], ob 8 [.ref 2], aI 128 ca_14, ob 2 [.ref 4, .int 0, .int 0], zI 768, ob 8 [.ref 6], aI 128 ca_28, ob 2 [.ref 8, .int 0, .int 0], zI 768, ob 0 [.ref 10, .ref 11, .ref 12, .null, .null], zI 6, zI 6, zI 6] rfl ?_
  refine mx_aload_n dX0_init_28 rfl 0 rfl ?_
  refine mx_bipush 6 dX0_init_29 (by decide) ?_
  refine mx_newarr (N := 6) (a0 := (6, .inl fun _ => 0)) 0 al_int rfl (fun _ => rfl) (fun _ => rfl) (by decide) (by decide) (by decide) ⟨Nat.le_of_ble_eq_true rfl, Nat.le_of_ble_eq_true rfl⟩ (Nat.le_of_ble_eq_true rfl) rfl rfl rfl dX0_init_31 ?_
  refine mx_hp [ob 9 [.ref 1, .ref 3, .ref 5, .ref 7, .int 0, .null, .null, .null, .null, .null, .null, .null, .null], ob 8 [.ref 2], aI 128 ca_14, ob 2 [.ref 4, .int 0, .int 0], zI 768, ob 8 [.ref 6], aI 128 ca_28, ob 2 [.ref 8, .int 0, .int 0], zI 768, ob 0 [.ref 10, .ref 11, .ref 12, .null, .null], zI 6, zI 6, zI 6, zI 6] rfl ?_
  refine mx_putF rfl fl_X0_21 rfl (by decide) (fun _ => rfl) (fun _ => rfl) dX0_init_33 ?_
  refine mx_hp [ob 9 [.ref 1, .ref 3, .ref 5, .ref 7, .int 0, .null, .null, .null, .null, .null, .null, .null, .null], ob 8 [.ref 2], aI 128 ca_14, ob 2 [.ref 4, .int 0, .int 0], zI 768, ob 8 [.ref 6], aI 128 ca_28, ob 2 [.ref 8, .int 0, .int 0], zI 768, ob 0 [.ref 10, .ref 11, .ref 12, .ref 13, .null], zI 6, zI 6, zI 6, zI 6] rfl ?_
  refine mx_aload_n dX0_init_36 rfl 0 rfl ?_
  refine mx_bipush 6 dX0_init_37 (by decide) ?_
  refine mx_newarr (N := 6) (a0 := (6, .inl fun _ => 0)) 0 al_int rfl (fun _ => rfl) (fun _ => rfl) (by decide) (by decide) (by decide) ⟨Nat.le_of_ble_eq_true rfl, Nat.le_of_ble_eq_true rfl⟩ (Nat.le_of_ble_eq_true rfl) rfl rfl rfl dX0_init_39 ?_
  refine mx_hp [ob 9 [.ref 1, .ref 3, .ref 5, .ref 7, .int 0, .null, .null, .null, .null, .null, .null, .null, .null], ob 8 [.ref 2], aI 128 ca_14, ob 2 [.ref 4, .int 0, .int 0], zI 768, ob 8 [.ref 6], aI 128 ca_28, ob 2 [.ref 8, .int 0, .int 0], zI 768, ob 0 [.ref 10, .ref 11, .ref 12, .ref 13, .null], zI 6, zI 6, zI 6, zI 6, zI 6] rfl ?_
  refine mx_putF rfl fl_X0_24 rfl (by decide) (fun _ => rfl) (fun _ => rfl) dX0_init_41 ?_
  refine mx_hp [ob 9 [.ref 1, .ref 3, .ref 5, .ref 7, .int 0, .null, .null, .null, .null, .null, .null, .null, .null], ob 8 [.ref 2], aI 128 ca_14, ob 2 [.ref 4, .int 0, .int 0], zI 768, ob 8 [.ref 6], aI 128 ca_28, ob 2 [.ref 8, .int 0, .int 0], zI 768, ob 0 [.ref 10, .ref 11, .ref 12, .ref 13, .ref 14], zI 6, zI 6, zI 6, zI 6, zI 6] rfl ?_
  exact mx_vret (Nat.le_of_ble_eq_true rfl) (Nat.le_of_ble_eq_true rfl) dX0_init_44
set_option maxRecDepth 100000 in
set_option maxHeartbeats 4000000 in
theorem nX8_init_15 (l : Launch) : mx_M l yX8_init cX8_init 1 none 1 [.ref 15] [ob 9 [.ref 1, .ref 3, .ref 5, .ref 7, .int 0, .ref 9, .null, .null, .null, .null, .null, .null, .null], ob 8 [.ref 2], aI 128 ca_14, ob 2 [.ref 4, .int 0, .int 0], zI 768, ob 8 [.ref 6], aI 128 ca_28, ob 2 [.ref 8, .int 0, .int 0], zI 768, ob 0 [.ref 10, .ref 11, .ref 12, .ref 13, .ref 14], zI 6, zI 6, zI 6, zI 6, zI 6, ob 7 [.null, .int 0, .int 0, .null, .null, .null, .null, .null, .null, .null, .null]] none [ob 9 [.ref 1, .ref 3, .ref 5, .ref 7, .int 0, .ref 9, .null, .null, .null, .null, .null, .null, .null], ob 8 [.ref 2], aI 128 ca_14, ob 2 [.ref 4, .int 0, .int 0], zI 768, ob 8 [.ref 6], aI 128 ca_28, ob 2 [.ref 8, .int 0, .int 0], zI 768, ob 0 [.ref 10, .ref 11, .ref 12, .ref 13, .ref 14], zI 6, zI 6, zI 6, zI 6, zI 6, ob 7 [.ref 16, .int 0, .int 0, .ref 17, .ref 18, .ref 19, .ref 20, .ref 21, .ref 22, .ref 23, .ref 24], zI 121, zI 326, zI 326, zI 326, zI 326, zI 326, zI 326, zI 6, zI 390] 9 2473 := by
  refine mx_intro (own := RX8) (nm := "<init>") rfl (Nat.le_of_ble_eq_true rfl) rfl rfl ?_
  refine mx_sub (loc' := [(0, .ref 15)]) [0] rfl ?_
  refine mx_aload_n dX8_init_0 rfl 0 rfl ?_
  refine mx_objInit cl_X8_5 ol_1 ol_2 ⟨Nat.le_of_ble_eq_true rfl, Nat.le_of_ble_eq_true rfl⟩ (Nat.le_of_ble_eq_true rfl) dX8_init_1 ?_
  refine mx_aload_n dX8_init_4 rfl 0 rfl ?_
  refine mx_bipush 121 dX8_init_5 (by decide) ?_
  refine mx_newarr (N := 121) (a0 := (121, .inl fun _ => 0)) 0 al_int rfl (fun _ => rfl) (fun _ => rfl) (by decide) (by decide) (by decide) ⟨Nat.le_of_ble_eq_true rfl, Nat.le_of_ble_eq_true rfl⟩ (Nat.le_of_ble_eq_true rfl) rfl rfl rfl dX8_init_7 ?_
  refine mx_hp [ob 9 [.ref 1, .ref 3, .ref 5, .ref 7, .int 0, .ref 9, .null, .null, .null, .null, .null, .null, .null], ob 8 [.ref 2], aI 128 ca_14, ob 2 [.ref 4, .int 0, .int 0], zI 768, ob 8 [.ref 6], aI 128 ca_28, ob 2 [.ref 8, .int 0, .int 0], zI 768, ob 0 [.ref 10, .ref 11, .ref 12, .ref 13, .ref 14], zI 6, zI 6, zI 6, zI 6, zI 6, ob 7 [.null, .int 0, .int 0, .null, .null, .null, .null, .null, .null, .null, .null], zI 121] rfl ?_
  refine mx_putF rfl fl_X8_13 rfl (by decide) (fun _ => rfl) (fun _ => rfl) dX8_init_9 ?_
  refine mx_hp [ob 9 [.ref 1, .ref 3, .ref 5, .ref 7, .int 0, .ref 9, .null, .null, .null, .null, .null, .null, .null], ob 8 [.ref 2], aI 128 ca_14, ob 2 [.ref 4, .int 0, .int 0], zI 768, ob 8 [.ref 6], aI 128 ca_28, ob 2 [.ref 8, .int 0, .int 0], zI 768, ob 0 [.ref 10, .ref 11, .ref 12, .ref 13, .ref 14], zI 6, zI 6, zI 6, zI 6, zI 6, ob 7 [.ref 16, .int 0, .int 0, .null, .null, .null, .null, .null, .null, .null, .null], zI 121] rfl ?_
  refine mx_aload_n dX8_init_12 rfl 0 rfl ?_
  refine mx_iconst 0 dX8_init_13 (by decide) ?_
  refine mx_put fl_X8_17 rfl (by decide) (fun _ => rfl) (fun _ => rfl) dX8_init_14 ?_
  refine mx_hp [ob 9 [.ref 1, .ref 3, .ref 5, .ref 7, .int 0, .ref 9, .null, .null, .null, .null, .null, .null, .null], ob 8 [.ref 2], aI 128 ca_14, ob 2 [.ref 4, .int 0, .int 0], zI 768, ob 8 [.ref 6], aI 128 ca_28, ob 2 [.ref 8, .int 0, .int 0], zI 768, ob 0 [.ref 10, .ref 11, .ref 12, .ref 13, .ref 14], zI 6, zI 6, zI 6, zI 6, zI 6, ob 7 [.ref 16, .int 0, .int 0, .null, .null, .null, .null, .null, .null, .null, .null], zI 121] rfl ?_
  refine mx_aload_n dX8_init_17 rfl 0 rfl ?_
  refine mx_iconst 0 dX8_init_18 (by decide) ?_
  refine mx_put fl_X8_21 rfl (by decide) (fun _ => rfl) (fun _ => rfl) dX8_init_19 ?_
  refine mx_hp [ob 9 [.ref 1, .ref 3, .ref 5, .ref 7, .int 0, .ref 9, .null, .null, .null, .null, .null, .null, .null], ob 8 [.ref 2], aI 128 ca_14, ob 2 [.ref 4, .int 0, .int 0], zI 768, ob 8 [.ref 6], aI 128 ca_28, ob 2 [.ref 8, .int 0, .int 0], zI 768, ob 0 [.ref 10, .ref 11, .ref 12, .ref 13, .ref 14], zI 6, zI 6, zI 6, zI 6, zI 6, ob 7 [.ref 16, .int 0, .int 0, .null, .null, .null, .null, .null, .null, .null, .null], zI 121] rfl ?_
  refine mx_aload_n dX8_init_22 rfl 0 rfl ?_
  refine mx_sipush 326 dX8_init_23 (by decide) ?_
  refine mx_newarr (N := 326) (a0 := (326, .inl fun _ => 0)) 0 al_int rfl (fun _ => rfl) (fun _ => rfl) (by decide) (by decide) (by decide) ⟨Nat.le_of_ble_eq_true rfl, Nat.le_of_ble_eq_true rfl⟩ (Nat.le_of_ble_eq_true rfl) rfl rfl rfl dX8_init_26 ?_
  refine mx_hp [ob 9 [.ref 1, .ref 3, .ref 5, .ref 7, .int 0, .ref 9, .null, .null, .null, .null, .null, .null, .null], ob 8 [.ref 2], aI 128 ca_14, ob 2 [.ref 4, .int 0, .int 0], zI 768, ob 8 [.ref 6], aI 128 ca_28, ob 2 [.ref 8, .int 0, .int 0], zI 768, ob 0 [.ref 10, .ref 11, .ref 12, .ref 13, .ref 14], zI 6, zI 6, zI 6, zI 6, zI 6, ob 7 [.ref 16, .int 0, .int 0, .null, .null, .null, .null, .null, .null, .null, .null], zI 121, zI 326] rfl ?_
  refine mx_putF rfl fl_X8_24 rfl (by decide) (fun _ => rfl) (fun _ => rfl) dX8_init_28 ?_
  refine mx_hp [ob 9 [.ref 1, .ref 3, .ref 5, .ref 7, .int 0, .ref 9, .null, .null, .null, .null, .null, .null, .null], ob 8 [.ref 2], aI 128 ca_14, ob 2 [.ref 4, .int 0, .int 0], zI 768, ob 8 [.ref 6], aI 128 ca_28, ob 2 [.ref 8, .int 0, .int 0], zI 768, ob 0 [.ref 10, .ref 11, .ref 12, .ref 13, .ref 14], zI 6, zI 6, zI 6, zI 6, zI 6, ob 7 [.ref 16, .int 0, .int 0, .ref 17, .null, .null, .null, .null, .null, .null, .null], zI 121, zI 326] rfl ?_
  refine mx_aload_n dX8_init_31 rfl 0 rfl ?_
  refine mx_sipush 326 dX8_init_32 (by decide) ?_
  refine mx_newarr (N := 326) (a0 := (326, .inl fun _ => 0)) 0 al_int rfl (fun _ => rfl) (fun _ => rfl) (by decide) (by decide) (by decide) ⟨Nat.le_of_ble_eq_true rfl, Nat.le_of_ble_eq_true rfl⟩ (Nat.le_of_ble_eq_true rfl) rfl rfl rfl dX8_init_35 ?_
  refine mx_hp [ob 9 [.ref 1, .ref 3, .ref 5, .ref 7, .int 0, .ref 9, .null, .null, .null, .null, .null, .null, .null], ob 8 [.ref 2], aI 128 ca_14, ob 2 [.ref 4, .int 0, .int 0], zI 768, ob 8 [.ref 6], aI 128 ca_28, ob 2 [.ref 8, .int 0, .int 0], zI 768, ob 0 [.ref 10, .ref 11, .ref 12, .ref 13, .ref 14], zI 6, zI 6, zI 6, zI 6, zI 6, ob 7 [.ref 16, .int 0, .int 0, .ref 17, .null, .null, .null, .null, .null, .null, .null], zI 121, zI 326, zI 326] rfl ?_
  refine mx_putF rfl fl_X8_27 rfl (by decide) (fun _ => rfl) (fun _ => rfl) dX8_init_37 ?_
  refine mx_hp [ob 9 [.ref 1, .ref 3, .ref 5, .ref 7, .int 0, .ref 9, .null, .null, .null, .null, .null, .null, .null], ob 8 [.ref 2], aI 128 ca_14, ob 2 [.ref 4, .int 0, .int 0], zI 768, ob 8 [.ref 6], aI 128 ca_28, ob 2 [.ref 8, .int 0, .int 0], zI 768, ob 0 [.ref 10, .ref 11, .ref 12, .ref 13, .ref 14], zI 6, zI 6, zI 6, zI 6, zI 6, ob 7 [.ref 16, .int 0, .int 0, .ref 17, .ref 18, .null, .null, .null, .null, .null, .null], zI 121, zI 326, zI 326] rfl ?_
  refine mx_aload_n dX8_init_40 rfl 0 rfl ?_
  refine mx_sipush 326 dX8_init_41 (by decide) ?_
  refine mx_newarr (N := 326) (a0 := (326, .inl fun _ => 0)) 0 al_int rfl (fun _ => rfl) (fun _ => rfl) (by decide) (by decide) (by decide) ⟨Nat.le_of_ble_eq_true rfl, Nat.le_of_ble_eq_true rfl⟩ (Nat.le_of_ble_eq_true rfl) rfl rfl rfl dX8_init_44 ?_
  refine mx_hp [ob 9 [.ref 1, .ref 3, .ref 5, .ref 7, .int 0, .ref 9, .null, .null, .null, .null, .null, .null, .null], ob 8 [.ref 2], aI 128 ca_14, ob 2 [.ref 4, .int 0, .int 0], zI 768, ob 8 [.ref 6], aI 128 ca_28, ob 2 [.ref 8, .int 0, .int 0], zI 768, ob 0 [.ref 10, .ref 11, .ref 12, .ref 13, .ref 14], zI 6, zI 6, zI 6, zI 6, zI 6, ob 7 [.ref 16, .int 0, .int 0, .ref 17, .ref 18, .null, .null, .null, .null, .null, .null], zI 121, zI 326, zI 326, zI 326] rfl ?_
  refine mx_putF rfl fl_X8_30 rfl (by decide) (fun _ => rfl) (fun _ => rfl) dX8_init_46 ?_
  refine mx_hp [ob 9 [.ref 1, .ref 3, .ref 5, .ref 7, .int 0, .ref 9, .null, .null, .null, .null, .null, .null, .null], ob 8 [.ref 2], aI 128 ca_14, ob 2 [.ref 4, .int 0, .int 0], zI 768, ob 8 [.ref 6], aI 128 ca_28, ob 2 [.ref 8, .int 0, .int 0], zI 768, ob 0 [.ref 10, .ref 11, .ref 12, .ref 13, .ref 14], zI 6, zI 6, zI 6, zI 6, zI 6, ob 7 [.ref 16, .int 0, .int 0, .ref 17, .ref 18, .ref 19, .null, .null, .null, .null, .null], zI 121, zI 326, zI 326, zI 326] rfl ?_
  refine mx_aload_n dX8_init_49 rfl 0 rfl ?_
  refine mx_sipush 326 dX8_init_50 (by decide) ?_
  refine mx_newarr (N := 326) (a0 := (326, .inl fun _ => 0)) 0 al_int rfl (fun _ => rfl) (fun _ => rfl) (by decide) (by decide) (by decide) ⟨Nat.le_of_ble_eq_true rfl, Nat.le_of_ble_eq_true rfl⟩ (Nat.le_of_ble_eq_true rfl) rfl rfl rfl dX8_init_53 ?_
  refine mx_hp [ob 9 [.ref 1, .ref 3, .ref 5, .ref 7, .int 0, .ref 9, .null, .null, .null, .null, .null, .null, .null], ob 8 [.ref 2], aI 128 ca_14, ob 2 [.ref 4, .int 0, .int 0], zI 768, ob 8 [.ref 6], aI 128 ca_28, ob 2 [.ref 8, .int 0, .int 0], zI 768, ob 0 [.ref 10, .ref 11, .ref 12, .ref 13, .ref 14], zI 6, zI 6, zI 6, zI 6, zI 6, ob 7 [.ref 16, .int 0, .int 0, .ref 17, .ref 18, .ref 19, .null, .null, .null, .null, .null], zI 121, zI 326, zI 326, zI 326, zI 326] rfl ?_
  refine mx_putF rfl fl_X8_33 rfl (by decide) (fun _ => rfl) (fun _ => rfl) dX8_init_55 ?_
  refine mx_hp [ob 9 [.ref 1, .ref 3, .ref 5, .ref 7, .int 0, .ref 9, .null, .null, .null, .null, .null, .null, .null], ob 8 [.ref 2], aI 128 ca_14, ob 2 [.ref 4, .int 0, .int 0], zI 768, ob 8 [.ref 6], aI 128 ca_28, ob 2 [.ref 8, .int 0, .int 0], zI 768, ob 0 [.ref 10, .ref 11, .ref 12, .ref 13, .ref 14], zI 6, zI 6, zI 6, zI 6, zI 6, ob 7 [.ref 16, .int 0, .int 0, .ref 17, .ref 18, .ref 19, .ref 20, .null, .null, .null, .null], zI 121, zI 326, zI 326, zI 326, zI 326] rfl ?_
  refine mx_aload_n dX8_init_58 rfl 0 rfl ?_
  refine mx_sipush 326 dX8_init_59 (by decide) ?_
  refine mx_newarr (N := 326) (a0 := (326, .inl fun _ => 0)) 0 al_int rfl (fun _ => rfl) (fun _ => rfl) (by decide) (by decide) (by decide) ⟨Nat.le_of_ble_eq_true rfl, Nat.le_of_ble_eq_true rfl⟩ (Nat.le_of_ble_eq_true rfl) rfl rfl rfl dX8_init_62 ?_
  refine mx_hp [ob 9 [.ref 1, .ref 3, .ref 5, .ref 7, .int 0, .ref 9, .null, .null, .null, .null, .null, .null, .null], ob 8 [.ref 2], aI 128 ca_14, ob 2 [.ref 4, .int 0, .int 0], zI 768, ob 8 [.ref 6], aI 128 ca_28, ob 2 [.ref 8, .int 0, .int 0], zI 768, ob 0 [.ref 10, .ref 11, .ref 12, .ref 13, .ref 14], zI 6, zI 6, zI 6, zI 6, zI 6, ob 7 [.ref 16, .int 0, .int 0, .ref 17, .ref 18, .ref 19, .ref 20, .null, .null, .null, .null], zI 121, zI 326, zI 326, zI 326, zI 326, zI 326] rfl ?_
  refine mx_putF rfl fl_X8_36 rfl (by decide) (fun _ => rfl) (fun _ => rfl) dX8_init_64 ?_
  refine mx_hp [ob 9 [.ref 1, .ref 3, .ref 5, .ref 7, .int 0, .ref 9, .null, .null, .null, .null, .null, .null, .null], ob 8 [.ref 2], aI 128 ca_14, ob 2 [.ref 4, .int 0, .int 0], zI 768, ob 8 [.ref 6], aI 128 ca_28, ob 2 [.ref 8, .int 0, .int 0], zI 768, ob 0 [.ref 10, .ref 11, .ref 12, .ref 13, .ref 14], zI 6, zI 6, zI 6, zI 6, zI 6, ob 7 [.ref 16, .int 0, .int 0, .ref 17, .ref 18, .ref 19, .ref 20, .ref 21, .null, .null, .null], zI 121, zI 326, zI 326, zI 326, zI 326, zI 326] rfl ?_
  refine mx_aload_n dX8_init_67 rfl 0 rfl ?_
  refine mx_sipush 326 dX8_init_68 (by decide) ?_
  refine mx_newarr (N := 326) (a0 := (326, .inl fun _ => 0)) 0 al_int rfl (fun _ => rfl) (fun _ => rfl) (by decide) (by decide) (by decide) ⟨Nat.le_of_ble_eq_true rfl, Nat.le_of_ble_eq_true rfl⟩ (Nat.le_of_ble_eq_true rfl) rfl rfl rfl dX8_init_71 ?_
  refine mx_hp [ob 9 [.ref 1, .ref 3, .ref 5, .ref 7, .int 0, .ref 9, .null, .null, .null, .null, .null, .null, .null], ob 8 [.ref 2], aI 128 ca_14, ob 2 [.ref 4, .int 0, .int 0], zI 768, ob 8 [.ref 6], aI 128 ca_28, ob 2 [.ref 8, .int 0, .int 0], zI 768, ob 0 [.ref 10, .ref 11, .ref 12, .ref 13, .ref 14], zI 6, zI 6, zI 6, zI 6, zI 6, ob 7 [.ref 16, .int 0, .int 0, .ref 17, .ref 18, .ref 19, .ref 20, .ref 21, .null, .null, .null], zI 121, zI 326, zI 326, zI 326, zI 326, zI 326, zI 326] rfl ?_
  refine mx_putF rfl fl_X8_39 rfl (by decide) (fun _ => rfl) (fun _ => rfl) dX8_init_73 ?_
  refine mx_hp [ob 9 [.ref 1, .ref 3, .ref 5, .ref 7, .int 0, .ref 9, .null, .null, .null, .null, .null, .null, .null], ob 8 [.ref 2], aI 128 ca_14, ob 2 [.ref 4, .int 0, .int 0], zI 768, ob 8 [.ref 6], aI 128 ca_28, ob 2 [.ref 8, .int 0, .int 0], zI 768, ob 0 [.ref 10, .ref 11, .ref 12, .ref 13, .ref 14], zI 6, zI 6, zI 6, zI 6, zI 6, ob 7 [.ref 16, .int 0, .int 0, .ref 17, .ref 18, .ref 19, .ref 20, .ref 21, .ref 22, .null, .null], zI 121, zI 326, zI 326, zI 326, zI 326, zI 326, zI 326] rfl ?_
  refine mx_aload_n dX8_init_76 rfl 0 rfl ?_
  refine mx_bipush 6 dX8_init_77 (by decide) ?_
  refine mx_newarr (N := 6) (a0 := (6, .inl fun _ => 0)) 0 al_int rfl (fun _ => rfl) (fun _ => rfl) (by decide) (by decide) (by decide) ⟨Nat.le_of_ble_eq_true rfl, Nat.le_of_ble_eq_true rfl⟩ (Nat.le_of_ble_eq_true rfl) rfl rfl rfl dX8_init_79 ?_
  refine mx_hp [ob 9 [.ref 1, .ref 3, .ref 5, .ref 7, .int 0, .ref 9, .null, .null, .null, .null, .null, .null, .null], ob 8 [.ref 2], aI 128 ca_14, ob 2 [.ref 4, .int 0, .int 0], zI 768, ob 8 [.ref 6], aI 128 ca_28, ob 2 [.ref 8, .int 0, .int 0], zI 768, ob 0 [.ref 10, .ref 11, .ref 12, .ref 13, .ref 14], zI 6, zI 6, zI 6, zI 6, zI 6, ob 7 [.ref 16, .int 0, .int 0, .ref 17, .ref 18, .ref 19, .ref 20, .ref 21, .ref 22, .null, .null], zI 121, zI 326, zI 326, zI 326, zI 326, zI 326, zI 326, zI 6] rfl ?_
  refine mx_putF rfl fl_X8_42 rfl (by decide) (fun _ => rfl) (fun _ => rfl) dX8_init_81 ?_
  refine mx_hp [ob 9 [.ref 1, .ref 3, .ref 5, .ref 7, .int 0, .ref 9, .null, .null, .null, .null, .null, .null, .null], ob 8 [.ref 2], aI 128 ca_14, ob 2 [.ref 4, .int 0, .int 0], zI 768, ob 8 [.ref 6], aI 128 ca_28, ob 2 [.ref 8, .int 0, .int 0], zI 768, ob 0 [.ref 10, .ref 11, .ref 12, .ref 13, .ref 14], zI 6, zI 6, zI 6, zI 6, zI 6, ob 7 [.ref 16, .int 0, .int 0, .ref 17, .ref 18, .ref 19, .ref 20, .ref 21, .ref 22, .ref 23, .null], zI 121, zI 326, zI 326, zI 326, zI 326, zI 326, zI 326, zI 6] rfl ?_
  refine mx_aload_n dX8_init_84 rfl 0 rfl ?_
  refine mx_sipush 390 dX8_init_85 (by decide) ?_
  refine mx_newarr (N := 390) (a0 := (390, .inl fun _ => 0)) 0 al_int rfl (fun _ => rfl) (fun _ => rfl) (by decide) (by decide) (by decide) ⟨Nat.le_of_ble_eq_true rfl, Nat.le_of_ble_eq_true rfl⟩ (Nat.le_of_ble_eq_true rfl) rfl rfl rfl dX8_init_88 ?_
  refine mx_hp [ob 9 [.ref 1, .ref 3, .ref 5, .ref 7, .int 0, .ref 9, .null, .null, .null, .null, .null, .null, .null], ob 8 [.ref 2], aI 128 ca_14, ob 2 [.ref 4, .int 0, .int 0], zI 768, ob 8 [.ref 6], aI 128 ca_28, ob 2 [.ref 8, .int 0, .int 0], zI 768, ob 0 [.ref 10, .ref 11, .ref 12, .ref 13, .ref 14], zI 6, zI 6, zI 6, zI 6, zI 6, ob 7 [.ref 16, .int 0, .int 0, .ref 17, .ref 18, .ref 19, .ref 20, .ref 21, .ref 22, .ref 23, .null], zI 121, zI 326, zI 326, zI 326, zI 326, zI 326, zI 326, zI 6, zI 390] rfl ?_
  refine mx_putF rfl fl_X8_45 rfl (by decide) (fun _ => rfl) (fun _ => rfl) dX8_init_90 ?_
  refine mx_hp [ob 9 [.ref 1, .ref 3, .ref 5, .ref 7, .int 0, .ref 9, .null, .null, .null, .null, .null, .null, .null], ob 8 [.ref 2], aI 128 ca_14, ob 2 [.ref 4, .int 0, .int 0], zI 768, ob 8 [.ref 6], aI 128 ca_28, ob 2 [.ref 8, .int 0, .int 0], zI 768, ob 0 [.ref 10, .ref 11, .ref 12, .ref 13, .ref 14], zI 6, zI 6, zI 6, zI 6, zI 6, ob 7 [.ref 16, .int 0, .int 0, .ref 17, .ref 18, .ref 19, .ref 20, .ref 21, .ref 22, .ref 23, .ref 24], zI 121, zI 326, zI 326, zI 326, zI 326, zI 326, zI 326, zI 6, zI 390] rfl ?_
  exact mx_vret (Nat.le_of_ble_eq_true rfl) (Nat.le_of_ble_eq_true rfl) dX8_init_93
set_option maxRecDepth 100000 in
set_option maxHeartbeats 4000000 in
theorem nX5_init_25 (l : Launch) : mx_M l yX5_init cX5_init 1 none 1 [.ref 25] [ob 9 [.ref 1, .ref 3, .ref 5, .ref 7, .int 0, .ref 9, .ref 15, .null, .null, .null, .null, .null, .null], ob 8 [.ref 2], aI 128 ca_14, ob 2 [.ref 4, .int 0, .int 0], zI 768, ob 8 [.ref 6], aI 128 ca_28, ob 2 [.ref 8, .int 0, .int 0], zI 768, ob 0 [.ref 10, .ref 11, .ref 12, .ref 13, .ref 14], zI 6, zI 6, zI 6, zI 6, zI 6, ob 7 [.ref 16, .int 0, .int 0, .ref 17, .ref 18, .ref 19, .ref 20, .ref 21, .ref 22, .ref 23, .ref 24], zI 121, zI 326, zI 326, zI 326, zI 326, zI 326, zI 326, zI 6, zI 390, ob 4 [.int 0, .int 0, .int 0, .int 0, .null, .null, .null, .null, .null]] none [ob 9 [.ref 1, .ref 3, .ref 5, .ref 7, .int 0, .ref 9, .ref 15, .null, .null, .null, .null, .null, .null], ob 8 [.ref 2], aI 128 ca_14, ob 2 [.ref 4, .int 0, .int 0], zI 768, ob 8 [.ref 6], aI 128 ca_28, ob 2 [.ref 8, .int 0, .int 0], zI 768, ob 0 [.ref 10, .ref 11, .ref 12, .ref 13, .ref 14], zI 6, zI 6, zI 6, zI 6, zI 6, ob 7 [.ref 16, .int 0, .int 0, .ref 17, .ref 18, .ref 19, .ref 20, .ref 21, .ref 22, .ref 23, .ref 24], zI 121, zI 326, zI 326, zI 326, zI 326, zI 326, zI 326, zI 6, zI 390, ob 4 [.int 0, .int 0, .int (-4), .int 0, .ref 26, .ref 27, .ref 28, .ref 29, .ref 30], zL 1956, zL 6, zL 6, zL 6, zL 6] 5 1980 := by
  refine mx_intro (own := RX5) (nm := "<init>") rfl (Nat.le_of_ble_eq_true rfl) rfl rfl ?_
  refine mx_sub (loc' := [(0, .ref 25)]) [0] rfl ?_
  refine mx_aload_n dX5_init_0 rfl 0 rfl ?_
  refine mx_objInit cl_X5_3 ol_1 ol_2 ⟨Nat.le_of_ble_eq_true rfl, Nat.le_of_ble_eq_true rfl⟩ (Nat.le_of_ble_eq_true rfl) dX5_init_1 ?_
  refine mx_aload_n dX5_init_4 rfl 0 rfl ?_
  refine mx_iconst 0 dX5_init_5 (by decide) ?_
  refine mx_put fl_X5_9 rfl (by decide) (fun _ => rfl) (fun _ => rfl) dX5_init_6 ?_
  refine mx_hp [ob 9 [.ref 1, .ref 3, .ref 5, .ref 7, .int 0, .ref 9, .ref 15, .null, .null, .null, .null, .null, .null], ob 8 [.ref 2], aI 128 ca_14, ob 2 [.ref 4, .int 0, .int 0], zI 768, ob 8 [.ref 6], aI 128 ca_28, ob 2 [.ref 8, .int 0, .int 0], zI 768, ob 0 [.ref 10, .ref 11, .ref 12, .ref 13, .ref 14], zI 6, zI 6, zI 6, zI 6, zI 6, ob 7 [.ref 16, .int 0, .int 0, .ref 17, .ref 18, .ref 19, .ref 20, .ref 21, .ref 22, .ref 23, .ref 24], zI 121, zI 326, zI 326, zI 326, zI 326, zI 326, zI 326, zI 6, zI 390, ob 4 [.int 0, .int 0, .int 0, .int 0, .null, .null, .null, .null, .null]] rfl ?_
  refine mx_aload_n dX5_init_9 rfl 0 rfl ?_
  refine mx_iconst 0 dX5_init_10 (by decide) ?_
  refine mx_put fl_X5_15 rfl (by decide) (fun _ => rfl) (fun _ => rfl) dX5_init_11 ?_
  refine mx_hp [ob 9 [.ref 1, .ref 3, .ref 5, .ref 7, .int 0, .ref 9, .ref 15, .null, .null, .null, .null, .null, .null], ob 8 [.ref 2], aI 128 ca_14, ob 2 [.ref 4, .int 0, .int 0], zI 768, ob 8 [.ref 6], aI 128 ca_28, ob 2 [.ref 8, .int 0, .int 0], zI 768, ob 0 [.ref 10, .ref 11, .ref 12, .ref 13, .ref 14], zI 6, zI 6, zI 6, zI 6, zI 6, ob 7 [.ref 16, .int 0, .int 0, .ref 17, .ref 18, .ref 19, .ref 20, .ref 21, .ref 22, .ref 23, .ref 24], zI 121, zI 326, zI 326, zI 326, zI 326, zI 326, zI 326, zI 6, zI 390, ob 4 [.int 0, .int 0, .int 0, .int 0, .null, .null, .null, .null, .null]] rfl ?_
  refine mx_aload_n dX5_init_14 rfl 0 rfl ?_
  refine mx_bipush (-4) dX5_init_15 (by decide) ?_
  refine mx_put fl_X5_18 rfl (by decide) (fun _ => rfl) (fun _ => rfl) dX5_init_17 ?_
  refine mx_hp [ob 9 [.ref 1, .ref 3, .ref 5, .ref 7, .int 0, .ref 9, .ref 15, .null, .null, .null, .null, .null, .null], ob 8 [.ref 2], aI 128 ca_14, ob 2 [.ref 4, .int 0, .int 0], zI 768, ob 8 [.ref 6], aI 128 ca_28, ob 2 [.ref 8, .int 0, .int 0], zI 768, ob 0 [.ref 10, .ref 11, .ref 12, .ref 13, .ref 14], zI 6, zI 6, zI 6, zI 6, zI 6, ob 7 [.ref 16, .int 0, .int 0, .ref 17, .ref 18, .ref 19, .ref 20, .ref 21, .ref 22, .ref 23, .ref 24], zI 121, zI 326, zI 326, zI 326, zI 326, zI 326, zI 326, zI 6, zI 390, ob 4 [.int 0, .int 0, .int (-4), .int 0, .null, .null, .null, .null, .null]] rfl ?_
  refine mx_aload_n dX5_init_20 rfl 0 rfl ?_
  refine mx_iconst 0 dX5_init_21 (by decide) ?_
  refine mx_put fl_X5_21 rfl (by decide) (fun _ => rfl) (fun _ => rfl) dX5_init_22 ?_
  refine mx_hp [ob 9 [.ref 1, .ref 3, .ref 5, .ref 7, .int 0, .ref 9, .ref 15, .null, .null, .null, .null, .null, .null], ob 8 [.ref 2], aI 128 ca_14, ob 2 [.ref 4, .int 0, .int 0], zI 768, ob 8 [.ref 6], aI 128 ca_28, ob 2 [.ref 8, .int 0, .int 0], zI 768, ob 0 [.ref 10, .ref 11, .ref 12, .ref 13, .ref 14], zI 6, zI 6, zI 6, zI 6, zI 6, ob 7 [.ref 16, .int 0, .int 0, .ref 17, .ref 18, .ref 19, .ref 20, .ref 21, .ref 22, .ref 23, .ref 24], zI 121, zI 326, zI 326, zI 326, zI 326, zI 326, zI 326, zI 6, zI 390, ob 4 [.int 0, .int 0, .int (-4), .int 0, .null, .null, .null, .null, .null]] rfl ?_
  refine mx_aload_n dX5_init_25 rfl 0 rfl ?_
  refine mx_sipush 1956 dX5_init_26 (by decide) ?_
  refine mx_newarr (N := 1956) (a0 := (1956, .inr (.inl fun _ => 0))) 1 al_long rfl (fun _ => rfl) (fun _ => rfl) (by decide) (by decide) (by decide) ⟨Nat.le_of_ble_eq_true rfl, Nat.le_of_ble_eq_true rfl⟩ (Nat.le_of_ble_eq_true rfl) rfl rfl rfl dX5_init_29 ?_
  refine mx_hp [ob 9 [.ref 1, .ref 3, .ref 5, .ref 7, .int 0, .ref 9, .ref 15, .null, .null, .null, .null, .null, .null], ob 8 [.ref 2], aI 128 ca_14, ob 2 [.ref 4, .int 0, .int 0], zI 768, ob 8 [.ref 6], aI 128 ca_28, ob 2 [.ref 8, .int 0, .int 0], zI 768, ob 0 [.ref 10, .ref 11, .ref 12, .ref 13, .ref 14], zI 6, zI 6, zI 6, zI 6, zI 6, ob 7 [.ref 16, .int 0, .int 0, .ref 17, .ref 18, .ref 19, .ref 20, .ref 21, .ref 22, .ref 23, .ref 24], zI 121, zI 326, zI 326, zI 326, zI 326, zI 326, zI 326, zI 6, zI 390, ob 4 [.int 0, .int 0, .int (-4), .int 0, .null, .null, .null, .null, .null], zL 1956] rfl ?_
  refine mx_putF rfl fl_X5_26 rfl (by decide) (fun _ => rfl) (fun _ => rfl) dX5_init_31 ?_
  refine mx_hp [ob 9 [.ref 1, .ref 3, .ref 5, .ref 7, .int 0, .ref 9, .ref 15, .null, .null, .null, .null, .null, .null], ob 8 [.ref 2], aI 128 ca_14, ob 2 [.ref 4, .int 0, .int 0], zI 768, ob 8 [.ref 6], aI 128 ca_28, ob 2 [.ref 8, .int 0, .int 0], zI 768, ob 0 [.ref 10, .ref 11, .ref 12, .ref 13, .ref 14], zI 6, zI 6, zI 6, zI 6, zI 6, ob 7 [.ref 16, .int 0, .int 0, .ref 17, .ref 18, .ref 19, .ref 20, .ref 21, .ref 22, .ref 23, .ref 24], zI 121, zI 326, zI 326, zI 326, zI 326, zI 326, zI 326, zI 6, zI 390, ob 4 [.int 0, .int 0, .int (-4), .int 0, .ref 26, .null, .null, .null, .null], zL 1956] rfl ?_
  refine mx_aload_n dX5_init_34 rfl 0 rfl ?_
  refine mx_bipush 6 dX5_init_35 (by decide) ?_
  refine mx_newarr (N := 6) (a0 := (6, .inr (.inl fun _ => 0))) 1 al_long rfl (fun _ => rfl) (fun _ => rfl) (by decide) (by decide) (by decide) ⟨Nat.le_of_ble_eq_true rfl, Nat.le_of_ble_eq_true rfl⟩ (Nat.le_of_ble_eq_true rfl) rfl rfl rfl dX5_init_37 ?_
  refine mx_hp [ob 9 [.ref 1, .ref 3, .ref 5, .ref 7, .int 0, .ref 9, .ref 15, .null, .null, .null, .null, .null, .null], ob 8 [.ref 2], aI 128 ca_14, ob 2 [.ref 4, .int 0, .int 0], zI 768, ob 8 [.ref 6], aI 128 ca_28, ob 2 [.ref 8, .int 0, .int 0], zI 768, ob 0 [.ref 10, .ref 11, .ref 12, .ref 13, .ref 14], zI 6, zI 6, zI 6, zI 6, zI 6, ob 7 [.ref 16, .int 0, .int 0, .ref 17, .ref 18, .ref 19, .ref 20, .ref 21, .ref 22, .ref 23, .ref 24], zI 121, zI 326, zI 326, zI 326, zI 326, zI 326, zI 326, zI 6, zI 390, ob 4 [.int 0, .int 0, .int (-4), .int 0, .ref 26, .null, .null, .null, .null], zL 1956, zL 6] rfl ?_
  refine mx_putF rfl fl_X5_30 rfl (by decide) (fun _ => rfl) (fun _ => rfl) dX5_init_39 ?_
  refine mx_hp [ob 9 [.ref 1, .ref 3, .ref 5, .ref 7, .int 0, .ref 9, .ref 15, .null, .null, .null, .null, .null, .null], ob 8 [.ref 2], aI 128 ca_14, ob 2 [.ref 4, .int 0, .int 0], zI 768, ob 8 [.ref 6], aI 128 ca_28, ob 2 [.ref 8, .int 0, .int 0], zI 768, ob 0 [.ref 10, .ref 11, .ref 12, .ref 13, .ref 14], zI 6, zI 6, zI 6, zI 6, zI 6, ob 7 [.ref 16, .int 0, .int 0, .ref 17, .ref 18, .ref 19, .ref 20, .ref 21, .ref 22, .ref 23, .ref 24], zI 121, zI 326, zI 326, zI 326, zI 326, zI 326, zI 326, zI 6, zI 390, ob 4 [.int 0, .int 0, .int (-4), .int 0, .ref 26, .ref 27, .null, .null, .null], zL 1956, zL 6] rfl ?_
  refine mx_aload_n dX5_init_42 rfl 0 rfl ?_
  refine mx_bipush 6 dX5_init_43 (by decide) ?_
  refine mx_newarr (N := 6) (a0 := (6, .inr (.inl fun _ => 0))) 1 al_long rfl (fun _ => rfl) (fun _ => rfl) (by decide) (by decide) (by decide) ⟨Nat.le_of_ble_eq_true rfl, Nat.le_of_ble_eq_true rfl⟩ (Nat.le_of_ble_eq_true rfl) rfl rfl rfl dX5_init_45 ?_
  refine mx_hp [ob 9 [.ref 1, .ref 3, .ref 5, .ref 7, .int 0, .ref 9, .ref 15, .null, .null, .null, .null, .null, .null], ob 8 [.ref 2], aI 128 ca_14, ob 2 [.ref 4, .int 0, .int 0], zI 768, ob 8 [.ref 6], aI 128 ca_28, ob 2 [.ref 8, .int 0, .int 0], zI 768, ob 0 [.ref 10, .ref 11, .ref 12, .ref 13, .ref 14], zI 6, zI 6, zI 6, zI 6, zI 6, ob 7 [.ref 16, .int 0, .int 0, .ref 17, .ref 18, .ref 19, .ref 20, .ref 21, .ref 22, .ref 23, .ref 24], zI 121, zI 326, zI 326, zI 326, zI 326, zI 326, zI 326, zI 6, zI 390, ob 4 [.int 0, .int 0, .int (-4), .int 0, .ref 26, .ref 27, .null, .null, .null], zL 1956, zL 6, zL 6] rfl ?_
  refine mx_putF rfl fl_X5_33 rfl (by decide) (fun _ => rfl) (fun _ => rfl) dX5_init_47 ?_
  refine mx_hp [ob 9 [.ref 1, .ref 3, .ref 5, .ref 7, .int 0, .ref 9, .ref 15, .null, .null, .null, .null, .null, .null], ob 8 [.ref 2], aI 128 ca_14, ob 2 [.ref 4, .int 0, .int 0], zI 768, ob 8 [.ref 6], aI 128 ca_28, ob 2 [.ref 8, .int 0, .int 0], zI 768, ob 0 [.ref 10, .ref 11, .ref 12, .ref 13, .ref 14], zI 6, zI 6, zI 6, zI 6, zI 6, ob 7 [.ref 16, .int 0, .int 0, .ref 17, .ref 18, .ref 19, .ref 20, .ref 21, .ref 22, .ref 23, .ref 24], zI 121, zI 326, zI 326, zI 326, zI 326, zI 326, zI 326, zI 6, zI 390, ob 4 [.int 0, .int 0, .int (-4), .int 0, .ref 26, .ref 27, .ref 28, .null, .null], zL 1956, zL 6, zL 6] rfl ?_
  refine mx_aload_n dX5_init_50 rfl 0 rfl ?_
  refine mx_bipush 6 dX5_init_51 (by decide) ?_
  refine mx_newarr (N := 6) (a0 := (6, .inr (.inl fun _ => 0))) 1 al_long rfl (fun _ => rfl) (fun _ => rfl) (by decide) (by decide) (by decide) ⟨Nat.le_of_ble_eq_true rfl, Nat.le_of_ble_eq_true rfl⟩ (Nat.le_of_ble_eq_true rfl) rfl rfl rfl dX5_init_53 ?_
  refine mx_hp [ob 9 [.ref 1, .ref 3, .ref 5, .ref 7, .int 0, .ref 9, .ref 15, .null, .null, .null, .null, .null, .null], ob 8 [.ref 2], aI 128 ca_14, ob 2 [.ref 4, .int 0, .int 0], zI 768, ob 8 [.ref 6], aI 128 ca_28, ob 2 [.ref 8, .int 0, .int 0], zI 768, ob 0 [.ref 10, .ref 11, .ref 12, .ref 13, .ref 14], zI 6, zI 6, zI 6, zI 6, zI 6, ob 7 [.ref 16, .int 0, .int 0, .ref 17, .ref 18, .ref 19, .ref 20, .ref 21, .ref 22, .ref 23, .ref 24], zI 121, zI 326, zI 326, zI 326, zI 326, zI 326, zI 326, zI 6, zI 390, ob 4 [.int 0, .int 0, .int (-4), .int 0, .ref 26, .ref 27, .ref 28, .null, .null], zL 1956, zL 6, zL 6, zL 6] rfl ?_
  refine mx_putF rfl fl_X5_36 rfl (by decide) (fun _ => rfl) (fun _ => rfl) dX5_init_55 ?_
  refine mx_hp [ob 9 [.ref 1, .ref 3, .ref 5, .ref 7, .int 0, .ref 9, .ref 15, .null, .null, .null, .null, .null, .null], ob 8 [.ref 2], aI 128 ca_14, ob 2 [.ref 4, .int 0, .int 0], zI 768, ob 8 [.ref 6], aI 128 ca_28, ob 2 [.ref 8, .int 0, .int 0], zI 768, ob 0 [.ref 10, .ref 11, .ref 12, .ref 13, .ref 14], zI 6, zI 6, zI 6, zI 6, zI 6, ob 7 [.ref 16, .int 0, .int 0, .ref 17, .ref 18, .ref 19, .ref 20, .ref 21, .ref 22, .ref 23, .ref 24], zI 121, zI 326, zI 326, zI 326, zI 326, zI 326, zI 326, zI 6, zI 390, ob 4 [.int 0, .int 0, .int (-4), .int 0, .ref 26, .ref 27, .ref 28, .ref 29, .null], zL 1956, zL 6, zL 6, zL 6] rfl ?_
  refine mx_aload_n dX5_init_58 rfl 0 rfl ?_
  refine mx_bipush 6 dX5_init_59 (by decide) ?_
  refine mx_newarr (N := 6) (a0 := (6, .inr (.inl fun _ => 0))) 1 al_long rfl (fun _ => rfl) (fun _ => rfl) (by decide) (by decide) (by decide) ⟨Nat.le_of_ble_eq_true rfl, Nat.le_of_ble_eq_true rfl⟩ (Nat.le_of_ble_eq_true rfl) rfl rfl rfl dX5_init_61 ?_
  refine mx_hp [ob 9 [.ref 1, .ref 3, .ref 5, .ref 7, .int 0, .ref 9, .ref 15, .null, .null, .null, .null, .null, .null], ob 8 [.ref 2], aI 128 ca_14, ob 2 [.ref 4, .int 0, .int 0], zI 768, ob 8 [.ref 6], aI 128 ca_28, ob 2 [.ref 8, .int 0, .int 0], zI 768, ob 0 [.ref 10, .ref 11, .ref 12, .ref 13, .ref 14], zI 6, zI 6, zI 6, zI 6, zI 6, ob 7 [.ref 16, .int 0, .int 0, .ref 17, .ref 18, .ref 19, .ref 20, .ref 21, .ref 22, .ref 23, .ref 24], zI 121, zI 326, zI 326, zI 326, zI 326, zI 326, zI 326, zI 6, zI 390, ob 4 [.int 0, .int 0, .int (-4), .int 0, .ref 26, .ref 27, .ref 28, .ref 29, .null], zL 1956, zL 6, zL 6, zL 6, zL 6] rfl ?_
  refine mx_putF rfl fl_X5_39 rfl (by decide) (fun _ => rfl) (fun _ => rfl) dX5_init_63 ?_
  refine mx_hp [ob 9 [.ref 1, .ref 3, .ref 5, .ref 7, .int 0, .ref 9, .ref 15, .null, .null, .null, .null, .null, .null], ob 8 [.ref 2], aI 128 ca_14, ob 2 [.ref 4, .int 0, .int 0], zI 768, ob 8 [.ref 6], aI 128 ca_28, ob 2 [.ref 8, .int 0, .int 0], zI 768, ob 0 [.ref 10, .ref 11, .ref 12, .ref 13, .ref 14], zI 6, zI 6, zI 6, zI 6, zI 6, ob 7 [.ref 16, .int 0, .int 0, .ref 17, .ref 18, .ref 19, .ref 20, .ref 21, .ref 22, .ref 23, .ref 24], zI 121, zI 326, zI 326, zI 326, zI 326, zI 326, zI 326, zI 6, zI 390, ob 4 [.int 0, .int 0, .int (-4), .int 0, .ref 26, .ref 27, .ref 28, .ref 29, .ref 30], zL 1956, zL 6, zL 6, zL 6, zL 6] rfl ?_
  exact mx_vret (Nat.le_of_ble_eq_true rfl) (Nat.le_of_ble_eq_true rfl) dX5_init_66
set_option maxRecDepth 100000 in
set_option maxHeartbeats 4000000 in
theorem nX4_init_31 (l : Launch) : mx_M l yX4_init cX4_init 1 none 1 [.ref 31] [ob 9 [.ref 1, .ref 3, .ref 5, .ref 7, .int 0, .ref 9, .ref 15, .ref 25, .null, .null, .null, .null, .null], ob 8 [.ref 2], aI 128 ca_14, ob 2 [.ref 4, .int 0, .int 0], zI 768, ob 8 [.ref 6], aI 128 ca_28, ob 2 [.ref 8, .int 0, .int 0], zI 768, ob 0 [.ref 10, .ref 11, .ref 12, .ref 13, .ref 14], zI 6, zI 6, zI 6, zI 6, zI 6, ob 7 [.ref 16, .int 0, .int 0, .ref 17, .ref 18, .ref 19, .ref 20, .ref 21, .ref 22, .ref 23, .ref 24], zI 121, zI 326, zI 326, zI 326, zI 326, zI 326, zI 326, zI 6, zI 390, ob 4 [.int 0, .int 0, .int (-4), .int 0, .ref 26, .ref 27, .ref 28, .ref 29, .ref 30], zL 1956, zL 6, zL 6, zL 6, zL 6, ob 3 [.int 0, .int 0, .null, .null]] none [ob 9 [.ref 1, .ref 3, .ref 5, .ref 7, .int 0, .ref 9, .ref 15, .ref 25, .null, .null, .null, .null, .null], ob 8 [.ref 2], aI 128 ca_14, ob 2 [.ref 4, .int 0, .int 0], zI 768, ob 8 [.ref 6], aI 128 ca_28, ob 2 [.ref 8, .int 0, .int 0], zI 768, ob 0 [.ref 10, .ref 11, .ref 12, .ref 13, .ref 14], zI 6, zI 6, zI 6, zI 6, zI 6, ob 7 [.ref 16, .int 0, .int 0, .ref 17, .ref 18, .ref 19, .ref 20, .ref 21, .ref 22, .ref 23, .ref 24], zI 121, zI 326, zI 326, zI 326, zI 326, zI 326, zI 326, zI 6, zI 390, ob 4 [.int 0, .int 0, .int (-4), .int 0, .ref 26, .ref 27, .ref 28, .ref 29, .ref 30], zL 1956, zL 6, zL 6, zL 6, zL 6, ob 3 [.int 0, .int 0, .ref 32, .ref 33], zI 2117, zI 6] 2 2123 := by
  refine mx_intro (own := RX4) (nm := "<init>") rfl (Nat.le_of_ble_eq_true rfl) rfl rfl ?_
  refine mx_sub (loc' := [(0, .ref 31)]) [0] rfl ?_
  refine mx_aload_n dX4_init_0 rfl 0 rfl ?_
  refine mx_objInit cl_X4_3 ol_1 ol_2 ⟨Nat.le_of_ble_eq_true rfl, Nat.le_of_ble_eq_true rfl⟩ (Nat.le_of_ble_eq_true rfl) dX4_init_1 ?_
  refine mx_aload_n dX4_init_4 rfl 0 rfl ?_
  refine mx_iconst 0 dX4_init_5 (by decide) ?_
  refine mx_put fl_X4_9 rfl (by decide) (fun _ => rfl) (fun _ => rfl) dX4_init_6 ?_
  refine mx_hp [ob 9 [.ref 1, .ref 3, .ref 5, .ref 7, .int 0, .ref 9, .ref 15, .ref 25, .null, .null, .null, .null, .null], ob 8 [.ref 2], aI 128 ca_14, ob 2 [.ref 4, .int 0, .int 0], zI 768, ob 8 [.ref 6], aI 128 ca_28, ob 2 [.ref 8, .int 0, .int 0], zI 768, ob 0 [.ref 10, .ref 11, .ref 12, .ref 13, .ref 14], zI 6, zI 6, zI 6, zI 6, zI 6, ob 7 [.ref 16, .int 0, .int 0, .ref 17, .ref 18, .ref 19, .ref 20, .ref 21, .ref 22, .ref 23, .ref 24], zI 121, zI 326, zI 326, zI 326, zI 326, zI 326, zI 326, zI 6, zI 390, ob 4 [.int 0, .int 0, .int (-4), .int 0, .ref 26, .ref 27, .ref 28, .ref 29, .ref 30], zL 1956, zL 6, zL 6, zL 6, zL 6, ob 3 [.int 0, .int 0, .null, .null]] rfl ?_
  refine mx_aload_n dX4_init_9 rfl 0 rfl ?_
  refine mx_iconst 0 dX4_init_10 (by decide) ?_
  refine mx_put fl_X4_15 rfl (by decide) (fun _ => rfl) (fun _ => rfl) dX4_init_11 ?_
  refine mx_hp [ob 9 [.ref 1, .ref 3, .ref 5, .ref 7, .int 0, .ref 9, .ref 15, .ref 25, .null, .null, .null, .null, .null], ob 8 [.ref 2], aI 128 ca_14, ob 2 [.ref 4, .int 0, .int 0], zI 768, ob 8 [.ref 6], aI 128 ca_28, ob 2 [.ref 8, .int 0, .int 0], zI 768, ob 0 [.ref 10, .ref 11, .ref 12, .ref 13, .ref 14], zI 6, zI 6, zI 6, zI 6, zI 6, ob 7 [.ref 16, .int 0, .int 0, .ref 17, .ref 18, .ref 19, .ref 20, .ref 21, .ref 22, .ref 23, .ref 24], zI 121, zI 326, zI 326, zI 326, zI 326, zI 326, zI 326, zI 6, zI 390, ob 4 [.int 0, .int 0, .int (-4), .int 0, .ref 26, .ref 27, .ref 28, .ref 29, .ref 30], zL 1956, zL 6, zL 6, zL 6, zL 6, ob 3 [.int 0, .int 0, .null, .null]] rfl ?_
  refine mx_aload_n dX4_init_14 rfl 0 rfl ?_
  refine mx_sipush 2117 dX4_init_15 (by decide) ?_
  refine mx_newarr (N := 2117) (a0 := (2117, .inl fun _ => 0)) 0 al_int rfl (fun _ => rfl) (fun _ => rfl) (by decide) (by decide) (by decide) ⟨Nat.le_of_ble_eq_true rfl, Nat.le_of_ble_eq_true rfl⟩ (Nat.le_of_ble_eq_true rfl) rfl rfl rfl dX4_init_18 ?_
  refine mx_hp [ob 9 [.ref 1, .ref 3, .ref 5, .ref 7, .int 0, .ref 9, .ref 15, .ref 25, .null, .null, .null, .null, .null], ob 8 [.ref 2], aI 128 ca_14, ob 2 [.ref 4, .int 0, .int 0], zI 768, ob 8 [.ref 6], aI 128 ca_28, ob 2 [.ref 8, .int 0, .int 0], zI 768, ob 0 [.ref 10, .ref 11, .ref 12, .ref 13, .ref 14], zI 6, zI 6, zI 6, zI 6, zI 6, ob 7 [.ref 16, .int 0, .int 0, .ref 17, .ref 18, .ref 19, .ref 20, .ref 21, .ref 22, .ref 23, .ref 24], zI 121, zI 326, zI 326, zI 326, zI 326, zI 326, zI 326, zI 6, zI 390, ob 4 [.int 0, .int 0, .int (-4), .int 0, .ref 26, .ref 27, .ref 28, .ref 29, .ref 30], zL 1956, zL 6, zL 6, zL 6, zL 6, ob 3 [.int 0, .int 0, .null, .null], zI 2117] rfl ?_
  refine mx_putF rfl fl_X4_18 rfl (by decide) (fun _ => rfl) (fun _ => rfl) dX4_init_20 ?_
  refine mx_hp [ob 9 [.ref 1, .ref 3, .ref 5, .ref 7, .int 0, .ref 9, .ref 15, .ref 25, .null, .null, .null, .null, .null], ob 8 [.ref 2], aI 128 ca_14, ob 2 [.ref 4, .int 0, .int 0], zI 768, ob 8 [.ref 6], aI 128 ca_28, ob 2 [.ref 8, .int 0, .int 0], zI 768, ob 0 [.ref 10, .ref 11, .ref 12, .ref 13, .ref 14], zI 6, zI 6, zI 6, zI 6, zI 6, ob 7 [.ref 16, .int 0, .int 0, .ref 17, .ref 18, .ref 19, .ref 20, .ref 21, .ref 22, .ref 23, .ref 24], zI 121, zI 326, zI 326, zI 326, zI 326, zI 326, zI 326, zI 6, zI 390, ob 4 [.int 0, .int 0, .int (-4), .int 0, .ref 26, .ref 27, .ref 28, .ref 29, .ref 30], zL 1956, zL 6, zL 6, zL 6, zL 6, ob 3 [.int 0, .int 0, .ref 32, .null], zI 2117] rfl ?_
  refine mx_aload_n dX4_init_23 rfl 0 rfl ?_
  refine mx_bipush 6 dX4_init_24 (by decide) ?_
  refine mx_newarr (N := 6) (a0 := (6, .inl fun _ => 0)) 0 al_int rfl (fun _ => rfl) (fun _ => rfl) (by decide) (by decide) (by decide) ⟨Nat.le_of_ble_eq_true rfl, Nat.le_of_ble_eq_true rfl⟩ (Nat.le_of_ble_eq_true rfl) rfl rfl rfl dX4_init_26 ?_
  refine mx_hp [ob 9 [.ref 1, .ref 3, .ref 5, .ref 7, .int 0, .ref 9, .ref 15, .ref 25, .null, .null, .null, .null, .null], ob 8 [.ref 2], aI 128 ca_14, ob 2 [.ref 4, .int 0, .int 0], zI 768, ob 8 [.ref 6], aI 128 ca_28, ob 2 [.ref 8, .int 0, .int 0], zI 768, ob 0 [.ref 10, .ref 11, .ref 12, .ref 13, .ref 14], zI 6, zI 6, zI 6, zI 6, zI 6, ob 7 [.ref 16, .int 0, .int 0, .ref 17, .ref 18, .ref 19, .ref 20, .ref 21, .ref 22, .ref 23, .ref 24], zI 121, zI 326, zI 326, zI 326, zI 326, zI 326, zI 326, zI 6, zI 390, ob 4 [.int 0, .int 0, .int (-4), .int 0, .ref 26, .ref 27, .ref 28, .ref 29, .ref 30], zL 1956, zL 6, zL 6, zL 6, zL 6, ob 3 [.int 0, .int 0, .ref 32, .null], zI 2117, zI 6] rfl ?_
  refine mx_putF rfl fl_X4_22 rfl (by decide) (fun _ => rfl) (fun _ => rfl) dX4_init_28 ?_
  refine mx_hp [ob 9 [.ref 1, .ref 3, .ref 5, .ref 7, .int 0, .ref 9, .ref 15, .ref 25, .null, .null, .null, .null, .null], ob 8 [.ref 2], aI 128 ca_14, ob 2 [.ref 4, .int 0, .int 0], zI 768, ob 8 [.ref 6], aI 128 ca_28, ob 2 [.ref 8, .int 0, .int 0], zI 768, ob 0 [.ref 10, .ref 11, .ref 12, .ref 13, .ref 14], zI 6, zI 6, zI 6, zI 6, zI 6, ob 7 [.ref 16, .int 0, .int 0, .ref 17, .ref 18, .ref 19, .ref 20, .ref 21, .ref 22, .ref 23, .ref 24], zI 121, zI 326, zI 326, zI 326, zI 326, zI 326, zI 326, zI 6, zI 390, ob 4 [.int 0, .int 0, .int (-4), .int 0, .ref 26, .ref 27, .ref 28, .ref 29, .ref 30], zL 1956, zL 6, zL 6, zL 6, zL 6, ob 3 [.int 0, .int 0, .ref 32, .ref 33], zI 2117, zI 6] rfl ?_
  exact mx_vret (Nat.le_of_ble_eq_true rfl) (Nat.le_of_ble_eq_true rfl) dX4_init_31
set_option maxRecDepth 100000 in
set_option maxHeartbeats 4000000 in
theorem nX1_init_34 (l : Launch) : mx_M l yX1_init cX1_init 1 none 1 [.ref 34] [ob 9 [.ref 1, .ref 3, .ref 5, .ref 7, .int 0, .ref 9, .ref 15, .ref 25, .ref 31, .null, .null, .null, .null], ob 8 [.ref 2], aI 128 ca_14, ob 2 [.ref 4, .int 0, .int 0], zI 768, ob 8 [.ref 6], aI 128 ca_28, ob 2 [.ref 8, .int 0, .int 0], zI 768, ob 0 [.ref 10, .ref 11, .ref 12, .ref 13, .ref 14], zI 6, zI 6, zI 6, zI 6, zI 6, ob 7 [.ref 16, .int 0, .int 0, .ref 17, .ref 18, .ref 19, .ref 20, .ref 21, .ref 22, .ref 23, .ref 24], zI 121, zI 326, zI 326, zI 326, zI 326, zI 326, zI 326, zI 6, zI 390, ob 4 [.int 0, .int 0, .int (-4), .int 0, .ref 26, .ref 27, .ref 28, .ref 29, .ref 30], zL 1956, zL 6, zL 6, zL 6, zL 6, ob 3 [.int 0, .int 0, .ref 32, .ref 33], zI 2117, zI 6, ob 1 [.int 0, .int 0, .null]] none [ob 9 [.ref 1, .ref 3, .ref 5, .ref 7, .int 0, .ref 9, .ref 15, .ref 25, .ref 31, .null, .null, .null, .null], ob 8 [.ref 2], aI 128 ca_14, ob 2 [.ref 4, .int 0, .int 0], zI 768, ob 8 [.ref 6], aI 128 ca_28, ob 2 [.ref 8, .int 0, .int 0], zI 768, ob 0 [.ref 10, .ref 11, .ref 12, .ref 13, .ref 14], zI 6, zI 6, zI 6, zI 6, zI 6, ob 7 [.ref 16, .int 0, .int 0, .ref 17, .ref 18, .ref 19, .ref 20, .ref 21, .ref 22, .ref 23, .ref 24], zI 121, zI 326, zI 326, zI 326, zI 326, zI 326, zI 326, zI 6, zI 390, ob 4 [.int 0, .int 0, .int (-4), .int 0, .ref 26, .ref 27, .ref 28, .ref 29, .ref 30], zL 1956, zL 6, zL 6, zL 6, zL 6, ob 3 [.int 0, .int 0, .ref 32, .ref 33], zI 2117, zI 6, ob 1 [.int (-4), .int (-4), .ref 35], zI 366] 1 366 := by
  refine mx_intro (own := RX1) (nm := "<init>") rfl (Nat.le_of_ble_eq_true rfl) rfl rfl ?_
  refine mx_sub (loc' := [(0, .ref 34)]) [0] rfl ?_
  refine mx_aload_n dX1_init_0 rfl 0 rfl ?_
  refine mx_objInit cl_X1_3 ol_1 ol_2 ⟨Nat.le_of_ble_eq_true rfl, Nat.le_of_ble_eq_true rfl⟩ (Nat.le_of_ble_eq_true rfl) dX1_init_1 ?_
  refine mx_aload_n dX1_init_4 rfl 0 rfl ?_
  refine mx_bipush (-4) dX1_init_5 (by decide) ?_
  refine mx_put fl_X1_9 rfl (by decide) (fun _ => rfl) (fun _ => rfl) dX1_init_7 ?_
  refine mx_hp [ob 9 [.ref 1, .ref 3, .ref 5, .ref 7, .int 0, .ref 9, .ref 15, .ref 25, .ref 31, .null, .null, .null, .null], ob 8 [.ref 2], aI 128 ca_14, ob 2 [.ref 4, .int 0, .int 0], zI 768, ob 8 [.ref 6], aI 128 ca_28, ob 2 [.ref 8, .int 0, .int 0], zI 768, ob 0 [.ref 10, .ref 11, .ref 12, .ref 13, .ref 14], zI 6, zI 6, zI 6, zI 6, zI 6, ob 7 [.ref 16, .int 0, .int 0, .ref 17, .ref 18, .ref 19, .ref 20, .ref 21, .ref 22, .ref 23, .ref 24], zI 121, zI 326, zI 326, zI 326, zI 326, zI 326, zI 326, zI 6, zI 390, ob 4 [.int 0, .int 0, .int (-4), .int 0, .ref 26, .ref 27, .ref 28, .ref 29, .ref 30], zL 1956, zL 6, zL 6, zL 6, zL 6, ob 3 [.int 0, .int 0, .ref 32, .ref 33], zI 2117, zI 6, ob 1 [.int (-4), .int 0, .null]] rfl ?_
  refine mx_aload_n dX1_init_10 rfl 0 rfl ?_
  refine mx_bipush (-4) dX1_init_11 (by decide) ?_
  refine mx_put fl_X1_15 rfl (by decide) (fun _ => rfl) (fun _ => rfl) dX1_init_13 ?_
  refine mx_hp [ob 9 [.ref 1, .ref 3, .ref 5, .ref 7, .int 0, .ref 9, .ref 15, .ref 25, .ref 31, .null, .null, .null, .null], ob 8 [.ref 2], aI 128 ca_14, ob 2 [.ref 4, .int 0, .int 0], zI 768, ob 8 [.ref 6], aI 128 ca_28, ob 2 [.ref 8, .int 0, .int 0], zI 768, ob 0 [.ref 10, .ref 11, .ref 12, .ref 13, .ref 14], zI 6, zI 6, zI 6, zI 6, zI 6, ob 7 [.ref 16, .int 0, .int 0, .ref 17, .ref 18, .ref 19, .ref 20, .ref 21, .ref 22, .ref 23, .ref 24], zI 121, zI 326, zI 326, zI 326, zI 326, zI 326, zI 326, zI 6, zI 390, ob 4 [.int 0, .int 0, .int (-4), .int 0, .ref 26, .ref 27, .ref 28, .ref 29, .ref 30], zL 1956, zL 6, zL 6, zL 6, zL 6, ob 3 [.int 0, .int 0, .ref 32, .ref 33], zI 2117, zI 6, ob 1 [.int (-4), .int (-4), .null]] rfl ?_
  refine mx_aload_n dX1_init_16 rfl 0 rfl ?_
  refine mx_sipush 366 dX1_init_17 (by decide) ?_
  refine mx_newarr (N := 366) (a0 := (366, .inl fun _ => 0)) 0 al_int rfl (fun _ => rfl) (fun _ => rfl) (by decide) (by decide) (by decide) ⟨Nat.le_of_ble_eq_true rfl, Nat.le_of_ble_eq_true rfl⟩ (Nat.le_of_ble_eq_true rfl) rfl rfl rfl dX1_init_20 ?_
  refine mx_hp [ob 9 [.ref 1, .ref 3, .ref 5, .ref 7, .int 0, .ref 9, .ref 15, .ref 25, .ref 31, .null, .null, .null, .null], ob 8 [.ref 2], aI 128 ca_14, ob 2 [.ref 4, .int 0, .int 0], zI 768, ob 8 [.ref 6], aI 128 ca_28, ob 2 [.ref 8, .int 0, .int 0], zI 768, ob 0 [.ref 10, .ref 11, .ref 12, .ref 13, .ref 14], zI 6, zI 6, zI 6, zI 6, zI 6, ob 7 [.ref 16, .int 0, .int 0, .ref 17, .ref 18, .ref 19, .ref 20, .ref 21, .ref 22, .ref 23, .ref 24], zI 121, zI 326, zI 326, zI 326, zI 326, zI 326, zI 326, zI 6, zI 390, ob 4 [.int 0, .int 0, .int (-4), .int 0, .ref 26, .ref 27, .ref 28, .ref 29, .ref 30], zL 1956, zL 6, zL 6, zL 6, zL 6, ob 3 [.int 0, .int 0, .ref 32, .ref 33], zI 2117, zI 6, ob 1 [.int (-4), .int (-4), .null], zI 366] rfl ?_
  refine mx_putF rfl fl_X1_18 rfl (by decide) (fun _ => rfl) (fun _ => rfl) dX1_init_22 ?_
  refine mx_hp [ob 9 [.ref 1, .ref 3, .ref 5, .ref 7, .int 0, .ref 9, .ref 15, .ref 25, .ref 31, .null, .null, .null, .null], ob 8 [.ref 2], aI 128 ca_14, ob 2 [.ref 4, .int 0, .int 0], zI 768, ob 8 [.ref 6], aI 128 ca_28, ob 2 [.ref 8, .int 0, .int 0], zI 768, ob 0 [.ref 10, .ref 11, .ref 12, .ref 13, .ref 14], zI 6, zI 6, zI 6, zI 6, zI 6, ob 7 [.ref 16, .int 0, .int 0, .ref 17, .ref 18, .ref 19, .ref 20, .ref 21, .ref 22, .ref 23, .ref 24], zI 121, zI 326, zI 326, zI 326, zI 326, zI 326, zI 326, zI 6, zI 390, ob 4 [.int 0, .int 0, .int (-4), .int 0, .ref 26, .ref 27, .ref 28, .ref 29, .ref 30], zL 1956, zL 6, zL 6, zL 6, zL 6, ob 3 [.int 0, .int 0, .ref 32, .ref 33], zI 2117, zI 6, ob 1 [.int (-4), .int (-4), .ref 35], zI 366] rfl ?_
  exact mx_vret (Nat.le_of_ble_eq_true rfl) (Nat.le_of_ble_eq_true rfl) dX1_init_25
set_option maxRecDepth 100000 in
set_option maxHeartbeats 4000000 in
theorem nX7_init_36 (l : Launch) : mx_M l yX7_init cX7_init 1 none 1 [.ref 36] [ob 9 [.ref 1, .ref 3, .ref 5, .ref 7, .int 0, .ref 9, .ref 15, .ref 25, .ref 31, .ref 34, .null, .null, .null], ob 8 [.ref 2], aI 128 ca_14, ob 2 [.ref 4, .int 0, .int 0], zI 768, ob 8 [.ref 6], aI 128 ca_28, ob 2 [.ref 8, .int 0, .int 0], zI 768, ob 0 [.ref 10, .ref 11, .ref 12, .ref 13, .ref 14], zI 6, zI 6, zI 6, zI 6, zI 6, ob 7 [.ref 16, .int 0, .int 0, .ref 17, .ref 18, .ref 19, .ref 20, .ref 21, .ref 22, .ref 23, .ref 24], zI 121, zI 326, zI 326, zI 326, zI 326, zI 326, zI 326, zI 6, zI 390, ob 4 [.int 0, .int 0, .int (-4), .int 0, .ref 26, .ref 27, .ref 28, .ref 29, .ref 30], zL 1956, zL 6, zL 6, zL 6, zL 6, ob 3 [.int 0, .int 0, .ref 32, .ref 33], zI 2117, zI 6, ob 1 [.int (-4), .int (-4), .ref 35], zI 366, ob 6 [.null, .int 0, .int 0, .int 0, .int 0, .int 0, .int 0, .null, .null]] none [ob 9 [.ref 1, .ref 3, .ref 5, .ref 7, .int 0, .ref 9, .ref 15, .ref 25, .ref 31, .ref 34, .null, .null, .null], ob 8 [.ref 2], aI 128 ca_14, ob 2 [.ref 4, .int 0, .int 0], zI 768, ob 8 [.ref 6], aI 128 ca_28, ob 2 [.ref 8, .int 0, .int 0], zI 768, ob 0 [.ref 10, .ref 11, .ref 12, .ref 13, .ref 14], zI 6, zI 6, zI 6, zI 6, zI 6, ob 7 [.ref 16, .int 0, .int 0, .ref 17, .ref 18, .ref 19, .ref 20, .ref 21, .ref 22, .ref 23, .ref 24], zI 121, zI 326, zI 326, zI 326, zI 326, zI 326, zI 326, zI 6, zI 390, ob 4 [.int 0, .int 0, .int (-4), .int 0, .ref 26, .ref 27, .ref 28, .ref 29, .ref 30], zL 1956, zL 6, zL 6, zL 6, zL 6, ob 3 [.int 0, .int 0, .ref 32, .ref 33], zI 2117, zI 6, ob 1 [.int (-4), .int (-4), .ref 35], zI 366, ob 6 [.ref 37, .int 0, .int 0, .int 0, .int 0, .int 0, .int 0, .ref 38, .ref 39], zI 80, zI 36, zZ 36] 3 152 := by
  refine mx_intro (own := RX7) (nm := "<init>") rfl (Nat.le_of_ble_eq_true rfl) rfl rfl ?_
  refine mx_sub (loc' := [(0, .ref 36)]) [0] rfl ?_
  refine mx_aload_n dX7_init_0 rfl 0 rfl ?_
  refine mx_objInit cl_X7_3 ol_1 ol_2 ⟨Nat.le_of_ble_eq_true rfl, Nat.le_of_ble_eq_true rfl⟩ (Nat.le_of_ble_eq_true rfl) dX7_init_1 ?_
  refine mx_aload_n dX7_init_4 rfl 0 rfl ?_
  refine mx_bipush 80 dX7_init_5 (by decide) ?_
  refine mx_newarr (N := 80) (a0 := (80, .inl fun _ => 0)) 0 al_int rfl (fun _ => rfl) (fun _ => rfl) (by decide) (by decide) (by decide) ⟨Nat.le_of_ble_eq_true rfl, Nat.le_of_ble_eq_true rfl⟩ (Nat.le_of_ble_eq_true rfl) rfl rfl rfl dX7_init_7 ?_
  refine mx_hp [ob 9 [.ref 1, .ref 3, .ref 5, .ref 7, .int 0, .ref 9, .ref 15, .ref 25, .ref 31, .ref 34, .null, .null, .null], ob 8 [.ref 2], aI 128 ca_14, ob 2 [.ref 4, .int 0, .int 0], zI 768, ob 8 [.ref 6], aI 128 ca_28, ob 2 [.ref 8, .int 0, .int 0], zI 768, ob 0 [.ref 10, .ref 11, .ref 12, .ref 13, .ref 14], zI 6, zI 6, zI 6, zI 6, zI 6, ob 7 [.ref 16, .int 0, .int 0, .ref 17, .ref 18, .ref 19, .ref 20, .ref 21, .ref 22, .ref 23, .ref 24], zI 121, zI 326, zI 326, zI 326, zI 326, zI 326, zI 326, zI 6, zI 390, ob 4 [.int 0, .int 0, .int (-4), .int 0, .ref 26, .ref 27, .ref 28, .ref 29, .ref 30], zL 1956, zL 6, zL 6, zL 6, zL 6, ob 3 [.int 0, .int 0, .ref 32, .ref 33], zI 2117, zI 6, ob 1 [.int (-4), .int (-4), .ref 35], zI 366, ob 6 [.null, .int 0, .int 0, .int 0, .int 0, .int 0, .int 0, .null, .null], zI 80] rfl ?_
  refine mx_putF rfl fl_X7_11 rfl (by decide) (fun _ => rfl) (fun _ => rfl) dX7_init_9 ?_
  refine mx_hp [ob 9 [.ref 1, .ref 3, .ref 5, .ref 7, .int 0, .ref 9, .ref 15, .ref 25, .ref 31, .ref 34, .null, .null, .null], ob 8 [.ref 2], aI 128 ca_14, ob 2 [.ref 4, .int 0, .int 0], zI 768, ob 8 [.ref 6], aI 128 ca_28, ob 2 [.ref 8, .int 0, .int 0], zI 768, ob 0 [.ref 10, .ref 11, .ref 12, .ref 13, .ref 14], zI 6, zI 6, zI 6, zI 6, zI 6, ob 7 [.ref 16, .int 0, .int 0, .ref 17, .ref 18, .ref 19, .ref 20, .ref 21, .ref 22, .ref 23, .ref 24], zI 121, zI 326, zI 326, zI 326, zI 326, zI 326, zI 326, zI 6, zI 390, ob 4 [.int 0, .int 0, .int (-4), .int 0, .ref 26, .ref 27, .ref 28, .ref 29, .ref 30], zL 1956, zL 6, zL 6, zL 6, zL 6, ob 3 [.int 0, .int 0, .ref 32, .ref 33], zI 2117, zI 6, ob 1 [.int (-4), .int (-4), .ref 35], zI 366, ob 6 [.ref 37, .int 0, .int 0, .int 0, .int 0, .int 0, .int 0, .null, .null], zI 80] rfl ?_
  refine mx_aload_n dX7_init_12 rfl 0 rfl ?_
  refine mx_iconst 0 dX7_init_13 (by decide) ?_
  refine mx_put fl_X7_15 rfl (by decide) (fun _ => rfl) (fun _ => rfl) dX7_init_14 ?_
  refine mx_hp [ob 9 [.ref 1, .ref 3, .ref 5, .ref 7, .int 0, .ref 9, .ref 15, .ref 25, .ref 31, .ref 34, .null, .null, .null], ob 8 [.ref 2], aI 128 ca_14, ob 2 [.ref 4, .int 0, .int 0], zI 768, ob 8 [.ref 6], aI 128 ca_28, ob 2 [.ref 8, .int 0, .int 0], zI 768, ob 0 [.ref 10, .ref 11, .ref 12, .ref 13, .ref 14], zI 6, zI 6, zI 6, zI 6, zI 6, ob 7 [.ref 16, .int 0, .int 0, .ref 17, .ref 18, .ref 19, .ref 20, .ref 21, .ref 22, .ref 23, .ref 24], zI 121, zI 326, zI 326, zI 326, zI 326, zI 326, zI 326, zI 6, zI 390, ob 4 [.int 0, .int 0, .int (-4), .int 0, .ref 26, .ref 27, .ref 28, .ref 29, .ref 30], zL 1956, zL 6, zL 6, zL 6, zL 6, ob 3 [.int 0, .int 0, .ref 32, .ref 33], zI 2117, zI 6, ob 1 [.int (-4), .int (-4), .ref 35], zI 366, ob 6 [.ref 37, .int 0, .int 0, .int 0, .int 0, .int 0, .int 0, .null, .null], zI 80] rfl ?_
  refine mx_aload_n dX7_init_17 rfl 0 rfl ?_
  refine mx_iconst 0 dX7_init_18 (by decide) ?_
  refine mx_put fl_X7_19 rfl (by decide) (fun _ => rfl) (fun _ => rfl) dX7_init_19 ?_
  refine mx_hp [ob 9 [.ref 1, .ref 3, .ref 5, .ref 7, .int 0, .ref 9, .ref 15, .ref 25, .ref 31, .ref 34, .null, .null, .null], ob 8 [.ref 2], aI 128 ca_14, ob 2 [.ref 4, .int 0, .int 0], zI 768, ob 8 [.ref 6], aI 128 ca_28, ob 2 [.ref 8, .int 0, .int 0], zI 768, ob 0 [.ref 10, .ref 11, .ref 12, .ref 13, .ref 14], zI 6, zI 6, zI 6, zI 6, zI 6, ob 7 [.ref 16, .int 0, .int 0, .ref 17, .ref 18, .ref 19, .ref 20, .ref 21, .ref 22, .ref 23, .ref 24], zI 121, zI 326, zI 326, zI 326, zI 326, zI 326, zI 326, zI 6, zI 390, ob 4 [.int 0, .int 0, .int (-4), .int 0, .ref 26, .ref 27, .ref 28, .ref 29, .ref 30], zL 1956, zL 6, zL 6, zL 6, zL 6, ob 3 [.int 0, .int 0, .ref 32, .ref 33], zI 2117, zI 6, ob 1 [.int (-4), .int (-4), .ref 35], zI 366, ob 6 [.ref 37, .int 0, .int 0, .int 0, .int 0, .int 0, .int 0, .null, .null], zI 80] rfl ?_
  refine mx_aload_n dX7_init_22 rfl 0 rfl ?_
  refine mx_iconst 0 dX7_init_23 (by decide) ?_
  refine mx_put fl_X7_22 rfl (by decide) (fun _ => rfl) (fun _ => rfl) dX7_init_24 ?_
  refine mx_hp [ob 9 [.ref 1, .ref 3, .ref 5, .ref 7, .int 0, .ref 9, .ref 15, .ref 25, .ref 31, .ref 34, .null, .null, .null], ob 8 [.ref 2], aI 128 ca_14, ob 2 [.ref 4, .int 0, .int 0], zI 768, ob 8 [.ref 6], aI 128 ca_28, ob 2 [.ref 8, .int 0, .int 0], zI 768, ob 0 [.ref 10, .ref 11, .ref 12, .ref 13, .ref 14], zI 6, zI 6, zI 6, zI 6, zI 6, ob 7 [.ref 16, .int 0, .int 0, .ref 17, .ref 18, .ref 19, .ref 20, .ref 21, .ref 22, .ref 23, .ref 24], zI 121, zI 326, zI 326, zI 326, zI 326, zI 326, zI 326, zI 6, zI 390, ob 4 [.int 0, .int 0, .int (-4), .int 0, .ref 26, .ref 27, .ref 28, .ref 29, .ref 30], zL 1956, zL 6, zL 6, zL 6, zL 6, ob 3 [.int 0, .int 0, .ref 32, .ref 33], zI 2117, zI 6, ob 1 [.int (-4), .int (-4), .ref 35], zI 366, ob 6 [.ref 37, .int 0, .int 0, .int 0, .int 0, .int 0, .int 0, .null, .null], zI 80] rfl ?_
  refine mx_aload_n dX7_init_27 rfl 0 rfl ?_
  refine mx_iconst 0 dX7_init_28 (by decide) ?_
  refine mx_put fl_X7_25 rfl (by decide) (fun _ => rfl) (fun _ => rfl) dX7_init_29 ?_
  refine mx_hp [ob 9 [.ref 1, .ref 3, .ref 5, .ref 7, .int 0, .ref 9, .ref 15, .ref 25, .ref 31, .ref 34, .null, .null, .null], ob 8 [.ref 2], aI 128 ca_14, ob 2 [.ref 4, .int 0, .int 0], zI 768, ob 8 [.ref 6], aI 128 ca_28, ob 2 [.ref 8, .int 0, .int 0], zI 768, ob 0 [.ref 10, .ref 11, .ref 12, .ref 13, .ref 14], zI 6, zI 6, zI 6, zI 6, zI 6, ob 7 [.ref 16, .int 0, .int 0, .ref 17, .ref 18, .ref 19, .ref 20, .ref 21, .ref 22, .ref 23, .ref 24], zI 121, zI 326, zI 326, zI 326, zI 326, zI 326, zI 326, zI 6, zI 390, ob 4 [.int 0, .int 0, .int (-4), .int 0, .ref 26, .ref 27, .ref 28, .ref 29, .ref 30], zL 1956, zL 6, zL 6, zL 6, zL 6, ob 3 [.int 0, .int 0, .ref 32, .ref 33], zI 2117, zI 6, ob 1 [.int (-4), .int (-4), .ref 35], zI 366, ob 6 [.ref 37, .int 0, .int 0, .int 0, .int 0, .int 0, .int 0, .null, .null], zI 80] rfl ?_
  refine mx_aload_n dX7_init_32 rfl 0 rfl ?_
  refine mx_iconst 0 dX7_init_33 (by decide) ?_
  refine mx_put fl_X7_28 rfl (by decide) (fun _ => rfl) (fun _ => rfl) dX7_init_34 ?_
  refine mx_hp [ob 9 [.ref 1, .ref 3, .ref 5, .ref 7, .int 0, .ref 9, .ref 15, .ref 25, .ref 31, .ref 34, .null, .null, .null], ob 8 [.ref 2], aI 128 ca_14, ob 2 [.ref 4, .int 0, .int 0], zI 768, ob 8 [.ref 6], aI 128 ca_28, ob 2 [.ref 8, .int 0, .int 0], zI 768, ob 0 [.ref 10, .ref 11, .ref 12, .ref 13, .ref 14], zI 6, zI 6, zI 6, zI 6, zI 6, ob 7 [.ref 16, .int 0, .int 0, .ref 17, .ref 18, .ref 19, .ref 20, .ref 21, .ref 22, .ref 23, .ref 24], zI 121, zI 326, zI 326, zI 326, zI 326, zI 326, zI 326, zI 6, zI 390, ob 4 [.int 0, .int 0, .int (-4), .int 0, .ref 26, .ref 27, .ref 28, .ref 29, .ref 30], zL 1956, zL 6, zL 6, zL 6, zL 6, ob 3 [.int 0, .int 0, .ref 32, .ref 33], zI 2117, zI 6, ob 1 [.int (-4), .int (-4), .ref 35], zI 366, ob 6 [.ref 37, .int 0, .int 0, .int 0, .int 0, .int 0, .int 0, .null, .null], zI 80] rfl ?_
  refine mx_aload_n dX7_init_37 rfl 0 rfl ?_
  refine mx_iconst 0 dX7_init_38 (by decide) ?_
  refine mx_put fl_X7_31 rfl (by decide) (fun _ => rfl) (fun _ => rfl) dX7_init_39 ?_
  refine mx_hp [ob 9 [.ref 1, .ref 3, .ref 5, .ref 7, .int 0, .ref 9, .ref 15, .ref 25, .ref 31, .ref 34, .null, .null, .null], ob 8 [.ref 2], aI 128 ca_14, ob 2 [.ref 4, .int 0, .int 0], zI 768, ob 8 [.ref 6], aI 128 ca_28, ob 2 [.ref 8, .int 0, .int 0], zI 768, ob 0 [.ref 10, .ref 11, .ref 12, .ref 13, .ref 14], zI 6, zI 6, zI 6, zI 6, zI 6, ob 7 [.ref 16, .int 0, .int 0, .ref 17, .ref 18, .ref 19, .ref 20, .ref 21, .ref 22, .ref 23, .ref 24], zI 121, zI 326, zI 326, zI 326, zI 326, zI 326, zI 326, zI 6, zI 390, ob 4 [.int 0, .int 0, .int (-4), .int 0, .ref 26, .ref 27, .ref 28, .ref 29, .ref 30], zL 1956, zL 6, zL 6, zL 6, zL 6, ob 3 [.int 0, .int 0, .ref 32, .ref 33], zI 2117, zI 6, ob 1 [.int (-4), .int (-4), .ref 35], zI 366, ob 6 [.ref 37, .int 0, .int 0, .int 0, .int 0, .int 0, .int 0, .null, .null], zI 80] rfl ?_
  refine mx_aload_n dX7_init_42 rfl 0 rfl ?_
  refine mx_bipush 36 dX7_init_43 (by decide) ?_
  refine mx_newarr (N := 36) (a0 := (36, .inl fun _ => 0)) 0 al_int rfl (fun _ => rfl) (fun _ => rfl) (by decide) (by decide) (by decide) ⟨Nat.le_of_ble_eq_true rfl, Nat.le_of_ble_eq_true rfl⟩ (Nat.le_of_ble_eq_true rfl) rfl rfl rfl dX7_init_45 ?_
  refine mx_hp [ob 9 [.ref 1, .ref 3, .ref 5, .ref 7, .int 0, .ref 9, .ref 15, .ref 25, .ref 31, .ref 34, .null, .null, .null], ob 8 [.ref 2], aI 128 ca_14, ob 2 [.ref 4, .int 0, .int 0], zI 768, ob 8 [.ref 6], aI 128 ca_28, ob 2 [.ref 8, .int 0, .int 0], zI 768, ob 0 [.ref 10, .ref 11, .ref 12, .ref 13, .ref 14], zI 6, zI 6, zI 6, zI 6, zI 6, ob 7 [.ref 16, .int 0, .int 0, .ref 17, .ref 18, .ref 19, .ref 20, .ref 21, .ref 22, .ref 23, .ref 24], zI 121, zI 326, zI 326, zI 326, zI 326, zI 326, zI 326, zI 6, zI 390, ob 4 [.int 0, .int 0, .int (-4), .int 0, .ref 26, .ref 27, .ref 28, .ref 29, .ref 30], zL 1956, zL 6, zL 6, zL 6, zL 6, ob 3 [.int 0, .int 0, .ref 32, .ref 33], zI 2117, zI 6, ob 1 [.int (-4), .int (-4), .ref 35], zI 366, ob 6 [.ref 37, .int 0, .int 0, .int 0, .int 0, .int 0, .int 0, .null, .null], zI 80, zI 36] rfl ?_
  refine mx_putF rfl fl_X7_34 rfl (by decide) (fun _ => rfl) (fun _ => rfl) dX7_init_47 ?_
  refine mx_hp [ob 9 [.ref 1, .ref 3, .ref 5, .ref 7, .int 0, .ref 9, .ref 15, .ref 25, .ref 31, .ref 34, .null, .null, .null], ob 8 [.ref 2], aI 128 ca_14, ob 2 [.ref 4, .int 0, .int 0], zI 768, ob 8 [.ref 6], aI 128 ca_28, ob 2 [.ref 8, .int 0, .int 0], zI 768, ob 0 [.ref 10, .ref 11, .ref 12, .ref 13, .ref 14], zI 6, zI 6, zI 6, zI 6, zI 6, ob 7 [.ref 16, .int 0, .int 0, .ref 17, .ref 18, .ref 19, .ref 20, .ref 21, .ref 22, .ref 23, .ref 24], zI 121, zI 326, zI 326, zI 326, zI 326, zI 326, zI 326, zI 6, zI 390, ob 4 [.int 0, .int 0, .int (-4), .int 0, .ref 26, .ref 27, .ref 28, .ref 29, .ref 30], zL 1956, zL 6, zL 6, zL 6, zL 6, ob 3 [.int 0, .int 0, .ref 32, .ref 33], zI 2117, zI 6, ob 1 [.int (-4), .int (-4), .ref 35], zI 366, ob 6 [.ref 37, .int 0, .int 0, .int 0, .int 0, .int 0, .int 0, .ref 38, .null], zI 80, zI 36] rfl ?_
  refine mx_aload_n dX7_init_50 rfl 0 rfl ?_
  refine mx_bipush 36 dX7_init_51 (by decide) ?_
  refine mx_newarr (N := 36) (a0 := (36, .inl fun _ => 0)) 2 al_boolean rfl (fun _ => rfl) (fun _ => rfl) (by decide) (by decide) (by decide) ⟨Nat.le_of_ble_eq_true rfl, Nat.le_of_ble_eq_true rfl⟩ (Nat.le_of_ble_eq_true rfl) rfl rfl rfl dX7_init_53 ?_
  refine mx_hp [ob 9 [.ref 1, .ref 3, .ref 5, .ref 7, .int 0, .ref 9, .ref 15, .ref 25, .ref 31, .ref 34, .null, .null, .null], ob 8 [.ref 2], aI 128 ca_14, ob 2 [.ref 4, .int 0, .int 0], zI 768, ob 8 [.ref 6], aI 128 ca_28, ob 2 [.ref 8, .int 0, .int 0], zI 768, ob 0 [.ref 10, .ref 11, .ref 12, .ref 13, .ref 14], zI 6, zI 6, zI 6, zI 6, zI 6, ob 7 [.ref 16, .int 0, .int 0, .ref 17, .ref 18, .ref 19, .ref 20, .ref 21, .ref 22, .ref 23, .ref 24], zI 121, zI 326, zI 326, zI 326, zI 326, zI 326, zI 326, zI 6, zI 390, ob 4 [.int 0, .int 0, .int (-4), .int 0, .ref 26, .ref 27, .ref 28, .ref 29, .ref 30], zL 1956, zL 6, zL 6, zL 6, zL 6, ob 3 [.int 0, .int 0, .ref 32, .ref 33], zI 2117, zI 6, ob 1 [.int (-4), .int (-4), .ref 35], zI 366, ob 6 [.ref 37, .int 0, .int 0, .int 0, .int 0, .int 0, .int 0, .ref 38, .null], zI 80, zI 36, zZ 36] rfl ?_
  refine mx_putF rfl fl_X7_37 rfl (by decide) (fun _ => rfl) (fun _ => rfl) dX7_init_55 ?_
  refine mx_hp [ob 9 [.ref 1, .ref 3, .ref 5, .ref 7, .int 0, .ref 9, .ref 15, .ref 25, .ref 31, .ref 34, .null, .null, .null], ob 8 [.ref 2], aI 128 ca_14, ob 2 [.ref 4, .int 0, .int 0], zI 768, ob 8 [.ref 6], aI 128 ca_28, ob 2 [.ref 8, .int 0, .int 0], zI 768, ob 0 [.ref 10, .ref 11, .ref 12, .ref 13, .ref 14], zI 6, zI 6, zI 6, zI 6, zI 6, ob 7 [.ref 16, .int 0, .int 0, .ref 17, .ref 18, .ref 19, .ref 20, .ref 21, .ref 22, .ref 23, .ref 24], zI 121, zI 326, zI 326, zI 326, zI 326, zI 326, zI 326, zI 6, zI 390, ob 4 [.int 0, .int 0, .int (-4), .int 0, .ref 26, .ref 27, .ref 28, .ref 29, .ref 30], zL 1956, zL 6, zL 6, zL 6, zL 6, ob 3 [.int 0, .int 0, .ref 32, .ref 33], zI 2117, zI 6, ob 1 [.int (-4), .int (-4), .ref 35], zI 366, ob 6 [.ref 37, .int 0, .int 0, .int 0, .int 0, .int 0, .int 0, .ref 38, .ref 39], zI 80, zI 36, zZ 36] rfl ?_
  exact mx_vret (Nat.le_of_ble_eq_true rfl) (Nat.le_of_ble_eq_true rfl) dX7_init_58
abbrev ca_29 : Nat → Int32 := upd (fun _ => 0) 0 (-1)
abbrev ca_30 : Nat → Int32 := upd ca_29 1 (-1)
abbrev ca_31 : Nat → Int32 := upd ca_30 2 (-1)
abbrev ca_32 : Nat → Int32 := upd ca_31 3 (-1)
set_option maxRecDepth 100000 in
set_option maxHeartbeats 4000000 in
theorem nX6_init_40 (l : Launch) : mx_M l yX6_init cX6_init 1 none 1 [.ref 40] [ob 9 [.ref 1, .ref 3, .ref 5, .ref 7, .int 0, .ref 9, .ref 15, .ref 25, .ref 31, .ref 34, .ref 36, .null, .null], ob 8 [.ref 2], aI 128 ca_14, ob 2 [.ref 4, .int 0, .int 0], zI 768, ob 8 [.ref 6], aI 128 ca_28, ob 2 [.ref 8, .int 0, .int 0], zI 768, ob 0 [.ref 10, .ref 11, .ref 12, .ref 13, .ref 14], zI 6, zI 6, zI 6, zI 6, zI 6, ob 7 [.ref 16, .int 0, .int 0, .ref 17, .ref 18, .ref 19, .ref 20, .ref 21, .ref 22, .ref 23, .ref 24], zI 121, zI 326, zI 326, zI 326, zI 326, zI 326, zI 326, zI 6, zI 390, ob 4 [.int 0, .int 0, .int (-4), .int 0, .ref 26, .ref 27, .ref 28, .ref 29, .ref 30], zL 1956, zL 6, zL 6, zL 6, zL 6, ob 3 [.int 0, .int 0, .ref 32, .ref 33], zI 2117, zI 6, ob 1 [.int (-4), .int (-4), .ref 35], zI 366, ob 6 [.ref 37, .int 0, .int 0, .int 0, .int 0, .int 0, .int 0, .ref 38, .ref 39], zI 80, zI 36, zZ 36, ob 5 [.null, .null, .null]] none [ob 9 [.ref 1, .ref 3, .ref 5, .ref 7, .int 0, .ref 9, .ref 15, .ref 25, .ref 31, .ref 34, .ref 36, .null, .null], ob 8 [.ref 2], aI 128 ca_14, ob 2 [.ref 4, .int 0, .int 0], zI 768, ob 8 [.ref 6], aI 128 ca_28, ob 2 [.ref 8, .int 0, .int 0], zI 768, ob 0 [.ref 10, .ref 11, .ref 12, .ref 13, .ref 14], zI 6, zI 6, zI 6, zI 6, zI 6, ob 7 [.ref 16, .int 0, .int 0, .ref 17, .ref 18, .ref 19, .ref 20, .ref 21, .ref 22, .ref 23, .ref 24], zI 121, zI 326, zI 326, zI 326, zI 326, zI 326, zI 326, zI 6, zI 390, ob 4 [.int 0, .int 0, .int (-4), .int 0, .ref 26, .ref 27, .ref 28, .ref 29, .ref 30], zL 1956, zL 6, zL 6, zL 6, zL 6, ob 3 [.int 0, .int 0, .ref 32, .ref 33], zI 2117, zI 6, ob 1 [.int (-4), .int (-4), .ref 35], zI 366, ob 6 [.ref 37, .int 0, .int 0, .int 0, .int 0, .int 0, .int 0, .ref 38, .ref 39], zI 80, zI 36, zZ 36, ob 5 [.ref 41, .ref 42, .ref 43], aI 4 ca_32, zI 4, zL 96] 3 104 := by
  refine mx_intro (own := RX6) (nm := "<init>") rfl (Nat.le_of_ble_eq_true rfl) rfl rfl ?_
  refine mx_sub (loc' := [(0, .ref 40)]) [0] rfl ?_
  refine mx_aload_n dX6_init_0 rfl 0 rfl ?_
  refine mx_objInit cl_X6_3 ol_1 ol_2 ⟨Nat.le_of_ble_eq_true rfl, Nat.le_of_ble_eq_true rfl⟩ (Nat.le_of_ble_eq_true rfl) dX6_init_1 ?_
  refine mx_aload_n dX6_init_4 rfl 0 rfl ?_
  refine mx_iconst 4 dX6_init_5 (by decide) ?_
  refine mx_newarr (N := 4) (a0 := (4, .inl fun _ => 0)) 0 al_int rfl (fun _ => rfl) (fun _ => rfl) (by decide) (by decide) (by decide) ⟨Nat.le_of_ble_eq_true rfl, Nat.le_of_ble_eq_true rfl⟩ (Nat.le_of_ble_eq_true rfl) rfl rfl rfl dX6_init_6 ?_
  refine mx_hp [ob 9 [.ref 1, .ref 3, .ref 5, .ref 7, .int 0, .ref 9, .ref 15, .ref 25, .ref 31, .ref 34, .ref 36, .null, .null], ob 8 [.ref 2], aI 128 ca_14, ob 2 [.ref 4, .int 0, .int 0], zI 768, ob 8 [.ref 6], aI 128 ca_28, ob 2 [.ref 8, .int 0, .int 0], zI 768, ob 0 [.ref 10, .ref 11, .ref 12, .ref 13, .ref 14], zI 6, zI 6, zI 6, zI 6, zI 6, ob 7 [.ref 16, .int 0, .int 0, .ref 17, .ref 18, .ref 19, .ref 20, .ref 21, .ref 22, .ref 23, .ref 24], zI 121, zI 326, zI 326, zI 326, zI 326, zI 326, zI 326, zI 6, zI 390, ob 4 [.int 0, .int 0, .int (-4), .int 0, .ref 26, .ref 27, .ref 28, .ref 29, .ref 30], zL 1956, zL 6, zL 6, zL 6, zL 6, ob 3 [.int 0, .int 0, .ref 32, .ref 33], zI 2117, zI 6, ob 1 [.int (-4), .int (-4), .ref 35], zI 366, ob 6 [.ref 37, .int 0, .int 0, .int 0, .int 0, .int 0, .int 0, .ref 38, .ref 39], zI 80, zI 36, zZ 36, ob 5 [.null, .null, .null], zI 4] rfl ?_
  refine mx_dup rfl dX6_init_8 ?_
  refine mx_iconst 0 dX6_init_9 (by decide) ?_
  refine mx_iconst (-1) dX6_init_10 (by decide) ?_
  refine mx_iast rfl (by unfold vp_in; decide) dX6_init_11 ?_
  refine mx_hp [ob 9 [.ref 1, .ref 3, .ref 5, .ref 7, .int 0, .ref 9, .ref 15, .ref 25, .ref 31, .ref 34, .ref 36, .null, .null], ob 8 [.ref 2], aI 128 ca_14, ob 2 [.ref 4, .int 0, .int 0], zI 768, ob 8 [.ref 6], aI 128 ca_28, ob 2 [.ref 8, .int 0, .int 0], zI 768, ob 0 [.ref 10, .ref 11, .ref 12, .ref 13, .ref 14], zI 6, zI 6, zI 6, zI 6, zI 6, ob 7 [.ref 16, .int 0, .int 0, .ref 17, .ref 18, .ref 19, .ref 20, .ref 21, .ref 22, .ref 23, .ref 24], zI 121, zI 326, zI 326, zI 326, zI 326, zI 326, zI 326, zI 6, zI 390, ob 4 [.int 0, .int 0, .int (-4), .int 0, .ref 26, .ref 27, .ref 28, .ref 29, .ref 30], zL 1956, zL 6, zL 6, zL 6, zL 6, ob 3 [.int 0, .int 0, .ref 32, .ref 33], zI 2117, zI 6, ob 1 [.int (-4), .int (-4), .ref 35], zI 366, ob 6 [.ref 37, .int 0, .int 0, .int 0, .int 0, .int 0, .int 0, .ref 38, .ref 39], zI 80, zI 36, zZ 36, ob 5 [.null, .null, .null], aI 4 ca_29] rfl ?_
  refine mx_dup rfl dX6_init_12 ?_
  refine mx_iconst 1 dX6_init_13 (by decide) ?_
  refine mx_iconst (-1) dX6_init_14 (by decide) ?_
  refine mx_iast rfl (by unfold vp_in; decide) dX6_init_15 ?_
  refine mx_hp [ob 9 [.ref 1, .ref 3, .ref 5, .ref 7, .int 0, .ref 9, .ref 15, .ref 25, .ref 31, .ref 34, .ref 36, .null, .null], ob 8 [.ref 2], aI 128 ca_14, ob 2 [.ref 4, .int 0, .int 0], zI 768, ob 8 [.ref 6], aI 128 ca_28, ob 2 [.ref 8, .int 0, .int 0], zI 768, ob 0 [.ref 10, .ref 11, .ref 12, .ref 13, .ref 14], zI 6, zI 6, zI 6, zI 6, zI 6, ob 7 [.ref 16, .int 0, .int 0, .ref 17, .ref 18, .ref 19, .ref 20, .ref 21, .ref 22, .ref 23, .ref 24], zI 121, zI 326, zI 326, zI 326, zI 326, zI 326, zI 326, zI 6, zI 390, ob 4 [.int 0, .int 0, .int (-4), .int 0, .ref 26, .ref 27, .ref 28, .ref 29, .ref 30], zL 1956, zL 6, zL 6, zL 6, zL 6, ob 3 [.int 0, .int 0, .ref 32, .ref 33], zI 2117, zI 6, ob 1 [.int (-4), .int (-4), .ref 35], zI 366, ob 6 [.ref 37, .int 0, .int 0, .int 0, .int 0, .int 0, .int 0, .ref 38, .ref 39], zI 80, zI 36, zZ 36, ob 5 [.null, .null, .null], aI 4 ca_30] rfl ?_
  refine mx_dup rfl dX6_init_16 ?_
  refine mx_iconst 2 dX6_init_17 (by decide) ?_
  refine mx_iconst (-1) dX6_init_18 (by decide) ?_
  refine mx_iast rfl (by unfold vp_in; decide) dX6_init_19 ?_
  refine mx_hp [ob 9 [.ref 1, .ref 3, .ref 5, .ref 7, .int 0, .ref 9, .ref 15, .ref 25, .ref 31, .ref 34, .ref 36, .null, .null], ob 8 [.ref 2], aI 128 ca_14, ob 2 [.ref 4, .int 0, .int 0], zI 768, ob 8 [.ref 6], aI 128 ca_28, ob 2 [.ref 8, .int 0, .int 0], zI 768, ob 0 [.ref 10, .ref 11, .ref 12, .ref 13, .ref 14], zI 6, zI 6, zI 6, zI 6, zI 6, ob 7 [.ref 16, .int 0, .int 0, .ref 17, .ref 18, .ref 19, .ref 20, .ref 21, .ref 22, .ref 23, .ref 24], zI 121, zI 326, zI 326, zI 326, zI 326, zI 326, zI 326, zI 6, zI 390, ob 4 [.int 0, .int 0, .int (-4), .int 0, .ref 26, .ref 27, .ref 28, .ref 29, .ref 30], zL 1956, zL 6, zL 6, zL 6, zL 6, ob 3 [.int 0, .int 0, .ref 32, .ref 33], zI 2117, zI 6, ob 1 [.int (-4), .int (-4), .ref 35], zI 366, ob 6 [.ref 37, .int 0, .int 0, .int 0, .int 0, .int 0, .int 0, .ref 38, .ref 39], zI 80, zI 36, zZ 36, ob 5 [.null, .null, .null], aI 4 ca_31] rfl ?_
  refine mx_dup rfl dX6_init_20 ?_
  refine mx_iconst 3 dX6_init_21 (by decide) ?_
  refine mx_iconst (-1) dX6_init_22 (by decide) ?_
  refine mx_iast rfl (by unfold vp_in; decide) dX6_init_23 ?_
  refine mx_hp [ob 9 [.ref 1, .ref 3, .ref 5, .ref 7, .int 0, .ref 9, .ref 15, .ref 25, .ref 31, .ref 34, .ref 36, .null, .null], ob 8 [.ref 2], aI 128 ca_14, ob 2 [.ref 4, .int 0, .int 0], zI 768, ob 8 [.ref 6], aI 128 ca_28, ob 2 [.ref 8, .int 0, .int 0], zI 768, ob 0 [.ref 10, .ref 11, .ref 12, .ref 13, .ref 14], zI 6, zI 6, zI 6, zI 6, zI 6, ob 7 [.ref 16, .int 0, .int 0, .ref 17, .ref 18, .ref 19, .ref 20, .ref 21, .ref 22, .ref 23, .ref 24], zI 121, zI 326, zI 326, zI 326, zI 326, zI 326, zI 326, zI 6, zI 390, ob 4 [.int 0, .int 0, .int (-4), .int 0, .ref 26, .ref 27, .ref 28, .ref 29, .ref 30], zL 1956, zL 6, zL 6, zL 6, zL 6, ob 3 [.int 0, .int 0, .ref 32, .ref 33], zI 2117, zI 6, ob 1 [.int (-4), .int (-4), .ref 35], zI 366, ob 6 [.ref 37, .int 0, .int 0, .int 0, .int 0, .int 0, .int 0, .ref 38, .ref 39], zI 80, zI 36, zZ 36, ob 5 [.null, .null, .null], aI 4 ca_32] rfl ?_
  refine mx_putF rfl fl_X6_11 rfl (by decide) (fun _ => rfl) (fun _ => rfl) dX6_init_24 ?_
  refine mx_hp [ob 9 [.ref 1, .ref 3, .ref 5, .ref 7, .int 0, .ref 9, .ref 15, .ref 25, .ref 31, .ref 34, .ref 36, .null, .null], ob 8 [.ref 2], aI 128 ca_14, ob 2 [.ref 4, .int 0, .int 0], zI 768, ob 8 [.ref 6], aI 128 ca_28, ob 2 [.ref 8, .int 0, .int 0], zI 768, ob 0 [.ref 10, .ref 11, .ref 12, .ref 13, .ref 14], zI 6, zI 6, zI 6, zI 6, zI 6, ob 7 [.ref 16, .int 0, .int 0, .ref 17, .ref 18, .ref 19, .ref 20, .ref 21, .ref 22, .ref 23, .ref 24], zI 121, zI 326, zI 326, zI 326, zI 326, zI 326, zI 326, zI 6, zI 390, ob 4 [.int 0, .int 0, .int (-4), .int 0, .ref 26, .ref 27, .ref 28, .ref 29, .ref 30], zL 1956, zL 6, zL 6, zL 6, zL 6, ob 3 [.int 0, .int 0, .ref 32, .ref 33], zI 2117, zI 6, ob 1 [.int (-4), .int (-4), .ref 35], zI 366, ob 6 [.ref 37, .int 0, .int 0, .int 0, .int 0, .int 0, .int 0, .ref 38, .ref 39], zI 80, zI 36, zZ 36, ob 5 [.ref 41, .null, .null], aI 4 ca_32] rfl ?_
  refine mx_aload_n dX6_init_27 rfl 0 rfl ?_
  refine mx_iconst 4 dX6_init_28 (by decide) ?_
  refine mx_newarr (N := 4) (a0 := (4, .inl fun _ => 0)) 0 al_int rfl (fun _ => rfl) (fun _ => rfl) (by decide) (by decide) (by decide) ⟨Nat.le_of_ble_eq_true rfl, Nat.le_of_ble_eq_true rfl⟩ (Nat.le_of_ble_eq_true rfl) rfl rfl rfl dX6_init_29 ?_
  refine mx_hp [ob 9 [.ref 1, .ref 3, .ref 5, .ref 7, .int 0, .ref 9, .ref 15, .ref 25, .ref 31, .ref 34, .ref 36, .null, .null], ob 8 [.ref 2], aI 128 ca_14, ob 2 [.ref 4, .int 0, .int 0], zI 768, ob 8 [.ref 6], aI 128 ca_28, ob 2 [.ref 8, .int 0, .int 0], zI 768, ob 0 [.ref 10, .ref 11, .ref 12, .ref 13, .ref 14], zI 6, zI 6, zI 6, zI 6, zI 6, ob 7 [.ref 16, .int 0, .int 0, .ref 17, .ref 18, .ref 19, .ref 20, .ref 21, .ref 22, .ref 23, .ref 24], zI 121, zI 326, zI 326, zI 326, zI 326, zI 326, zI 326, zI 6, zI 390, ob 4 [.int 0, .int 0, .int (-4), .int 0, .ref 26, .ref 27, .ref 28, .ref 29, .ref 30], zL 1956, zL 6, zL 6, zL 6, zL 6, ob 3 [.int 0, .int 0, .ref 32, .ref 33], zI 2117, zI 6, ob 1 [.int (-4), .int (-4), .ref 35], zI 366, ob 6 [.ref 37, .int 0, .int 0, .int 0, .int 0, .int 0, .int 0, .ref 38, .ref 39], zI 80, zI 36, zZ 36, ob 5 [.ref 41, .null, .null], aI 4 ca_32, zI 4] rfl ?_
  refine mx_putF rfl fl_X6_15 rfl (by decide) (fun _ => rfl) (fun _ => rfl) dX6_init_31 ?_
  refine mx_hp [ob 9 [.ref 1, .ref 3, .ref 5, .ref 7, .int 0, .ref 9, .ref 15, .ref 25, .ref 31, .ref 34, .ref 36, .null, .null], ob 8 [.ref 2], aI 128 ca_14, ob 2 [.ref 4, .int 0, .int 0], zI 768, ob 8 [.ref 6], aI 128 ca_28, ob 2 [.ref 8, .int 0, .int 0], zI 768, ob 0 [.ref 10, .ref 11, .ref 12, .ref 13, .ref 14], zI 6, zI 6, zI 6, zI 6, zI 6, ob 7 [.ref 16, .int 0, .int 0, .ref 17, .ref 18, .ref 19, .ref 20, .ref 21, .ref 22, .ref 23, .ref 24], zI 121, zI 326, zI 326, zI 326, zI 326, zI 326, zI 326, zI 6, zI 390, ob 4 [.int 0, .int 0, .int (-4), .int 0, .ref 26, .ref 27, .ref 28, .ref 29, .ref 30], zL 1956, zL 6, zL 6, zL 6, zL 6, ob 3 [.int 0, .int 0, .ref 32, .ref 33], zI 2117, zI 6, ob 1 [.int (-4), .int (-4), .ref 35], zI 366, ob 6 [.ref 37, .int 0, .int 0, .int 0, .int 0, .int 0, .int 0, .ref 38, .ref 39], zI 80, zI 36, zZ 36, ob 5 [.ref 41, .ref 42, .null], aI 4 ca_32, zI 4] rfl ?_
  refine mx_aload_n dX6_init_34 rfl 0 rfl ?_
  refine mx_bipush 96 dX6_init_35 (by decide) ?_
  refine mx_newarr (N := 96) (a0 := (96, .inr (.inl fun _ => 0))) 1 al_long rfl (fun _ => rfl) (fun _ => rfl) (by decide) (by decide) (by decide) ⟨Nat.le_of_ble_eq_true rfl, Nat.le_of_ble_eq_true rfl⟩ (Nat.le_of_ble_eq_true rfl) rfl rfl rfl dX6_init_37 ?_
  refine mx_hp [ob 9 [.ref 1, .ref 3, .ref 5, .ref 7, .int 0, .ref 9, .ref 15, .ref 25, .ref 31, .ref 34, .ref 36, .null, .null], ob 8 [.ref 2], aI 128 ca_14, ob 2 [.ref 4, .int 0, .int 0], zI 768, ob 8 [.ref 6], aI 128 ca_28, ob 2 [.ref 8, .int 0, .int 0], zI 768, ob 0 [.ref 10, .ref 11, .ref 12, .ref 13, .ref 14], zI 6, zI 6, zI 6, zI 6, zI 6, ob 7 [.ref 16, .int 0, .int 0, .ref 17, .ref 18, .ref 19, .ref 20, .ref 21, .ref 22, .ref 23, .ref 24], zI 121, zI 326, zI 326, zI 326, zI 326, zI 326, zI 326, zI 6, zI 390, ob 4 [.int 0, .int 0, .int (-4), .int 0, .ref 26, .ref 27, .ref 28, .ref 29, .ref 30], zL 1956, zL 6, zL 6, zL 6, zL 6, ob 3 [.int 0, .int 0, .ref 32, .ref 33], zI 2117, zI 6, ob 1 [.int (-4), .int (-4), .ref 35], zI 366, ob 6 [.ref 37, .int 0, .int 0, .int 0, .int 0, .int 0, .int 0, .ref 38, .ref 39], zI 80, zI 36, zZ 36, ob 5 [.ref 41, .ref 42, .null], aI 4 ca_32, zI 4, zL 96] rfl ?_
  refine mx_putF rfl fl_X6_18 rfl (by decide) (fun _ => rfl) (fun _ => rfl) dX6_init_39 ?_
  refine mx_hp [ob 9 [.ref 1, .ref 3, .ref 5, .ref 7, .int 0, .ref 9, .ref 15, .ref 25, .ref 31, .ref 34, .ref 36, .null, .null], ob 8 [.ref 2], aI 128 ca_14, ob 2 [.ref 4, .int 0, .int 0], zI 768, ob 8 [.ref 6], aI 128 ca_28, ob 2 [.ref 8, .int 0, .int 0], zI 768, ob 0 [.ref 10, .ref 11, .ref 12, .ref 13, .ref 14], zI 6, zI 6, zI 6, zI 6, zI 6, ob 7 [.ref 16, .int 0, .int 0, .ref 17, .ref 18, .ref 19, .ref 20, .ref 21, .ref 22, .ref 23, .ref 24], zI 121, zI 326, zI 326, zI 326, zI 326, zI 326, zI 326, zI 6, zI 390, ob 4 [.int 0, .int 0, .int (-4), .int 0, .ref 26, .ref 27, .ref 28, .ref 29, .ref 30], zL 1956, zL 6, zL 6, zL 6, zL 6, ob 3 [.int 0, .int 0, .ref 32, .ref 33], zI 2117, zI 6, ob 1 [.int (-4), .int (-4), .ref 35], zI 366, ob 6 [.ref 37, .int 0, .int 0, .int 0, .int 0, .int 0, .int 0, .ref 38, .ref 39], zI 80, zI 36, zZ 36, ob 5 [.ref 41, .ref 42, .ref 43], aI 4 ca_32, zI 4, zL 96] rfl ?_
  exact mx_vret (Nat.le_of_ble_eq_true rfl) (Nat.le_of_ble_eq_true rfl) dX6_init_42
set_option maxRecDepth 100000 in
set_option maxHeartbeats 4000000 in
theorem nX10_init_0 (l : Launch) : mx_M l yX10_init cX10_init 1 none 2 [.ref 0] [ob 9 [.null, .null, .null, .null, .int 0, .null, .null, .null, .null, .null, .null, .null, .null]] none [ob 9 [.ref 1, .ref 3, .ref 5, .ref 7, .int 0, .ref 9, .ref 15, .ref 25, .ref 31, .ref 34, .ref 36, .ref 40, .ref 44], ob 8 [.ref 2], aI 128 ca_14, ob 2 [.ref 4, .int 0, .int 0], zI 768, ob 8 [.ref 6], aI 128 ca_28, ob 2 [.ref 8, .int 0, .int 0], zI 768, ob 0 [.ref 10, .ref 11, .ref 12, .ref 13, .ref 14], zI 6, zI 6, zI 6, zI 6, zI 6, ob 7 [.ref 16, .int 0, .int 0, .ref 17, .ref 18, .ref 19, .ref 20, .ref 21, .ref 22, .ref 23, .ref 24], zI 121, zI 326, zI 326, zI 326, zI 326, zI 326, zI 326, zI 6, zI 390, ob 4 [.int 0, .int 0, .int (-4), .int 0, .ref 26, .ref 27, .ref 28, .ref 29, .ref 30], zL 1956, zL 6, zL 6, zL 6, zL 6, ob 3 [.int 0, .int 0, .ref 32, .ref 33], zI 2117, zI 6, ob 1 [.int (-4), .int (-4), .ref 35], zI 366, ob 6 [.ref 37, .int 0, .int 0, .int 0, .int 0, .int 0, .int 0, .ref 38, .ref 39], zI 80, zI 36, zZ 36, ob 5 [.ref 41, .ref 42, .ref 43], aI 4 ca_32, zI 4, zL 96, zI 6] 44 9078 := by
  refine mx_intro (own := RX10) (nm := "<init>") rfl (Nat.le_of_ble_eq_true rfl) rfl rfl ?_
  refine mx_sub (loc' := [(0, .ref 0)]) [0] rfl ?_
  refine mx_aload_n dX10_init_0 rfl 0 rfl ?_
  refine mx_objInit cl_X10_1 ol_1 ol_2 ⟨Nat.le_of_ble_eq_true rfl, Nat.le_of_ble_eq_true rfl⟩ (Nat.le_of_ble_eq_true rfl) dX10_init_1 ?_
  refine mx_aload_n dX10_init_4 rfl 0 rfl ?_
  refine mx_new nl_X10_7 ⟨Nat.le_of_ble_eq_true rfl, Nat.le_of_ble_eq_true rfl⟩ (Nat.le_of_ble_eq_true rfl) rfl rfl rfl dX10_init_5 ?_
  refine mx_hp [ob 9 [.null, .null, .null, .null, .int 0, .null, .null, .null, .null, .null, .null, .null, .null], ob 8 [.null]] rfl ?_
  refine mx_dup rfl dX10_init_8 ?_
  refine mx_callIv (stk := [.ref 1, .ref 0]) (fun _ _ h => h) (nX9_init_1 l) cl_X10_9 rfl ⟨Nat.le_of_ble_eq_true rfl, Nat.le_of_ble_eq_true rfl, Nat.le_of_ble_eq_true rfl, Nat.le_of_ble_eq_true rfl⟩ rfl (Nat.le_of_ble_eq_true rfl) (Nat.le_of_ble_eq_true rfl) rfl rfl dX10_init_9 ?_
  refine mx_putF rfl fl_X10_10 rfl (by decide) (fun _ => rfl) (fun _ => rfl) dX10_init_12 ?_
  refine mx_hp [ob 9 [.ref 1, .null, .null, .null, .int 0, .null, .null, .null, .null, .null, .null, .null, .null], ob 8 [.ref 2], aI 128 ca_14] rfl ?_
  refine mx_aload_n dX10_init_15 rfl 0 rfl ?_
  refine mx_new nl_X10_16 ⟨Nat.le_of_ble_eq_true rfl, Nat.le_of_ble_eq_true rfl⟩ (Nat.le_of_ble_eq_true rfl) rfl rfl rfl dX10_init_16 ?_
  refine mx_hp [ob 9 [.ref 1, .null, .null, .null, .int 0, .null, .null, .null, .null, .null, .null, .null, .null], ob 8 [.ref 2], aI 128 ca_14, ob 2 [.null, .int 0, .int 0]] rfl ?_
  refine mx_dup rfl dX10_init_19 ?_
  refine mx_callINv (stk := [.ref 3, .ref 0]) (fun _ _ h => h) (nX3_init_3 l) cl_X10_18 rfl ⟨Nat.le_of_ble_eq_true rfl, Nat.le_of_ble_eq_true rfl, Nat.le_of_ble_eq_true rfl, Nat.le_of_ble_eq_true rfl⟩ rfl (Nat.le_of_ble_eq_true rfl) (Nat.le_of_ble_eq_true rfl) rfl rfl dX10_init_20 ?_
  refine mx_putF rfl fl_X10_19 rfl (by decide) (fun _ => rfl) (fun _ => rfl) dX10_init_23 ?_
  refine mx_hp [ob 9 [.ref 1, .ref 3, .null, .null, .int 0, .null, .null, .null, .null, .null, .null, .null, .null], ob 8 [.ref 2], aI 128 ca_14, ob 2 [.ref 4, .int 0, .int 0], zI 768] rfl ?_
  refine mx_aload_n dX10_init_26 rfl 0 rfl ?_
  refine mx_new nl_X10_7 ⟨Nat.le_of_ble_eq_true rfl, Nat.le_of_ble_eq_true rfl⟩ (Nat.le_of_ble_eq_true rfl) rfl rfl rfl dX10_init_27 ?_
  refine mx_hp [ob 9 [.ref 1, .ref 3, .null, .null, .int 0, .null, .null, .null, .null, .null, .null, .null, .null], ob 8 [.ref 2], aI 128 ca_14, ob 2 [.ref 4, .int 0, .int 0], zI 768, ob 8 [.null]] rfl ?_
  refine mx_dup rfl dX10_init_30 ?_
  refine mx_callIv (stk := [.ref 5, .ref 0]) (fun _ _ h => h) (nX9_init_5 l) cl_X10_9 rfl ⟨Nat.le_of_ble_eq_true rfl, Nat.le_of_ble_eq_true rfl, Nat.le_of_ble_eq_true rfl, Nat.le_of_ble_eq_true rfl⟩ rfl (Nat.le_of_ble_eq_true rfl) (Nat.le_of_ble_eq_true rfl) rfl rfl dX10_init_31 ?_
  refine mx_putF rfl fl_X10_23 rfl (by decide) (fun _ => rfl) (fun _ => rfl) dX10_init_34 ?_
  refine mx_hp [ob 9 [.ref 1, .ref 3, .ref 5, .null, .int 0, .null, .null, .null, .null, .null, .null, .null, .null], ob 8 [.ref 2], aI 128 ca_14, ob 2 [.ref 4, .int 0, .int 0], zI 768, ob 8 [.ref 6], aI 128 ca_28] rfl ?_
  refine mx_aload_n dX10_init_37 rfl 0 rfl ?_
  refine mx_new nl_X10_16 ⟨Nat.le_of_ble_eq_true rfl, Nat.le_of_ble_eq_true rfl⟩ (Nat.le_of_ble_eq_true rfl) rfl rfl rfl dX10_init_38 ?_
  refine mx_hp [ob 9 [.ref 1, .ref 3, .ref 5, .null, .int 0, .null, .null, .null, .null, .null, .null, .null, .null], ob 8 [.ref 2], aI 128 ca_14, ob 2 [.ref 4, .int 0, .int 0], zI 768, ob 8 [.ref 6], aI 128 ca_28, ob 2 [.null, .int 0, .int 0]] rfl ?_
  refine mx_dup rfl dX10_init_41 ?_
  refine mx_callINv (stk := [.ref 7, .ref 0]) (fun _ _ h => h) (nX3_init_7 l) cl_X10_18 rfl ⟨Nat.le_of_ble_eq_true rfl, Nat.le_of_ble_eq_true rfl, Nat.le_of_ble_eq_true rfl, Nat.le_of_ble_eq_true rfl⟩ rfl (Nat.le_of_ble_eq_true rfl) (Nat.le_of_ble_eq_true rfl) rfl rfl dX10_init_42 ?_
  refine mx_putF rfl fl_X10_26 rfl (by decide) (fun _ => rfl) (fun _ => rfl) dX10_init_45 ?_
  refine mx_hp [ob 9 [.ref 1, .ref 3, .ref 5, .ref 7, .int 0, .null, .null, .null, .null, .null, .null, .null, .null], ob 8 [.ref 2], aI 128 ca_14, ob 2 [.ref 4, .int 0, .int 0], zI 768, ob 8 [.ref 6], aI 128 ca_28, ob 2 [.ref 8, .int 0, .int 0], zI 768] rfl ?_
  refine mx_aload_n dX10_init_48 rfl 0 rfl ?_
  refine mx_iconst 0 dX10_init_49 (by decide) ?_
  refine mx_put fl_X10_29 rfl (by decide) (fun _ => congrArg Value.int (by decide)) (fun _ => rfl) dX10_init_50 ?_
  refine mx_hp [ob 9 [.ref 1, .ref 3, .ref 5, .ref 7, .int 0, .null, .null, .null, .null, .null, .null, .null, .null], ob 8 [.ref 2], aI 128 ca_14, ob 2 [.ref 4, .int 0, .int 0], zI 768, ob 8 [.ref 6], aI 128 ca_28, ob 2 [.ref 8, .int 0, .int 0], zI 768] rfl ?_
  refine mx_aload_n dX10_init_53 rfl 0 rfl ?_
  refine mx_new nl_X10_33 ⟨Nat.le_of_ble_eq_true rfl, Nat.le_of_ble_eq_true rfl⟩ (Nat.le_of_ble_eq_true rfl) rfl rfl rfl dX10_init_54 ?_
  refine mx_hp [ob 9 [.ref 1, .ref 3, .ref 5, .ref 7, .int 0, .null, .null, .null, .null, .null, .null, .null, .null], ob 8 [.ref 2], aI 128 ca_14, ob 2 [.ref 4, .int 0, .int 0], zI 768, ob 8 [.ref 6], aI 128 ca_28, ob 2 [.ref 8, .int 0, .int 0], zI 768, ob 0 [.null, .null, .null, .null, .null]] rfl ?_
  refine mx_dup rfl dX10_init_57 ?_
  refine mx_callINv (stk := [.ref 9, .ref 0]) (fun _ _ h => h) (nX0_init_9 l) cl_X10_35 rfl ⟨Nat.le_of_ble_eq_true rfl, Nat.le_of_ble_eq_true rfl, Nat.le_of_ble_eq_true rfl, Nat.le_of_ble_eq_true rfl⟩ rfl (Nat.le_of_ble_eq_true rfl) (Nat.le_of_ble_eq_true rfl) rfl rfl dX10_init_58 ?_
  refine mx_putF rfl fl_X10_36 rfl (by decide) (fun _ => rfl) (fun _ => rfl) dX10_init_61 ?_
  refine mx_hp [ob 9 [.ref 1, .ref 3, .ref 5, .ref 7, .int 0, .ref 9, .null, .null, .null, .null, .null, .null, .null], ob 8 [.ref 2], aI 128 ca_14, ob 2 [.ref 4, .int 0, .int 0], zI 768, ob 8 [.ref 6], aI 128 ca_28, ob 2 [.ref 8, .int 0, .int 0], zI 768, ob 0 [.ref 10, .ref 11, .ref 12, .ref 13, .ref 14], zI 6, zI 6, zI 6, zI 6, zI 6] rfl ?_
  refine mx_aload_n dX10_init_64 rfl 0 rfl ?_
  refine mx_new nl_X10_40 ⟨Nat.le_of_ble_eq_true rfl, Nat.le_of_ble_eq_true rfl⟩ (Nat.le_of_ble_eq_true rfl) rfl rfl rfl dX10_init_65 ?_
  refine mx_hp [ob 9 [.ref 1, .ref 3, .ref 5, .ref 7, .int 0, .ref 9, .null, .null, .null, .null, .null, .null, .null], ob 8 [.ref 2], aI 128 ca_14, ob 2 [.ref 4, .int 0, .int 0], zI 768, ob 8 [.ref 6], aI 128 ca_28, ob 2 [.ref 8, .int 0, .int 0], zI 768, ob 0 [.ref 10, .ref 11, .ref 12, .ref 13, .ref 14], zI 6, zI 6, zI 6, zI 6, zI 6, ob 7 [.null, .int 0, .int 0, .null, .null, .null, .null, .null, .null, .null, .null]] rfl ?_
  refine mx_dup rfl dX10_init_68 ?_
  refine mx_callINv (stk := [.ref 15, .ref 0]) (fun _ _ h => h) (nX8_init_15 l) cl_X10_42 rfl ⟨Nat.le_of_ble_eq_true rfl, Nat.le_of_ble_eq_true rfl, Nat.le_of_ble_eq_true rfl, Nat.le_of_ble_eq_true rfl⟩ rfl (Nat.le_of_ble_eq_true rfl) (Nat.le_of_ble_eq_true rfl) rfl rfl dX10_init_69 ?_
  refine mx_putF rfl fl_X10_43 rfl (by decide) (fun _ => rfl) (fun _ => rfl) dX10_init_72 ?_
  refine mx_hp [ob 9 [.ref 1, .ref 3, .ref 5, .ref 7, .int 0, .ref 9, .ref 15, .null, .null, .null, .null, .null, .null], ob 8 [.ref 2], aI 128 ca_14, ob 2 [.ref 4, .int 0, .int 0], zI 768, ob 8 [.ref 6], aI 128 ca_28, ob 2 [.ref 8, .int 0, .int 0], zI 768, ob 0 [.ref 10, .ref 11, .ref 12, .ref 13, .ref 14], zI 6, zI 6, zI 6, zI 6, zI 6, ob 7 [.ref 16, .int 0, .int 0, .ref 17, .ref 18, .ref 19, .ref 20, .ref 21, .ref 22, .ref 23, .ref 24], zI 121, zI 326, zI 326, zI 326, zI 326, zI 326, zI 326, zI 6, zI 390] rfl ?_
  refine mx_aload_n dX10_init_75 rfl 0 rfl ?_
  refine mx_new nl_X10_47 ⟨Nat.le_of_ble_eq_true rfl, Nat.le_of_ble_eq_true rfl⟩ (Nat.le_of_ble_eq_true rfl) rfl rfl rfl dX10_init_76 ?_
  refine mx_hp [ob 9 [.ref 1, .ref 3, .ref 5, .ref 7, .int 0, .ref 9, .ref 15, .null, .null, .null, .null, .null, .null], ob 8 [.ref 2], aI 128 ca_14, ob 2 [.ref 4, .int 0, .int 0], zI 768, ob 8 [.ref 6], aI 128 ca_28, ob 2 [.ref 8, .int 0, .int 0], zI 768, ob 0 [.ref 10, .ref 11, .ref 12, .ref 13, .ref 14], zI 6, zI 6, zI 6, zI 6, zI 6, ob 7 [.ref 16, .int 0, .int 0, .ref 17, .ref 18, .ref 19, .ref 20, .ref 21, .ref 22, .ref 23, .ref 24], zI 121, zI 326, zI 326, zI 326, zI 326, zI 326, zI 326, zI 6, zI 390, ob 4 [.int 0, .int 0, .int 0, .int 0, .null, .null, .null, .null, .null]] rfl ?_
  refine mx_dup rfl dX10_init_79 ?_
  refine mx_callINv (stk := [.ref 25, .ref 0]) (fun _ _ h => h) (nX5_init_25 l) cl_X10_49 rfl ⟨Nat.le_of_ble_eq_true rfl, Nat.le_of_ble_eq_true rfl, Nat.le_of_ble_eq_true rfl, Nat.le_of_ble_eq_true rfl⟩ rfl (Nat.le_of_ble_eq_true rfl) (Nat.le_of_ble_eq_true rfl) rfl rfl dX10_init_80 ?_
  refine mx_putF rfl fl_X10_50 rfl (by decide) (fun _ => rfl) (fun _ => rfl) dX10_init_83 ?_
  refine mx_hp [ob 9 [.ref 1, .ref 3, .ref 5, .ref 7, .int 0, .ref 9, .ref 15, .ref 25, .null, .null, .null, .null, .null], ob 8 [.ref 2], aI 128 ca_14, ob 2 [.ref 4, .int 0, .int 0], zI 768, ob 8 [.ref 6], aI 128 ca_28, ob 2 [.ref 8, .int 0, .int 0], zI 768, ob 0 [.ref 10, .ref 11, .ref 12, .ref 13, .ref 14], zI 6, zI 6, zI 6, zI 6, zI 6, ob 7 [.ref 16, .int 0, .int 0, .ref 17, .ref 18, .ref 19, .ref 20, .ref 21, .ref 22, .ref 23, .ref 24], zI 121, zI 326, zI 326, zI 326, zI 326, zI 326, zI 326, zI 6, zI 390, ob 4 [.int 0, .int 0, .int (-4), .int 0, .ref 26, .ref 27, .ref 28, .ref 29, .ref 30], zL 1956, zL 6, zL 6, zL 6, zL 6] rfl ?_
  refine mx_aload_n dX10_init_86 rfl 0 rfl ?_
  refine mx_new nl_X10_54 ⟨Nat.le_of_ble_eq_true rfl, Nat.le_of_ble_eq_true rfl⟩ (Nat.le_of_ble_eq_true rfl) rfl rfl rfl dX10_init_87 ?_
  refine mx_hp [ob 9 [.ref 1, .ref 3, .ref 5, .ref 7, .int 0, .ref 9, .ref 15, .ref 25, .null, .null, .null, .null, .null], ob 8 [.ref 2], aI 128 ca_14, ob 2 [.ref 4, .int 0, .int 0], zI 768, ob 8 [.ref 6], aI 128 ca_28, ob 2 [.ref 8, .int 0, .int 0], zI 768, ob 0 [.ref 10, .ref 11, .ref 12, .ref 13, .ref 14], zI 6, zI 6, zI 6, zI 6, zI 6, ob 7 [.ref 16, .int 0, .int 0, .ref 17, .ref 18, .ref 19, .ref 20, .ref 21, .ref 22, .ref 23, .ref 24], zI 121, zI 326, zI 326, zI 326, zI 326, zI 326, zI 326, zI 6, zI 390, ob 4 [.int 0, .int 0, .int (-4), .int 0, .ref 26, .ref 27, .ref 28, .ref 29, .ref 30], zL 1956, zL 6, zL 6, zL 6, zL 6, ob 3 [.int 0, .int 0, .null, .null]] rfl ?_
  refine mx_dup rfl dX10_init_90 ?_
  refine mx_callINv (stk := [.ref 31, .ref 0]) (fun _ _ h => h) (nX4_init_31 l) cl_X10_56 rfl ⟨Nat.le_of_ble_eq_true rfl, Nat.le_of_ble_eq_true rfl, Nat.le_of_ble_eq_true rfl, Nat.le_of_ble_eq_true rfl⟩ rfl (Nat.le_of_ble_eq_true rfl) (Nat.le_of_ble_eq_true rfl) rfl rfl dX10_init_91 ?_
  refine mx_putF rfl fl_X10_57 rfl (by decide) (fun _ => rfl) (fun _ => rfl) dX10_init_94 ?_
  refine mx_hp [ob 9 [.ref 1, .ref 3, .ref 5, .ref 7, .int 0, .ref 9, .ref 15, .ref 25, .ref 31, .null, .null, .null, .null], ob 8 [.ref 2], aI 128 ca_14, ob 2 [.ref 4, .int 0, .int 0], zI 768, ob 8 [.ref 6], aI 128 ca_28, ob 2 [.ref 8, .int 0, .int 0], zI 768, ob 0 [.ref 10, .ref 11, .ref 12, .ref 13, .ref 14], zI 6, zI 6, zI 6, zI 6, zI 6, ob 7 [.ref 16, .int 0, .int 0, .ref 17, .ref 18, .ref 19, .ref 20, .ref 21, .ref 22, .ref 23, .ref 24], zI 121, zI 326, zI 326, zI 326, zI 326, zI 326, zI 326, zI 6, zI 390, ob 4 [.int 0, .int 0, .int (-4), .int 0, .ref 26, .ref 27, .ref 28, .ref 29, .ref 30], zL 1956, zL 6, zL 6, zL 6, zL 6, ob 3 [.int 0, .int 0, .ref 32, .ref 33], zI 2117, zI 6] rfl ?_
  refine mx_aload_n dX10_init_97 rfl 0 rfl ?_
  refine mx_new nl_X10_61 ⟨Nat.le_of_ble_eq_true rfl, Nat.le_of_ble_eq_true rfl⟩ (Nat.le_of_ble_eq_true rfl) rfl rfl rfl dX10_init_98 ?_
  refine mx_hp [ob 9 [.ref 1, .ref 3, .ref 5, .ref 7, .int 0, .ref 9, .ref 15, .ref 25, .ref 31, .null, .null, .null, .null], ob 8 [.ref 2], aI 128 ca_14, ob 2 [.ref 4, .int 0, .int 0], zI 768, ob 8 [.ref 6], aI 128 ca_28, ob 2 [.ref 8, .int 0, .int 0], zI 768, ob 0 [.ref 10, .ref 11, .ref 12, .ref 13, .ref 14], zI 6, zI 6, zI 6, zI 6, zI 6, ob 7 [.ref 16, .int 0, .int 0, .ref 17, .ref 18, .ref 19, .ref 20, .ref 21, .ref 22, .ref 23, .ref 24], zI 121, zI 326, zI 326, zI 326, zI 326, zI 326, zI 326, zI 6, zI 390, ob 4 [.int 0, .int 0, .int (-4), .int 0, .ref 26, .ref 27, .ref 28, .ref 29, .ref 30], zL 1956, zL 6, zL 6, zL 6, zL 6, ob 3 [.int 0, .int 0, .ref 32, .ref 33], zI 2117, zI 6, ob 1 [.int 0, .int 0, .null]] rfl ?_
  refine mx_dup rfl dX10_init_101 ?_
  refine mx_callINv (stk := [.ref 34, .ref 0]) (fun _ _ h => h) (nX1_init_34 l) cl_X10_63 rfl ⟨Nat.le_of_ble_eq_true rfl, Nat.le_of_ble_eq_true rfl, Nat.le_of_ble_eq_true rfl, Nat.le_of_ble_eq_true rfl⟩ rfl (Nat.le_of_ble_eq_true rfl) (Nat.le_of_ble_eq_true rfl) rfl rfl dX10_init_102 ?_
  refine mx_putF rfl fl_X10_64 rfl (by decide) (fun _ => rfl) (fun _ => rfl) dX10_init_105 ?_
  refine mx_hp [ob 9 [.ref 1, .ref 3, .ref 5, .ref 7, .int 0, .ref 9, .ref 15, .ref 25, .ref 31, .ref 34, .null, .null, .null], ob 8 [.ref 2], aI 128 ca_14, ob 2 [.ref 4, .int 0, .int 0], zI 768, ob 8 [.ref 6], aI 128 ca_28, ob 2 [.ref 8, .int 0, .int 0], zI 768, ob 0 [.ref 10, .ref 11, .ref 12, .ref 13, .ref 14], zI 6, zI 6, zI 6, zI 6, zI 6, ob 7 [.ref 16, .int 0, .int 0, .ref 17, .ref 18, .ref 19, .ref 20, .ref 21, .ref 22, .ref 23, .ref 24], zI 121, zI 326, zI 326, zI 326, zI 326, zI 326, zI 326, zI 6, zI 390, ob 4 [.int 0, .int 0, .int (-4), .int 0, .ref 26, .ref 27, .ref 28, .ref 29, .ref 30], zL 1956, zL 6, zL 6, zL 6, zL 6, ob 3 [.int 0, .int 0, .ref 32, .ref 33], zI 2117, zI 6, ob 1 [.int (-4), .int (-4), .ref 35], zI 366] rfl ?_
  refine mx_aload_n dX10_init_108 rfl 0 rfl ?_
  refine mx_new nl_X10_68 ⟨Nat.le_of_ble_eq_true rfl, Nat.le_of_ble_eq_true rfl⟩ (Nat.le_of_ble_eq_true rfl) rfl rfl rfl dX10_init_109 ?_
  refine mx_hp [ob 9 [.ref 1, .ref 3, .ref 5, .ref 7, .int 0, .ref 9, .ref 15, .ref 25, .ref 31, .ref 34, .null, .null, .null], ob 8 [.ref 2], aI 128 ca_14, ob 2 [.ref 4, .int 0, .int 0], zI 768, ob 8 [.ref 6], aI 128 ca_28, ob 2 [.ref 8, .int 0, .int 0], zI 768, ob 0 [.ref 10, .ref 11, .ref 12, .ref 13, .ref 14], zI 6, zI 6, zI 6, zI 6, zI 6, ob 7 [.ref 16, .int 0, .int 0, .ref 17, .ref 18, .ref 19, .ref 20, .ref 21, .ref 22, .ref 23, .ref 24], zI 121, zI 326, zI 326, zI 326, zI 326, zI 326, zI 326, zI 6, zI 390, ob 4 [.int 0, .int 0, .int (-4), .int 0, .ref 26, .ref 27, .ref 28, .ref 29, .ref 30], zL 1956, zL 6, zL 6, zL 6, zL 6, ob 3 [.int 0, .int 0, .ref 32, .ref 33], zI 2117, zI 6, ob 1 [.int (-4), .int (-4), .ref 35], zI 366, ob 6 [.null, .int 0, .int 0, .int 0, .int 0, .int 0, .int 0, .null, .null]] rfl ?_
  refine mx_dup rfl dX10_init_112 ?_
  refine mx_callINv (stk := [.ref 36, .ref 0]) (fun _ _ h => h) (nX7_init_36 l) cl_X10_70 rfl ⟨Nat.le_of_ble_eq_true rfl, Nat.le_of_ble_eq_true rfl, Nat.le_of_ble_eq_true rfl, Nat.le_of_ble_eq_true rfl⟩ rfl (Nat.le_of_ble_eq_true rfl) (Nat.le_of_ble_eq_true rfl) rfl rfl dX10_init_113 ?_
  refine mx_putF rfl fl_X10_71 rfl (by decide) (fun _ => rfl) (fun _ => rfl) dX10_init_116 ?_
  refine mx_hp [ob 9 [.ref 1, .ref 3, .ref 5, .ref 7, .int 0, .ref 9, .ref 15, .ref 25, .ref 31, .ref 34, .ref 36, .null, .null], ob 8 [.ref 2], aI 128 ca_14, ob 2 [.ref 4, .int 0, .int 0], zI 768, ob 8 [.ref 6], aI 128 ca_28, ob 2 [.ref 8, .int 0, .int 0], zI 768, ob 0 [.ref 10, .ref 11, .ref 12, .ref 13, .ref 14], zI 6, zI 6, zI 6, zI 6, zI 6, ob 7 [.ref 16, .int 0, .int 0, .ref 17, .ref 18, .ref 19, .ref 20, .ref 21, .ref 22, .ref 23, .ref 24], zI 121, zI 326, zI 326, zI 326, zI 326, zI 326, zI 326, zI 6, zI 390, ob 4 [.int 0, .int 0, .int (-4), .int 0, .ref 26, .ref 27, .ref 28, .ref 29, .ref 30], zL 1956, zL 6, zL 6, zL 6, zL 6, ob 3 [.int 0, .int 0, .ref 32, .ref 33], zI 2117, zI 6, ob 1 [.int (-4), .int (-4), .ref 35], zI 366, ob 6 [.ref 37, .int 0, .int 0, .int 0, .int 0, .int 0, .int 0, .ref 38, .ref 39], zI 80, zI 36, zZ 36] rfl ?_
  refine mx_aload_n dX10_init_119 rfl 0 rfl ?_
  refine mx_new nl_X10_75 ⟨Nat.le_of_ble_eq_true rfl, Nat.le_of_ble_eq_true rfl⟩ (Nat.le_of_ble_eq_true rfl) rfl rfl rfl dX10_init_120 ?_
  refine mx_hp [ob 9 [.ref 1, .ref 3, .ref 5, .ref 7, .int 0, .ref 9, .ref 15, .ref 25, .ref 31, .ref 34, .ref 36, .null, .null], ob 8 [.ref 2], aI 128 ca_14, ob 2 [.ref 4, .int 0, .int 0], zI 768, ob 8 [.ref 6], aI 128 ca_28, ob 2 [.ref 8, .int 0, .int 0], zI 768, ob 0 [.ref 10, .ref 11, .ref 12, .ref 13, .ref 14], zI 6, zI 6, zI 6, zI 6, zI 6, ob 7 [.ref 16, .int 0, .int 0, .ref 17, .ref 18, .ref 19, .ref 20, .ref 21, .ref 22, .ref 23, .ref 24], zI 121, zI 326, zI 326, zI 326, zI 326, zI 326, zI 326, zI 6, zI 390, ob 4 [.int 0, .int 0, .int (-4), .int 0, .ref 26, .ref 27, .ref 28, .ref 29, .ref 30], zL 1956, zL 6, zL 6, zL 6, zL 6, ob 3 [.int 0, .int 0, .ref 32, .ref 33], zI 2117, zI 6, ob 1 [.int (-4), .int (-4), .ref 35], zI 366, ob 6 [.ref 37, .int 0, .int 0, .int 0, .int 0, .int 0, .int 0, .ref 38, .ref 39], zI 80, zI 36, zZ 36, ob 5 [.null, .null, .null]] rfl ?_
  refine mx_dup rfl dX10_init_123 ?_
  refine mx_callINv (stk := [.ref 40, .ref 0]) (fun _ _ h => h) (nX6_init_40 l) cl_X10_77 rfl ⟨Nat.le_of_ble_eq_true rfl, Nat.le_of_ble_eq_true rfl, Nat.le_of_ble_eq_true rfl, Nat.le_of_ble_eq_true rfl⟩ rfl (Nat.le_of_ble_eq_true rfl) (Nat.le_of_ble_eq_true rfl) rfl rfl dX10_init_124 ?_
  refine mx_putF rfl fl_X10_78 rfl (by decide) (fun _ => rfl) (fun _ => rfl) dX10_init_127 ?_
  refine mx_hp [ob 9 [.ref 1, .ref 3, .ref 5, .ref 7, .int 0, .ref 9, .ref 15, .ref 25, .ref 31, .ref 34, .ref 36, .ref 40, .null], ob 8 [.ref 2], aI 128 ca_14, ob 2 [.ref 4, .int 0, .int 0], zI 768, ob 8 [.ref 6], aI 128 ca_28, ob 2 [.ref 8, .int 0, .int 0], zI 768, ob 0 [.ref 10, .ref 11, .ref 12, .ref 13, .ref 14], zI 6, zI 6, zI 6, zI 6, zI 6, ob 7 [.ref 16, .int 0, .int 0, .ref 17, .ref 18, .ref 19, .ref 20, .ref 21, .ref 22, .ref 23, .ref 24], zI 121, zI 326, zI 326, zI 326, zI 326, zI 326, zI 326, zI 6, zI 390, ob 4 [.int 0, .int 0, .int (-4), .int 0, .ref 26, .ref 27, .ref 28, .ref 29, .ref 30], zL 1956, zL 6, zL 6, zL 6, zL 6, ob 3 [.int 0, .int 0, .ref 32, .ref 33], zI 2117, zI 6, ob 1 [.int (-4), .int (-4), .ref 35], zI 366, ob 6 [.ref 37, .int 0, .int 0, .int 0, .int 0, .int 0, .int 0, .ref 38, .ref 39], zI 80, zI 36, zZ 36, ob 5 [.ref 41, .ref 42, .ref 43], aI 4 ca_32, zI 4, zL 96] rfl ?_
  refine mx_aload_n dX10_init_130 rfl 0 rfl ?_
  refine mx_bipush 6 dX10_init_131 (by decide) ?_
  refine mx_newarr (N := 6) (a0 := (6, .inl fun _ => 0)) 0 al_int rfl (fun _ => rfl) (fun _ => rfl) (by decide) (by decide) (by decide) ⟨Nat.le_of_ble_eq_true rfl, Nat.le_of_ble_eq_true rfl⟩ (Nat.le_of_ble_eq_true rfl) rfl rfl rfl dX10_init_133 ?_
  refine mx_hp [ob 9 [.ref 1, .ref 3, .ref 5, .ref 7, .int 0, .ref 9, .ref 15, .ref 25, .ref 31, .ref 34, .ref 36, .ref 40, .null], ob 8 [.ref 2], aI 128 ca_14, ob 2 [.ref 4, .int 0, .int 0], zI 768, ob 8 [.ref 6], aI 128 ca_28, ob 2 [.ref 8, .int 0, .int 0], zI 768, ob 0 [.ref 10, .ref 11, .ref 12, .ref 13, .ref 14], zI 6, zI 6, zI 6, zI 6, zI 6, ob 7 [.ref 16, .int 0, .int 0, .ref 17, .ref 18, .ref 19, .ref 20, .ref 21, .ref 22, .ref 23, .ref 24], zI 121, zI 326, zI 326, zI 326, zI 326, zI 326, zI 326, zI 6, zI 390, ob 4 [.int 0, .int 0, .int (-4), .int 0, .ref 26, .ref 27, .ref 28, .ref 29, .ref 30], zL 1956, zL 6, zL 6, zL 6, zL 6, ob 3 [.int 0, .int 0, .ref 32, .ref 33], zI 2117, zI 6, ob 1 [.int (-4), .int (-4), .ref 35], zI 366, ob 6 [.ref 37, .int 0, .int 0, .int 0, .int 0, .int 0, .int 0, .ref 38, .ref 39], zI 80, zI 36, zZ 36, ob 5 [.ref 41, .ref 42, .ref 43], aI 4 ca_32, zI 4, zL 96, zI 6] rfl ?_
  refine mx_putF rfl fl_X10_82 rfl (by decide) (fun _ => rfl) (fun _ => rfl) dX10_init_135 ?_
  refine mx_hp [ob 9 [.ref 1, .ref 3, .ref 5, .ref 7, .int 0, .ref 9, .ref 15, .ref 25, .ref 31, .ref 34, .ref 36, .ref 40, .ref 44], ob 8 [.ref 2], aI 128 ca_14, ob 2 [.ref 4, .int 0, .int 0], zI 768, ob 8 [.ref 6], aI 128 ca_28, ob 2 [.ref 8, .int 0, .int 0], zI 768, ob 0 [.ref 10, .ref 11, .ref 12, .ref 13, .ref 14], zI 6, zI 6, zI 6, zI 6, zI 6, ob 7 [.ref 16, .int 0, .int 0, .ref 17, .ref 18, .ref 19, .ref 20, .ref 21, .ref 22, .ref 23, .ref 24], zI 121, zI 326, zI 326, zI 326, zI 326, zI 326, zI 326, zI 6, zI 390, ob 4 [.int 0, .int 0, .int (-4), .int 0, .ref 26, .ref 27, .ref 28, .ref 29, .ref 30], zL 1956, zL 6, zL 6, zL 6, zL 6, ob 3 [.int 0, .int 0, .ref 32, .ref 33], zI 2117, zI 6, ob 1 [.int (-4), .int (-4), .ref 35], zI 366, ob 6 [.ref 37, .int 0, .int 0, .int 0, .int 0, .int 0, .int 0, .ref 38, .ref 39], zI 80, zI 36, zZ 36, ob 5 [.ref 41, .ref 42, .ref 43], aI 4 ca_32, zI 4, zL 96, zI 6] rfl ?_
  exact mx_vret (Nat.le_of_ble_eq_true rfl) (Nat.le_of_ble_eq_true rfl) dX10_init_138
abbrev ca_33 : Nat → Int32 := upd (fun _ => 0) 0 4
abbrev ca_34 : Nat → Int32 := upd ca_33 127 1
abbrev ca_35 : Nat → Int32 := upd ca_34 109 3
abbrev ca_36 : Nat → Int32 := upd ca_35 121 0
abbrev ca_37 : Nat → Int32 := upd ca_36 110 3
abbrev ca_38 : Nat → Int32 := upd ca_37 122 (-4)
abbrev ca_39 : Nat → Int32 := upd ca_38 111 3
abbrev ca_40 : Nat → Int32 := upd ca_39 123 (-4)
abbrev ca_41 : Nat → Int32 := upd ca_40 112 3
abbrev ca_42 : Nat → Int32 := upd ca_41 124 (-4)
abbrev ca_43 : Nat → Int32 := upd ca_42 113 3
abbrev ca_44 : Nat → Int32 := upd ca_43 125 (-4)
abbrev ca_45 : Nat → Int32 := upd ca_44 114 3
abbrev ca_46 : Nat → Int32 := upd ca_45 126 (-4)
abbrev ca_47 : Nat → Int32 := upd (fun _ => 0) 0 (-4)
abbrev ca_48 : Nat → Int32 := upd ca_47 1 (-4)
abbrev ca_49 : Nat → Int32 := upd ca_48 2 (-4)
abbrev ca_50 : Nat → Int32 := upd ca_49 3 (-4)
set_option maxRecDepth 100000 in
set_option maxHeartbeats 4000000 in
theorem nX11_init_45 (l : Launch) : mx_M l yX11_init cX11_init 2 none 1 [.ref 45] [ob 9 [.ref 1, .ref 3, .ref 5, .ref 7, .int 0, .ref 9, .ref 15, .ref 25, .ref 31, .ref 34, .ref 36, .ref 40, .ref 44], ob 8 [.ref 2], aI 128 ca_14, ob 2 [.ref 4, .int 0, .int 0], zI 768, ob 8 [.ref 6], aI 128 ca_28, ob 2 [.ref 8, .int 0, .int 0], zI 768, ob 0 [.ref 10, .ref 11, .ref 12, .ref 13, .ref 14], zI 6, zI 6, zI 6, zI 6, zI 6, ob 7 [.ref 16, .int 0, .int 0, .ref 17, .ref 18, .ref 19, .ref 20, .ref 21, .ref 22, .ref 23, .ref 24], zI 121, zI 326, zI 326, zI 326, zI 326, zI 326, zI 326, zI 6, zI 390, ob 4 [.int 0, .int 0, .int (-4), .int 0, .ref 26, .ref 27, .ref 28, .ref 29, .ref 30], zL 1956, zL 6, zL 6, zL 6, zL 6, ob 3 [.int 0, .int 0, .ref 32, .ref 33], zI 2117, zI 6, ob 1 [.int (-4), .int (-4), .ref 35], zI 366, ob 6 [.ref 37, .int 0, .int 0, .int 0, .int 0, .int 0, .int 0, .ref 38, .ref 39], zI 80, zI 36, zZ 36, ob 5 [.ref 41, .ref 42, .ref 43], aI 4 ca_32, zI 4, zL 96, zI 6, ob 10 [.null, .null, .int 0, .null, .null, .int 0, .null, .int 0, .null, .null, .null, .null, .null, .int 0, .null, .null, .null, .null, .null, .null, .null, .null, .null, .null, .int 0, .int 0, .null, .null]] none [ob 9 [.ref 1, .ref 3, .ref 5, .ref 7, .int 0, .ref 9, .ref 15, .ref 25, .ref 31, .ref 34, .ref 36, .ref 40, .ref 44], ob 8 [.ref 2], aI 128 ca_14, ob 2 [.ref 4, .int 0, .int 0], zI 768, ob 8 [.ref 6], aI 128 ca_28, ob 2 [.ref 8, .int 0, .int 0], zI 768, ob 0 [.ref 10, .ref 11, .ref 12, .ref 13, .ref 14], zI 6, zI 6, zI 6, zI 6, zI 6, ob 7 [.ref 16, .int 0, .int 0, .ref 17, .ref 18, .ref 19, .ref 20, .ref 21, .ref 22, .ref 23, .ref 24], zI 121, zI 326, zI 326, zI 326, zI 326, zI 326, zI 326, zI 6, zI 390, ob 4 [.int 0, .int 0, .int (-4), .int 0, .ref 26, .ref 27, .ref 28, .ref 29, .ref 30], zL 1956, zL 6, zL 6, zL 6, zL 6, ob 3 [.int 0, .int 0, .ref 32, .ref 33], zI 2117, zI 6, ob 1 [.int (-4), .int (-4), .ref 35], zI 366, ob 6 [.ref 37, .int 0, .int 0, .int 0, .int 0, .int 0, .int 0, .ref 38, .ref 39], zI 80, zI 36, zZ 36, ob 5 [.ref 41, .ref 42, .ref 43], aI 4 ca_32, zI 4, zL 96, zI 6, ob 10 [.ref 46, .ref 47, .int 0, .ref 48, .ref 49, .int (-1), .ref 50, .int 0, .ref 51, .ref 52, .ref 53, .ref 54, .ref 55, .int 0, .ref 56, .ref 57, .ref 58, .ref 59, .ref 60, .ref 61, .ref 62, .ref 63, .ref 64, .ref 65, .int 0, .int 0, .ref 66, .ref 67], aI 128 ca_46, zI 768, zI 128, zI 768, zI 80, aI 4 ca_50, zI 4, zL 96, zI 326, zI 326, zI 6, zI 6, zI 366, zI 6, zL 1956, zL 6, zL 6, zL 6, zI 36, zI 65, zI 36, zI 36] 22 5159 := by
  refine mx_intro (own := RX11) (nm := "<init>") rfl (Nat.le_of_ble_eq_true rfl) rfl rfl ?_
  refine mx_sub (loc' := [(0, .ref 45)]) [0] rfl ?_
  refine mx_aload_n dX11_init_0 rfl 0 rfl ?_
  refine mx_objInit cl_X11_1 ol_1 ol_2 ⟨Nat.le_of_ble_eq_true rfl, Nat.le_of_ble_eq_true rfl⟩ (Nat.le_of_ble_eq_true rfl) dX11_init_1 ?_
  refine mx_aload_n dX11_init_4 rfl 0 rfl ?_
  refine mx_sipush 128 dX11_init_5 (by decide) ?_
  refine mx_newarr (N := 128) (a0 := (128, .inl fun _ => 0)) 0 al_int rfl (fun _ => rfl) (fun _ => rfl) (by decide) (by decide) (by decide) ⟨Nat.le_of_ble_eq_true rfl, Nat.le_of_ble_eq_true rfl⟩ (Nat.le_of_ble_eq_true rfl) rfl rfl rfl dX11_init_8 ?_
  refine mx_hp [ob 9 [.ref 1, .ref 3, .ref 5, .ref 7, .int 0, .ref 9, .ref 15, .ref 25, .ref 31, .ref 34, .ref 36, .ref 40, .ref 44], ob 8 [.ref 2], aI 128 ca_14, ob 2 [.ref 4, .int 0, .int 0], zI 768, ob 8 [.ref 6], aI 128 ca_28, ob 2 [.ref 8, .int 0, .int 0], zI 768, ob 0 [.ref 10, .ref 11, .ref 12, .ref 13, .ref 14], zI 6, zI 6, zI 6, zI 6, zI 6, ob 7 [.ref 16, .int 0, .int 0, .ref 17, .ref 18, .ref 19, .ref 20, .ref 21, .ref 22, .ref 23, .ref 24], zI 121, zI 326, zI 326, zI 326, zI 326, zI 326, zI 326, zI 6, zI 390, ob 4 [.int 0, .int 0, .int (-4), .int 0, .ref 26, .ref 27, .ref 28, .ref 29, .ref 30], zL 1956, zL 6, zL 6, zL 6, zL 6, ob 3 [.int 0, .int 0, .ref 32, .ref 33], zI 2117, zI 6, ob 1 [.int (-4), .int (-4), .ref 35], zI 366, ob 6 [.ref 37, .int 0, .int 0, .int 0, .int 0, .int 0, .int 0, .ref 38, .ref 39], zI 80, zI 36, zZ 36, ob 5 [.ref 41, .ref 42, .ref 43], aI 4 ca_32, zI 4, zL 96, zI 6, ob 10 [.null, .null, .int 0, .null, .null, .int 0, .null, .int 0, .null, .null, .null, .null, .null, .int 0, .null, .null, .null, .null, .null, .null, .null, .null, .null, .null, .int 0, .int 0, .null, .null], zI 128] rfl ?_
  refine mx_putF rfl fl_X11_7 rfl (by decide) (fun _ => rfl) (fun _ => rfl) dX11_init_10 ?_
  refine mx_hp [ob 9 [.ref 1, .ref 3, .ref 5, .ref 7, .int 0, .ref 9, .ref 15, .ref 25, .ref 31, .ref 34, .ref 36, .ref 40, .ref 44], ob 8 [.ref 2], aI 128 ca_14, ob 2 [.ref 4, .int 0, .int 0], zI 768, ob 8 [.ref 6], aI 128 ca_28, ob 2 [.ref 8, .int 0, .int 0], zI 768, ob 0 [.ref 10, .ref 11, .ref 12, .ref 13, .ref 14], zI 6, zI 6, zI 6, zI 6, zI 6, ob 7 [.ref 16, .int 0, .int 0, .ref 17, .ref 18, .ref 19, .ref 20, .ref 21, .ref 22, .ref 23, .ref 24], zI 121, zI 326, zI 326, zI 326, zI 326, zI 326, zI 326, zI 6, zI 390, ob 4 [.int 0, .int 0, .int (-4), .int 0, .ref 26, .ref 27, .ref 28, .ref 29, .ref 30], zL 1956, zL 6, zL 6, zL 6, zL 6, ob 3 [.int 0, .int 0, .ref 32, .ref 33], zI 2117, zI 6, ob 1 [.int (-4), .int (-4), .ref 35], zI 366, ob 6 [.ref 37, .int 0, .int 0, .int 0, .int 0, .int 0, .int 0, .ref 38, .ref 39], zI 80, zI 36, zZ 36, ob 5 [.ref 41, .ref 42, .ref 43], aI 4 ca_32, zI 4, zL 96, zI 6, ob 10 [.ref 46, .null, .int 0, .null, .null, .int 0, .null, .int 0, .null, .null, .null, .null, .null, .int 0, .null, .null, .null, .null, .null, .null, .null, .null, .null, .null, .int 0, .int 0, .null, .null], zI 128] rfl ?_
  refine mx_aload_n dX11_init_13 rfl 0 rfl ?_
  refine mx_sipush 768 dX11_init_14 (by decide) ?_
  refine mx_newarr (N := 768) (a0 := (768, .inl fun _ => 0)) 0 al_int rfl (fun _ => rfl) (fun _ => rfl) (by decide) (by decide) (by decide) ⟨Nat.le_of_ble_eq_true rfl, Nat.le_of_ble_eq_true rfl⟩ (Nat.le_of_ble_eq_true rfl) rfl rfl rfl dX11_init_17 ?_
  refine mx_hp [ob 9 [.ref 1, .ref 3, .ref 5, .ref 7, .int 0, .ref 9, .ref 15, .ref 25, .ref 31, .ref 34, .ref 36, .ref 40, .ref 44], ob 8 [.ref 2], aI 128 ca_14, ob 2 [.ref 4, .int 0, .int 0], zI 768, ob 8 [.ref 6], aI 128 ca_28, ob 2 [.ref 8, .int 0, .int 0], zI 768, ob 0 [.ref 10, .ref 11, .ref 12, .ref 13, .ref 14], zI 6, zI 6, zI 6, zI 6, zI 6, ob 7 [.ref 16, .int 0, .int 0, .ref 17, .ref 18, .ref 19, .ref 20, .ref 21, .ref 22, .ref 23, .ref 24], zI 121, zI 326, zI 326, zI 326, zI 326, zI 326, zI 326, zI 6, zI 390, ob 4 [.int 0, .int 0, .int (-4), .int 0, .ref 26, .ref 27, .ref 28, .ref 29, .ref 30], zL 1956, zL 6, zL 6, zL 6, zL 6, ob 3 [.int 0, .int 0, .ref 32, .ref 33], zI 2117, zI 6, ob 1 [.int (-4), .int (-4), .ref 35], zI 366, ob 6 [.ref 37, .int 0, .int 0, .int 0, .int 0, .int 0, .int 0, .ref 38, .ref 39], zI 80, zI 36, zZ 36, ob 5 [.ref 41, .ref 42, .ref 43], aI 4 ca_32, zI 4, zL 96, zI 6, ob 10 [.ref 46, .null, .int 0, .null, .null, .int 0, .null, .int 0, .null, .null, .null, .null, .null, .int 0, .null, .null, .null, .null, .null, .null, .null, .null, .null, .null, .int 0, .int 0, .null, .null], zI 128, zI 768] rfl ?_
  refine mx_putF rfl fl_X11_13 rfl (by decide) (fun _ => rfl) (fun _ => rfl) dX11_init_19 ?_
  refine mx_hp [ob 9 [.ref 1, .ref 3, .ref 5, .ref 7, .int 0, .ref 9, .ref 15, .ref 25, .ref 31, .ref 34, .ref 36, .ref 40, .ref 44], ob 8 [.ref 2], aI 128 ca_14, ob 2 [.ref 4, .int 0, .int 0], zI 768, ob 8 [.ref 6], aI 128 ca_28, ob 2 [.ref 8, .int 0, .int 0], zI 768, ob 0 [.ref 10, .ref 11, .ref 12, .ref 13, .ref 14], zI 6, zI 6, zI 6, zI 6, zI 6, ob 7 [.ref 16, .int 0, .int 0, .ref 17, .ref 18, .ref 19, .ref 20, .ref 21, .ref 22, .ref 23, .ref 24], zI 121, zI 326, zI 326, zI 326, zI 326, zI 326, zI 326, zI 6, zI 390, ob 4 [.int 0, .int 0, .int (-4), .int 0, .ref 26, .ref 27, .ref 28, .ref 29, .ref 30], zL 1956, zL 6, zL 6, zL 6, zL 6, ob 3 [.int 0, .int 0, .ref 32, .ref 33], zI 2117, zI 6, ob 1 [.int (-4), .int (-4), .ref 35], zI 366, ob 6 [.ref 37, .int 0, .int 0, .int 0, .int 0, .int 0, .int 0, .ref 38, .ref 39], zI 80, zI 36, zZ 36, ob 5 [.ref 41, .ref 42, .ref 43], aI 4 ca_32, zI 4, zL 96, zI 6, ob 10 [.ref 46, .ref 47, .int 0, .null, .null, .int 0, .null, .int 0, .null, .null, .null, .null, .null, .int 0, .null, .null, .null, .null, .null, .null, .null, .null, .null, .null, .int 0, .int 0, .null, .null], zI 128, zI 768] rfl ?_
  refine mx_aload_n dX11_init_22 rfl 0 rfl ?_
  refine mx_sipush 128 dX11_init_23 (by decide) ?_
  refine mx_newarr (N := 128) (a0 := (128, .inl fun _ => 0)) 0 al_int rfl (fun _ => rfl) (fun _ => rfl) (by decide) (by decide) (by decide) ⟨Nat.le_of_ble_eq_true rfl, Nat.le_of_ble_eq_true rfl⟩ (Nat.le_of_ble_eq_true rfl) rfl rfl rfl dX11_init_26 ?_
  refine mx_hp [ob 9 [.ref 1, .ref 3, .ref 5, .ref 7, .int 0, .ref 9, .ref 15, .ref 25, .ref 31, .ref 34, .ref 36, .ref 40, .ref 44], ob 8 [.ref 2], aI 128 ca_14, ob 2 [.ref 4, .int 0, .int 0], zI 768, ob 8 [.ref 6], aI 128 ca_28, ob 2 [.ref 8, .int 0, .int 0], zI 768, ob 0 [.ref 10, .ref 11, .ref 12, .ref 13, .ref 14], zI 6, zI 6, zI 6, zI 6, zI 6, ob 7 [.ref 16, .int 0, .int 0, .ref 17, .ref 18, .ref 19, .ref 20, .ref 21, .ref 22, .ref 23, .ref 24], zI 121, zI 326, zI 326, zI 326, zI 326, zI 326, zI 326, zI 6, zI 390, ob 4 [.int 0, .int 0, .int (-4), .int 0, .ref 26, .ref 27, .ref 28, .ref 29, .ref 30], zL 1956, zL 6, zL 6, zL 6, zL 6, ob 3 [.int 0, .int 0, .ref 32, .ref 33], zI 2117, zI 6, ob 1 [.int (-4), .int (-4), .ref 35], zI 366, ob 6 [.ref 37, .int 0, .int 0, .int 0, .int 0, .int 0, .int 0, .ref 38, .ref 39], zI 80, zI 36, zZ 36, ob 5 [.ref 41, .ref 42, .ref 43], aI 4 ca_32, zI 4, zL 96, zI 6, ob 10 [.ref 46, .ref 47, .int 0, .null, .null, .int 0, .null, .int 0, .null, .null, .null, .null, .null, .int 0, .null, .null, .null, .null, .null, .null, .null, .null, .null, .null, .int 0, .int 0, .null, .null], zI 128, zI 768, zI 128] rfl ?_
  refine mx_putF rfl fl_X11_16 rfl (by decide) (fun _ => rfl) (fun _ => rfl) dX11_init_28 ?_
  refine mx_hp [ob 9 [.ref 1, .ref 3, .ref 5, .ref 7, .int 0, .ref 9, .ref 15, .ref 25, .ref 31, .ref 34, .ref 36, .ref 40, .ref 44], ob 8 [.ref 2], aI 128 ca_14, ob 2 [.ref 4, .int 0, .int 0], zI 768, ob 8 [.ref 6], aI 128 ca_28, ob 2 [.ref 8, .int 0, .int 0], zI 768, ob 0 [.ref 10, .ref 11, .ref 12, .ref 13, .ref 14], zI 6, zI 6, zI 6, zI 6, zI 6, ob 7 [.ref 16, .int 0, .int 0, .ref 17, .ref 18, .ref 19, .ref 20, .ref 21, .ref 22, .ref 23, .ref 24], zI 121, zI 326, zI 326, zI 326, zI 326, zI 326, zI 326, zI 6, zI 390, ob 4 [.int 0, .int 0, .int (-4), .int 0, .ref 26, .ref 27, .ref 28, .ref 29, .ref 30], zL 1956, zL 6, zL 6, zL 6, zL 6, ob 3 [.int 0, .int 0, .ref 32, .ref 33], zI 2117, zI 6, ob 1 [.int (-4), .int (-4), .ref 35], zI 366, ob 6 [.ref 37, .int 0, .int 0, .int 0, .int 0, .int 0, .int 0, .ref 38, .ref 39], zI 80, zI 36, zZ 36, ob 5 [.ref 41, .ref 42, .ref 43], aI 4 ca_32, zI 4, zL 96, zI 6, ob 10 [.ref 46, .ref 47, .int 0, .ref 48, .null, .int 0, .null, .int 0, .null, .null, .null, .null, .null, .int 0, .null, .null, .null, .null, .null, .null, .null, .null, .null, .null, .int 0, .int 0, .null, .null], zI 128, zI 768, zI 128] rfl ?_
  refine mx_aload_n dX11_init_31 rfl 0 rfl ?_
  refine mx_sipush 768 dX11_init_32 (by decide) ?_
  refine mx_newarr (N := 768) (a0 := (768, .inl fun _ => 0)) 0 al_int rfl (fun _ => rfl) (fun _ => rfl) (by decide) (by decide) (by decide) ⟨Nat.le_of_ble_eq_true rfl, Nat.le_of_ble_eq_true rfl⟩ (Nat.le_of_ble_eq_true rfl) rfl rfl rfl dX11_init_35 ?_
  refine mx_hp [ob 9 [.ref 1, .ref 3, .ref 5, .ref 7, .int 0, .ref 9, .ref 15, .ref 25, .ref 31, .ref 34, .ref 36, .ref 40, .ref 44], ob 8 [.ref 2], aI 128 ca_14, ob 2 [.ref 4, .int 0, .int 0], zI 768, ob 8 [.ref 6], aI 128 ca_28, ob 2 [.ref 8, .int 0, .int 0], zI 768, ob 0 [.ref 10, .ref 11, .ref 12, .ref 13, .ref 14], zI 6, zI 6, zI 6, zI 6, zI 6, ob 7 [.ref 16, .int 0, .int 0, .ref 17, .ref 18, .ref 19, .ref 20, .ref 21, .ref 22, .ref 23, .ref 24], zI 121, zI 326, zI 326, zI 326, zI 326, zI 326, zI 326, zI 6, zI 390, ob 4 [.int 0, .int 0, .int (-4), .int 0, .ref 26, .ref 27, .ref 28, .ref 29, .ref 30], zL 1956, zL 6, zL 6, zL 6, zL 6, ob 3 [.int 0, .int 0, .ref 32, .ref 33], zI 2117, zI 6, ob 1 [.int (-4), .int (-4), .ref 35], zI 366, ob 6 [.ref 37, .int 0, .int 0, .int 0, .int 0, .int 0, .int 0, .ref 38, .ref 39], zI 80, zI 36, zZ 36, ob 5 [.ref 41, .ref 42, .ref 43], aI 4 ca_32, zI 4, zL 96, zI 6, ob 10 [.ref 46, .ref 47, .int 0, .ref 48, .null, .int 0, .null, .int 0, .null, .null, .null, .null, .null, .int 0, .null, .null, .null, .null, .null, .null, .null, .null, .null, .null, .int 0, .int 0, .null, .null], zI 128, zI 768, zI 128, zI 768] rfl ?_
  refine mx_putF rfl fl_X11_19 rfl (by decide) (fun _ => rfl) (fun _ => rfl) dX11_init_37 ?_
  refine mx_hp [ob 9 [.ref 1, .ref 3, .ref 5, .ref 7, .int 0, .ref 9, .ref 15, .ref 25, .ref 31, .ref 34, .ref 36, .ref 40, .ref 44], ob 8 [.ref 2], aI 128 ca_14, ob 2 [.ref 4, .int 0, .int 0], zI 768, ob 8 [.ref 6], aI 128 ca_28, ob 2 [.ref 8, .int 0, .int 0], zI 768, ob 0 [.ref 10, .ref 11, .ref 12, .ref 13, .ref 14], zI 6, zI 6, zI 6, zI 6, zI 6, ob 7 [.ref 16, .int 0, .int 0, .ref 17, .ref 18, .ref 19, .ref 20, .ref 21, .ref 22, .ref 23, .ref 24], zI 121, zI 326, zI 326, zI 326, zI 326, zI 326, zI 326, zI 6, zI 390, ob 4 [.int 0, .int 0, .int (-4), .int 0, .ref 26, .ref 27, .ref 28, .ref 29, .ref 30], zL 1956, zL 6, zL 6, zL 6, zL 6, ob 3 [.int 0, .int 0, .ref 32, .ref 33], zI 2117, zI 6, ob 1 [.int (-4), .int (-4), .ref 35], zI 366, ob 6 [.ref 37, .int 0, .int 0, .int 0, .int 0, .int 0, .int 0, .ref 38, .ref 39], zI 80, zI 36, zZ 36, ob 5 [.ref 41, .ref 42, .ref 43], aI 4 ca_32, zI 4, zL 96, zI 6, ob 10 [.ref 46, .ref 47, .int 0, .ref 48, .ref 49, .int 0, .null, .int 0, .null, .null, .null, .null, .null, .int 0, .null, .null, .null, .null, .null, .null, .null, .null, .null, .null, .int 0, .int 0, .null, .null], zI 128, zI 768, zI 128, zI 768] rfl ?_
  refine mx_aload_n dX11_init_40 rfl 0 rfl ?_
  refine mx_iconst (-1) dX11_init_41 (by decide) ?_
  refine mx_put fl_X11_22 rfl (by decide) (fun _ => rfl) (fun _ => rfl) dX11_init_42 ?_
  refine mx_hp [ob 9 [.ref 1, .ref 3, .ref 5, .ref 7, .int 0, .ref 9, .ref 15, .ref 25, .ref 31, .ref 34, .ref 36, .ref 40, .ref 44], ob 8 [.ref 2], aI 128 ca_14, ob 2 [.ref 4, .int 0, .int 0], zI 768, ob 8 [.ref 6], aI 128 ca_28, ob 2 [.ref 8, .int 0, .int 0], zI 768, ob 0 [.ref 10, .ref 11, .ref 12, .ref 13, .ref 14], zI 6, zI 6, zI 6, zI 6, zI 6, ob 7 [.ref 16, .int 0, .int 0, .ref 17, .ref 18, .ref 19, .ref 20, .ref 21, .ref 22, .ref 23, .ref 24], zI 121, zI 326, zI 326, zI 326, zI 326, zI 326, zI 326, zI 6, zI 390, ob 4 [.int 0, .int 0, .int (-4), .int 0, .ref 26, .ref 27, .ref 28, .ref 29, .ref 30], zL 1956, zL 6, zL 6, zL 6, zL 6, ob 3 [.int 0, .int 0, .ref 32, .ref 33], zI 2117, zI 6, ob 1 [.int (-4), .int (-4), .ref 35], zI 366, ob 6 [.ref 37, .int 0, .int 0, .int 0, .int 0, .int 0, .int 0, .ref 38, .ref 39], zI 80, zI 36, zZ 36, ob 5 [.ref 41, .ref 42, .ref 43], aI 4 ca_32, zI 4, zL 96, zI 6, ob 10 [.ref 46, .ref 47, .int 0, .ref 48, .ref 49, .int (-1), .null, .int 0, .null, .null, .null, .null, .null, .int 0, .null, .null, .null, .null, .null, .null, .null, .null, .null, .null, .int 0, .int 0, .null, .null], zI 128, zI 768, zI 128, zI 768] rfl ?_
  refine mx_aload_n dX11_init_45 rfl 0 rfl ?_
  refine mx_bipush 80 dX11_init_46 (by decide) ?_
  refine mx_newarr (N := 80) (a0 := (80, .inl fun _ => 0)) 0 al_int rfl (fun _ => rfl) (fun _ => rfl) (by decide) (by decide) (by decide) ⟨Nat.le_of_ble_eq_true rfl, Nat.le_of_ble_eq_true rfl⟩ (Nat.le_of_ble_eq_true rfl) rfl rfl rfl dX11_init_48 ?_
  refine mx_hp [ob 9 [.ref 1, .ref 3, .ref 5, .ref 7, .int 0, .ref 9, .ref 15, .ref 25, .ref 31, .ref 34, .ref 36, .ref 40, .ref 44], ob 8 [.ref 2], aI 128 ca_14, ob 2 [.ref 4, .int 0, .int 0], zI 768, ob 8 [.ref 6], aI 128 ca_28, ob 2 [.ref 8, .int 0, .int 0], zI 768, ob 0 [.ref 10, .ref 11, .ref 12, .ref 13, .ref 14], zI 6, zI 6, zI 6, zI 6, zI 6, ob 7 [.ref 16, .int 0, .int 0, .ref 17, .ref 18, .ref 19, .ref 20, .ref 21, .ref 22, .ref 23, .ref 24], zI 121, zI 326, zI 326, zI 326, zI 326, zI 326, zI 326, zI 6, zI 390, ob 4 [.int 0, .int 0, .int (-4), .int 0, .ref 26, .ref 27, .ref 28, .ref 29, .ref 30], zL 1956, zL 6, zL 6, zL 6, zL 6, ob 3 [.int 0, .int 0, .ref 32, .ref 33], zI 2117, zI 6, ob 1 [.int (-4), .int (-4), .ref 35], zI 366, ob 6 [.ref 37, .int 0, .int 0, .int 0, .int 0, .int 0, .int 0, .ref 38, .ref 39], zI 80, zI 36, zZ 36, ob 5 [.ref 41, .ref 42, .ref 43], aI 4 ca_32, zI 4, zL 96, zI 6, ob 10 [.ref 46, .ref 47, .int 0, .ref 48, .ref 49, .int (-1), .null, .int 0, .null, .null, .null, .null, .null, .int 0, .null, .null, .null, .null, .null, .null, .null, .null, .null, .null, .int 0, .int 0, .null, .null], zI 128, zI 768, zI 128, zI 768, zI 80] rfl ?_
  refine mx_putF rfl fl_X11_26 rfl (by decide) (fun _ => rfl) (fun _ => rfl) dX11_init_50 ?_
  refine mx_hp [ob 9 [.ref 1, .ref 3, .ref 5, .ref 7, .int 0, .ref 9, .ref 15, .ref 25, .ref 31, .ref 34, .ref 36, .ref 40, .ref 44], ob 8 [.ref 2], aI 128 ca_14, ob 2 [.ref 4, .int 0, .int 0], zI 768, ob 8 [.ref 6], aI 128 ca_28, ob 2 [.ref 8, .int 0, .int 0], zI 768, ob 0 [.ref 10, .ref 11, .ref 12, .ref 13, .ref 14], zI 6, zI 6, zI 6, zI 6, zI 6, ob 7 [.ref 16, .int 0, .int 0, .ref 17, .ref 18, .ref 19, .ref 20, .ref 21, .ref 22, .ref 23, .ref 24], zI 121, zI 326, zI 326, zI 326, zI 326, zI 326, zI 326, zI 6, zI 390, ob 4 [.int 0, .int 0, .int (-4), .int 0, .ref 26, .ref 27, .ref 28, .ref 29, .ref 30], zL 1956, zL 6, zL 6, zL 6, zL 6, ob 3 [.int 0, .int 0, .ref 32, .ref 33], zI 2117, zI 6, ob 1 [.int (-4), .int (-4), .ref 35], zI 366, ob 6 [.ref 37, .int 0, .int 0, .int 0, .int 0, .int 0, .int 0, .ref 38, .ref 39], zI 80, zI 36, zZ 36, ob 5 [.ref 41, .ref 42, .ref 43], aI 4 ca_32, zI 4, zL 96, zI 6, ob 10 [.ref 46, .ref 47, .int 0, .ref 48, .ref 49, .int (-1), .ref 50, .int 0, .null, .null, .null, .null, .null, .int 0, .null, .null, .null, .null, .null, .null, .null, .null, .null, .null, .int 0, .int 0, .null, .null], zI 128, zI 768, zI 128, zI 768, zI 80] rfl ?_
  refine mx_aload_n dX11_init_53 rfl 0 rfl ?_
  refine mx_iconst 4 dX11_init_54 (by decide) ?_
  refine mx_newarr (N := 4) (a0 := (4, .inl fun _ => 0)) 0 al_int rfl (fun _ => rfl) (fun _ => rfl) (by decide) (by decide) (by decide) ⟨Nat.le_of_ble_eq_true rfl, Nat.le_of_ble_eq_true rfl⟩ (Nat.le_of_ble_eq_true rfl) rfl rfl rfl dX11_init_55 ?_
  refine mx_hp [ob 9 [.ref 1, .ref 3, .ref 5, .ref 7, .int 0, .ref 9, .ref 15, .ref 25, .ref 31, .ref 34, .ref 36, .ref 40, .ref 44], ob 8 [.ref 2], aI 128 ca_14, ob 2 [.ref 4, .int 0, .int 0], zI 768, ob 8 [.ref 6], aI 128 ca_28, ob 2 [.ref 8, .int 0, .int 0], zI 768, ob 0 [.ref 10, .ref 11, .ref 12, .ref 13, .ref 14], zI 6, zI 6, zI 6, zI 6, zI 6, ob 7 [.ref 16, .int 0, .int 0, .ref 17, .ref 18, .ref 19, .ref 20, .ref 21, .ref 22, .ref 23, .ref 24], zI 121, zI 326, zI 326, zI 326, zI 326, zI 326, zI 326, zI 6, zI 390, ob 4 [.int 0, .int 0, .int (-4), .int 0, .ref 26, .ref 27, .ref 28, .ref 29, .ref 30], zL 1956, zL 6, zL 6, zL 6, zL 6, ob 3 [.int 0, .int 0, .ref 32, .ref 33], zI 2117, zI 6, ob 1 [.int (-4), .int (-4), .ref 35], zI 366, ob 6 [.ref 37, .int 0, .int 0, .int 0, .int 0, .int 0, .int 0, .ref 38, .ref 39], zI 80, zI 36, zZ 36, ob 5 [.ref 41, .ref 42, .ref 43], aI 4 ca_32, zI 4, zL 96, zI 6, ob 10 [.ref 46, .ref 47, .int 0, .ref 48, .ref 49, .int (-1), .ref 50, .int 0, .null, .null, .null, .null, .null, .int 0, .null, .null, .null, .null, .null, .null, .null, .null, .null, .null, .int 0, .int 0, .null, .null], zI 128, zI 768, zI 128, zI 768, zI 80, zI 4] rfl ?_
  refine mx_putF rfl fl_X11_29 rfl (by decide) (fun _ => rfl) (fun _ => rfl) dX11_init_57 ?_
  refine mx_hp [ob 9 [.ref 1, .ref 3, .ref 5, .ref 7, .int 0, .ref 9, .ref 15, .ref 25, .ref 31, .ref 34, .ref 36, .ref 40, .ref 44], ob 8 [.ref 2], aI 128 ca_14, ob 2 [.ref 4, .int 0, .int 0], zI 768, ob 8 [.ref 6], aI 128 ca_28, ob 2 [.ref 8, .int 0, .int 0], zI 768, ob 0 [.ref 10, .ref 11, .ref 12, .ref 13, .ref 14], zI 6, zI 6, zI 6, zI 6, zI 6, ob 7 [.ref 16, .int 0, .int 0, .ref 17, .ref 18, .ref 19, .ref 20, .ref 21, .ref 22, .ref 23, .ref 24], zI 121, zI 326, zI 326, zI 326, zI 326, zI 326, zI 326, zI 6, zI 390, ob 4 [.int 0, .int 0, .int (-4), .int 0, .ref 26, .ref 27, .ref 28, .ref 29, .ref 30], zL 1956, zL 6, zL 6, zL 6, zL 6, ob 3 [.int 0, .int 0, .ref 32, .ref 33], zI 2117, zI 6, ob 1 [.int (-4), .int (-4), .ref 35], zI 366, ob 6 [.ref 37, .int 0, .int 0, .int 0, .int 0, .int 0, .int 0, .ref 38, .ref 39], zI 80, zI 36, zZ 36, ob 5 [.ref 41, .ref 42, .ref 43], aI 4 ca_32, zI 4, zL 96, zI 6, ob 10 [.ref 46, .ref 47, .int 0, .ref 48, .ref 49, .int (-1), .ref 50, .int 0, .ref 51, .null, .null, .null, .null, .int 0, .null, .null, .null, .null, .null, .null, .null, .null, .null, .null, .int 0, .int 0, .null, .null], zI 128, zI 768, zI 128, zI 768, zI 80, zI 4] rfl ?_
  refine mx_aload_n dX11_init_60 rfl 0 rfl ?_
  refine mx_iconst 4 dX11_init_61 (by decide) ?_
  refine mx_newarr (N := 4) (a0 := (4, .inl fun _ => 0)) 0 al_int rfl (fun _ => rfl) (fun _ => rfl) (by decide) (by decide) (by decide) ⟨Nat.le_of_ble_eq_true rfl, Nat.le_of_ble_eq_true rfl⟩ (Nat.le_of_ble_eq_true rfl) rfl rfl rfl dX11_init_62 ?_
  refine mx_hp [ob 9 [.ref 1, .ref 3, .ref 5, .ref 7, .int 0, .ref 9, .ref 15, .ref 25, .ref 31, .ref 34, .ref 36, .ref 40, .ref 44], ob 8 [.ref 2], aI 128 ca_14, ob 2 [.ref 4, .int 0, .int 0], zI 768, ob 8 [.ref 6], aI 128 ca_28, ob 2 [.ref 8, .int 0, .int 0], zI 768, ob 0 [.ref 10, .ref 11, .ref 12, .ref 13, .ref 14], zI 6, zI 6, zI 6, zI 6, zI 6, ob 7 [.ref 16, .int 0, .int 0, .ref 17, .ref 18, .ref 19, .ref 20, .ref 21, .ref 22, .ref 23, .ref 24], zI 121, zI 326, zI 326, zI 326, zI 326, zI 326, zI 326, zI 6, zI 390, ob 4 [.int 0, .int 0, .int (-4), .int 0, .ref 26, .ref 27, .ref 28, .ref 29, .ref 30], zL 1956, zL 6, zL 6, zL 6, zL 6, ob 3 [.int 0, .int 0, .ref 32, .ref 33], zI 2117, zI 6, ob 1 [.int (-4), .int (-4), .ref 35], zI 366, ob 6 [.ref 37, .int 0, .int 0, .int 0, .int 0, .int 0, .int 0, .ref 38, .ref 39], zI 80, zI 36, zZ 36, ob 5 [.ref 41, .ref 42, .ref 43], aI 4 ca_32, zI 4, zL 96, zI 6, ob 10 [.ref 46, .ref 47, .int 0, .ref 48, .ref 49, .int (-1), .ref 50, .int 0, .ref 51, .null, .null, .null, .null, .int 0, .null, .null, .null, .null, .null, .null, .null, .null, .null, .null, .int 0, .int 0, .null, .null], zI 128, zI 768, zI 128, zI 768, zI 80, zI 4, zI 4] rfl ?_
  refine mx_putF rfl fl_X11_32 rfl (by decide) (fun _ => rfl) (fun _ => rfl) dX11_init_64 ?_
  refine mx_hp [ob 9 [.ref 1, .ref 3, .ref 5, .ref 7, .int 0, .ref 9, .ref 15, .ref 25, .ref 31, .ref 34, .ref 36, .ref 40, .ref 44], ob 8 [.ref 2], aI 128 ca_14, ob 2 [.ref 4, .int 0, .int 0], zI 768, ob 8 [.ref 6], aI 128 ca_28, ob 2 [.ref 8, .int 0, .int 0], zI 768, ob 0 [.ref 10, .ref 11, .ref 12, .ref 13, .ref 14], zI 6, zI 6, zI 6, zI 6, zI 6, ob 7 [.ref 16, .int 0, .int 0, .ref 17, .ref 18, .ref 19, .ref 20, .ref 21, .ref 22, .ref 23, .ref 24], zI 121, zI 326, zI 326, zI 326, zI 326, zI 326, zI 326, zI 6, zI 390, ob 4 [.int 0, .int 0, .int (-4), .int 0, .ref 26, .ref 27, .ref 28, .ref 29, .ref 30], zL 1956, zL 6, zL 6, zL 6, zL 6, ob 3 [.int 0, .int 0, .ref 32, .ref 33], zI 2117, zI 6, ob 1 [.int (-4), .int (-4), .ref 35], zI 366, ob 6 [.ref 37, .int 0, .int 0, .int 0, .int 0, .int 0, .int 0, .ref 38, .ref 39], zI 80, zI 36, zZ 36, ob 5 [.ref 41, .ref 42, .ref 43], aI 4 ca_32, zI 4, zL 96, zI 6, ob 10 [.ref 46, .ref 47, .int 0, .ref 48, .ref 49, .int (-1), .ref 50, .int 0, .ref 51, .ref 52, .null, .null, .null, .int 0, .null, .null, .null, .null, .null, .null, .null, .null, .null, .null, .int 0, .int 0, .null, .null], zI 128, zI 768, zI 128, zI 768, zI 80, zI 4, zI 4] rfl ?_
  refine mx_aload_n dX11_init_67 rfl 0 rfl ?_
  refine mx_bipush 96 dX11_init_68 (by decide) ?_
  refine mx_newarr (N := 96) (a0 := (96, .inr (.inl fun _ => 0))) 1 al_long rfl (fun _ => rfl) (fun _ => rfl) (by decide) (by decide) (by decide) ⟨Nat.le_of_ble_eq_true rfl, Nat.le_of_ble_eq_true rfl⟩ (Nat.le_of_ble_eq_true rfl) rfl rfl rfl dX11_init_70 ?_
  refine mx_hp [ob 9 [.ref 1, .ref 3, .ref 5, .ref 7, .int 0, .ref 9, .ref 15, .ref 25, .ref 31, .ref 34, .ref 36, .ref 40, .ref 44], ob 8 [.ref 2], aI 128 ca_14, ob 2 [.ref 4, .int 0, .int 0], zI 768, ob 8 [.ref 6], aI 128 ca_28, ob 2 [.ref 8, .int 0, .int 0], zI 768, ob 0 [.ref 10, .ref 11, .ref 12, .ref 13, .ref 14], zI 6, zI 6, zI 6, zI 6, zI 6, ob 7 [.ref 16, .int 0, .int 0, .ref 17, .ref 18, .ref 19, .ref 20, .ref 21, .ref 22, .ref 23, .ref 24], zI 121, zI 326, zI 326, zI 326, zI 326, zI 326, zI 326, zI 6, zI 390, ob 4 [.int 0, .int 0, .int (-4), .int 0, .ref 26, .ref 27, .ref 28, .ref 29, .ref 30], zL 1956, zL 6, zL 6, zL 6, zL 6, ob 3 [.int 0, .int 0, .ref 32, .ref 33], zI 2117, zI 6, ob 1 [.int (-4), .int (-4), .ref 35], zI 366, ob 6 [.ref 37, .int 0, .int 0, .int 0, .int 0, .int 0, .int 0, .ref 38, .ref 39], zI 80, zI 36, zZ 36, ob 5 [.ref 41, .ref 42, .ref 43], aI 4 ca_32, zI 4, zL 96, zI 6, ob 10 [.ref 46, .ref 47, .int 0, .ref 48, .ref 49, .int (-1), .ref 50, .int 0, .ref 51, .ref 52, .null, .null, .null, .int 0, .null, .null, .null, .null, .null, .null, .null, .null, .null, .null, .int 0, .int 0, .null, .null], zI 128, zI 768, zI 128, zI 768, zI 80, zI 4, zI 4, zL 96] rfl ?_
  refine mx_putF rfl fl_X11_35 rfl (by decide) (fun _ => rfl) (fun _ => rfl) dX11_init_72 ?_
  refine mx_hp [ob 9 [.ref 1, .ref 3, .ref 5, .ref 7, .int 0, .ref 9, .ref 15, .ref 25, .ref 31, .ref 34, .ref 36, .ref 40, .ref 44], ob 8 [.ref 2], aI 128 ca_14, ob 2 [.ref 4, .int 0, .int 0], zI 768, ob 8 [.ref 6], aI 128 ca_28, ob 2 [.ref 8, .int 0, .int 0], zI 768, ob 0 [.ref 10, .ref 11, .ref 12, .ref 13, .ref 14], zI 6, zI 6, zI 6, zI 6, zI 6, ob 7 [.ref 16, .int 0, .int 0, .ref 17, .ref 18, .ref 19, .ref 20, .ref 21, .ref 22, .ref 23, .ref 24], zI 121, zI 326, zI 326, zI 326, zI 326, zI 326, zI 326, zI 6, zI 390, ob 4 [.int 0, .int 0, .int (-4), .int 0, .ref 26, .ref 27, .ref 28, .ref 29, .ref 30], zL 1956, zL 6, zL 6, zL 6, zL 6, ob 3 [.int 0, .int 0, .ref 32, .ref 33], zI 2117, zI 6, ob 1 [.int (-4), .int (-4), .ref 35], zI 366, ob 6 [.ref 37, .int 0, .int 0, .int 0, .int 0, .int 0, .int 0, .ref 38, .ref 39], zI 80, zI 36, zZ 36, ob 5 [.ref 41, .ref 42, .ref 43], aI 4 ca_32, zI 4, zL 96, zI 6, ob 10 [.ref 46, .ref 47, .int 0, .ref 48, .ref 49, .int (-1), .ref 50, .int 0, .ref 51, .ref 52, .ref 53, .null, .null, .int 0, .null, .null, .null, .null, .null, .null, .null, .null, .null, .null, .int 0, .int 0, .null, .null], zI 128, zI 768, zI 128, zI 768, zI 80, zI 4, zI 4, zL 96] rfl ?_
  refine mx_aload_n dX11_init_75 rfl 0 rfl ?_
  refine mx_sipush 326 dX11_init_76 (by decide) ?_
  refine mx_newarr (N := 326) (a0 := (326, .inl fun _ => 0)) 0 al_int rfl (fun _ => rfl) (fun _ => rfl) (by decide) (by decide) (by decide) ⟨Nat.le_of_ble_eq_true rfl, Nat.le_of_ble_eq_true rfl⟩ (Nat.le_of_ble_eq_true rfl) rfl rfl rfl dX11_init_79 ?_
  refine mx_hp [ob 9 [.ref 1, .ref 3, .ref 5, .ref 7, .int 0, .ref 9, .ref 15, .ref 25, .ref 31, .ref 34, .ref 36, .ref 40, .ref 44], ob 8 [.ref 2], aI 128 ca_14, ob 2 [.ref 4, .int 0, .int 0], zI 768, ob 8 [.ref 6], aI 128 ca_28, ob 2 [.ref 8, .int 0, .int 0], zI 768, ob 0 [.ref 10, .ref 11, .ref 12, .ref 13, .ref 14], zI 6, zI 6, zI 6, zI 6, zI 6, ob 7 [.ref 16, .int 0, .int 0, .ref 17, .ref 18, .ref 19, .ref 20, .ref 21, .ref 22, .ref 23, .ref 24], zI 121, zI 326, zI 326, zI 326, zI 326, zI 326, zI 326, zI 6, zI 390, ob 4 [.int 0, .int 0, .int (-4), .int 0, .ref 26, .ref 27, .ref 28, .ref 29, .ref 30], zL 1956, zL 6, zL 6, zL 6, zL 6, ob 3 [.int 0, .int 0, .ref 32, .ref 33], zI 2117, zI 6, ob 1 [.int (-4), .int (-4), .ref 35], zI 366, ob 6 [.ref 37, .int 0, .int 0, .int 0, .int 0, .int 0, .int 0, .ref 38, .ref 39], zI 80, zI 36, zZ 36, ob 5 [.ref 41, .ref 42, .ref 43], aI 4 ca_32, zI 4, zL 96, zI 6, ob 10 [.ref 46, .ref 47, .int 0, .ref 48, .ref 49, .int (-1), .ref 50, .int 0, .ref 51, .ref 52, .ref 53, .null, .null, .int 0, .null, .null, .null, .null, .null, .null, .null, .null, .null, .null, .int 0, .int 0, .null, .null], zI 128, zI 768, zI 128, zI 768, zI 80, zI 4, zI 4, zL 96, zI 326] rfl ?_
  refine mx_putF rfl fl_X11_39 rfl (by decide) (fun _ => rfl) (fun _ => rfl) dX11_init_81 ?_
  refine mx_hp [ob 9 [.ref 1, .ref 3, .ref 5, .ref 7, .int 0, .ref 9, .ref 15, .ref 25, .ref 31, .ref 34, .ref 36, .ref 40, .ref 44], ob 8 [.ref 2], aI 128 ca_14, ob 2 [.ref 4, .int 0, .int 0], zI 768, ob 8 [.ref 6], aI 128 ca_28, ob 2 [.ref 8, .int 0, .int 0], zI 768, ob 0 [.ref 10, .ref 11, .ref 12, .ref 13, .ref 14], zI 6, zI 6, zI 6, zI 6, zI 6, ob 7 [.ref 16, .int 0, .int 0, .ref 17, .ref 18, .ref 19, .ref 20, .ref 21, .ref 22, .ref 23, .ref 24], zI 121, zI 326, zI 326, zI 326, zI 326, zI 326, zI 326, zI 6, zI 390, ob 4 [.int 0, .int 0, .int (-4), .int 0, .ref 26, .ref 27, .ref 28, .ref 29, .ref 30], zL 1956, zL 6, zL 6, zL 6, zL 6, ob 3 [.int 0, .int 0, .ref 32, .ref 33], zI 2117, zI 6, ob 1 [.int (-4), .int (-4), .ref 35], zI 366, ob 6 [.ref 37, .int 0, .int 0, .int 0, .int 0, .int 0, .int 0, .ref 38, .ref 39], zI 80, zI 36, zZ 36, ob 5 [.ref 41, .ref 42, .ref 43], aI 4 ca_32, zI 4, zL 96, zI 6, ob 10 [.ref 46, .ref 47, .int 0, .ref 48, .ref 49, .int (-1), .ref 50, .int 0, .ref 51, .ref 52, .ref 53, .ref 54, .null, .int 0, .null, .null, .null, .null, .null, .null, .null, .null, .null, .null, .int 0, .int 0, .null, .null], zI 128, zI 768, zI 128, zI 768, zI 80, zI 4, zI 4, zL 96, zI 326] rfl ?_
  refine mx_aload_n dX11_init_84 rfl 0 rfl ?_
  refine mx_sipush 326 dX11_init_85 (by decide) ?_
  refine mx_newarr (N := 326) (a0 := (326, .inl fun _ => 0)) 0 al_int rfl (fun _ => rfl) (fun _ => rfl) (by decide) (by decide) (by decide) ⟨Nat.le_of_ble_eq_true rfl, Nat.le_of_ble_eq_true rfl⟩ (Nat.le_of_ble_eq_true rfl) rfl rfl rfl dX11_init_88 ?_
  refine mx_hp [ob 9 [.ref 1, .ref 3, .ref 5, .ref 7, .int 0, .ref 9, .ref 15, .ref 25, .ref 31, .ref 34, .ref 36, .ref 40, .ref 44], ob 8 [.ref 2], aI 128 ca_14, ob 2 [.ref 4, .int 0, .int 0], zI 768, ob 8 [.ref 6], aI 128 ca_28, ob 2 [.ref 8, .int 0, .int 0], zI 768, ob 0 [.ref 10, .ref 11, .ref 12, .ref 13, .ref 14], zI 6, zI 6, zI 6, zI 6, zI 6, ob 7 [.ref 16, .int 0, .int 0, .ref 17, .ref 18, .ref 19, .ref 20, .ref 21, .ref 22, .ref 23, .ref 24], zI 121, zI 326, zI 326, zI 326, zI 326, zI 326, zI 326, zI 6, zI 390, ob 4 [.int 0, .int 0, .int (-4), .int 0, .ref 26, .ref 27, .ref 28, .ref 29, .ref 30], zL 1956, zL 6, zL 6, zL 6, zL 6, ob 3 [.int 0, .int 0, .ref 32, .ref 33], zI 2117, zI 6, ob 1 [.int (-4), .int (-4), .ref 35], zI 366, ob 6 [.ref 37, .int 0, .int 0, .int 0, .int 0, .int 0, .int 0, .ref 38, .ref 39], zI 80, zI 36, zZ 36, ob 5 [.ref 41, .ref 42, .ref 43], aI 4 ca_32, zI 4, zL 96, zI 6, ob 10 [.ref 46, .ref 47, .int 0, .ref 48, .ref 49, .int (-1), .ref 50, .int 0, .ref 51, .ref 52, .ref 53, .ref 54, .null, .int 0, .null, .null, .null, .null, .null, .null, .null, .null, .null, .null, .int 0, .int 0, .null, .null], zI 128, zI 768, zI 128, zI 768, zI 80, zI 4, zI 4, zL 96, zI 326, zI 326] rfl ?_
  refine mx_putF rfl fl_X11_42 rfl (by decide) (fun _ => rfl) (fun _ => rfl) dX11_init_90 ?_
  refine mx_hp [ob 9 [.ref 1, .ref 3, .ref 5, .ref 7, .int 0, .ref 9, .ref 15, .ref 25, .ref 31, .ref 34, .ref 36, .ref 40, .ref 44], ob 8 [.ref 2], aI 128 ca_14, ob 2 [.ref 4, .int 0, .int 0], zI 768, ob 8 [.ref 6], aI 128 ca_28, ob 2 [.ref 8, .int 0, .int 0], zI 768, ob 0 [.ref 10, .ref 11, .ref 12, .ref 13, .ref 14], zI 6, zI 6, zI 6, zI 6, zI 6, ob 7 [.ref 16, .int 0, .int 0, .ref 17, .ref 18, .ref 19, .ref 20, .ref 21, .ref 22, .ref 23, .ref 24], zI 121, zI 326, zI 326, zI 326, zI 326, zI 326, zI 326, zI 6, zI 390, ob 4 [.int 0, .int 0, .int (-4), .int 0, .ref 26, .ref 27, .ref 28, .ref 29, .ref 30], zL 1956, zL 6, zL 6, zL 6, zL 6, ob 3 [.int 0, .int 0, .ref 32, .ref 33], zI 2117, zI 6, ob 1 [.int (-4), .int (-4), .ref 35], zI 366, ob 6 [.ref 37, .int 0, .int 0, .int 0, .int 0, .int 0, .int 0, .ref 38, .ref 39], zI 80, zI 36, zZ 36, ob 5 [.ref 41, .ref 42, .ref 43], aI 4 ca_32, zI 4, zL 96, zI 6, ob 10 [.ref 46, .ref 47, .int 0, .ref 48, .ref 49, .int (-1), .ref 50, .int 0, .ref 51, .ref 52, .ref 53, .ref 54, .ref 55, .int 0, .null, .null, .null, .null, .null, .null, .null, .null, .null, .null, .int 0, .int 0, .null, .null], zI 128, zI 768, zI 128, zI 768, zI 80, zI 4, zI 4, zL 96, zI 326, zI 326] rfl ?_
  refine mx_aload_n dX11_init_93 rfl 0 rfl ?_
  refine mx_bipush 6 dX11_init_94 (by decide) ?_
  refine mx_newarr (N := 6) (a0 := (6, .inl fun _ => 0)) 0 al_int rfl (fun _ => rfl) (fun _ => rfl) (by decide) (by decide) (by decide) ⟨Nat.le_of_ble_eq_true rfl, Nat.le_of_ble_eq_true rfl⟩ (Nat.le_of_ble_eq_true rfl) rfl rfl rfl dX11_init_96 ?_
  refine mx_hp [ob 9 [.ref 1, .ref 3, .ref 5, .ref 7, .int 0, .ref 9, .ref 15, .ref 25, .ref 31, .ref 34, .ref 36, .ref 40, .ref 44], ob 8 [.ref 2], aI 128 ca_14, ob 2 [.ref 4, .int 0, .int 0], zI 768, ob 8 [.ref 6], aI 128 ca_28, ob 2 [.ref 8, .int 0, .int 0], zI 768, ob 0 [.ref 10, .ref 11, .ref 12, .ref 13, .ref 14], zI 6, zI 6, zI 6, zI 6, zI 6, ob 7 [.ref 16, .int 0, .int 0, .ref 17, .ref 18, .ref 19, .ref 20, .ref 21, .ref 22, .ref 23, .ref 24], zI 121, zI 326, zI 326, zI 326, zI 326, zI 326, zI 326, zI 6, zI 390, ob 4 [.int 0, .int 0, .int (-4), .int 0, .ref 26, .ref 27, .ref 28, .ref 29, .ref 30], zL 1956, zL 6, zL 6, zL 6, zL 6, ob 3 [.int 0, .int 0, .ref 32, .ref 33], zI 2117, zI 6, ob 1 [.int (-4), .int (-4), .ref 35], zI 366, ob 6 [.ref 37, .int 0, .int 0, .int 0, .int 0, .int 0, .int 0, .ref 38, .ref 39], zI 80, zI 36, zZ 36, ob 5 [.ref 41, .ref 42, .ref 43], aI 4 ca_32, zI 4, zL 96, zI 6, ob 10 [.ref 46, .ref 47, .int 0, .ref 48, .ref 49, .int (-1), .ref 50, .int 0, .ref 51, .ref 52, .ref 53, .ref 54, .ref 55, .int 0, .null, .null, .null, .null, .null, .null, .null, .null, .null, .null, .int 0, .int 0, .null, .null], zI 128, zI 768, zI 128, zI 768, zI 80, zI 4, zI 4, zL 96, zI 326, zI 326, zI 6] rfl ?_
  refine mx_putF rfl fl_X11_45 rfl (by decide) (fun _ => rfl) (fun _ => rfl) dX11_init_98 ?_
  refine mx_hp [ob 9 [.ref 1, .ref 3, .ref 5, .ref 7, .int 0, .ref 9, .ref 15, .ref 25, .ref 31, .ref 34, .ref 36, .ref 40, .ref 44], ob 8 [.ref 2], aI 128 ca_14, ob 2 [.ref 4, .int 0, .int 0], zI 768, ob 8 [.ref 6], aI 128 ca_28, ob 2 [.ref 8, .int 0, .int 0], zI 768, ob 0 [.ref 10, .ref 11, .ref 12, .ref 13, .ref 14], zI 6, zI 6, zI 6, zI 6, zI 6, ob 7 [.ref 16, .int 0, .int 0, .ref 17, .ref 18, .ref 19, .ref 20, .ref 21, .ref 22, .ref 23, .ref 24], zI 121, zI 326, zI 326, zI 326, zI 326, zI 326, zI 326, zI 6, zI 390, ob 4 [.int 0, .int 0, .int (-4), .int 0, .ref 26, .ref 27, .ref 28, .ref 29, .ref 30], zL 1956, zL 6, zL 6, zL 6, zL 6, ob 3 [.int 0, .int 0, .ref 32, .ref 33], zI 2117, zI 6, ob 1 [.int (-4), .int (-4), .ref 35], zI 366, ob 6 [.ref 37, .int 0, .int 0, .int 0, .int 0, .int 0, .int 0, .ref 38, .ref 39], zI 80, zI 36, zZ 36, ob 5 [.ref 41, .ref 42, .ref 43], aI 4 ca_32, zI 4, zL 96, zI 6, ob 10 [.ref 46, .ref 47, .int 0, .ref 48, .ref 49, .int (-1), .ref 50, .int 0, .ref 51, .ref 52, .ref 53, .ref 54, .ref 55, .int 0, .ref 56, .null, .null, .null, .null, .null, .null, .null, .null, .null, .int 0, .int 0, .null, .null], zI 128, zI 768, zI 128, zI 768, zI 80, zI 4, zI 4, zL 96, zI 326, zI 326, zI 6] rfl ?_
  refine mx_aload_n dX11_init_101 rfl 0 rfl ?_
  refine mx_bipush 6 dX11_init_102 (by decide) ?_
  refine mx_newarr (N := 6) (a0 := (6, .inl fun _ => 0)) 0 al_int rfl (fun _ => rfl) (fun _ => rfl) (by decide) (by decide) (by decide) ⟨Nat.le_of_ble_eq_true rfl, Nat.le_of_ble_eq_true rfl⟩ (Nat.le_of_ble_eq_true rfl) rfl rfl rfl dX11_init_104 ?_
  refine mx_hp [ob 9 [.ref 1, .ref 3, .ref 5, .ref 7, .int 0, .ref 9, .ref 15, .ref 25, .ref 31, .ref 34, .ref 36, .ref 40, .ref 44], ob 8 [.ref 2], aI 128 ca_14, ob 2 [.ref 4, .int 0, .int 0], zI 768, ob 8 [.ref 6], aI 128 ca_28, ob 2 [.ref 8, .int 0, .int 0], zI 768, ob 0 [.ref 10, .ref 11, .ref 12, .ref 13, .ref 14], zI 6, zI 6, zI 6, zI 6, zI 6, ob 7 [.ref 16, .int 0, .int 0, .ref 17, .ref 18, .ref 19, .ref 20, .ref 21, .ref 22, .ref 23, .ref 24], zI 121, zI 326, zI 326, zI 326, zI 326, zI 326, zI 326, zI 6, zI 390, ob 4 [.int 0, .int 0, .int (-4), .int 0, .ref 26, .ref 27, .ref 28, .ref 29, .ref 30], zL 1956, zL 6, zL 6, zL 6, zL 6, ob 3 [.int 0, .int 0, .ref 32, .ref 33], zI 2117, zI 6, ob 1 [.int (-4), .int (-4), .ref 35], zI 366, ob 6 [.ref 37, .int 0, .int 0, .int 0, .int 0, .int 0, .int 0, .ref 38, .ref 39], zI 80, zI 36, zZ 36, ob 5 [.ref 41, .ref 42, .ref 43], aI 4 ca_32, zI 4, zL 96, zI 6, ob 10 [.ref 46, .ref 47, .int 0, .ref 48, .ref 49, .int (-1), .ref 50, .int 0, .ref 51, .ref 52, .ref 53, .ref 54, .ref 55, .int 0, .ref 56, .null, .null, .null, .null, .null, .null, .null, .null, .null, .int 0, .int 0, .null, .null], zI 128, zI 768, zI 128, zI 768, zI 80, zI 4, zI 4, zL 96, zI 326, zI 326, zI 6, zI 6] rfl ?_
  refine mx_putF rfl fl_X11_48 rfl (by decide) (fun _ => rfl) (fun _ => rfl) dX11_init_106 ?_
  refine mx_hp [ob 9 [.ref 1, .ref 3, .ref 5, .ref 7, .int 0, .ref 9, .ref 15, .ref 25, .ref 31, .ref 34, .ref 36, .ref 40, .ref 44], ob 8 [.ref 2], aI 128 ca_14, ob 2 [.ref 4, .int 0, .int 0], zI 768, ob 8 [.ref 6], aI 128 ca_28, ob 2 [.ref 8, .int 0, .int 0], zI 768, ob 0 [.ref 10, .ref 11, .ref 12, .ref 13, .ref 14], zI 6, zI 6, zI 6, zI 6, zI 6, ob 7 [.ref 16, .int 0, .int 0, .ref 17, .ref 18, .ref 19, .ref 20, .ref 21, .ref 22, .ref 23, .ref 24], zI 121, zI 326, zI 326, zI 326, zI 326, zI 326, zI 326, zI 6, zI 390, ob 4 [.int 0, .int 0, .int (-4), .int 0, .ref 26, .ref 27, .ref 28, .ref 29, .ref 30], zL 1956, zL 6, zL 6, zL 6, zL 6, ob 3 [.int 0, .int 0, .ref 32, .ref 33], zI 2117, zI 6, ob 1 [.int (-4), .int (-4), .ref 35], zI 366, ob 6 [.ref 37, .int 0, .int 0, .int 0, .int 0, .int 0, .int 0, .ref 38, .ref 39], zI 80, zI 36, zZ 36, ob 5 [.ref 41, .ref 42, .ref 43], aI 4 ca_32, zI 4, zL 96, zI 6, ob 10 [.ref 46, .ref 47, .int 0, .ref 48, .ref 49, .int (-1), .ref 50, .int 0, .ref 51, .ref 52, .ref 53, .ref 54, .ref 55, .int 0, .ref 56, .ref 57, .null, .null, .null, .null, .null, .null, .null, .null, .int 0, .int 0, .null, .null], zI 128, zI 768, zI 128, zI 768, zI 80, zI 4, zI 4, zL 96, zI 326, zI 326, zI 6, zI 6] rfl ?_
  refine mx_aload_n dX11_init_109 rfl 0 rfl ?_
  refine mx_sipush 366 dX11_init_110 (by decide) ?_
  refine mx_newarr (N := 366) (a0 := (366, .inl fun _ => 0)) 0 al_int rfl (fun _ => rfl) (fun _ => rfl) (by decide) (by decide) (by decide) ⟨Nat.le_of_ble_eq_true rfl, Nat.le_of_ble_eq_true rfl⟩ (Nat.le_of_ble_eq_true rfl) rfl rfl rfl dX11_init_113 ?_
  refine mx_hp [ob 9 [.ref 1, .ref 3, .ref 5, .ref 7, .int 0, .ref 9, .ref 15, .ref 25, .ref 31, .ref 34, .ref 36, .ref 40, .ref 44], ob 8 [.ref 2], aI 128 ca_14, ob 2 [.ref 4, .int 0, .int 0], zI 768, ob 8 [.ref 6], aI 128 ca_28, ob 2 [.ref 8, .int 0, .int 0], zI 768, ob 0 [.ref 10, .ref 11, .ref 12, .ref 13, .ref 14], zI 6, zI 6, zI 6, zI 6, zI 6, ob 7 [.ref 16, .int 0, .int 0, .ref 17, .ref 18, .ref 19, .ref 20, .ref 21, .ref 22, .ref 23, .ref 24], zI 121, zI 326, zI 326, zI 326, zI 326, zI 326, zI 326, zI 6, zI 390, ob 4 [.int 0, .int 0, .int (-4), .int 0, .ref 26, .ref 27, .ref 28, .ref 29, .ref 30], zL 1956, zL 6, zL 6, zL 6, zL 6, ob 3 [.int 0, .int 0, .ref 32, .ref 33], zI 2117, zI 6, ob 1 [.int (-4), .int (-4), .ref 35], zI 366, ob 6 [.ref 37, .int 0, .int 0, .int 0, .int 0, .int 0, .int 0, .ref 38, .ref 39], zI 80, zI 36, zZ 36, ob 5 [.ref 41, .ref 42, .ref 43], aI 4 ca_32, zI 4, zL 96, zI 6, ob 10 [.ref 46, .ref 47, .int 0, .ref 48, .ref 49, .int (-1), .ref 50, .int 0, .ref 51, .ref 52, .ref 53, .ref 54, .ref 55, .int 0, .ref 56, .ref 57, .null, .null, .null, .null, .null, .null, .null, .null, .int 0, .int 0, .null, .null], zI 128, zI 768, zI 128, zI 768, zI 80, zI 4, zI 4, zL 96, zI 326, zI 326, zI 6, zI 6, zI 366] rfl ?_
  refine mx_putF rfl fl_X11_51 rfl (by decide) (fun _ => rfl) (fun _ => rfl) dX11_init_115 ?_
  refine mx_hp [ob 9 [.ref 1, .ref 3, .ref 5, .ref 7, .int 0, .ref 9, .ref 15, .ref 25, .ref 31, .ref 34, .ref 36, .ref 40, .ref 44], ob 8 [.ref 2], aI 128 ca_14, ob 2 [.ref 4, .int 0, .int 0], zI 768, ob 8 [.ref 6], aI 128 ca_28, ob 2 [.ref 8, .int 0, .int 0], zI 768, ob 0 [.ref 10, .ref 11, .ref 12, .ref 13, .ref 14], zI 6, zI 6, zI 6, zI 6, zI 6, ob 7 [.ref 16, .int 0, .int 0, .ref 17, .ref 18, .ref 19, .ref 20, .ref 21, .ref 22, .ref 23, .ref 24], zI 121, zI 326, zI 326, zI 326, zI 326, zI 326, zI 326, zI 6, zI 390, ob 4 [.int 0, .int 0, .int (-4), .int 0, .ref 26, .ref 27, .ref 28, .ref 29, .ref 30], zL 1956, zL 6, zL 6, zL 6, zL 6, ob 3 [.int 0, .int 0, .ref 32, .ref 33], zI 2117, zI 6, ob 1 [.int (-4), .int (-4), .ref 35], zI 366, ob 6 [.ref 37, .int 0, .int 0, .int 0, .int 0, .int 0, .int 0, .ref 38, .ref 39], zI 80, zI 36, zZ 36, ob 5 [.ref 41, .ref 42, .ref 43], aI 4 ca_32, zI 4, zL 96, zI 6, ob 10 [.ref 46, .ref 47, .int 0, .ref 48, .ref 49, .int (-1), .ref 50, .int 0, .ref 51, .ref 52, .ref 53, .ref 54, .ref 55, .int 0, .ref 56, .ref 57, .ref 58, .null, .null, .null, .null, .null, .null, .null, .int 0, .int 0, .null, .null], zI 128, zI 768, zI 128, zI 768, zI 80, zI 4, zI 4, zL 96, zI 326, zI 326, zI 6, zI 6, zI 366] rfl ?_
  refine mx_aload_n dX11_init_118 rfl 0 rfl ?_
  refine mx_bipush 6 dX11_init_119 (by decide) ?_
  refine mx_newarr (N := 6) (a0 := (6, .inl fun _ => 0)) 0 al_int rfl (fun _ => rfl) (fun _ => rfl) (by decide) (by decide) (by decide) ⟨Nat.le_of_ble_eq_true rfl, Nat.le_of_ble_eq_true rfl⟩ (Nat.le_of_ble_eq_true rfl) rfl rfl rfl dX11_init_121 ?_
  refine mx_hp [ob 9 [.ref 1, .ref 3, .ref 5, .ref 7, .int 0, .ref 9, .ref 15, .ref 25, .ref 31, .ref 34, .ref 36, .ref 40, .ref 44], ob 8 [.ref 2], aI 128 ca_14, ob 2 [.ref 4, .int 0, .int 0], zI 768, ob 8 [.ref 6], aI 128 ca_28, ob 2 [.ref 8, .int 0, .int 0], zI 768, ob 0 [.ref 10, .ref 11, .ref 12, .ref 13, .ref 14], zI 6, zI 6, zI 6, zI 6, zI 6, ob 7 [.ref 16, .int 0, .int 0, .ref 17, .ref 18, .ref 19, .ref 20, .ref 21, .ref 22, .ref 23, .ref 24], zI 121, zI 326, zI 326, zI 326, zI 326, zI 326, zI 326, zI 6, zI 390, ob 4 [.int 0, .int 0, .int (-4), .int 0, .ref 26, .ref 27, .ref 28, .ref 29, .ref 30], zL 1956, zL 6, zL 6, zL 6, zL 6, ob 3 [.int 0, .int 0, .ref 32, .ref 33], zI 2117, zI 6, ob 1 [.int (-4), .int (-4), .ref 35], zI 366, ob 6 [.ref 37, .int 0, .int 0, .int 0, .int 0, .int 0, .int 0, .ref 38, .ref 39], zI 80, zI 36, zZ 36, ob 5 [.ref 41, .ref 42, .ref 43], aI 4 ca_32, zI 4, zL 96, zI 6, ob 10 [.ref 46, .ref 47, .int 0, .ref 48, .ref 49, .int (-1), .ref 50, .int 0, .ref 51, .ref 52, .ref 53, .ref 54, .ref 55, .int 0, .ref 56, .ref 57, .ref 58, .null, .null, .null, .null, .null, .null, .null, .int 0, .int 0, .null, .null], zI 128, zI 768, zI 128, zI 768, zI 80, zI 4, zI 4, zL 96, zI 326, zI 326, zI 6, zI 6, zI 366, zI 6] rfl ?_
  refine mx_putF rfl fl_X11_54 rfl (by decide) (fun _ => rfl) (fun _ => rfl) dX11_init_123 ?_
  refine mx_hp [ob 9 [.ref 1, .ref 3, .ref 5, .ref 7, .int 0, .ref 9, .ref 15, .ref 25, .ref 31, .ref 34, .ref 36, .ref 40, .ref 44], ob 8 [.ref 2], aI 128 ca_14, ob 2 [.ref 4, .int 0, .int 0], zI 768, ob 8 [.ref 6], aI 128 ca_28, ob 2 [.ref 8, .int 0, .int 0], zI 768, ob 0 [.ref 10, .ref 11, .ref 12, .ref 13, .ref 14], zI 6, zI 6, zI 6, zI 6, zI 6, ob 7 [.ref 16, .int 0, .int 0, .ref 17, .ref 18, .ref 19, .ref 20, .ref 21, .ref 22, .ref 23, .ref 24], zI 121, zI 326, zI 326, zI 326, zI 326, zI 326, zI 326, zI 6, zI 390, ob 4 [.int 0, .int 0, .int (-4), .int 0, .ref 26, .ref 27, .ref 28, .ref 29, .ref 30], zL 1956, zL 6, zL 6, zL 6, zL 6, ob 3 [.int 0, .int 0, .ref 32, .ref 33], zI 2117, zI 6, ob 1 [.int (-4), .int (-4), .ref 35], zI 366, ob 6 [.ref 37, .int 0, .int 0, .int 0, .int 0, .int 0, .int 0, .ref 38, .ref 39], zI 80, zI 36, zZ 36, ob 5 [.ref 41, .ref 42, .ref 43], aI 4 ca_32, zI 4, zL 96, zI 6, ob 10 [.ref 46, .ref 47, .int 0, .ref 48, .ref 49, .int (-1), .ref 50, .int 0, .ref 51, .ref 52, .ref 53, .ref 54, .ref 55, .int 0, .ref 56, .ref 57, .ref 58, .ref 59, .null, .null, .null, .null, .null, .null, .int 0, .int 0, .null, .null], zI 128, zI 768, zI 128, zI 768, zI 80, zI 4, zI 4, zL 96, zI 326, zI 326, zI 6, zI 6, zI 366, zI 6] rfl ?_
  refine mx_aload_n dX11_init_126 rfl 0 rfl ?_
  refine mx_sipush 1956 dX11_init_127 (by decide) ?_
  refine mx_newarr (N := 1956) (a0 := (1956, .inr (.inl fun _ => 0))) 1 al_long rfl (fun _ => rfl) (fun _ => rfl) (by decide) (by decide) (by decide) ⟨Nat.le_of_ble_eq_true rfl, Nat.le_of_ble_eq_true rfl⟩ (Nat.le_of_ble_eq_true rfl) rfl rfl rfl dX11_init_130 ?_
  refine mx_hp [ob 9 [.ref 1, .ref 3, .ref 5, .ref 7, .int 0, .ref 9, .ref 15, .ref 25, .ref 31, .ref 34, .ref 36, .ref 40, .ref 44], ob 8 [.ref 2], aI 128 ca_14, ob 2 [.ref 4, .int 0, .int 0], zI 768, ob 8 [.ref 6], aI 128 ca_28, ob 2 [.ref 8, .int 0, .int 0], zI 768, ob 0 [.ref 10, .ref 11, .ref 12, .ref 13, .ref 14], zI 6, zI 6, zI 6, zI 6, zI 6, ob 7 [.ref 16, .int 0, .int 0, .ref 17, .ref 18, .ref 19, .ref 20, .ref 21, .ref 22, .ref 23, .ref 24], zI 121, zI 326, zI 326, zI 326, zI 326, zI 326, zI 326, zI 6, zI 390, ob 4 [.int 0, .int 0, .int (-4), .int 0, .ref 26, .ref 27, .ref 28, .ref 29, .ref 30], zL 1956, zL 6, zL 6, zL 6, zL 6, ob 3 [.int 0, .int 0, .ref 32, .ref 33], zI 2117, zI 6, ob 1 [.int (-4), .int (-4), .ref 35], zI 366, ob 6 [.ref 37, .int 0, .int 0, .int 0, .int 0, .int 0, .int 0, .ref 38, .ref 39], zI 80, zI 36, zZ 36, ob 5 [.ref 41, .ref 42, .ref 43], aI 4 ca_32, zI 4, zL 96, zI 6, ob 10 [.ref 46, .ref 47, .int 0, .ref 48, .ref 49, .int (-1), .ref 50, .int 0, .ref 51, .ref 52, .ref 53, .ref 54, .ref 55, .int 0, .ref 56, .ref 57, .ref 58, .ref 59, .null, .null, .null, .null, .null, .null, .int 0, .int 0, .null, .null], zI 128, zI 768, zI 128, zI 768, zI 80, zI 4, zI 4, zL 96, zI 326, zI 326, zI 6, zI 6, zI 366, zI 6, zL 1956] rfl ?_
  refine mx_putF rfl fl_X11_57 rfl (by decide) (fun _ => rfl) (fun _ => rfl) dX11_init_132 ?_
  refine mx_hp [ob 9 [.ref 1, .ref 3, .ref 5, .ref 7, .int 0, .ref 9, .ref 15, .ref 25, .ref 31, .ref 34, .ref 36, .ref 40, .ref 44], ob 8 [.ref 2], aI 128 ca_14, ob 2 [.ref 4, .int 0, .int 0], zI 768, ob 8 [.ref 6], aI 128 ca_28, ob 2 [.ref 8, .int 0, .int 0], zI 768, ob 0 [.ref 10, .ref 11, .ref 12, .ref 13, .ref 14], zI 6, zI 6, zI 6, zI 6, zI 6, ob 7 [.ref 16, .int 0, .int 0, .ref 17, .ref 18, .ref 19, .ref 20, .ref 21, .ref 22, .ref 23, .ref 24], zI 121, zI 326, zI 326, zI 326, zI 326, zI 326, zI 326, zI 6, zI 390, ob 4 [.int 0, .int 0, .int (-4), .int 0, .ref 26, .ref 27, .ref 28, .ref 29, .ref 30], zL 1956, zL 6, zL 6, zL 6, zL 6, ob 3 [.int 0, .int 0, .ref 32, .ref 33], zI 2117, zI 6, ob 1 [.int (-4), .int (-4), .ref 35], zI 366, ob 6 [.ref 37, .int 0, .int 0, .int 0, .int 0, .int 0, .int 0, .ref 38, .ref 39], zI 80, zI 36, zZ 36, ob 5 [.ref 41, .ref 42, .ref 43], aI 4 ca_32, zI 4, zL 96, zI 6, ob 10 [.ref 46, .ref 47, .int 0, .ref 48, .ref 49, .int (-1), .ref 50, .int 0, .ref 51, .ref 52, .ref 53, .ref 54, .ref 55, .int 0, .ref 56, .ref 57, .ref 58, .ref 59, .ref 60, .null, .null, .null, .null, .null, .int 0, .int 0, .null, .null], zI 128, zI 768, zI 128, zI 768, zI 80, zI 4, zI 4, zL 96, zI 326, zI 326, zI 6, zI 6, zI 366, zI 6, zL 1956] rfl ?_
  refine mx_aload_n dX11_init_135 rfl 0 rfl ?_
  refine mx_bipush 6 dX11_init_136 (by decide) ?_
  refine mx_newarr (N := 6) (a0 := (6, .inr (.inl fun _ => 0))) 1 al_long rfl (fun _ => rfl) (fun _ => rfl) (by decide) (by decide) (by decide) ⟨Nat.le_of_ble_eq_true rfl, Nat.le_of_ble_eq_true rfl⟩ (Nat.le_of_ble_eq_true rfl) rfl rfl rfl dX11_init_138 ?_
  refine mx_hp [ob 9 [.ref 1, .ref 3, .ref 5, .ref 7, .int 0, .ref 9, .ref 15, .ref 25, .ref 31, .ref 34, .ref 36, .ref 40, .ref 44], ob 8 [.ref 2], aI 128 ca_14, ob 2 [.ref 4, .int 0, .int 0], zI 768, ob 8 [.ref 6], aI 128 ca_28, ob 2 [.ref 8, .int 0, .int 0], zI 768, ob 0 [.ref 10, .ref 11, .ref 12, .ref 13, .ref 14], zI 6, zI 6, zI 6, zI 6, zI 6, ob 7 [.ref 16, .int 0, .int 0, .ref 17, .ref 18, .ref 19, .ref 20, .ref 21, .ref 22, .ref 23, .ref 24], zI 121, zI 326, zI 326, zI 326, zI 326, zI 326, zI 326, zI 6, zI 390, ob 4 [.int 0, .int 0, .int (-4), .int 0, .ref 26, .ref 27, .ref 28, .ref 29, .ref 30], zL 1956, zL 6, zL 6, zL 6, zL 6, ob 3 [.int 0, .int 0, .ref 32, .ref 33], zI 2117, zI 6, ob 1 [.int (-4), .int (-4), .ref 35], zI 366, ob 6 [.ref 37, .int 0, .int 0, .int 0, .int 0, .int 0, .int 0, .ref 38, .ref 39], zI 80, zI 36, zZ 36, ob 5 [.ref 41, .ref 42, .ref 43], aI 4 ca_32, zI 4, zL 96, zI 6, ob 10 [.ref 46, .ref 47, .int 0, .ref 48, .ref 49, .int (-1), .ref 50, .int 0, .ref 51, .ref 52, .ref 53, .ref 54, .ref 55, .int 0, .ref 56, .ref 57, .ref 58, .ref 59, .ref 60, .null, .null, .null, .null, .null, .int 0, .int 0, .null, .null], zI 128, zI 768, zI 128, zI 768, zI 80, zI 4, zI 4, zL 96, zI 326, zI 326, zI 6, zI 6, zI 366, zI 6, zL 1956, zL 6] rfl ?_
  refine mx_putF rfl fl_X11_60 rfl (by decide) (fun _ => rfl) (fun _ => rfl) dX11_init_140 ?_
  refine mx_hp [ob 9 [.ref 1, .ref 3, .ref 5, .ref 7, .int 0, .ref 9, .ref 15, .ref 25, .ref 31, .ref 34, .ref 36, .ref 40, .ref 44], ob 8 [.ref 2], aI 128 ca_14, ob 2 [.ref 4, .int 0, .int 0], zI 768, ob 8 [.ref 6], aI 128 ca_28, ob 2 [.ref 8, .int 0, .int 0], zI 768, ob 0 [.ref 10, .ref 11, .ref 12, .ref 13, .ref 14], zI 6, zI 6, zI 6, zI 6, zI 6, ob 7 [.ref 16, .int 0, .int 0, .ref 17, .ref 18, .ref 19, .ref 20, .ref 21, .ref 22, .ref 23, .ref 24], zI 121, zI 326, zI 326, zI 326, zI 326, zI 326, zI 326, zI 6, zI 390, ob 4 [.int 0, .int 0, .int (-4), .int 0, .ref 26, .ref 27, .ref 28, .ref 29, .ref 30], zL 1956, zL 6, zL 6, zL 6, zL 6, ob 3 [.int 0, .int 0, .ref 32, .ref 33], zI 2117, zI 6, ob 1 [.int (-4), .int (-4), .ref 35], zI 366, ob 6 [.ref 37, .int 0, .int 0, .int 0, .int 0, .int 0, .int 0, .ref 38, .ref 39], zI 80, zI 36, zZ 36, ob 5 [.ref 41, .ref 42, .ref 43], aI 4 ca_32, zI 4, zL 96, zI 6, ob 10 [.ref 46, .ref 47, .int 0, .ref 48, .ref 49, .int (-1), .ref 50, .int 0, .ref 51, .ref 52, .ref 53, .ref 54, .ref 55, .int 0, .ref 56, .ref 57, .ref 58, .ref 59, .ref 60, .ref 61, .null, .null, .null, .null, .int 0, .int 0, .null, .null], zI 128, zI 768, zI 128, zI 768, zI 80, zI 4, zI 4, zL 96, zI 326, zI 326, zI 6, zI 6, zI 366, zI 6, zL 1956, zL 6] rfl ?_
  refine mx_aload_n dX11_init_143 rfl 0 rfl ?_
  refine mx_bipush 6 dX11_init_144 (by decide) ?_
  refine mx_newarr (N := 6) (a0 := (6, .inr (.inl fun _ => 0))) 1 al_long rfl (fun _ => rfl) (fun _ => rfl) (by decide) (by decide) (by decide) ⟨Nat.le_of_ble_eq_true rfl, Nat.le_of_ble_eq_true rfl⟩ (Nat.le_of_ble_eq_true rfl) rfl rfl rfl dX11_init_146 ?_
  refine mx_hp [ob 9 [.ref 1, .ref 3, .ref 5, .ref 7, .int 0, .ref 9, .ref 15, .ref 25, .ref 31, .ref 34, .ref 36, .ref 40, .ref 44], ob 8 [.ref 2], aI 128 ca_14, ob 2 [.ref 4, .int 0, .int 0], zI 768, ob 8 [.ref 6], aI 128 ca_28, ob 2 [.ref 8, .int 0, .int 0], zI 768, ob 0 [.ref 10, .ref 11, .ref 12, .ref 13, .ref 14], zI 6, zI 6, zI 6, zI 6, zI 6, ob 7 [.ref 16, .int 0, .int 0, .ref 17, .ref 18, .ref 19, .ref 20, .ref 21, .ref 22, .ref 23, .ref 24], zI 121, zI 326, zI 326, zI 326, zI 326, zI 326, zI 326, zI 6, zI 390, ob 4 [.int 0, .int 0, .int (-4), .int 0, .ref 26, .ref 27, .ref 28, .ref 29, .ref 30], zL 1956, zL 6, zL 6, zL 6, zL 6, ob 3 [.int 0, .int 0, .ref 32, .ref 33], zI 2117, zI 6, ob 1 [.int (-4), .int (-4), .ref 35], zI 366, ob 6 [.ref 37, .int 0, .int 0, .int 0, .int 0, .int 0, .int 0, .ref 38, .ref 39], zI 80, zI 36, zZ 36, ob 5 [.ref 41, .ref 42, .ref 43], aI 4 ca_32, zI 4, zL 96, zI 6, ob 10 [.ref 46, .ref 47, .int 0, .ref 48, .ref 49, .int (-1), .ref 50, .int 0, .ref 51, .ref 52, .ref 53, .ref 54, .ref 55, .int 0, .ref 56, .ref 57, .ref 58, .ref 59, .ref 60, .ref 61, .null, .null, .null, .null, .int 0, .int 0, .null, .null], zI 128, zI 768, zI 128, zI 768, zI 80, zI 4, zI 4, zL 96, zI 326, zI 326, zI 6, zI 6, zI 366, zI 6, zL 1956, zL 6, zL 6] rfl ?_
  refine mx_putF rfl fl_X11_63 rfl (by decide) (fun _ => rfl) (fun _ => rfl) dX11_init_148 ?_
  refine mx_hp [ob 9 [.ref 1, .ref 3, .ref 5, .ref 7, .int 0, .ref 9, .ref 15, .ref 25, .ref 31, .ref 34, .ref 36, .ref 40, .ref 44], ob 8 [.ref 2], aI 128 ca_14, ob 2 [.ref 4, .int 0, .int 0], zI 768, ob 8 [.ref 6], aI 128 ca_28, ob 2 [.ref 8, .int 0, .int 0], zI 768, ob 0 [.ref 10, .ref 11, .ref 12, .ref 13, .ref 14], zI 6, zI 6, zI 6, zI 6, zI 6, ob 7 [.ref 16, .int 0, .int 0, .ref 17, .ref 18, .ref 19, .ref 20, .ref 21, .ref 22, .ref 23, .ref 24], zI 121, zI 326, zI 326, zI 326, zI 326, zI 326, zI 326, zI 6, zI 390, ob 4 [.int 0, .int 0, .int (-4), .int 0, .ref 26, .ref 27, .ref 28, .ref 29, .ref 30], zL 1956, zL 6, zL 6, zL 6, zL 6, ob 3 [.int 0, .int 0, .ref 32, .ref 33], zI 2117, zI 6, ob 1 [.int (-4), .int (-4), .ref 35], zI 366, ob 6 [.ref 37, .int 0, .int 0, .int 0, .int 0, .int 0, .int 0, .ref 38, .ref 39], zI 80, zI 36, zZ 36, ob 5 [.ref 41, .ref 42, .ref 43], aI 4 ca_32, zI 4, zL 96, zI 6, ob 10 [.ref 46, .ref 47, .int 0, .ref 48, .ref 49, .int (-1), .ref 50, .int 0, .ref 51, .ref 52, .ref 53, .ref 54, .ref 55, .int 0, .ref 56, .ref 57, .ref 58, .ref 59, .ref 60, .ref 61, .ref 62, .null, .null, .null, .int 0, .int 0, .null, .null], zI 128, zI 768, zI 128, zI 768, zI 80, zI 4, zI 4, zL 96, zI 326, zI 326, zI 6, zI 6, zI 366, zI 6, zL 1956, zL 6, zL 6] rfl ?_
  refine mx_aload_n dX11_init_151 rfl 0 rfl ?_
  refine mx_bipush 6 dX11_init_152 (by decide) ?_
  refine mx_newarr (N := 6) (a0 := (6, .inr (.inl fun _ => 0))) 1 al_long rfl (fun _ => rfl) (fun _ => rfl) (by decide) (by decide) (by decide) ⟨Nat.le_of_ble_eq_true rfl, Nat.le_of_ble_eq_true rfl⟩ (Nat.le_of_ble_eq_true rfl) rfl rfl rfl dX11_init_154 ?_
  refine mx_hp [ob 9 [.ref 1, .ref 3, .ref 5, .ref 7, .int 0, .ref 9, .ref 15, .ref 25, .ref 31, .ref 34, .ref 36, .ref 40, .ref 44], ob 8 [.ref 2], aI 128 ca_14, ob 2 [.ref 4, .int 0, .int 0], zI 768, ob 8 [.ref 6], aI 128 ca_28, ob 2 [.ref 8, .int 0, .int 0], zI 768, ob 0 [.ref 10, .ref 11, .ref 12, .ref 13, .ref 14], zI 6, zI 6, zI 6, zI 6, zI 6, ob 7 [.ref 16, .int 0, .int 0, .ref 17, .ref 18, .ref 19, .ref 20, .ref 21, .ref 22, .ref 23, .ref 24], zI 121, zI 326, zI 326, zI 326, zI 326, zI 326, zI 326, zI 6, zI 390, ob 4 [.int 0, .int 0, .int (-4), .int 0, .ref 26, .ref 27, .ref 28, .ref 29, .ref 30], zL 1956, zL 6, zL 6, zL 6, zL 6, ob 3 [.int 0, .int 0, .ref 32, .ref 33], zI 2117, zI 6, ob 1 [.int (-4), .int (-4), .ref 35], zI 366, ob 6 [.ref 37, .int 0, .int 0, .int 0, .int 0, .int 0, .int 0, .ref 38, .ref 39], zI 80, zI 36, zZ 36, ob 5 [.ref 41, .ref 42, .ref 43], aI 4 ca_32, zI 4, zL 96, zI 6, ob 10 [.ref 46, .ref 47, .int 0, .ref 48, .ref 49, .int (-1), .ref 50, .int 0, .ref 51, .ref 52, .ref 53, .ref 54, .ref 55, .int 0, .ref 56, .ref 57, .ref 58, .ref 59, .ref 60, .ref 61, .ref 62, .null, .null, .null, .int 0, .int 0, .null, .null], zI 128, zI 768, zI 128, zI 768, zI 80, zI 4, zI 4, zL 96, zI 326, zI 326, zI 6, zI 6, zI 366, zI 6, zL 1956, zL 6, zL 6, zL 6] rfl ?_
  refine mx_putF rfl fl_X11_66 rfl (by decide) (fun _ => rfl) (fun _ => rfl) dX11_init_156 ?_
  refine mx_hp [ob 9 [.ref 1, .ref 3, .ref 5, .ref 7, .int 0, .ref 9, .ref 15, .ref 25, .ref 31, .ref 34, .ref 36, .ref 40, .ref 44], ob 8 [.ref 2], aI 128 ca_14, ob 2 [.ref 4, .int 0, .int 0], zI 768, ob 8 [.ref 6], aI 128 ca_28, ob 2 [.ref 8, .int 0, .int 0], zI 768, ob 0 [.ref 10, .ref 11, .ref 12, .ref 13, .ref 14], zI 6, zI 6, zI 6, zI 6, zI 6, ob 7 [.ref 16, .int 0, .int 0, .ref 17, .ref 18, .ref 19, .ref 20, .ref 21, .ref 22, .ref 23, .ref 24], zI 121, zI 326, zI 326, zI 326, zI 326, zI 326, zI 326, zI 6, zI 390, ob 4 [.int 0, .int 0, .int (-4), .int 0, .ref 26, .ref 27, .ref 28, .ref 29, .ref 30], zL 1956, zL 6, zL 6, zL 6, zL 6, ob 3 [.int 0, .int 0, .ref 32, .ref 33], zI 2117, zI 6, ob 1 [.int (-4), .int (-4), .ref 35], zI 366, ob 6 [.ref 37, .int 0, .int 0, .int 0, .int 0, .int 0, .int 0, .ref 38, .ref 39], zI 80, zI 36, zZ 36, ob 5 [.ref 41, .ref 42, .ref 43], aI 4 ca_32, zI 4, zL 96, zI 6, ob 10 [.ref 46, .ref 47, .int 0, .ref 48, .ref 49, .int (-1), .ref 50, .int 0, .ref 51, .ref 52, .ref 53, .ref 54, .ref 55, .int 0, .ref 56, .ref 57, .ref 58, .ref 59, .ref 60, .ref 61, .ref 62, .ref 63, .null, .null, .int 0, .int 0, .null, .null], zI 128, zI 768, zI 128, zI 768, zI 80, zI 4, zI 4, zL 96, zI 326, zI 326, zI 6, zI 6, zI 366, zI 6, zL 1956, zL 6, zL 6, zL 6] rfl ?_
  refine mx_aload_n dX11_init_159 rfl 0 rfl ?_
  refine mx_bipush 36 dX11_init_160 (by decide) ?_
  refine mx_newarr (N := 36) (a0 := (36, .inl fun _ => 0)) 0 al_int rfl (fun _ => rfl) (fun _ => rfl) (by decide) (by decide) (by decide) ⟨Nat.le_of_ble_eq_true rfl, Nat.le_of_ble_eq_true rfl⟩ (Nat.le_of_ble_eq_true rfl) rfl rfl rfl dX11_init_162 ?_
  refine mx_hp [ob 9 [.ref 1, .ref 3, .ref 5, .ref 7, .int 0, .ref 9, .ref 15, .ref 25, .ref 31, .ref 34, .ref 36, .ref 40, .ref 44], ob 8 [.ref 2], aI 128 ca_14, ob 2 [.ref 4, .int 0, .int 0], zI 768, ob 8 [.ref 6], aI 128 ca_28, ob 2 [.ref 8, .int 0, .int 0], zI 768, ob 0 [.ref 10, .ref 11, .ref 12, .ref 13, .ref 14], zI 6, zI 6, zI 6, zI 6, zI 6, ob 7 [.ref 16, .int 0, .int 0, .ref 17, .ref 18, .ref 19, .ref 20, .ref 21, .ref 22, .ref 23, .ref 24], zI 121, zI 326, zI 326, zI 326, zI 326, zI 326, zI 326, zI 6, zI 390, ob 4 [.int 0, .int 0, .int (-4), .int 0, .ref 26, .ref 27, .ref 28, .ref 29, .ref 30], zL 1956, zL 6, zL 6, zL 6, zL 6, ob 3 [.int 0, .int 0, .ref 32, .ref 33], zI 2117, zI 6, ob 1 [.int (-4), .int (-4), .ref 35], zI 366, ob 6 [.ref 37, .int 0, .int 0, .int 0, .int 0, .int 0, .int 0, .ref 38, .ref 39], zI 80, zI 36, zZ 36, ob 5 [.ref 41, .ref 42, .ref 43], aI 4 ca_32, zI 4, zL 96, zI 6, ob 10 [.ref 46, .ref 47, .int 0, .ref 48, .ref 49, .int (-1), .ref 50, .int 0, .ref 51, .ref 52, .ref 53, .ref 54, .ref 55, .int 0, .ref 56, .ref 57, .ref 58, .ref 59, .ref 60, .ref 61, .ref 62, .ref 63, .null, .null, .int 0, .int 0, .null, .null], zI 128, zI 768, zI 128, zI 768, zI 80, zI 4, zI 4, zL 96, zI 326, zI 326, zI 6, zI 6, zI 366, zI 6, zL 1956, zL 6, zL 6, zL 6, zI 36] rfl ?_
  refine mx_putF rfl fl_X11_69 rfl (by decide) (fun _ => rfl) (fun _ => rfl) dX11_init_164 ?_
  refine mx_hp [ob 9 [.ref 1, .ref 3, .ref 5, .ref 7, .int 0, .ref 9, .ref 15, .ref 25, .ref 31, .ref 34, .ref 36, .ref 40, .ref 44], ob 8 [.ref 2], aI 128 ca_14, ob 2 [.ref 4, .int 0, .int 0], zI 768, ob 8 [.ref 6], aI 128 ca_28, ob 2 [.ref 8, .int 0, .int 0], zI 768, ob 0 [.ref 10, .ref 11, .ref 12, .ref 13, .ref 14], zI 6, zI 6, zI 6, zI 6, zI 6, ob 7 [.ref 16, .int 0, .int 0, .ref 17, .ref 18, .ref 19, .ref 20, .ref 21, .ref 22, .ref 23, .ref 24], zI 121, zI 326, zI 326, zI 326, zI 326, zI 326, zI 326, zI 6, zI 390, ob 4 [.int 0, .int 0, .int (-4), .int 0, .ref 26, .ref 27, .ref 28, .ref 29, .ref 30], zL 1956, zL 6, zL 6, zL 6, zL 6, ob 3 [.int 0, .int 0, .ref 32, .ref 33], zI 2117, zI 6, ob 1 [.int (-4), .int (-4), .ref 35], zI 366, ob 6 [.ref 37, .int 0, .int 0, .int 0, .int 0, .int 0, .int 0, .ref 38, .ref 39], zI 80, zI 36, zZ 36, ob 5 [.ref 41, .ref 42, .ref 43], aI 4 ca_32, zI 4, zL 96, zI 6, ob 10 [.ref 46, .ref 47, .int 0, .ref 48, .ref 49, .int (-1), .ref 50, .int 0, .ref 51, .ref 52, .ref 53, .ref 54, .ref 55, .int 0, .ref 56, .ref 57, .ref 58, .ref 59, .ref 60, .ref 61, .ref 62, .ref 63, .ref 64, .null, .int 0, .int 0, .null, .null], zI 128, zI 768, zI 128, zI 768, zI 80, zI 4, zI 4, zL 96, zI 326, zI 326, zI 6, zI 6, zI 366, zI 6, zL 1956, zL 6, zL 6, zL 6, zI 36] rfl ?_
  refine mx_aload_n dX11_init_167 rfl 0 rfl ?_
  refine mx_bipush 65 dX11_init_168 (by decide) ?_
  refine mx_newarr (N := 65) (a0 := (65, .inl fun _ => 0)) 0 al_int rfl (fun _ => rfl) (fun _ => rfl) (by decide) (by decide) (by decide) ⟨Nat.le_of_ble_eq_true rfl, Nat.le_of_ble_eq_true rfl⟩ (Nat.le_of_ble_eq_true rfl) rfl rfl rfl dX11_init_170 ?_
  refine mx_hp [ob 9 [.ref 1, .ref 3, .ref 5, .ref 7, .int 0, .ref 9, .ref 15, .ref 25, .ref 31, .ref 34, .ref 36, .ref 40, .ref 44], ob 8 [.ref 2], aI 128 ca_14, ob 2 [.ref 4, .int 0, .int 0], zI 768, ob 8 [.ref 6], aI 128 ca_28, ob 2 [.ref 8, .int 0, .int 0], zI 768, ob 0 [.ref 10, .ref 11, .ref 12, .ref 13, .ref 14], zI 6, zI 6, zI 6, zI 6, zI 6, ob 7 [.ref 16, .int 0, .int 0, .ref 17, .ref 18, .ref 19, .ref 20, .ref 21, .ref 22, .ref 23, .ref 24], zI 121, zI 326, zI 326, zI 326, zI 326, zI 326, zI 326, zI 6, zI 390, ob 4 [.int 0, .int 0, .int (-4), .int 0, .ref 26, .ref 27, .ref 28, .ref 29, .ref 30], zL 1956, zL 6, zL 6, zL 6, zL 6, ob 3 [.int 0, .int 0, .ref 32, .ref 33], zI 2117, zI 6, ob 1 [.int (-4), .int (-4), .ref 35], zI 366, ob 6 [.ref 37, .int 0, .int 0, .int 0, .int 0, .int 0, .int 0, .ref 38, .ref 39], zI 80, zI 36, zZ 36, ob 5 [.ref 41, .ref 42, .ref 43], aI 4 ca_32, zI 4, zL 96, zI 6, ob 10 [.ref 46, .ref 47, .int 0, .ref 48, .ref 49, .int (-1), .ref 50, .int 0, .ref 51, .ref 52, .ref 53, .ref 54, .ref 55, .int 0, .ref 56, .ref 57, .ref 58, .ref 59, .ref 60, .ref 61, .ref 62, .ref 63, .ref 64, .null, .int 0, .int 0, .null, .null], zI 128, zI 768, zI 128, zI 768, zI 80, zI 4, zI 4, zL 96, zI 326, zI 326, zI 6, zI 6, zI 366, zI 6, zL 1956, zL 6, zL 6, zL 6, zI 36, zI 65] rfl ?_
  refine mx_putF rfl fl_X11_72 rfl (by decide) (fun _ => rfl) (fun _ => rfl) dX11_init_172 ?_
  refine mx_hp [ob 9 [.ref 1, .ref 3, .ref 5, .ref 7, .int 0, .ref 9, .ref 15, .ref 25, .ref 31, .ref 34, .ref 36, .ref 40, .ref 44], ob 8 [.ref 2], aI 128 ca_14, ob 2 [.ref 4, .int 0, .int 0], zI 768, ob 8 [.ref 6], aI 128 ca_28, ob 2 [.ref 8, .int 0, .int 0], zI 768, ob 0 [.ref 10, .ref 11, .ref 12, .ref 13, .ref 14], zI 6, zI 6, zI 6, zI 6, zI 6, ob 7 [.ref 16, .int 0, .int 0, .ref 17, .ref 18, .ref 19, .ref 20, .ref 21, .ref 22, .ref 23, .ref 24], zI 121, zI 326, zI 326, zI 326, zI 326, zI 326, zI 326, zI 6, zI 390, ob 4 [.int 0, .int 0, .int (-4), .int 0, .ref 26, .ref 27, .ref 28, .ref 29, .ref 30], zL 1956, zL 6, zL 6, zL 6, zL 6, ob 3 [.int 0, .int 0, .ref 32, .ref 33], zI 2117, zI 6, ob 1 [.int (-4), .int (-4), .ref 35], zI 366, ob 6 [.ref 37, .int 0, .int 0, .int 0, .int 0, .int 0, .int 0, .ref 38, .ref 39], zI 80, zI 36, zZ 36, ob 5 [.ref 41, .ref 42, .ref 43], aI 4 ca_32, zI 4, zL 96, zI 6, ob 10 [.ref 46, .ref 47, .int 0, .ref 48, .ref 49, .int (-1), .ref 50, .int 0, .ref 51, .ref 52, .ref 53, .ref 54, .ref 55, .int 0, .ref 56, .ref 57, .ref 58, .ref 59, .ref 60, .ref 61, .ref 62, .ref 63, .ref 64, .ref 65, .int 0, .int 0, .null, .null], zI 128, zI 768, zI 128, zI 768, zI 80, zI 4, zI 4, zL 96, zI 326, zI 326, zI 6, zI 6, zI 366, zI 6, zL 1956, zL 6, zL 6, zL 6, zI 36, zI 65] rfl ?_
  refine mx_aload_n dX11_init_175 rfl 0 rfl ?_
  refine mx_bipush 36 dX11_init_176 (by decide) ?_
  refine mx_newarr (N := 36) (a0 := (36, .inl fun _ => 0)) 0 al_int rfl (fun _ => rfl) (fun _ => rfl) (by decide) (by decide) (by decide) ⟨Nat.le_of_ble_eq_true rfl, Nat.le_of_ble_eq_true rfl⟩ (Nat.le_of_ble_eq_true rfl) rfl rfl rfl dX11_init_178 ?_
  refine mx_hp [ob 9 [.ref 1, .ref 3, .ref 5, .ref 7, .int 0, .ref 9, .ref 15, .ref 25, .ref 31, .ref 34, .ref 36, .ref 40, .ref 44], ob 8 [.ref 2], aI 128 ca_14, ob 2 [.ref 4, .int 0, .int 0], zI 768, ob 8 [.ref 6], aI 128 ca_28, ob 2 [.ref 8, .int 0, .int 0], zI 768, ob 0 [.ref 10, .ref 11, .ref 12, .ref 13, .ref 14], zI 6, zI 6, zI 6, zI 6, zI 6, ob 7 [.ref 16, .int 0, .int 0, .ref 17, .ref 18, .ref 19, .ref 20, .ref 21, .ref 22, .ref 23, .ref 24], zI 121, zI 326, zI 326, zI 326, zI 326, zI 326, zI 326, zI 6, zI 390, ob 4 [.int 0, .int 0, .int (-4), .int 0, .ref 26, .ref 27, .ref 28, .ref 29, .ref 30], zL 1956, zL 6, zL 6, zL 6, zL 6, ob 3 [.int 0, .int 0, .ref 32, .ref 33], zI 2117, zI 6, ob 1 [.int (-4), .int (-4), .ref 35], zI 366, ob 6 [.ref 37, .int 0, .int 0, .int 0, .int 0, .int 0, .int 0, .ref 38, .ref 39], zI 80, zI 36, zZ 36, ob 5 [.ref 41, .ref 42, .ref 43], aI 4 ca_32, zI 4, zL 96, zI 6, ob 10 [.ref 46, .ref 47, .int 0, .ref 48, .ref 49, .int (-1), .ref 50, .int 0, .ref 51, .ref 52, .ref 53, .ref 54, .ref 55, .int 0, .ref 56, .ref 57, .ref 58, .ref 59, .ref 60, .ref 61, .ref 62, .ref 63, .ref 64, .ref 65, .int 0, .int 0, .null, .null], zI 128, zI 768, zI 128, zI 768, zI 80, zI 4, zI 4, zL 96, zI 326, zI 326, zI 6, zI 6, zI 366, zI 6, zL 1956, zL 6, zL 6, zL 6, zI 36, zI 65, zI 36] rfl ?_
  refine mx_putF rfl fl_X11_75 rfl (by decide) (fun _ => rfl) (fun _ => rfl) dX11_init_180 ?_
  refine mx_hp [ob 9 [.ref 1, .ref 3, .ref 5, .ref 7, .int 0, .ref 9, .ref 15, .ref 25, .ref 31, .ref 34, .ref 36, .ref 40, .ref 44], ob 8 [.ref 2], aI 128 ca_14, ob 2 [.ref 4, .int 0, .int 0], zI 768, ob 8 [.ref 6], aI 128 ca_28, ob 2 [.ref 8, .int 0, .int 0], zI 768, ob 0 [.ref 10, .ref 11, .ref 12, .ref 13, .ref 14], zI 6, zI 6, zI 6, zI 6, zI 6, ob 7 [.ref 16, .int 0, .int 0, .ref 17, .ref 18, .ref 19, .ref 20, .ref 21, .ref 22, .ref 23, .ref 24], zI 121, zI 326, zI 326, zI 326, zI 326, zI 326, zI 326, zI 6, zI 390, ob 4 [.int 0, .int 0, .int (-4), .int 0, .ref 26, .ref 27, .ref 28, .ref 29, .ref 30], zL 1956, zL 6, zL 6, zL 6, zL 6, ob 3 [.int 0, .int 0, .ref 32, .ref 33], zI 2117, zI 6, ob 1 [.int (-4), .int (-4), .ref 35], zI 366, ob 6 [.ref 37, .int 0, .int 0, .int 0, .int 0, .int 0, .int 0, .ref 38, .ref 39], zI 80, zI 36, zZ 36, ob 5 [.ref 41, .ref 42, .ref 43], aI 4 ca_32, zI 4, zL 96, zI 6, ob 10 [.ref 46, .ref 47, .int 0, .ref 48, .ref 49, .int (-1), .ref 50, .int 0, .ref 51, .ref 52, .ref 53, .ref 54, .ref 55, .int 0, .ref 56, .ref 57, .ref 58, .ref 59, .ref 60, .ref 61, .ref 62, .ref 63, .ref 64, .ref 65, .int 0, .int 0, .ref 66, .null], zI 128, zI 768, zI 128, zI 768, zI 80, zI 4, zI 4, zL 96, zI 326, zI 326, zI 6, zI 6, zI 366, zI 6, zL 1956, zL 6, zL 6, zL 6, zI 36, zI 65, zI 36] rfl ?_
  refine mx_aload_n dX11_init_183 rfl 0 rfl ?_
  refine mx_bipush 36 dX11_init_184 (by decide) ?_
  refine mx_newarr (N := 36) (a0 := (36, .inl fun _ => 0)) 0 al_int rfl (fun _ => rfl) (fun _ => rfl) (by decide) (by decide) (by decide) ⟨Nat.le_of_ble_eq_true rfl, Nat.le_of_ble_eq_true rfl⟩ (Nat.le_of_ble_eq_true rfl) rfl rfl rfl dX11_init_186 ?_
  refine mx_hp [ob 9 [.ref 1, .ref 3, .ref 5, .ref 7, .int 0, .ref 9, .ref 15, .ref 25, .ref 31, .ref 34, .ref 36, .ref 40, .ref 44], ob 8 [.ref 2], aI 128 ca_14, ob 2 [.ref 4, .int 0, .int 0], zI 768, ob 8 [.ref 6], aI 128 ca_28, ob 2 [.ref 8, .int 0, .int 0], zI 768, ob 0 [.ref 10, .ref 11, .ref 12, .ref 13, .ref 14], zI 6, zI 6, zI 6, zI 6, zI 6, ob 7 [.ref 16, .int 0, .int 0, .ref 17, .ref 18, .ref 19, .ref 20, .ref 21, .ref 22, .ref 23, .ref 24], zI 121, zI 326, zI 326, zI 326, zI 326, zI 326, zI 326, zI 6, zI 390, ob 4 [.int 0, .int 0, .int (-4), .int 0, .ref 26, .ref 27, .ref 28, .ref 29, .ref 30], zL 1956, zL 6, zL 6, zL 6, zL 6, ob 3 [.int 0, .int 0, .ref 32, .ref 33], zI 2117, zI 6, ob 1 [.int (-4), .int (-4), .ref 35], zI 366, ob 6 [.ref 37, .int 0, .int 0, .int 0, .int 0, .int 0, .int 0, .ref 38, .ref 39], zI 80, zI 36, zZ 36, ob 5 [.ref 41, .ref 42, .ref 43], aI 4 ca_32, zI 4, zL 96, zI 6, ob 10 [.ref 46, .ref 47, .int 0, .ref 48, .ref 49, .int (-1), .ref 50, .int 0, .ref 51, .ref 52, .ref 53, .ref 54, .ref 55, .int 0, .ref 56, .ref 57, .ref 58, .ref 59, .ref 60, .ref 61, .ref 62, .ref 63, .ref 64, .ref 65, .int 0, .int 0, .ref 66, .null], zI 128, zI 768, zI 128, zI 768, zI 80, zI 4, zI 4, zL 96, zI 326, zI 326, zI 6, zI 6, zI 366, zI 6, zL 1956, zL 6, zL 6, zL 6, zI 36, zI 65, zI 36, zI 36] rfl ?_
  refine mx_putF rfl fl_X11_78 rfl (by decide) (fun _ => rfl) (fun _ => rfl) dX11_init_188 ?_
  refine mx_hp [ob 9 [.ref 1, .ref 3, .ref 5, .ref 7, .int 0, .ref 9, .ref 15, .ref 25, .ref 31, .ref 34, .ref 36, .ref 40, .ref 44], ob 8 [.ref 2], aI 128 ca_14, ob 2 [.ref 4, .int 0, .int 0], zI 768, ob 8 [.ref 6], aI 128 ca_28, ob 2 [.ref 8, .int 0, .int 0], zI 768, ob 0 [.ref 10, .ref 11, .ref 12, .ref 13, .ref 14], zI 6, zI 6, zI 6, zI 6, zI 6, ob 7 [.ref 16, .int 0, .int 0, .ref 17, .ref 18, .ref 19, .ref 20, .ref 21, .ref 22, .ref 23, .ref 24], zI 121, zI 326, zI 326, zI 326, zI 326, zI 326, zI 326, zI 6, zI 390, ob 4 [.int 0, .int 0, .int (-4), .int 0, .ref 26, .ref 27, .ref 28, .ref 29, .ref 30], zL 1956, zL 6, zL 6, zL 6, zL 6, ob 3 [.int 0, .int 0, .ref 32, .ref 33], zI 2117, zI 6, ob 1 [.int (-4), .int (-4), .ref 35], zI 366, ob 6 [.ref 37, .int 0, .int 0, .int 0, .int 0, .int 0, .int 0, .ref 38, .ref 39], zI 80, zI 36, zZ 36, ob 5 [.ref 41, .ref 42, .ref 43], aI 4 ca_32, zI 4, zL 96, zI 6, ob 10 [.ref 46, .ref 47, .int 0, .ref 48, .ref 49, .int (-1), .ref 50, .int 0, .ref 51, .ref 52, .ref 53, .ref 54, .ref 55, .int 0, .ref 56, .ref 57, .ref 58, .ref 59, .ref 60, .ref 61, .ref 62, .ref 63, .ref 64, .ref 65, .int 0, .int 0, .ref 66, .ref 67], zI 128, zI 768, zI 128, zI 768, zI 80, zI 4, zI 4, zL 96, zI 326, zI 326, zI 6, zI 6, zI 366, zI 6, zL 1956, zL 6, zL 6, zL 6, zI 36, zI 65, zI 36, zI 36] rfl ?_
  refine mx_aload_n dX11_init_191 rfl 0 rfl ?_
  refine mx_get fl_X11_7 rfl rfl dX11_init_192 ?_
  refine mx_iconst 0 dX11_init_195 (by decide) ?_
  refine mx_iconst 4 dX11_init_196 (by decide) ?_
  refine mx_iast rfl (by unfold vp_in; decide) dX11_init_197 ?_
  refine mx_hp [ob 9 [.ref 1, .ref 3, .ref 5, .ref 7, .int 0, .ref 9, .ref 15, .ref 25, .ref 31, .ref 34, .ref 36, .ref 40, .ref 44], ob 8 [.ref 2], aI 128 ca_14, ob 2 [.ref 4, .int 0, .int 0], zI 768, ob 8 [.ref 6], aI 128 ca_28, ob 2 [.ref 8, .int 0, .int 0], zI 768, ob 0 [.ref 10, .ref 11, .ref 12, .ref 13, .ref 14], zI 6, zI 6, zI 6, zI 6, zI 6, ob 7 [.ref 16, .int 0, .int 0, .ref 17, .ref 18, .ref 19, .ref 20, .ref 21, .ref 22, .ref 23, .ref 24], zI 121, zI 326, zI 326, zI 326, zI 326, zI 326, zI 326, zI 6, zI 390, ob 4 [.int 0, .int 0, .int (-4), .int 0, .ref 26, .ref 27, .ref 28, .ref 29, .ref 30], zL 1956, zL 6, zL 6, zL 6, zL 6, ob 3 [.int 0, .int 0, .ref 32, .ref 33], zI 2117, zI 6, ob 1 [.int (-4), .int (-4), .ref 35], zI 366, ob 6 [.ref 37, .int 0, .int 0, .int 0, .int 0, .int 0, .int 0, .ref 38, .ref 39], zI 80, zI 36, zZ 36, ob 5 [.ref 41, .ref 42, .ref 43], aI 4 ca_32, zI 4, zL 96, zI 6, ob 10 [.ref 46, .ref 47, .int 0, .ref 48, .ref 49, .int (-1), .ref 50, .int 0, .ref 51, .ref 52, .ref 53, .ref 54, .ref 55, .int 0, .ref 56, .ref 57, .ref 58, .ref 59, .ref 60, .ref 61, .ref 62, .ref 63, .ref 64, .ref 65, .int 0, .int 0, .ref 66, .ref 67], aI 128 ca_33, zI 768, zI 128, zI 768, zI 80, zI 4, zI 4, zL 96, zI 326, zI 326, zI 6, zI 6, zI 366, zI 6, zL 1956, zL 6, zL 6, zL 6, zI 36, zI 65, zI 36, zI 36] rfl ?_
  refine mx_aload_n dX11_init_198 rfl 0 rfl ?_
  refine mx_get fl_X11_7 rfl rfl dX11_init_199 ?_
  refine mx_bipush 127 dX11_init_202 (by decide) ?_
  refine mx_iconst 1 dX11_init_204 (by decide) ?_
  refine mx_iast rfl (by unfold vp_in; decide) dX11_init_205 ?_
  refine mx_hp [ob 9 [.ref 1, .ref 3, .ref 5, .ref 7, .int 0, .ref 9, .ref 15, .ref 25, .ref 31, .ref 34, .ref 36, .ref 40, .ref 44], ob 8 [.ref 2], aI 128 ca_14, ob 2 [.ref 4, .int 0, .int 0], zI 768, ob 8 [.ref 6], aI 128 ca_28, ob 2 [.ref 8, .int 0, .int 0], zI 768, ob 0 [.ref 10, .ref 11, .ref 12, .ref 13, .ref 14], zI 6, zI 6, zI 6, zI 6, zI 6, ob 7 [.ref 16, .int 0, .int 0, .ref 17, .ref 18, .ref 19, .ref 20, .ref 21, .ref 22, .ref 23, .ref 24], zI 121, zI 326, zI 326, zI 326, zI 326, zI 326, zI 326, zI 6, zI 390, ob 4 [.int 0, .int 0, .int (-4), .int 0, .ref 26, .ref 27, .ref 28, .ref 29, .ref 30], zL 1956, zL 6, zL 6, zL 6, zL 6, ob 3 [.int 0, .int 0, .ref 32, .ref 33], zI 2117, zI 6, ob 1 [.int (-4), .int (-4), .ref 35], zI 366, ob 6 [.ref 37, .int 0, .int 0, .int 0, .int 0, .int 0, .int 0, .ref 38, .ref 39], zI 80, zI 36, zZ 36, ob 5 [.ref 41, .ref 42, .ref 43], aI 4 ca_32, zI 4, zL 96, zI 6, ob 10 [.ref 46, .ref 47, .int 0, .ref 48, .ref 49, .int (-1), .ref 50, .int 0, .ref 51, .ref 52, .ref 53, .ref 54, .ref 55, .int 0, .ref 56, .ref 57, .ref 58, .ref 59, .ref 60, .ref 61, .ref 62, .ref 63, .ref 64, .ref 65, .int 0, .int 0, .ref 66, .ref 67], aI 128 ca_34, zI 768, zI 128, zI 768, zI 80, zI 4, zI 4, zL 96, zI 326, zI 326, zI 6, zI 6, zI 366, zI 6, zL 1956, zL 6, zL 6, zL 6, zI 36, zI 65, zI 36, zI 36] rfl ?_
  refine mx_iconst 0 dX11_init_206 (by decide) ?_
  refine mx_istore_n [(1, .int 0), (0, .ref 45)] dX11_init_207 rfl (by decide) rfl ?_
  refine mx_iload_n dX11_init_208 rfl 0 rfl ?_
  refine mx_bipush 6 dX11_init_209 (by decide) ?_
  refine mx_icmp_ge 249 dX11_init_211 (by decide) (fun c => absurd c (by decide)) (fun _ => ?_)
  refine mx_aload_n dX11_init_214 rfl 1 rfl ?_
  refine mx_get fl_X11_7 rfl rfl dX11_init_215 ?_
  refine mx_bipush 109 dX11_init_218 (by decide) ?_
  refine mx_iload_n dX11_init_220 rfl 0 rfl ?_
  refine mx_iadd dX11_init_221 ?_
  refine mx_top 109 (by decide) ?_
  refine mx_iconst 3 dX11_init_222 (by decide) ?_
  refine mx_iast rfl (by unfold vp_in; decide) dX11_init_223 ?_
  refine mx_hp [ob 9 [.ref 1, .ref 3, .ref 5, .ref 7, .int 0, .ref 9, .ref 15, .ref 25, .ref 31, .ref 34, .ref 36, .ref 40, .ref 44], ob 8 [.ref 2], aI 128 ca_14, ob 2 [.ref 4, .int 0, .int 0], zI 768, ob 8 [.ref 6], aI 128 ca_28, ob 2 [.ref 8, .int 0, .int 0], zI 768, ob 0 [.ref 10, .ref 11, .ref 12, .ref 13, .ref 14], zI 6, zI 6, zI 6, zI 6, zI 6, ob 7 [.ref 16, .int 0, .int 0, .ref 17, .ref 18, .ref 19, .ref 20, .ref 21, .ref 22, .ref 23, .ref 24], zI 121, zI 326, zI 326, zI 326, zI 326, zI 326, zI 326, zI 6, zI 390, ob 4 [.int 0, .int 0, .int (-4), .int 0, .ref 26, .ref 27, .ref 28, .ref 29, .ref 30], zL 1956, zL 6, zL 6, zL 6, zL 6, ob 3 [.int 0, .int 0, .ref 32, .ref 33], zI 2117, zI 6, ob 1 [.int (-4), .int (-4), .ref 35], zI 366, ob 6 [.ref 37, .int 0, .int 0, .int 0, .int 0, .int 0, .int 0, .ref 38, .ref 39], zI 80, zI 36, zZ 36, ob 5 [.ref 41, .ref 42, .ref 43], aI 4 ca_32, zI 4, zL 96, zI 6, ob 10 [.ref 46, .ref 47, .int 0, .ref 48, .ref 49, .int (-1), .ref 50, .int 0, .ref 51, .ref 52, .ref 53, .ref 54, .ref 55, .int 0, .ref 56, .ref 57, .ref 58, .ref 59, .ref 60, .ref 61, .ref 62, .ref 63, .ref 64, .ref 65, .int 0, .int 0, .ref 66, .ref 67], aI 128 ca_35, zI 768, zI 128, zI 768, zI 80, zI 4, zI 4, zL 96, zI 326, zI 326, zI 6, zI 6, zI 366, zI 6, zL 1956, zL 6, zL 6, zL 6, zI 36, zI 65, zI 36, zI 36] rfl ?_
  refine mx_aload_n dX11_init_224 rfl 1 rfl ?_
  refine mx_get fl_X11_7 rfl rfl dX11_init_225 ?_
  refine mx_bipush 121 dX11_init_228 (by decide) ?_
  refine mx_iload_n dX11_init_230 rfl 0 rfl ?_
  refine mx_iadd dX11_init_231 ?_
  refine mx_top 121 (by decide) ?_
  refine mx_iload_n dX11_init_232 rfl 0 rfl ?_
  refine mx_if_ne 240 dX11_init_233 (by decide) (fun c => absurd c (by decide)) (fun _ => ?_)
  refine mx_iconst 0 dX11_init_236 (by decide) ?_
  refine mx_goto 242 dX11_init_237 (by decide) ?_
  refine mx_iast rfl (by unfold vp_in; decide) dX11_init_242 ?_
  refine mx_hp [ob 9 [.ref 1, .ref 3, .ref 5, .ref 7, .int 0, .ref 9, .ref 15, .ref 25, .ref 31, .ref 34, .ref 36, .ref 40, .ref 44], ob 8 [.ref 2], aI 128 ca_14, ob 2 [.ref 4, .int 0, .int 0], zI 768, ob 8 [.ref 6], aI 128 ca_28, ob 2 [.ref 8, .int 0, .int 0], zI 768, ob 0 [.ref 10, .ref 11, .ref 12, .ref 13, .ref 14], zI 6, zI 6, zI 6, zI 6, zI 6, ob 7 [.ref 16, .int 0, .int 0, .ref 17, .ref 18, .ref 19, .ref 20, .ref 21, .ref 22, .ref 23, .ref 24], zI 121, zI 326, zI 326, zI 326, zI 326, zI 326, zI 326, zI 6, zI 390, ob 4 [.int 0, .int 0, .int (-4), .int 0, .ref 26, .ref 27, .ref 28, .ref 29, .ref 30], zL 1956, zL 6, zL 6, zL 6, zL 6, ob 3 [.int 0, .int 0, .ref 32, .ref 33], zI 2117, zI 6, ob 1 [.int (-4), .int (-4), .ref 35], zI 366, ob 6 [.ref 37, .int 0, .int 0, .int 0, .int 0, .int 0, .int 0, .ref 38, .ref 39], zI 80, zI 36, zZ 36, ob 5 [.ref 41, .ref 42, .ref 43], aI 4 ca_32, zI 4, zL 96, zI 6, ob 10 [.ref 46, .ref 47, .int 0, .ref 48, .ref 49, .int (-1), .ref 50, .int 0, .ref 51, .ref 52, .ref 53, .ref 54, .ref 55, .int 0, .ref 56, .ref 57, .ref 58, .ref 59, .ref 60, .ref 61, .ref 62, .ref 63, .ref 64, .ref 65, .int 0, .int 0, .ref 66, .ref 67], aI 128 ca_36, zI 768, zI 128, zI 768, zI 80, zI 4, zI 4, zL 96, zI 326, zI 326, zI 6, zI 6, zI 366, zI 6, zL 1956, zL 6, zL 6, zL 6, zI 36, zI 65, zI 36, zI 36] rfl ?_
  refine mx_iinc 1 [(1, .int (0 + 1)), (0, .ref 45)] dX11_init_243 0 rfl (by decide) (by decide) rfl ?_
  refine mx_sub (loc' := [(1, .int 1), (0, .ref 45)]) [0, 1] rfl ?_
  refine mx_goto 208 dX11_init_246 (by decide) ?_
  refine mx_iload_n dX11_init_208 rfl 0 rfl ?_
  refine mx_bipush 6 dX11_init_209 (by decide) ?_
  refine mx_icmp_ge 249 dX11_init_211 (by decide) (fun c => absurd c (by decide)) (fun _ => ?_)
  refine mx_aload_n dX11_init_214 rfl 1 rfl ?_
  refine mx_get fl_X11_7 rfl rfl dX11_init_215 ?_
  refine mx_bipush 109 dX11_init_218 (by decide) ?_
  refine mx_iload_n dX11_init_220 rfl 0 rfl ?_
  refine mx_iadd dX11_init_221 ?_
  refine mx_top 110 (by decide) ?_
  refine mx_iconst 3 dX11_init_222 (by decide) ?_
  refine mx_iast rfl (by unfold vp_in; decide) dX11_init_223 ?_
  refine mx_hp [ob 9 [.ref 1, .ref 3, .ref 5, .ref 7, .int 0, .ref 9, .ref 15, .ref 25, .ref 31, .ref 34, .ref 36, .ref 40, .ref 44], ob 8 [.ref 2], aI 128 ca_14, ob 2 [.ref 4, .int 0, .int 0], zI 768, ob 8 [.ref 6], aI 128 ca_28, ob 2 [.ref 8, .int 0, .int 0], zI 768, ob 0 [.ref 10, .ref 11, .ref 12, .ref 13, .ref 14], zI 6, zI 6, zI 6, zI 6, zI 6, ob 7 [.ref 16, .int 0, .int 0, .ref 17, .ref 18, .ref 19, .ref 20, .ref 21, .ref 22, .ref 23, .ref 24], zI 121, zI 326, zI 326, zI 326, zI 326, zI 326, zI 326, zI 6, zI 390, ob 4 [.int 0, .int 0, .int (-4), .int 0, .ref 26, .ref 27, .ref 28, .ref 29, .ref 30], zL 1956, zL 6, zL 6, zL 6, zL 6, ob 3 [.int 0, .int 0, .ref 32, .ref 33], zI 2117, zI 6, ob 1 [.int (-4), .int (-4), .ref 35], zI 366, ob 6 [.ref 37, .int 0, .int 0, .int 0, .int 0, .int 0, .int 0, .ref 38, .ref 39], zI 80, zI 36, zZ 36, ob 5 [.ref 41, .ref 42, .ref 43], aI 4 ca_32, zI 4, zL 96, zI 6, ob 10 [.ref 46, .ref 47, .int 0, .ref 48, .ref 49, .int (-1), .ref 50, .int 0, .ref 51, .ref 52, .ref 53, .ref 54, .ref 55, .int 0, .ref 56, .ref 57, .ref 58, .ref 59, .ref 60, .ref 61, .ref 62, .ref 63, .ref 64, .ref 65, .int 0, .int 0, .ref 66, .ref 67], aI 128 ca_37, zI 768, zI 128, zI 768, zI 80, zI 4, zI 4, zL 96, zI 326, zI 326, zI 6, zI 6, zI 366, zI 6, zL 1956, zL 6, zL 6, zL 6, zI 36, zI 65, zI 36, zI 36] rfl ?_
  refine mx_aload_n dX11_init_224 rfl 1 rfl ?_
  refine mx_get fl_X11_7 rfl rfl dX11_init_225 ?_
  refine mx_bipush 121 dX11_init_228 (by decide) ?_
  refine mx_iload_n dX11_init_230 rfl 0 rfl ?_
  refine mx_iadd dX11_init_231 ?_
  refine mx_top 122 (by decide) ?_
  refine mx_iload_n dX11_init_232 rfl 0 rfl ?_
  refine mx_if_ne 240 dX11_init_233 (by decide) (fun _ => ?_) (fun c => absurd c (by decide))
  refine mx_bipush (-4) dX11_init_240 (by decide) ?_
  refine mx_iast rfl (by unfold vp_in; decide) dX11_init_242 ?_
  refine mx_hp [ob 9 [.ref 1, .ref 3, .ref 5, .ref 7, .int 0, .ref 9, .ref 15, .ref 25, .ref 31, .ref 34, .ref 36, .ref 40, .ref 44], ob 8 [.ref 2], aI 128 ca_14, ob 2 [.ref 4, .int 0, .int 0], zI 768, ob 8 [.ref 6], aI 128 ca_28, ob 2 [.ref 8, .int 0, .int 0], zI 768, ob 0 [.ref 10, .ref 11, .ref 12, .ref 13, .ref 14], zI 6, zI 6, zI 6, zI 6, zI 6, ob 7 [.ref 16, .int 0, .int 0, .ref 17, .ref 18, .ref 19, .ref 20, .ref 21, .ref 22, .ref 23, .ref 24], zI 121, zI 326, zI 326, zI 326, zI 326, zI 326, zI 326, zI 6, zI 390, ob 4 [.int 0, .int 0, .int (-4), .int 0, .ref 26, .ref 27, .ref 28, .ref 29, .ref 30], zL 1956, zL 6, zL 6, zL 6, zL 6, ob 3 [.int 0, .int 0, .ref 32, .ref 33], zI 2117, zI 6, ob 1 [.int (-4), .int (-4), .ref 35], zI 366, ob 6 [.ref 37, .int 0, .int 0, .int 0, .int 0, .int 0, .int 0, .ref 38, .ref 39], zI 80, zI 36, zZ 36, ob 5 [.ref 41, .ref 42, .ref 43], aI 4 ca_32, zI 4, zL 96, zI 6, ob 10 [.ref 46, .ref 47, .int 0, .ref 48, .ref 49, .int (-1), .ref 50, .int 0, .ref 51, .ref 52, .ref 53, .ref 54, .ref 55, .int 0, .ref 56, .ref 57, .ref 58, .ref 59, .ref 60, .ref 61, .ref 62, .ref 63, .ref 64, .ref 65, .int 0, .int 0, .ref 66, .ref 67], aI 128 ca_38, zI 768, zI 128, zI 768, zI 80, zI 4, zI 4, zL 96, zI 326, zI 326, zI 6, zI 6, zI 366, zI 6, zL 1956, zL 6, zL 6, zL 6, zI 36, zI 65, zI 36, zI 36] rfl ?_
  refine mx_iinc 1 [(1, .int (1 + 1)), (0, .ref 45)] dX11_init_243 0 rfl (by decide) (by decide) rfl ?_
  refine mx_sub (loc' := [(1, .int 2), (0, .ref 45)]) [0, 1] rfl ?_
  refine mx_goto 208 dX11_init_246 (by decide) ?_
  refine mx_iload_n dX11_init_208 rfl 0 rfl ?_
  refine mx_bipush 6 dX11_init_209 (by decide) ?_
  refine mx_icmp_ge 249 dX11_init_211 (by decide) (fun c => absurd c (by decide)) (fun _ => ?_)
  refine mx_aload_n dX11_init_214 rfl 1 rfl ?_
  refine mx_get fl_X11_7 rfl rfl dX11_init_215 ?_
  refine mx_bipush 109 dX11_init_218 (by decide) ?_
  refine mx_iload_n dX11_init_220 rfl 0 rfl ?_
  refine mx_iadd dX11_init_221 ?_
  refine mx_top 111 (by decide) ?_
  refine mx_iconst 3 dX11_init_222 (by decide) ?_
  refine mx_iast rfl (by unfold vp_in; decide) dX11_init_223 ?_
  refine mx_hp [ob 9 [.ref 1, .ref 3, .ref 5, .ref 7, .int 0, .ref 9, .ref 15, .ref 25, .ref 31, .ref 34, .ref 36, .ref 40, .ref 44], ob 8 [.ref 2], aI 128 ca_14, ob 2 [.ref 4, .int 0, .int 0], zI 768, ob 8 [.ref 6], aI 128 ca_28, ob 2 [.ref 8, .int 0, .int 0], zI 768, ob 0 [.ref 10, .ref 11, .ref 12, .ref 13, .ref 14], zI 6, zI 6, zI 6, zI 6, zI 6, ob 7 [.ref 16, .int 0, .int 0, .ref 17, .ref 18, .ref 19, .ref 20, .ref 21, .ref 22, .ref 23, .ref 24], zI 121, zI 326, zI 326, zI 326, zI 326, zI 326, zI 326, zI 6, zI 390, ob 4 [.int 0, .int 0, .int (-4), .int 0, .ref 26, .ref 27, .ref 28, .ref 29, .ref 30], zL 1956, zL 6, zL 6, zL 6, zL 6, ob 3 [.int 0, .int 0, .ref 32, .ref 33], zI 2117, zI 6, ob 1 [.int (-4), .int (-4), .ref 35], zI 366, ob 6 [.ref 37, .int 0, .int 0, .int 0, .int 0, .int 0, .int 0, .ref 38, .ref 39], zI 80, zI 36, zZ 36, ob 5 [.ref 41, .ref 42, .ref 43], aI 4 ca_32, zI 4, zL 96, zI 6, ob 10 [.ref 46, .ref 47, .int 0, .ref 48, .ref 49, .int (-1), .ref 50, .int 0, .ref 51, .ref 52, .ref 53, .ref 54, .ref 55, .int 0, .ref 56, .ref 57, .ref 58, .ref 59, .ref 60, .ref 61, .ref 62, .ref 63, .ref 64, .ref 65, .int 0, .int 0, .ref 66, .ref 67], aI 128 ca_39, zI 768, zI 128, zI 768, zI 80, zI 4, zI 4, zL 96, zI 326, zI 326, zI 6, zI 6, zI 366, zI 6, zL 1956, zL 6, zL 6, zL 6, zI 36, zI 65, zI 36, zI 36] rfl ?_
  refine mx_aload_n dX11_init_224 rfl 1 rfl ?_
  refine mx_get fl_X11_7 rfl rfl dX11_init_225 ?_
  refine mx_bipush 121 dX11_init_228 (by decide) ?_
  refine mx_iload_n dX11_init_230 rfl 0 rfl ?_
  refine mx_iadd dX11_init_231 ?_
  refine mx_top 123 (by decide) ?_
  refine mx_iload_n dX11_init_232 rfl 0 rfl ?_
  refine mx_if_ne 240 dX11_init_233 (by decide) (fun _ => ?_) (fun c => absurd c (by decide))
  refine mx_bipush (-4) dX11_init_240 (by decide) ?_
  refine mx_iast rfl (by unfold vp_in; decide) dX11_init_242 ?_
  refine mx_hp [ob 9 [.ref 1, .ref 3, .ref 5, .ref 7, .int 0, .ref 9, .ref 15, .ref 25, .ref 31, .ref 34, .ref 36, .ref 40, .ref 44], ob 8 [.ref 2], aI 128 ca_14, ob 2 [.ref 4, .int 0, .int 0], zI 768, ob 8 [.ref 6], aI 128 ca_28, ob 2 [.ref 8, .int 0, .int 0], zI 768, ob 0 [.ref 10, .ref 11, .ref 12, .ref 13, .ref 14], zI 6, zI 6, zI 6, zI 6, zI 6, ob 7 [.ref 16, .int 0, .int 0, .ref 17, .ref 18, .ref 19, .ref 20, .ref 21, .ref 22, .ref 23, .ref 24], zI 121, zI 326, zI 326, zI 326, zI 326, zI 326, zI 326, zI 6, zI 390, ob 4 [.int 0, .int 0, .int (-4), .int 0, .ref 26, .ref 27, .ref 28, .ref 29, .ref 30], zL 1956, zL 6, zL 6, zL 6, zL 6, ob 3 [.int 0, .int 0, .ref 32, .ref 33], zI 2117, zI 6, ob 1 [.int (-4), .int (-4), .ref 35], zI 366, ob 6 [.ref 37, .int 0, .int 0, .int 0, .int 0, .int 0, .int 0, .ref 38, .ref 39], zI 80, zI 36, zZ 36, ob 5 [.ref 41, .ref 42, .ref 43], aI 4 ca_32, zI 4, zL 96, zI 6, ob 10 [.ref 46, .ref 47, .int 0, .ref 48, .ref 49, .int (-1), .ref 50, .int 0, .ref 51, .ref 52, .ref 53, .ref 54, .ref 55, .int 0, .ref 56, .ref 57, .ref 58, .ref 59, .ref 60, .ref 61, .ref 62, .ref 63, .ref 64, .ref 65, .int 0, .int 0, .ref 66, .ref 67], aI 128 ca_40, zI 768, zI 128, zI 768, zI 80, zI 4, zI 4, zL 96, zI 326, zI 326, zI 6, zI 6, zI 366, zI 6, zL 1956, zL 6, zL 6, zL 6, zI 36, zI 65, zI 36, zI 36] rfl ?_
  refine mx_iinc 1 [(1, .int (2 + 1)), (0, .ref 45)] dX11_init_243 0 rfl (by decide) (by decide) rfl ?_
  refine mx_sub (loc' := [(1, .int 3), (0, .ref 45)]) [0, 1] rfl ?_
  refine mx_goto 208 dX11_init_246 (by decide) ?_
  refine mx_iload_n dX11_init_208 rfl 0 rfl ?_
  refine mx_bipush 6 dX11_init_209 (by decide) ?_
  refine mx_icmp_ge 249 dX11_init_211 (by decide) (fun c => absurd c (by decide)) (fun _ => ?_)
  refine mx_aload_n dX11_init_214 rfl 1 rfl ?_
  refine mx_get fl_X11_7 rfl rfl dX11_init_215 ?_
  refine mx_bipush 109 dX11_init_218 (by decide) ?_
  refine mx_iload_n dX11_init_220 rfl 0 rfl ?_
  refine mx_iadd dX11_init_221 ?_
  refine mx_top 112 (by decide) ?_
  refine mx_iconst 3 dX11_init_222 (by decide) ?_
  refine mx_iast rfl (by unfold vp_in; decide) dX11_init_223 ?_
  refine mx_hp [ob 9 [.ref 1, .ref 3, .ref 5, .ref 7, .int 0, .ref 9, .ref 15, .ref 25, .ref 31, .ref 34, .ref 36, .ref 40, .ref 44], ob 8 [.ref 2], aI 128 ca_14, ob 2 [.ref 4, .int 0, .int 0], zI 768, ob 8 [.ref 6], aI 128 ca_28, ob 2 [.ref 8, .int 0, .int 0], zI 768, ob 0 [.ref 10, .ref 11, .ref 12, .ref 13, .ref 14], zI 6, zI 6, zI 6, zI 6, zI 6, ob 7 [.ref 16, .int 0, .int 0, .ref 17, .ref 18, .ref 19, .ref 20, .ref 21, .ref 22, .ref 23, .ref 24], zI 121, zI 326, zI 326, zI 326, zI 326, zI 326, zI 326, zI 6, zI 390, ob 4 [.int 0, .int 0, .int (-4), .int 0, .ref 26, .ref 27, .ref 28, .ref 29, .ref 30], zL 1956, zL 6, zL 6, zL 6, zL 6, ob 3 [.int 0, .int 0, .ref 32, .ref 33], zI 2117, zI 6, ob 1 [.int (-4), .int (-4), .ref 35], zI 366, ob 6 [.ref 37, .int 0, .int 0, .int 0, .int 0, .int 0, .int 0, .ref 38, .ref 39], zI 80, zI 36, zZ 36, ob 5 [.ref 41, .ref 42, .ref 43], aI 4 ca_32, zI 4, zL 96, zI 6, ob 10 [.ref 46, .ref 47, .int 0, .ref 48, .ref 49, .int (-1), .ref 50, .int 0, .ref 51, .ref 52, .ref 53, .ref 54, .ref 55, .int 0, .ref 56, .ref 57, .ref 58, .ref 59, .ref 60, .ref 61, .ref 62, .ref 63, .ref 64, .ref 65, .int 0, .int 0, .ref 66, .ref 67], aI 128 ca_41, zI 768, zI 128, zI 768, zI 80, zI 4, zI 4, zL 96, zI 326, zI 326, zI 6, zI 6, zI 366, zI 6, zL 1956, zL 6, zL 6, zL 6, zI 36, zI 65, zI 36, zI 36] rfl ?_
  refine mx_aload_n dX11_init_224 rfl 1 rfl ?_
  refine mx_get fl_X11_7 rfl rfl dX11_init_225 ?_
  refine mx_bipush 121 dX11_init_228 (by decide) ?_
  refine mx_iload_n dX11_init_230 rfl 0 rfl ?_
  refine mx_iadd dX11_init_231 ?_
  refine mx_top 124 (by decide) ?_
  refine mx_iload_n dX11_init_232 rfl 0 rfl ?_
  refine mx_if_ne 240 dX11_init_233 (by decide) (fun _ => ?_) (fun c => absurd c (by decide))
  refine mx_bipush (-4) dX11_init_240 (by decide) ?_
  refine mx_iast rfl (by unfold vp_in; decide) dX11_init_242 ?_
  refine mx_hp [ob 9 [.ref 1, .ref 3, .ref 5, .ref 7, .int 0, .ref 9, .ref 15, .ref 25, .ref 31, .ref 34, .ref 36, .ref 40, .ref 44], ob 8 [.ref 2], aI 128 ca_14, ob 2 [.ref 4, .int 0, .int 0], zI 768, ob 8 [.ref 6], aI 128 ca_28, ob 2 [.ref 8, .int 0, .int 0], zI 768, ob 0 [.ref 10, .ref 11, .ref 12, .ref 13, .ref 14], zI 6, zI 6, zI 6, zI 6, zI 6, ob 7 [.ref 16, .int 0, .int 0, .ref 17, .ref 18, .ref 19, .ref 20, .ref 21, .ref 22, .ref 23, .ref 24], zI 121, zI 326, zI 326, zI 326, zI 326, zI 326, zI 326, zI 6, zI 390, ob 4 [.int 0, .int 0, .int (-4), .int 0, .ref 26, .ref 27, .ref 28, .ref 29, .ref 30], zL 1956, zL 6, zL 6, zL 6, zL 6, ob 3 [.int 0, .int 0, .ref 32, .ref 33], zI 2117, zI 6, ob 1 [.int (-4), .int (-4), .ref 35], zI 366, ob 6 [.ref 37, .int 0, .int 0, .int 0, .int 0, .int 0, .int 0, .ref 38, .ref 39], zI 80, zI 36, zZ 36, ob 5 [.ref 41, .ref 42, .ref 43], aI 4 ca_32, zI 4, zL 96, zI 6, ob 10 [.ref 46, .ref 47, .int 0, .ref 48, .ref 49, .int (-1), .ref 50, .int 0, .ref 51, .ref 52, .ref 53, .ref 54, .ref 55, .int 0, .ref 56, .ref 57, .ref 58, .ref 59, .ref 60, .ref 61, .ref 62, .ref 63, .ref 64, .ref 65, .int 0, .int 0, .ref 66, .ref 67], aI 128 ca_42, zI 768, zI 128, zI 768, zI 80, zI 4, zI 4, zL 96, zI 326, zI 326, zI 6, zI 6, zI 366, zI 6, zL 1956, zL 6, zL 6, zL 6, zI 36, zI 65, zI 36, zI 36] rfl ?_
  refine mx_iinc 1 [(1, .int (3 + 1)), (0, .ref 45)] dX11_init_243 0 rfl (by decide) (by decide) rfl ?_
  refine mx_sub (loc' := [(1, .int 4), (0, .ref 45)]) [0, 1] rfl ?_
  refine mx_goto 208 dX11_init_246 (by decide) ?_
  refine mx_iload_n dX11_init_208 rfl 0 rfl ?_
  refine mx_bipush 6 dX11_init_209 (by decide) ?_
  refine mx_icmp_ge 249 dX11_init_211 (by decide) (fun c => absurd c (by decide)) (fun _ => ?_)
  refine mx_aload_n dX11_init_214 rfl 1 rfl ?_
  refine mx_get fl_X11_7 rfl rfl dX11_init_215 ?_
  refine mx_bipush 109 dX11_init_218 (by decide) ?_
  refine mx_iload_n dX11_init_220 rfl 0 rfl ?_
  refine mx_iadd dX11_init_221 ?_
  refine mx_top 113 (by decide) ?_
  refine mx_iconst 3 dX11_init_222 (by decide) ?_
  refine mx_iast rfl (by unfold vp_in; decide) dX11_init_223 ?_
  refine mx_hp [ob 9 [.ref 1, .ref 3, .ref 5, .ref 7, .int 0, .ref 9, .ref 15, .ref 25, .ref 31, .ref 34, .ref 36, .ref 40, .ref 44], ob 8 [.ref 2], aI 128 ca_14, ob 2 [.ref 4, .int 0, .int 0], zI 768, ob 8 [.ref 6], aI 128 ca_28, ob 2 [.ref 8, .int 0, .int 0], zI 768, ob 0 [.ref 10, .ref 11, .ref 12, .ref 13, .ref 14], zI 6, zI 6, zI 6, zI 6, zI 6, ob 7 [.ref 16, .int 0, .int 0, .ref 17, .ref 18, .ref 19, .ref 20, .ref 21, .ref 22, .ref 23, .ref 24], zI 121, zI 326, zI 326, zI 326, zI 326, zI 326, zI 326, zI 6, zI 390, ob 4 [.int 0, .int 0, .int (-4), .int 0, .ref 26, .ref 27, .ref 28, .ref 29, .ref 30], zL 1956, zL 6, zL 6, zL 6, zL 6, ob 3 [.int 0, .int 0, .ref 32, .ref 33], zI 2117, zI 6, ob 1 [.int (-4), .int (-4), .ref 35], zI 366, ob 6 [.ref 37, .int 0, .int 0, .int 0, .int 0, .int 0, .int 0, .ref 38, .ref 39], zI 80, zI 36, zZ 36, ob 5 [.ref 41, .ref 42, .ref 43], aI 4 ca_32, zI 4, zL 96, zI 6, ob 10 [.ref 46, .ref 47, .int 0, .ref 48, .ref 49, .int (-1), .ref 50, .int 0, .ref 51, .ref 52, .ref 53, .ref 54, .ref 55, .int 0, .ref 56, .ref 57, .ref 58, .ref 59, .ref 60, .ref 61, .ref 62, .ref 63, .ref 64, .ref 65, .int 0, .int 0, .ref 66, .ref 67], aI 128 ca_43, zI 768, zI 128, zI 768, zI 80, zI 4, zI 4, zL 96, zI 326, zI 326, zI 6, zI 6, zI 366, zI 6, zL 1956, zL 6, zL 6, zL 6, zI 36, zI 65, zI 36, zI 36] rfl ?_
  refine mx_aload_n dX11_init_224 rfl 1 rfl ?_
  refine mx_get fl_X11_7 rfl rfl dX11_init_225 ?_
  refine mx_bipush 121 dX11_init_228 (by decide) ?_
  refine mx_iload_n dX11_init_230 rfl 0 rfl ?_
  refine mx_iadd dX11_init_231 ?_
  refine mx_top 125 (by decide) ?_
  refine mx_iload_n dX11_init_232 rfl 0 rfl ?_
  refine mx_if_ne 240 dX11_init_233 (by decide) (fun _ => ?_) (fun c => absurd c (by decide))
  refine mx_bipush (-4) dX11_init_240 (by decide) ?_
  refine mx_iast rfl (by unfold vp_in; decide) dX11_init_242 ?_
  refine mx_hp [ob 9 [.ref 1, .ref 3, .ref 5, .ref 7, .int 0, .ref 9, .ref 15, .ref 25, .ref 31, .ref 34, .ref 36, .ref 40, .ref 44], ob 8 [.ref 2], aI 128 ca_14, ob 2 [.ref 4, .int 0, .int 0], zI 768, ob 8 [.ref 6], aI 128 ca_28, ob 2 [.ref 8, .int 0, .int 0], zI 768, ob 0 [.ref 10, .ref 11, .ref 12, .ref 13, .ref 14], zI 6, zI 6, zI 6, zI 6, zI 6, ob 7 [.ref 16, .int 0, .int 0, .ref 17, .ref 18, .ref 19, .ref 20, .ref 21, .ref 22, .ref 23, .ref 24], zI 121, zI 326, zI 326, zI 326, zI 326, zI 326, zI 326, zI 6, zI 390, ob 4 [.int 0, .int 0, .int (-4), .int 0, .ref 26, .ref 27, .ref 28, .ref 29, .ref 30], zL 1956, zL 6, zL 6, zL 6, zL 6, ob 3 [.int 0, .int 0, .ref 32, .ref 33], zI 2117, zI 6, ob 1 [.int (-4), .int (-4), .ref 35], zI 366, ob 6 [.ref 37, .int 0, .int 0, .int 0, .int 0, .int 0, .int 0, .ref 38, .ref 39], zI 80, zI 36, zZ 36, ob 5 [.ref 41, .ref 42, .ref 43], aI 4 ca_32, zI 4, zL 96, zI 6, ob 10 [.ref 46, .ref 47, .int 0, .ref 48, .ref 49, .int (-1), .ref 50, .int 0, .ref 51, .ref 52, .ref 53, .ref 54, .ref 55, .int 0, .ref 56, .ref 57, .ref 58, .ref 59, .ref 60, .ref 61, .ref 62, .ref 63, .ref 64, .ref 65, .int 0, .int 0, .ref 66, .ref 67], aI 128 ca_44, zI 768, zI 128, zI 768, zI 80, zI 4, zI 4, zL 96, zI 326, zI 326, zI 6, zI 6, zI 366, zI 6, zL 1956, zL 6, zL 6, zL 6, zI 36, zI 65, zI 36, zI 36] rfl ?_
  refine mx_iinc 1 [(1, .int (4 + 1)), (0, .ref 45)] dX11_init_243 0 rfl (by decide) (by decide) rfl ?_
  refine mx_sub (loc' := [(1, .int 5), (0, .ref 45)]) [0, 1] rfl ?_
  refine mx_goto 208 dX11_init_246 (by decide) ?_
  refine mx_iload_n dX11_init_208 rfl 0 rfl ?_
  refine mx_bipush 6 dX11_init_209 (by decide) ?_
  refine mx_icmp_ge 249 dX11_init_211 (by decide) (fun c => absurd c (by decide)) (fun _ => ?_)
  refine mx_aload_n dX11_init_214 rfl 1 rfl ?_
  refine mx_get fl_X11_7 rfl rfl dX11_init_215 ?_
  refine mx_bipush 109 dX11_init_218 (by decide) ?_
  refine mx_iload_n dX11_init_220 rfl 0 rfl ?_
  refine mx_iadd dX11_init_221 ?_
  refine mx_top 114 (by decide) ?_
  refine mx_iconst 3 dX11_init_222 (by decide) ?_
  refine mx_iast rfl (by unfold vp_in; decide) dX11_init_223 ?_
  refine mx_hp [ob 9 [.ref 1, .ref 3, .ref 5, .ref 7, .int 0, .ref 9, .ref 15, .ref 25, .ref 31, .ref 34, .ref 36, .ref 40, .ref 44], ob 8 [.ref 2], aI 128 ca_14, ob 2 [.ref 4, .int 0, .int 0], zI 768, ob 8 [.ref 6], aI 128 ca_28, ob 2 [.ref 8, .int 0, .int 0], zI 768, ob 0 [.ref 10, .ref 11, .ref 12, .ref 13, .ref 14], zI 6, zI 6, zI 6, zI 6, zI 6, ob 7 [.ref 16, .int 0, .int 0, .ref 17, .ref 18, .ref 19, .ref 20, .ref 21, .ref 22, .ref 23, .ref 24], zI 121, zI 326, zI 326, zI 326, zI 326, zI 326, zI 326, zI 6, zI 390, ob 4 [.int 0, .int 0, .int (-4), .int 0, .ref 26, .ref 27, .ref 28, .ref 29, .ref 30], zL 1956, zL 6, zL 6, zL 6, zL 6, ob 3 [.int 0, .int 0, .ref 32, .ref 33], zI 2117, zI 6, ob 1 [.int (-4), .int (-4), .ref 35], zI 366, ob 6 [.ref 37, .int 0, .int 0, .int 0, .int 0, .int 0, .int 0, .ref 38, .ref 39], zI 80, zI 36, zZ 36, ob 5 [.ref 41, .ref 42, .ref 43], aI 4 ca_32, zI 4, zL 96, zI 6, ob 10 [.ref 46, .ref 47, .int 0, .ref 48, .ref 49, .int (-1), .ref 50, .int 0, .ref 51, .ref 52, .ref 53, .ref 54, .ref 55, .int 0, .ref 56, .ref 57, .ref 58, .ref 59, .ref 60, .ref 61, .ref 62, .ref 63, .ref 64, .ref 65, .int 0, .int 0, .ref 66, .ref 67], aI 128 ca_45, zI 768, zI 128, zI 768, zI 80, zI 4, zI 4, zL 96, zI 326, zI 326, zI 6, zI 6, zI 366, zI 6, zL 1956, zL 6, zL 6, zL 6, zI 36, zI 65, zI 36, zI 36] rfl ?_
  refine mx_aload_n dX11_init_224 rfl 1 rfl ?_
  refine mx_get fl_X11_7 rfl rfl dX11_init_225 ?_
  refine mx_bipush 121 dX11_init_228 (by decide) ?_
  refine mx_iload_n dX11_init_230 rfl 0 rfl ?_
  refine mx_iadd dX11_init_231 ?_
  refine mx_top 126 (by decide) ?_
  refine mx_iload_n dX11_init_232 rfl 0 rfl ?_
  refine mx_if_ne 240 dX11_init_233 (by decide) (fun _ => ?_) (fun c => absurd c (by decide))
  refine mx_bipush (-4) dX11_init_240 (by decide) ?_
  refine mx_iast rfl (by unfold vp_in; decide) dX11_init_242 ?_
  refine mx_hp [ob 9 [.ref 1, .ref 3, .ref 5, .ref 7, .int 0, .ref 9, .ref 15, .ref 25, .ref 31, .ref 34, .ref 36, .ref 40, .ref 44], ob 8 [.ref 2], aI 128 ca_14, ob 2 [.ref 4, .int 0, .int 0], zI 768, ob 8 [.ref 6], aI 128 ca_28, ob 2 [.ref 8, .int 0, .int 0], zI 768, ob 0 [.ref 10, .ref 11, .ref 12, .ref 13, .ref 14], zI 6, zI 6, zI 6, zI 6, zI 6, ob 7 [.ref 16, .int 0, .int 0, .ref 17, .ref 18, .ref 19, .ref 20, .ref 21, .ref 22, .ref 23, .ref 24], zI 121, zI 326, zI 326, zI 326, zI 326, zI 326, zI 326, zI 6, zI 390, ob 4 [.int 0, .int 0, .int (-4), .int 0, .ref 26, .ref 27, .ref 28, .ref 29, .ref 30], zL 1956, zL 6, zL 6, zL 6, zL 6, ob 3 [.int 0, .int 0, .ref 32, .ref 33], zI 2117, zI 6, ob 1 [.int (-4), .int (-4), .ref 35], zI 366, ob 6 [.ref 37, .int 0, .int 0, .int 0, .int 0, .int 0, .int 0, .ref 38, .ref 39], zI 80, zI 36, zZ 36, ob 5 [.ref 41, .ref 42, .ref 43], aI 4 ca_32, zI 4, zL 96, zI 6, ob 10 [.ref 46, .ref 47, .int 0, .ref 48, .ref 49, .int (-1), .ref 50, .int 0, .ref 51, .ref 52, .ref 53, .ref 54, .ref 55, .int 0, .ref 56, .ref 57, .ref 58, .ref 59, .ref 60, .ref 61, .ref 62, .ref 63, .ref 64, .ref 65, .int 0, .int 0, .ref 66, .ref 67], aI 128 ca_46, zI 768, zI 128, zI 768, zI 80, zI 4, zI 4, zL 96, zI 326, zI 326, zI 6, zI 6, zI 366, zI 6, zL 1956, zL 6, zL 6, zL 6, zI 36, zI 65, zI 36, zI 36] rfl ?_
  refine mx_iinc 1 [(1, .int (5 + 1)), (0, .ref 45)] dX11_init_243 0 rfl (by decide) (by decide) rfl ?_
  refine mx_sub (loc' := [(1, .int 6), (0, .ref 45)]) [0, 1] rfl ?_
  refine mx_goto 208 dX11_init_246 (by decide) ?_
  refine mx_iload_n dX11_init_208 rfl 0 rfl ?_
  refine mx_bipush 6 dX11_init_209 (by decide) ?_
  refine mx_icmp_ge 249 dX11_init_211 (by decide) (fun _ => ?_) (fun c => absurd c (by decide))
  refine mx_iconst 0 dX11_init_249 (by decide) ?_
  refine mx_istore_n [(1, .int 0), (0, .ref 45)] dX11_init_250 rfl (by decide) rfl ?_
  refine mx_iload_n dX11_init_251 rfl 0 rfl ?_
  refine mx_iconst 4 dX11_init_252 (by decide) ?_
  refine mx_icmp_ge 270 dX11_init_253 (by decide) (fun c => absurd c (by decide)) (fun _ => ?_)
  refine mx_aload_n dX11_init_256 rfl 1 rfl ?_
  refine mx_get fl_X11_29 rfl rfl dX11_init_257 ?_
  refine mx_iload_n dX11_init_260 rfl 0 rfl ?_
  refine mx_bipush (-4) dX11_init_261 (by decide) ?_
  refine mx_iast rfl (by unfold vp_in; decide) dX11_init_263 ?_
  refine mx_hp [ob 9 [.ref 1, .ref 3, .ref 5, .ref 7, .int 0, .ref 9, .ref 15, .ref 25, .ref 31, .ref 34, .ref 36, .ref 40, .ref 44], ob 8 [.ref 2], aI 128 ca_14, ob 2 [.ref 4, .int 0, .int 0], zI 768, ob 8 [.ref 6], aI 128 ca_28, ob 2 [.ref 8, .int 0, .int 0], zI 768, ob 0 [.ref 10, .ref 11, .ref 12, .ref 13, .ref 14], zI 6, zI 6, zI 6, zI 6, zI 6, ob 7 [.ref 16, .int 0, .int 0, .ref 17, .ref 18, .ref 19, .ref 20, .ref 21, .ref 22, .ref 23, .ref 24], zI 121, zI 326, zI 326, zI 326, zI 326, zI 326, zI 326, zI 6, zI 390, ob 4 [.int 0, .int 0, .int (-4), .int 0, .ref 26, .ref 27, .ref 28, .ref 29, .ref 30], zL 1956, zL 6, zL 6, zL 6, zL 6, ob 3 [.int 0, .int 0, .ref 32, .ref 33], zI 2117, zI 6, ob 1 [.int (-4), .int (-4), .ref 35], zI 366, ob 6 [.ref 37, .int 0, .int 0, .int 0, .int 0, .int 0, .int 0, .ref 38, .ref 39], zI 80, zI 36, zZ 36, ob 5 [.ref 41, .ref 42, .ref 43], aI 4 ca_32, zI 4, zL 96, zI 6, ob 10 [.ref 46, .ref 47, .int 0, .ref 48, .ref 49, .int (-1), .ref 50, .int 0, .ref 51, .ref 52, .ref 53, .ref 54, .ref 55, .int 0, .ref 56, .ref 57, .ref 58, .ref 59, .ref 60, .ref 61, .ref 62, .ref 63, .ref 64, .ref 65, .int 0, .int 0, .ref 66, .ref 67], aI 128 ca_46, zI 768, zI 128, zI 768, zI 80, aI 4 ca_47, zI 4, zL 96, zI 326, zI 326, zI 6, zI 6, zI 366, zI 6, zL 1956, zL 6, zL 6, zL 6, zI 36, zI 65, zI 36, zI 36] rfl ?_
  refine mx_iinc 1 [(1, .int (0 + 1)), (0, .ref 45)] dX11_init_264 0 rfl (by decide) (by decide) rfl ?_
  refine mx_sub (loc' := [(1, .int 1), (0, .ref 45)]) [0, 1] rfl ?_
  refine mx_goto 251 dX11_init_267 (by decide) ?_
  refine mx_iload_n dX11_init_251 rfl 0 rfl ?_
  refine mx_iconst 4 dX11_init_252 (by decide) ?_
  refine mx_icmp_ge 270 dX11_init_253 (by decide) (fun c => absurd c (by decide)) (fun _ => ?_)
  refine mx_aload_n dX11_init_256 rfl 1 rfl ?_
  refine mx_get fl_X11_29 rfl rfl dX11_init_257 ?_
  refine mx_iload_n dX11_init_260 rfl 0 rfl ?_
  refine mx_bipush (-4) dX11_init_261 (by decide) ?_
  refine mx_iast rfl (by unfold vp_in; decide) dX11_init_263 ?_
  refine mx_hp [ob 9 [.ref 1, .ref 3, .ref 5, .ref 7, .int 0, .ref 9, .ref 15, .ref 25, .ref 31, .ref 34, .ref 36, .ref 40, .ref 44], ob 8 [.ref 2], aI 128 ca_14, ob 2 [.ref 4, .int 0, .int 0], zI 768, ob 8 [.ref 6], aI 128 ca_28, ob 2 [.ref 8, .int 0, .int 0], zI 768, ob 0 [.ref 10, .ref 11, .ref 12, .ref 13, .ref 14], zI 6, zI 6, zI 6, zI 6, zI 6, ob 7 [.ref 16, .int 0, .int 0, .ref 17, .ref 18, .ref 19, .ref 20, .ref 21, .ref 22, .ref 23, .ref 24], zI 121, zI 326, zI 326, zI 326, zI 326, zI 326, zI 326, zI 6, zI 390, ob 4 [.int 0, .int 0, .int (-4), .int 0, .ref 26, .ref 27, .ref 28, .ref 29, .ref 30], zL 1956, zL 6, zL 6, zL 6, zL 6, ob 3 [.int 0, .int 0, .ref 32, .ref 33], zI 2117, zI 6, ob 1 [.int (-4), .int (-4), .ref 35], zI 366, ob 6 [.ref 37, .int 0, .int 0, .int 0, .int 0, .int 0, .int 0, .ref 38, .ref 39], zI 80, zI 36, zZ 36, ob 5 [.ref 41, .ref 42, .ref 43], aI 4 ca_32, zI 4, zL 96, zI 6, ob 10 [.ref 46, .ref 47, .int 0, .ref 48, .ref 49, .int (-1), .ref 50, .int 0, .ref 51, .ref 52, .ref 53, .ref 54, .ref 55, .int 0, .ref 56, .ref 57, .ref 58, .ref 59, .ref 60, .ref 61, .ref 62, .ref 63, .ref 64, .ref 65, .int 0, .int 0, .ref 66, .ref 67], aI 128 ca_46, zI 768, zI 128, zI 768, zI 80, aI 4 ca_48, zI 4, zL 96, zI 326, zI 326, zI 6, zI 6, zI 366, zI 6, zL 1956, zL 6, zL 6, zL 6, zI 36, zI 65, zI 36, zI 36] rfl ?_
  refine mx_iinc 1 [(1, .int (1 + 1)), (0, .ref 45)] dX11_init_264 0 rfl (by decide) (by decide) rfl ?_
  refine mx_sub (loc' := [(1, .int 2), (0, .ref 45)]) [0, 1] rfl ?_
  refine mx_goto 251 dX11_init_267 (by decide) ?_
  refine mx_iload_n dX11_init_251 rfl 0 rfl ?_
  refine mx_iconst 4 dX11_init_252 (by decide) ?_
  refine mx_icmp_ge 270 dX11_init_253 (by decide) (fun c => absurd c (by decide)) (fun _ => ?_)
  refine mx_aload_n dX11_init_256 rfl 1 rfl ?_
  refine mx_get fl_X11_29 rfl rfl dX11_init_257 ?_
  refine mx_iload_n dX11_init_260 rfl 0 rfl ?_
  refine mx_bipush (-4) dX11_init_261 (by decide) ?_
  refine mx_iast rfl (by unfold vp_in; decide) dX11_init_263 ?_
  refine mx_hp [ob 9 [.ref 1, .ref 3, .ref 5, .ref 7, .int 0, .ref 9, .ref 15, .ref 25, .ref 31, .ref 34, .ref 36, .ref 40, .ref 44], ob 8 [.ref 2], aI 128 ca_14, ob 2 [.ref 4, .int 0, .int 0], zI 768, ob 8 [.ref 6], aI 128 ca_28, ob 2 [.ref 8, .int 0, .int 0], zI 768, ob 0 [.ref 10, .ref 11, .ref 12, .ref 13, .ref 14], zI 6, zI 6, zI 6, zI 6, zI 6, ob 7 [.ref 16, .int 0, .int 0, .ref 17, .ref 18, .ref 19, .ref 20, .ref 21, .ref 22, .ref 23, .ref 24], zI 121, zI 326, zI 326, zI 326, zI 326, zI 326, zI 326, zI 6, zI 390, ob 4 [.int 0, .int 0, .int (-4), .int 0, .ref 26, .ref 27, .ref 28, .ref 29, .ref 30], zL 1956, zL 6, zL 6, zL 6, zL 6, ob 3 [.int 0, .int 0, .ref 32, .ref 33], zI 2117, zI 6, ob 1 [.int (-4), .int (-4), .ref 35], zI 366, ob 6 [.ref 37, .int 0, .int 0, .int 0, .int 0, .int 0, .int 0, .ref 38, .ref 39], zI 80, zI 36, zZ 36, ob 5 [.ref 41, .ref 42, .ref 43], aI 4 ca_32, zI 4, zL 96, zI 6, ob 10 [.ref 46, .ref 47, .int 0, .ref 48, .ref 49, .int (-1), .ref 50, .int 0, .ref 51, .ref 52, .ref 53, .ref 54, .ref 55, .int 0, .ref 56, .ref 57, .ref 58, .ref 59, .ref 60, .ref 61, .ref 62, .ref 63, .ref 64, .ref 65, .int 0, .int 0, .ref 66, .ref 67], aI 128 ca_46, zI 768, zI 128, zI 768, zI 80, aI 4 ca_49, zI 4, zL 96, zI 326, zI 326, zI 6, zI 6, zI 366, zI 6, zL 1956, zL 6, zL 6, zL 6, zI 36, zI 65, zI 36, zI 36] rfl ?_
  refine mx_iinc 1 [(1, .int (2 + 1)), (0, .ref 45)] dX11_init_264 0 rfl (by decide) (by decide) rfl ?_
  refine mx_sub (loc' := [(1, .int 3), (0, .ref 45)]) [0, 1] rfl ?_
  refine mx_goto 251 dX11_init_267 (by decide) ?_
  refine mx_iload_n dX11_init_251 rfl 0 rfl ?_
  refine mx_iconst 4 dX11_init_252 (by decide) ?_
  refine mx_icmp_ge 270 dX11_init_253 (by decide) (fun c => absurd c (by decide)) (fun _ => ?_)
  refine mx_aload_n dX11_init_256 rfl 1 rfl ?_
  refine mx_get fl_X11_29 rfl rfl dX11_init_257 ?_
  refine mx_iload_n dX11_init_260 rfl 0 rfl ?_
  refine mx_bipush (-4) dX11_init_261 (by decide) ?_
  refine mx_iast rfl (by unfold vp_in; decide) dX11_init_263 ?_
  refine mx_hp [ob 9 [.ref 1, .ref 3, .ref 5, .ref 7, .int 0, .ref 9, .ref 15, .ref 25, .ref 31, .ref 34, .ref 36, .ref 40, .ref 44], ob 8 [.ref 2], aI 128 ca_14, ob 2 [.ref 4, .int 0, .int 0], zI 768, ob 8 [.ref 6], aI 128 ca_28, ob 2 [.ref 8, .int 0, .int 0], zI 768, ob 0 [.ref 10, .ref 11, .ref 12, .ref 13, .ref 14], zI 6, zI 6, zI 6, zI 6, zI 6, ob 7 [.ref 16, .int 0, .int 0, .ref 17, .ref 18, .ref 19, .ref 20, .ref 21, .ref 22, .ref 23, .ref 24], zI 121, zI 326, zI 326, zI 326, zI 326, zI 326, zI 326, zI 6, zI 390, ob 4 [.int 0, .int 0, .int (-4), .int 0, .ref 26, .ref 27, .ref 28, .ref 29, .ref 30], zL 1956, zL 6, zL 6, zL 6, zL 6, ob 3 [.int 0, .int 0, .ref 32, .ref 33], zI 2117, zI 6, ob 1 [.int (-4), .int (-4), .ref 35], zI 366, ob 6 [.ref 37, .int 0, .int 0, .int 0, .int 0, .int 0, .int 0, .ref 38, .ref 39], zI 80, zI 36, zZ 36, ob 5 [.ref 41, .ref 42, .ref 43], aI 4 ca_32, zI 4, zL 96, zI 6, ob 10 [.ref 46, .ref 47, .int 0, .ref 48, .ref 49, .int (-1), .ref 50, .int 0, .ref 51, .ref 52, .ref 53, .ref 54, .ref 55, .int 0, .ref 56, .ref 57, .ref 58, .ref 59, .ref 60, .ref 61, .ref 62, .ref 63, .ref 64, .ref 65, .int 0, .int 0, .ref 66, .ref 67], aI 128 ca_46, zI 768, zI 128, zI 768, zI 80, aI 4 ca_50, zI 4, zL 96, zI 326, zI 326, zI 6, zI 6, zI 366, zI 6, zL 1956, zL 6, zL 6, zL 6, zI 36, zI 65, zI 36, zI 36] rfl ?_
  refine mx_iinc 1 [(1, .int (3 + 1)), (0, .ref 45)] dX11_init_264 0 rfl (by decide) (by decide) rfl ?_
  refine mx_sub (loc' := [(1, .int 4), (0, .ref 45)]) [0, 1] rfl ?_
  refine mx_goto 251 dX11_init_267 (by decide) ?_
  refine mx_iload_n dX11_init_251 rfl 0 rfl ?_
  refine mx_iconst 4 dX11_init_252 (by decide) ?_
  refine mx_icmp_ge 270 dX11_init_253 (by decide) (fun _ => ?_) (fun c => absurd c (by decide))
  exact mx_vret (Nat.le_of_ble_eq_true rfl) (Nat.le_of_ble_eq_true rfl) dX11_init_270
/-- the state that the two constructors leave -/
def sg_0a : Nat → Nat → Int32 := fun p => match p with
  | 2 => ca_14
  | 6 => ca_28
  | 25 => fun k => match k with
    | 2 => (-4)
    | _ => 0
  | 34 => fun k => match k with
    | 0 => (-4)
    | 1 => (-4)
    | _ => 0
  | 41 => ca_32
  | 45 => fun k => match k with
    | 5 => (-1)
    | _ => 0
  | 46 => ca_46
  | 51 => ca_50
  | _ => fun _ => 0
def sg_0 : mx_G := (sg_0a, fun _ _ => 0)
set_option maxRecDepth 100000 in
theorem sg_0_h : mk_h sg_0 = [ob 9 [.ref 1, .ref 3, .ref 5, .ref 7, .int 0, .ref 9, .ref 15, .ref 25, .ref 31, .ref 34, .ref 36, .ref 40, .ref 44], ob 8 [.ref 2], aI 128 ca_14, ob 2 [.ref 4, .int 0, .int 0], zI 768, ob 8 [.ref 6], aI 128 ca_28, ob 2 [.ref 8, .int 0, .int 0], zI 768, ob 0 [.ref 10, .ref 11, .ref 12, .ref 13, .ref 14], zI 6, zI 6, zI 6, zI 6, zI 6, ob 7 [.ref 16, .int 0, .int 0, .ref 17, .ref 18, .ref 19, .ref 20, .ref 21, .ref 22, .ref 23, .ref 24], zI 121, zI 326, zI 326, zI 326, zI 326, zI 326, zI 326, zI 6, zI 390, ob 4 [.int 0, .int 0, .int (-4), .int 0, .ref 26, .ref 27, .ref 28, .ref 29, .ref 30], zL 1956, zL 6, zL 6, zL 6, zL 6, ob 3 [.int 0, .int 0, .ref 32, .ref 33], zI 2117, zI 6, ob 1 [.int (-4), .int (-4), .ref 35], zI 366, ob 6 [.ref 37, .int 0, .int 0, .int 0, .int 0, .int 0, .int 0, .ref 38, .ref 39], zI 80, zI 36, zZ 36, ob 5 [.ref 41, .ref 42, .ref 43], aI 4 ca_32, zI 4, zL 96, zI 6, ob 10 [.ref 46, .ref 47, .int 0, .ref 48, .ref 49, .int (-1), .ref 50, .int 0, .ref 51, .ref 52, .ref 53, .ref 54, .ref 55, .int 0, .ref 56, .ref 57, .ref 58, .ref 59, .ref 60, .ref 61, .ref 62, .ref 63, .ref 64, .ref 65, .int 0, .int 0, .ref 66, .ref 67], aI 128 ca_46, zI 768, zI 128, zI 768, zI 80, aI 4 ca_50, zI 4, zL 96, zI 326, zI 326, zI 6, zI 6, zI 366, zI 6, zL 1956, zL 6, zL 6, zL 6, zI 36, zI 65, zI 36, zI 36] := rfl
