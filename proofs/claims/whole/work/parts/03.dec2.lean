theorem dX9_setBars_7 : decode cX9_setBars 7 = .ok (.iadd, 1) := by decide +kernel
theorem dX9_setBars_8 : decode cX9_setBars 8 = .ok (.iload_n 2, 1) := by decide +kernel
theorem dX9_setBars_9 : decode cX9_setBars 9 = .ok (.iastore, 1) := by decide +kernel
theorem dX9_setBars_10 : decode cX9_setBars 10 = .ok (.return_, 1) := by decide +kernel
theorem dX9_chosenBy_0 : decode cX9_chosenBy 0 = .ok (.aload_n 0, 1) := by decide +kernel
theorem dX9_chosenBy_1 : decode cX9_chosenBy 1 = .ok (.getfield 11, 3) := by decide +kernel
theorem dX9_chosenBy_4 : decode cX9_chosenBy 4 = .ok (.bipush 121, 2) := by decide +kernel
theorem dX9_chosenBy_6 : decode cX9_chosenBy 6 = .ok (.iload_n 1, 1) := by decide +kernel
theorem dX9_chosenBy_7 : decode cX9_chosenBy 7 = .ok (.iadd, 1) := by decide +kernel
theorem dX9_chosenBy_8 : decode cX9_chosenBy 8 = .ok (.iaload, 1) := by decide +kernel
theorem dX9_chosenBy_9 : decode cX9_chosenBy 9 = .ok (.ireturn, 1) := by decide +kernel
theorem dX9_setChosen_0 : decode cX9_setChosen 0 = .ok (.aload_n 0, 1) := by decide +kernel
theorem dX9_setChosen_1 : decode cX9_setChosen 1 = .ok (.getfield 11, 3) := by decide +kernel
theorem dX9_setChosen_4 : decode cX9_setChosen 4 = .ok (.bipush 121, 2) := by decide +kernel
theorem dX9_setChosen_6 : decode cX9_setChosen 6 = .ok (.iload_n 1, 1) := by decide +kernel
theorem dX9_setChosen_7 : decode cX9_setChosen 7 = .ok (.iadd, 1) := by decide +kernel
theorem dX9_setChosen_8 : decode cX9_setChosen 8 = .ok (.iload_n 2, 1) := by decide +kernel
theorem dX9_setChosen_9 : decode cX9_setChosen 9 = .ok (.iastore, 1) := by decide +kernel
theorem dX9_setChosen_10 : decode cX9_setChosen 10 = .ok (.return_, 1) := by decide +kernel
theorem dX9_draw_0 : decode cX9_draw 0 = .ok (.aload_n 0, 1) := by decide +kernel
theorem dX9_draw_1 : decode cX9_draw 1 = .ok (.getfield 11, 3) := by decide +kernel
theorem dX9_draw_4 : decode cX9_draw 4 = .ok (.bipush 127, 2) := by decide +kernel
theorem dX9_draw_6 : decode cX9_draw 6 = .ok (.iaload, 1) := by decide +kernel
theorem dX9_draw_7 : decode cX9_draw 7 = .ok (.ireturn, 1) := by decide +kernel
theorem dX9_setDraw_0 : decode cX9_setDraw 0 = .ok (.aload_n 0, 1) := by decide +kernel
theorem dX9_setDraw_1 : decode cX9_setDraw 1 = .ok (.getfield 11, 3) := by decide +kernel
theorem dX9_setDraw_4 : decode cX9_setDraw 4 = .ok (.bipush 127, 2) := by decide +kernel
theorem dX9_setDraw_6 : decode cX9_setDraw 6 = .ok (.iload_n 1, 1) := by decide +kernel
theorem dX9_setDraw_7 : decode cX9_setDraw 7 = .ok (.iastore, 1) := by decide +kernel
theorem dX9_setDraw_8 : decode cX9_setDraw 8 = .ok (.return_, 1) := by decide +kernel
theorem dX9_forgetChosen_0 : decode cX9_forgetChosen 0 = .ok (.iconst 1, 1) := by decide +kernel
theorem dX9_forgetChosen_1 : decode cX9_forgetChosen 1 = .ok (.istore_n 1, 1) := by decide +kernel
theorem dX9_forgetChosen_2 : decode cX9_forgetChosen 2 = .ok (.iload_n 1, 1) := by decide +kernel
theorem dX9_forgetChosen_3 : decode cX9_forgetChosen 3 = .ok (.bipush 6, 2) := by decide +kernel
theorem dX9_forgetChosen_5 : decode cX9_forgetChosen 5 = .ok (.if_icmp .ge 16, 3) := by decide +kernel
theorem dX9_forgetChosen_8 : decode cX9_forgetChosen 8 = .ok (.aload_n 0, 1) := by decide +kernel
theorem dX9_forgetChosen_9 : decode cX9_forgetChosen 9 = .ok (.iload_n 1, 1) := by decide +kernel
theorem dX9_forgetChosen_10 : decode cX9_forgetChosen 10 = .ok (.bipush (-4), 2) := by decide +kernel
theorem dX9_forgetChosen_12 : decode cX9_forgetChosen 12 = .ok (.invokevirtual 37, 3) := by decide +kernel
theorem dX9_forgetChosen_15 : decode cX9_forgetChosen 15 = .ok (.iinc 1 1, 3) := by decide +kernel
theorem dX9_forgetChosen_18 : decode cX9_forgetChosen 18 = .ok (.goto (-16), 3) := by decide +kernel
theorem dX9_forgetChosen_21 : decode cX9_forgetChosen 21 = .ok (.return_, 1) := by decide +kernel
theorem dX9_loseLinks_0 : decode cX9_loseLinks 0 = .ok (.aload_n 0, 1) := by decide +kernel
theorem dX9_loseLinks_1 : decode cX9_loseLinks 1 = .ok (.getfield 11, 3) := by decide +kernel
theorem dX9_loseLinks_4 : decode cX9_loseLinks 4 = .ok (.bipush 13, 2) := by decide +kernel
theorem dX9_loseLinks_6 : decode cX9_loseLinks 6 = .ok (.bipush 85, 2) := by decide +kernel
theorem dX9_loseLinks_8 : decode cX9_loseLinks 8 = .ok (.iconst 0, 1) := by decide +kernel
theorem dX9_loseLinks_9 : decode cX9_loseLinks 9 = .ok (.invokestatic 41, 3) := by decide +kernel
theorem dX9_loseLinks_12 : decode cX9_loseLinks 12 = .ok (.return_, 1) := by decide +kernel
theorem dX9_resize_0 : decode cX9_resize 0 = .ok (.aload_n 0, 1) := by decide +kernel
theorem dX9_resize_1 : decode cX9_resize 1 = .ok (.getfield 11, 3) := by decide +kernel
theorem dX9_resize_4 : decode cX9_resize 4 = .ok (.iconst 0, 1) := by decide +kernel
theorem dX9_resize_5 : decode cX9_resize 5 = .ok (.iload_n 1, 1) := by decide +kernel
theorem dX9_resize_6 : decode cX9_resize 6 = .ok (.iastore, 1) := by decide +kernel
theorem dX9_resize_7 : decode cX9_resize 7 = .ok (.iload_n 1, 1) := by decide +kernel
theorem dX9_resize_8 : decode cX9_resize 8 = .ok (.istore_n 2, 1) := by decide +kernel
theorem dX9_resize_9 : decode cX9_resize 9 = .ok (.iload_n 2, 1) := by decide +kernel
theorem dX9_resize_10 : decode cX9_resize 10 = .ok (.bipush 6, 2) := by decide +kernel
theorem dX9_resize_12 : decode cX9_resize 12 = .ok (.if_icmp .ge 56, 3) := by decide +kernel
theorem dX9_resize_15 : decode cX9_resize 15 = .ok (.aload_n 0, 1) := by decide +kernel
theorem dX9_resize_16 : decode cX9_resize 16 = .ok (.iload_n 2, 1) := by decide +kernel
theorem dX9_resize_17 : decode cX9_resize 17 = .ok (.iconst 3, 1) := by decide +kernel
theorem dX9_resize_18 : decode cX9_resize 18 = .ok (.invokevirtual 47, 3) := by decide +kernel
theorem dX9_resize_21 : decode cX9_resize 21 = .ok (.aload_n 0, 1) := by decide +kernel
theorem dX9_resize_22 : decode cX9_resize 22 = .ok (.iload_n 2, 1) := by decide +kernel
theorem dX9_resize_23 : decode cX9_resize 23 = .ok (.iconst 0, 1) := by decide +kernel
theorem dX9_resize_24 : decode cX9_resize 24 = .ok (.invokevirtual 50, 3) := by decide +kernel
theorem dX9_resize_27 : decode cX9_resize 27 = .ok (.iconst 0, 1) := by decide +kernel
theorem dX9_resize_28 : decode cX9_resize 28 = .ok (.istore_n 3, 1) := by decide +kernel
theorem dX9_resize_29 : decode cX9_resize 29 = .ok (.iload_n 3, 1) := by decide +kernel
theorem dX9_resize_30 : decode cX9_resize 30 = .ok (.bipush 6, 2) := by decide +kernel
theorem dX9_resize_32 : decode cX9_resize 32 = .ok (.if_icmp .ge 30, 3) := by decide +kernel
theorem dX9_resize_35 : decode cX9_resize 35 = .ok (.aload_n 0, 1) := by decide +kernel
theorem dX9_resize_36 : decode cX9_resize 36 = .ok (.iload_n 2, 1) := by decide +kernel
theorem dX9_resize_37 : decode cX9_resize 37 = .ok (.iload_n 3, 1) := by decide +kernel
theorem dX9_resize_38 : decode cX9_resize 38 = .ok (.iconst 0, 1) := by decide +kernel
theorem dX9_resize_39 : decode cX9_resize 39 = .ok (.invokevirtual 53, 3) := by decide +kernel
theorem dX9_resize_42 : decode cX9_resize 42 = .ok (.aload_n 0, 1) := by decide +kernel
theorem dX9_resize_43 : decode cX9_resize 43 = .ok (.iload_n 2, 1) := by decide +kernel
theorem dX9_resize_44 : decode cX9_resize 44 = .ok (.iload_n 3, 1) := by decide +kernel
theorem dX9_resize_45 : decode cX9_resize 45 = .ok (.iconst 0, 1) := by decide +kernel
theorem dX9_resize_46 : decode cX9_resize 46 = .ok (.invokevirtual 56, 3) := by decide +kernel
theorem dX9_resize_49 : decode cX9_resize 49 = .ok (.aload_n 0, 1) := by decide +kernel
theorem dX9_resize_50 : decode cX9_resize 50 = .ok (.iload_n 3, 1) := by decide +kernel
theorem dX9_resize_51 : decode cX9_resize 51 = .ok (.iload_n 2, 1) := by decide +kernel
theorem dX9_resize_52 : decode cX9_resize 52 = .ok (.iconst 0, 1) := by decide +kernel
theorem dX9_resize_53 : decode cX9_resize 53 = .ok (.invokevirtual 56, 3) := by decide +kernel
theorem dX9_resize_56 : decode cX9_resize 56 = .ok (.iinc 3 1, 3) := by decide +kernel
theorem dX9_resize_59 : decode cX9_resize 59 = .ok (.goto (-30), 3) := by decide +kernel
theorem dX9_resize_62 : decode cX9_resize 62 = .ok (.iinc 2 1, 3) := by decide +kernel
theorem dX9_resize_65 : decode cX9_resize 65 = .ok (.goto (-56), 3) := by decide +kernel
theorem dX9_resize_68 : decode cX9_resize 68 = .ok (.iconst 0, 1) := by decide +kernel
theorem dX9_resize_69 : decode cX9_resize 69 = .ok (.istore_n 2, 1) := by decide +kernel
theorem dX9_resize_70 : decode cX9_resize 70 = .ok (.iload_n 2, 1) := by decide +kernel
theorem dX9_resize_71 : decode cX9_resize 71 = .ok (.iload_n 1, 1) := by decide +kernel
theorem dX9_resize_72 : decode cX9_resize 72 = .ok (.if_icmp .ge 25, 3) := by decide +kernel
theorem dX9_resize_75 : decode cX9_resize 75 = .ok (.aload_n 0, 1) := by decide +kernel
theorem dX9_resize_76 : decode cX9_resize 76 = .ok (.iload_n 2, 1) := by decide +kernel
theorem dX9_resize_77 : decode cX9_resize 77 = .ok (.aload_n 0, 1) := by decide +kernel
theorem dX9_resize_78 : decode cX9_resize 78 = .ok (.iload_n 2, 1) := by decide +kernel
theorem dX9_resize_79 : decode cX9_resize 79 = .ok (.invokevirtual 59, 3) := by decide +kernel
theorem dX9_resize_82 : decode cX9_resize 82 = .ok (.iconst 1, 1) := by decide +kernel
theorem dX9_resize_83 : decode cX9_resize 83 = .ok (.iload_n 1, 1) := by decide +kernel
theorem dX9_resize_84 : decode cX9_resize 84 = .ok (.ishl, 1) := by decide +kernel
theorem dX9_resize_85 : decode cX9_resize 85 = .ok (.iconst 1, 1) := by decide +kernel
theorem dX9_resize_86 : decode cX9_resize 86 = .ok (.isub, 1) := by decide +kernel
theorem dX9_resize_87 : decode cX9_resize 87 = .ok (.iand, 1) := by decide +kernel
theorem dX9_resize_88 : decode cX9_resize 88 = .ok (.invokevirtual 50, 3) := by decide +kernel
theorem dX9_resize_91 : decode cX9_resize 91 = .ok (.iinc 2 1, 3) := by decide +kernel
theorem dX9_resize_94 : decode cX9_resize 94 = .ok (.goto (-24), 3) := by decide +kernel
theorem dX9_resize_97 : decode cX9_resize 97 = .ok (.aload_n 0, 1) := by decide +kernel
theorem dX9_resize_98 : decode cX9_resize 98 = .ok (.invokevirtual 63, 3) := by decide +kernel
theorem dX9_resize_101 : decode cX9_resize 101 = .ok (.return_, 1) := by decide +kernel
theorem dX9_countLinks_0 : decode cX9_countLinks 0 = .ok (.iconst 0, 1) := by decide +kernel
theorem dX9_countLinks_1 : decode cX9_countLinks 1 = .ok (.istore_n 2, 1) := by decide +kernel
theorem dX9_countLinks_2 : decode cX9_countLinks 2 = .ok (.iconst 0, 1) := by decide +kernel
theorem dX9_countLinks_3 : decode cX9_countLinks 3 = .ok (.istore_n 3, 1) := by decide +kernel
theorem dX9_countLinks_4 : decode cX9_countLinks 4 = .ok (.iload_n 3, 1) := by decide +kernel
theorem dX9_countLinks_5 : decode cX9_countLinks 5 = .ok (.bipush 6, 2) := by decide +kernel
theorem dX9_countLinks_7 : decode cX9_countLinks 7 = .ok (.if_icmp .ge 54, 3) := by decide +kernel
theorem dX9_countLinks_10 : decode cX9_countLinks 10 = .ok (.iload_n 3, 1) := by decide +kernel
theorem dX9_countLinks_11 : decode cX9_countLinks 11 = .ok (.iconst 1, 1) := by decide +kernel
theorem dX9_countLinks_12 : decode cX9_countLinks 12 = .ok (.iadd, 1) := by decide +kernel
theorem dX9_countLinks_13 : decode cX9_countLinks 13 = .ok (.istore 4, 2) := by decide +kernel
theorem dX9_countLinks_15 : decode cX9_countLinks 15 = .ok (.iload 4, 2) := by decide +kernel
theorem dX9_countLinks_17 : decode cX9_countLinks 17 = .ok (.bipush 6, 2) := by decide +kernel
theorem dX9_countLinks_19 : decode cX9_countLinks 19 = .ok (.if_icmp .ge 36, 3) := by decide +kernel
theorem dX9_countLinks_22 : decode cX9_countLinks 22 = .ok (.aload_n 0, 1) := by decide +kernel
theorem dX9_countLinks_23 : decode cX9_countLinks 23 = .ok (.iload_n 3, 1) := by decide +kernel
theorem dX9_countLinks_24 : decode cX9_countLinks 24 = .ok (.iload 4, 2) := by decide +kernel
theorem dX9_countLinks_26 : decode cX9_countLinks 26 = .ok (.invokevirtual 25, 3) := by decide +kernel
theorem dX9_countLinks_29 : decode cX9_countLinks 29 = .ok (.ifCond .eq 20, 3) := by decide +kernel
theorem dX9_countLinks_32 : decode cX9_countLinks 32 = .ok (.iload_n 1, 1) := by decide +kernel
theorem dX9_countLinks_33 : decode cX9_countLinks 33 = .ok (.ifCond .eq 13, 3) := by decide +kernel
theorem dX9_countLinks_36 : decode cX9_countLinks 36 = .ok (.aload_n 0, 1) := by decide +kernel
theorem dX9_countLinks_37 : decode cX9_countLinks 37 = .ok (.iload_n 3, 1) := by decide +kernel
theorem dX9_countLinks_38 : decode cX9_countLinks 38 = .ok (.iload 4, 2) := by decide +kernel
theorem dX9_countLinks_40 : decode cX9_countLinks 40 = .ok (.invokevirtual 29, 3) := by decide +kernel
theorem dX9_countLinks_43 : decode cX9_countLinks 43 = .ok (.ifCond .eq 6, 3) := by decide +kernel
theorem dX9_countLinks_46 : decode cX9_countLinks 46 = .ok (.iinc 2 1, 3) := by decide +kernel
theorem dX9_countLinks_49 : decode cX9_countLinks 49 = .ok (.iinc 4 1, 3) := by decide +kernel
theorem dX9_countLinks_52 : decode cX9_countLinks 52 = .ok (.goto (-37), 3) := by decide +kernel
theorem dX9_countLinks_55 : decode cX9_countLinks 55 = .ok (.iinc 3 1, 3) := by decide +kernel
theorem dX9_countLinks_58 : decode cX9_countLinks 58 = .ok (.goto (-54), 3) := by decide +kernel
theorem dX9_countLinks_61 : decode cX9_countLinks 61 = .ok (.iload_n 2, 1) := by decide +kernel
theorem dX9_countLinks_62 : decode cX9_countLinks 62 = .ok (.ireturn, 1) := by decide +kernel
theorem dX9_choosers_0 : decode cX9_choosers 0 = .ok (.iconst 0, 1) := by decide +kernel
theorem dX9_choosers_1 : decode cX9_choosers 1 = .ok (.istore_n 1, 1) := by decide +kernel
theorem dX9_choosers_2 : decode cX9_choosers 2 = .ok (.iconst 0, 1) := by decide +kernel
theorem dX9_choosers_3 : decode cX9_choosers 3 = .ok (.istore_n 2, 1) := by decide +kernel
theorem dX9_choosers_4 : decode cX9_choosers 4 = .ok (.iload_n 2, 1) := by decide +kernel
theorem dX9_choosers_5 : decode cX9_choosers 5 = .ok (.aload_n 0, 1) := by decide +kernel
theorem dX9_choosers_6 : decode cX9_choosers 6 = .ok (.getfield 11, 3) := by decide +kernel
theorem dX9_choosers_9 : decode cX9_choosers 9 = .ok (.iconst 0, 1) := by decide +kernel
theorem dX9_choosers_10 : decode cX9_choosers 10 = .ok (.iaload, 1) := by decide +kernel
theorem dX9_choosers_11 : decode cX9_choosers 11 = .ok (.if_icmp .ge 25, 3) := by decide +kernel
theorem dX9_choosers_14 : decode cX9_choosers 14 = .ok (.aload_n 0, 1) := by decide +kernel
theorem dX9_choosers_15 : decode cX9_choosers 15 = .ok (.iload_n 2, 1) := by decide +kernel
theorem dX9_choosers_16 : decode cX9_choosers 16 = .ok (.invokevirtual 66, 3) := by decide +kernel
theorem dX9_choosers_19 : decode cX9_choosers 19 = .ok (.bipush (-4), 2) := by decide +kernel
theorem dX9_choosers_21 : decode cX9_choosers 21 = .ok (.if_icmp .eq 9, 3) := by decide +kernel
theorem dX9_choosers_24 : decode cX9_choosers 24 = .ok (.iload_n 1, 1) := by decide +kernel
theorem dX9_choosers_25 : decode cX9_choosers 25 = .ok (.iconst 1, 1) := by decide +kernel
theorem dX9_choosers_26 : decode cX9_choosers 26 = .ok (.iload_n 2, 1) := by decide +kernel
theorem dX9_choosers_27 : decode cX9_choosers 27 = .ok (.ishl, 1) := by decide +kernel
theorem dX9_choosers_28 : decode cX9_choosers 28 = .ok (.ior, 1) := by decide +kernel
theorem dX9_choosers_29 : decode cX9_choosers 29 = .ok (.istore_n 1, 1) := by decide +kernel
theorem dX9_choosers_30 : decode cX9_choosers 30 = .ok (.iinc 2 1, 3) := by decide +kernel
theorem dX9_choosers_33 : decode cX9_choosers 33 = .ok (.goto (-29), 3) := by decide +kernel
theorem dX9_choosers_36 : decode cX9_choosers 36 = .ok (.iload_n 1, 1) := by decide +kernel
theorem dX9_choosers_37 : decode cX9_choosers 37 = .ok (.ireturn, 1) := by decide +kernel
theorem dX9_lets_0 : decode cX9_lets 0 = .ok (.bipush 13, 2) := by decide +kernel
theorem dX9_lets_2 : decode cX9_lets 2 = .ok (.iload_n 1, 1) := by decide +kernel
theorem dX9_lets_3 : decode cX9_lets 3 = .ok (.bipush 6, 2) := by decide +kernel
theorem dX9_lets_5 : decode cX9_lets 5 = .ok (.imul, 1) := by decide +kernel
theorem dX9_lets_6 : decode cX9_lets 6 = .ok (.iadd, 1) := by decide +kernel
theorem dX9_lets_7 : decode cX9_lets 7 = .ok (.istore 4, 2) := by decide +kernel
theorem dX9_lets_9 : decode cX9_lets 9 = .ok (.iload_n 2, 1) := by decide +kernel
theorem dX9_lets_10 : decode cX9_lets 10 = .ok (.bipush 9, 2) := by decide +kernel
theorem dX9_lets_12 : decode cX9_lets 12 = .ok (.if_icmp .eq 42, 3) := by decide +kernel
theorem dX9_lets_15 : decode cX9_lets 15 = .ok (.aload_n 0, 1) := by decide +kernel
theorem dX9_lets_16 : decode cX9_lets 16 = .ok (.getfield 11, 3) := by decide +kernel
theorem dX9_lets_19 : decode cX9_lets 19 = .ok (.iconst 1, 1) := by decide +kernel
theorem dX9_lets_20 : decode cX9_lets 20 = .ok (.iload_n 1, 1) := by decide +kernel
theorem dX9_lets_21 : decode cX9_lets 21 = .ok (.iadd, 1) := by decide +kernel
theorem dX9_lets_22 : decode cX9_lets 22 = .ok (.iaload, 1) := by decide +kernel
theorem dX9_lets_23 : decode cX9_lets 23 = .ok (.iconst 2, 1) := by decide +kernel
theorem dX9_lets_24 : decode cX9_lets 24 = .ok (.iand, 1) := by decide +kernel
theorem dX9_lets_25 : decode cX9_lets 25 = .ok (.ifCond .eq 29, 3) := by decide +kernel
theorem dX9_lets_28 : decode cX9_lets 28 = .ok (.aload_n 0, 1) := by decide +kernel
theorem dX9_lets_29 : decode cX9_lets 29 = .ok (.getfield 11, 3) := by decide +kernel
theorem dX9_lets_32 : decode cX9_lets 32 = .ok (.iload 4, 2) := by decide +kernel
theorem dX9_lets_34 : decode cX9_lets 34 = .ok (.iload_n 3, 1) := by decide +kernel
theorem dX9_lets_35 : decode cX9_lets 35 = .ok (.iadd, 1) := by decide +kernel
theorem dX9_lets_36 : decode cX9_lets 36 = .ok (.iaload, 1) := by decide +kernel
theorem dX9_lets_37 : decode cX9_lets 37 = .ok (.iconst 1, 1) := by decide +kernel
theorem dX9_lets_38 : decode cX9_lets 38 = .ok (.if_icmp .eq 16, 3) := by decide +kernel
theorem dX9_lets_41 : decode cX9_lets 41 = .ok (.aload_n 0, 1) := by decide +kernel
theorem dX9_lets_42 : decode cX9_lets 42 = .ok (.getfield 11, 3) := by decide +kernel
theorem dX9_lets_45 : decode cX9_lets 45 = .ok (.iload 4, 2) := by decide +kernel
theorem dX9_lets_47 : decode cX9_lets 47 = .ok (.iload_n 2, 1) := by decide +kernel
theorem dX9_lets_48 : decode cX9_lets 48 = .ok (.iadd, 1) := by decide +kernel
theorem dX9_lets_49 : decode cX9_lets 49 = .ok (.iaload, 1) := by decide +kernel
theorem dX9_lets_50 : decode cX9_lets 50 = .ok (.iconst 1, 1) := by decide +kernel
theorem dX9_lets_51 : decode cX9_lets 51 = .ok (.if_icmp .ne 7, 3) := by decide +kernel
theorem dX9_lets_54 : decode cX9_lets 54 = .ok (.iconst 1, 1) := by decide +kernel
theorem dX9_lets_55 : decode cX9_lets 55 = .ok (.goto 4, 3) := by decide +kernel
theorem dX9_lets_58 : decode cX9_lets 58 = .ok (.iconst 0, 1) := by decide +kernel
theorem dX9_lets_59 : decode cX9_lets 59 = .ok (.ireturn, 1) := by decide +kernel
theorem dX9_takes_0 : decode cX9_takes 0 = .ok (.iload_n 1, 1) := by decide +kernel
theorem dX9_takes_1 : decode cX9_takes 1 = .ok (.bipush 6, 2) := by decide +kernel
theorem dX9_takes_3 : decode cX9_takes 3 = .ok (.imul, 1) := by decide +kernel
theorem dX9_takes_4 : decode cX9_takes 4 = .ok (.iload_n 2, 1) := by decide +kernel
theorem dX9_takes_5 : decode cX9_takes 5 = .ok (.iadd, 1) := by decide +kernel
theorem dX9_takes_6 : decode cX9_takes 6 = .ok (.istore 5, 2) := by decide +kernel
theorem dX9_takes_8 : decode cX9_takes 8 = .ok (.aload_n 0, 1) := by decide +kernel
theorem dX9_takes_9 : decode cX9_takes 9 = .ok (.getfield 11, 3) := by decide +kernel
theorem dX9_takes_12 : decode cX9_takes 12 = .ok (.bipush 13, 2) := by decide +kernel
theorem dX9_takes_14 : decode cX9_takes 14 = .ok (.iload 5, 2) := by decide +kernel
theorem dX9_takes_16 : decode cX9_takes 16 = .ok (.iadd, 1) := by decide +kernel
theorem dX9_takes_17 : decode cX9_takes 17 = .ok (.iaload, 1) := by decide +kernel
theorem dX9_takes_18 : decode cX9_takes 18 = .ok (.ifCond .eq 49, 3) := by decide +kernel
theorem dX9_takes_21 : decode cX9_takes 21 = .ok (.aload_n 0, 1) := by decide +kernel
theorem dX9_takes_22 : decode cX9_takes 22 = .ok (.getfield 11, 3) := by decide +kernel
theorem dX9_takes_25 : decode cX9_takes 25 = .ok (.bipush 49, 2) := by decide +kernel
theorem dX9_takes_27 : decode cX9_takes 27 = .ok (.iload 5, 2) := by decide +kernel
theorem dX9_takes_29 : decode cX9_takes 29 = .ok (.iadd, 1) := by decide +kernel
theorem dX9_takes_30 : decode cX9_takes 30 = .ok (.iaload, 1) := by decide +kernel
theorem dX9_takes_31 : decode cX9_takes 31 = .ok (.ifCond .ne 36, 3) := by decide +kernel
theorem dX9_takes_34 : decode cX9_takes 34 = .ok (.iload_n 3, 1) := by decide +kernel
theorem dX9_takes_35 : decode cX9_takes 35 = .ok (.iconst 1, 1) := by decide +kernel
theorem dX9_takes_36 : decode cX9_takes 36 = .ok (.iload_n 1, 1) := by decide +kernel
theorem dX9_takes_37 : decode cX9_takes 37 = .ok (.ishl, 1) := by decide +kernel
theorem dX9_takes_38 : decode cX9_takes 38 = .ok (.aload_n 0, 1) := by decide +kernel
theorem dX9_takes_39 : decode cX9_takes 39 = .ok (.getfield 11, 3) := by decide +kernel
theorem dX9_takes_42 : decode cX9_takes 42 = .ok (.bipush 7, 2) := by decide +kernel
theorem dX9_takes_44 : decode cX9_takes 44 = .ok (.iload_n 1, 1) := by decide +kernel
theorem dX9_takes_45 : decode cX9_takes 45 = .ok (.iadd, 1) := by decide +kernel
theorem dX9_takes_46 : decode cX9_takes 46 = .ok (.iaload, 1) := by decide +kernel
theorem dX9_takes_47 : decode cX9_takes 47 = .ok (.ior, 1) := by decide +kernel
theorem dX9_takes_48 : decode cX9_takes 48 = .ok (.iand, 1) := by decide +kernel
theorem dX9_takes_49 : decode cX9_takes 49 = .ok (.ifCond .ne 18, 3) := by decide +kernel
theorem dX9_takes_52 : decode cX9_takes 52 = .ok (.aload_n 0, 1) := by decide +kernel
theorem dX9_takes_53 : decode cX9_takes 53 = .ok (.iload_n 2, 1) := by decide +kernel
theorem dX9_takes_54 : decode cX9_takes 54 = .ok (.iload 4, 2) := by decide +kernel
theorem dX9_takes_56 : decode cX9_takes 56 = .ok (.iload_n 1, 1) := by decide +kernel
theorem dX9_takes_57 : decode cX9_takes 57 = .ok (.invokevirtual 69, 3) := by decide +kernel
theorem dX9_takes_60 : decode cX9_takes 60 = .ok (.ifCond .eq 7, 3) := by decide +kernel
theorem dX9_takes_63 : decode cX9_takes 63 = .ok (.iconst 1, 1) := by decide +kernel
theorem dX9_takes_64 : decode cX9_takes 64 = .ok (.goto 4, 3) := by decide +kernel
theorem dX9_takes_67 : decode cX9_takes 67 = .ok (.iconst 0, 1) := by decide +kernel
theorem dX9_takes_68 : decode cX9_takes 68 = .ok (.ireturn, 1) := by decide +kernel
theorem dX9_rankOf_0 : decode cX9_rankOf 0 = .ok (.iload_n 1, 1) := by decide +kernel
theorem dX9_rankOf_1 : decode cX9_rankOf 1 = .ok (.bipush 6, 2) := by decide +kernel
theorem dX9_rankOf_3 : decode cX9_rankOf 3 = .ok (.imul, 1) := by decide +kernel
theorem dX9_rankOf_4 : decode cX9_rankOf 4 = .ok (.iload_n 2, 1) := by decide +kernel
theorem dX9_rankOf_5 : decode cX9_rankOf 5 = .ok (.iadd, 1) := by decide +kernel
theorem dX9_rankOf_6 : decode cX9_rankOf 6 = .ok (.istore 5, 2) := by decide +kernel
theorem dX9_rankOf_8 : decode cX9_rankOf 8 = .ok (.aload_n 0, 1) := by decide +kernel
theorem dX9_rankOf_9 : decode cX9_rankOf 9 = .ok (.getfield 11, 3) := by decide +kernel
theorem dX9_rankOf_12 : decode cX9_rankOf 12 = .ok (.iconst 1, 1) := by decide +kernel
theorem dX9_rankOf_13 : decode cX9_rankOf 13 = .ok (.iload_n 1, 1) := by decide +kernel
theorem dX9_rankOf_14 : decode cX9_rankOf 14 = .ok (.iadd, 1) := by decide +kernel
theorem dX9_rankOf_15 : decode cX9_rankOf 15 = .ok (.iaload, 1) := by decide +kernel
theorem dX9_rankOf_16 : decode cX9_rankOf 16 = .ok (.iconst 1, 1) := by decide +kernel
theorem dX9_rankOf_17 : decode cX9_rankOf 17 = .ok (.iand, 1) := by decide +kernel
theorem dX9_rankOf_18 : decode cX9_rankOf 18 = .ok (.ifCond .ne 7, 3) := by decide +kernel
theorem dX9_rankOf_21 : decode cX9_rankOf 21 = .ok (.iconst 0, 1) := by decide +kernel
theorem dX9_rankOf_22 : decode cX9_rankOf 22 = .ok (.goto 13, 3) := by decide +kernel
theorem dX9_rankOf_25 : decode cX9_rankOf 25 = .ok (.aload_n 0, 1) := by decide +kernel
theorem dX9_rankOf_26 : decode cX9_rankOf 26 = .ok (.getfield 11, 3) := by decide +kernel
theorem dX9_rankOf_29 : decode cX9_rankOf 29 = .ok (.bipush 13, 2) := by decide +kernel
theorem dX9_rankOf_31 : decode cX9_rankOf 31 = .ok (.iload 5, 2) := by decide +kernel
theorem dX9_rankOf_33 : decode cX9_rankOf 33 = .ok (.iadd, 1) := by decide +kernel
theorem dX9_rankOf_34 : decode cX9_rankOf 34 = .ok (.iaload, 1) := by decide +kernel
theorem dX9_rankOf_35 : decode cX9_rankOf 35 = .ok (.istore 6, 2) := by decide +kernel
theorem dX9_rankOf_37 : decode cX9_rankOf 37 = .ok (.iload 6, 2) := by decide +kernel
theorem dX9_rankOf_39 : decode cX9_rankOf 39 = .ok (.bipush 10, 2) := by decide +kernel
theorem dX9_rankOf_41 : decode cX9_rankOf 41 = .ok (.imul, 1) := by decide +kernel
theorem dX9_rankOf_42 : decode cX9_rankOf 42 = .ok (.bipush 9, 2) := by decide +kernel
theorem dX9_rankOf_44 : decode cX9_rankOf 44 = .ok (.iadd, 1) := by decide +kernel
theorem dX9_rankOf_45 : decode cX9_rankOf 45 = .ok (.aload_n 0, 1) := by decide +kernel
theorem dX9_rankOf_46 : decode cX9_rankOf 46 = .ok (.getfield 11, 3) := by decide +kernel
theorem dX9_rankOf_49 : decode cX9_rankOf 49 = .ok (.bipush 85, 2) := by decide +kernel
theorem dX9_rankOf_51 : decode cX9_rankOf 51 = .ok (.iload 5, 2) := by decide +kernel
theorem dX9_rankOf_53 : decode cX9_rankOf 53 = .ok (.iadd, 1) := by decide +kernel
theorem dX9_rankOf_54 : decode cX9_rankOf 54 = .ok (.iaload, 1) := by decide +kernel
theorem dX9_rankOf_55 : decode cX9_rankOf 55 = .ok (.isub, 1) := by decide +kernel
theorem dX9_rankOf_56 : decode cX9_rankOf 56 = .ok (.bipush 8, 2) := by decide +kernel
theorem dX9_rankOf_58 : decode cX9_rankOf 58 = .ok (.imul, 1) := by decide +kernel
theorem dX9_rankOf_59 : decode cX9_rankOf 59 = .ok (.iload_n 3, 1) := by decide +kernel
theorem dX9_rankOf_60 : decode cX9_rankOf 60 = .ok (.iadd, 1) := by decide +kernel
theorem dX9_rankOf_61 : decode cX9_rankOf 61 = .ok (.ldc 73, 2) := by decide +kernel
theorem dX9_rankOf_63 : decode cX9_rankOf 63 = .ok (.imul, 1) := by decide +kernel
theorem dX9_rankOf_64 : decode cX9_rankOf 64 = .ok (.iload 4, 2) := by decide +kernel
theorem dX9_rankOf_66 : decode cX9_rankOf 66 = .ok (.iadd, 1) := by decide +kernel
theorem dX9_rankOf_67 : decode cX9_rankOf 67 = .ok (.ireturn, 1) := by decide +kernel
theorem dX10_init_0 : decode cX10_init 0 = .ok (.aload_n 0, 1) := by decide +kernel
theorem dX10_init_1 : decode cX10_init 1 = .ok (.invokespecial 1, 3) := by decide +kernel
theorem dX10_init_4 : decode cX10_init 4 = .ok (.aload_n 0, 1) := by decide +kernel
theorem dX10_init_5 : decode cX10_init 5 = .ok (.new 7, 3) := by decide +kernel
theorem dX10_init_8 : decode cX10_init 8 = .ok (.dup, 1) := by decide +kernel
theorem dX10_init_9 : decode cX10_init 9 = .ok (.invokespecial 9, 3) := by decide +kernel
theorem dX10_init_12 : decode cX10_init 12 = .ok (.putfield 10, 3) := by decide +kernel
theorem dX10_init_15 : decode cX10_init 15 = .ok (.aload_n 0, 1) := by decide +kernel
theorem dX10_init_16 : decode cX10_init 16 = .ok (.new 16, 3) := by decide +kernel
theorem dX10_init_19 : decode cX10_init 19 = .ok (.dup, 1) := by decide +kernel
theorem dX10_init_20 : decode cX10_init 20 = .ok (.invokespecial 18, 3) := by decide +kernel
theorem dX10_init_23 : decode cX10_init 23 = .ok (.putfield 19, 3) := by decide +kernel
theorem dX10_init_26 : decode cX10_init 26 = .ok (.aload_n 0, 1) := by decide +kernel
theorem dX10_init_27 : decode cX10_init 27 = .ok (.new 7, 3) := by decide +kernel
theorem dX10_init_30 : decode cX10_init 30 = .ok (.dup, 1) := by decide +kernel
theorem dX10_init_31 : decode cX10_init 31 = .ok (.invokespecial 9, 3) := by decide +kernel
theorem dX10_init_34 : decode cX10_init 34 = .ok (.putfield 23, 3) := by decide +kernel
theorem dX10_init_37 : decode cX10_init 37 = .ok (.aload_n 0, 1) := by decide +kernel
theorem dX10_init_38 : decode cX10_init 38 = .ok (.new 16, 3) := by decide +kernel
theorem dX10_init_41 : decode cX10_init 41 = .ok (.dup, 1) := by decide +kernel
theorem dX10_init_42 : decode cX10_init 42 = .ok (.invokespecial 18, 3) := by decide +kernel
theorem dX10_init_45 : decode cX10_init 45 = .ok (.putfield 26, 3) := by decide +kernel
theorem dX10_init_48 : decode cX10_init 48 = .ok (.aload_n 0, 1) := by decide +kernel
theorem dX10_init_49 : decode cX10_init 49 = .ok (.iconst 0, 1) := by decide +kernel
theorem dX10_init_50 : decode cX10_init 50 = .ok (.putfield 29, 3) := by decide +kernel
theorem dX10_init_53 : decode cX10_init 53 = .ok (.aload_n 0, 1) := by decide +kernel
theorem dX10_init_54 : decode cX10_init 54 = .ok (.new 33, 3) := by decide +kernel
theorem dX10_init_57 : decode cX10_init 57 = .ok (.dup, 1) := by decide +kernel
theorem dX10_init_58 : decode cX10_init 58 = .ok (.invokespecial 35, 3) := by decide +kernel
theorem dX10_init_61 : decode cX10_init 61 = .ok (.putfield 36, 3) := by decide +kernel
theorem dX10_init_64 : decode cX10_init 64 = .ok (.aload_n 0, 1) := by decide +kernel
theorem dX10_init_65 : decode cX10_init 65 = .ok (.new 40, 3) := by decide +kernel
theorem dX10_init_68 : decode cX10_init 68 = .ok (.dup, 1) := by decide +kernel
theorem dX10_init_69 : decode cX10_init 69 = .ok (.invokespecial 42, 3) := by decide +kernel
theorem dX10_init_72 : decode cX10_init 72 = .ok (.putfield 43, 3) := by decide +kernel
theorem dX10_init_75 : decode cX10_init 75 = .ok (.aload_n 0, 1) := by decide +kernel
theorem dX10_init_76 : decode cX10_init 76 = .ok (.new 47, 3) := by decide +kernel
theorem dX10_init_79 : decode cX10_init 79 = .ok (.dup, 1) := by decide +kernel
theorem dX10_init_80 : decode cX10_init 80 = .ok (.invokespecial 49, 3) := by decide +kernel
theorem dX10_init_83 : decode cX10_init 83 = .ok (.putfield 50, 3) := by decide +kernel
theorem dX10_init_86 : decode cX10_init 86 = .ok (.aload_n 0, 1) := by decide +kernel
theorem dX10_init_87 : decode cX10_init 87 = .ok (.new 54, 3) := by decide +kernel
theorem dX10_init_90 : decode cX10_init 90 = .ok (.dup, 1) := by decide +kernel
theorem dX10_init_91 : decode cX10_init 91 = .ok (.invokespecial 56, 3) := by decide +kernel
theorem dX10_init_94 : decode cX10_init 94 = .ok (.putfield 57, 3) := by decide +kernel
theorem dX10_init_97 : decode cX10_init 97 = .ok (.aload_n 0, 1) := by decide +kernel
theorem dX10_init_98 : decode cX10_init 98 = .ok (.new 61, 3) := by decide +kernel
theorem dX10_init_101 : decode cX10_init 101 = .ok (.dup, 1) := by decide +kernel
theorem dX10_init_102 : decode cX10_init 102 = .ok (.invokespecial 63, 3) := by decide +kernel
theorem dX10_init_105 : decode cX10_init 105 = .ok (.putfield 64, 3) := by decide +kernel
theorem dX10_init_108 : decode cX10_init 108 = .ok (.aload_n 0, 1) := by decide +kernel
theorem dX10_init_109 : decode cX10_init 109 = .ok (.new 68, 3) := by decide +kernel
theorem dX10_init_112 : decode cX10_init 112 = .ok (.dup, 1) := by decide +kernel
theorem dX10_init_113 : decode cX10_init 113 = .ok (.invokespecial 70, 3) := by decide +kernel
theorem dX10_init_116 : decode cX10_init 116 = .ok (.putfield 71, 3) := by decide +kernel
theorem dX10_init_119 : decode cX10_init 119 = .ok (.aload_n 0, 1) := by decide +kernel
theorem dX10_init_120 : decode cX10_init 120 = .ok (.new 75, 3) := by decide +kernel
theorem dX10_init_123 : decode cX10_init 123 = .ok (.dup, 1) := by decide +kernel
theorem dX10_init_124 : decode cX10_init 124 = .ok (.invokespecial 77, 3) := by decide +kernel
theorem dX10_init_127 : decode cX10_init 127 = .ok (.putfield 78, 3) := by decide +kernel
theorem dX10_init_130 : decode cX10_init 130 = .ok (.aload_n 0, 1) := by decide +kernel
theorem dX10_init_131 : decode cX10_init 131 = .ok (.bipush 6, 2) := by decide +kernel
theorem dX10_init_133 : decode cX10_init 133 = .ok (.newarray .int, 2) := by decide +kernel
theorem dX10_init_135 : decode cX10_init 135 = .ok (.putfield 82, 3) := by decide +kernel
theorem dX10_init_138 : decode cX10_init 138 = .ok (.return_, 1) := by decide +kernel
theorem dX10_link_0 : decode cX10_link 0 = .ok (.aload_n 0, 1) := by decide +kernel
theorem dX10_link_1 : decode cX10_link 1 = .ok (.getfield 10, 3) := by decide +kernel
theorem dX10_link_4 : decode cX10_link 4 = .ok (.iload_n 1, 1) := by decide +kernel
theorem dX10_link_5 : decode cX10_link 5 = .ok (.iload_n 2, 1) := by decide +kernel
theorem dX10_link_6 : decode cX10_link 6 = .ok (.invokevirtual 86, 3) := by decide +kernel
theorem dX10_link_9 : decode cX10_link 9 = .ok (.ifCond .eq 12, 3) := by decide +kernel
theorem dX10_link_12 : decode cX10_link 12 = .ok (.iload_n 3, 1) := by decide +kernel
theorem dX10_link_13 : decode cX10_link 13 = .ok (.ifCond .lt 8, 3) := by decide +kernel
theorem dX10_link_16 : decode cX10_link 16 = .ok (.iload_n 3, 1) := by decide +kernel
theorem dX10_link_17 : decode cX10_link 17 = .ok (.iconst 3, 1) := by decide +kernel
theorem dX10_link_18 : decode cX10_link 18 = .ok (.if_icmp .le 5, 3) := by decide +kernel
theorem dX10_link_21 : decode cX10_link 21 = .ok (.iconst (-1), 1) := by decide +kernel
theorem dX10_link_22 : decode cX10_link 22 = .ok (.ireturn, 1) := by decide +kernel
theorem dX10_link_23 : decode cX10_link 23 = .ok (.aload_n 0, 1) := by decide +kernel
theorem dX10_link_24 : decode cX10_link 24 = .ok (.getfield 10, 3) := by decide +kernel
theorem dX10_link_27 : decode cX10_link 27 = .ok (.iload_n 1, 1) := by decide +kernel
theorem dX10_link_28 : decode cX10_link 28 = .ok (.iload_n 2, 1) := by decide +kernel
theorem dX10_link_29 : decode cX10_link 29 = .ok (.invokevirtual 90, 3) := by decide +kernel
theorem dX10_link_32 : decode cX10_link 32 = .ok (.istore 4, 2) := by decide +kernel
theorem dX10_link_34 : decode cX10_link 34 = .ok (.iload 4, 2) := by decide +kernel
theorem dX10_link_36 : decode cX10_link 36 = .ok (.iload_n 3, 1) := by decide +kernel
theorem dX10_link_37 : decode cX10_link 37 = .ok (.if_icmp .ne 18, 3) := by decide +kernel
theorem dX10_link_40 : decode cX10_link 40 = .ok (.aload_n 0, 1) := by decide +kernel
theorem dX10_link_41 : decode cX10_link 41 = .ok (.getfield 10, 3) := by decide +kernel
theorem dX10_link_44 : decode cX10_link 44 = .ok (.iload_n 1, 1) := by decide +kernel
theorem dX10_link_45 : decode cX10_link 45 = .ok (.iload_n 2, 1) := by decide +kernel
theorem dX10_link_46 : decode cX10_link 46 = .ok (.invokevirtual 94, 3) := by decide +kernel
theorem dX10_link_49 : decode cX10_link 49 = .ok (.ifCond .ne 6, 3) := by decide +kernel
theorem dX10_link_52 : decode cX10_link 52 = .ok (.bipush (-2), 2) := by decide +kernel
theorem dX10_link_54 : decode cX10_link 54 = .ok (.ireturn, 1) := by decide +kernel
theorem dX10_link_55 : decode cX10_link 55 = .ok (.aload_n 0, 1) := by decide +kernel
theorem dX10_link_56 : decode cX10_link 56 = .ok (.getfield 19, 3) := by decide +kernel
theorem dX10_link_59 : decode cX10_link 59 = .ok (.aload_n 0, 1) := by decide +kernel
theorem dX10_link_60 : decode cX10_link 60 = .ok (.getfield 10, 3) := by decide +kernel
theorem dX10_link_63 : decode cX10_link 63 = .ok (.invokevirtual 97, 3) := by decide +kernel
theorem dX10_link_66 : decode cX10_link 66 = .ok (.aload_n 0, 1) := by decide +kernel
theorem dX10_link_67 : decode cX10_link 67 = .ok (.getfield 10, 3) := by decide +kernel
theorem dX10_link_70 : decode cX10_link 70 = .ok (.iload_n 1, 1) := by decide +kernel
theorem dX10_link_71 : decode cX10_link 71 = .ok (.iload_n 2, 1) := by decide +kernel
theorem dX10_link_72 : decode cX10_link 72 = .ok (.iload_n 3, 1) := by decide +kernel
theorem dX10_link_73 : decode cX10_link 73 = .ok (.invokevirtual 101, 3) := by decide +kernel
theorem dX10_link_76 : decode cX10_link 76 = .ok (.iload 4, 2) := by decide +kernel
theorem dX10_link_78 : decode cX10_link 78 = .ok (.ireturn, 1) := by decide +kernel
theorem dX10_cut_0 : decode cX10_cut 0 = .ok (.aload_n 0, 1) := by decide +kernel
theorem dX10_cut_1 : decode cX10_cut 1 = .ok (.getfield 10, 3) := by decide +kernel
theorem dX10_cut_4 : decode cX10_cut 4 = .ok (.iload_n 1, 1) := by decide +kernel
theorem dX10_cut_5 : decode cX10_cut 5 = .ok (.iload_n 2, 1) := by decide +kernel
theorem dX10_cut_6 : decode cX10_cut 6 = .ok (.invokevirtual 86, 3) := by decide +kernel
theorem dX10_cut_9 : decode cX10_cut 9 = .ok (.ifCond .ne 5, 3) := by decide +kernel
theorem dX10_cut_12 : decode cX10_cut 12 = .ok (.iconst (-1), 1) := by decide +kernel
theorem dX10_cut_13 : decode cX10_cut 13 = .ok (.ireturn, 1) := by decide +kernel
theorem dX10_cut_14 : decode cX10_cut 14 = .ok (.aload_n 0, 1) := by decide +kernel
theorem dX10_cut_15 : decode cX10_cut 15 = .ok (.getfield 10, 3) := by decide +kernel
theorem dX10_cut_18 : decode cX10_cut 18 = .ok (.iload_n 1, 1) := by decide +kernel
theorem dX10_cut_19 : decode cX10_cut 19 = .ok (.iload_n 2, 1) := by decide +kernel
theorem dX10_cut_20 : decode cX10_cut 20 = .ok (.invokevirtual 90, 3) := by decide +kernel
theorem dX10_cut_23 : decode cX10_cut 23 = .ok (.ifCond .ne 6, 3) := by decide +kernel
theorem dX10_cut_26 : decode cX10_cut 26 = .ok (.bipush (-4), 2) := by decide +kernel
theorem dX10_cut_28 : decode cX10_cut 28 = .ok (.ireturn, 1) := by decide +kernel
theorem dX10_cut_29 : decode cX10_cut 29 = .ok (.aload_n 0, 1) := by decide +kernel
theorem dX10_cut_30 : decode cX10_cut 30 = .ok (.getfield 19, 3) := by decide +kernel
theorem dX10_cut_33 : decode cX10_cut 33 = .ok (.aload_n 0, 1) := by decide +kernel
theorem dX10_cut_34 : decode cX10_cut 34 = .ok (.getfield 10, 3) := by decide +kernel
theorem dX10_cut_37 : decode cX10_cut 37 = .ok (.invokevirtual 97, 3) := by decide +kernel
theorem dX10_cut_40 : decode cX10_cut 40 = .ok (.aload_n 0, 1) := by decide +kernel
theorem dX10_cut_41 : decode cX10_cut 41 = .ok (.getfield 10, 3) := by decide +kernel
theorem dX10_cut_44 : decode cX10_cut 44 = .ok (.iload_n 1, 1) := by decide +kernel
theorem dX10_cut_45 : decode cX10_cut 45 = .ok (.iload_n 2, 1) := by decide +kernel
theorem dX10_cut_46 : decode cX10_cut 46 = .ok (.invokevirtual 105, 3) := by decide +kernel
theorem dX10_cut_49 : decode cX10_cut 49 = .ok (.aload_n 0, 1) := by decide +kernel
theorem dX10_cut_50 : decode cX10_cut 50 = .ok (.getfield 10, 3) := by decide +kernel
theorem dX10_cut_53 : decode cX10_cut 53 = .ok (.iload_n 1, 1) := by decide +kernel
theorem dX10_cut_54 : decode cX10_cut 54 = .ok (.iload_n 2, 1) := by decide +kernel
theorem dX10_cut_55 : decode cX10_cut 55 = .ok (.invokevirtual 94, 3) := by decide +kernel
theorem dX10_cut_58 : decode cX10_cut 58 = .ok (.ifCond .eq 7, 3) := by decide +kernel
theorem dX10_cut_61 : decode cX10_cut 61 = .ok (.iconst 1, 1) := by decide +kernel
theorem dX10_cut_62 : decode cX10_cut 62 = .ok (.goto 4, 3) := by decide +kernel
theorem dX10_cut_65 : decode cX10_cut 65 = .ok (.iconst 0, 1) := by decide +kernel
theorem dX10_cut_66 : decode cX10_cut 66 = .ok (.ireturn, 1) := by decide +kernel
theorem dX10_like_0 : decode cX10_like 0 = .ok (.aload_n 0, 1) := by decide +kernel
theorem dX10_like_1 : decode cX10_like 1 = .ok (.getfield 10, 3) := by decide +kernel
theorem dX10_like_4 : decode cX10_like 4 = .ok (.iload_n 1, 1) := by decide +kernel
theorem dX10_like_5 : decode cX10_like 5 = .ok (.iload_n 2, 1) := by decide +kernel
theorem dX10_like_6 : decode cX10_like 6 = .ok (.invokevirtual 86, 3) := by decide +kernel
theorem dX10_like_9 : decode cX10_like 9 = .ok (.ifCond .eq 13, 3) := by decide +kernel
theorem dX10_like_12 : decode cX10_like 12 = .ok (.iload_n 3, 1) := by decide +kernel
theorem dX10_like_13 : decode cX10_like 13 = .ok (.ifCond .lt 9, 3) := by decide +kernel
theorem dX10_like_16 : decode cX10_like 16 = .ok (.iload_n 3, 1) := by decide +kernel
theorem dX10_like_17 : decode cX10_like 17 = .ok (.bipush 9, 2) := by decide +kernel
theorem dX10_like_19 : decode cX10_like 19 = .ok (.if_icmp .le 5, 3) := by decide +kernel
theorem dX10_like_22 : decode cX10_like 22 = .ok (.iconst (-1), 1) := by decide +kernel
theorem dX10_like_23 : decode cX10_like 23 = .ok (.ireturn, 1) := by decide +kernel
theorem dX10_like_24 : decode cX10_like 24 = .ok (.aload_n 0, 1) := by decide +kernel
theorem dX10_like_25 : decode cX10_like 25 = .ok (.getfield 10, 3) := by decide +kernel
theorem dX10_like_28 : decode cX10_like 28 = .ok (.iload_n 1, 1) := by decide +kernel
theorem dX10_like_29 : decode cX10_like 29 = .ok (.iload_n 2, 1) := by decide +kernel
theorem dX10_like_30 : decode cX10_like 30 = .ok (.invokevirtual 109, 3) := by decide +kernel
theorem dX10_like_33 : decode cX10_like 33 = .ok (.istore 4, 2) := by decide +kernel
theorem dX10_like_35 : decode cX10_like 35 = .ok (.iload 4, 2) := by decide +kernel
theorem dX10_like_37 : decode cX10_like 37 = .ok (.iload_n 3, 1) := by decide +kernel
theorem dX10_like_38 : decode cX10_like 38 = .ok (.if_icmp .ne 6, 3) := by decide +kernel
theorem dX10_like_41 : decode cX10_like 41 = .ok (.bipush (-2), 2) := by decide +kernel
theorem dX10_like_43 : decode cX10_like 43 = .ok (.ireturn, 1) := by decide +kernel
theorem dX10_like_44 : decode cX10_like 44 = .ok (.aload_n 0, 1) := by decide +kernel
theorem dX10_like_45 : decode cX10_like 45 = .ok (.getfield 19, 3) := by decide +kernel
theorem dX10_like_48 : decode cX10_like 48 = .ok (.aload_n 0, 1) := by decide +kernel
theorem dX10_like_49 : decode cX10_like 49 = .ok (.getfield 10, 3) := by decide +kernel
theorem dX10_like_52 : decode cX10_like 52 = .ok (.invokevirtual 97, 3) := by decide +kernel
theorem dX10_like_55 : decode cX10_like 55 = .ok (.aload_n 0, 1) := by decide +kernel
theorem dX10_like_56 : decode cX10_like 56 = .ok (.getfield 10, 3) := by decide +kernel
theorem dX10_like_59 : decode cX10_like 59 = .ok (.iload_n 1, 1) := by decide +kernel
theorem dX10_like_60 : decode cX10_like 60 = .ok (.iload_n 2, 1) := by decide +kernel
theorem dX10_like_61 : decode cX10_like 61 = .ok (.iload_n 3, 1) := by decide +kernel
theorem dX10_like_62 : decode cX10_like 62 = .ok (.invokevirtual 112, 3) := by decide +kernel
theorem dX10_like_65 : decode cX10_like 65 = .ok (.iload 4, 2) := by decide +kernel
theorem dX10_like_67 : decode cX10_like 67 = .ok (.ireturn, 1) := by decide +kernel
theorem dX10_manner_0 : decode cX10_manner 0 = .ok (.aload_n 0, 1) := by decide +kernel
theorem dX10_manner_1 : decode cX10_manner 1 = .ok (.getfield 10, 3) := by decide +kernel
theorem dX10_manner_4 : decode cX10_manner 4 = .ok (.iload_n 1, 1) := by decide +kernel
theorem dX10_manner_5 : decode cX10_manner 5 = .ok (.invokevirtual 115, 3) := by decide +kernel
theorem dX10_manner_8 : decode cX10_manner 8 = .ok (.ifCond .eq 12, 3) := by decide +kernel
theorem dX10_manner_11 : decode cX10_manner 11 = .ok (.iload_n 2, 1) := by decide +kernel
theorem dX10_manner_12 : decode cX10_manner 12 = .ok (.ifCond .lt 8, 3) := by decide +kernel
theorem dX10_manner_15 : decode cX10_manner 15 = .ok (.iload_n 2, 1) := by decide +kernel
theorem dX10_manner_16 : decode cX10_manner 16 = .ok (.iconst 3, 1) := by decide +kernel
theorem dX10_manner_17 : decode cX10_manner 17 = .ok (.if_icmp .le 5, 3) := by decide +kernel
theorem dX10_manner_20 : decode cX10_manner 20 = .ok (.iconst (-1), 1) := by decide +kernel
theorem dX10_manner_21 : decode cX10_manner 21 = .ok (.ireturn, 1) := by decide +kernel
theorem dX10_manner_22 : decode cX10_manner 22 = .ok (.aload_n 0, 1) := by decide +kernel
theorem dX10_manner_23 : decode cX10_manner 23 = .ok (.getfield 10, 3) := by decide +kernel
theorem dX10_manner_26 : decode cX10_manner 26 = .ok (.iload_n 1, 1) := by decide +kernel
theorem dX10_manner_27 : decode cX10_manner 27 = .ok (.invokevirtual 119, 3) := by decide +kernel
theorem dX10_manner_30 : decode cX10_manner 30 = .ok (.istore_n 3, 1) := by decide +kernel
theorem dX10_manner_31 : decode cX10_manner 31 = .ok (.iload_n 3, 1) := by decide +kernel
theorem dX10_manner_32 : decode cX10_manner 32 = .ok (.iload_n 2, 1) := by decide +kernel
theorem dX10_manner_33 : decode cX10_manner 33 = .ok (.if_icmp .ne 6, 3) := by decide +kernel
theorem dX10_manner_36 : decode cX10_manner 36 = .ok (.bipush (-2), 2) := by decide +kernel
theorem dX10_manner_38 : decode cX10_manner 38 = .ok (.ireturn, 1) := by decide +kernel
theorem dX10_manner_39 : decode cX10_manner 39 = .ok (.aload_n 0, 1) := by decide +kernel
theorem dX10_manner_40 : decode cX10_manner 40 = .ok (.getfield 19, 3) := by decide +kernel
theorem dX10_manner_43 : decode cX10_manner 43 = .ok (.aload_n 0, 1) := by decide +kernel
theorem dX10_manner_44 : decode cX10_manner 44 = .ok (.getfield 10, 3) := by decide +kernel
theorem dX10_manner_47 : decode cX10_manner 47 = .ok (.invokevirtual 97, 3) := by decide +kernel
theorem dX10_manner_50 : decode cX10_manner 50 = .ok (.aload_n 0, 1) := by decide +kernel
theorem dX10_manner_51 : decode cX10_manner 51 = .ok (.getfield 10, 3) := by decide +kernel
theorem dX10_manner_54 : decode cX10_manner 54 = .ok (.iload_n 1, 1) := by decide +kernel
theorem dX10_manner_55 : decode cX10_manner 55 = .ok (.iload_n 2, 1) := by decide +kernel
theorem dX10_manner_56 : decode cX10_manner 56 = .ok (.invokevirtual 123, 3) := by decide +kernel
theorem dX10_manner_59 : decode cX10_manner 59 = .ok (.iload_n 3, 1) := by decide +kernel
theorem dX10_manner_60 : decode cX10_manner 60 = .ok (.ireturn, 1) := by decide +kernel
theorem dX10_bar_0 : decode cX10_bar 0 = .ok (.aload_n 0, 1) := by decide +kernel
theorem dX10_bar_1 : decode cX10_bar 1 = .ok (.getfield 10, 3) := by decide +kernel
theorem dX10_bar_4 : decode cX10_bar 4 = .ok (.iload_n 1, 1) := by decide +kernel
theorem dX10_bar_5 : decode cX10_bar 5 = .ok (.invokevirtual 115, 3) := by decide +kernel
theorem dX10_bar_8 : decode cX10_bar 8 = .ok (.ifCond .eq 15, 3) := by decide +kernel
theorem dX10_bar_11 : decode cX10_bar 11 = .ok (.aload_n 0, 1) := by decide +kernel
theorem dX10_bar_12 : decode cX10_bar 12 = .ok (.getfield 10, 3) := by decide +kernel
theorem dX10_bar_15 : decode cX10_bar 15 = .ok (.iload_n 1, 1) := by decide +kernel
theorem dX10_bar_16 : decode cX10_bar 16 = .ok (.iload_n 2, 1) := by decide +kernel
theorem dX10_bar_17 : decode cX10_bar 17 = .ok (.invokevirtual 126, 3) := by decide +kernel
theorem dX10_bar_20 : decode cX10_bar 20 = .ok (.ifCond .ne 5, 3) := by decide +kernel
theorem dX10_bar_23 : decode cX10_bar 23 = .ok (.iconst (-1), 1) := by decide +kernel
theorem dX10_bar_24 : decode cX10_bar 24 = .ok (.ireturn, 1) := by decide +kernel
theorem dX10_bar_25 : decode cX10_bar 25 = .ok (.aload_n 0, 1) := by decide +kernel
theorem dX10_bar_26 : decode cX10_bar 26 = .ok (.getfield 10, 3) := by decide +kernel
theorem dX10_bar_29 : decode cX10_bar 29 = .ok (.iload_n 1, 1) := by decide +kernel
theorem dX10_bar_30 : decode cX10_bar 30 = .ok (.invokevirtual 129, 3) := by decide +kernel
theorem dX10_bar_33 : decode cX10_bar 33 = .ok (.istore_n 3, 1) := by decide +kernel
theorem dX10_bar_34 : decode cX10_bar 34 = .ok (.iload_n 3, 1) := by decide +kernel
theorem dX10_bar_35 : decode cX10_bar 35 = .ok (.iload_n 2, 1) := by decide +kernel
theorem dX10_bar_36 : decode cX10_bar 36 = .ok (.if_icmp .ne 6, 3) := by decide +kernel
theorem dX10_bar_39 : decode cX10_bar 39 = .ok (.bipush (-2), 2) := by decide +kernel
theorem dX10_bar_41 : decode cX10_bar 41 = .ok (.ireturn, 1) := by decide +kernel
theorem dX10_bar_42 : decode cX10_bar 42 = .ok (.aload_n 0, 1) := by decide +kernel
theorem dX10_bar_43 : decode cX10_bar 43 = .ok (.getfield 19, 3) := by decide +kernel
theorem dX10_bar_46 : decode cX10_bar 46 = .ok (.aload_n 0, 1) := by decide +kernel
theorem dX10_bar_47 : decode cX10_bar 47 = .ok (.getfield 10, 3) := by decide +kernel
theorem dX10_bar_50 : decode cX10_bar 50 = .ok (.invokevirtual 97, 3) := by decide +kernel
theorem dX10_bar_53 : decode cX10_bar 53 = .ok (.aload_n 0, 1) := by decide +kernel
theorem dX10_bar_54 : decode cX10_bar 54 = .ok (.getfield 10, 3) := by decide +kernel
theorem dX10_bar_57 : decode cX10_bar 57 = .ok (.iload_n 1, 1) := by decide +kernel
theorem dX10_bar_58 : decode cX10_bar 58 = .ok (.iload_n 2, 1) := by decide +kernel
theorem dX10_bar_59 : decode cX10_bar 59 = .ok (.invokevirtual 132, 3) := by decide +kernel
theorem dX10_bar_62 : decode cX10_bar 62 = .ok (.iload_n 3, 1) := by decide +kernel
theorem dX10_bar_63 : decode cX10_bar 63 = .ok (.ireturn, 1) := by decide +kernel
theorem dX10_domains_0 : decode cX10_domains 0 = .ok (.iload_n 1, 1) := by decide +kernel
theorem dX10_domains_1 : decode cX10_domains 1 = .ok (.iconst 2, 1) := by decide +kernel
theorem dX10_domains_2 : decode cX10_domains 2 = .ok (.if_icmp .lt 9, 3) := by decide +kernel
theorem dX10_domains_5 : decode cX10_domains 5 = .ok (.iload_n 1, 1) := by decide +kernel
theorem dX10_domains_6 : decode cX10_domains 6 = .ok (.bipush 6, 2) := by decide +kernel
theorem dX10_domains_8 : decode cX10_domains 8 = .ok (.if_icmp .le 5, 3) := by decide +kernel
theorem dX10_domains_11 : decode cX10_domains 11 = .ok (.iconst (-1), 1) := by decide +kernel
theorem dX10_domains_12 : decode cX10_domains 12 = .ok (.ireturn, 1) := by decide +kernel
theorem dX10_domains_13 : decode cX10_domains 13 = .ok (.aload_n 0, 1) := by decide +kernel
theorem dX10_domains_14 : decode cX10_domains 14 = .ok (.getfield 10, 3) := by decide +kernel
theorem dX10_domains_17 : decode cX10_domains 17 = .ok (.invokevirtual 135, 3) := by decide +kernel
theorem dX10_domains_20 : decode cX10_domains 20 = .ok (.istore_n 2, 1) := by decide +kernel
theorem dX10_domains_21 : decode cX10_domains 21 = .ok (.iload_n 2, 1) := by decide +kernel
theorem dX10_domains_22 : decode cX10_domains 22 = .ok (.iload_n 1, 1) := by decide +kernel
theorem dX10_domains_23 : decode cX10_domains 23 = .ok (.if_icmp .ne 6, 3) := by decide +kernel
theorem dX10_domains_26 : decode cX10_domains 26 = .ok (.bipush (-2), 2) := by decide +kernel
theorem dX10_domains_28 : decode cX10_domains 28 = .ok (.ireturn, 1) := by decide +kernel
theorem dX10_domains_29 : decode cX10_domains 29 = .ok (.aload_n 0, 1) := by decide +kernel
theorem dX10_domains_30 : decode cX10_domains 30 = .ok (.getfield 19, 3) := by decide +kernel
theorem dX10_domains_33 : decode cX10_domains 33 = .ok (.aload_n 0, 1) := by decide +kernel
theorem dX10_domains_34 : decode cX10_domains 34 = .ok (.getfield 10, 3) := by decide +kernel
theorem dX10_domains_37 : decode cX10_domains 37 = .ok (.invokevirtual 97, 3) := by decide +kernel
theorem dX10_domains_40 : decode cX10_domains 40 = .ok (.aload_n 0, 1) := by decide +kernel
theorem dX10_domains_41 : decode cX10_domains 41 = .ok (.getfield 10, 3) := by decide +kernel
theorem dX10_domains_44 : decode cX10_domains 44 = .ok (.iload_n 1, 1) := by decide +kernel
theorem dX10_domains_45 : decode cX10_domains 45 = .ok (.invokevirtual 139, 3) := by decide +kernel
theorem dX10_domains_48 : decode cX10_domains 48 = .ok (.iload_n 2, 1) := by decide +kernel
theorem dX10_domains_49 : decode cX10_domains 49 = .ok (.ireturn, 1) := by decide +kernel
theorem dX10_told_0 : decode cX10_told 0 = .ok (.aload_n 0, 1) := by decide +kernel
theorem dX10_told_1 : decode cX10_told 1 = .ok (.getfield 10, 3) := by decide +kernel
theorem dX10_told_4 : decode cX10_told 4 = .ok (.iload_n 1, 1) := by decide +kernel
theorem dX10_told_5 : decode cX10_told 5 = .ok (.iload_n 2, 1) := by decide +kernel
theorem dX10_told_6 : decode cX10_told 6 = .ok (.invokevirtual 86, 3) := by decide +kernel
theorem dX10_told_9 : decode cX10_told 9 = .ok (.ifCond .eq 12, 3) := by decide +kernel
theorem dX10_told_12 : decode cX10_told 12 = .ok (.iload_n 3, 1) := by decide +kernel
theorem dX10_told_13 : decode cX10_told 13 = .ok (.ifCond .lt 8, 3) := by decide +kernel
theorem dX10_told_16 : decode cX10_told 16 = .ok (.iload_n 3, 1) := by decide +kernel
theorem dX10_told_17 : decode cX10_told 17 = .ok (.iconst 2, 1) := by decide +kernel
theorem dX10_told_18 : decode cX10_told 18 = .ok (.if_icmp .le 5, 3) := by decide +kernel
theorem dX10_told_21 : decode cX10_told 21 = .ok (.iconst (-1), 1) := by decide +kernel
theorem dX10_told_22 : decode cX10_told 22 = .ok (.ireturn, 1) := by decide +kernel
theorem dX10_told_23 : decode cX10_told 23 = .ok (.iload_n 3, 1) := by decide +kernel
theorem dX10_told_24 : decode cX10_told 24 = .ok (.ifCond .ne 13, 3) := by decide +kernel
theorem dX10_told_27 : decode cX10_told 27 = .ok (.aload_n 0, 1) := by decide +kernel
theorem dX10_told_28 : decode cX10_told 28 = .ok (.getfield 10, 3) := by decide +kernel
theorem dX10_told_31 : decode cX10_told 31 = .ok (.iload_n 1, 1) := by decide +kernel
theorem dX10_told_32 : decode cX10_told 32 = .ok (.iload_n 2, 1) := by decide +kernel
theorem dX10_told_33 : decode cX10_told 33 = .ok (.invokevirtual 90, 3) := by decide +kernel
theorem dX10_told_36 : decode cX10_told 36 = .ok (.ireturn, 1) := by decide +kernel
theorem dX10_told_37 : decode cX10_told 37 = .ok (.iload_n 3, 1) := by decide +kernel
theorem dX10_told_38 : decode cX10_told 38 = .ok (.iconst 1, 1) := by decide +kernel
theorem dX10_told_39 : decode cX10_told 39 = .ok (.if_icmp .ne 21, 3) := by decide +kernel
theorem dX10_told_42 : decode cX10_told 42 = .ok (.aload_n 0, 1) := by decide +kernel
theorem dX10_told_43 : decode cX10_told 43 = .ok (.getfield 10, 3) := by decide +kernel
theorem dX10_told_46 : decode cX10_told 46 = .ok (.iload_n 1, 1) := by decide +kernel
theorem dX10_told_47 : decode cX10_told 47 = .ok (.iload_n 2, 1) := by decide +kernel
theorem dX10_told_48 : decode cX10_told 48 = .ok (.invokevirtual 94, 3) := by decide +kernel
theorem dX10_told_51 : decode cX10_told 51 = .ok (.ifCond .eq 7, 3) := by decide +kernel
theorem dX10_told_54 : decode cX10_told 54 = .ok (.iconst 1, 1) := by decide +kernel
theorem dX10_told_55 : decode cX10_told 55 = .ok (.goto 4, 3) := by decide +kernel
theorem dX10_told_58 : decode cX10_told 58 = .ok (.iconst 0, 1) := by decide +kernel
theorem dX10_told_59 : decode cX10_told 59 = .ok (.ireturn, 1) := by decide +kernel
theorem dX10_told_60 : decode cX10_told 60 = .ok (.aload_n 0, 1) := by decide +kernel
theorem dX10_told_61 : decode cX10_told 61 = .ok (.getfield 10, 3) := by decide +kernel
theorem dX10_told_64 : decode cX10_told 64 = .ok (.iload_n 1, 1) := by decide +kernel
theorem dX10_told_65 : decode cX10_told 65 = .ok (.iload_n 2, 1) := by decide +kernel
theorem dX10_told_66 : decode cX10_told 66 = .ok (.invokevirtual 109, 3) := by decide +kernel
theorem dX10_told_69 : decode cX10_told 69 = .ok (.ireturn, 1) := by decide +kernel
theorem dX10_own_0 : decode cX10_own 0 = .ok (.aload_n 0, 1) := by decide +kernel
theorem dX10_own_1 : decode cX10_own 1 = .ok (.getfield 10, 3) := by decide +kernel
theorem dX10_own_4 : decode cX10_own 4 = .ok (.iload_n 1, 1) := by decide +kernel
theorem dX10_own_5 : decode cX10_own 5 = .ok (.invokevirtual 115, 3) := by decide +kernel
theorem dX10_own_8 : decode cX10_own 8 = .ok (.ifCond .ne 5, 3) := by decide +kernel
theorem dX10_own_11 : decode cX10_own 11 = .ok (.iconst (-1), 1) := by decide +kernel
theorem dX10_own_12 : decode cX10_own 12 = .ok (.ireturn, 1) := by decide +kernel
theorem dX10_own_13 : decode cX10_own 13 = .ok (.iload_n 2, 1) := by decide +kernel
theorem dX10_own_14 : decode cX10_own 14 = .ok (.tableswitch 105 0 4 #[34, 43, 52, 72, 81], 34) := by decide +kernel
theorem dX10_own_48 : decode cX10_own 48 = .ok (.aload_n 0, 1) := by decide +kernel
theorem dX10_own_49 : decode cX10_own 49 = .ok (.getfield 10, 3) := by decide +kernel
theorem dX10_own_52 : decode cX10_own 52 = .ok (.iload_n 1, 1) := by decide +kernel
theorem dX10_own_53 : decode cX10_own 53 = .ok (.invokevirtual 119, 3) := by decide +kernel
theorem dX10_own_56 : decode cX10_own 56 = .ok (.ireturn, 1) := by decide +kernel
theorem dX10_own_57 : decode cX10_own 57 = .ok (.aload_n 0, 1) := by decide +kernel
theorem dX10_own_58 : decode cX10_own 58 = .ok (.getfield 10, 3) := by decide +kernel
theorem dX10_own_61 : decode cX10_own 61 = .ok (.iload_n 1, 1) := by decide +kernel
theorem dX10_own_62 : decode cX10_own 62 = .ok (.invokevirtual 129, 3) := by decide +kernel
theorem dX10_own_65 : decode cX10_own 65 = .ok (.ireturn, 1) := by decide +kernel
theorem dX10_own_66 : decode cX10_own 66 = .ok (.aload_n 0, 1) := by decide +kernel
theorem dX10_own_67 : decode cX10_own 67 = .ok (.getfield 43, 3) := by decide +kernel
theorem dX10_own_70 : decode cX10_own 70 = .ok (.aload_n 0, 1) := by decide +kernel
theorem dX10_own_71 : decode cX10_own 71 = .ok (.getfield 10, 3) := by decide +kernel
theorem dX10_own_74 : decode cX10_own 74 = .ok (.invokevirtual 143, 3) := by decide +kernel
theorem dX10_own_77 : decode cX10_own 77 = .ok (.aload_n 0, 1) := by decide +kernel
theorem dX10_own_78 : decode cX10_own 78 = .ok (.getfield 43, 3) := by decide +kernel
theorem dX10_own_81 : decode cX10_own 81 = .ok (.iload_n 1, 1) := by decide +kernel
theorem dX10_own_82 : decode cX10_own 82 = .ok (.invokevirtual 146, 3) := by decide +kernel
theorem dX10_own_85 : decode cX10_own 85 = .ok (.ireturn, 1) := by decide +kernel
theorem dX10_own_86 : decode cX10_own 86 = .ok (.aload_n 0, 1) := by decide +kernel
theorem dX10_own_87 : decode cX10_own 87 = .ok (.getfield 10, 3) := by decide +kernel
theorem dX10_own_90 : decode cX10_own 90 = .ok (.iload_n 1, 1) := by decide +kernel
theorem dX10_own_91 : decode cX10_own 91 = .ok (.invokevirtual 149, 3) := by decide +kernel
theorem dX10_own_94 : decode cX10_own 94 = .ok (.ireturn, 1) := by decide +kernel
theorem dX10_own_95 : decode cX10_own 95 = .ok (.aload_n 0, 1) := by decide +kernel
theorem dX10_own_96 : decode cX10_own 96 = .ok (.getfield 36, 3) := by decide +kernel
theorem dX10_own_99 : decode cX10_own 99 = .ok (.aload_n 0, 1) := by decide +kernel
theorem dX10_own_100 : decode cX10_own 100 = .ok (.getfield 10, 3) := by decide +kernel
theorem dX10_own_103 : decode cX10_own 103 = .ok (.invokevirtual 152, 3) := by decide +kernel
theorem dX10_own_106 : decode cX10_own 106 = .ok (.aload_n 0, 1) := by decide +kernel
theorem dX10_own_107 : decode cX10_own 107 = .ok (.getfield 36, 3) := by decide +kernel
theorem dX10_own_110 : decode cX10_own 110 = .ok (.aload_n 0, 1) := by decide +kernel
theorem dX10_own_111 : decode cX10_own 111 = .ok (.getfield 10, 3) := by decide +kernel
theorem dX10_own_114 : decode cX10_own 114 = .ok (.iload_n 1, 1) := by decide +kernel
theorem dX10_own_115 : decode cX10_own 115 = .ok (.invokevirtual 155, 3) := by decide +kernel
theorem dX10_own_118 : decode cX10_own 118 = .ok (.ireturn, 1) := by decide +kernel
theorem dX10_own_119 : decode cX10_own 119 = .ok (.iconst (-1), 1) := by decide +kernel
theorem dX10_own_120 : decode cX10_own 120 = .ok (.ireturn, 1) := by decide +kernel
theorem dX10_way_0 : decode cX10_way 0 = .ok (.aload_n 0, 1) := by decide +kernel
theorem dX10_way_1 : decode cX10_way 1 = .ok (.getfield 10, 3) := by decide +kernel
theorem dX10_way_4 : decode cX10_way 4 = .ok (.iload_n 1, 1) := by decide +kernel
theorem dX10_way_5 : decode cX10_way 5 = .ok (.invokevirtual 115, 3) := by decide +kernel
theorem dX10_way_8 : decode cX10_way 8 = .ok (.ifCond .eq 7, 3) := by decide +kernel
theorem dX10_way_11 : decode cX10_way 11 = .ok (.iload_n 2, 1) := by decide +kernel
theorem dX10_way_12 : decode cX10_way 12 = .ok (.ifCond .ge 5, 3) := by decide +kernel
theorem dX10_way_15 : decode cX10_way 15 = .ok (.iconst (-1), 1) := by decide +kernel
theorem dX10_way_16 : decode cX10_way 16 = .ok (.ireturn, 1) := by decide +kernel
theorem dX10_way_17 : decode cX10_way 17 = .ok (.aload_n 0, 1) := by decide +kernel
theorem dX10_way_18 : decode cX10_way 18 = .ok (.getfield 43, 3) := by decide +kernel
theorem dX10_way_21 : decode cX10_way 21 = .ok (.aload_n 0, 1) := by decide +kernel
theorem dX10_way_22 : decode cX10_way 22 = .ok (.getfield 10, 3) := by decide +kernel
theorem dX10_way_25 : decode cX10_way 25 = .ok (.invokevirtual 143, 3) := by decide +kernel
theorem dX10_way_28 : decode cX10_way 28 = .ok (.aload_n 0, 1) := by decide +kernel
theorem dX10_way_29 : decode cX10_way 29 = .ok (.getfield 43, 3) := by decide +kernel
theorem dX10_way_32 : decode cX10_way 32 = .ok (.iload_n 1, 1) := by decide +kernel
theorem dX10_way_33 : decode cX10_way 33 = .ok (.iload_n 2, 1) := by decide +kernel
theorem dX10_way_34 : decode cX10_way 34 = .ok (.invokevirtual 159, 3) := by decide +kernel
theorem dX10_way_37 : decode cX10_way 37 = .ok (.ireturn, 1) := by decide +kernel
theorem dX10_why_0 : decode cX10_why 0 = .ok (.iload_n 1, 1) := by decide +kernel
theorem dX10_why_1 : decode cX10_why 1 = .ok (.ifCond .lt 16, 3) := by decide +kernel
theorem dX10_why_4 : decode cX10_why 4 = .ok (.iload_n 1, 1) := by decide +kernel
theorem dX10_why_5 : decode cX10_why 5 = .ok (.ldc 162, 2) := by decide +kernel
theorem dX10_why_7 : decode cX10_why 7 = .ok (.if_icmp .ge 10, 3) := by decide +kernel
theorem dX10_why_10 : decode cX10_why 10 = .ok (.iload_n 1, 1) := by decide +kernel
theorem dX10_why_11 : decode cX10_why 11 = .ok (.bipush 10, 2) := by decide +kernel
theorem dX10_why_13 : decode cX10_why 13 = .ok (.irem, 1) := by decide +kernel
theorem dX10_why_14 : decode cX10_why 14 = .ok (.ifCond .eq 5, 3) := by decide +kernel
theorem dX10_why_17 : decode cX10_why 17 = .ok (.iconst (-1), 1) := by decide +kernel
theorem dX10_why_18 : decode cX10_why 18 = .ok (.ireturn, 1) := by decide +kernel
theorem dX10_why_19 : decode cX10_why 19 = .ok (.iload_n 1, 1) := by decide +kernel
theorem dX10_why_20 : decode cX10_why 20 = .ok (.invokestatic 163, 3) := by decide +kernel
theorem dX10_why_23 : decode cX10_why 23 = .ok (.istore_n 2, 1) := by decide +kernel
theorem dX10_why_24 : decode cX10_why 24 = .ok (.iload_n 1, 1) := by decide +kernel
theorem dX10_why_25 : decode cX10_why 25 = .ok (.istore_n 3, 1) := by decide +kernel
theorem dX10_why_26 : decode cX10_why 26 = .ok (.iconst 0, 1) := by decide +kernel
theorem dX10_why_27 : decode cX10_why 27 = .ok (.istore 4, 2) := by decide +kernel
theorem dX10_why_29 : decode cX10_why 29 = .ok (.iload 4, 2) := by decide +kernel
theorem dX10_why_31 : decode cX10_why 31 = .ok (.iload_n 2, 1) := by decide +kernel
theorem dX10_why_32 : decode cX10_why 32 = .ok (.if_icmp .ge 30, 3) := by decide +kernel
theorem dX10_why_35 : decode cX10_why 35 = .ok (.iload_n 3, 1) := by decide +kernel
theorem dX10_why_36 : decode cX10_why 36 = .ok (.bipush 10, 2) := by decide +kernel
theorem dX10_why_38 : decode cX10_why 38 = .ok (.irem, 1) := by decide +kernel
theorem dX10_why_39 : decode cX10_why 39 = .ok (.aload_n 0, 1) := by decide +kernel
theorem dX10_why_40 : decode cX10_why 40 = .ok (.getfield 10, 3) := by decide +kernel
theorem dX10_why_43 : decode cX10_why 43 = .ok (.invokevirtual 135, 3) := by decide +kernel
theorem dX10_why_46 : decode cX10_why 46 = .ok (.if_icmp .lt 5, 3) := by decide +kernel
theorem dX10_why_49 : decode cX10_why 49 = .ok (.iconst (-1), 1) := by decide +kernel
theorem dX10_why_50 : decode cX10_why 50 = .ok (.ireturn, 1) := by decide +kernel
theorem dX10_why_51 : decode cX10_why 51 = .ok (.iload_n 3, 1) := by decide +kernel
theorem dX10_why_52 : decode cX10_why 52 = .ok (.bipush 10, 2) := by decide +kernel
theorem dX10_why_54 : decode cX10_why 54 = .ok (.idiv, 1) := by decide +kernel
theorem dX10_why_55 : decode cX10_why 55 = .ok (.istore_n 3, 1) := by decide +kernel
theorem dX10_why_56 : decode cX10_why 56 = .ok (.iinc 4 1, 3) := by decide +kernel
theorem dX10_why_59 : decode cX10_why 59 = .ok (.goto (-30), 3) := by decide +kernel
theorem dX10_why_62 : decode cX10_why 62 = .ok (.aload_n 0, 1) := by decide +kernel
theorem dX10_why_63 : decode cX10_why 63 = .ok (.iload_n 1, 1) := by decide +kernel
theorem dX10_why_64 : decode cX10_why 64 = .ok (.iload_n 2, 1) := by decide +kernel
theorem dX10_why_65 : decode cX10_why 65 = .ok (.invokevirtual 166, 3) := by decide +kernel
theorem dX10_why_68 : decode cX10_why 68 = .ok (.ireturn, 1) := by decide +kernel
theorem dX10_count_0 : decode cX10_count 0 = .ok (.iload_n 1, 1) := by decide +kernel
theorem dX10_count_1 : decode cX10_count 1 = .ok (.tableswitch 118 0 7 #[47, 55, 64, 73, 81, 86, 105, 110], 47) := by decide +kernel
theorem dX10_count_48 : decode cX10_count 48 = .ok (.aload_n 0, 1) := by decide +kernel
theorem dX10_count_49 : decode cX10_count 49 = .ok (.getfield 10, 3) := by decide +kernel
theorem dX10_count_52 : decode cX10_count 52 = .ok (.invokevirtual 135, 3) := by decide +kernel
theorem dX10_count_55 : decode cX10_count 55 = .ok (.ireturn, 1) := by decide +kernel
theorem dX10_count_56 : decode cX10_count 56 = .ok (.aload_n 0, 1) := by decide +kernel
theorem dX10_count_57 : decode cX10_count 57 = .ok (.getfield 10, 3) := by decide +kernel
theorem dX10_count_60 : decode cX10_count 60 = .ok (.iconst 0, 1) := by decide +kernel
theorem dX10_count_61 : decode cX10_count 61 = .ok (.invokevirtual 169, 3) := by decide +kernel
theorem dX10_count_64 : decode cX10_count 64 = .ok (.ireturn, 1) := by decide +kernel
theorem dX10_count_65 : decode cX10_count 65 = .ok (.aload_n 0, 1) := by decide +kernel
theorem dX10_count_66 : decode cX10_count 66 = .ok (.getfield 10, 3) := by decide +kernel
theorem dX10_count_69 : decode cX10_count 69 = .ok (.iconst 1, 1) := by decide +kernel
theorem dX10_count_70 : decode cX10_count 70 = .ok (.invokevirtual 169, 3) := by decide +kernel
theorem dX10_count_73 : decode cX10_count 73 = .ok (.ireturn, 1) := by decide +kernel
theorem dX10_count_74 : decode cX10_count 74 = .ok (.aload_n 0, 1) := by decide +kernel
theorem dX10_count_75 : decode cX10_count 75 = .ok (.getfield 10, 3) := by decide +kernel
theorem dX10_count_78 : decode cX10_count 78 = .ok (.invokevirtual 173, 3) := by decide +kernel
theorem dX10_count_81 : decode cX10_count 81 = .ok (.ireturn, 1) := by decide +kernel
theorem dX10_count_82 : decode cX10_count 82 = .ok (.aload_n 0, 1) := by decide +kernel
theorem dX10_count_83 : decode cX10_count 83 = .ok (.invokevirtual 176, 3) := by decide +kernel
theorem dX10_count_86 : decode cX10_count 86 = .ok (.ireturn, 1) := by decide +kernel
theorem dX10_count_87 : decode cX10_count 87 = .ok (.aload_n 0, 1) := by decide +kernel
theorem dX10_count_88 : decode cX10_count 88 = .ok (.getfield 43, 3) := by decide +kernel
theorem dX10_count_91 : decode cX10_count 91 = .ok (.aload_n 0, 1) := by decide +kernel
theorem dX10_count_92 : decode cX10_count 92 = .ok (.getfield 10, 3) := by decide +kernel
theorem dX10_count_95 : decode cX10_count 95 = .ok (.invokevirtual 143, 3) := by decide +kernel
theorem dX10_count_98 : decode cX10_count 98 = .ok (.aload_n 0, 1) := by decide +kernel
theorem dX10_count_99 : decode cX10_count 99 = .ok (.getfield 43, 3) := by decide +kernel
theorem dX10_count_102 : decode cX10_count 102 = .ok (.invokevirtual 179, 3) := by decide +kernel
theorem dX10_count_105 : decode cX10_count 105 = .ok (.ireturn, 1) := by decide +kernel
theorem dX10_count_106 : decode cX10_count 106 = .ok (.aload_n 0, 1) := by decide +kernel
theorem dX10_count_107 : decode cX10_count 107 = .ok (.invokevirtual 182, 3) := by decide +kernel
theorem dX10_count_110 : decode cX10_count 110 = .ok (.ireturn, 1) := by decide +kernel
theorem dX10_count_111 : decode cX10_count 111 = .ok (.aload_n 0, 1) := by decide +kernel
theorem dX10_count_112 : decode cX10_count 112 = .ok (.getfield 19, 3) := by decide +kernel
theorem dX10_count_115 : decode cX10_count 115 = .ok (.invokevirtual 185, 3) := by decide +kernel
theorem dX10_count_118 : decode cX10_count 118 = .ok (.ireturn, 1) := by decide +kernel
theorem dX10_count_119 : decode cX10_count 119 = .ok (.iconst (-1), 1) := by decide +kernel
theorem dX10_count_120 : decode cX10_count 120 = .ok (.ireturn, 1) := by decide +kernel
theorem dX10_type_0 : decode cX10_type 0 = .ok (.iload_n 1, 1) := by decide +kernel
theorem dX10_type_1 : decode cX10_type 1 = .ok (.bipush 32, 2) := by decide +kernel
theorem dX10_type_3 : decode cX10_type 3 = .ok (.if_icmp .lt 9, 3) := by decide +kernel
theorem dX10_type_6 : decode cX10_type 6 = .ok (.iload_n 1, 1) := by decide +kernel
theorem dX10_type_7 : decode cX10_type 7 = .ok (.bipush 126, 2) := by decide +kernel
theorem dX10_type_9 : decode cX10_type 9 = .ok (.if_icmp .le 5, 3) := by decide +kernel
theorem dX10_type_12 : decode cX10_type 12 = .ok (.iconst (-1), 1) := by decide +kernel
theorem dX10_type_13 : decode cX10_type 13 = .ok (.ireturn, 1) := by decide +kernel
theorem dX10_type_14 : decode cX10_type 14 = .ok (.aload_n 0, 1) := by decide +kernel
theorem dX10_type_15 : decode cX10_type 15 = .ok (.getfield 71, 3) := by decide +kernel
theorem dX10_type_18 : decode cX10_type 18 = .ok (.iload_n 1, 1) := by decide +kernel
theorem dX10_type_19 : decode cX10_type 19 = .ok (.invokevirtual 188, 3) := by decide +kernel
theorem dX10_type_22 : decode cX10_type 22 = .ok (.ireturn, 1) := by decide +kernel
theorem dX10_read_0 : decode cX10_read 0 = .ok (.aload_n 0, 1) := by decide +kernel
theorem dX10_read_1 : decode cX10_read 1 = .ok (.getfield 71, 3) := by decide +kernel
theorem dX10_read_4 : decode cX10_read 4 = .ok (.aload_n 0, 1) := by decide +kernel
theorem dX10_read_5 : decode cX10_read 5 = .ok (.getfield 10, 3) := by decide +kernel
theorem dX10_read_8 : decode cX10_read 8 = .ok (.invokevirtual 135, 3) := by decide +kernel
theorem dX10_read_11 : decode cX10_read 11 = .ok (.invokevirtual 191, 3) := by decide +kernel
theorem dX10_read_14 : decode cX10_read 14 = .ok (.istore_n 1, 1) := by decide +kernel
theorem dX10_read_15 : decode cX10_read 15 = .ok (.iload_n 1, 1) := by decide +kernel
theorem dX10_read_16 : decode cX10_read 16 = .ok (.ifCond .lt 25, 3) := by decide +kernel
theorem dX10_read_19 : decode cX10_read 19 = .ok (.aload_n 0, 1) := by decide +kernel
theorem dX10_read_20 : decode cX10_read 20 = .ok (.getfield 19, 3) := by decide +kernel
theorem dX10_read_23 : decode cX10_read 23 = .ok (.aload_n 0, 1) := by decide +kernel
theorem dX10_read_24 : decode cX10_read 24 = .ok (.getfield 10, 3) := by decide +kernel
theorem dX10_read_27 : decode cX10_read 27 = .ok (.invokevirtual 97, 3) := by decide +kernel
theorem dX10_read_30 : decode cX10_read 30 = .ok (.aload_n 0, 1) := by decide +kernel
theorem dX10_read_31 : decode cX10_read 31 = .ok (.getfield 71, 3) := by decide +kernel
theorem dX10_read_34 : decode cX10_read 34 = .ok (.aload_n 0, 1) := by decide +kernel
theorem dX10_read_35 : decode cX10_read 35 = .ok (.getfield 10, 3) := by decide +kernel
theorem dX10_read_38 : decode cX10_read 38 = .ok (.invokevirtual 194, 3) := by decide +kernel
theorem dX10_read_41 : decode cX10_read 41 = .ok (.aload_n 0, 1) := by decide +kernel
theorem dX10_read_42 : decode cX10_read 42 = .ok (.getfield 71, 3) := by decide +kernel
theorem dX10_read_45 : decode cX10_read 45 = .ok (.invokevirtual 197, 3) := by decide +kernel
theorem dX10_read_48 : decode cX10_read 48 = .ok (.iload_n 1, 1) := by decide +kernel
theorem dX10_read_49 : decode cX10_read 49 = .ok (.ireturn, 1) := by decide +kernel
theorem dX10_turn_0 : decode cX10_turn 0 = .ok (.aload_n 0, 1) := by decide +kernel
theorem dX10_turn_1 : decode cX10_turn 1 = .ok (.invokevirtual 176, 3) := by decide +kernel
theorem dX10_turn_4 : decode cX10_turn 4 = .ok (.ifCond .eq 14, 3) := by decide +kernel
theorem dX10_turn_7 : decode cX10_turn 7 = .ok (.aload_n 0, 1) := by decide +kernel
theorem dX10_turn_8 : decode cX10_turn 8 = .ok (.getfield 19, 3) := by decide +kernel
theorem dX10_turn_11 : decode cX10_turn 11 = .ok (.aload_n 0, 1) := by decide +kernel
theorem dX10_turn_12 : decode cX10_turn 12 = .ok (.getfield 10, 3) := by decide +kernel
theorem dX10_turn_15 : decode cX10_turn 15 = .ok (.invokevirtual 97, 3) := by decide +kernel
theorem dX10_turn_18 : decode cX10_turn 18 = .ok (.aload_n 0, 1) := by decide +kernel
theorem dX10_turn_19 : decode cX10_turn 19 = .ok (.invokevirtual 200, 3) := by decide +kernel
theorem dX10_turn_22 : decode cX10_turn 22 = .ok (.ireturn, 1) := by decide +kernel
theorem dX10_choose_0 : decode cX10_choose 0 = .ok (.aload_n 0, 1) := by decide +kernel
theorem dX10_choose_1 : decode cX10_choose 1 = .ok (.getfield 10, 3) := by decide +kernel
theorem dX10_choose_4 : decode cX10_choose 4 = .ok (.iload_n 1, 1) := by decide +kernel
theorem dX10_choose_5 : decode cX10_choose 5 = .ok (.invokevirtual 115, 3) := by decide +kernel
theorem dX10_choose_8 : decode cX10_choose 8 = .ok (.ifCond .ne 5, 3) := by decide +kernel
theorem dX10_choose_11 : decode cX10_choose 11 = .ok (.iconst (-1), 1) := by decide +kernel
theorem dX10_choose_12 : decode cX10_choose 12 = .ok (.ireturn, 1) := by decide +kernel
theorem dX10_choose_13 : decode cX10_choose 13 = .ok (.aload_n 0, 1) := by decide +kernel
theorem dX10_choose_14 : decode cX10_choose 14 = .ok (.getfield 36, 3) := by decide +kernel
theorem dX10_choose_17 : decode cX10_choose 17 = .ok (.aload_n 0, 1) := by decide +kernel
theorem dX10_choose_18 : decode cX10_choose 18 = .ok (.getfield 10, 3) := by decide +kernel
theorem dX10_choose_21 : decode cX10_choose 21 = .ok (.invokevirtual 152, 3) := by decide +kernel
theorem dX10_choose_24 : decode cX10_choose 24 = .ok (.aload_n 0, 1) := by decide +kernel
theorem dX10_choose_25 : decode cX10_choose 25 = .ok (.getfield 36, 3) := by decide +kernel
theorem dX10_choose_28 : decode cX10_choose 28 = .ok (.aload_n 0, 1) := by decide +kernel
theorem dX10_choose_29 : decode cX10_choose 29 = .ok (.getfield 10, 3) := by decide +kernel
theorem dX10_choose_32 : decode cX10_choose 32 = .ok (.iload_n 1, 1) := by decide +kernel
theorem dX10_choose_33 : decode cX10_choose 33 = .ok (.invokevirtual 155, 3) := by decide +kernel
theorem dX10_choose_36 : decode cX10_choose 36 = .ok (.aload_n 0, 1) := by decide +kernel
theorem dX10_choose_37 : decode cX10_choose 37 = .ok (.getfield 10, 3) := by decide +kernel
theorem dX10_choose_40 : decode cX10_choose 40 = .ok (.iload_n 1, 1) := by decide +kernel
theorem dX10_choose_41 : decode cX10_choose 41 = .ok (.invokevirtual 149, 3) := by decide +kernel
theorem dX10_choose_44 : decode cX10_choose 44 = .ok (.if_icmp .eq 14, 3) := by decide +kernel
theorem dX10_choose_47 : decode cX10_choose 47 = .ok (.aload_n 0, 1) := by decide +kernel
theorem dX10_choose_48 : decode cX10_choose 48 = .ok (.getfield 19, 3) := by decide +kernel
theorem dX10_choose_51 : decode cX10_choose 51 = .ok (.aload_n 0, 1) := by decide +kernel
theorem dX10_choose_52 : decode cX10_choose 52 = .ok (.getfield 10, 3) := by decide +kernel
theorem dX10_choose_55 : decode cX10_choose 55 = .ok (.invokevirtual 97, 3) := by decide +kernel
theorem dX10_choose_58 : decode cX10_choose 58 = .ok (.aload_n 0, 1) := by decide +kernel
theorem dX10_choose_59 : decode cX10_choose 59 = .ok (.iload_n 1, 1) := by decide +kernel
theorem dX10_choose_60 : decode cX10_choose 60 = .ok (.invokevirtual 203, 3) := by decide +kernel
theorem dX10_choose_63 : decode cX10_choose 63 = .ok (.ireturn, 1) := by decide +kernel
theorem dX10_rest_0 : decode cX10_rest 0 = .ok (.aload_n 0, 1) := by decide +kernel
theorem dX10_rest_1 : decode cX10_rest 1 = .ok (.invokevirtual 176, 3) := by decide +kernel
theorem dX10_rest_4 : decode cX10_rest 4 = .ok (.ifCond .ne 5, 3) := by decide +kernel
theorem dX10_rest_7 : decode cX10_rest 7 = .ok (.iconst 0, 1) := by decide +kernel
theorem dX10_rest_8 : decode cX10_rest 8 = .ok (.ireturn, 1) := by decide +kernel
theorem dX10_rest_9 : decode cX10_rest 9 = .ok (.aload_n 0, 1) := by decide +kernel
theorem dX10_rest_10 : decode cX10_rest 10 = .ok (.getfield 19, 3) := by decide +kernel
theorem dX10_rest_13 : decode cX10_rest 13 = .ok (.aload_n 0, 1) := by decide +kernel
theorem dX10_rest_14 : decode cX10_rest 14 = .ok (.getfield 10, 3) := by decide +kernel
theorem dX10_rest_17 : decode cX10_rest 17 = .ok (.invokevirtual 97, 3) := by decide +kernel
theorem dX10_rest_20 : decode cX10_rest 20 = .ok (.iconst 1, 1) := by decide +kernel
theorem dX10_rest_21 : decode cX10_rest 21 = .ok (.istore_n 1, 1) := by decide +kernel
theorem dX10_rest_22 : decode cX10_rest 22 = .ok (.iload_n 1, 1) := by decide +kernel
theorem dX10_rest_23 : decode cX10_rest 23 = .ok (.bipush 40, 2) := by decide +kernel
theorem dX10_rest_25 : decode cX10_rest 25 = .ok (.if_icmp .gt 23, 3) := by decide +kernel
theorem dX10_rest_28 : decode cX10_rest 28 = .ok (.aload_n 0, 1) := by decide +kernel
theorem dX10_rest_29 : decode cX10_rest 29 = .ok (.invokevirtual 200, 3) := by decide +kernel
theorem dX10_rest_32 : decode cX10_rest 32 = .ok (.pop, 1) := by decide +kernel
theorem dX10_rest_33 : decode cX10_rest 33 = .ok (.aload_n 0, 1) := by decide +kernel
theorem dX10_rest_34 : decode cX10_rest 34 = .ok (.invokevirtual 176, 3) := by decide +kernel
theorem dX10_rest_37 : decode cX10_rest 37 = .ok (.ifCond .ne 5, 3) := by decide +kernel
theorem dX10_rest_40 : decode cX10_rest 40 = .ok (.iload_n 1, 1) := by decide +kernel
theorem dX10_rest_41 : decode cX10_rest 41 = .ok (.ireturn, 1) := by decide +kernel
theorem dX10_rest_42 : decode cX10_rest 42 = .ok (.iinc 1 1, 3) := by decide +kernel
theorem dX10_rest_45 : decode cX10_rest 45 = .ok (.goto (-23), 3) := by decide +kernel
theorem dX10_rest_48 : decode cX10_rest 48 = .ok (.bipush (-4), 2) := by decide +kernel
theorem dX10_rest_50 : decode cX10_rest 50 = .ok (.ireturn, 1) := by decide +kernel
theorem dX10_clear_0 : decode cX10_clear 0 = .ok (.aload_n 0, 1) := by decide +kernel
theorem dX10_clear_1 : decode cX10_clear 1 = .ok (.getfield 10, 3) := by decide +kernel
theorem dX10_clear_4 : decode cX10_clear 4 = .ok (.invokevirtual 173, 3) := by decide +kernel
theorem dX10_clear_7 : decode cX10_clear 7 = .ok (.invokestatic 206, 3) := by decide +kernel
theorem dX10_clear_10 : decode cX10_clear 10 = .ok (.iconst 1, 1) := by decide +kernel
theorem dX10_clear_11 : decode cX10_clear 11 = .ok (.isub, 1) := by decide +kernel
theorem dX10_clear_12 : decode cX10_clear 12 = .ok (.istore_n 1, 1) := by decide +kernel
theorem dX10_clear_13 : decode cX10_clear 13 = .ok (.iload_n 1, 1) := by decide +kernel
theorem dX10_clear_14 : decode cX10_clear 14 = .ok (.ifCond .ne 6, 3) := by decide +kernel
theorem dX10_clear_17 : decode cX10_clear 17 = .ok (.bipush (-2), 2) := by decide +kernel
theorem dX10_clear_19 : decode cX10_clear 19 = .ok (.ireturn, 1) := by decide +kernel
theorem dX10_clear_20 : decode cX10_clear 20 = .ok (.aload_n 0, 1) := by decide +kernel
theorem dX10_clear_21 : decode cX10_clear 21 = .ok (.getfield 19, 3) := by decide +kernel
theorem dX10_clear_24 : decode cX10_clear 24 = .ok (.aload_n 0, 1) := by decide +kernel
theorem dX10_clear_25 : decode cX10_clear 25 = .ok (.getfield 10, 3) := by decide +kernel
theorem dX10_clear_28 : decode cX10_clear 28 = .ok (.invokevirtual 97, 3) := by decide +kernel
theorem dX10_clear_31 : decode cX10_clear 31 = .ok (.aload_n 0, 1) := by decide +kernel
theorem dX10_clear_32 : decode cX10_clear 32 = .ok (.getfield 10, 3) := by decide +kernel
theorem dX10_clear_35 : decode cX10_clear 35 = .ok (.invokevirtual 211, 3) := by decide +kernel
theorem dX10_clear_38 : decode cX10_clear 38 = .ok (.iload_n 1, 1) := by decide +kernel
theorem dX10_clear_39 : decode cX10_clear 39 = .ok (.ireturn, 1) := by decide +kernel
theorem dX10_foreseen_0 : decode cX10_foreseen 0 = .ok (.iload_n 1, 1) := by decide +kernel
theorem dX10_foreseen_1 : decode cX10_foreseen 1 = .ok (.ifCond .lt 8, 3) := by decide +kernel
theorem dX10_foreseen_4 : decode cX10_foreseen 4 = .ok (.iload_n 1, 1) := by decide +kernel
theorem dX10_foreseen_5 : decode cX10_foreseen 5 = .ok (.iconst 2, 1) := by decide +kernel
theorem dX10_foreseen_6 : decode cX10_foreseen 6 = .ok (.if_icmp .le 5, 3) := by decide +kernel
theorem dX10_foreseen_9 : decode cX10_foreseen 9 = .ok (.iconst (-1), 1) := by decide +kernel
theorem dX10_foreseen_10 : decode cX10_foreseen 10 = .ok (.ireturn, 1) := by decide +kernel
theorem dX10_foreseen_11 : decode cX10_foreseen 11 = .ok (.aload_n 0, 1) := by decide +kernel
theorem dX10_foreseen_12 : decode cX10_foreseen 12 = .ok (.getfield 36, 3) := by decide +kernel
theorem dX10_foreseen_15 : decode cX10_foreseen 15 = .ok (.aload_n 0, 1) := by decide +kernel
theorem dX10_foreseen_16 : decode cX10_foreseen 16 = .ok (.getfield 10, 3) := by decide +kernel
theorem dX10_foreseen_19 : decode cX10_foreseen 19 = .ok (.invokevirtual 152, 3) := by decide +kernel
theorem dX10_foreseen_22 : decode cX10_foreseen 22 = .ok (.aload_n 0, 1) := by decide +kernel
theorem dX10_foreseen_23 : decode cX10_foreseen 23 = .ok (.getfield 64, 3) := by decide +kernel
theorem dX10_foreseen_26 : decode cX10_foreseen 26 = .ok (.aload_n 0, 1) := by decide +kernel
theorem dX10_foreseen_27 : decode cX10_foreseen 27 = .ok (.getfield 10, 3) := by decide +kernel
theorem dX10_foreseen_30 : decode cX10_foreseen 30 = .ok (.aload_n 0, 1) := by decide +kernel
theorem dX10_foreseen_31 : decode cX10_foreseen 31 = .ok (.getfield 36, 3) := by decide +kernel
theorem dX10_foreseen_34 : decode cX10_foreseen 34 = .ok (.invokevirtual 214, 3) := by decide +kernel
theorem dX10_foreseen_37 : decode cX10_foreseen 37 = .ok (.iload_n 1, 1) := by decide +kernel
theorem dX10_foreseen_38 : decode cX10_foreseen 38 = .ok (.iconst 1, 1) := by decide +kernel
theorem dX10_foreseen_39 : decode cX10_foreseen 39 = .ok (.if_icmp .ne 11, 3) := by decide +kernel
theorem dX10_foreseen_42 : decode cX10_foreseen 42 = .ok (.aload_n 0, 1) := by decide +kernel
theorem dX10_foreseen_43 : decode cX10_foreseen 43 = .ok (.getfield 64, 3) := by decide +kernel
theorem dX10_foreseen_46 : decode cX10_foreseen 46 = .ok (.getfield 218, 3) := by decide +kernel
theorem dX10_foreseen_49 : decode cX10_foreseen 49 = .ok (.ireturn, 1) := by decide +kernel
theorem dX10_foreseen_50 : decode cX10_foreseen 50 = .ok (.iload_n 1, 1) := by decide +kernel
theorem dX10_foreseen_51 : decode cX10_foreseen 51 = .ok (.ifCond .ne 17, 3) := by decide +kernel
theorem dX10_foreseen_54 : decode cX10_foreseen 54 = .ok (.aload_n 0, 1) := by decide +kernel
theorem dX10_foreseen_55 : decode cX10_foreseen 55 = .ok (.getfield 64, 3) := by decide +kernel
theorem dX10_foreseen_58 : decode cX10_foreseen 58 = .ok (.getfield 218, 3) := by decide +kernel
theorem dX10_foreseen_61 : decode cX10_foreseen 61 = .ok (.iconst 1, 1) := by decide +kernel
theorem dX10_foreseen_62 : decode cX10_foreseen 62 = .ok (.if_icmp .eq 6, 3) := by decide +kernel
theorem dX10_foreseen_65 : decode cX10_foreseen 65 = .ok (.bipush (-4), 2) := by decide +kernel
theorem dX10_foreseen_67 : decode cX10_foreseen 67 = .ok (.ireturn, 1) := by decide +kernel
theorem dX10_foreseen_68 : decode cX10_foreseen 68 = .ok (.aload_n 0, 1) := by decide +kernel
theorem dX10_foreseen_69 : decode cX10_foreseen 69 = .ok (.getfield 64, 3) := by decide +kernel
theorem dX10_foreseen_72 : decode cX10_foreseen 72 = .ok (.getfield 222, 3) := by decide +kernel
theorem dX10_foreseen_75 : decode cX10_foreseen 75 = .ok (.ireturn, 1) := by decide +kernel
theorem dX10_stable_0 : decode cX10_stable 0 = .ok (.iload_n 1, 1) := by decide +kernel
theorem dX10_stable_1 : decode cX10_stable 1 = .ok (.ifCond .lt 14, 3) := by decide +kernel
theorem dX10_stable_4 : decode cX10_stable 4 = .ok (.aload_n 0, 1) := by decide +kernel
theorem dX10_stable_5 : decode cX10_stable 5 = .ok (.getfield 10, 3) := by decide +kernel
theorem dX10_stable_8 : decode cX10_stable 8 = .ok (.iload_n 2, 1) := by decide +kernel
theorem dX10_stable_9 : decode cX10_stable 9 = .ok (.invokevirtual 115, 3) := by decide +kernel
theorem dX10_stable_12 : decode cX10_stable 12 = .ok (.ifCond .ne 5, 3) := by decide +kernel
theorem dX10_stable_15 : decode cX10_stable 15 = .ok (.iconst (-1), 1) := by decide +kernel
theorem dX10_stable_16 : decode cX10_stable 16 = .ok (.ireturn, 1) := by decide +kernel
theorem dX10_stable_17 : decode cX10_stable 17 = .ok (.iload_n 1, 1) := by decide +kernel
theorem dX10_stable_18 : decode cX10_stable 18 = .ok (.aload_n 0, 1) := by decide +kernel
theorem dX10_stable_19 : decode cX10_stable 19 = .ok (.invokevirtual 182, 3) := by decide +kernel
theorem dX10_stable_22 : decode cX10_stable 22 = .ok (.if_icmp .lt 6, 3) := by decide +kernel
theorem dX10_stable_25 : decode cX10_stable 25 = .ok (.bipush (-2), 2) := by decide +kernel
theorem dX10_stable_27 : decode cX10_stable 27 = .ok (.ireturn, 1) := by decide +kernel
theorem dX10_stable_28 : decode cX10_stable 28 = .ok (.aload_n 0, 1) := by decide +kernel
theorem dX10_stable_29 : decode cX10_stable 29 = .ok (.getfield 57, 3) := by decide +kernel
theorem dX10_stable_32 : decode cX10_stable 32 = .ok (.iload_n 1, 1) := by decide +kernel
theorem dX10_stable_33 : decode cX10_stable 33 = .ok (.aload_n 0, 1) := by decide +kernel
theorem dX10_stable_34 : decode cX10_stable 34 = .ok (.getfield 10, 3) := by decide +kernel
theorem dX10_stable_37 : decode cX10_stable 37 = .ok (.invokevirtual 135, 3) := by decide +kernel
theorem dX10_stable_40 : decode cX10_stable 40 = .ok (.aload_n 0, 1) := by decide +kernel
theorem dX10_stable_41 : decode cX10_stable 41 = .ok (.getfield 82, 3) := by decide +kernel
theorem dX10_stable_44 : decode cX10_stable 44 = .ok (.invokevirtual 225, 3) := by decide +kernel
theorem dX10_stable_47 : decode cX10_stable 47 = .ok (.aload_n 0, 1) := by decide +kernel
theorem dX10_stable_48 : decode cX10_stable 48 = .ok (.getfield 36, 3) := by decide +kernel
theorem dX10_stable_51 : decode cX10_stable 51 = .ok (.aload_n 0, 1) := by decide +kernel
theorem dX10_stable_52 : decode cX10_stable 52 = .ok (.getfield 82, 3) := by decide +kernel
theorem dX10_stable_55 : decode cX10_stable 55 = .ok (.aload_n 0, 1) := by decide +kernel
theorem dX10_stable_56 : decode cX10_stable 56 = .ok (.getfield 10, 3) := by decide +kernel
theorem dX10_stable_59 : decode cX10_stable 59 = .ok (.invokevirtual 135, 3) := by decide +kernel
theorem dX10_stable_62 : decode cX10_stable 62 = .ok (.invokevirtual 229, 3) := by decide +kernel
theorem dX10_stable_65 : decode cX10_stable 65 = .ok (.aload_n 0, 1) := by decide +kernel
theorem dX10_stable_66 : decode cX10_stable 66 = .ok (.getfield 36, 3) := by decide +kernel
theorem dX10_stable_69 : decode cX10_stable 69 = .ok (.iload_n 2, 1) := by decide +kernel
theorem dX10_stable_70 : decode cX10_stable 70 = .ok (.invokevirtual 233, 3) := by decide +kernel
theorem dX10_stable_73 : decode cX10_stable 73 = .ok (.ireturn, 1) := by decide +kernel
theorem dX10_ring_0 : decode cX10_ring 0 = .ok (.iload_n 1, 1) := by decide +kernel
theorem dX10_ring_1 : decode cX10_ring 1 = .ok (.ifCond .lt 8, 3) := by decide +kernel
theorem dX10_ring_4 : decode cX10_ring 4 = .ok (.iload_n 1, 1) := by decide +kernel
theorem dX10_ring_5 : decode cX10_ring 5 = .ok (.iconst 3, 1) := by decide +kernel
theorem dX10_ring_6 : decode cX10_ring 6 = .ok (.if_icmp .le 5, 3) := by decide +kernel
theorem dX10_ring_9 : decode cX10_ring 9 = .ok (.iconst (-1), 1) := by decide +kernel
theorem dX10_ring_10 : decode cX10_ring 10 = .ok (.ireturn, 1) := by decide +kernel
theorem dX10_ring_11 : decode cX10_ring 11 = .ok (.aload_n 0, 1) := by decide +kernel
theorem dX10_ring_12 : decode cX10_ring 12 = .ok (.getfield 43, 3) := by decide +kernel
theorem dX10_ring_15 : decode cX10_ring 15 = .ok (.aload_n 0, 1) := by decide +kernel
theorem dX10_ring_16 : decode cX10_ring 16 = .ok (.getfield 10, 3) := by decide +kernel
theorem dX10_ring_19 : decode cX10_ring 19 = .ok (.invokevirtual 143, 3) := by decide +kernel
theorem dX10_ring_22 : decode cX10_ring 22 = .ok (.aload_n 0, 1) := by decide +kernel
theorem dX10_ring_23 : decode cX10_ring 23 = .ok (.getfield 50, 3) := by decide +kernel
theorem dX10_ring_26 : decode cX10_ring 26 = .ok (.aload_n 0, 1) := by decide +kernel
theorem dX10_ring_27 : decode cX10_ring 27 = .ok (.getfield 10, 3) := by decide +kernel
theorem dX10_ring_30 : decode cX10_ring 30 = .ok (.aload_n 0, 1) := by decide +kernel
theorem dX10_ring_31 : decode cX10_ring 31 = .ok (.getfield 43, 3) := by decide +kernel
theorem dX10_ring_34 : decode cX10_ring 34 = .ok (.invokevirtual 236, 3) := by decide +kernel
theorem dX10_ring_37 : decode cX10_ring 37 = .ok (.iload_n 1, 1) := by decide +kernel
theorem dX10_ring_38 : decode cX10_ring 38 = .ok (.tableswitch 73 0 2 #[26, 42, 65], 26) := by decide +kernel
theorem dX10_ring_64 : decode cX10_ring 64 = .ok (.aload_n 0, 1) := by decide +kernel
theorem dX10_ring_65 : decode cX10_ring 65 = .ok (.getfield 50, 3) := by decide +kernel
theorem dX10_ring_68 : decode cX10_ring 68 = .ok (.getfield 239, 3) := by decide +kernel
theorem dX10_ring_71 : decode cX10_ring 71 = .ok (.ifCond .le 7, 3) := by decide +kernel
theorem dX10_ring_74 : decode cX10_ring 74 = .ok (.iconst 1, 1) := by decide +kernel
theorem dX10_ring_75 : decode cX10_ring 75 = .ok (.goto 4, 3) := by decide +kernel
theorem dX10_ring_78 : decode cX10_ring 78 = .ok (.iconst 0, 1) := by decide +kernel
theorem dX10_ring_79 : decode cX10_ring 79 = .ok (.ireturn, 1) := by decide +kernel
theorem dX10_ring_80 : decode cX10_ring 80 = .ok (.aload_n 0, 1) := by decide +kernel
theorem dX10_ring_81 : decode cX10_ring 81 = .ok (.getfield 50, 3) := by decide +kernel
theorem dX10_ring_84 : decode cX10_ring 84 = .ok (.getfield 239, 3) := by decide +kernel
theorem dX10_ring_87 : decode cX10_ring 87 = .ok (.ifCond .le 13, 3) := by decide +kernel
theorem dX10_ring_90 : decode cX10_ring 90 = .ok (.aload_n 0, 1) := by decide +kernel
theorem dX10_ring_91 : decode cX10_ring 91 = .ok (.getfield 50, 3) := by decide +kernel
theorem dX10_ring_94 : decode cX10_ring 94 = .ok (.getfield 239, 3) := by decide +kernel
theorem dX10_ring_97 : decode cX10_ring 97 = .ok (.goto 5, 3) := by decide +kernel
theorem dX10_ring_100 : decode cX10_ring 100 = .ok (.bipush (-4), 2) := by decide +kernel
theorem dX10_ring_102 : decode cX10_ring 102 = .ok (.ireturn, 1) := by decide +kernel
theorem dX10_ring_103 : decode cX10_ring 103 = .ok (.aload_n 0, 1) := by decide +kernel
theorem dX10_ring_104 : decode cX10_ring 104 = .ok (.getfield 50, 3) := by decide +kernel
theorem dX10_ring_107 : decode cX10_ring 107 = .ok (.getfield 242, 3) := by decide +kernel
theorem dX10_ring_110 : decode cX10_ring 110 = .ok (.ireturn, 1) := by decide +kernel
theorem dX10_ring_111 : decode cX10_ring 111 = .ok (.aload_n 0, 1) := by decide +kernel
theorem dX10_ring_112 : decode cX10_ring 112 = .ok (.getfield 50, 3) := by decide +kernel
theorem dX10_ring_115 : decode cX10_ring 115 = .ok (.getfield 245, 3) := by decide +kernel
theorem dX10_ring_118 : decode cX10_ring 118 = .ok (.ireturn, 1) := by decide +kernel
theorem dX10_fail_0 : decode cX10_fail 0 = .ok (.aload_n 0, 1) := by decide +kernel
theorem dX10_fail_1 : decode cX10_fail 1 = .ok (.getfield 10, 3) := by decide +kernel
theorem dX10_fail_4 : decode cX10_fail 4 = .ok (.iload_n 1, 1) := by decide +kernel
theorem dX10_fail_5 : decode cX10_fail 5 = .ok (.invokevirtual 115, 3) := by decide +kernel
theorem dX10_fail_8 : decode cX10_fail 8 = .ok (.ifCond .eq 22, 3) := by decide +kernel
theorem dX10_fail_11 : decode cX10_fail 11 = .ok (.iload_n 2, 1) := by decide +kernel
theorem dX10_fail_12 : decode cX10_fail 12 = .ok (.ifCond .lt 18, 3) := by decide +kernel
theorem dX10_fail_15 : decode cX10_fail 15 = .ok (.iload_n 2, 1) := by decide +kernel
theorem dX10_fail_16 : decode cX10_fail 16 = .ok (.bipush 10, 2) := by decide +kernel
theorem dX10_fail_18 : decode cX10_fail 18 = .ok (.if_icmp .gt 12, 3) := by decide +kernel
theorem dX10_fail_21 : decode cX10_fail 21 = .ok (.iload_n 3, 1) := by decide +kernel
theorem dX10_fail_22 : decode cX10_fail 22 = .ok (.ifCond .lt 8, 3) := by decide +kernel
theorem dX10_fail_25 : decode cX10_fail 25 = .ok (.iload_n 3, 1) := by decide +kernel
theorem dX10_fail_26 : decode cX10_fail 26 = .ok (.iconst 1, 1) := by decide +kernel
theorem dX10_fail_27 : decode cX10_fail 27 = .ok (.if_icmp .le 7, 3) := by decide +kernel
theorem dX10_fail_30 : decode cX10_fail 30 = .ok (.ldc2_w 248, 3) := by decide +kernel
theorem dX10_fail_33 : decode cX10_fail 33 = .ok (.lreturn, 1) := by decide +kernel
theorem dX10_fail_34 : decode cX10_fail 34 = .ok (.aload_n 0, 1) := by decide +kernel
theorem dX10_fail_35 : decode cX10_fail 35 = .ok (.getfield 43, 3) := by decide +kernel
theorem dX10_fail_38 : decode cX10_fail 38 = .ok (.aload_n 0, 1) := by decide +kernel
theorem dX10_fail_39 : decode cX10_fail 39 = .ok (.getfield 10, 3) := by decide +kernel
theorem dX10_fail_42 : decode cX10_fail 42 = .ok (.invokevirtual 143, 3) := by decide +kernel
theorem dX10_fail_45 : decode cX10_fail 45 = .ok (.aload_n 0, 1) := by decide +kernel
theorem dX10_fail_46 : decode cX10_fail 46 = .ok (.getfield 43, 3) := by decide +kernel
theorem dX10_fail_49 : decode cX10_fail 49 = .ok (.iload_n 1, 1) := by decide +kernel
theorem dX10_fail_50 : decode cX10_fail 50 = .ok (.iload_n 2, 1) := by decide +kernel
theorem dX10_fail_51 : decode cX10_fail 51 = .ok (.iconst 0, 1) := by decide +kernel
theorem dX10_fail_52 : decode cX10_fail 52 = .ok (.iconst 0, 1) := by decide +kernel
theorem dX10_fail_53 : decode cX10_fail 53 = .ok (.bipush 15, 2) := by decide +kernel
theorem dX10_fail_55 : decode cX10_fail 55 = .ok (.invokestatic 252, 3) := by decide +kernel
theorem dX10_fail_58 : decode cX10_fail 58 = .ok (.lstore 4, 2) := by decide +kernel
theorem dX10_fail_60 : decode cX10_fail 60 = .ok (.bipush 15, 2) := by decide +kernel
theorem dX10_fail_62 : decode cX10_fail 62 = .ok (.invokestatic 256, 3) := by decide +kernel
theorem dX10_fail_65 : decode cX10_fail 65 = .ok (.lstore 6, 2) := by decide +kernel
theorem dX10_fail_67 : decode cX10_fail 67 = .ok (.lload 4, 2) := by decide +kernel
theorem dX10_fail_69 : decode cX10_fail 69 = .ok (.lload 6, 2) := by decide +kernel
theorem dX10_fail_71 : decode cX10_fail 71 = .ok (.invokestatic 260, 3) := by decide +kernel
theorem dX10_fail_74 : decode cX10_fail 74 = .ok (.lstore 8, 2) := by decide +kernel
theorem dX10_fail_76 : decode cX10_fail 76 = .ok (.lload 8, 2) := by decide +kernel
theorem dX10_fail_78 : decode cX10_fail 78 = .ok (.lconst 1, 1) := by decide +kernel
theorem dX10_fail_79 : decode cX10_fail 79 = .ok (.lcmp, 1) := by decide +kernel
theorem dX10_fail_80 : decode cX10_fail 80 = .ok (.ifCond .ge 7, 3) := by decide +kernel
theorem dX10_fail_83 : decode cX10_fail 83 = .ok (.ldc2_w 248, 3) := by decide +kernel
theorem dX10_fail_86 : decode cX10_fail 86 = .ok (.lreturn, 1) := by decide +kernel
theorem dX10_fail_87 : decode cX10_fail 87 = .ok (.iload_n 3, 1) := by decide +kernel
theorem dX10_fail_88 : decode cX10_fail 88 = .ok (.ifCond .ne 8, 3) := by decide +kernel
theorem dX10_fail_91 : decode cX10_fail 91 = .ok (.lload 4, 2) := by decide +kernel
theorem dX10_fail_93 : decode cX10_fail 93 = .ok (.goto 5, 3) := by decide +kernel
theorem dX10_fail_96 : decode cX10_fail 96 = .ok (.lload 6, 2) := by decide +kernel
theorem dX10_fail_98 : decode cX10_fail 98 = .ok (.lload 8, 2) := by decide +kernel
theorem dX10_fail_100 : decode cX10_fail 100 = .ok (.ldiv, 1) := by decide +kernel
theorem dX10_fail_101 : decode cX10_fail 101 = .ok (.lreturn, 1) := by decide +kernel
theorem dX10_seen_0 : decode cX10_seen 0 = .ok (.aload_n 0, 1) := by decide +kernel
theorem dX10_seen_1 : decode cX10_seen 1 = .ok (.getfield 10, 3) := by decide +kernel
theorem dX10_seen_4 : decode cX10_seen 4 = .ok (.iload_n 1, 1) := by decide +kernel
theorem dX10_seen_5 : decode cX10_seen 5 = .ok (.invokevirtual 115, 3) := by decide +kernel
theorem dX10_seen_8 : decode cX10_seen 8 = .ok (.ifCond .ne 5, 3) := by decide +kernel
theorem dX10_seen_11 : decode cX10_seen 11 = .ok (.iconst (-1), 1) := by decide +kernel
theorem dX10_seen_12 : decode cX10_seen 12 = .ok (.ireturn, 1) := by decide +kernel
theorem dX10_seen_13 : decode cX10_seen 13 = .ok (.aload_n 0, 1) := by decide +kernel
theorem dX10_seen_14 : decode cX10_seen 14 = .ok (.getfield 10, 3) := by decide +kernel
theorem dX10_seen_17 : decode cX10_seen 17 = .ok (.iload_n 1, 1) := by decide +kernel
theorem dX10_seen_18 : decode cX10_seen 18 = .ok (.invokevirtual 119, 3) := by decide +kernel
theorem dX10_seen_21 : decode cX10_seen 21 = .ok (.istore_n 2, 1) := by decide +kernel
theorem dX10_seen_22 : decode cX10_seen 22 = .ok (.iconst 0, 1) := by decide +kernel
theorem dX10_seen_23 : decode cX10_seen 23 = .ok (.istore_n 3, 1) := by decide +kernel
theorem dX10_seen_24 : decode cX10_seen 24 = .ok (.iconst 0, 1) := by decide +kernel
theorem dX10_seen_25 : decode cX10_seen 25 = .ok (.istore 4, 2) := by decide +kernel
theorem dX10_seen_27 : decode cX10_seen 27 = .ok (.iload 4, 2) := by decide +kernel
theorem dX10_seen_29 : decode cX10_seen 29 = .ok (.iconst 3, 1) := by decide +kernel
theorem dX10_seen_30 : decode cX10_seen 30 = .ok (.if_icmp .gt 33, 3) := by decide +kernel
theorem dX10_seen_33 : decode cX10_seen 33 = .ok (.aload_n 0, 1) := by decide +kernel
theorem dX10_seen_34 : decode cX10_seen 34 = .ok (.getfield 10, 3) := by decide +kernel
theorem dX10_seen_37 : decode cX10_seen 37 = .ok (.iload_n 1, 1) := by decide +kernel
theorem dX10_seen_38 : decode cX10_seen 38 = .ok (.iload 4, 2) := by decide +kernel
theorem dX10_seen_40 : decode cX10_seen 40 = .ok (.invokevirtual 123, 3) := by decide +kernel
theorem dX10_seen_43 : decode cX10_seen 43 = .ok (.aload_n 0, 1) := by decide +kernel
theorem dX10_seen_44 : decode cX10_seen 44 = .ok (.invokevirtual 176, 3) := by decide +kernel
theorem dX10_seen_47 : decode cX10_seen 47 = .ok (.ifCond .ne 10, 3) := by decide +kernel
theorem dX10_seen_50 : decode cX10_seen 50 = .ok (.iload_n 3, 1) := by decide +kernel
theorem dX10_seen_51 : decode cX10_seen 51 = .ok (.iconst 1, 1) := by decide +kernel
theorem dX10_seen_52 : decode cX10_seen 52 = .ok (.iload 4, 2) := by decide +kernel
theorem dX10_seen_54 : decode cX10_seen 54 = .ok (.ishl, 1) := by decide +kernel
theorem dX10_seen_55 : decode cX10_seen 55 = .ok (.ior, 1) := by decide +kernel
theorem dX10_seen_56 : decode cX10_seen 56 = .ok (.istore_n 3, 1) := by decide +kernel
theorem dX10_seen_57 : decode cX10_seen 57 = .ok (.iinc 4 1, 3) := by decide +kernel
theorem dX10_seen_60 : decode cX10_seen 60 = .ok (.goto (-33), 3) := by decide +kernel
theorem dX10_seen_63 : decode cX10_seen 63 = .ok (.aload_n 0, 1) := by decide +kernel
theorem dX10_seen_64 : decode cX10_seen 64 = .ok (.getfield 10, 3) := by decide +kernel
theorem dX10_seen_67 : decode cX10_seen 67 = .ok (.iload_n 1, 1) := by decide +kernel
theorem dX10_seen_68 : decode cX10_seen 68 = .ok (.iload_n 2, 1) := by decide +kernel
theorem dX10_seen_69 : decode cX10_seen 69 = .ok (.invokevirtual 123, 3) := by decide +kernel
theorem dX10_seen_72 : decode cX10_seen 72 = .ok (.iload_n 3, 1) := by decide +kernel
theorem dX10_seen_73 : decode cX10_seen 73 = .ok (.ireturn, 1) := by decide +kernel
theorem dX10_drift_0 : decode cX10_drift 0 = .ok (.iload_n 1, 1) := by decide +kernel
theorem dX10_drift_1 : decode cX10_drift 1 = .ok (.iconst 1, 1) := by decide +kernel
theorem dX10_drift_2 : decode cX10_drift 2 = .ok (.if_icmp .lt 9, 3) := by decide +kernel
theorem dX10_drift_5 : decode cX10_drift 5 = .ok (.iload_n 1, 1) := by decide +kernel
theorem dX10_drift_6 : decode cX10_drift 6 = .ok (.bipush 40, 2) := by decide +kernel
theorem dX10_drift_8 : decode cX10_drift 8 = .ok (.if_icmp .le 5, 3) := by decide +kernel
theorem dX10_drift_11 : decode cX10_drift 11 = .ok (.iconst (-1), 1) := by decide +kernel
theorem dX10_drift_12 : decode cX10_drift 12 = .ok (.ireturn, 1) := by decide +kernel
theorem dX10_drift_13 : decode cX10_drift 13 = .ok (.iconst 0, 1) := by decide +kernel
theorem dX10_drift_14 : decode cX10_drift 14 = .ok (.istore_n 2, 1) := by decide +kernel
theorem dX10_drift_15 : decode cX10_drift 15 = .ok (.iload_n 2, 1) := by decide +kernel
theorem dX10_drift_16 : decode cX10_drift 16 = .ok (.iload_n 1, 1) := by decide +kernel
theorem dX10_drift_17 : decode cX10_drift 17 = .ok (.if_icmp .ge 24, 3) := by decide +kernel
theorem dX10_drift_20 : decode cX10_drift 20 = .ok (.aload_n 0, 1) := by decide +kernel
theorem dX10_drift_21 : decode cX10_drift 21 = .ok (.getfield 19, 3) := by decide +kernel
theorem dX10_drift_24 : decode cX10_drift 24 = .ok (.aload_n 0, 1) := by decide +kernel
theorem dX10_drift_25 : decode cX10_drift 25 = .ok (.getfield 10, 3) := by decide +kernel
theorem dX10_drift_28 : decode cX10_drift 28 = .ok (.invokevirtual 97, 3) := by decide +kernel
theorem dX10_drift_31 : decode cX10_drift 31 = .ok (.aload_n 0, 1) := by decide +kernel
theorem dX10_drift_32 : decode cX10_drift 32 = .ok (.invokevirtual 264, 3) := by decide +kernel
theorem dX10_drift_35 : decode cX10_drift 35 = .ok (.iinc 2 1, 3) := by decide +kernel
theorem dX10_drift_38 : decode cX10_drift 38 = .ok (.goto (-23), 3) := by decide +kernel
theorem dX10_drift_41 : decode cX10_drift 41 = .ok (.aload_n 0, 1) := by decide +kernel
theorem dX10_drift_42 : decode cX10_drift 42 = .ok (.getfield 10, 3) := by decide +kernel
theorem dX10_drift_45 : decode cX10_drift 45 = .ok (.invokevirtual 173, 3) := by decide +kernel
theorem dX10_drift_48 : decode cX10_drift 48 = .ok (.ireturn, 1) := by decide +kernel
theorem dX10_undo_0 : decode cX10_undo 0 = .ok (.aload_n 0, 1) := by decide +kernel
theorem dX10_undo_1 : decode cX10_undo 1 = .ok (.getfield 19, 3) := by decide +kernel
theorem dX10_undo_4 : decode cX10_undo 4 = .ok (.invokevirtual 185, 3) := by decide +kernel
theorem dX10_undo_7 : decode cX10_undo 7 = .ok (.ifCond .ne 6, 3) := by decide +kernel
theorem dX10_undo_10 : decode cX10_undo 10 = .ok (.bipush (-4), 2) := by decide +kernel
theorem dX10_undo_12 : decode cX10_undo 12 = .ok (.ireturn, 1) := by decide +kernel
theorem dX10_undo_13 : decode cX10_undo 13 = .ok (.aload_n 0, 1) := by decide +kernel
theorem dX10_undo_14 : decode cX10_undo 14 = .ok (.getfield 19, 3) := by decide +kernel
theorem dX10_undo_17 : decode cX10_undo 17 = .ok (.aload_n 0, 1) := by decide +kernel
theorem dX10_undo_18 : decode cX10_undo 18 = .ok (.getfield 10, 3) := by decide +kernel
theorem dX10_undo_21 : decode cX10_undo 21 = .ok (.invokevirtual 267, 3) := by decide +kernel
theorem dX10_undo_24 : decode cX10_undo 24 = .ok (.aload_n 0, 1) := by decide +kernel
theorem dX10_undo_25 : decode cX10_undo 25 = .ok (.getfield 19, 3) := by decide +kernel
theorem dX10_undo_28 : decode cX10_undo 28 = .ok (.invokevirtual 185, 3) := by decide +kernel
theorem dX10_undo_31 : decode cX10_undo 31 = .ok (.ireturn, 1) := by decide +kernel
theorem dX10_seed_0 : decode cX10_seed 0 = .ok (.iload_n 1, 1) := by decide +kernel
theorem dX10_seed_1 : decode cX10_seed 1 = .ok (.ifCond .ge 5, 3) := by decide +kernel
theorem dX10_seed_4 : decode cX10_seed 4 = .ok (.iconst (-1), 1) := by decide +kernel
theorem dX10_seed_5 : decode cX10_seed 5 = .ok (.ireturn, 1) := by decide +kernel
theorem dX10_seed_6 : decode cX10_seed 6 = .ok (.aload_n 0, 1) := by decide +kernel
theorem dX10_seed_7 : decode cX10_seed 7 = .ok (.getfield 10, 3) := by decide +kernel
theorem dX10_seed_10 : decode cX10_seed 10 = .ok (.invokevirtual 270, 3) := by decide +kernel
theorem dX10_seed_13 : decode cX10_seed 13 = .ok (.istore_n 2, 1) := by decide +kernel
theorem dX10_seed_14 : decode cX10_seed 14 = .ok (.aload_n 0, 1) := by decide +kernel
theorem dX10_seed_15 : decode cX10_seed 15 = .ok (.getfield 10, 3) := by decide +kernel
theorem dX10_seed_18 : decode cX10_seed 18 = .ok (.iload_n 1, 1) := by decide +kernel
theorem dX10_seed_19 : decode cX10_seed 19 = .ok (.invokevirtual 273, 3) := by decide +kernel
theorem dX10_seed_22 : decode cX10_seed 22 = .ok (.iload_n 2, 1) := by decide +kernel
theorem dX10_seed_23 : decode cX10_seed 23 = .ok (.ireturn, 1) := by decide +kernel
theorem dX10_image_0 : decode cX10_image 0 = .ok (.aload_n 0, 1) := by decide +kernel
theorem dX10_image_1 : decode cX10_image 1 = .ok (.getfield 23, 3) := by decide +kernel
theorem dX10_image_4 : decode cX10_image 4 = .ok (.aload_n 0, 1) := by decide +kernel
theorem dX10_image_5 : decode cX10_image 5 = .ok (.getfield 10, 3) := by decide +kernel
theorem dX10_image_8 : decode cX10_image 8 = .ok (.invokevirtual 276, 3) := by decide +kernel
theorem dX10_image_11 : decode cX10_image 11 = .ok (.aload_n 0, 1) := by decide +kernel
theorem dX10_image_12 : decode cX10_image 12 = .ok (.getfield 26, 3) := by decide +kernel
theorem dX10_image_15 : decode cX10_image 15 = .ok (.aload_n 0, 1) := by decide +kernel
theorem dX10_image_16 : decode cX10_image 16 = .ok (.getfield 19, 3) := by decide +kernel
theorem dX10_image_19 : decode cX10_image 19 = .ok (.invokevirtual 279, 3) := by decide +kernel
theorem dX10_image_22 : decode cX10_image 22 = .ok (.aload_n 0, 1) := by decide +kernel
theorem dX10_image_23 : decode cX10_image 23 = .ok (.iconst 1, 1) := by decide +kernel
theorem dX10_image_24 : decode cX10_image 24 = .ok (.putfield 29, 3) := by decide +kernel
theorem dX10_image_27 : decode cX10_image 27 = .ok (.iconst 1, 1) := by decide +kernel
theorem dX10_image_28 : decode cX10_image 28 = .ok (.ireturn, 1) := by decide +kernel
theorem dX10_restore_0 : decode cX10_restore 0 = .ok (.aload_n 0, 1) := by decide +kernel
theorem dX10_restore_1 : decode cX10_restore 1 = .ok (.getfield 29, 3) := by decide +kernel
theorem dX10_restore_4 : decode cX10_restore 4 = .ok (.ifCond .ne 6, 3) := by decide +kernel
theorem dX10_restore_7 : decode cX10_restore 7 = .ok (.bipush (-4), 2) := by decide +kernel
theorem dX10_restore_9 : decode cX10_restore 9 = .ok (.ireturn, 1) := by decide +kernel
theorem dX10_restore_10 : decode cX10_restore 10 = .ok (.aload_n 0, 1) := by decide +kernel
theorem dX10_restore_11 : decode cX10_restore 11 = .ok (.getfield 10, 3) := by decide +kernel
theorem dX10_restore_14 : decode cX10_restore 14 = .ok (.aload_n 0, 1) := by decide +kernel
theorem dX10_restore_15 : decode cX10_restore 15 = .ok (.getfield 23, 3) := by decide +kernel
theorem dX10_restore_18 : decode cX10_restore 18 = .ok (.invokevirtual 276, 3) := by decide +kernel
theorem dX10_restore_21 : decode cX10_restore 21 = .ok (.aload_n 0, 1) := by decide +kernel
theorem dX10_restore_22 : decode cX10_restore 22 = .ok (.getfield 19, 3) := by decide +kernel
theorem dX10_restore_25 : decode cX10_restore 25 = .ok (.aload_n 0, 1) := by decide +kernel
theorem dX10_restore_26 : decode cX10_restore 26 = .ok (.getfield 26, 3) := by decide +kernel
theorem dX10_restore_29 : decode cX10_restore 29 = .ok (.invokevirtual 279, 3) := by decide +kernel
theorem dX10_restore_32 : decode cX10_restore 32 = .ok (.iconst 1, 1) := by decide +kernel
theorem dX10_restore_33 : decode cX10_restore 33 = .ok (.ireturn, 1) := by decide +kernel
theorem dX10_tried_0 : decode cX10_tried 0 = .ok (.aload_n 0, 1) := by decide +kernel
theorem dX10_tried_1 : decode cX10_tried 1 = .ok (.getfield 10, 3) := by decide +kernel
theorem dX10_tried_4 : decode cX10_tried 4 = .ok (.invokevirtual 135, 3) := by decide +kernel
theorem dX10_tried_7 : decode cX10_tried 7 = .ok (.istore 4, 2) := by decide +kernel
theorem dX10_tried_9 : decode cX10_tried 9 = .ok (.aload_n 0, 1) := by decide +kernel
theorem dX10_tried_10 : decode cX10_tried 10 = .ok (.getfield 78, 3) := by decide +kernel
theorem dX10_tried_13 : decode cX10_tried 13 = .ok (.iload_n 1, 1) := by decide +kernel
theorem dX10_tried_14 : decode cX10_tried 14 = .ok (.iload_n 2, 1) := by decide +kernel
theorem dX10_tried_15 : decode cX10_tried 15 = .ok (.iload_n 3, 1) := by decide +kernel
theorem dX10_tried_16 : decode cX10_tried 16 = .ok (.iload 4, 2) := by decide +kernel
theorem dX10_tried_18 : decode cX10_tried 18 = .ok (.iconst 1, 1) := by decide +kernel
theorem dX10_tried_19 : decode cX10_tried 19 = .ok (.isub, 1) := by decide +kernel
theorem dX10_tried_20 : decode cX10_tried 20 = .ok (.invokevirtual 282, 3) := by decide +kernel
theorem dX10_tried_23 : decode cX10_tried 23 = .ok (.istore 5, 2) := by decide +kernel
theorem dX10_tried_25 : decode cX10_tried 25 = .ok (.iload 5, 2) := by decide +kernel
theorem dX10_tried_27 : decode cX10_tried 27 = .ok (.ifCond .eq 6, 3) := by decide +kernel
theorem dX10_tried_30 : decode cX10_tried 30 = .ok (.iload 5, 2) := by decide +kernel
theorem dX10_tried_32 : decode cX10_tried 32 = .ok (.ireturn, 1) := by decide +kernel
theorem dX10_tried_33 : decode cX10_tried 33 = .ok (.iconst 1, 1) := by decide +kernel
theorem dX10_tried_34 : decode cX10_tried 34 = .ok (.istore 6, 2) := by decide +kernel
theorem dX10_tried_36 : decode cX10_tried 36 = .ok (.iload 6, 2) := by decide +kernel
theorem dX10_tried_38 : decode cX10_tried 38 = .ok (.iload 4, 2) := by decide +kernel
theorem dX10_tried_40 : decode cX10_tried 40 = .ok (.if_icmp .ge 63, 3) := by decide +kernel
theorem dX10_tried_43 : decode cX10_tried 43 = .ok (.aload_n 0, 1) := by decide +kernel
theorem dX10_tried_44 : decode cX10_tried 44 = .ok (.getfield 78, 3) := by decide +kernel
theorem dX10_tried_47 : decode cX10_tried 47 = .ok (.iload_n 1, 1) := by decide +kernel
theorem dX10_tried_48 : decode cX10_tried 48 = .ok (.iload_n 3, 1) := by decide +kernel
theorem dX10_tried_49 : decode cX10_tried 49 = .ok (.iload 6, 2) := by decide +kernel
theorem dX10_tried_51 : decode cX10_tried 51 = .ok (.iadd, 1) := by decide +kernel
theorem dX10_tried_52 : decode cX10_tried 52 = .ok (.iconst 1, 1) := by decide +kernel
theorem dX10_tried_53 : decode cX10_tried 53 = .ok (.isub, 1) := by decide +kernel
theorem dX10_tried_54 : decode cX10_tried 54 = .ok (.invokevirtual 286, 3) := by decide +kernel
theorem dX10_tried_57 : decode cX10_tried 57 = .ok (.lstore 7, 2) := by decide +kernel
theorem dX10_tried_59 : decode cX10_tried 59 = .ok (.lload 7, 2) := by decide +kernel
theorem dX10_tried_61 : decode cX10_tried 61 = .ok (.lconst 0, 1) := by decide +kernel
theorem dX10_tried_62 : decode cX10_tried 62 = .ok (.lcmp, 1) := by decide +kernel
theorem dX10_tried_63 : decode cX10_tried 63 = .ok (.ifCond .lt 12, 3) := by decide +kernel
theorem dX10_tried_66 : decode cX10_tried 66 = .ok (.lload 7, 2) := by decide +kernel
theorem dX10_tried_68 : decode cX10_tried 68 = .ok (.iload 4, 2) := by decide +kernel
theorem dX10_tried_70 : decode cX10_tried 70 = .ok (.i2l, 1) := by decide +kernel
theorem dX10_tried_71 : decode cX10_tried 71 = .ok (.lcmp, 1) := by decide +kernel
theorem dX10_tried_72 : decode cX10_tried 72 = .ok (.ifCond .lt 15, 3) := by decide +kernel
theorem dX10_tried_75 : decode cX10_tried 75 = .ok (.lload 7, 2) := by decide +kernel
theorem dX10_tried_77 : decode cX10_tried 77 = .ok (.ldc2_w 290, 3) := by decide +kernel
theorem dX10_tried_80 : decode cX10_tried 80 = .ok (.lcmp, 1) := by decide +kernel
theorem dX10_tried_81 : decode cX10_tried 81 = .ok (.ifCond .eq 6, 3) := by decide +kernel
theorem dX10_tried_84 : decode cX10_tried 84 = .ok (.bipush (-2), 2) := by decide +kernel
theorem dX10_tried_86 : decode cX10_tried 86 = .ok (.ireturn, 1) := by decide +kernel
theorem dX10_tried_87 : decode cX10_tried 87 = .ok (.aload_n 0, 1) := by decide +kernel
theorem dX10_tried_88 : decode cX10_tried 88 = .ok (.getfield 82, 3) := by decide +kernel
theorem dX10_tried_91 : decode cX10_tried 91 = .ok (.iload 6, 2) := by decide +kernel
theorem dX10_tried_93 : decode cX10_tried 93 = .ok (.lload 7, 2) := by decide +kernel
theorem dX10_tried_95 : decode cX10_tried 95 = .ok (.l2i, 1) := by decide +kernel
theorem dX10_tried_96 : decode cX10_tried 96 = .ok (.iastore, 1) := by decide +kernel
theorem dX10_tried_97 : decode cX10_tried 97 = .ok (.iinc 6 1, 3) := by decide +kernel
theorem dX10_tried_100 : decode cX10_tried 100 = .ok (.goto (-64), 3) := by decide +kernel
theorem dX10_tried_103 : decode cX10_tried 103 = .ok (.aload_n 0, 1) := by decide +kernel
theorem dX10_tried_104 : decode cX10_tried 104 = .ok (.getfield 36, 3) := by decide +kernel
theorem dX10_tried_107 : decode cX10_tried 107 = .ok (.aload_n 0, 1) := by decide +kernel
theorem dX10_tried_108 : decode cX10_tried 108 = .ok (.getfield 82, 3) := by decide +kernel
theorem dX10_tried_111 : decode cX10_tried 111 = .ok (.iload 4, 2) := by decide +kernel
theorem dX10_tried_113 : decode cX10_tried 113 = .ok (.invokevirtual 229, 3) := by decide +kernel
theorem dX10_tried_116 : decode cX10_tried 116 = .ok (.aload_n 0, 1) := by decide +kernel
theorem dX10_tried_117 : decode cX10_tried 117 = .ok (.getfield 36, 3) := by decide +kernel
theorem dX10_tried_120 : decode cX10_tried 120 = .ok (.aload_n 0, 1) := by decide +kernel
theorem dX10_tried_121 : decode cX10_tried 121 = .ok (.getfield 10, 3) := by decide +kernel
theorem dX10_tried_124 : decode cX10_tried 124 = .ok (.invokevirtual 292, 3) := by decide +kernel
theorem dX10_tried_127 : decode cX10_tried 127 = .ok (.ireturn, 1) := by decide +kernel
theorem dX10_film_0 : decode cX10_film 0 = .ok (.aload_n 0, 1) := by decide +kernel
theorem dX10_film_1 : decode cX10_film 1 = .ok (.getfield 10, 3) := by decide +kernel
theorem dX10_film_4 : decode cX10_film 4 = .ok (.invokevirtual 135, 3) := by decide +kernel
theorem dX10_film_7 : decode cX10_film 7 = .ok (.istore 4, 2) := by decide +kernel
theorem dX10_film_9 : decode cX10_film 9 = .ok (.aload_n 0, 1) := by decide +kernel
theorem dX10_film_10 : decode cX10_film 10 = .ok (.getfield 78, 3) := by decide +kernel
theorem dX10_film_13 : decode cX10_film 13 = .ok (.iload_n 1, 1) := by decide +kernel
theorem dX10_film_14 : decode cX10_film 14 = .ok (.iload_n 2, 1) := by decide +kernel
theorem dX10_film_15 : decode cX10_film 15 = .ok (.iload_n 3, 1) := by decide +kernel
theorem dX10_film_16 : decode cX10_film 16 = .ok (.iload 4, 2) := by decide +kernel
theorem dX10_film_18 : decode cX10_film 18 = .ok (.iconst 1, 1) := by decide +kernel
theorem dX10_film_19 : decode cX10_film 19 = .ok (.isub, 1) := by decide +kernel
theorem dX10_film_20 : decode cX10_film 20 = .ok (.invokevirtual 282, 3) := by decide +kernel
theorem dX10_film_23 : decode cX10_film 23 = .ok (.istore 5, 2) := by decide +kernel
theorem dX10_film_25 : decode cX10_film 25 = .ok (.iload 5, 2) := by decide +kernel
theorem dX10_film_27 : decode cX10_film 27 = .ok (.ifCond .eq 6, 3) := by decide +kernel
theorem dX10_film_30 : decode cX10_film 30 = .ok (.iload 5, 2) := by decide +kernel
theorem dX10_film_32 : decode cX10_film 32 = .ok (.ireturn, 1) := by decide +kernel
theorem dX10_film_33 : decode cX10_film 33 = .ok (.aload_n 0, 1) := by decide +kernel
theorem dX10_film_34 : decode cX10_film 34 = .ok (.getfield 36, 3) := by decide +kernel
theorem dX10_film_37 : decode cX10_film 37 = .ok (.aload_n 0, 1) := by decide +kernel
theorem dX10_film_38 : decode cX10_film 38 = .ok (.getfield 10, 3) := by decide +kernel
theorem dX10_film_41 : decode cX10_film 41 = .ok (.invokevirtual 152, 3) := by decide +kernel
theorem dX10_film_44 : decode cX10_film 44 = .ok (.iconst 1, 1) := by decide +kernel
theorem dX10_film_45 : decode cX10_film 45 = .ok (.istore 6, 2) := by decide +kernel
theorem dX10_film_47 : decode cX10_film 47 = .ok (.iload 6, 2) := by decide +kernel
theorem dX10_film_49 : decode cX10_film 49 = .ok (.iload 4, 2) := by decide +kernel
theorem dX10_film_51 : decode cX10_film 51 = .ok (.if_icmp .ge 33, 3) := by decide +kernel
theorem dX10_film_54 : decode cX10_film 54 = .ok (.aload_n 0, 1) := by decide +kernel
theorem dX10_film_55 : decode cX10_film 55 = .ok (.getfield 78, 3) := by decide +kernel
theorem dX10_film_58 : decode cX10_film 58 = .ok (.iload_n 1, 1) := by decide +kernel
theorem dX10_film_59 : decode cX10_film 59 = .ok (.iload_n 3, 1) := by decide +kernel
theorem dX10_film_60 : decode cX10_film 60 = .ok (.iload 6, 2) := by decide +kernel
theorem dX10_film_62 : decode cX10_film 62 = .ok (.iadd, 1) := by decide +kernel
theorem dX10_film_63 : decode cX10_film 63 = .ok (.iconst 1, 1) := by decide +kernel
theorem dX10_film_64 : decode cX10_film 64 = .ok (.isub, 1) := by decide +kernel
theorem dX10_film_65 : decode cX10_film 65 = .ok (.aload_n 0, 1) := by decide +kernel
theorem dX10_film_66 : decode cX10_film 66 = .ok (.getfield 36, 3) := by decide +kernel
theorem dX10_film_69 : decode cX10_film 69 = .ok (.iload 6, 2) := by decide +kernel
theorem dX10_film_71 : decode cX10_film 71 = .ok (.invokevirtual 296, 3) := by decide +kernel
theorem dX10_film_74 : decode cX10_film 74 = .ok (.i2l, 1) := by decide +kernel
theorem dX10_film_75 : decode cX10_film 75 = .ok (.invokevirtual 299, 3) := by decide +kernel
theorem dX10_film_78 : decode cX10_film 78 = .ok (.iinc 6 1, 3) := by decide +kernel
theorem dX10_film_81 : decode cX10_film 81 = .ok (.goto (-34), 3) := by decide +kernel
theorem dX10_film_84 : decode cX10_film 84 = .ok (.iload 4, 2) := by decide +kernel
theorem dX10_film_86 : decode cX10_film 86 = .ok (.iconst 1, 1) := by decide +kernel
theorem dX10_film_87 : decode cX10_film 87 = .ok (.isub, 1) := by decide +kernel
theorem dX10_film_88 : decode cX10_film 88 = .ok (.ireturn, 1) := by decide +kernel
theorem dX10_sheet_0 : decode cX10_sheet 0 = .ok (.iload_n 1, 1) := by decide +kernel
theorem dX10_sheet_1 : decode cX10_sheet 1 = .ok (.invokestatic 303, 3) := by decide +kernel
theorem dX10_sheet_4 : decode cX10_sheet 4 = .ok (.ifCond .eq 16, 3) := by decide +kernel
theorem dX10_sheet_7 : decode cX10_sheet 7 = .ok (.iload_n 2, 1) := by decide +kernel
theorem dX10_sheet_8 : decode cX10_sheet 8 = .ok (.invokestatic 306, 3) := by decide +kernel
theorem dX10_sheet_11 : decode cX10_sheet 11 = .ok (.ifCond .eq 9, 3) := by decide +kernel
theorem dX10_sheet_14 : decode cX10_sheet 14 = .ok (.iload_n 3, 1) := by decide +kernel
theorem dX10_sheet_15 : decode cX10_sheet 15 = .ok (.bipush 24, 2) := by decide +kernel
theorem dX10_sheet_17 : decode cX10_sheet 17 = .ok (.if_icmp .le 5, 3) := by decide +kernel
theorem dX10_sheet_20 : decode cX10_sheet 20 = .ok (.iconst (-1), 1) := by decide +kernel
theorem dX10_sheet_21 : decode cX10_sheet 21 = .ok (.ireturn, 1) := by decide +kernel
theorem dX10_sheet_22 : decode cX10_sheet 22 = .ok (.iload_n 3, 1) := by decide +kernel
theorem dX10_sheet_23 : decode cX10_sheet 23 = .ok (.ifCond .ge 6, 3) := by decide +kernel
theorem dX10_sheet_26 : decode cX10_sheet 26 = .ok (.bipush (-14), 2) := by decide +kernel
theorem dX10_sheet_28 : decode cX10_sheet 28 = .ok (.ireturn, 1) := by decide +kernel
theorem dX10_sheet_29 : decode cX10_sheet 29 = .ok (.aload_n 0, 1) := by decide +kernel
theorem dX10_sheet_30 : decode cX10_sheet 30 = .ok (.getfield 78, 3) := by decide +kernel
theorem dX10_sheet_33 : decode cX10_sheet 33 = .ok (.iload_n 1, 1) := by decide +kernel
theorem dX10_sheet_34 : decode cX10_sheet 34 = .ok (.iload_n 2, 1) := by decide +kernel
theorem dX10_sheet_35 : decode cX10_sheet 35 = .ok (.iload_n 3, 1) := by decide +kernel
theorem dX10_sheet_36 : decode cX10_sheet 36 = .ok (.invokevirtual 309, 3) := by decide +kernel
theorem dX10_sheet_39 : decode cX10_sheet 39 = .ok (.iload_n 3, 1) := by decide +kernel
theorem dX10_sheet_40 : decode cX10_sheet 40 = .ok (.ireturn, 1) := by decide +kernel
theorem dX10_drop_0 : decode cX10_drop 0 = .ok (.iload_n 1, 1) := by decide +kernel
theorem dX10_drop_1 : decode cX10_drop 1 = .ok (.invokestatic 303, 3) := by decide +kernel
theorem dX10_drop_4 : decode cX10_drop 4 = .ok (.ifCond .ne 5, 3) := by decide +kernel
theorem dX10_drop_7 : decode cX10_drop 7 = .ok (.iconst (-1), 1) := by decide +kernel
theorem dX10_drop_8 : decode cX10_drop 8 = .ok (.ireturn, 1) := by decide +kernel
theorem dX10_drop_9 : decode cX10_drop 9 = .ok (.aload_n 0, 1) := by decide +kernel
theorem dX10_drop_10 : decode cX10_drop 10 = .ok (.getfield 78, 3) := by decide +kernel
theorem dX10_drop_13 : decode cX10_drop 13 = .ok (.iload_n 1, 1) := by decide +kernel
theorem dX10_drop_14 : decode cX10_drop 14 = .ok (.invokevirtual 312, 3) := by decide +kernel
theorem dX10_drop_17 : decode cX10_drop 17 = .ok (.ifCond .eq 6, 3) := by decide +kernel
theorem dX10_drop_20 : decode cX10_drop 20 = .ok (.bipush (-11), 2) := by decide +kernel
theorem dX10_drop_22 : decode cX10_drop 22 = .ok (.ireturn, 1) := by decide +kernel
theorem dX10_drop_23 : decode cX10_drop 23 = .ok (.aload_n 0, 1) := by decide +kernel
theorem dX10_drop_24 : decode cX10_drop 24 = .ok (.getfield 78, 3) := by decide +kernel
theorem dX10_drop_27 : decode cX10_drop 27 = .ok (.iload_n 1, 1) := by decide +kernel
theorem dX10_drop_28 : decode cX10_drop 28 = .ok (.invokevirtual 315, 3) := by decide +kernel
theorem dX10_drop_31 : decode cX10_drop 31 = .ok (.istore_n 2, 1) := by decide +kernel
theorem dX10_drop_32 : decode cX10_drop 32 = .ok (.aload_n 0, 1) := by decide +kernel
theorem dX10_drop_33 : decode cX10_drop 33 = .ok (.getfield 78, 3) := by decide +kernel
theorem dX10_drop_36 : decode cX10_drop 36 = .ok (.iload_n 1, 1) := by decide +kernel
theorem dX10_drop_37 : decode cX10_drop 37 = .ok (.invokevirtual 318, 3) := by decide +kernel
theorem dX10_drop_40 : decode cX10_drop 40 = .ok (.iload_n 2, 1) := by decide +kernel
theorem dX10_drop_41 : decode cX10_drop 41 = .ok (.ireturn, 1) := by decide +kernel
theorem dX10_item_0 : decode cX10_item 0 = .ok (.aload_n 0, 1) := by decide +kernel
theorem dX10_item_1 : decode cX10_item 1 = .ok (.getfield 78, 3) := by decide +kernel
theorem dX10_item_4 : decode cX10_item 4 = .ok (.iload_n 1, 1) := by decide +kernel
theorem dX10_item_5 : decode cX10_item 5 = .ok (.iload_n 2, 1) := by decide +kernel
theorem dX10_item_6 : decode cX10_item 6 = .ok (.iload_n 3, 1) := by decide +kernel
theorem dX10_item_7 : decode cX10_item 7 = .ok (.iconst 1, 1) := by decide +kernel
theorem dX10_item_8 : decode cX10_item 8 = .ok (.invokevirtual 282, 3) := by decide +kernel
theorem dX10_item_11 : decode cX10_item 11 = .ok (.istore 6, 2) := by decide +kernel
theorem dX10_item_13 : decode cX10_item 13 = .ok (.iload 6, 2) := by decide +kernel
theorem dX10_item_15 : decode cX10_item 15 = .ok (.ifCond .eq 6, 3) := by decide +kernel
theorem dX10_item_18 : decode cX10_item 18 = .ok (.iload 6, 2) := by decide +kernel
theorem dX10_item_20 : decode cX10_item 20 = .ok (.ireturn, 1) := by decide +kernel
theorem dX10_item_21 : decode cX10_item 21 = .ok (.aload_n 0, 1) := by decide +kernel
theorem dX10_item_22 : decode cX10_item 22 = .ok (.getfield 78, 3) := by decide +kernel
theorem dX10_item_25 : decode cX10_item 25 = .ok (.iload_n 1, 1) := by decide +kernel
theorem dX10_item_26 : decode cX10_item 26 = .ok (.iload_n 3, 1) := by decide +kernel
theorem dX10_item_27 : decode cX10_item 27 = .ok (.lload 4, 2) := by decide +kernel
theorem dX10_item_29 : decode cX10_item 29 = .ok (.invokevirtual 299, 3) := by decide +kernel
theorem dX10_item_32 : decode cX10_item 32 = .ok (.iconst 1, 1) := by decide +kernel
theorem dX10_item_33 : decode cX10_item 33 = .ok (.ireturn, 1) := by decide +kernel
theorem dX10_copy_0 : decode cX10_copy 0 = .ok (.iload_n 1, 1) := by decide +kernel
theorem dX10_copy_1 : decode cX10_copy 1 = .ok (.invokestatic 303, 3) := by decide +kernel
theorem dX10_copy_4 : decode cX10_copy 4 = .ok (.ifCond .eq 10, 3) := by decide +kernel
theorem dX10_copy_7 : decode cX10_copy 7 = .ok (.iload_n 3, 1) := by decide +kernel
theorem dX10_copy_8 : decode cX10_copy 8 = .ok (.invokestatic 303, 3) := by decide +kernel
theorem dX10_copy_11 : decode cX10_copy 11 = .ok (.ifCond .ne 5, 3) := by decide +kernel
theorem dX10_copy_14 : decode cX10_copy 14 = .ok (.iconst (-1), 1) := by decide +kernel
theorem dX10_copy_15 : decode cX10_copy 15 = .ok (.ireturn, 1) := by decide +kernel
theorem dX10_copy_16 : decode cX10_copy 16 = .ok (.aload_n 0, 1) := by decide +kernel
theorem dX10_copy_17 : decode cX10_copy 17 = .ok (.getfield 78, 3) := by decide +kernel
theorem dX10_copy_20 : decode cX10_copy 20 = .ok (.iload_n 1, 1) := by decide +kernel
theorem dX10_copy_21 : decode cX10_copy 21 = .ok (.invokevirtual 312, 3) := by decide +kernel
theorem dX10_copy_24 : decode cX10_copy 24 = .ok (.ifCond .ne 14, 3) := by decide +kernel
theorem dX10_copy_27 : decode cX10_copy 27 = .ok (.aload_n 0, 1) := by decide +kernel
theorem dX10_copy_28 : decode cX10_copy 28 = .ok (.getfield 78, 3) := by decide +kernel
theorem dX10_copy_31 : decode cX10_copy 31 = .ok (.iload_n 3, 1) := by decide +kernel
theorem dX10_copy_32 : decode cX10_copy 32 = .ok (.invokevirtual 312, 3) := by decide +kernel
theorem dX10_copy_35 : decode cX10_copy 35 = .ok (.ifCond .eq 6, 3) := by decide +kernel
theorem dX10_copy_38 : decode cX10_copy 38 = .ok (.bipush (-11), 2) := by decide +kernel
theorem dX10_copy_40 : decode cX10_copy 40 = .ok (.ireturn, 1) := by decide +kernel
theorem dX10_copy_41 : decode cX10_copy 41 = .ok (.aload_n 0, 1) := by decide +kernel
theorem dX10_copy_42 : decode cX10_copy 42 = .ok (.getfield 78, 3) := by decide +kernel
theorem dX10_copy_45 : decode cX10_copy 45 = .ok (.iload_n 1, 1) := by decide +kernel
theorem dX10_copy_46 : decode cX10_copy 46 = .ok (.invokevirtual 321, 3) := by decide +kernel
theorem dX10_copy_49 : decode cX10_copy 49 = .ok (.aload_n 0, 1) := by decide +kernel
theorem dX10_copy_50 : decode cX10_copy 50 = .ok (.getfield 78, 3) := by decide +kernel
theorem dX10_copy_53 : decode cX10_copy 53 = .ok (.iload_n 3, 1) := by decide +kernel
theorem dX10_copy_54 : decode cX10_copy 54 = .ok (.invokevirtual 321, 3) := by decide +kernel
theorem dX10_copy_57 : decode cX10_copy 57 = .ok (.if_icmp .eq 6, 3) := by decide +kernel
theorem dX10_copy_60 : decode cX10_copy 60 = .ok (.bipush (-12), 2) := by decide +kernel
theorem dX10_copy_62 : decode cX10_copy 62 = .ok (.ireturn, 1) := by decide +kernel
theorem dX10_copy_63 : decode cX10_copy 63 = .ok (.aload_n 0, 1) := by decide +kernel
theorem dX10_copy_64 : decode cX10_copy 64 = .ok (.getfield 78, 3) := by decide +kernel
theorem dX10_copy_67 : decode cX10_copy 67 = .ok (.iload_n 1, 1) := by decide +kernel
theorem dX10_copy_68 : decode cX10_copy 68 = .ok (.iload_n 2, 1) := by decide +kernel
theorem dX10_copy_69 : decode cX10_copy 69 = .ok (.iload 5, 2) := by decide +kernel
theorem dX10_copy_71 : decode cX10_copy 71 = .ok (.invokevirtual 324, 3) := by decide +kernel
theorem dX10_copy_74 : decode cX10_copy 74 = .ok (.ifCond .eq 18, 3) := by decide +kernel
theorem dX10_copy_77 : decode cX10_copy 77 = .ok (.aload_n 0, 1) := by decide +kernel
theorem dX10_copy_78 : decode cX10_copy 78 = .ok (.getfield 78, 3) := by decide +kernel
theorem dX10_copy_81 : decode cX10_copy 81 = .ok (.iload_n 3, 1) := by decide +kernel
theorem dX10_copy_82 : decode cX10_copy 82 = .ok (.iload 4, 2) := by decide +kernel
theorem dX10_copy_84 : decode cX10_copy 84 = .ok (.iload 5, 2) := by decide +kernel
theorem dX10_copy_86 : decode cX10_copy 86 = .ok (.invokevirtual 324, 3) := by decide +kernel
theorem dX10_copy_89 : decode cX10_copy 89 = .ok (.ifCond .ne 6, 3) := by decide +kernel
theorem dX10_copy_92 : decode cX10_copy 92 = .ok (.bipush (-13), 2) := by decide +kernel
theorem dX10_copy_94 : decode cX10_copy 94 = .ok (.ireturn, 1) := by decide +kernel
theorem dX10_copy_95 : decode cX10_copy 95 = .ok (.aload_n 0, 1) := by decide +kernel
theorem dX10_copy_96 : decode cX10_copy 96 = .ok (.getfield 78, 3) := by decide +kernel
theorem dX10_copy_99 : decode cX10_copy 99 = .ok (.iload_n 1, 1) := by decide +kernel
theorem dX10_copy_100 : decode cX10_copy 100 = .ok (.iload_n 2, 1) := by decide +kernel
theorem dX10_copy_101 : decode cX10_copy 101 = .ok (.iload_n 3, 1) := by decide +kernel
theorem dX10_copy_102 : decode cX10_copy 102 = .ok (.iload 4, 2) := by decide +kernel
theorem dX10_copy_104 : decode cX10_copy 104 = .ok (.iload 5, 2) := by decide +kernel
theorem dX10_copy_106 : decode cX10_copy 106 = .ok (.invokevirtual 328, 3) := by decide +kernel
theorem dX10_copy_109 : decode cX10_copy 109 = .ok (.iload 5, 2) := by decide +kernel
theorem dX10_copy_111 : decode cX10_copy 111 = .ok (.ireturn, 1) := by decide +kernel
theorem dX10_discontent_0 : decode cX10_discontent 0 = .ok (.aload_n 0, 1) := by decide +kernel
theorem dX10_discontent_1 : decode cX10_discontent 1 = .ok (.getfield 36, 3) := by decide +kernel
theorem dX10_discontent_4 : decode cX10_discontent 4 = .ok (.aload_n 0, 1) := by decide +kernel
theorem dX10_discontent_5 : decode cX10_discontent 5 = .ok (.getfield 10, 3) := by decide +kernel
theorem dX10_discontent_8 : decode cX10_discontent 8 = .ok (.invokevirtual 152, 3) := by decide +kernel
theorem dX10_discontent_11 : decode cX10_discontent 11 = .ok (.aload_n 0, 1) := by decide +kernel
theorem dX10_discontent_12 : decode cX10_discontent 12 = .ok (.getfield 36, 3) := by decide +kernel
theorem dX10_discontent_15 : decode cX10_discontent 15 = .ok (.aload_n 0, 1) := by decide +kernel
theorem dX10_discontent_16 : decode cX10_discontent 16 = .ok (.getfield 10, 3) := by decide +kernel
theorem dX10_discontent_19 : decode cX10_discontent 19 = .ok (.invokevirtual 292, 3) := by decide +kernel
theorem dX10_discontent_22 : decode cX10_discontent 22 = .ok (.ireturn, 1) := by decide +kernel
theorem dX10_stableOnes_0 : decode cX10_stableOnes 0 = .ok (.aload_n 0, 1) := by decide +kernel
theorem dX10_stableOnes_1 : decode cX10_stableOnes 1 = .ok (.getfield 43, 3) := by decide +kernel
theorem dX10_stableOnes_4 : decode cX10_stableOnes 4 = .ok (.aload_n 0, 1) := by decide +kernel
theorem dX10_stableOnes_5 : decode cX10_stableOnes 5 = .ok (.getfield 10, 3) := by decide +kernel
theorem dX10_stableOnes_8 : decode cX10_stableOnes 8 = .ok (.invokevirtual 143, 3) := by decide +kernel
theorem dX10_stableOnes_11 : decode cX10_stableOnes 11 = .ok (.aload_n 0, 1) := by decide +kernel
theorem dX10_stableOnes_12 : decode cX10_stableOnes 12 = .ok (.getfield 57, 3) := by decide +kernel
theorem dX10_stableOnes_15 : decode cX10_stableOnes 15 = .ok (.aload_n 0, 1) := by decide +kernel
theorem dX10_stableOnes_16 : decode cX10_stableOnes 16 = .ok (.getfield 10, 3) := by decide +kernel
theorem dX10_stableOnes_19 : decode cX10_stableOnes 19 = .ok (.aload_n 0, 1) := by decide +kernel
theorem dX10_stableOnes_20 : decode cX10_stableOnes 20 = .ok (.getfield 36, 3) := by decide +kernel
theorem dX10_stableOnes_23 : decode cX10_stableOnes 23 = .ok (.aload_n 0, 1) := by decide +kernel
theorem dX10_stableOnes_24 : decode cX10_stableOnes 24 = .ok (.getfield 43, 3) := by decide +kernel
theorem dX10_stableOnes_27 : decode cX10_stableOnes 27 = .ok (.invokevirtual 332, 3) := by decide +kernel
theorem dX10_stableOnes_30 : decode cX10_stableOnes 30 = .ok (.invokevirtual 335, 3) := by decide +kernel
theorem dX10_stableOnes_33 : decode cX10_stableOnes 33 = .ok (.aload_n 0, 1) := by decide +kernel
theorem dX10_stableOnes_34 : decode cX10_stableOnes 34 = .ok (.getfield 57, 3) := by decide +kernel
theorem dX10_stableOnes_37 : decode cX10_stableOnes 37 = .ok (.invokevirtual 338, 3) := by decide +kernel
theorem dX10_stableOnes_40 : decode cX10_stableOnes 40 = .ok (.ireturn, 1) := by decide +kernel
theorem dX10_turnAll_0 : decode cX10_turnAll 0 = .ok (.aload_n 0, 1) := by decide +kernel
theorem dX10_turnAll_1 : decode cX10_turnAll 1 = .ok (.getfield 36, 3) := by decide +kernel
theorem dX10_turnAll_4 : decode cX10_turnAll 4 = .ok (.aload_n 0, 1) := by decide +kernel
theorem dX10_turnAll_5 : decode cX10_turnAll 5 = .ok (.getfield 10, 3) := by decide +kernel
theorem dX10_turnAll_8 : decode cX10_turnAll 8 = .ok (.invokevirtual 152, 3) := by decide +kernel
theorem dX10_turnAll_11 : decode cX10_turnAll 11 = .ok (.aload_n 0, 1) := by decide +kernel
theorem dX10_turnAll_12 : decode cX10_turnAll 12 = .ok (.getfield 36, 3) := by decide +kernel
theorem dX10_turnAll_15 : decode cX10_turnAll 15 = .ok (.aload_n 0, 1) := by decide +kernel
theorem dX10_turnAll_16 : decode cX10_turnAll 16 = .ok (.getfield 10, 3) := by decide +kernel
theorem dX10_turnAll_19 : decode cX10_turnAll 19 = .ok (.invokevirtual 341, 3) := by decide +kernel
theorem dX10_turnAll_22 : decode cX10_turnAll 22 = .ok (.istore_n 1, 1) := by decide +kernel
theorem dX10_turnAll_23 : decode cX10_turnAll 23 = .ok (.aload_n 0, 1) := by decide +kernel
theorem dX10_turnAll_24 : decode cX10_turnAll 24 = .ok (.getfield 36, 3) := by decide +kernel
theorem dX10_turnAll_27 : decode cX10_turnAll 27 = .ok (.aload_n 0, 1) := by decide +kernel
theorem dX10_turnAll_28 : decode cX10_turnAll 28 = .ok (.getfield 10, 3) := by decide +kernel
theorem dX10_turnAll_31 : decode cX10_turnAll 31 = .ok (.invokevirtual 344, 3) := by decide +kernel
theorem dX10_turnAll_34 : decode cX10_turnAll 34 = .ok (.iload_n 1, 1) := by decide +kernel
theorem dX10_turnAll_35 : decode cX10_turnAll 35 = .ok (.ireturn, 1) := by decide +kernel
theorem dX10_chooseAnew_0 : decode cX10_chooseAnew 0 = .ok (.aload_n 0, 1) := by decide +kernel
theorem dX10_chooseAnew_1 : decode cX10_chooseAnew 1 = .ok (.getfield 36, 3) := by decide +kernel
theorem dX10_chooseAnew_4 : decode cX10_chooseAnew 4 = .ok (.aload_n 0, 1) := by decide +kernel
theorem dX10_chooseAnew_5 : decode cX10_chooseAnew 5 = .ok (.getfield 10, 3) := by decide +kernel
theorem dX10_chooseAnew_8 : decode cX10_chooseAnew 8 = .ok (.invokevirtual 152, 3) := by decide +kernel
theorem dX10_chooseAnew_11 : decode cX10_chooseAnew 11 = .ok (.aload_n 0, 1) := by decide +kernel
theorem dX10_chooseAnew_12 : decode cX10_chooseAnew 12 = .ok (.getfield 36, 3) := by decide +kernel
theorem dX10_chooseAnew_15 : decode cX10_chooseAnew 15 = .ok (.aload_n 0, 1) := by decide +kernel
theorem dX10_chooseAnew_16 : decode cX10_chooseAnew 16 = .ok (.getfield 10, 3) := by decide +kernel
theorem dX10_chooseAnew_19 : decode cX10_chooseAnew 19 = .ok (.iload_n 1, 1) := by decide +kernel
theorem dX10_chooseAnew_20 : decode cX10_chooseAnew 20 = .ok (.invokevirtual 155, 3) := by decide +kernel
theorem dX10_chooseAnew_23 : decode cX10_chooseAnew 23 = .ok (.istore_n 2, 1) := by decide +kernel
theorem dX10_chooseAnew_24 : decode cX10_chooseAnew 24 = .ok (.iload_n 2, 1) := by decide +kernel
theorem dX10_chooseAnew_25 : decode cX10_chooseAnew 25 = .ok (.aload_n 0, 1) := by decide +kernel
theorem dX10_chooseAnew_26 : decode cX10_chooseAnew 26 = .ok (.getfield 10, 3) := by decide +kernel
theorem dX10_chooseAnew_29 : decode cX10_chooseAnew 29 = .ok (.iload_n 1, 1) := by decide +kernel
