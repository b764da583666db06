theorem dX11_why_40 : decode cX11_why 40 = .ok (.invokestatic 135, 3) := by decide +kernel
theorem dX11_why_43 : decode cX11_why 43 = .ok (.imul, 1) := by decide +kernel
theorem dX11_why_44 : decode cX11_why 44 = .ok (.iadd, 1) := by decide +kernel
theorem dX11_why_45 : decode cX11_why 45 = .ok (.iload_n 2, 1) := by decide +kernel
theorem dX11_why_46 : decode cX11_why 46 = .ok (.iadd, 1) := by decide +kernel
theorem dX11_why_47 : decode cX11_why 47 = .ok (.ireturn, 1) := by decide +kernel
theorem dX11_why_48 : decode cX11_why 48 = .ok (.iinc 2 (-1), 3) := by decide +kernel
theorem dX11_why_51 : decode cX11_why 51 = .ok (.goto (-34), 3) := by decide +kernel
theorem dX11_why_54 : decode cX11_why 54 = .ok (.iconst 0, 1) := by decide +kernel
theorem dX11_why_55 : decode cX11_why 55 = .ok (.ireturn, 1) := by decide +kernel
theorem dX11_thinks_0 : decode cX11_thinks 0 = .ok (.aload_n 0, 1) := by decide +kernel
theorem dX11_thinks_1 : decode cX11_thinks 1 = .ok (.getfield 7, 3) := by decide +kernel
theorem dX11_thinks_4 : decode cX11_thinks 4 = .ok (.bipush 121, 2) := by decide +kernel
theorem dX11_thinks_6 : decode cX11_thinks 6 = .ok (.aload_n 0, 1) := by decide +kernel
theorem dX11_thinks_7 : decode cX11_thinks 7 = .ok (.getfield 45, 3) := by decide +kernel
theorem dX11_thinks_10 : decode cX11_thinks 10 = .ok (.iconst 0, 1) := by decide +kernel
theorem dX11_thinks_11 : decode cX11_thinks 11 = .ok (.bipush 6, 2) := by decide +kernel
theorem dX11_thinks_13 : decode cX11_thinks 13 = .ok (.invokestatic 84, 3) := by decide +kernel
theorem dX11_thinks_16 : decode cX11_thinks 16 = .ok (.return_, 1) := by decide +kernel
theorem dX11_wouldChoose_0 : decode cX11_wouldChoose 0 = .ok (.iload_n 1, 1) := by decide +kernel
theorem dX11_wouldChoose_1 : decode cX11_wouldChoose 1 = .ok (.ifCond .ne 7, 3) := by decide +kernel
theorem dX11_wouldChoose_4 : decode cX11_wouldChoose 4 = .ok (.iconst 0, 1) := by decide +kernel
theorem dX11_wouldChoose_5 : decode cX11_wouldChoose 5 = .ok (.goto 5, 3) := by decide +kernel
theorem dX11_wouldChoose_8 : decode cX11_wouldChoose 8 = .ok (.bipush (-4), 2) := by decide +kernel
theorem dX11_wouldChoose_10 : decode cX11_wouldChoose 10 = .ok (.istore_n 2, 1) := by decide +kernel
theorem dX11_wouldChoose_11 : decode cX11_wouldChoose 11 = .ok (.iconst 0, 1) := by decide +kernel
theorem dX11_wouldChoose_12 : decode cX11_wouldChoose 12 = .ok (.istore_n 3, 1) := by decide +kernel
theorem dX11_wouldChoose_13 : decode cX11_wouldChoose 13 = .ok (.iload_n 3, 1) := by decide +kernel
theorem dX11_wouldChoose_14 : decode cX11_wouldChoose 14 = .ok (.aload_n 0, 1) := by decide +kernel
theorem dX11_wouldChoose_15 : decode cX11_wouldChoose 15 = .ok (.getfield 7, 3) := by decide +kernel
theorem dX11_wouldChoose_18 : decode cX11_wouldChoose 18 = .ok (.iconst 0, 1) := by decide +kernel
theorem dX11_wouldChoose_19 : decode cX11_wouldChoose 19 = .ok (.iaload, 1) := by decide +kernel
theorem dX11_wouldChoose_20 : decode cX11_wouldChoose 20 = .ok (.if_icmp .ge 79, 3) := by decide +kernel
theorem dX11_wouldChoose_23 : decode cX11_wouldChoose 23 = .ok (.iload_n 1, 1) := by decide +kernel
theorem dX11_wouldChoose_24 : decode cX11_wouldChoose 24 = .ok (.ifCond .le 75, 3) := by decide +kernel
theorem dX11_wouldChoose_27 : decode cX11_wouldChoose 27 = .ok (.iload_n 3, 1) := by decide +kernel
theorem dX11_wouldChoose_28 : decode cX11_wouldChoose 28 = .ok (.iload_n 1, 1) := by decide +kernel
theorem dX11_wouldChoose_29 : decode cX11_wouldChoose 29 = .ok (.if_icmp .eq 64, 3) := by decide +kernel
theorem dX11_wouldChoose_32 : decode cX11_wouldChoose 32 = .ok (.aload_n 0, 1) := by decide +kernel
theorem dX11_wouldChoose_33 : decode cX11_wouldChoose 33 = .ok (.getfield 45, 3) := by decide +kernel
theorem dX11_wouldChoose_36 : decode cX11_wouldChoose 36 = .ok (.iload_n 3, 1) := by decide +kernel
theorem dX11_wouldChoose_37 : decode cX11_wouldChoose 37 = .ok (.iaload, 1) := by decide +kernel
theorem dX11_wouldChoose_38 : decode cX11_wouldChoose 38 = .ok (.bipush (-4), 2) := by decide +kernel
theorem dX11_wouldChoose_40 : decode cX11_wouldChoose 40 = .ok (.if_icmp .eq 53, 3) := by decide +kernel
theorem dX11_wouldChoose_43 : decode cX11_wouldChoose 43 = .ok (.aload_n 0, 1) := by decide +kernel
theorem dX11_wouldChoose_44 : decode cX11_wouldChoose 44 = .ok (.iload_n 1, 1) := by decide +kernel
theorem dX11_wouldChoose_45 : decode cX11_wouldChoose 45 = .ok (.aload_n 0, 1) := by decide +kernel
theorem dX11_wouldChoose_46 : decode cX11_wouldChoose 46 = .ok (.getfield 45, 3) := by decide +kernel
theorem dX11_wouldChoose_49 : decode cX11_wouldChoose 49 = .ok (.iload_n 3, 1) := by decide +kernel
theorem dX11_wouldChoose_50 : decode cX11_wouldChoose 50 = .ok (.iaload, 1) := by decide +kernel
theorem dX11_wouldChoose_51 : decode cX11_wouldChoose 51 = .ok (.invokevirtual 154, 3) := by decide +kernel
theorem dX11_wouldChoose_54 : decode cX11_wouldChoose 54 = .ok (.ifCond .eq 39, 3) := by decide +kernel
theorem dX11_wouldChoose_57 : decode cX11_wouldChoose 57 = .ok (.iload_n 1, 1) := by decide +kernel
theorem dX11_wouldChoose_58 : decode cX11_wouldChoose 58 = .ok (.aload_n 0, 1) := by decide +kernel
theorem dX11_wouldChoose_59 : decode cX11_wouldChoose 59 = .ok (.getfield 45, 3) := by decide +kernel
theorem dX11_wouldChoose_62 : decode cX11_wouldChoose 62 = .ok (.iload_n 3, 1) := by decide +kernel
theorem dX11_wouldChoose_63 : decode cX11_wouldChoose 63 = .ok (.iaload, 1) := by decide +kernel
theorem dX11_wouldChoose_64 : decode cX11_wouldChoose 64 = .ok (.invokestatic 157, 3) := by decide +kernel
theorem dX11_wouldChoose_67 : decode cX11_wouldChoose 67 = .ok (.istore 4, 2) := by decide +kernel
theorem dX11_wouldChoose_69 : decode cX11_wouldChoose 69 = .ok (.iload_n 2, 1) := by decide +kernel
theorem dX11_wouldChoose_70 : decode cX11_wouldChoose 70 = .ok (.bipush (-4), 2) := by decide +kernel
theorem dX11_wouldChoose_72 : decode cX11_wouldChoose 72 = .ok (.if_icmp .eq 14, 3) := by decide +kernel
theorem dX11_wouldChoose_75 : decode cX11_wouldChoose 75 = .ok (.aload_n 0, 1) := by decide +kernel
theorem dX11_wouldChoose_76 : decode cX11_wouldChoose 76 = .ok (.iload_n 1, 1) := by decide +kernel
theorem dX11_wouldChoose_77 : decode cX11_wouldChoose 77 = .ok (.iload 4, 2) := by decide +kernel
theorem dX11_wouldChoose_79 : decode cX11_wouldChoose 79 = .ok (.iload_n 2, 1) := by decide +kernel
theorem dX11_wouldChoose_80 : decode cX11_wouldChoose 80 = .ok (.invokevirtual 163, 3) := by decide +kernel
theorem dX11_wouldChoose_83 : decode cX11_wouldChoose 83 = .ok (.ifCond .eq 8, 3) := by decide +kernel
theorem dX11_wouldChoose_86 : decode cX11_wouldChoose 86 = .ok (.iload 4, 2) := by decide +kernel
theorem dX11_wouldChoose_88 : decode cX11_wouldChoose 88 = .ok (.goto 4, 3) := by decide +kernel
theorem dX11_wouldChoose_91 : decode cX11_wouldChoose 91 = .ok (.iload_n 2, 1) := by decide +kernel
theorem dX11_wouldChoose_92 : decode cX11_wouldChoose 92 = .ok (.istore_n 2, 1) := by decide +kernel
theorem dX11_wouldChoose_93 : decode cX11_wouldChoose 93 = .ok (.iinc 3 1, 3) := by decide +kernel
theorem dX11_wouldChoose_96 : decode cX11_wouldChoose 96 = .ok (.goto (-83), 3) := by decide +kernel
theorem dX11_wouldChoose_99 : decode cX11_wouldChoose 99 = .ok (.iload_n 2, 1) := by decide +kernel
theorem dX11_wouldChoose_100 : decode cX11_wouldChoose 100 = .ok (.ireturn, 1) := by decide +kernel
theorem dX11_notContent_0 : decode cX11_notContent 0 = .ok (.iconst 0, 1) := by decide +kernel
theorem dX11_notContent_1 : decode cX11_notContent 1 = .ok (.istore_n 1, 1) := by decide +kernel
theorem dX11_notContent_2 : decode cX11_notContent 2 = .ok (.iconst 0, 1) := by decide +kernel
theorem dX11_notContent_3 : decode cX11_notContent 3 = .ok (.istore_n 2, 1) := by decide +kernel
theorem dX11_notContent_4 : decode cX11_notContent 4 = .ok (.iload_n 2, 1) := by decide +kernel
theorem dX11_notContent_5 : decode cX11_notContent 5 = .ok (.aload_n 0, 1) := by decide +kernel
theorem dX11_notContent_6 : decode cX11_notContent 6 = .ok (.getfield 7, 3) := by decide +kernel
theorem dX11_notContent_9 : decode cX11_notContent 9 = .ok (.iconst 0, 1) := by decide +kernel
theorem dX11_notContent_10 : decode cX11_notContent 10 = .ok (.iaload, 1) := by decide +kernel
theorem dX11_notContent_11 : decode cX11_notContent 11 = .ok (.if_icmp .ge 33, 3) := by decide +kernel
theorem dX11_notContent_14 : decode cX11_notContent 14 = .ok (.iload_n 1, 1) := by decide +kernel
theorem dX11_notContent_15 : decode cX11_notContent 15 = .ok (.aload_n 0, 1) := by decide +kernel
theorem dX11_notContent_16 : decode cX11_notContent 16 = .ok (.iload_n 2, 1) := by decide +kernel
theorem dX11_notContent_17 : decode cX11_notContent 17 = .ok (.invokevirtual 174, 3) := by decide +kernel
theorem dX11_notContent_20 : decode cX11_notContent 20 = .ok (.aload_n 0, 1) := by decide +kernel
theorem dX11_notContent_21 : decode cX11_notContent 21 = .ok (.getfield 45, 3) := by decide +kernel
theorem dX11_notContent_24 : decode cX11_notContent 24 = .ok (.iload_n 2, 1) := by decide +kernel
theorem dX11_notContent_25 : decode cX11_notContent 25 = .ok (.iaload, 1) := by decide +kernel
theorem dX11_notContent_26 : decode cX11_notContent 26 = .ok (.if_icmp .eq 9, 3) := by decide +kernel
theorem dX11_notContent_29 : decode cX11_notContent 29 = .ok (.iconst 1, 1) := by decide +kernel
theorem dX11_notContent_30 : decode cX11_notContent 30 = .ok (.iload_n 2, 1) := by decide +kernel
theorem dX11_notContent_31 : decode cX11_notContent 31 = .ok (.ishl, 1) := by decide +kernel
theorem dX11_notContent_32 : decode cX11_notContent 32 = .ok (.goto 4, 3) := by decide +kernel
theorem dX11_notContent_35 : decode cX11_notContent 35 = .ok (.iconst 0, 1) := by decide +kernel
theorem dX11_notContent_36 : decode cX11_notContent 36 = .ok (.ior, 1) := by decide +kernel
theorem dX11_notContent_37 : decode cX11_notContent 37 = .ok (.istore_n 1, 1) := by decide +kernel
theorem dX11_notContent_38 : decode cX11_notContent 38 = .ok (.iinc 2 1, 3) := by decide +kernel
theorem dX11_notContent_41 : decode cX11_notContent 41 = .ok (.goto (-37), 3) := by decide +kernel
theorem dX11_notContent_44 : decode cX11_notContent 44 = .ok (.iload_n 1, 1) := by decide +kernel
theorem dX11_notContent_45 : decode cX11_notContent 45 = .ok (.ireturn, 1) := by decide +kernel
theorem dX11_turnsInMind_0 : decode cX11_turnsInMind 0 = .ok (.iconst 0, 1) := by decide +kernel
theorem dX11_turnsInMind_1 : decode cX11_turnsInMind 1 = .ok (.istore_n 1, 1) := by decide +kernel
theorem dX11_turnsInMind_2 : decode cX11_turnsInMind 2 = .ok (.iconst 0, 1) := by decide +kernel
theorem dX11_turnsInMind_3 : decode cX11_turnsInMind 3 = .ok (.istore_n 2, 1) := by decide +kernel
theorem dX11_turnsInMind_4 : decode cX11_turnsInMind 4 = .ok (.iload_n 2, 1) := by decide +kernel
theorem dX11_turnsInMind_5 : decode cX11_turnsInMind 5 = .ok (.aload_n 0, 1) := by decide +kernel
theorem dX11_turnsInMind_6 : decode cX11_turnsInMind 6 = .ok (.getfield 7, 3) := by decide +kernel
theorem dX11_turnsInMind_9 : decode cX11_turnsInMind 9 = .ok (.iconst 0, 1) := by decide +kernel
theorem dX11_turnsInMind_10 : decode cX11_turnsInMind 10 = .ok (.iaload, 1) := by decide +kernel
theorem dX11_turnsInMind_11 : decode cX11_turnsInMind 11 = .ok (.if_icmp .ge 20, 3) := by decide +kernel
theorem dX11_turnsInMind_14 : decode cX11_turnsInMind 14 = .ok (.aload_n 0, 1) := by decide +kernel
theorem dX11_turnsInMind_15 : decode cX11_turnsInMind 15 = .ok (.getfield 48, 3) := by decide +kernel
theorem dX11_turnsInMind_18 : decode cX11_turnsInMind 18 = .ok (.iload_n 2, 1) := by decide +kernel
theorem dX11_turnsInMind_19 : decode cX11_turnsInMind 19 = .ok (.aload_n 0, 1) := by decide +kernel
theorem dX11_turnsInMind_20 : decode cX11_turnsInMind 20 = .ok (.iload_n 2, 1) := by decide +kernel
theorem dX11_turnsInMind_21 : decode cX11_turnsInMind 21 = .ok (.invokevirtual 174, 3) := by decide +kernel
theorem dX11_turnsInMind_24 : decode cX11_turnsInMind 24 = .ok (.iastore, 1) := by decide +kernel
theorem dX11_turnsInMind_25 : decode cX11_turnsInMind 25 = .ok (.iinc 2 1, 3) := by decide +kernel
theorem dX11_turnsInMind_28 : decode cX11_turnsInMind 28 = .ok (.goto (-24), 3) := by decide +kernel
theorem dX11_turnsInMind_31 : decode cX11_turnsInMind 31 = .ok (.iconst 0, 1) := by decide +kernel
theorem dX11_turnsInMind_32 : decode cX11_turnsInMind 32 = .ok (.istore_n 2, 1) := by decide +kernel
theorem dX11_turnsInMind_33 : decode cX11_turnsInMind 33 = .ok (.iload_n 2, 1) := by decide +kernel
theorem dX11_turnsInMind_34 : decode cX11_turnsInMind 34 = .ok (.aload_n 0, 1) := by decide +kernel
theorem dX11_turnsInMind_35 : decode cX11_turnsInMind 35 = .ok (.getfield 7, 3) := by decide +kernel
theorem dX11_turnsInMind_38 : decode cX11_turnsInMind 38 = .ok (.iconst 0, 1) := by decide +kernel
theorem dX11_turnsInMind_39 : decode cX11_turnsInMind 39 = .ok (.iaload, 1) := by decide +kernel
theorem dX11_turnsInMind_40 : decode cX11_turnsInMind 40 = .ok (.if_icmp .ge 44, 3) := by decide +kernel
theorem dX11_turnsInMind_43 : decode cX11_turnsInMind 43 = .ok (.iload_n 1, 1) := by decide +kernel
theorem dX11_turnsInMind_44 : decode cX11_turnsInMind 44 = .ok (.aload_n 0, 1) := by decide +kernel
theorem dX11_turnsInMind_45 : decode cX11_turnsInMind 45 = .ok (.getfield 48, 3) := by decide +kernel
theorem dX11_turnsInMind_48 : decode cX11_turnsInMind 48 = .ok (.iload_n 2, 1) := by decide +kernel
theorem dX11_turnsInMind_49 : decode cX11_turnsInMind 49 = .ok (.iaload, 1) := by decide +kernel
theorem dX11_turnsInMind_50 : decode cX11_turnsInMind 50 = .ok (.aload_n 0, 1) := by decide +kernel
theorem dX11_turnsInMind_51 : decode cX11_turnsInMind 51 = .ok (.getfield 45, 3) := by decide +kernel
theorem dX11_turnsInMind_54 : decode cX11_turnsInMind 54 = .ok (.iload_n 2, 1) := by decide +kernel
theorem dX11_turnsInMind_55 : decode cX11_turnsInMind 55 = .ok (.iaload, 1) := by decide +kernel
theorem dX11_turnsInMind_56 : decode cX11_turnsInMind 56 = .ok (.if_icmp .eq 7, 3) := by decide +kernel
theorem dX11_turnsInMind_59 : decode cX11_turnsInMind 59 = .ok (.iconst 1, 1) := by decide +kernel
theorem dX11_turnsInMind_60 : decode cX11_turnsInMind 60 = .ok (.goto 4, 3) := by decide +kernel
theorem dX11_turnsInMind_63 : decode cX11_turnsInMind 63 = .ok (.iconst 0, 1) := by decide +kernel
theorem dX11_turnsInMind_64 : decode cX11_turnsInMind 64 = .ok (.iadd, 1) := by decide +kernel
theorem dX11_turnsInMind_65 : decode cX11_turnsInMind 65 = .ok (.istore_n 1, 1) := by decide +kernel
theorem dX11_turnsInMind_66 : decode cX11_turnsInMind 66 = .ok (.aload_n 0, 1) := by decide +kernel
theorem dX11_turnsInMind_67 : decode cX11_turnsInMind 67 = .ok (.getfield 45, 3) := by decide +kernel
theorem dX11_turnsInMind_70 : decode cX11_turnsInMind 70 = .ok (.iload_n 2, 1) := by decide +kernel
theorem dX11_turnsInMind_71 : decode cX11_turnsInMind 71 = .ok (.aload_n 0, 1) := by decide +kernel
theorem dX11_turnsInMind_72 : decode cX11_turnsInMind 72 = .ok (.getfield 48, 3) := by decide +kernel
theorem dX11_turnsInMind_75 : decode cX11_turnsInMind 75 = .ok (.iload_n 2, 1) := by decide +kernel
theorem dX11_turnsInMind_76 : decode cX11_turnsInMind 76 = .ok (.iaload, 1) := by decide +kernel
theorem dX11_turnsInMind_77 : decode cX11_turnsInMind 77 = .ok (.iastore, 1) := by decide +kernel
theorem dX11_turnsInMind_78 : decode cX11_turnsInMind 78 = .ok (.iinc 2 1, 3) := by decide +kernel
theorem dX11_turnsInMind_81 : decode cX11_turnsInMind 81 = .ok (.goto (-48), 3) := by decide +kernel
theorem dX11_turnsInMind_84 : decode cX11_turnsInMind 84 = .ok (.iload_n 1, 1) := by decide +kernel
theorem dX11_turnsInMind_85 : decode cX11_turnsInMind 85 = .ok (.ireturn, 1) := by decide +kernel
theorem dX11_turnsOnce_0 : decode cX11_turnsOnce 0 = .ok (.aload_n 0, 1) := by decide +kernel
theorem dX11_turnsOnce_1 : decode cX11_turnsOnce 1 = .ok (.invokevirtual 177, 3) := by decide +kernel
theorem dX11_turnsOnce_4 : decode cX11_turnsOnce 4 = .ok (.aload_n 0, 1) := by decide +kernel
theorem dX11_turnsOnce_5 : decode cX11_turnsOnce 5 = .ok (.invokevirtual 180, 3) := by decide +kernel
theorem dX11_turnsOnce_8 : decode cX11_turnsOnce 8 = .ok (.istore_n 1, 1) := by decide +kernel
theorem dX11_turnsOnce_9 : decode cX11_turnsOnce 9 = .ok (.aload_n 0, 1) := by decide +kernel
theorem dX11_turnsOnce_10 : decode cX11_turnsOnce 10 = .ok (.getfield 45, 3) := by decide +kernel
theorem dX11_turnsOnce_13 : decode cX11_turnsOnce 13 = .ok (.iconst 0, 1) := by decide +kernel
theorem dX11_turnsOnce_14 : decode cX11_turnsOnce 14 = .ok (.aload_n 0, 1) := by decide +kernel
theorem dX11_turnsOnce_15 : decode cX11_turnsOnce 15 = .ok (.getfield 7, 3) := by decide +kernel
theorem dX11_turnsOnce_18 : decode cX11_turnsOnce 18 = .ok (.bipush 121, 2) := by decide +kernel
theorem dX11_turnsOnce_20 : decode cX11_turnsOnce 20 = .ok (.bipush 6, 2) := by decide +kernel
theorem dX11_turnsOnce_22 : decode cX11_turnsOnce 22 = .ok (.invokestatic 84, 3) := by decide +kernel
theorem dX11_turnsOnce_25 : decode cX11_turnsOnce 25 = .ok (.iload_n 1, 1) := by decide +kernel
theorem dX11_turnsOnce_26 : decode cX11_turnsOnce 26 = .ok (.ireturn, 1) := by decide +kernel
theorem dX11_chosenSet_0 : decode cX11_chosenSet 0 = .ok (.iconst 0, 1) := by decide +kernel
theorem dX11_chosenSet_1 : decode cX11_chosenSet 1 = .ok (.istore_n 1, 1) := by decide +kernel
theorem dX11_chosenSet_2 : decode cX11_chosenSet 2 = .ok (.iconst 0, 1) := by decide +kernel
theorem dX11_chosenSet_3 : decode cX11_chosenSet 3 = .ok (.istore_n 2, 1) := by decide +kernel
theorem dX11_chosenSet_4 : decode cX11_chosenSet 4 = .ok (.iload_n 2, 1) := by decide +kernel
theorem dX11_chosenSet_5 : decode cX11_chosenSet 5 = .ok (.aload_n 0, 1) := by decide +kernel
theorem dX11_chosenSet_6 : decode cX11_chosenSet 6 = .ok (.getfield 7, 3) := by decide +kernel
theorem dX11_chosenSet_9 : decode cX11_chosenSet 9 = .ok (.iconst 0, 1) := by decide +kernel
theorem dX11_chosenSet_10 : decode cX11_chosenSet 10 = .ok (.iaload, 1) := by decide +kernel
theorem dX11_chosenSet_11 : decode cX11_chosenSet 11 = .ok (.if_icmp .ge 33, 3) := by decide +kernel
theorem dX11_chosenSet_14 : decode cX11_chosenSet 14 = .ok (.iload_n 1, 1) := by decide +kernel
theorem dX11_chosenSet_15 : decode cX11_chosenSet 15 = .ok (.aload_n 0, 1) := by decide +kernel
theorem dX11_chosenSet_16 : decode cX11_chosenSet 16 = .ok (.getfield 7, 3) := by decide +kernel
theorem dX11_chosenSet_19 : decode cX11_chosenSet 19 = .ok (.bipush 121, 2) := by decide +kernel
theorem dX11_chosenSet_21 : decode cX11_chosenSet 21 = .ok (.iload_n 2, 1) := by decide +kernel
theorem dX11_chosenSet_22 : decode cX11_chosenSet 22 = .ok (.iadd, 1) := by decide +kernel
theorem dX11_chosenSet_23 : decode cX11_chosenSet 23 = .ok (.iaload, 1) := by decide +kernel
theorem dX11_chosenSet_24 : decode cX11_chosenSet 24 = .ok (.bipush (-4), 2) := by decide +kernel
theorem dX11_chosenSet_26 : decode cX11_chosenSet 26 = .ok (.if_icmp .eq 9, 3) := by decide +kernel
theorem dX11_chosenSet_29 : decode cX11_chosenSet 29 = .ok (.iconst 1, 1) := by decide +kernel
theorem dX11_chosenSet_30 : decode cX11_chosenSet 30 = .ok (.iload_n 2, 1) := by decide +kernel
theorem dX11_chosenSet_31 : decode cX11_chosenSet 31 = .ok (.ishl, 1) := by decide +kernel
theorem dX11_chosenSet_32 : decode cX11_chosenSet 32 = .ok (.goto 4, 3) := by decide +kernel
theorem dX11_chosenSet_35 : decode cX11_chosenSet 35 = .ok (.iconst 0, 1) := by decide +kernel
theorem dX11_chosenSet_36 : decode cX11_chosenSet 36 = .ok (.ior, 1) := by decide +kernel
theorem dX11_chosenSet_37 : decode cX11_chosenSet 37 = .ok (.istore_n 1, 1) := by decide +kernel
theorem dX11_chosenSet_38 : decode cX11_chosenSet 38 = .ok (.iinc 2 1, 3) := by decide +kernel
theorem dX11_chosenSet_41 : decode cX11_chosenSet 41 = .ok (.goto (-37), 3) := by decide +kernel
theorem dX11_chosenSet_44 : decode cX11_chosenSet 44 = .ok (.iload_n 1, 1) := by decide +kernel
theorem dX11_chosenSet_45 : decode cX11_chosenSet 45 = .ok (.ireturn, 1) := by decide +kernel
theorem dX11_own_0 : decode cX11_own 0 = .ok (.aload_n 0, 1) := by decide +kernel
theorem dX11_own_1 : decode cX11_own 1 = .ok (.iload_n 1, 1) := by decide +kernel
theorem dX11_own_2 : decode cX11_own 2 = .ok (.invokevirtual 92, 3) := by decide +kernel
theorem dX11_own_5 : decode cX11_own 5 = .ok (.ifCond .ne 5, 3) := by decide +kernel
theorem dX11_own_8 : decode cX11_own 8 = .ok (.iconst (-1), 1) := by decide +kernel
theorem dX11_own_9 : decode cX11_own 9 = .ok (.ireturn, 1) := by decide +kernel
theorem dX11_own_10 : decode cX11_own 10 = .ok (.iload_n 2, 1) := by decide +kernel
theorem dX11_own_11 : decode cX11_own 11 = .ok (.tableswitch 83 0 4 #[33, 43, 53, 63, 73], 33) := by decide +kernel
theorem dX11_own_44 : decode cX11_own 44 = .ok (.aload_n 0, 1) := by decide +kernel
theorem dX11_own_45 : decode cX11_own 45 = .ok (.getfield 7, 3) := by decide +kernel
theorem dX11_own_48 : decode cX11_own 48 = .ok (.bipush 109, 2) := by decide +kernel
theorem dX11_own_50 : decode cX11_own 50 = .ok (.iload_n 1, 1) := by decide +kernel
theorem dX11_own_51 : decode cX11_own 51 = .ok (.iadd, 1) := by decide +kernel
theorem dX11_own_52 : decode cX11_own 52 = .ok (.iaload, 1) := by decide +kernel
theorem dX11_own_53 : decode cX11_own 53 = .ok (.ireturn, 1) := by decide +kernel
theorem dX11_own_54 : decode cX11_own 54 = .ok (.aload_n 0, 1) := by decide +kernel
theorem dX11_own_55 : decode cX11_own 55 = .ok (.getfield 7, 3) := by decide +kernel
theorem dX11_own_58 : decode cX11_own 58 = .ok (.bipush 115, 2) := by decide +kernel
theorem dX11_own_60 : decode cX11_own 60 = .ok (.iload_n 1, 1) := by decide +kernel
theorem dX11_own_61 : decode cX11_own 61 = .ok (.iadd, 1) := by decide +kernel
theorem dX11_own_62 : decode cX11_own 62 = .ok (.iaload, 1) := by decide +kernel
theorem dX11_own_63 : decode cX11_own 63 = .ok (.ireturn, 1) := by decide +kernel
theorem dX11_own_64 : decode cX11_own 64 = .ok (.aload_n 0, 1) := by decide +kernel
theorem dX11_own_65 : decode cX11_own 65 = .ok (.invokevirtual 160, 3) := by decide +kernel
theorem dX11_own_68 : decode cX11_own 68 = .ok (.aload_n 0, 1) := by decide +kernel
theorem dX11_own_69 : decode cX11_own 69 = .ok (.iload_n 1, 1) := by decide +kernel
theorem dX11_own_70 : decode cX11_own 70 = .ok (.invokevirtual 184, 3) := by decide +kernel
theorem dX11_own_73 : decode cX11_own 73 = .ok (.ireturn, 1) := by decide +kernel
theorem dX11_own_74 : decode cX11_own 74 = .ok (.aload_n 0, 1) := by decide +kernel
theorem dX11_own_75 : decode cX11_own 75 = .ok (.getfield 7, 3) := by decide +kernel
theorem dX11_own_78 : decode cX11_own 78 = .ok (.bipush 121, 2) := by decide +kernel
theorem dX11_own_80 : decode cX11_own 80 = .ok (.iload_n 1, 1) := by decide +kernel
theorem dX11_own_81 : decode cX11_own 81 = .ok (.iadd, 1) := by decide +kernel
theorem dX11_own_82 : decode cX11_own 82 = .ok (.iaload, 1) := by decide +kernel
theorem dX11_own_83 : decode cX11_own 83 = .ok (.ireturn, 1) := by decide +kernel
theorem dX11_own_84 : decode cX11_own 84 = .ok (.aload_n 0, 1) := by decide +kernel
theorem dX11_own_85 : decode cX11_own 85 = .ok (.invokevirtual 177, 3) := by decide +kernel
theorem dX11_own_88 : decode cX11_own 88 = .ok (.aload_n 0, 1) := by decide +kernel
theorem dX11_own_89 : decode cX11_own 89 = .ok (.iload_n 1, 1) := by decide +kernel
theorem dX11_own_90 : decode cX11_own 90 = .ok (.invokevirtual 174, 3) := by decide +kernel
theorem dX11_own_93 : decode cX11_own 93 = .ok (.ireturn, 1) := by decide +kernel
theorem dX11_own_94 : decode cX11_own 94 = .ok (.iconst (-1), 1) := by decide +kernel
theorem dX11_own_95 : decode cX11_own 95 = .ok (.ireturn, 1) := by decide +kernel
theorem dX11_linkMany_0 : decode cX11_linkMany 0 = .ok (.iconst 0, 1) := by decide +kernel
theorem dX11_linkMany_1 : decode cX11_linkMany 1 = .ok (.istore_n 2, 1) := by decide +kernel
theorem dX11_linkMany_2 : decode cX11_linkMany 2 = .ok (.iconst 0, 1) := by decide +kernel
theorem dX11_linkMany_3 : decode cX11_linkMany 3 = .ok (.istore_n 3, 1) := by decide +kernel
theorem dX11_linkMany_4 : decode cX11_linkMany 4 = .ok (.iload_n 3, 1) := by decide +kernel
theorem dX11_linkMany_5 : decode cX11_linkMany 5 = .ok (.bipush 6, 2) := by decide +kernel
theorem dX11_linkMany_7 : decode cX11_linkMany 7 = .ok (.if_icmp .ge 48, 3) := by decide +kernel
theorem dX11_linkMany_10 : decode cX11_linkMany 10 = .ok (.iconst 0, 1) := by decide +kernel
theorem dX11_linkMany_11 : decode cX11_linkMany 11 = .ok (.istore 4, 2) := by decide +kernel
theorem dX11_linkMany_13 : decode cX11_linkMany 13 = .ok (.iload 4, 2) := by decide +kernel
theorem dX11_linkMany_15 : decode cX11_linkMany 15 = .ok (.iload_n 3, 1) := by decide +kernel
theorem dX11_linkMany_16 : decode cX11_linkMany 16 = .ok (.if_icmp .ge 33, 3) := by decide +kernel
theorem dX11_linkMany_19 : decode cX11_linkMany 19 = .ok (.iload_n 2, 1) := by decide +kernel
theorem dX11_linkMany_20 : decode cX11_linkMany 20 = .ok (.aload_n 0, 1) := by decide +kernel
theorem dX11_linkMany_21 : decode cX11_linkMany 21 = .ok (.getfield 7, 3) := by decide +kernel
theorem dX11_linkMany_24 : decode cX11_linkMany 24 = .ok (.iload_n 1, 1) := by decide +kernel
theorem dX11_linkMany_25 : decode cX11_linkMany 25 = .ok (.iload_n 3, 1) := by decide +kernel
theorem dX11_linkMany_26 : decode cX11_linkMany 26 = .ok (.iload 4, 2) := by decide +kernel
theorem dX11_linkMany_28 : decode cX11_linkMany 28 = .ok (.invokestatic 96, 3) := by decide +kernel
theorem dX11_linkMany_31 : decode cX11_linkMany 31 = .ok (.iadd, 1) := by decide +kernel
theorem dX11_linkMany_32 : decode cX11_linkMany 32 = .ok (.iaload, 1) := by decide +kernel
theorem dX11_linkMany_33 : decode cX11_linkMany 33 = .ok (.ifCond .le 7, 3) := by decide +kernel
theorem dX11_linkMany_36 : decode cX11_linkMany 36 = .ok (.iconst 1, 1) := by decide +kernel
theorem dX11_linkMany_37 : decode cX11_linkMany 37 = .ok (.goto 4, 3) := by decide +kernel
theorem dX11_linkMany_40 : decode cX11_linkMany 40 = .ok (.iconst 0, 1) := by decide +kernel
theorem dX11_linkMany_41 : decode cX11_linkMany 41 = .ok (.iadd, 1) := by decide +kernel
theorem dX11_linkMany_42 : decode cX11_linkMany 42 = .ok (.istore_n 2, 1) := by decide +kernel
theorem dX11_linkMany_43 : decode cX11_linkMany 43 = .ok (.iinc 4 1, 3) := by decide +kernel
theorem dX11_linkMany_46 : decode cX11_linkMany 46 = .ok (.goto (-33), 3) := by decide +kernel
theorem dX11_linkMany_49 : decode cX11_linkMany 49 = .ok (.iinc 3 1, 3) := by decide +kernel
theorem dX11_linkMany_52 : decode cX11_linkMany 52 = .ok (.goto (-48), 3) := by decide +kernel
theorem dX11_linkMany_55 : decode cX11_linkMany 55 = .ok (.iload_n 2, 1) := by decide +kernel
theorem dX11_linkMany_56 : decode cX11_linkMany 56 = .ok (.ireturn, 1) := by decide +kernel
theorem dX11_count_0 : decode cX11_count 0 = .ok (.iload_n 1, 1) := by decide +kernel
theorem dX11_count_1 : decode cX11_count 1 = .ok (.tableswitch 102 0 7 #[47, 54, 60, 67, 72, 81, 90, 97], 47) := by decide +kernel
theorem dX11_count_48 : decode cX11_count 48 = .ok (.aload_n 0, 1) := by decide +kernel
theorem dX11_count_49 : decode cX11_count 49 = .ok (.getfield 7, 3) := by decide +kernel
theorem dX11_count_52 : decode cX11_count 52 = .ok (.iconst 0, 1) := by decide +kernel
theorem dX11_count_53 : decode cX11_count 53 = .ok (.iaload, 1) := by decide +kernel
theorem dX11_count_54 : decode cX11_count 54 = .ok (.ireturn, 1) := by decide +kernel
theorem dX11_count_55 : decode cX11_count 55 = .ok (.aload_n 0, 1) := by decide +kernel
theorem dX11_count_56 : decode cX11_count 56 = .ok (.iconst 1, 1) := by decide +kernel
theorem dX11_count_57 : decode cX11_count 57 = .ok (.invokevirtual 187, 3) := by decide +kernel
theorem dX11_count_60 : decode cX11_count 60 = .ok (.ireturn, 1) := by decide +kernel
theorem dX11_count_61 : decode cX11_count 61 = .ok (.aload_n 0, 1) := by decide +kernel
theorem dX11_count_62 : decode cX11_count 62 = .ok (.bipush 37, 2) := by decide +kernel
theorem dX11_count_64 : decode cX11_count 64 = .ok (.invokevirtual 187, 3) := by decide +kernel
theorem dX11_count_67 : decode cX11_count 67 = .ok (.ireturn, 1) := by decide +kernel
theorem dX11_count_68 : decode cX11_count 68 = .ok (.aload_n 0, 1) := by decide +kernel
theorem dX11_count_69 : decode cX11_count 69 = .ok (.invokevirtual 190, 3) := by decide +kernel
theorem dX11_count_72 : decode cX11_count 72 = .ok (.ireturn, 1) := by decide +kernel
theorem dX11_count_73 : decode cX11_count 73 = .ok (.aload_n 0, 1) := by decide +kernel
theorem dX11_count_74 : decode cX11_count 74 = .ok (.invokevirtual 177, 3) := by decide +kernel
theorem dX11_count_77 : decode cX11_count 77 = .ok (.aload_n 0, 1) := by decide +kernel
theorem dX11_count_78 : decode cX11_count 78 = .ok (.invokevirtual 193, 3) := by decide +kernel
theorem dX11_count_81 : decode cX11_count 81 = .ok (.ireturn, 1) := by decide +kernel
theorem dX11_count_82 : decode cX11_count 82 = .ok (.aload_n 0, 1) := by decide +kernel
theorem dX11_count_83 : decode cX11_count 83 = .ok (.invokevirtual 160, 3) := by decide +kernel
theorem dX11_count_86 : decode cX11_count 86 = .ok (.aload_n 0, 1) := by decide +kernel
theorem dX11_count_87 : decode cX11_count 87 = .ok (.getfield 151, 3) := by decide +kernel
theorem dX11_count_90 : decode cX11_count 90 = .ok (.ireturn, 1) := by decide +kernel
theorem dX11_count_91 : decode cX11_count 91 = .ok (.aload_n 0, 1) := by decide +kernel
theorem dX11_count_92 : decode cX11_count 92 = .ok (.bipush (-4), 2) := by decide +kernel
theorem dX11_count_94 : decode cX11_count 94 = .ok (.invokevirtual 196, 3) := by decide +kernel
theorem dX11_count_97 : decode cX11_count 97 = .ok (.ireturn, 1) := by decide +kernel
theorem dX11_count_98 : decode cX11_count 98 = .ok (.aload_n 0, 1) := by decide +kernel
theorem dX11_count_99 : decode cX11_count 99 = .ok (.getfield 81, 3) := by decide +kernel
theorem dX11_count_102 : decode cX11_count 102 = .ok (.ireturn, 1) := by decide +kernel
theorem dX11_count_103 : decode cX11_count 103 = .ok (.iconst (-1), 1) := by decide +kernel
theorem dX11_count_104 : decode cX11_count 104 = .ok (.ireturn, 1) := by decide +kernel
theorem dX11_turn_0 : decode cX11_turn 0 = .ok (.aload_n 0, 1) := by decide +kernel
theorem dX11_turn_1 : decode cX11_turn 1 = .ok (.invokevirtual 177, 3) := by decide +kernel
theorem dX11_turn_4 : decode cX11_turn 4 = .ok (.aload_n 0, 1) := by decide +kernel
theorem dX11_turn_5 : decode cX11_turn 5 = .ok (.invokevirtual 193, 3) := by decide +kernel
theorem dX11_turn_8 : decode cX11_turn 8 = .ok (.ifCond .ne 5, 3) := by decide +kernel
theorem dX11_turn_11 : decode cX11_turn 11 = .ok (.iconst 0, 1) := by decide +kernel
theorem dX11_turn_12 : decode cX11_turn 12 = .ok (.ireturn, 1) := by decide +kernel
theorem dX11_turn_13 : decode cX11_turn 13 = .ok (.aload_n 0, 1) := by decide +kernel
theorem dX11_turn_14 : decode cX11_turn 14 = .ok (.invokevirtual 106, 3) := by decide +kernel
theorem dX11_turn_17 : decode cX11_turn 17 = .ok (.aload_n 0, 1) := by decide +kernel
theorem dX11_turn_18 : decode cX11_turn 18 = .ok (.invokevirtual 199, 3) := by decide +kernel
theorem dX11_turn_21 : decode cX11_turn 21 = .ok (.ireturn, 1) := by decide +kernel
theorem dX11_choosesAnew_0 : decode cX11_choosesAnew 0 = .ok (.aload_n 0, 1) := by decide +kernel
theorem dX11_choosesAnew_1 : decode cX11_choosesAnew 1 = .ok (.invokevirtual 177, 3) := by decide +kernel
theorem dX11_choosesAnew_4 : decode cX11_choosesAnew 4 = .ok (.aload_n 0, 1) := by decide +kernel
theorem dX11_choosesAnew_5 : decode cX11_choosesAnew 5 = .ok (.iload_n 1, 1) := by decide +kernel
theorem dX11_choosesAnew_6 : decode cX11_choosesAnew 6 = .ok (.invokevirtual 174, 3) := by decide +kernel
theorem dX11_choosesAnew_9 : decode cX11_choosesAnew 9 = .ok (.istore_n 2, 1) := by decide +kernel
theorem dX11_choosesAnew_10 : decode cX11_choosesAnew 10 = .ok (.iload_n 2, 1) := by decide +kernel
theorem dX11_choosesAnew_11 : decode cX11_choosesAnew 11 = .ok (.aload_n 0, 1) := by decide +kernel
theorem dX11_choosesAnew_12 : decode cX11_choosesAnew 12 = .ok (.getfield 7, 3) := by decide +kernel
theorem dX11_choosesAnew_15 : decode cX11_choosesAnew 15 = .ok (.bipush 121, 2) := by decide +kernel
theorem dX11_choosesAnew_17 : decode cX11_choosesAnew 17 = .ok (.iload_n 1, 1) := by decide +kernel
theorem dX11_choosesAnew_18 : decode cX11_choosesAnew 18 = .ok (.iadd, 1) := by decide +kernel
theorem dX11_choosesAnew_19 : decode cX11_choosesAnew 19 = .ok (.iaload, 1) := by decide +kernel
theorem dX11_choosesAnew_20 : decode cX11_choosesAnew 20 = .ok (.if_icmp .eq 7, 3) := by decide +kernel
theorem dX11_choosesAnew_23 : decode cX11_choosesAnew 23 = .ok (.iconst 1, 1) := by decide +kernel
theorem dX11_choosesAnew_24 : decode cX11_choosesAnew 24 = .ok (.goto 4, 3) := by decide +kernel
theorem dX11_choosesAnew_27 : decode cX11_choosesAnew 27 = .ok (.iconst 0, 1) := by decide +kernel
theorem dX11_choosesAnew_28 : decode cX11_choosesAnew 28 = .ok (.istore_n 3, 1) := by decide +kernel
theorem dX11_choosesAnew_29 : decode cX11_choosesAnew 29 = .ok (.aload_n 0, 1) := by decide +kernel
theorem dX11_choosesAnew_30 : decode cX11_choosesAnew 30 = .ok (.getfield 7, 3) := by decide +kernel
theorem dX11_choosesAnew_33 : decode cX11_choosesAnew 33 = .ok (.bipush 121, 2) := by decide +kernel
theorem dX11_choosesAnew_35 : decode cX11_choosesAnew 35 = .ok (.iload_n 1, 1) := by decide +kernel
theorem dX11_choosesAnew_36 : decode cX11_choosesAnew 36 = .ok (.iadd, 1) := by decide +kernel
theorem dX11_choosesAnew_37 : decode cX11_choosesAnew 37 = .ok (.iload_n 2, 1) := by decide +kernel
theorem dX11_choosesAnew_38 : decode cX11_choosesAnew 38 = .ok (.iastore, 1) := by decide +kernel
theorem dX11_choosesAnew_39 : decode cX11_choosesAnew 39 = .ok (.iload_n 3, 1) := by decide +kernel
theorem dX11_choosesAnew_40 : decode cX11_choosesAnew 40 = .ok (.ireturn, 1) := by decide +kernel
theorem dX11_choose_0 : decode cX11_choose 0 = .ok (.aload_n 0, 1) := by decide +kernel
theorem dX11_choose_1 : decode cX11_choose 1 = .ok (.iload_n 1, 1) := by decide +kernel
theorem dX11_choose_2 : decode cX11_choose 2 = .ok (.invokevirtual 92, 3) := by decide +kernel
theorem dX11_choose_5 : decode cX11_choose 5 = .ok (.ifCond .ne 5, 3) := by decide +kernel
theorem dX11_choose_8 : decode cX11_choose 8 = .ok (.iconst (-1), 1) := by decide +kernel
theorem dX11_choose_9 : decode cX11_choose 9 = .ok (.ireturn, 1) := by decide +kernel
theorem dX11_choose_10 : decode cX11_choose 10 = .ok (.aload_n 0, 1) := by decide +kernel
theorem dX11_choose_11 : decode cX11_choose 11 = .ok (.invokevirtual 177, 3) := by decide +kernel
theorem dX11_choose_14 : decode cX11_choose 14 = .ok (.aload_n 0, 1) := by decide +kernel
theorem dX11_choose_15 : decode cX11_choose 15 = .ok (.iload_n 1, 1) := by decide +kernel
theorem dX11_choose_16 : decode cX11_choose 16 = .ok (.invokevirtual 174, 3) := by decide +kernel
theorem dX11_choose_19 : decode cX11_choose 19 = .ok (.aload_n 0, 1) := by decide +kernel
theorem dX11_choose_20 : decode cX11_choose 20 = .ok (.getfield 7, 3) := by decide +kernel
theorem dX11_choose_23 : decode cX11_choose 23 = .ok (.bipush 121, 2) := by decide +kernel
theorem dX11_choose_25 : decode cX11_choose 25 = .ok (.iload_n 1, 1) := by decide +kernel
theorem dX11_choose_26 : decode cX11_choose 26 = .ok (.iadd, 1) := by decide +kernel
theorem dX11_choose_27 : decode cX11_choose 27 = .ok (.iaload, 1) := by decide +kernel
theorem dX11_choose_28 : decode cX11_choose 28 = .ok (.if_icmp .ne 5, 3) := by decide +kernel
theorem dX11_choose_31 : decode cX11_choose 31 = .ok (.iconst 0, 1) := by decide +kernel
theorem dX11_choose_32 : decode cX11_choose 32 = .ok (.ireturn, 1) := by decide +kernel
theorem dX11_choose_33 : decode cX11_choose 33 = .ok (.aload_n 0, 1) := by decide +kernel
theorem dX11_choose_34 : decode cX11_choose 34 = .ok (.invokevirtual 106, 3) := by decide +kernel
theorem dX11_choose_37 : decode cX11_choose 37 = .ok (.aload_n 0, 1) := by decide +kernel
theorem dX11_choose_38 : decode cX11_choose 38 = .ok (.iload_n 1, 1) := by decide +kernel
theorem dX11_choose_39 : decode cX11_choose 39 = .ok (.invokevirtual 202, 3) := by decide +kernel
theorem dX11_choose_42 : decode cX11_choose 42 = .ok (.ireturn, 1) := by decide +kernel
theorem dX11_rest_0 : decode cX11_rest 0 = .ok (.aload_n 0, 1) := by decide +kernel
theorem dX11_rest_1 : decode cX11_rest 1 = .ok (.invokevirtual 177, 3) := by decide +kernel
theorem dX11_rest_4 : decode cX11_rest 4 = .ok (.aload_n 0, 1) := by decide +kernel
theorem dX11_rest_5 : decode cX11_rest 5 = .ok (.invokevirtual 193, 3) := by decide +kernel
theorem dX11_rest_8 : decode cX11_rest 8 = .ok (.ifCond .ne 5, 3) := by decide +kernel
theorem dX11_rest_11 : decode cX11_rest 11 = .ok (.iconst 0, 1) := by decide +kernel
theorem dX11_rest_12 : decode cX11_rest 12 = .ok (.ireturn, 1) := by decide +kernel
theorem dX11_rest_13 : decode cX11_rest 13 = .ok (.aload_n 0, 1) := by decide +kernel
theorem dX11_rest_14 : decode cX11_rest 14 = .ok (.invokevirtual 106, 3) := by decide +kernel
theorem dX11_rest_17 : decode cX11_rest 17 = .ok (.iconst 1, 1) := by decide +kernel
theorem dX11_rest_18 : decode cX11_rest 18 = .ok (.istore_n 1, 1) := by decide +kernel
theorem dX11_rest_19 : decode cX11_rest 19 = .ok (.iload_n 1, 1) := by decide +kernel
theorem dX11_rest_20 : decode cX11_rest 20 = .ok (.bipush 40, 2) := by decide +kernel
theorem dX11_rest_22 : decode cX11_rest 22 = .ok (.if_icmp .gt 23, 3) := by decide +kernel
theorem dX11_rest_25 : decode cX11_rest 25 = .ok (.aload_n 0, 1) := by decide +kernel
theorem dX11_rest_26 : decode cX11_rest 26 = .ok (.invokevirtual 199, 3) := by decide +kernel
theorem dX11_rest_29 : decode cX11_rest 29 = .ok (.pop, 1) := by decide +kernel
theorem dX11_rest_30 : decode cX11_rest 30 = .ok (.aload_n 0, 1) := by decide +kernel
theorem dX11_rest_31 : decode cX11_rest 31 = .ok (.invokevirtual 193, 3) := by decide +kernel
theorem dX11_rest_34 : decode cX11_rest 34 = .ok (.ifCond .ne 5, 3) := by decide +kernel
theorem dX11_rest_37 : decode cX11_rest 37 = .ok (.iload_n 1, 1) := by decide +kernel
theorem dX11_rest_38 : decode cX11_rest 38 = .ok (.ireturn, 1) := by decide +kernel
theorem dX11_rest_39 : decode cX11_rest 39 = .ok (.iinc 1 1, 3) := by decide +kernel
theorem dX11_rest_42 : decode cX11_rest 42 = .ok (.goto (-23), 3) := by decide +kernel
theorem dX11_rest_45 : decode cX11_rest 45 = .ok (.bipush (-4), 2) := by decide +kernel
theorem dX11_rest_47 : decode cX11_rest 47 = .ok (.ireturn, 1) := by decide +kernel
theorem dX11_clear_0 : decode cX11_clear 0 = .ok (.iconst 0, 1) := by decide +kernel
theorem dX11_clear_1 : decode cX11_clear 1 = .ok (.istore_n 1, 1) := by decide +kernel
theorem dX11_clear_2 : decode cX11_clear 2 = .ok (.iconst 1, 1) := by decide +kernel
theorem dX11_clear_3 : decode cX11_clear 3 = .ok (.istore_n 2, 1) := by decide +kernel
theorem dX11_clear_4 : decode cX11_clear 4 = .ok (.iload_n 2, 1) := by decide +kernel
theorem dX11_clear_5 : decode cX11_clear 5 = .ok (.aload_n 0, 1) := by decide +kernel
theorem dX11_clear_6 : decode cX11_clear 6 = .ok (.getfield 7, 3) := by decide +kernel
theorem dX11_clear_9 : decode cX11_clear 9 = .ok (.iconst 0, 1) := by decide +kernel
theorem dX11_clear_10 : decode cX11_clear 10 = .ok (.iaload, 1) := by decide +kernel
theorem dX11_clear_11 : decode cX11_clear 11 = .ok (.if_icmp .ge 31, 3) := by decide +kernel
theorem dX11_clear_14 : decode cX11_clear 14 = .ok (.iload_n 1, 1) := by decide +kernel
theorem dX11_clear_15 : decode cX11_clear 15 = .ok (.aload_n 0, 1) := by decide +kernel
theorem dX11_clear_16 : decode cX11_clear 16 = .ok (.getfield 7, 3) := by decide +kernel
theorem dX11_clear_19 : decode cX11_clear 19 = .ok (.bipush 121, 2) := by decide +kernel
theorem dX11_clear_21 : decode cX11_clear 21 = .ok (.iload_n 2, 1) := by decide +kernel
theorem dX11_clear_22 : decode cX11_clear 22 = .ok (.iadd, 1) := by decide +kernel
theorem dX11_clear_23 : decode cX11_clear 23 = .ok (.iaload, 1) := by decide +kernel
theorem dX11_clear_24 : decode cX11_clear 24 = .ok (.bipush (-4), 2) := by decide +kernel
theorem dX11_clear_26 : decode cX11_clear 26 = .ok (.if_icmp .eq 7, 3) := by decide +kernel
theorem dX11_clear_29 : decode cX11_clear 29 = .ok (.iconst 1, 1) := by decide +kernel
theorem dX11_clear_30 : decode cX11_clear 30 = .ok (.goto 4, 3) := by decide +kernel
theorem dX11_clear_33 : decode cX11_clear 33 = .ok (.iconst 0, 1) := by decide +kernel
theorem dX11_clear_34 : decode cX11_clear 34 = .ok (.iadd, 1) := by decide +kernel
theorem dX11_clear_35 : decode cX11_clear 35 = .ok (.istore_n 1, 1) := by decide +kernel
theorem dX11_clear_36 : decode cX11_clear 36 = .ok (.iinc 2 1, 3) := by decide +kernel
theorem dX11_clear_39 : decode cX11_clear 39 = .ok (.goto (-35), 3) := by decide +kernel
theorem dX11_clear_42 : decode cX11_clear 42 = .ok (.iload_n 1, 1) := by decide +kernel
theorem dX11_clear_43 : decode cX11_clear 43 = .ok (.ifCond .ne 6, 3) := by decide +kernel
theorem dX11_clear_46 : decode cX11_clear 46 = .ok (.bipush (-2), 2) := by decide +kernel
theorem dX11_clear_48 : decode cX11_clear 48 = .ok (.ireturn, 1) := by decide +kernel
theorem dX11_clear_49 : decode cX11_clear 49 = .ok (.aload_n 0, 1) := by decide +kernel
theorem dX11_clear_50 : decode cX11_clear 50 = .ok (.invokevirtual 106, 3) := by decide +kernel
theorem dX11_clear_53 : decode cX11_clear 53 = .ok (.iconst 1, 1) := by decide +kernel
theorem dX11_clear_54 : decode cX11_clear 54 = .ok (.istore_n 2, 1) := by decide +kernel
theorem dX11_clear_55 : decode cX11_clear 55 = .ok (.iload_n 2, 1) := by decide +kernel
theorem dX11_clear_56 : decode cX11_clear 56 = .ok (.bipush 6, 2) := by decide +kernel
theorem dX11_clear_58 : decode cX11_clear 58 = .ok (.if_icmp .ge 20, 3) := by decide +kernel
theorem dX11_clear_61 : decode cX11_clear 61 = .ok (.aload_n 0, 1) := by decide +kernel
theorem dX11_clear_62 : decode cX11_clear 62 = .ok (.getfield 7, 3) := by decide +kernel
theorem dX11_clear_65 : decode cX11_clear 65 = .ok (.bipush 121, 2) := by decide +kernel
theorem dX11_clear_67 : decode cX11_clear 67 = .ok (.iload_n 2, 1) := by decide +kernel
theorem dX11_clear_68 : decode cX11_clear 68 = .ok (.iadd, 1) := by decide +kernel
theorem dX11_clear_69 : decode cX11_clear 69 = .ok (.bipush (-4), 2) := by decide +kernel
theorem dX11_clear_71 : decode cX11_clear 71 = .ok (.iastore, 1) := by decide +kernel
theorem dX11_clear_72 : decode cX11_clear 72 = .ok (.iinc 2 1, 3) := by decide +kernel
theorem dX11_clear_75 : decode cX11_clear 75 = .ok (.goto (-20), 3) := by decide +kernel
theorem dX11_clear_78 : decode cX11_clear 78 = .ok (.iload_n 1, 1) := by decide +kernel
theorem dX11_clear_79 : decode cX11_clear 79 = .ok (.ireturn, 1) := by decide +kernel
theorem dX11_isAsBehind_0 : decode cX11_isAsBehind 0 = .ok (.iconst 1, 1) := by decide +kernel
theorem dX11_isAsBehind_1 : decode cX11_isAsBehind 1 = .ok (.istore_n 2, 1) := by decide +kernel
theorem dX11_isAsBehind_2 : decode cX11_isAsBehind 2 = .ok (.iconst 0, 1) := by decide +kernel
theorem dX11_isAsBehind_3 : decode cX11_isAsBehind 3 = .ok (.istore_n 3, 1) := by decide +kernel
theorem dX11_isAsBehind_4 : decode cX11_isAsBehind 4 = .ok (.iload_n 3, 1) := by decide +kernel
theorem dX11_isAsBehind_5 : decode cX11_isAsBehind 5 = .ok (.bipush 6, 2) := by decide +kernel
theorem dX11_isAsBehind_7 : decode cX11_isAsBehind 7 = .ok (.if_icmp .ge 39, 3) := by decide +kernel
theorem dX11_isAsBehind_10 : decode cX11_isAsBehind 10 = .ok (.iload_n 2, 1) := by decide +kernel
theorem dX11_isAsBehind_11 : decode cX11_isAsBehind 11 = .ok (.ifCond .eq 27, 3) := by decide +kernel
theorem dX11_isAsBehind_14 : decode cX11_isAsBehind 14 = .ok (.aload_n 0, 1) := by decide +kernel
theorem dX11_isAsBehind_15 : decode cX11_isAsBehind 15 = .ok (.getfield 51, 3) := by decide +kernel
theorem dX11_isAsBehind_18 : decode cX11_isAsBehind 18 = .ok (.bipush 6, 2) := by decide +kernel
theorem dX11_isAsBehind_20 : decode cX11_isAsBehind 20 = .ok (.iload_n 1, 1) := by decide +kernel
theorem dX11_isAsBehind_21 : decode cX11_isAsBehind 21 = .ok (.imul, 1) := by decide +kernel
theorem dX11_isAsBehind_22 : decode cX11_isAsBehind 22 = .ok (.iload_n 3, 1) := by decide +kernel
theorem dX11_isAsBehind_23 : decode cX11_isAsBehind 23 = .ok (.iadd, 1) := by decide +kernel
theorem dX11_isAsBehind_24 : decode cX11_isAsBehind 24 = .ok (.iaload, 1) := by decide +kernel
theorem dX11_isAsBehind_25 : decode cX11_isAsBehind 25 = .ok (.aload_n 0, 1) := by decide +kernel
theorem dX11_isAsBehind_26 : decode cX11_isAsBehind 26 = .ok (.getfield 45, 3) := by decide +kernel
theorem dX11_isAsBehind_29 : decode cX11_isAsBehind 29 = .ok (.iload_n 3, 1) := by decide +kernel
theorem dX11_isAsBehind_30 : decode cX11_isAsBehind 30 = .ok (.iaload, 1) := by decide +kernel
theorem dX11_isAsBehind_31 : decode cX11_isAsBehind 31 = .ok (.if_icmp .ne 7, 3) := by decide +kernel
theorem dX11_isAsBehind_34 : decode cX11_isAsBehind 34 = .ok (.iconst 1, 1) := by decide +kernel
theorem dX11_isAsBehind_35 : decode cX11_isAsBehind 35 = .ok (.goto 4, 3) := by decide +kernel
theorem dX11_isAsBehind_38 : decode cX11_isAsBehind 38 = .ok (.iconst 0, 1) := by decide +kernel
theorem dX11_isAsBehind_39 : decode cX11_isAsBehind 39 = .ok (.istore_n 2, 1) := by decide +kernel
theorem dX11_isAsBehind_40 : decode cX11_isAsBehind 40 = .ok (.iinc 3 1, 3) := by decide +kernel
theorem dX11_isAsBehind_43 : decode cX11_isAsBehind 43 = .ok (.goto (-39), 3) := by decide +kernel
theorem dX11_isAsBehind_46 : decode cX11_isAsBehind 46 = .ok (.iload_n 2, 1) := by decide +kernel
theorem dX11_isAsBehind_47 : decode cX11_isAsBehind 47 = .ok (.ireturn, 1) := by decide +kernel
theorem dX11_foreseen_0 : decode cX11_foreseen 0 = .ok (.iload_n 1, 1) := by decide +kernel
theorem dX11_foreseen_1 : decode cX11_foreseen 1 = .ok (.i2l, 1) := by decide +kernel
theorem dX11_foreseen_2 : decode cX11_foreseen 2 = .ok (.lconst 0, 1) := by decide +kernel
theorem dX11_foreseen_3 : decode cX11_foreseen 3 = .ok (.ldc2_w 121, 3) := by decide +kernel
theorem dX11_foreseen_6 : decode cX11_foreseen 6 = .ok (.invokestatic 88, 3) := by decide +kernel
theorem dX11_foreseen_9 : decode cX11_foreseen 9 = .ok (.ifCond .ne 5, 3) := by decide +kernel
theorem dX11_foreseen_12 : decode cX11_foreseen 12 = .ok (.iconst (-1), 1) := by decide +kernel
theorem dX11_foreseen_13 : decode cX11_foreseen 13 = .ok (.ireturn, 1) := by decide +kernel
theorem dX11_foreseen_14 : decode cX11_foreseen 14 = .ok (.aload_n 0, 1) := by decide +kernel
theorem dX11_foreseen_15 : decode cX11_foreseen 15 = .ok (.invokevirtual 177, 3) := by decide +kernel
theorem dX11_foreseen_18 : decode cX11_foreseen 18 = .ok (.aload_n 0, 1) := by decide +kernel
theorem dX11_foreseen_19 : decode cX11_foreseen 19 = .ok (.getfield 45, 3) := by decide +kernel
theorem dX11_foreseen_22 : decode cX11_foreseen 22 = .ok (.iconst 0, 1) := by decide +kernel
theorem dX11_foreseen_23 : decode cX11_foreseen 23 = .ok (.aload_n 0, 1) := by decide +kernel
theorem dX11_foreseen_24 : decode cX11_foreseen 24 = .ok (.getfield 51, 3) := by decide +kernel
theorem dX11_foreseen_27 : decode cX11_foreseen 27 = .ok (.iconst 0, 1) := by decide +kernel
theorem dX11_foreseen_28 : decode cX11_foreseen 28 = .ok (.bipush 6, 2) := by decide +kernel
theorem dX11_foreseen_30 : decode cX11_foreseen 30 = .ok (.invokestatic 84, 3) := by decide +kernel
theorem dX11_foreseen_33 : decode cX11_foreseen 33 = .ok (.iconst 1, 1) := by decide +kernel
theorem dX11_foreseen_34 : decode cX11_foreseen 34 = .ok (.istore_n 2, 1) := by decide +kernel
theorem dX11_foreseen_35 : decode cX11_foreseen 35 = .ok (.iload_n 2, 1) := by decide +kernel
theorem dX11_foreseen_36 : decode cX11_foreseen 36 = .ok (.bipush 60, 2) := by decide +kernel
theorem dX11_foreseen_38 : decode cX11_foreseen 38 = .ok (.if_icmp .gt 83, 3) := by decide +kernel
theorem dX11_foreseen_41 : decode cX11_foreseen 41 = .ok (.aload_n 0, 1) := by decide +kernel
theorem dX11_foreseen_42 : decode cX11_foreseen 42 = .ok (.invokevirtual 180, 3) := by decide +kernel
theorem dX11_foreseen_45 : decode cX11_foreseen 45 = .ok (.pop, 1) := by decide +kernel
theorem dX11_foreseen_46 : decode cX11_foreseen 46 = .ok (.iconst 0, 1) := by decide +kernel
theorem dX11_foreseen_47 : decode cX11_foreseen 47 = .ok (.istore_n 3, 1) := by decide +kernel
theorem dX11_foreseen_48 : decode cX11_foreseen 48 = .ok (.iload_n 3, 1) := by decide +kernel
theorem dX11_foreseen_49 : decode cX11_foreseen 49 = .ok (.iload_n 2, 1) := by decide +kernel
theorem dX11_foreseen_50 : decode cX11_foreseen 50 = .ok (.if_icmp .ge 47, 3) := by decide +kernel
theorem dX11_foreseen_53 : decode cX11_foreseen 53 = .ok (.aload_n 0, 1) := by decide +kernel
theorem dX11_foreseen_54 : decode cX11_foreseen 54 = .ok (.iload_n 3, 1) := by decide +kernel
theorem dX11_foreseen_55 : decode cX11_foreseen 55 = .ok (.invokevirtual 205, 3) := by decide +kernel
theorem dX11_foreseen_58 : decode cX11_foreseen 58 = .ok (.ifCond .eq 33, 3) := by decide +kernel
theorem dX11_foreseen_61 : decode cX11_foreseen 61 = .ok (.iload_n 1, 1) := by decide +kernel
theorem dX11_foreseen_62 : decode cX11_foreseen 62 = .ok (.iconst 1, 1) := by decide +kernel
theorem dX11_foreseen_63 : decode cX11_foreseen 63 = .ok (.if_icmp .ne 9, 3) := by decide +kernel
theorem dX11_foreseen_66 : decode cX11_foreseen 66 = .ok (.iload_n 2, 1) := by decide +kernel
theorem dX11_foreseen_67 : decode cX11_foreseen 67 = .ok (.iload_n 3, 1) := by decide +kernel
theorem dX11_foreseen_68 : decode cX11_foreseen 68 = .ok (.isub, 1) := by decide +kernel
theorem dX11_foreseen_69 : decode cX11_foreseen 69 = .ok (.goto 21, 3) := by decide +kernel
theorem dX11_foreseen_72 : decode cX11_foreseen 72 = .ok (.iload_n 1, 1) := by decide +kernel
theorem dX11_foreseen_73 : decode cX11_foreseen 73 = .ok (.iconst 2, 1) := by decide +kernel
theorem dX11_foreseen_74 : decode cX11_foreseen 74 = .ok (.if_icmp .eq 10, 3) := by decide +kernel
theorem dX11_foreseen_77 : decode cX11_foreseen 77 = .ok (.iload_n 2, 1) := by decide +kernel
theorem dX11_foreseen_78 : decode cX11_foreseen 78 = .ok (.iload_n 3, 1) := by decide +kernel
theorem dX11_foreseen_79 : decode cX11_foreseen 79 = .ok (.isub, 1) := by decide +kernel
theorem dX11_foreseen_80 : decode cX11_foreseen 80 = .ok (.iconst 1, 1) := by decide +kernel
theorem dX11_foreseen_81 : decode cX11_foreseen 81 = .ok (.if_icmp .ne 7, 3) := by decide +kernel
theorem dX11_foreseen_84 : decode cX11_foreseen 84 = .ok (.iload_n 3, 1) := by decide +kernel
theorem dX11_foreseen_85 : decode cX11_foreseen 85 = .ok (.goto 5, 3) := by decide +kernel
theorem dX11_foreseen_88 : decode cX11_foreseen 88 = .ok (.bipush (-4), 2) := by decide +kernel
theorem dX11_foreseen_90 : decode cX11_foreseen 90 = .ok (.ireturn, 1) := by decide +kernel
theorem dX11_foreseen_91 : decode cX11_foreseen 91 = .ok (.iinc 3 1, 3) := by decide +kernel
theorem dX11_foreseen_94 : decode cX11_foreseen 94 = .ok (.goto (-46), 3) := by decide +kernel
theorem dX11_foreseen_97 : decode cX11_foreseen 97 = .ok (.aload_n 0, 1) := by decide +kernel
theorem dX11_foreseen_98 : decode cX11_foreseen 98 = .ok (.getfield 45, 3) := by decide +kernel
theorem dX11_foreseen_101 : decode cX11_foreseen 101 = .ok (.iconst 0, 1) := by decide +kernel
theorem dX11_foreseen_102 : decode cX11_foreseen 102 = .ok (.aload_n 0, 1) := by decide +kernel
theorem dX11_foreseen_103 : decode cX11_foreseen 103 = .ok (.getfield 51, 3) := by decide +kernel
theorem dX11_foreseen_106 : decode cX11_foreseen 106 = .ok (.bipush 6, 2) := by decide +kernel
theorem dX11_foreseen_108 : decode cX11_foreseen 108 = .ok (.iload_n 2, 1) := by decide +kernel
theorem dX11_foreseen_109 : decode cX11_foreseen 109 = .ok (.imul, 1) := by decide +kernel
theorem dX11_foreseen_110 : decode cX11_foreseen 110 = .ok (.bipush 6, 2) := by decide +kernel
theorem dX11_foreseen_112 : decode cX11_foreseen 112 = .ok (.invokestatic 84, 3) := by decide +kernel
theorem dX11_foreseen_115 : decode cX11_foreseen 115 = .ok (.iinc 2 1, 3) := by decide +kernel
theorem dX11_foreseen_118 : decode cX11_foreseen 118 = .ok (.goto (-83), 3) := by decide +kernel
theorem dX11_foreseen_121 : decode cX11_foreseen 121 = .ok (.bipush (-4), 2) := by decide +kernel
theorem dX11_foreseen_123 : decode cX11_foreseen 123 = .ok (.ireturn, 1) := by decide +kernel
theorem dX11_wayBy_0 : decode cX11_wayBy 0 = .ok (.iload_n 1, 1) := by decide +kernel
theorem dX11_wayBy_1 : decode cX11_wayBy 1 = .ok (.istore_n 2, 1) := by decide +kernel
theorem dX11_wayBy_2 : decode cX11_wayBy 2 = .ok (.iload_n 1, 1) := by decide +kernel
theorem dX11_wayBy_3 : decode cX11_wayBy 3 = .ok (.istore_n 3, 1) := by decide +kernel
theorem dX11_wayBy_4 : decode cX11_wayBy 4 = .ok (.iconst 0, 1) := by decide +kernel
theorem dX11_wayBy_5 : decode cX11_wayBy 5 = .ok (.istore 4, 2) := by decide +kernel
theorem dX11_wayBy_7 : decode cX11_wayBy 7 = .ok (.iload 4, 2) := by decide +kernel
theorem dX11_wayBy_9 : decode cX11_wayBy 9 = .ok (.bipush 6, 2) := by decide +kernel
theorem dX11_wayBy_11 : decode cX11_wayBy 11 = .ok (.if_icmp .ge 43, 3) := by decide +kernel
theorem dX11_wayBy_14 : decode cX11_wayBy 14 = .ok (.iload_n 3, 1) := by decide +kernel
theorem dX11_wayBy_15 : decode cX11_wayBy 15 = .ok (.ifCond .eq 39, 3) := by decide +kernel
theorem dX11_wayBy_18 : decode cX11_wayBy 18 = .ok (.iload_n 3, 1) := by decide +kernel
theorem dX11_wayBy_19 : decode cX11_wayBy 19 = .ok (.bipush 9, 2) := by decide +kernel
theorem dX11_wayBy_21 : decode cX11_wayBy 21 = .ok (.if_icmp .eq 33, 3) := by decide +kernel
theorem dX11_wayBy_24 : decode cX11_wayBy 24 = .ok (.aload_n 0, 1) := by decide +kernel
theorem dX11_wayBy_25 : decode cX11_wayBy 25 = .ok (.getfield 54, 3) := by decide +kernel
theorem dX11_wayBy_28 : decode cX11_wayBy 28 = .ok (.iload_n 3, 1) := by decide +kernel
theorem dX11_wayBy_29 : decode cX11_wayBy 29 = .ok (.iaload, 1) := by decide +kernel
theorem dX11_wayBy_30 : decode cX11_wayBy 30 = .ok (.istore_n 3, 1) := by decide +kernel
theorem dX11_wayBy_31 : decode cX11_wayBy 31 = .ok (.iload_n 3, 1) := by decide +kernel
theorem dX11_wayBy_32 : decode cX11_wayBy 32 = .ok (.bipush 9, 2) := by decide +kernel
theorem dX11_wayBy_34 : decode cX11_wayBy 34 = .ok (.if_icmp .ne 7, 3) := by decide +kernel
theorem dX11_wayBy_37 : decode cX11_wayBy 37 = .ok (.iload_n 2, 1) := by decide +kernel
theorem dX11_wayBy_38 : decode cX11_wayBy 38 = .ok (.goto 9, 3) := by decide +kernel
theorem dX11_wayBy_41 : decode cX11_wayBy 41 = .ok (.bipush 10, 2) := by decide +kernel
theorem dX11_wayBy_43 : decode cX11_wayBy 43 = .ok (.iload_n 2, 1) := by decide +kernel
theorem dX11_wayBy_44 : decode cX11_wayBy 44 = .ok (.imul, 1) := by decide +kernel
theorem dX11_wayBy_45 : decode cX11_wayBy 45 = .ok (.iload_n 3, 1) := by decide +kernel
theorem dX11_wayBy_46 : decode cX11_wayBy 46 = .ok (.iadd, 1) := by decide +kernel
theorem dX11_wayBy_47 : decode cX11_wayBy 47 = .ok (.istore_n 2, 1) := by decide +kernel
theorem dX11_wayBy_48 : decode cX11_wayBy 48 = .ok (.iinc 4 1, 3) := by decide +kernel
theorem dX11_wayBy_51 : decode cX11_wayBy 51 = .ok (.goto (-44), 3) := by decide +kernel
theorem dX11_wayBy_54 : decode cX11_wayBy 54 = .ok (.iload_n 3, 1) := by decide +kernel
theorem dX11_wayBy_55 : decode cX11_wayBy 55 = .ok (.ifCond .ne 7, 3) := by decide +kernel
theorem dX11_wayBy_58 : decode cX11_wayBy 58 = .ok (.iload_n 2, 1) := by decide +kernel
theorem dX11_wayBy_59 : decode cX11_wayBy 59 = .ok (.goto 5, 3) := by decide +kernel
theorem dX11_wayBy_62 : decode cX11_wayBy 62 = .ok (.bipush (-4), 2) := by decide +kernel
theorem dX11_wayBy_64 : decode cX11_wayBy 64 = .ok (.ireturn, 1) := by decide +kernel
theorem dX11_thinksOfNexts_0 : decode cX11_thinksOfNexts 0 = .ok (.iconst 1, 1) := by decide +kernel
theorem dX11_thinksOfNexts_1 : decode cX11_thinksOfNexts 1 = .ok (.istore_n 1, 1) := by decide +kernel
theorem dX11_thinksOfNexts_2 : decode cX11_thinksOfNexts 2 = .ok (.iconst 0, 1) := by decide +kernel
theorem dX11_thinksOfNexts_3 : decode cX11_thinksOfNexts 3 = .ok (.istore_n 2, 1) := by decide +kernel
theorem dX11_thinksOfNexts_4 : decode cX11_thinksOfNexts 4 = .ok (.iload_n 2, 1) := by decide +kernel
theorem dX11_thinksOfNexts_5 : decode cX11_thinksOfNexts 5 = .ok (.bipush 6, 2) := by decide +kernel
theorem dX11_thinksOfNexts_7 : decode cX11_thinksOfNexts 7 = .ok (.if_icmp .ge 89, 3) := by decide +kernel
theorem dX11_thinksOfNexts_10 : decode cX11_thinksOfNexts 10 = .ok (.aload_n 0, 1) := by decide +kernel
theorem dX11_thinksOfNexts_11 : decode cX11_thinksOfNexts 11 = .ok (.getfield 45, 3) := by decide +kernel
theorem dX11_thinksOfNexts_14 : decode cX11_thinksOfNexts 14 = .ok (.iload_n 2, 1) := by decide +kernel
theorem dX11_thinksOfNexts_15 : decode cX11_thinksOfNexts 15 = .ok (.iload_n 2, 1) := by decide +kernel
theorem dX11_thinksOfNexts_16 : decode cX11_thinksOfNexts 16 = .ok (.ifCond .ne 7, 3) := by decide +kernel
theorem dX11_thinksOfNexts_19 : decode cX11_thinksOfNexts 19 = .ok (.iconst 0, 1) := by decide +kernel
theorem dX11_thinksOfNexts_20 : decode cX11_thinksOfNexts 20 = .ok (.goto 23, 3) := by decide +kernel
theorem dX11_thinksOfNexts_23 : decode cX11_thinksOfNexts 23 = .ok (.iload_n 2, 1) := by decide +kernel
theorem dX11_thinksOfNexts_24 : decode cX11_thinksOfNexts 24 = .ok (.aload_n 0, 1) := by decide +kernel
theorem dX11_thinksOfNexts_25 : decode cX11_thinksOfNexts 25 = .ok (.getfield 7, 3) := by decide +kernel
theorem dX11_thinksOfNexts_28 : decode cX11_thinksOfNexts 28 = .ok (.iconst 0, 1) := by decide +kernel
theorem dX11_thinksOfNexts_29 : decode cX11_thinksOfNexts 29 = .ok (.iaload, 1) := by decide +kernel
theorem dX11_thinksOfNexts_30 : decode cX11_thinksOfNexts 30 = .ok (.if_icmp .ge 11, 3) := by decide +kernel
theorem dX11_thinksOfNexts_33 : decode cX11_thinksOfNexts 33 = .ok (.aload_n 0, 1) := by decide +kernel
theorem dX11_thinksOfNexts_34 : decode cX11_thinksOfNexts 34 = .ok (.iload_n 2, 1) := by decide +kernel
theorem dX11_thinksOfNexts_35 : decode cX11_thinksOfNexts 35 = .ok (.invokevirtual 208, 3) := by decide +kernel
theorem dX11_thinksOfNexts_38 : decode cX11_thinksOfNexts 38 = .ok (.goto 5, 3) := by decide +kernel
theorem dX11_thinksOfNexts_41 : decode cX11_thinksOfNexts 41 = .ok (.bipush (-4), 2) := by decide +kernel
theorem dX11_thinksOfNexts_43 : decode cX11_thinksOfNexts 43 = .ok (.iastore, 1) := by decide +kernel
theorem dX11_thinksOfNexts_44 : decode cX11_thinksOfNexts 44 = .ok (.iload_n 1, 1) := by decide +kernel
theorem dX11_thinksOfNexts_45 : decode cX11_thinksOfNexts 45 = .ok (.ifCond .eq 43, 3) := by decide +kernel
theorem dX11_thinksOfNexts_48 : decode cX11_thinksOfNexts 48 = .ok (.iload_n 2, 1) := by decide +kernel
theorem dX11_thinksOfNexts_49 : decode cX11_thinksOfNexts 49 = .ok (.ifCond .eq 35, 3) := by decide +kernel
theorem dX11_thinksOfNexts_52 : decode cX11_thinksOfNexts 52 = .ok (.iload_n 2, 1) := by decide +kernel
theorem dX11_thinksOfNexts_53 : decode cX11_thinksOfNexts 53 = .ok (.aload_n 0, 1) := by decide +kernel
theorem dX11_thinksOfNexts_54 : decode cX11_thinksOfNexts 54 = .ok (.getfield 7, 3) := by decide +kernel
theorem dX11_thinksOfNexts_57 : decode cX11_thinksOfNexts 57 = .ok (.iconst 0, 1) := by decide +kernel
theorem dX11_thinksOfNexts_58 : decode cX11_thinksOfNexts 58 = .ok (.iaload, 1) := by decide +kernel
theorem dX11_thinksOfNexts_59 : decode cX11_thinksOfNexts 59 = .ok (.if_icmp .ge 25, 3) := by decide +kernel
theorem dX11_thinksOfNexts_62 : decode cX11_thinksOfNexts 62 = .ok (.aload_n 0, 1) := by decide +kernel
theorem dX11_thinksOfNexts_63 : decode cX11_thinksOfNexts 63 = .ok (.getfield 54, 3) := by decide +kernel
theorem dX11_thinksOfNexts_66 : decode cX11_thinksOfNexts 66 = .ok (.iload_n 2, 1) := by decide +kernel
theorem dX11_thinksOfNexts_67 : decode cX11_thinksOfNexts 67 = .ok (.iaload, 1) := by decide +kernel
theorem dX11_thinksOfNexts_68 : decode cX11_thinksOfNexts 68 = .ok (.bipush 9, 2) := by decide +kernel
theorem dX11_thinksOfNexts_70 : decode cX11_thinksOfNexts 70 = .ok (.if_icmp .eq 14, 3) := by decide +kernel
theorem dX11_thinksOfNexts_73 : decode cX11_thinksOfNexts 73 = .ok (.aload_n 0, 1) := by decide +kernel
theorem dX11_thinksOfNexts_74 : decode cX11_thinksOfNexts 74 = .ok (.getfield 45, 3) := by decide +kernel
theorem dX11_thinksOfNexts_77 : decode cX11_thinksOfNexts 77 = .ok (.iload_n 2, 1) := by decide +kernel
theorem dX11_thinksOfNexts_78 : decode cX11_thinksOfNexts 78 = .ok (.iaload, 1) := by decide +kernel
theorem dX11_thinksOfNexts_79 : decode cX11_thinksOfNexts 79 = .ok (.bipush (-4), 2) := by decide +kernel
theorem dX11_thinksOfNexts_81 : decode cX11_thinksOfNexts 81 = .ok (.if_icmp .eq 7, 3) := by decide +kernel
theorem dX11_thinksOfNexts_84 : decode cX11_thinksOfNexts 84 = .ok (.iconst 1, 1) := by decide +kernel
theorem dX11_thinksOfNexts_85 : decode cX11_thinksOfNexts 85 = .ok (.goto 4, 3) := by decide +kernel
theorem dX11_thinksOfNexts_88 : decode cX11_thinksOfNexts 88 = .ok (.iconst 0, 1) := by decide +kernel
theorem dX11_thinksOfNexts_89 : decode cX11_thinksOfNexts 89 = .ok (.istore_n 1, 1) := by decide +kernel
theorem dX11_thinksOfNexts_90 : decode cX11_thinksOfNexts 90 = .ok (.iinc 2 1, 3) := by decide +kernel
theorem dX11_thinksOfNexts_93 : decode cX11_thinksOfNexts 93 = .ok (.goto (-89), 3) := by decide +kernel
theorem dX11_thinksOfNexts_96 : decode cX11_thinksOfNexts 96 = .ok (.iload_n 1, 1) := by decide +kernel
theorem dX11_thinksOfNexts_97 : decode cX11_thinksOfNexts 97 = .ok (.ireturn, 1) := by decide +kernel
theorem dX11_nextOne_0 : decode cX11_nextOne 0 = .ok (.iload_n 2, 1) := by decide +kernel
theorem dX11_nextOne_1 : decode cX11_nextOne 1 = .ok (.iconst 1, 1) := by decide +kernel
theorem dX11_nextOne_2 : decode cX11_nextOne 2 = .ok (.iadd, 1) := by decide +kernel
theorem dX11_nextOne_3 : decode cX11_nextOne 3 = .ok (.istore_n 3, 1) := by decide +kernel
theorem dX11_nextOne_4 : decode cX11_nextOne 4 = .ok (.iload_n 3, 1) := by decide +kernel
theorem dX11_nextOne_5 : decode cX11_nextOne 5 = .ok (.iload_n 3, 1) := by decide +kernel
theorem dX11_nextOne_6 : decode cX11_nextOne 6 = .ok (.iload_n 1, 1) := by decide +kernel
theorem dX11_nextOne_7 : decode cX11_nextOne 7 = .ok (.if_icmp .ne 7, 3) := by decide +kernel
theorem dX11_nextOne_10 : decode cX11_nextOne 10 = .ok (.iconst 1, 1) := by decide +kernel
theorem dX11_nextOne_11 : decode cX11_nextOne 11 = .ok (.goto 4, 3) := by decide +kernel
theorem dX11_nextOne_14 : decode cX11_nextOne 14 = .ok (.iconst 0, 1) := by decide +kernel
theorem dX11_nextOne_15 : decode cX11_nextOne 15 = .ok (.iadd, 1) := by decide +kernel
theorem dX11_nextOne_16 : decode cX11_nextOne 16 = .ok (.istore_n 3, 1) := by decide +kernel
theorem dX11_nextOne_17 : decode cX11_nextOne 17 = .ok (.iload_n 3, 1) := by decide +kernel
theorem dX11_nextOne_18 : decode cX11_nextOne 18 = .ok (.aload_n 0, 1) := by decide +kernel
theorem dX11_nextOne_19 : decode cX11_nextOne 19 = .ok (.getfield 7, 3) := by decide +kernel
theorem dX11_nextOne_22 : decode cX11_nextOne 22 = .ok (.iconst 0, 1) := by decide +kernel
theorem dX11_nextOne_23 : decode cX11_nextOne 23 = .ok (.iaload, 1) := by decide +kernel
theorem dX11_nextOne_24 : decode cX11_nextOne 24 = .ok (.if_icmp .ge 7, 3) := by decide +kernel
theorem dX11_nextOne_27 : decode cX11_nextOne 27 = .ok (.iload_n 3, 1) := by decide +kernel
theorem dX11_nextOne_28 : decode cX11_nextOne 28 = .ok (.goto 5, 3) := by decide +kernel
theorem dX11_nextOne_31 : decode cX11_nextOne 31 = .ok (.bipush 9, 2) := by decide +kernel
theorem dX11_nextOne_33 : decode cX11_nextOne 33 = .ok (.ireturn, 1) := by decide +kernel
theorem dX11_goesOn_0 : decode cX11_goesOn 0 = .ok (.aload_n 0, 1) := by decide +kernel
theorem dX11_goesOn_1 : decode cX11_goesOn 1 = .ok (.getfield 7, 3) := by decide +kernel
theorem dX11_goesOn_4 : decode cX11_goesOn 4 = .ok (.iconst 0, 1) := by decide +kernel
theorem dX11_goesOn_5 : decode cX11_goesOn 5 = .ok (.iaload, 1) := by decide +kernel
theorem dX11_goesOn_6 : decode cX11_goesOn 6 = .ok (.iconst 1, 1) := by decide +kernel
theorem dX11_goesOn_7 : decode cX11_goesOn 7 = .ok (.isub, 1) := by decide +kernel
theorem dX11_goesOn_8 : decode cX11_goesOn 8 = .ok (.istore_n 1, 1) := by decide +kernel
theorem dX11_goesOn_9 : decode cX11_goesOn 9 = .ok (.iload_n 1, 1) := by decide +kernel
theorem dX11_goesOn_10 : decode cX11_goesOn 10 = .ok (.ifCond .le 32, 3) := by decide +kernel
theorem dX11_goesOn_13 : decode cX11_goesOn 13 = .ok (.aload_n 0, 1) := by decide +kernel
theorem dX11_goesOn_14 : decode cX11_goesOn 14 = .ok (.getfield 54, 3) := by decide +kernel
theorem dX11_goesOn_17 : decode cX11_goesOn 17 = .ok (.iload_n 1, 1) := by decide +kernel
theorem dX11_goesOn_18 : decode cX11_goesOn 18 = .ok (.iaload, 1) := by decide +kernel
theorem dX11_goesOn_19 : decode cX11_goesOn 19 = .ok (.bipush 9, 2) := by decide +kernel
theorem dX11_goesOn_21 : decode cX11_goesOn 21 = .ok (.if_icmp .ne 21, 3) := by decide +kernel
theorem dX11_goesOn_24 : decode cX11_goesOn 24 = .ok (.aload_n 0, 1) := by decide +kernel
theorem dX11_goesOn_25 : decode cX11_goesOn 25 = .ok (.getfield 54, 3) := by decide +kernel
theorem dX11_goesOn_28 : decode cX11_goesOn 28 = .ok (.iload_n 1, 1) := by decide +kernel
theorem dX11_goesOn_29 : decode cX11_goesOn 29 = .ok (.aload_n 0, 1) := by decide +kernel
theorem dX11_goesOn_30 : decode cX11_goesOn 30 = .ok (.iload_n 1, 1) := by decide +kernel
theorem dX11_goesOn_31 : decode cX11_goesOn 31 = .ok (.iconst (-1), 1) := by decide +kernel
theorem dX11_goesOn_32 : decode cX11_goesOn 32 = .ok (.invokevirtual 211, 3) := by decide +kernel
theorem dX11_goesOn_35 : decode cX11_goesOn 35 = .ok (.iastore, 1) := by decide +kernel
theorem dX11_goesOn_36 : decode cX11_goesOn 36 = .ok (.iinc 1 (-1), 3) := by decide +kernel
theorem dX11_goesOn_39 : decode cX11_goesOn 39 = .ok (.goto (-30), 3) := by decide +kernel
theorem dX11_goesOn_42 : decode cX11_goesOn 42 = .ok (.iload_n 1, 1) := by decide +kernel
theorem dX11_goesOn_43 : decode cX11_goesOn 43 = .ok (.ifCond .le 20, 3) := by decide +kernel
theorem dX11_goesOn_46 : decode cX11_goesOn 46 = .ok (.aload_n 0, 1) := by decide +kernel
theorem dX11_goesOn_47 : decode cX11_goesOn 47 = .ok (.getfield 54, 3) := by decide +kernel
theorem dX11_goesOn_50 : decode cX11_goesOn 50 = .ok (.iload_n 1, 1) := by decide +kernel
theorem dX11_goesOn_51 : decode cX11_goesOn 51 = .ok (.aload_n 0, 1) := by decide +kernel
theorem dX11_goesOn_52 : decode cX11_goesOn 52 = .ok (.iload_n 1, 1) := by decide +kernel
theorem dX11_goesOn_53 : decode cX11_goesOn 53 = .ok (.aload_n 0, 1) := by decide +kernel
theorem dX11_goesOn_54 : decode cX11_goesOn 54 = .ok (.getfield 54, 3) := by decide +kernel
theorem dX11_goesOn_57 : decode cX11_goesOn 57 = .ok (.iload_n 1, 1) := by decide +kernel
theorem dX11_goesOn_58 : decode cX11_goesOn 58 = .ok (.iaload, 1) := by decide +kernel
theorem dX11_goesOn_59 : decode cX11_goesOn 59 = .ok (.invokevirtual 211, 3) := by decide +kernel
theorem dX11_goesOn_62 : decode cX11_goesOn 62 = .ok (.iastore, 1) := by decide +kernel
theorem dX11_goesOn_63 : decode cX11_goesOn 63 = .ok (.iload_n 1, 1) := by decide +kernel
theorem dX11_goesOn_64 : decode cX11_goesOn 64 = .ok (.ifCond .le 7, 3) := by decide +kernel
theorem dX11_goesOn_67 : decode cX11_goesOn 67 = .ok (.iconst 1, 1) := by decide +kernel
theorem dX11_goesOn_68 : decode cX11_goesOn 68 = .ok (.goto 4, 3) := by decide +kernel
theorem dX11_goesOn_71 : decode cX11_goesOn 71 = .ok (.iconst 0, 1) := by decide +kernel
theorem dX11_goesOn_72 : decode cX11_goesOn 72 = .ok (.ireturn, 1) := by decide +kernel
theorem dX11_stableTo_0 : decode cX11_stableTo 0 = .ok (.iconst 0, 1) := by decide +kernel
theorem dX11_stableTo_1 : decode cX11_stableTo 1 = .ok (.istore_n 2, 1) := by decide +kernel
theorem dX11_stableTo_2 : decode cX11_stableTo 2 = .ok (.iconst 1, 1) := by decide +kernel
theorem dX11_stableTo_3 : decode cX11_stableTo 3 = .ok (.istore_n 3, 1) := by decide +kernel
theorem dX11_stableTo_4 : decode cX11_stableTo 4 = .ok (.iconst 1, 1) := by decide +kernel
theorem dX11_stableTo_5 : decode cX11_stableTo 5 = .ok (.istore 4, 2) := by decide +kernel
theorem dX11_stableTo_7 : decode cX11_stableTo 7 = .ok (.iload 4, 2) := by decide +kernel
theorem dX11_stableTo_9 : decode cX11_stableTo 9 = .ok (.aload_n 0, 1) := by decide +kernel
theorem dX11_stableTo_10 : decode cX11_stableTo 10 = .ok (.getfield 7, 3) := by decide +kernel
theorem dX11_stableTo_13 : decode cX11_stableTo 13 = .ok (.iconst 0, 1) := by decide +kernel
theorem dX11_stableTo_14 : decode cX11_stableTo 14 = .ok (.iaload, 1) := by decide +kernel
theorem dX11_stableTo_15 : decode cX11_stableTo 15 = .ok (.if_icmp .ge 23, 3) := by decide +kernel
theorem dX11_stableTo_18 : decode cX11_stableTo 18 = .ok (.aload_n 0, 1) := by decide +kernel
theorem dX11_stableTo_19 : decode cX11_stableTo 19 = .ok (.getfield 54, 3) := by decide +kernel
theorem dX11_stableTo_22 : decode cX11_stableTo 22 = .ok (.iload 4, 2) := by decide +kernel
theorem dX11_stableTo_24 : decode cX11_stableTo 24 = .ok (.aload_n 0, 1) := by decide +kernel
theorem dX11_stableTo_25 : decode cX11_stableTo 25 = .ok (.iload 4, 2) := by decide +kernel
theorem dX11_stableTo_27 : decode cX11_stableTo 27 = .ok (.iconst (-1), 1) := by decide +kernel
theorem dX11_stableTo_28 : decode cX11_stableTo 28 = .ok (.invokevirtual 211, 3) := by decide +kernel
theorem dX11_stableTo_31 : decode cX11_stableTo 31 = .ok (.iastore, 1) := by decide +kernel
theorem dX11_stableTo_32 : decode cX11_stableTo 32 = .ok (.iinc 4 1, 3) := by decide +kernel
theorem dX11_stableTo_35 : decode cX11_stableTo 35 = .ok (.goto (-28), 3) := by decide +kernel
theorem dX11_stableTo_38 : decode cX11_stableTo 38 = .ok (.iload_n 3, 1) := by decide +kernel
theorem dX11_stableTo_39 : decode cX11_stableTo 39 = .ok (.ifCond .eq 35, 3) := by decide +kernel
theorem dX11_stableTo_42 : decode cX11_stableTo 42 = .ok (.aload_n 0, 1) := by decide +kernel
theorem dX11_stableTo_43 : decode cX11_stableTo 43 = .ok (.invokevirtual 214, 3) := by decide +kernel
theorem dX11_stableTo_46 : decode cX11_stableTo 46 = .ok (.ifCond .eq 20, 3) := by decide +kernel
theorem dX11_stableTo_49 : decode cX11_stableTo 49 = .ok (.aload_n 0, 1) := by decide +kernel
theorem dX11_stableTo_50 : decode cX11_stableTo 50 = .ok (.invokevirtual 193, 3) := by decide +kernel
theorem dX11_stableTo_53 : decode cX11_stableTo 53 = .ok (.ifCond .ne 13, 3) := by decide +kernel
theorem dX11_stableTo_56 : decode cX11_stableTo 56 = .ok (.iload_n 2, 1) := by decide +kernel
theorem dX11_stableTo_57 : decode cX11_stableTo 57 = .ok (.iload_n 1, 1) := by decide +kernel
theorem dX11_stableTo_58 : decode cX11_stableTo 58 = .ok (.if_icmp .ne 5, 3) := by decide +kernel
theorem dX11_stableTo_61 : decode cX11_stableTo 61 = .ok (.iload_n 1, 1) := by decide +kernel
theorem dX11_stableTo_62 : decode cX11_stableTo 62 = .ok (.ireturn, 1) := by decide +kernel
theorem dX11_stableTo_63 : decode cX11_stableTo 63 = .ok (.iinc 2 1, 3) := by decide +kernel
theorem dX11_stableTo_66 : decode cX11_stableTo 66 = .ok (.aload_n 0, 1) := by decide +kernel
theorem dX11_stableTo_67 : decode cX11_stableTo 67 = .ok (.invokevirtual 218, 3) := by decide +kernel
theorem dX11_stableTo_70 : decode cX11_stableTo 70 = .ok (.istore_n 3, 1) := by decide +kernel
theorem dX11_stableTo_71 : decode cX11_stableTo 71 = .ok (.goto (-33), 3) := by decide +kernel
theorem dX11_stableTo_74 : decode cX11_stableTo 74 = .ok (.iload_n 1, 1) := by decide +kernel
theorem dX11_stableTo_75 : decode cX11_stableTo 75 = .ok (.ifCond .ge 7, 3) := by decide +kernel
theorem dX11_stableTo_78 : decode cX11_stableTo 78 = .ok (.iload_n 2, 1) := by decide +kernel
theorem dX11_stableTo_79 : decode cX11_stableTo 79 = .ok (.goto 5, 3) := by decide +kernel
theorem dX11_stableTo_82 : decode cX11_stableTo 82 = .ok (.bipush (-4), 2) := by decide +kernel
theorem dX11_stableTo_84 : decode cX11_stableTo 84 = .ok (.ireturn, 1) := by decide +kernel
theorem dX11_stable_0 : decode cX11_stable 0 = .ok (.iload_n 1, 1) := by decide +kernel
theorem dX11_stable_1 : decode cX11_stable 1 = .ok (.ifCond .lt 11, 3) := by decide +kernel
theorem dX11_stable_4 : decode cX11_stable 4 = .ok (.aload_n 0, 1) := by decide +kernel
theorem dX11_stable_5 : decode cX11_stable 5 = .ok (.iload_n 2, 1) := by decide +kernel
theorem dX11_stable_6 : decode cX11_stable 6 = .ok (.invokevirtual 92, 3) := by decide +kernel
theorem dX11_stable_9 : decode cX11_stable 9 = .ok (.ifCond .ne 5, 3) := by decide +kernel
theorem dX11_stable_12 : decode cX11_stable 12 = .ok (.iconst (-1), 1) := by decide +kernel
theorem dX11_stable_13 : decode cX11_stable 13 = .ok (.ireturn, 1) := by decide +kernel
theorem dX11_stable_14 : decode cX11_stable 14 = .ok (.aload_n 0, 1) := by decide +kernel
theorem dX11_stable_15 : decode cX11_stable 15 = .ok (.iload_n 1, 1) := by decide +kernel
theorem dX11_stable_16 : decode cX11_stable 16 = .ok (.invokevirtual 196, 3) := by decide +kernel
theorem dX11_stable_19 : decode cX11_stable 19 = .ok (.bipush (-4), 2) := by decide +kernel
theorem dX11_stable_21 : decode cX11_stable 21 = .ok (.if_icmp .ne 8, 3) := by decide +kernel
theorem dX11_stable_24 : decode cX11_stable 24 = .ok (.bipush (-2), 2) := by decide +kernel
theorem dX11_stable_26 : decode cX11_stable 26 = .ok (.goto 9, 3) := by decide +kernel
theorem dX11_stable_29 : decode cX11_stable 29 = .ok (.aload_n 0, 1) := by decide +kernel
theorem dX11_stable_30 : decode cX11_stable 30 = .ok (.getfield 45, 3) := by decide +kernel
theorem dX11_stable_33 : decode cX11_stable 33 = .ok (.iload_n 2, 1) := by decide +kernel
theorem dX11_stable_34 : decode cX11_stable 34 = .ok (.iaload, 1) := by decide +kernel
theorem dX11_stable_35 : decode cX11_stable 35 = .ok (.ireturn, 1) := by decide +kernel
theorem dX11_leadsTo_0 : decode cX11_leadsTo 0 = .ok (.aload_n 0, 1) := by decide +kernel
theorem dX11_leadsTo_1 : decode cX11_leadsTo 1 = .ok (.getfield 42, 3) := by decide +kernel
theorem dX11_leadsTo_4 : decode cX11_leadsTo 4 = .ok (.iload_n 2, 1) := by decide +kernel
theorem dX11_leadsTo_5 : decode cX11_leadsTo 5 = .ok (.iaload, 1) := by decide +kernel
theorem dX11_leadsTo_6 : decode cX11_leadsTo 6 = .ok (.istore_n 3, 1) := by decide +kernel
theorem dX11_leadsTo_7 : decode cX11_leadsTo 7 = .ok (.iload_n 3, 1) := by decide +kernel
theorem dX11_leadsTo_8 : decode cX11_leadsTo 8 = .ok (.ifCond .ne 5, 3) := by decide +kernel
theorem dX11_leadsTo_11 : decode cX11_leadsTo 11 = .ok (.iconst 0, 1) := by decide +kernel
theorem dX11_leadsTo_12 : decode cX11_leadsTo 12 = .ok (.ireturn, 1) := by decide +kernel
theorem dX11_leadsTo_13 : decode cX11_leadsTo 13 = .ok (.aload_n 0, 1) := by decide +kernel
theorem dX11_leadsTo_14 : decode cX11_leadsTo 14 = .ok (.getfield 39, 3) := by decide +kernel
theorem dX11_leadsTo_17 : decode cX11_leadsTo 17 = .ok (.iload_n 2, 1) := by decide +kernel
theorem dX11_leadsTo_18 : decode cX11_leadsTo 18 = .ok (.iaload, 1) := by decide +kernel
theorem dX11_leadsTo_19 : decode cX11_leadsTo 19 = .ok (.invokestatic 221, 3) := by decide +kernel
theorem dX11_leadsTo_22 : decode cX11_leadsTo 22 = .ok (.istore 4, 2) := by decide +kernel
theorem dX11_leadsTo_24 : decode cX11_leadsTo 24 = .ok (.aload_n 0, 1) := by decide +kernel
theorem dX11_leadsTo_25 : decode cX11_leadsTo 25 = .ok (.getfield 39, 3) := by decide +kernel
theorem dX11_leadsTo_28 : decode cX11_leadsTo 28 = .ok (.iload_n 1, 1) := by decide +kernel
theorem dX11_leadsTo_29 : decode cX11_leadsTo 29 = .ok (.iaload, 1) := by decide +kernel
theorem dX11_leadsTo_30 : decode cX11_leadsTo 30 = .ok (.iload 4, 2) := by decide +kernel
theorem dX11_leadsTo_32 : decode cX11_leadsTo 32 = .ok (.if_icmp .ne 5, 3) := by decide +kernel
theorem dX11_leadsTo_35 : decode cX11_leadsTo 35 = .ok (.iconst 1, 1) := by decide +kernel
theorem dX11_leadsTo_36 : decode cX11_leadsTo 36 = .ok (.ireturn, 1) := by decide +kernel
theorem dX11_leadsTo_37 : decode cX11_leadsTo 37 = .ok (.aload_n 0, 1) := by decide +kernel
theorem dX11_leadsTo_38 : decode cX11_leadsTo 38 = .ok (.getfield 42, 3) := by decide +kernel
theorem dX11_leadsTo_41 : decode cX11_leadsTo 41 = .ok (.iload_n 1, 1) := by decide +kernel
theorem dX11_leadsTo_42 : decode cX11_leadsTo 42 = .ok (.iaload, 1) := by decide +kernel
theorem dX11_leadsTo_43 : decode cX11_leadsTo 43 = .ok (.ifCond .eq 39, 3) := by decide +kernel
theorem dX11_leadsTo_46 : decode cX11_leadsTo 46 = .ok (.aload_n 0, 1) := by decide +kernel
theorem dX11_leadsTo_47 : decode cX11_leadsTo 47 = .ok (.getfield 42, 3) := by decide +kernel
theorem dX11_leadsTo_50 : decode cX11_leadsTo 50 = .ok (.iload_n 1, 1) := by decide +kernel
theorem dX11_leadsTo_51 : decode cX11_leadsTo 51 = .ok (.iaload, 1) := by decide +kernel
theorem dX11_leadsTo_52 : decode cX11_leadsTo 52 = .ok (.iload 4, 2) := by decide +kernel
theorem dX11_leadsTo_54 : decode cX11_leadsTo 54 = .ok (.iconst 0, 1) := by decide +kernel
theorem dX11_leadsTo_55 : decode cX11_leadsTo 55 = .ok (.invokestatic 135, 3) := by decide +kernel
theorem dX11_leadsTo_58 : decode cX11_leadsTo 58 = .ok (.if_icmp .ne 24, 3) := by decide +kernel
theorem dX11_leadsTo_61 : decode cX11_leadsTo 61 = .ok (.aload_n 0, 1) := by decide +kernel
theorem dX11_leadsTo_62 : decode cX11_leadsTo 62 = .ok (.aload_n 0, 1) := by decide +kernel
theorem dX11_leadsTo_63 : decode cX11_leadsTo 63 = .ok (.getfield 42, 3) := by decide +kernel
theorem dX11_leadsTo_66 : decode cX11_leadsTo 66 = .ok (.iload_n 1, 1) := by decide +kernel
theorem dX11_leadsTo_67 : decode cX11_leadsTo 67 = .ok (.iaload, 1) := by decide +kernel
theorem dX11_leadsTo_68 : decode cX11_leadsTo 68 = .ok (.aload_n 0, 1) := by decide +kernel
theorem dX11_leadsTo_69 : decode cX11_leadsTo 69 = .ok (.getfield 39, 3) := by decide +kernel
theorem dX11_leadsTo_72 : decode cX11_leadsTo 72 = .ok (.iload_n 1, 1) := by decide +kernel
theorem dX11_leadsTo_73 : decode cX11_leadsTo 73 = .ok (.iaload, 1) := by decide +kernel
theorem dX11_leadsTo_74 : decode cX11_leadsTo 74 = .ok (.iload 4, 2) := by decide +kernel
theorem dX11_leadsTo_76 : decode cX11_leadsTo 76 = .ok (.invokevirtual 163, 3) := by decide +kernel
theorem dX11_leadsTo_79 : decode cX11_leadsTo 79 = .ok (.ifCond .ne 5, 3) := by decide +kernel
theorem dX11_leadsTo_82 : decode cX11_leadsTo 82 = .ok (.iconst 0, 1) := by decide +kernel
theorem dX11_leadsTo_83 : decode cX11_leadsTo 83 = .ok (.ireturn, 1) := by decide +kernel
theorem dX11_leadsTo_84 : decode cX11_leadsTo 84 = .ok (.aload_n 0, 1) := by decide +kernel
theorem dX11_leadsTo_85 : decode cX11_leadsTo 85 = .ok (.iload_n 3, 1) := by decide +kernel
theorem dX11_leadsTo_86 : decode cX11_leadsTo 86 = .ok (.aload_n 0, 1) := by decide +kernel
theorem dX11_leadsTo_87 : decode cX11_leadsTo 87 = .ok (.getfield 39, 3) := by decide +kernel
theorem dX11_leadsTo_90 : decode cX11_leadsTo 90 = .ok (.iload_n 1, 1) := by decide +kernel
theorem dX11_leadsTo_91 : decode cX11_leadsTo 91 = .ok (.iaload, 1) := by decide +kernel
theorem dX11_leadsTo_92 : decode cX11_leadsTo 92 = .ok (.invokevirtual 154, 3) := by decide +kernel
theorem dX11_leadsTo_95 : decode cX11_leadsTo 95 = .ok (.ifCond .eq 27, 3) := by decide +kernel
theorem dX11_leadsTo_98 : decode cX11_leadsTo 98 = .ok (.aload_n 0, 1) := by decide +kernel
theorem dX11_leadsTo_99 : decode cX11_leadsTo 99 = .ok (.iload_n 3, 1) := by decide +kernel
theorem dX11_leadsTo_100 : decode cX11_leadsTo 100 = .ok (.aload_n 0, 1) := by decide +kernel
theorem dX11_leadsTo_101 : decode cX11_leadsTo 101 = .ok (.getfield 39, 3) := by decide +kernel
theorem dX11_leadsTo_104 : decode cX11_leadsTo 104 = .ok (.iload_n 2, 1) := by decide +kernel
theorem dX11_leadsTo_105 : decode cX11_leadsTo 105 = .ok (.iaload, 1) := by decide +kernel
theorem dX11_leadsTo_106 : decode cX11_leadsTo 106 = .ok (.iload_n 3, 1) := by decide +kernel
theorem dX11_leadsTo_107 : decode cX11_leadsTo 107 = .ok (.aload_n 0, 1) := by decide +kernel
theorem dX11_leadsTo_108 : decode cX11_leadsTo 108 = .ok (.getfield 39, 3) := by decide +kernel
theorem dX11_leadsTo_111 : decode cX11_leadsTo 111 = .ok (.iload_n 1, 1) := by decide +kernel
theorem dX11_leadsTo_112 : decode cX11_leadsTo 112 = .ok (.iaload, 1) := by decide +kernel
theorem dX11_leadsTo_113 : decode cX11_leadsTo 113 = .ok (.invokestatic 157, 3) := by decide +kernel
theorem dX11_leadsTo_116 : decode cX11_leadsTo 116 = .ok (.invokevirtual 163, 3) := by decide +kernel
theorem dX11_leadsTo_119 : decode cX11_leadsTo 119 = .ok (.ifCond .eq 7, 3) := by decide +kernel
theorem dX11_leadsTo_122 : decode cX11_leadsTo 122 = .ok (.iconst 1, 1) := by decide +kernel
theorem dX11_leadsTo_123 : decode cX11_leadsTo 123 = .ok (.goto 4, 3) := by decide +kernel
theorem dX11_leadsTo_126 : decode cX11_leadsTo 126 = .ok (.iconst 0, 1) := by decide +kernel
theorem dX11_leadsTo_127 : decode cX11_leadsTo 127 = .ok (.ireturn, 1) := by decide +kernel
theorem dX11_laysLeads_0 : decode cX11_laysLeads 0 = .ok (.aload_n 0, 1) := by decide +kernel
theorem dX11_laysLeads_1 : decode cX11_laysLeads 1 = .ok (.invokevirtual 160, 3) := by decide +kernel
theorem dX11_laysLeads_4 : decode cX11_laysLeads 4 = .ok (.iconst 0, 1) := by decide +kernel
theorem dX11_laysLeads_5 : decode cX11_laysLeads 5 = .ok (.istore_n 1, 1) := by decide +kernel
theorem dX11_laysLeads_6 : decode cX11_laysLeads 6 = .ok (.iload_n 1, 1) := by decide +kernel
theorem dX11_laysLeads_7 : decode cX11_laysLeads 7 = .ok (.sipush 1956, 3) := by decide +kernel
theorem dX11_laysLeads_10 : decode cX11_laysLeads 10 = .ok (.if_icmp .ge 16, 3) := by decide +kernel
theorem dX11_laysLeads_13 : decode cX11_laysLeads 13 = .ok (.aload_n 0, 1) := by decide +kernel
theorem dX11_laysLeads_14 : decode cX11_laysLeads 14 = .ok (.getfield 57, 3) := by decide +kernel
theorem dX11_laysLeads_17 : decode cX11_laysLeads 17 = .ok (.iload_n 1, 1) := by decide +kernel
theorem dX11_laysLeads_18 : decode cX11_laysLeads 18 = .ok (.lconst 0, 1) := by decide +kernel
theorem dX11_laysLeads_19 : decode cX11_laysLeads 19 = .ok (.lastore, 1) := by decide +kernel
theorem dX11_laysLeads_20 : decode cX11_laysLeads 20 = .ok (.iinc 1 1, 3) := by decide +kernel
theorem dX11_laysLeads_23 : decode cX11_laysLeads 23 = .ok (.goto (-17), 3) := by decide +kernel
theorem dX11_laysLeads_26 : decode cX11_laysLeads 26 = .ok (.iconst 0, 1) := by decide +kernel
theorem dX11_laysLeads_27 : decode cX11_laysLeads 27 = .ok (.istore_n 1, 1) := by decide +kernel
theorem dX11_laysLeads_28 : decode cX11_laysLeads 28 = .ok (.iload_n 1, 1) := by decide +kernel
theorem dX11_laysLeads_29 : decode cX11_laysLeads 29 = .ok (.aload_n 0, 1) := by decide +kernel
theorem dX11_laysLeads_30 : decode cX11_laysLeads 30 = .ok (.getfield 151, 3) := by decide +kernel
theorem dX11_laysLeads_33 : decode cX11_laysLeads 33 = .ok (.if_icmp .ge 57, 3) := by decide +kernel
theorem dX11_laysLeads_36 : decode cX11_laysLeads 36 = .ok (.iconst 0, 1) := by decide +kernel
theorem dX11_laysLeads_37 : decode cX11_laysLeads 37 = .ok (.istore_n 2, 1) := by decide +kernel
theorem dX11_laysLeads_38 : decode cX11_laysLeads 38 = .ok (.iload_n 2, 1) := by decide +kernel
theorem dX11_laysLeads_39 : decode cX11_laysLeads 39 = .ok (.aload_n 0, 1) := by decide +kernel
theorem dX11_laysLeads_40 : decode cX11_laysLeads 40 = .ok (.getfield 151, 3) := by decide +kernel
theorem dX11_laysLeads_43 : decode cX11_laysLeads 43 = .ok (.if_icmp .ge 41, 3) := by decide +kernel
theorem dX11_laysLeads_46 : decode cX11_laysLeads 46 = .ok (.aload_n 0, 1) := by decide +kernel
theorem dX11_laysLeads_47 : decode cX11_laysLeads 47 = .ok (.iload_n 1, 1) := by decide +kernel
theorem dX11_laysLeads_48 : decode cX11_laysLeads 48 = .ok (.iload_n 2, 1) := by decide +kernel
theorem dX11_laysLeads_49 : decode cX11_laysLeads 49 = .ok (.invokevirtual 224, 3) := by decide +kernel
theorem dX11_laysLeads_52 : decode cX11_laysLeads 52 = .ok (.ifCond .eq 26, 3) := by decide +kernel
theorem dX11_laysLeads_55 : decode cX11_laysLeads 55 = .ok (.aload_n 0, 1) := by decide +kernel
theorem dX11_laysLeads_56 : decode cX11_laysLeads 56 = .ok (.getfield 57, 3) := by decide +kernel
theorem dX11_laysLeads_59 : decode cX11_laysLeads 59 = .ok (.bipush 6, 2) := by decide +kernel
theorem dX11_laysLeads_61 : decode cX11_laysLeads 61 = .ok (.iload_n 1, 1) := by decide +kernel
theorem dX11_laysLeads_62 : decode cX11_laysLeads 62 = .ok (.imul, 1) := by decide +kernel
theorem dX11_laysLeads_63 : decode cX11_laysLeads 63 = .ok (.iload_n 2, 1) := by decide +kernel
theorem dX11_laysLeads_64 : decode cX11_laysLeads 64 = .ok (.bipush 64, 2) := by decide +kernel
theorem dX11_laysLeads_66 : decode cX11_laysLeads 66 = .ok (.idiv, 1) := by decide +kernel
theorem dX11_laysLeads_67 : decode cX11_laysLeads 67 = .ok (.iadd, 1) := by decide +kernel
theorem dX11_laysLeads_68 : decode cX11_laysLeads 68 = .ok (.dup2, 1) := by decide +kernel
theorem dX11_laysLeads_69 : decode cX11_laysLeads 69 = .ok (.laload, 1) := by decide +kernel
theorem dX11_laysLeads_70 : decode cX11_laysLeads 70 = .ok (.lconst 1, 1) := by decide +kernel
theorem dX11_laysLeads_71 : decode cX11_laysLeads 71 = .ok (.iload_n 2, 1) := by decide +kernel
theorem dX11_laysLeads_72 : decode cX11_laysLeads 72 = .ok (.bipush 64, 2) := by decide +kernel
theorem dX11_laysLeads_74 : decode cX11_laysLeads 74 = .ok (.irem, 1) := by decide +kernel
theorem dX11_laysLeads_75 : decode cX11_laysLeads 75 = .ok (.lshl, 1) := by decide +kernel
theorem dX11_laysLeads_76 : decode cX11_laysLeads 76 = .ok (.lor, 1) := by decide +kernel
theorem dX11_laysLeads_77 : decode cX11_laysLeads 77 = .ok (.lastore, 1) := by decide +kernel
theorem dX11_laysLeads_78 : decode cX11_laysLeads 78 = .ok (.iinc 2 1, 3) := by decide +kernel
theorem dX11_laysLeads_81 : decode cX11_laysLeads 81 = .ok (.goto (-43), 3) := by decide +kernel
theorem dX11_laysLeads_84 : decode cX11_laysLeads 84 = .ok (.iinc 1 1, 3) := by decide +kernel
theorem dX11_laysLeads_87 : decode cX11_laysLeads 87 = .ok (.goto (-59), 3) := by decide +kernel
theorem dX11_laysLeads_90 : decode cX11_laysLeads 90 = .ok (.return_, 1) := by decide +kernel
theorem dX11_isIn_0 : decode cX11_isIn 0 = .ok (.aload_n 0, 1) := by decide +kernel
theorem dX11_isIn_1 : decode cX11_isIn 1 = .ok (.iload_n 1, 1) := by decide +kernel
theorem dX11_isIn_2 : decode cX11_isIn 2 = .ok (.bipush 64, 2) := by decide +kernel
theorem dX11_isIn_4 : decode cX11_isIn 4 = .ok (.idiv, 1) := by decide +kernel
theorem dX11_isIn_5 : decode cX11_isIn 5 = .ok (.laload, 1) := by decide +kernel
theorem dX11_isIn_6 : decode cX11_isIn 6 = .ok (.iload_n 1, 1) := by decide +kernel
theorem dX11_isIn_7 : decode cX11_isIn 7 = .ok (.bipush 64, 2) := by decide +kernel
theorem dX11_isIn_9 : decode cX11_isIn 9 = .ok (.irem, 1) := by decide +kernel
theorem dX11_isIn_10 : decode cX11_isIn 10 = .ok (.lshr, 1) := by decide +kernel
theorem dX11_isIn_11 : decode cX11_isIn 11 = .ok (.lconst 1, 1) := by decide +kernel
theorem dX11_isIn_12 : decode cX11_isIn 12 = .ok (.land, 1) := by decide +kernel
theorem dX11_isIn_13 : decode cX11_isIn 13 = .ok (.lconst 1, 1) := by decide +kernel
theorem dX11_isIn_14 : decode cX11_isIn 14 = .ok (.lcmp, 1) := by decide +kernel
theorem dX11_isIn_15 : decode cX11_isIn 15 = .ok (.ifCond .ne 7, 3) := by decide +kernel
theorem dX11_isIn_18 : decode cX11_isIn 18 = .ok (.iconst 1, 1) := by decide +kernel
theorem dX11_isIn_19 : decode cX11_isIn 19 = .ok (.goto 4, 3) := by decide +kernel
theorem dX11_isIn_22 : decode cX11_isIn 22 = .ok (.iconst 0, 1) := by decide +kernel
theorem dX11_isIn_23 : decode cX11_isIn 23 = .ok (.ireturn, 1) := by decide +kernel
theorem dX11_movesOn_0 : decode cX11_movesOn 0 = .ok (.iconst 0, 1) := by decide +kernel
theorem dX11_movesOn_1 : decode cX11_movesOn 1 = .ok (.istore_n 1, 1) := by decide +kernel
theorem dX11_movesOn_2 : decode cX11_movesOn 2 = .ok (.iconst 0, 1) := by decide +kernel
theorem dX11_movesOn_3 : decode cX11_movesOn 3 = .ok (.istore_n 2, 1) := by decide +kernel
theorem dX11_movesOn_4 : decode cX11_movesOn 4 = .ok (.iload_n 2, 1) := by decide +kernel
theorem dX11_movesOn_5 : decode cX11_movesOn 5 = .ok (.bipush 6, 2) := by decide +kernel
theorem dX11_movesOn_7 : decode cX11_movesOn 7 = .ok (.if_icmp .ge 16, 3) := by decide +kernel
theorem dX11_movesOn_10 : decode cX11_movesOn 10 = .ok (.aload_n 0, 1) := by decide +kernel
theorem dX11_movesOn_11 : decode cX11_movesOn 11 = .ok (.getfield 66, 3) := by decide +kernel
theorem dX11_movesOn_14 : decode cX11_movesOn 14 = .ok (.iload_n 2, 1) := by decide +kernel
theorem dX11_movesOn_15 : decode cX11_movesOn 15 = .ok (.lconst 0, 1) := by decide +kernel
theorem dX11_movesOn_16 : decode cX11_movesOn 16 = .ok (.lastore, 1) := by decide +kernel
theorem dX11_movesOn_17 : decode cX11_movesOn 17 = .ok (.iinc 2 1, 3) := by decide +kernel
theorem dX11_movesOn_20 : decode cX11_movesOn 20 = .ok (.goto (-16), 3) := by decide +kernel
theorem dX11_movesOn_23 : decode cX11_movesOn 23 = .ok (.iconst 0, 1) := by decide +kernel
theorem dX11_movesOn_24 : decode cX11_movesOn 24 = .ok (.istore_n 2, 1) := by decide +kernel
theorem dX11_movesOn_25 : decode cX11_movesOn 25 = .ok (.iload_n 2, 1) := by decide +kernel
theorem dX11_movesOn_26 : decode cX11_movesOn 26 = .ok (.aload_n 0, 1) := by decide +kernel
theorem dX11_movesOn_27 : decode cX11_movesOn 27 = .ok (.getfield 151, 3) := by decide +kernel
theorem dX11_movesOn_30 : decode cX11_movesOn 30 = .ok (.if_icmp .ge 54, 3) := by decide +kernel
theorem dX11_movesOn_33 : decode cX11_movesOn 33 = .ok (.iconst 0, 1) := by decide +kernel
theorem dX11_movesOn_34 : decode cX11_movesOn 34 = .ok (.istore_n 3, 1) := by decide +kernel
theorem dX11_movesOn_35 : decode cX11_movesOn 35 = .ok (.iload_n 3, 1) := by decide +kernel
theorem dX11_movesOn_36 : decode cX11_movesOn 36 = .ok (.bipush 6, 2) := by decide +kernel
theorem dX11_movesOn_38 : decode cX11_movesOn 38 = .ok (.if_icmp .ge 40, 3) := by decide +kernel
theorem dX11_movesOn_41 : decode cX11_movesOn 41 = .ok (.aload_n 0, 1) := by decide +kernel
theorem dX11_movesOn_42 : decode cX11_movesOn 42 = .ok (.getfield 60, 3) := by decide +kernel
theorem dX11_movesOn_45 : decode cX11_movesOn 45 = .ok (.iload_n 2, 1) := by decide +kernel
theorem dX11_movesOn_46 : decode cX11_movesOn 46 = .ok (.invokestatic 227, 3) := by decide +kernel
theorem dX11_movesOn_49 : decode cX11_movesOn 49 = .ok (.ifCond .eq 29, 3) := by decide +kernel
theorem dX11_movesOn_52 : decode cX11_movesOn 52 = .ok (.aload_n 0, 1) := by decide +kernel
theorem dX11_movesOn_53 : decode cX11_movesOn 53 = .ok (.getfield 66, 3) := by decide +kernel
theorem dX11_movesOn_56 : decode cX11_movesOn 56 = .ok (.iload_n 3, 1) := by decide +kernel
theorem dX11_movesOn_57 : decode cX11_movesOn 57 = .ok (.dup2, 1) := by decide +kernel
theorem dX11_movesOn_58 : decode cX11_movesOn 58 = .ok (.laload, 1) := by decide +kernel
theorem dX11_movesOn_59 : decode cX11_movesOn 59 = .ok (.aload_n 0, 1) := by decide +kernel
theorem dX11_movesOn_60 : decode cX11_movesOn 60 = .ok (.getfield 57, 3) := by decide +kernel
theorem dX11_movesOn_63 : decode cX11_movesOn 63 = .ok (.bipush 6, 2) := by decide +kernel
theorem dX11_movesOn_65 : decode cX11_movesOn 65 = .ok (.iload_n 2, 1) := by decide +kernel
theorem dX11_movesOn_66 : decode cX11_movesOn 66 = .ok (.imul, 1) := by decide +kernel
theorem dX11_movesOn_67 : decode cX11_movesOn 67 = .ok (.iload_n 3, 1) := by decide +kernel
theorem dX11_movesOn_68 : decode cX11_movesOn 68 = .ok (.iadd, 1) := by decide +kernel
theorem dX11_movesOn_69 : decode cX11_movesOn 69 = .ok (.laload, 1) := by decide +kernel
theorem dX11_movesOn_70 : decode cX11_movesOn 70 = .ok (.lor, 1) := by decide +kernel
theorem dX11_movesOn_71 : decode cX11_movesOn 71 = .ok (.lastore, 1) := by decide +kernel
theorem dX11_movesOn_72 : decode cX11_movesOn 72 = .ok (.iinc 3 1, 3) := by decide +kernel
theorem dX11_movesOn_75 : decode cX11_movesOn 75 = .ok (.goto (-40), 3) := by decide +kernel
theorem dX11_movesOn_78 : decode cX11_movesOn 78 = .ok (.iinc 2 1, 3) := by decide +kernel
theorem dX11_movesOn_81 : decode cX11_movesOn 81 = .ok (.goto (-56), 3) := by decide +kernel
theorem dX11_movesOn_84 : decode cX11_movesOn 84 = .ok (.iconst 0, 1) := by decide +kernel
theorem dX11_movesOn_85 : decode cX11_movesOn 85 = .ok (.istore_n 2, 1) := by decide +kernel
theorem dX11_movesOn_86 : decode cX11_movesOn 86 = .ok (.iload_n 2, 1) := by decide +kernel
theorem dX11_movesOn_87 : decode cX11_movesOn 87 = .ok (.bipush 6, 2) := by decide +kernel
theorem dX11_movesOn_89 : decode cX11_movesOn 89 = .ok (.if_icmp .ge 68, 3) := by decide +kernel
theorem dX11_movesOn_92 : decode cX11_movesOn 92 = .ok (.aload_n 0, 1) := by decide +kernel
theorem dX11_movesOn_93 : decode cX11_movesOn 93 = .ok (.getfield 60, 3) := by decide +kernel
theorem dX11_movesOn_96 : decode cX11_movesOn 96 = .ok (.iload_n 2, 1) := by decide +kernel
theorem dX11_movesOn_97 : decode cX11_movesOn 97 = .ok (.aload_n 0, 1) := by decide +kernel
theorem dX11_movesOn_98 : decode cX11_movesOn 98 = .ok (.getfield 66, 3) := by decide +kernel
theorem dX11_movesOn_101 : decode cX11_movesOn 101 = .ok (.iload_n 2, 1) := by decide +kernel
theorem dX11_movesOn_102 : decode cX11_movesOn 102 = .ok (.laload, 1) := by decide +kernel
theorem dX11_movesOn_103 : decode cX11_movesOn 103 = .ok (.aload_n 0, 1) := by decide +kernel
theorem dX11_movesOn_104 : decode cX11_movesOn 104 = .ok (.getfield 63, 3) := by decide +kernel
theorem dX11_movesOn_107 : decode cX11_movesOn 107 = .ok (.iload_n 2, 1) := by decide +kernel
theorem dX11_movesOn_108 : decode cX11_movesOn 108 = .ok (.laload, 1) := by decide +kernel
theorem dX11_movesOn_109 : decode cX11_movesOn 109 = .ok (.ldc2_w 231, 3) := by decide +kernel
theorem dX11_movesOn_112 : decode cX11_movesOn 112 = .ok (.lxor, 1) := by decide +kernel
theorem dX11_movesOn_113 : decode cX11_movesOn 113 = .ok (.land, 1) := by decide +kernel
theorem dX11_movesOn_114 : decode cX11_movesOn 114 = .ok (.lastore, 1) := by decide +kernel
theorem dX11_movesOn_115 : decode cX11_movesOn 115 = .ok (.aload_n 0, 1) := by decide +kernel
theorem dX11_movesOn_116 : decode cX11_movesOn 116 = .ok (.getfield 63, 3) := by decide +kernel
theorem dX11_movesOn_119 : decode cX11_movesOn 119 = .ok (.iload_n 2, 1) := by decide +kernel
theorem dX11_movesOn_120 : decode cX11_movesOn 120 = .ok (.dup2, 1) := by decide +kernel
theorem dX11_movesOn_121 : decode cX11_movesOn 121 = .ok (.laload, 1) := by decide +kernel
theorem dX11_movesOn_122 : decode cX11_movesOn 122 = .ok (.aload_n 0, 1) := by decide +kernel
theorem dX11_movesOn_123 : decode cX11_movesOn 123 = .ok (.getfield 66, 3) := by decide +kernel
theorem dX11_movesOn_126 : decode cX11_movesOn 126 = .ok (.iload_n 2, 1) := by decide +kernel
theorem dX11_movesOn_127 : decode cX11_movesOn 127 = .ok (.laload, 1) := by decide +kernel
theorem dX11_movesOn_128 : decode cX11_movesOn 128 = .ok (.lor, 1) := by decide +kernel
theorem dX11_movesOn_129 : decode cX11_movesOn 129 = .ok (.lastore, 1) := by decide +kernel
theorem dX11_movesOn_130 : decode cX11_movesOn 130 = .ok (.iload_n 1, 1) := by decide +kernel
theorem dX11_movesOn_131 : decode cX11_movesOn 131 = .ok (.ifCond .ne 14, 3) := by decide +kernel
theorem dX11_movesOn_134 : decode cX11_movesOn 134 = .ok (.aload_n 0, 1) := by decide +kernel
theorem dX11_movesOn_135 : decode cX11_movesOn 135 = .ok (.getfield 60, 3) := by decide +kernel
theorem dX11_movesOn_138 : decode cX11_movesOn 138 = .ok (.iload_n 2, 1) := by decide +kernel
theorem dX11_movesOn_139 : decode cX11_movesOn 139 = .ok (.laload, 1) := by decide +kernel
theorem dX11_movesOn_140 : decode cX11_movesOn 140 = .ok (.lconst 0, 1) := by decide +kernel
theorem dX11_movesOn_141 : decode cX11_movesOn 141 = .ok (.lcmp, 1) := by decide +kernel
theorem dX11_movesOn_142 : decode cX11_movesOn 142 = .ok (.ifCond .eq 7, 3) := by decide +kernel
theorem dX11_movesOn_145 : decode cX11_movesOn 145 = .ok (.iconst 1, 1) := by decide +kernel
theorem dX11_movesOn_146 : decode cX11_movesOn 146 = .ok (.goto 4, 3) := by decide +kernel
theorem dX11_movesOn_149 : decode cX11_movesOn 149 = .ok (.iconst 0, 1) := by decide +kernel
theorem dX11_movesOn_150 : decode cX11_movesOn 150 = .ok (.istore_n 1, 1) := by decide +kernel
theorem dX11_movesOn_151 : decode cX11_movesOn 151 = .ok (.iinc 2 1, 3) := by decide +kernel
theorem dX11_movesOn_154 : decode cX11_movesOn 154 = .ok (.goto (-68), 3) := by decide +kernel
theorem dX11_movesOn_157 : decode cX11_movesOn 157 = .ok (.iload_n 1, 1) := by decide +kernel
theorem dX11_movesOn_158 : decode cX11_movesOn 158 = .ok (.ireturn, 1) := by decide +kernel
theorem dX11_roundOf_0 : decode cX11_roundOf 0 = .ok (.iconst 0, 1) := by decide +kernel
theorem dX11_roundOf_1 : decode cX11_roundOf 1 = .ok (.istore_n 2, 1) := by decide +kernel
theorem dX11_roundOf_2 : decode cX11_roundOf 2 = .ok (.iload_n 2, 1) := by decide +kernel
theorem dX11_roundOf_3 : decode cX11_roundOf 3 = .ok (.bipush 6, 2) := by decide +kernel
theorem dX11_roundOf_5 : decode cX11_roundOf 5 = .ok (.if_icmp .ge 23, 3) := by decide +kernel
theorem dX11_roundOf_8 : decode cX11_roundOf 8 = .ok (.aload_n 0, 1) := by decide +kernel
theorem dX11_roundOf_9 : decode cX11_roundOf 9 = .ok (.getfield 60, 3) := by decide +kernel
theorem dX11_roundOf_12 : decode cX11_roundOf 12 = .ok (.iload_n 2, 1) := by decide +kernel
theorem dX11_roundOf_13 : decode cX11_roundOf 13 = .ok (.lconst 0, 1) := by decide +kernel
theorem dX11_roundOf_14 : decode cX11_roundOf 14 = .ok (.lastore, 1) := by decide +kernel
theorem dX11_roundOf_15 : decode cX11_roundOf 15 = .ok (.aload_n 0, 1) := by decide +kernel
theorem dX11_roundOf_16 : decode cX11_roundOf 16 = .ok (.getfield 63, 3) := by decide +kernel
theorem dX11_roundOf_19 : decode cX11_roundOf 19 = .ok (.iload_n 2, 1) := by decide +kernel
theorem dX11_roundOf_20 : decode cX11_roundOf 20 = .ok (.lconst 0, 1) := by decide +kernel
theorem dX11_roundOf_21 : decode cX11_roundOf 21 = .ok (.lastore, 1) := by decide +kernel
theorem dX11_roundOf_22 : decode cX11_roundOf 22 = .ok (.iinc 2 1, 3) := by decide +kernel
theorem dX11_roundOf_25 : decode cX11_roundOf 25 = .ok (.goto (-23), 3) := by decide +kernel
theorem dX11_roundOf_28 : decode cX11_roundOf 28 = .ok (.aload_n 0, 1) := by decide +kernel
theorem dX11_roundOf_29 : decode cX11_roundOf 29 = .ok (.getfield 60, 3) := by decide +kernel
theorem dX11_roundOf_32 : decode cX11_roundOf 32 = .ok (.iload_n 1, 1) := by decide +kernel
theorem dX11_roundOf_33 : decode cX11_roundOf 33 = .ok (.bipush 64, 2) := by decide +kernel
theorem dX11_roundOf_35 : decode cX11_roundOf 35 = .ok (.idiv, 1) := by decide +kernel
theorem dX11_roundOf_36 : decode cX11_roundOf 36 = .ok (.lconst 1, 1) := by decide +kernel
theorem dX11_roundOf_37 : decode cX11_roundOf 37 = .ok (.iload_n 1, 1) := by decide +kernel
theorem dX11_roundOf_38 : decode cX11_roundOf 38 = .ok (.bipush 64, 2) := by decide +kernel
theorem dX11_roundOf_40 : decode cX11_roundOf 40 = .ok (.irem, 1) := by decide +kernel
theorem dX11_roundOf_41 : decode cX11_roundOf 41 = .ok (.lshl, 1) := by decide +kernel
theorem dX11_roundOf_42 : decode cX11_roundOf 42 = .ok (.lastore, 1) := by decide +kernel
theorem dX11_roundOf_43 : decode cX11_roundOf 43 = .ok (.iconst 0, 1) := by decide +kernel
theorem dX11_roundOf_44 : decode cX11_roundOf 44 = .ok (.istore_n 2, 1) := by decide +kernel
theorem dX11_roundOf_45 : decode cX11_roundOf 45 = .ok (.iconst 1, 1) := by decide +kernel
theorem dX11_roundOf_46 : decode cX11_roundOf 46 = .ok (.istore_n 3, 1) := by decide +kernel
theorem dX11_roundOf_47 : decode cX11_roundOf 47 = .ok (.iload_n 3, 1) := by decide +kernel
theorem dX11_roundOf_48 : decode cX11_roundOf 48 = .ok (.ifCond .eq 24, 3) := by decide +kernel
theorem dX11_roundOf_51 : decode cX11_roundOf 51 = .ok (.aload_n 0, 1) := by decide +kernel
theorem dX11_roundOf_52 : decode cX11_roundOf 52 = .ok (.invokevirtual 233, 3) := by decide +kernel
theorem dX11_roundOf_55 : decode cX11_roundOf 55 = .ok (.istore_n 3, 1) := by decide +kernel
theorem dX11_roundOf_56 : decode cX11_roundOf 56 = .ok (.iinc 2 1, 3) := by decide +kernel
theorem dX11_roundOf_59 : decode cX11_roundOf 59 = .ok (.aload_n 0, 1) := by decide +kernel
theorem dX11_roundOf_60 : decode cX11_roundOf 60 = .ok (.getfield 63, 3) := by decide +kernel
theorem dX11_roundOf_63 : decode cX11_roundOf 63 = .ok (.iload_n 1, 1) := by decide +kernel
theorem dX11_roundOf_64 : decode cX11_roundOf 64 = .ok (.invokestatic 227, 3) := by decide +kernel
theorem dX11_roundOf_67 : decode cX11_roundOf 67 = .ok (.ifCond .eq (-20), 3) := by decide +kernel
theorem dX11_roundOf_70 : decode cX11_roundOf 70 = .ok (.iload_n 2, 1) := by decide +kernel
theorem dX11_roundOf_71 : decode cX11_roundOf 71 = .ok (.ireturn, 1) := by decide +kernel
theorem dX11_roundOf_72 : decode cX11_roundOf 72 = .ok (.bipush (-4), 2) := by decide +kernel
theorem dX11_roundOf_74 : decode cX11_roundOf 74 = .ok (.ireturn, 1) := by decide +kernel
theorem dX11_ring_0 : decode cX11_ring 0 = .ok (.iload_n 1, 1) := by decide +kernel
theorem dX11_ring_1 : decode cX11_ring 1 = .ok (.i2l, 1) := by decide +kernel
theorem dX11_ring_2 : decode cX11_ring 2 = .ok (.lconst 0, 1) := by decide +kernel
theorem dX11_ring_3 : decode cX11_ring 3 = .ok (.ldc2_w 104, 3) := by decide +kernel
theorem dX11_ring_6 : decode cX11_ring 6 = .ok (.invokestatic 88, 3) := by decide +kernel
theorem dX11_ring_9 : decode cX11_ring 9 = .ok (.ifCond .ne 5, 3) := by decide +kernel
theorem dX11_ring_12 : decode cX11_ring 12 = .ok (.iconst (-1), 1) := by decide +kernel
theorem dX11_ring_13 : decode cX11_ring 13 = .ok (.ireturn, 1) := by decide +kernel
theorem dX11_ring_14 : decode cX11_ring 14 = .ok (.aload_n 0, 1) := by decide +kernel
theorem dX11_ring_15 : decode cX11_ring 15 = .ok (.invokevirtual 236, 3) := by decide +kernel
theorem dX11_ring_18 : decode cX11_ring 18 = .ok (.bipush (-4), 2) := by decide +kernel
theorem dX11_ring_20 : decode cX11_ring 20 = .ok (.istore_n 2, 1) := by decide +kernel
theorem dX11_ring_21 : decode cX11_ring 21 = .ok (.iconst 0, 1) := by decide +kernel
theorem dX11_ring_22 : decode cX11_ring 22 = .ok (.istore_n 3, 1) := by decide +kernel
theorem dX11_ring_23 : decode cX11_ring 23 = .ok (.bipush (-4), 2) := by decide +kernel
theorem dX11_ring_25 : decode cX11_ring 25 = .ok (.istore 4, 2) := by decide +kernel
theorem dX11_ring_27 : decode cX11_ring 27 = .ok (.iconst 0, 1) := by decide +kernel
theorem dX11_ring_28 : decode cX11_ring 28 = .ok (.istore 5, 2) := by decide +kernel
theorem dX11_ring_30 : decode cX11_ring 30 = .ok (.iload 5, 2) := by decide +kernel
theorem dX11_ring_32 : decode cX11_ring 32 = .ok (.aload_n 0, 1) := by decide +kernel
theorem dX11_ring_33 : decode cX11_ring 33 = .ok (.getfield 151, 3) := by decide +kernel
theorem dX11_ring_36 : decode cX11_ring 36 = .ok (.if_icmp .ge 73, 3) := by decide +kernel
theorem dX11_ring_39 : decode cX11_ring 39 = .ok (.aload_n 0, 1) := by decide +kernel
theorem dX11_ring_40 : decode cX11_ring 40 = .ok (.iload 5, 2) := by decide +kernel
theorem dX11_ring_42 : decode cX11_ring 42 = .ok (.invokevirtual 239, 3) := by decide +kernel
theorem dX11_ring_45 : decode cX11_ring 45 = .ok (.istore 6, 2) := by decide +kernel
theorem dX11_ring_47 : decode cX11_ring 47 = .ok (.iload 6, 2) := by decide +kernel
theorem dX11_ring_49 : decode cX11_ring 49 = .ok (.ifCond .le 54, 3) := by decide +kernel
theorem dX11_ring_52 : decode cX11_ring 52 = .ok (.iinc 3 1, 3) := by decide +kernel
theorem dX11_ring_55 : decode cX11_ring 55 = .ok (.iload_n 2, 1) := by decide +kernel
theorem dX11_ring_56 : decode cX11_ring 56 = .ok (.ifCond .lt 9, 3) := by decide +kernel
theorem dX11_ring_59 : decode cX11_ring 59 = .ok (.iload 6, 2) := by decide +kernel
theorem dX11_ring_61 : decode cX11_ring 61 = .ok (.iload_n 2, 1) := by decide +kernel
theorem dX11_ring_62 : decode cX11_ring 62 = .ok (.if_icmp .ge 8, 3) := by decide +kernel
theorem dX11_ring_65 : decode cX11_ring 65 = .ok (.iload 6, 2) := by decide +kernel
theorem dX11_ring_67 : decode cX11_ring 67 = .ok (.goto 4, 3) := by decide +kernel
theorem dX11_ring_70 : decode cX11_ring 70 = .ok (.iload_n 2, 1) := by decide +kernel
theorem dX11_ring_71 : decode cX11_ring 71 = .ok (.istore_n 2, 1) := by decide +kernel
theorem dX11_ring_72 : decode cX11_ring 72 = .ok (.iload 4, 2) := by decide +kernel
theorem dX11_ring_74 : decode cX11_ring 74 = .ok (.ifCond .lt 15, 3) := by decide +kernel
theorem dX11_ring_77 : decode cX11_ring 77 = .ok (.aload_n 0, 1) := by decide +kernel
theorem dX11_ring_78 : decode cX11_ring 78 = .ok (.getfield 39, 3) := by decide +kernel
theorem dX11_ring_81 : decode cX11_ring 81 = .ok (.iload 5, 2) := by decide +kernel
theorem dX11_ring_83 : decode cX11_ring 83 = .ok (.iaload, 1) := by decide +kernel
theorem dX11_ring_84 : decode cX11_ring 84 = .ok (.iload 4, 2) := by decide +kernel
theorem dX11_ring_86 : decode cX11_ring 86 = .ok (.if_icmp .ge 13, 3) := by decide +kernel
theorem dX11_ring_89 : decode cX11_ring 89 = .ok (.aload_n 0, 1) := by decide +kernel
theorem dX11_ring_90 : decode cX11_ring 90 = .ok (.getfield 39, 3) := by decide +kernel
theorem dX11_ring_93 : decode cX11_ring 93 = .ok (.iload 5, 2) := by decide +kernel
theorem dX11_ring_95 : decode cX11_ring 95 = .ok (.iaload, 1) := by decide +kernel
theorem dX11_ring_96 : decode cX11_ring 96 = .ok (.goto 5, 3) := by decide +kernel
theorem dX11_ring_99 : decode cX11_ring 99 = .ok (.iload 4, 2) := by decide +kernel
theorem dX11_ring_101 : decode cX11_ring 101 = .ok (.istore 4, 2) := by decide +kernel
theorem dX11_ring_103 : decode cX11_ring 103 = .ok (.iinc 5 1, 3) := by decide +kernel
theorem dX11_ring_106 : decode cX11_ring 106 = .ok (.goto (-76), 3) := by decide +kernel
theorem dX11_ring_109 : decode cX11_ring 109 = .ok (.iload_n 1, 1) := by decide +kernel
theorem dX11_ring_110 : decode cX11_ring 110 = .ok (.ifCond .ne 15, 3) := by decide +kernel
theorem dX11_ring_113 : decode cX11_ring 113 = .ok (.iload_n 3, 1) := by decide +kernel
theorem dX11_ring_114 : decode cX11_ring 114 = .ok (.ifCond .le 7, 3) := by decide +kernel
theorem dX11_ring_117 : decode cX11_ring 117 = .ok (.iconst 1, 1) := by decide +kernel
theorem dX11_ring_118 : decode cX11_ring 118 = .ok (.goto 27, 3) := by decide +kernel
theorem dX11_ring_121 : decode cX11_ring 121 = .ok (.iconst 0, 1) := by decide +kernel
theorem dX11_ring_122 : decode cX11_ring 122 = .ok (.goto 23, 3) := by decide +kernel
theorem dX11_ring_125 : decode cX11_ring 125 = .ok (.iload_n 1, 1) := by decide +kernel
theorem dX11_ring_126 : decode cX11_ring 126 = .ok (.iconst 1, 1) := by decide +kernel
theorem dX11_ring_127 : decode cX11_ring 127 = .ok (.if_icmp .ne 7, 3) := by decide +kernel
theorem dX11_ring_130 : decode cX11_ring 130 = .ok (.iload_n 2, 1) := by decide +kernel
theorem dX11_ring_131 : decode cX11_ring 131 = .ok (.goto 14, 3) := by decide +kernel
theorem dX11_ring_134 : decode cX11_ring 134 = .ok (.iload_n 1, 1) := by decide +kernel
theorem dX11_ring_135 : decode cX11_ring 135 = .ok (.iconst 2, 1) := by decide +kernel
theorem dX11_ring_136 : decode cX11_ring 136 = .ok (.if_icmp .ne 7, 3) := by decide +kernel
theorem dX11_ring_139 : decode cX11_ring 139 = .ok (.iload_n 3, 1) := by decide +kernel
theorem dX11_ring_140 : decode cX11_ring 140 = .ok (.goto 5, 3) := by decide +kernel
theorem dX11_ring_143 : decode cX11_ring 143 = .ok (.iload 4, 2) := by decide +kernel
theorem dX11_ring_145 : decode cX11_ring 145 = .ok (.ireturn, 1) := by decide +kernel
theorem dX11_laysLinks_0 : decode cX11_laysLinks 0 = .ok (.iconst 0, 1) := by decide +kernel
theorem dX11_laysLinks_1 : decode cX11_laysLinks 1 = .ok (.istore_n 1, 1) := by decide +kernel
theorem dX11_laysLinks_2 : decode cX11_laysLinks 2 = .ok (.iconst 0, 1) := by decide +kernel
theorem dX11_laysLinks_3 : decode cX11_laysLinks 3 = .ok (.istore_n 2, 1) := by decide +kernel
theorem dX11_laysLinks_4 : decode cX11_laysLinks 4 = .ok (.iload_n 2, 1) := by decide +kernel
theorem dX11_laysLinks_5 : decode cX11_laysLinks 5 = .ok (.bipush 6, 2) := by decide +kernel
theorem dX11_laysLinks_7 : decode cX11_laysLinks 7 = .ok (.if_icmp .ge 56, 3) := by decide +kernel
theorem dX11_laysLinks_10 : decode cX11_laysLinks 10 = .ok (.iconst 0, 1) := by decide +kernel
theorem dX11_laysLinks_11 : decode cX11_laysLinks 11 = .ok (.istore_n 3, 1) := by decide +kernel
theorem dX11_laysLinks_12 : decode cX11_laysLinks 12 = .ok (.iload_n 3, 1) := by decide +kernel
theorem dX11_laysLinks_13 : decode cX11_laysLinks 13 = .ok (.iload_n 2, 1) := by decide +kernel
theorem dX11_laysLinks_14 : decode cX11_laysLinks 14 = .ok (.if_icmp .ge 43, 3) := by decide +kernel
theorem dX11_laysLinks_17 : decode cX11_laysLinks 17 = .ok (.aload_n 0, 1) := by decide +kernel
theorem dX11_laysLinks_18 : decode cX11_laysLinks 18 = .ok (.iload_n 2, 1) := by decide +kernel
theorem dX11_laysLinks_19 : decode cX11_laysLinks 19 = .ok (.iload_n 3, 1) := by decide +kernel
theorem dX11_laysLinks_20 : decode cX11_laysLinks 20 = .ok (.invokevirtual 141, 3) := by decide +kernel
theorem dX11_laysLinks_23 : decode cX11_laysLinks 23 = .ok (.ifCond .eq 28, 3) := by decide +kernel
theorem dX11_laysLinks_26 : decode cX11_laysLinks 26 = .ok (.aload_n 0, 1) := by decide +kernel
theorem dX11_laysLinks_27 : decode cX11_laysLinks 27 = .ok (.getfield 69, 3) := by decide +kernel
theorem dX11_laysLinks_30 : decode cX11_laysLinks 30 = .ok (.iload_n 2, 1) := by decide +kernel
theorem dX11_laysLinks_31 : decode cX11_laysLinks 31 = .ok (.iload_n 3, 1) := by decide +kernel
theorem dX11_laysLinks_32 : decode cX11_laysLinks 32 = .ok (.invokestatic 96, 3) := by decide +kernel
theorem dX11_laysLinks_35 : decode cX11_laysLinks 35 = .ok (.iload_n 1, 1) := by decide +kernel
theorem dX11_laysLinks_36 : decode cX11_laysLinks 36 = .ok (.iastore, 1) := by decide +kernel
theorem dX11_laysLinks_37 : decode cX11_laysLinks 37 = .ok (.aload_n 0, 1) := by decide +kernel
theorem dX11_laysLinks_38 : decode cX11_laysLinks 38 = .ok (.getfield 69, 3) := by decide +kernel
theorem dX11_laysLinks_41 : decode cX11_laysLinks 41 = .ok (.iload_n 3, 1) := by decide +kernel
theorem dX11_laysLinks_42 : decode cX11_laysLinks 42 = .ok (.iload_n 2, 1) := by decide +kernel
theorem dX11_laysLinks_43 : decode cX11_laysLinks 43 = .ok (.invokestatic 96, 3) := by decide +kernel
theorem dX11_laysLinks_46 : decode cX11_laysLinks 46 = .ok (.iload_n 1, 1) := by decide +kernel
theorem dX11_laysLinks_47 : decode cX11_laysLinks 47 = .ok (.iastore, 1) := by decide +kernel
theorem dX11_laysLinks_48 : decode cX11_laysLinks 48 = .ok (.iinc 1 1, 3) := by decide +kernel
theorem dX11_laysLinks_51 : decode cX11_laysLinks 51 = .ok (.iinc 3 1, 3) := by decide +kernel
theorem dX11_laysLinks_54 : decode cX11_laysLinks 54 = .ok (.goto (-42), 3) := by decide +kernel
theorem dX11_laysLinks_57 : decode cX11_laysLinks 57 = .ok (.iinc 2 1, 3) := by decide +kernel
theorem dX11_laysLinks_60 : decode cX11_laysLinks 60 = .ok (.goto (-56), 3) := by decide +kernel
theorem dX11_laysLinks_63 : decode cX11_laysLinks 63 = .ok (.iload_n 1, 1) := by decide +kernel
theorem dX11_laysLinks_64 : decode cX11_laysLinks 64 = .ok (.ireturn, 1) := by decide +kernel
theorem dX11_maskOf_0 : decode cX11_maskOf 0 = .ok (.iconst 0, 1) := by decide +kernel
theorem dX11_maskOf_1 : decode cX11_maskOf 1 = .ok (.istore_n 2, 1) := by decide +kernel
theorem dX11_maskOf_2 : decode cX11_maskOf 2 = .ok (.iconst 1, 1) := by decide +kernel
theorem dX11_maskOf_3 : decode cX11_maskOf 3 = .ok (.istore_n 3, 1) := by decide +kernel
theorem dX11_maskOf_4 : decode cX11_maskOf 4 = .ok (.iload_n 3, 1) := by decide +kernel
theorem dX11_maskOf_5 : decode cX11_maskOf 5 = .ok (.iload_n 1, 1) := by decide +kernel
theorem dX11_maskOf_6 : decode cX11_maskOf 6 = .ok (.invokestatic 125, 3) := by decide +kernel
theorem dX11_maskOf_9 : decode cX11_maskOf 9 = .ok (.if_icmp .ge 34, 3) := by decide +kernel
theorem dX11_maskOf_12 : decode cX11_maskOf 12 = .ok (.iload_n 2, 1) := by decide +kernel
theorem dX11_maskOf_13 : decode cX11_maskOf 13 = .ok (.iconst 1, 1) := by decide +kernel
theorem dX11_maskOf_14 : decode cX11_maskOf 14 = .ok (.aload_n 0, 1) := by decide +kernel
theorem dX11_maskOf_15 : decode cX11_maskOf 15 = .ok (.getfield 69, 3) := by decide +kernel
theorem dX11_maskOf_18 : decode cX11_maskOf 18 = .ok (.iload_n 1, 1) := by decide +kernel
theorem dX11_maskOf_19 : decode cX11_maskOf 19 = .ok (.iload_n 3, 1) := by decide +kernel
theorem dX11_maskOf_20 : decode cX11_maskOf 20 = .ok (.iconst 1, 1) := by decide +kernel
theorem dX11_maskOf_21 : decode cX11_maskOf 21 = .ok (.isub, 1) := by decide +kernel
theorem dX11_maskOf_22 : decode cX11_maskOf 22 = .ok (.invokestatic 135, 3) := by decide +kernel
theorem dX11_maskOf_25 : decode cX11_maskOf 25 = .ok (.iload_n 1, 1) := by decide +kernel
theorem dX11_maskOf_26 : decode cX11_maskOf 26 = .ok (.iload_n 3, 1) := by decide +kernel
theorem dX11_maskOf_27 : decode cX11_maskOf 27 = .ok (.invokestatic 135, 3) := by decide +kernel
theorem dX11_maskOf_30 : decode cX11_maskOf 30 = .ok (.invokestatic 96, 3) := by decide +kernel
theorem dX11_maskOf_33 : decode cX11_maskOf 33 = .ok (.iaload, 1) := by decide +kernel
theorem dX11_maskOf_34 : decode cX11_maskOf 34 = .ok (.ishl, 1) := by decide +kernel
theorem dX11_maskOf_35 : decode cX11_maskOf 35 = .ok (.ior, 1) := by decide +kernel
theorem dX11_maskOf_36 : decode cX11_maskOf 36 = .ok (.istore_n 2, 1) := by decide +kernel
theorem dX11_maskOf_37 : decode cX11_maskOf 37 = .ok (.iinc 3 1, 3) := by decide +kernel
theorem dX11_maskOf_40 : decode cX11_maskOf 40 = .ok (.goto (-36), 3) := by decide +kernel
theorem dX11_maskOf_43 : decode cX11_maskOf 43 = .ok (.iload_n 2, 1) := by decide +kernel
theorem dX11_maskOf_44 : decode cX11_maskOf 44 = .ok (.ireturn, 1) := by decide +kernel
theorem dX11_bits_0 : decode cX11_bits 0 = .ok (.iconst 0, 1) := by decide +kernel
theorem dX11_bits_1 : decode cX11_bits 1 = .ok (.istore_n 1, 1) := by decide +kernel
theorem dX11_bits_2 : decode cX11_bits 2 = .ok (.iload_n 0, 1) := by decide +kernel
theorem dX11_bits_3 : decode cX11_bits 3 = .ok (.istore_n 2, 1) := by decide +kernel
theorem dX11_bits_4 : decode cX11_bits 4 = .ok (.iload_n 2, 1) := by decide +kernel
theorem dX11_bits_5 : decode cX11_bits 5 = .ok (.ifCond .le 15, 3) := by decide +kernel
theorem dX11_bits_8 : decode cX11_bits 8 = .ok (.iinc 1 1, 3) := by decide +kernel
theorem dX11_bits_11 : decode cX11_bits 11 = .ok (.iload_n 2, 1) := by decide +kernel
theorem dX11_bits_12 : decode cX11_bits 12 = .ok (.iload_n 2, 1) := by decide +kernel
theorem dX11_bits_13 : decode cX11_bits 13 = .ok (.iconst 1, 1) := by decide +kernel
theorem dX11_bits_14 : decode cX11_bits 14 = .ok (.isub, 1) := by decide +kernel
theorem dX11_bits_15 : decode cX11_bits 15 = .ok (.iand, 1) := by decide +kernel
theorem dX11_bits_16 : decode cX11_bits 16 = .ok (.istore_n 2, 1) := by decide +kernel
theorem dX11_bits_17 : decode cX11_bits 17 = .ok (.goto (-13), 3) := by decide +kernel
theorem dX11_bits_20 : decode cX11_bits 20 = .ok (.iload_n 1, 1) := by decide +kernel
theorem dX11_bits_21 : decode cX11_bits 21 = .ok (.ireturn, 1) := by decide +kernel
theorem dX11_power_0 : decode cX11_power 0 = .ok (.lconst 1, 1) := by decide +kernel
theorem dX11_power_1 : decode cX11_power 1 = .ok (.lstore_n 3, 1) := by decide +kernel
theorem dX11_power_2 : decode cX11_power 2 = .ok (.iconst 0, 1) := by decide +kernel
theorem dX11_power_3 : decode cX11_power 3 = .ok (.istore 5, 2) := by decide +kernel
theorem dX11_power_5 : decode cX11_power 5 = .ok (.iload 5, 2) := by decide +kernel
theorem dX11_power_7 : decode cX11_power 7 = .ok (.iload_n 2, 1) := by decide +kernel
theorem dX11_power_8 : decode cX11_power 8 = .ok (.if_icmp .ge 13, 3) := by decide +kernel
theorem dX11_power_11 : decode cX11_power 11 = .ok (.lload_n 3, 1) := by decide +kernel
theorem dX11_power_12 : decode cX11_power 12 = .ok (.lload_n 0, 1) := by decide +kernel
theorem dX11_power_13 : decode cX11_power 13 = .ok (.lmul, 1) := by decide +kernel
theorem dX11_power_14 : decode cX11_power 14 = .ok (.lstore_n 3, 1) := by decide +kernel
theorem dX11_power_15 : decode cX11_power 15 = .ok (.iinc 5 1, 3) := by decide +kernel
theorem dX11_power_18 : decode cX11_power 18 = .ok (.goto (-13), 3) := by decide +kernel
theorem dX11_power_21 : decode cX11_power 21 = .ok (.lload_n 3, 1) := by decide +kernel
theorem dX11_power_22 : decode cX11_power 22 = .ok (.lreturn, 1) := by decide +kernel
theorem dX11_above_0 : decode cX11_above 0 = .ok (.iconst 0, 1) := by decide +kernel
theorem dX11_above_1 : decode cX11_above 1 = .ok (.istore 4, 2) := by decide +kernel
theorem dX11_above_3 : decode cX11_above 3 = .ok (.iconst 0, 1) := by decide +kernel
theorem dX11_above_4 : decode cX11_above 4 = .ok (.istore 5, 2) := by decide +kernel
theorem dX11_above_6 : decode cX11_above 6 = .ok (.iload 5, 2) := by decide +kernel
theorem dX11_above_8 : decode cX11_above 8 = .ok (.aload_n 0, 1) := by decide +kernel
theorem dX11_above_9 : decode cX11_above 9 = .ok (.getfield 151, 3) := by decide +kernel
theorem dX11_above_12 : decode cX11_above 12 = .ok (.if_icmp .ge 41, 3) := by decide +kernel
theorem dX11_above_15 : decode cX11_above 15 = .ok (.aload_n 0, 1) := by decide +kernel
theorem dX11_above_16 : decode cX11_above 16 = .ok (.getfield 42, 3) := by decide +kernel
theorem dX11_above_19 : decode cX11_above 19 = .ok (.iload 5, 2) := by decide +kernel
theorem dX11_above_21 : decode cX11_above 21 = .ok (.iaload, 1) := by decide +kernel
theorem dX11_above_22 : decode cX11_above 22 = .ok (.iload_n 1, 1) := by decide +kernel
theorem dX11_above_23 : decode cX11_above 23 = .ok (.if_icmp .ne 24, 3) := by decide +kernel
theorem dX11_above_26 : decode cX11_above 26 = .ok (.aload_n 0, 1) := by decide +kernel
theorem dX11_above_27 : decode cX11_above 27 = .ok (.getfield 72, 3) := by decide +kernel
theorem dX11_above_30 : decode cX11_above 30 = .ok (.iload 4, 2) := by decide +kernel
theorem dX11_above_32 : decode cX11_above 32 = .ok (.aload_n 0, 1) := by decide +kernel
theorem dX11_above_33 : decode cX11_above 33 = .ok (.aload_n 0, 1) := by decide +kernel
theorem dX11_above_34 : decode cX11_above 34 = .ok (.getfield 39, 3) := by decide +kernel
theorem dX11_above_37 : decode cX11_above 37 = .ok (.iload 5, 2) := by decide +kernel
theorem dX11_above_39 : decode cX11_above 39 = .ok (.iaload, 1) := by decide +kernel
theorem dX11_above_40 : decode cX11_above 40 = .ok (.invokevirtual 242, 3) := by decide +kernel
theorem dX11_above_43 : decode cX11_above 43 = .ok (.iastore, 1) := by decide +kernel
theorem dX11_above_44 : decode cX11_above 44 = .ok (.iinc 4 1, 3) := by decide +kernel
theorem dX11_above_47 : decode cX11_above 47 = .ok (.iinc 5 1, 3) := by decide +kernel
theorem dX11_above_50 : decode cX11_above 50 = .ok (.goto (-44), 3) := by decide +kernel
theorem dX11_above_53 : decode cX11_above 53 = .ok (.lconst 0, 1) := by decide +kernel
theorem dX11_above_54 : decode cX11_above 54 = .ok (.lstore 5, 2) := by decide +kernel
theorem dX11_above_56 : decode cX11_above 56 = .ok (.iconst 0, 1) := by decide +kernel
theorem dX11_above_57 : decode cX11_above 57 = .ok (.istore 7, 2) := by decide +kernel
theorem dX11_above_59 : decode cX11_above 59 = .ok (.iload 7, 2) := by decide +kernel
theorem dX11_above_61 : decode cX11_above 61 = .ok (.iconst 1, 1) := by decide +kernel
theorem dX11_above_62 : decode cX11_above 62 = .ok (.iload_n 3, 1) := by decide +kernel
theorem dX11_above_63 : decode cX11_above 63 = .ok (.ishl, 1) := by decide +kernel
theorem dX11_above_64 : decode cX11_above 64 = .ok (.if_icmp .ge 96, 3) := by decide +kernel
theorem dX11_above_67 : decode cX11_above 67 = .ok (.iconst 0, 1) := by decide +kernel
theorem dX11_above_68 : decode cX11_above 68 = .ok (.istore 8, 2) := by decide +kernel
theorem dX11_above_70 : decode cX11_above 70 = .ok (.iconst 0, 1) := by decide +kernel
theorem dX11_above_71 : decode cX11_above 71 = .ok (.istore 9, 2) := by decide +kernel
theorem dX11_above_73 : decode cX11_above 73 = .ok (.iload 9, 2) := by decide +kernel
theorem dX11_above_75 : decode cX11_above 75 = .ok (.iload 4, 2) := by decide +kernel
theorem dX11_above_77 : decode cX11_above 77 = .ok (.if_icmp .ge 36, 3) := by decide +kernel
theorem dX11_above_80 : decode cX11_above 80 = .ok (.iload 8, 2) := by decide +kernel
theorem dX11_above_82 : decode cX11_above 82 = .ok (.ifCond .ne 31, 3) := by decide +kernel
theorem dX11_above_85 : decode cX11_above 85 = .ok (.aload_n 0, 1) := by decide +kernel
theorem dX11_above_86 : decode cX11_above 86 = .ok (.getfield 72, 3) := by decide +kernel
theorem dX11_above_89 : decode cX11_above 89 = .ok (.iload 9, 2) := by decide +kernel
theorem dX11_above_91 : decode cX11_above 91 = .ok (.iaload, 1) := by decide +kernel
theorem dX11_above_92 : decode cX11_above 92 = .ok (.iload 7, 2) := by decide +kernel
theorem dX11_above_94 : decode cX11_above 94 = .ok (.iconst (-1), 1) := by decide +kernel
theorem dX11_above_95 : decode cX11_above 95 = .ok (.ixor, 1) := by decide +kernel
theorem dX11_above_96 : decode cX11_above 96 = .ok (.iand, 1) := by decide +kernel
theorem dX11_above_97 : decode cX11_above 97 = .ok (.ifCond .ne 7, 3) := by decide +kernel
theorem dX11_above_100 : decode cX11_above 100 = .ok (.iconst 1, 1) := by decide +kernel
theorem dX11_above_101 : decode cX11_above 101 = .ok (.goto 4, 3) := by decide +kernel
theorem dX11_above_104 : decode cX11_above 104 = .ok (.iconst 0, 1) := by decide +kernel
theorem dX11_above_105 : decode cX11_above 105 = .ok (.istore 8, 2) := by decide +kernel
theorem dX11_above_107 : decode cX11_above 107 = .ok (.iinc 9 1, 3) := by decide +kernel
theorem dX11_above_110 : decode cX11_above 110 = .ok (.goto (-37), 3) := by decide +kernel
theorem dX11_above_113 : decode cX11_above 113 = .ok (.lload 5, 2) := by decide +kernel
theorem dX11_above_115 : decode cX11_above 115 = .ok (.iload 8, 2) := by decide +kernel
theorem dX11_above_117 : decode cX11_above 117 = .ok (.ifCond .eq 33, 3) := by decide +kernel
theorem dX11_above_120 : decode cX11_above 120 = .ok (.ldc2_w 245, 3) := by decide +kernel
theorem dX11_above_123 : decode cX11_above 123 = .ok (.iload_n 2, 1) := by decide +kernel
theorem dX11_above_124 : decode cX11_above 124 = .ok (.i2l, 1) := by decide +kernel
theorem dX11_above_125 : decode cX11_above 125 = .ok (.lsub, 1) := by decide +kernel
theorem dX11_above_126 : decode cX11_above 126 = .ok (.iload 7, 2) := by decide +kernel
theorem dX11_above_128 : decode cX11_above 128 = .ok (.invokestatic 247, 3) := by decide +kernel
theorem dX11_above_131 : decode cX11_above 131 = .ok (.invokestatic 250, 3) := by decide +kernel
theorem dX11_above_134 : decode cX11_above 134 = .ok (.iload_n 2, 1) := by decide +kernel
theorem dX11_above_135 : decode cX11_above 135 = .ok (.i2l, 1) := by decide +kernel
theorem dX11_above_136 : decode cX11_above 136 = .ok (.iload_n 3, 1) := by decide +kernel
theorem dX11_above_137 : decode cX11_above 137 = .ok (.iload 7, 2) := by decide +kernel
theorem dX11_above_139 : decode cX11_above 139 = .ok (.invokestatic 247, 3) := by decide +kernel
theorem dX11_above_142 : decode cX11_above 142 = .ok (.isub, 1) := by decide +kernel
theorem dX11_above_143 : decode cX11_above 143 = .ok (.invokestatic 250, 3) := by decide +kernel
theorem dX11_above_146 : decode cX11_above 146 = .ok (.lmul, 1) := by decide +kernel
theorem dX11_above_147 : decode cX11_above 147 = .ok (.goto 4, 3) := by decide +kernel
theorem dX11_above_150 : decode cX11_above 150 = .ok (.lconst 0, 1) := by decide +kernel
theorem dX11_above_151 : decode cX11_above 151 = .ok (.ladd, 1) := by decide +kernel
theorem dX11_above_152 : decode cX11_above 152 = .ok (.lstore 5, 2) := by decide +kernel
theorem dX11_above_154 : decode cX11_above 154 = .ok (.iinc 7 1, 3) := by decide +kernel
theorem dX11_above_157 : decode cX11_above 157 = .ok (.goto (-98), 3) := by decide +kernel
theorem dX11_above_160 : decode cX11_above 160 = .ok (.lload 5, 2) := by decide +kernel
theorem dX11_above_162 : decode cX11_above 162 = .ok (.lreturn, 1) := by decide +kernel
theorem dX11_fail_0 : decode cX11_fail 0 = .ok (.aload_n 0, 1) := by decide +kernel
theorem dX11_fail_1 : decode cX11_fail 1 = .ok (.iload_n 1, 1) := by decide +kernel
theorem dX11_fail_2 : decode cX11_fail 2 = .ok (.invokevirtual 92, 3) := by decide +kernel
theorem dX11_fail_5 : decode cX11_fail 5 = .ok (.ifCond .eq 25, 3) := by decide +kernel
theorem dX11_fail_8 : decode cX11_fail 8 = .ok (.iload_n 2, 1) := by decide +kernel
theorem dX11_fail_9 : decode cX11_fail 9 = .ok (.i2l, 1) := by decide +kernel
theorem dX11_fail_10 : decode cX11_fail 10 = .ok (.lconst 0, 1) := by decide +kernel
theorem dX11_fail_11 : decode cX11_fail 11 = .ok (.ldc2_w 245, 3) := by decide +kernel
theorem dX11_fail_14 : decode cX11_fail 14 = .ok (.invokestatic 88, 3) := by decide +kernel
theorem dX11_fail_17 : decode cX11_fail 17 = .ok (.ifCond .eq 13, 3) := by decide +kernel
theorem dX11_fail_20 : decode cX11_fail 20 = .ok (.iload_n 3, 1) := by decide +kernel
theorem dX11_fail_21 : decode cX11_fail 21 = .ok (.i2l, 1) := by decide +kernel
theorem dX11_fail_22 : decode cX11_fail 22 = .ok (.lconst 0, 1) := by decide +kernel
theorem dX11_fail_23 : decode cX11_fail 23 = .ok (.lconst 1, 1) := by decide +kernel
theorem dX11_fail_24 : decode cX11_fail 24 = .ok (.invokestatic 88, 3) := by decide +kernel
theorem dX11_fail_27 : decode cX11_fail 27 = .ok (.ifCond .ne 7, 3) := by decide +kernel
theorem dX11_fail_30 : decode cX11_fail 30 = .ok (.ldc2_w 231, 3) := by decide +kernel
theorem dX11_fail_33 : decode cX11_fail 33 = .ok (.lreturn, 1) := by decide +kernel
theorem dX11_fail_34 : decode cX11_fail 34 = .ok (.aload_n 0, 1) := by decide +kernel
theorem dX11_fail_35 : decode cX11_fail 35 = .ok (.invokevirtual 160, 3) := by decide +kernel
theorem dX11_fail_38 : decode cX11_fail 38 = .ok (.aload_n 0, 1) := by decide +kernel
theorem dX11_fail_39 : decode cX11_fail 39 = .ok (.invokevirtual 254, 3) := by decide +kernel
theorem dX11_fail_42 : decode cX11_fail 42 = .ok (.istore 4, 2) := by decide +kernel
theorem dX11_fail_44 : decode cX11_fail 44 = .ok (.aload_n 0, 1) := by decide +kernel
theorem dX11_fail_45 : decode cX11_fail 45 = .ok (.iload_n 1, 1) := by decide +kernel
theorem dX11_fail_46 : decode cX11_fail 46 = .ok (.iload_n 2, 1) := by decide +kernel
theorem dX11_fail_47 : decode cX11_fail 47 = .ok (.iload 4, 2) := by decide +kernel
theorem dX11_fail_49 : decode cX11_fail 49 = .ok (.invokevirtual 257, 3) := by decide +kernel
theorem dX11_fail_52 : decode cX11_fail 52 = .ok (.lstore 5, 2) := by decide +kernel
theorem dX11_fail_54 : decode cX11_fail 54 = .ok (.ldc2_w 245, 3) := by decide +kernel
theorem dX11_fail_57 : decode cX11_fail 57 = .ok (.iload 4, 2) := by decide +kernel
theorem dX11_fail_59 : decode cX11_fail 59 = .ok (.invokestatic 250, 3) := by decide +kernel
theorem dX11_fail_62 : decode cX11_fail 62 = .ok (.lstore 7, 2) := by decide +kernel
theorem dX11_fail_64 : decode cX11_fail 64 = .ok (.lload 5, 2) := by decide +kernel
theorem dX11_fail_66 : decode cX11_fail 66 = .ok (.lstore 9, 2) := by decide +kernel
theorem dX11_fail_68 : decode cX11_fail 68 = .ok (.lload 7, 2) := by decide +kernel
theorem dX11_fail_70 : decode cX11_fail 70 = .ok (.lstore 11, 2) := by decide +kernel
theorem dX11_fail_72 : decode cX11_fail 72 = .ok (.lload 11, 2) := by decide +kernel
theorem dX11_fail_74 : decode cX11_fail 74 = .ok (.lconst 0, 1) := by decide +kernel
theorem dX11_fail_75 : decode cX11_fail 75 = .ok (.lcmp, 1) := by decide +kernel
theorem dX11_fail_76 : decode cX11_fail 76 = .ok (.ifCond .eq 21, 3) := by decide +kernel
theorem dX11_fail_79 : decode cX11_fail 79 = .ok (.lload 9, 2) := by decide +kernel
theorem dX11_fail_81 : decode cX11_fail 81 = .ok (.lload 11, 2) := by decide +kernel
theorem dX11_fail_83 : decode cX11_fail 83 = .ok (.lrem, 1) := by decide +kernel
theorem dX11_fail_84 : decode cX11_fail 84 = .ok (.lstore 13, 2) := by decide +kernel
theorem dX11_fail_86 : decode cX11_fail 86 = .ok (.lload 11, 2) := by decide +kernel
theorem dX11_fail_88 : decode cX11_fail 88 = .ok (.lstore 9, 2) := by decide +kernel
theorem dX11_fail_90 : decode cX11_fail 90 = .ok (.lload 13, 2) := by decide +kernel
theorem dX11_fail_92 : decode cX11_fail 92 = .ok (.lstore 11, 2) := by decide +kernel
theorem dX11_fail_94 : decode cX11_fail 94 = .ok (.goto (-22), 3) := by decide +kernel
theorem dX11_fail_97 : decode cX11_fail 97 = .ok (.iload_n 3, 1) := by decide +kernel
theorem dX11_fail_98 : decode cX11_fail 98 = .ok (.ifCond .ne 11, 3) := by decide +kernel
theorem dX11_fail_101 : decode cX11_fail 101 = .ok (.lload 5, 2) := by decide +kernel
theorem dX11_fail_103 : decode cX11_fail 103 = .ok (.lload 9, 2) := by decide +kernel
theorem dX11_fail_105 : decode cX11_fail 105 = .ok (.ldiv, 1) := by decide +kernel
theorem dX11_fail_106 : decode cX11_fail 106 = .ok (.goto 8, 3) := by decide +kernel
theorem dX11_fail_109 : decode cX11_fail 109 = .ok (.lload 7, 2) := by decide +kernel
theorem dX11_fail_111 : decode cX11_fail 111 = .ok (.lload 9, 2) := by decide +kernel
theorem dX11_fail_113 : decode cX11_fail 113 = .ok (.ldiv, 1) := by decide +kernel
theorem dX11_fail_114 : decode cX11_fail 114 = .ok (.lreturn, 1) := by decide +kernel
theorem dX11_seen_0 : decode cX11_seen 0 = .ok (.aload_n 0, 1) := by decide +kernel
theorem dX11_seen_1 : decode cX11_seen 1 = .ok (.iload_n 1, 1) := by decide +kernel
theorem dX11_seen_2 : decode cX11_seen 2 = .ok (.invokevirtual 92, 3) := by decide +kernel
theorem dX11_seen_5 : decode cX11_seen 5 = .ok (.ifCond .ne 5, 3) := by decide +kernel
theorem dX11_seen_8 : decode cX11_seen 8 = .ok (.iconst (-1), 1) := by decide +kernel
theorem dX11_seen_9 : decode cX11_seen 9 = .ok (.ireturn, 1) := by decide +kernel
theorem dX11_seen_10 : decode cX11_seen 10 = .ok (.aload_n 0, 1) := by decide +kernel
theorem dX11_seen_11 : decode cX11_seen 11 = .ok (.getfield 7, 3) := by decide +kernel
theorem dX11_seen_14 : decode cX11_seen 14 = .ok (.bipush 109, 2) := by decide +kernel
theorem dX11_seen_16 : decode cX11_seen 16 = .ok (.iload_n 1, 1) := by decide +kernel
theorem dX11_seen_17 : decode cX11_seen 17 = .ok (.iadd, 1) := by decide +kernel
theorem dX11_seen_18 : decode cX11_seen 18 = .ok (.iaload, 1) := by decide +kernel
theorem dX11_seen_19 : decode cX11_seen 19 = .ok (.istore_n 2, 1) := by decide +kernel
theorem dX11_seen_20 : decode cX11_seen 20 = .ok (.iconst 0, 1) := by decide +kernel
theorem dX11_seen_21 : decode cX11_seen 21 = .ok (.istore_n 3, 1) := by decide +kernel
theorem dX11_seen_22 : decode cX11_seen 22 = .ok (.aload_n 0, 1) := by decide +kernel
theorem dX11_seen_23 : decode cX11_seen 23 = .ok (.invokevirtual 177, 3) := by decide +kernel
theorem dX11_seen_26 : decode cX11_seen 26 = .ok (.iconst 0, 1) := by decide +kernel
theorem dX11_seen_27 : decode cX11_seen 27 = .ok (.istore 4, 2) := by decide +kernel
theorem dX11_seen_29 : decode cX11_seen 29 = .ok (.iload 4, 2) := by decide +kernel
theorem dX11_seen_31 : decode cX11_seen 31 = .ok (.iconst 4, 1) := by decide +kernel
theorem dX11_seen_32 : decode cX11_seen 32 = .ok (.if_icmp .ge 38, 3) := by decide +kernel
theorem dX11_seen_35 : decode cX11_seen 35 = .ok (.aload_n 0, 1) := by decide +kernel
theorem dX11_seen_36 : decode cX11_seen 36 = .ok (.getfield 7, 3) := by decide +kernel
theorem dX11_seen_39 : decode cX11_seen 39 = .ok (.bipush 109, 2) := by decide +kernel
theorem dX11_seen_41 : decode cX11_seen 41 = .ok (.iload_n 1, 1) := by decide +kernel
theorem dX11_seen_42 : decode cX11_seen 42 = .ok (.iadd, 1) := by decide +kernel
theorem dX11_seen_43 : decode cX11_seen 43 = .ok (.iload 4, 2) := by decide +kernel
theorem dX11_seen_45 : decode cX11_seen 45 = .ok (.iastore, 1) := by decide +kernel
theorem dX11_seen_46 : decode cX11_seen 46 = .ok (.iload_n 3, 1) := by decide +kernel
theorem dX11_seen_47 : decode cX11_seen 47 = .ok (.aload_n 0, 1) := by decide +kernel
theorem dX11_seen_48 : decode cX11_seen 48 = .ok (.invokevirtual 193, 3) := by decide +kernel
theorem dX11_seen_51 : decode cX11_seen 51 = .ok (.ifCond .ne 10, 3) := by decide +kernel
theorem dX11_seen_54 : decode cX11_seen 54 = .ok (.iconst 1, 1) := by decide +kernel
theorem dX11_seen_55 : decode cX11_seen 55 = .ok (.iload 4, 2) := by decide +kernel
theorem dX11_seen_57 : decode cX11_seen 57 = .ok (.ishl, 1) := by decide +kernel
theorem dX11_seen_58 : decode cX11_seen 58 = .ok (.goto 4, 3) := by decide +kernel
theorem dX11_seen_61 : decode cX11_seen 61 = .ok (.iconst 0, 1) := by decide +kernel
theorem dX11_seen_62 : decode cX11_seen 62 = .ok (.ior, 1) := by decide +kernel
theorem dX11_seen_63 : decode cX11_seen 63 = .ok (.istore_n 3, 1) := by decide +kernel
theorem dX11_seen_64 : decode cX11_seen 64 = .ok (.iinc 4 1, 3) := by decide +kernel
theorem dX11_seen_67 : decode cX11_seen 67 = .ok (.goto (-38), 3) := by decide +kernel
theorem dX11_seen_70 : decode cX11_seen 70 = .ok (.aload_n 0, 1) := by decide +kernel
theorem dX11_seen_71 : decode cX11_seen 71 = .ok (.getfield 7, 3) := by decide +kernel
theorem dX11_seen_74 : decode cX11_seen 74 = .ok (.bipush 109, 2) := by decide +kernel
theorem dX11_seen_76 : decode cX11_seen 76 = .ok (.iload_n 1, 1) := by decide +kernel
theorem dX11_seen_77 : decode cX11_seen 77 = .ok (.iadd, 1) := by decide +kernel
theorem dX11_seen_78 : decode cX11_seen 78 = .ok (.iload_n 2, 1) := by decide +kernel
theorem dX11_seen_79 : decode cX11_seen 79 = .ok (.iastore, 1) := by decide +kernel
theorem dX11_seen_80 : decode cX11_seen 80 = .ok (.iload_n 3, 1) := by decide +kernel
theorem dX11_seen_81 : decode cX11_seen 81 = .ok (.ireturn, 1) := by decide +kernel
theorem dX11_type_0 : decode cX11_type 0 = .ok (.iload_n 1, 1) := by decide +kernel
theorem dX11_type_1 : decode cX11_type 1 = .ok (.i2l, 1) := by decide +kernel
theorem dX11_type_2 : decode cX11_type 2 = .ok (.ldc2_w 261, 3) := by decide +kernel
theorem dX11_type_5 : decode cX11_type 5 = .ok (.ldc2_w 263, 3) := by decide +kernel
theorem dX11_type_8 : decode cX11_type 8 = .ok (.invokestatic 88, 3) := by decide +kernel
theorem dX11_type_11 : decode cX11_type 11 = .ok (.ifCond .ne 5, 3) := by decide +kernel
theorem dX11_type_14 : decode cX11_type 14 = .ok (.iconst (-1), 1) := by decide +kernel
theorem dX11_type_15 : decode cX11_type 15 = .ok (.ireturn, 1) := by decide +kernel
theorem dX11_type_16 : decode cX11_type 16 = .ok (.aload_n 0, 1) := by decide +kernel
theorem dX11_type_17 : decode cX11_type 17 = .ok (.getfield 265, 3) := by decide +kernel
theorem dX11_type_20 : decode cX11_type 20 = .ok (.bipush 80, 2) := by decide +kernel
theorem dX11_type_22 : decode cX11_type 22 = .ok (.if_icmp .ne 6, 3) := by decide +kernel
theorem dX11_type_25 : decode cX11_type 25 = .ok (.bipush (-3), 2) := by decide +kernel
theorem dX11_type_27 : decode cX11_type 27 = .ok (.ireturn, 1) := by decide +kernel
theorem dX11_type_28 : decode cX11_type 28 = .ok (.aload_n 0, 1) := by decide +kernel
theorem dX11_type_29 : decode cX11_type 29 = .ok (.getfield 26, 3) := by decide +kernel
theorem dX11_type_32 : decode cX11_type 32 = .ok (.aload_n 0, 1) := by decide +kernel
theorem dX11_type_33 : decode cX11_type 33 = .ok (.getfield 265, 3) := by decide +kernel
theorem dX11_type_36 : decode cX11_type 36 = .ok (.iload_n 1, 1) := by decide +kernel
theorem dX11_type_37 : decode cX11_type 37 = .ok (.iastore, 1) := by decide +kernel
theorem dX11_type_38 : decode cX11_type 38 = .ok (.aload_n 0, 1) := by decide +kernel
theorem dX11_type_39 : decode cX11_type 39 = .ok (.dup, 1) := by decide +kernel
theorem dX11_type_40 : decode cX11_type 40 = .ok (.getfield 265, 3) := by decide +kernel
theorem dX11_type_43 : decode cX11_type 43 = .ok (.iconst 1, 1) := by decide +kernel
theorem dX11_type_44 : decode cX11_type 44 = .ok (.iadd, 1) := by decide +kernel
theorem dX11_type_45 : decode cX11_type 45 = .ok (.putfield 265, 3) := by decide +kernel
theorem dX11_type_48 : decode cX11_type 48 = .ok (.aload_n 0, 1) := by decide +kernel
theorem dX11_type_49 : decode cX11_type 49 = .ok (.getfield 265, 3) := by decide +kernel
theorem dX11_type_52 : decode cX11_type 52 = .ok (.ireturn, 1) := by decide +kernel
theorem dX11_looks_0 : decode cX11_looks 0 = .ok (.aload_n 0, 1) := by decide +kernel
theorem dX11_looks_1 : decode cX11_looks 1 = .ok (.getfield 268, 3) := by decide +kernel
theorem dX11_looks_4 : decode cX11_looks 4 = .ok (.aload_n 0, 1) := by decide +kernel
theorem dX11_looks_5 : decode cX11_looks 5 = .ok (.getfield 265, 3) := by decide +kernel
theorem dX11_looks_8 : decode cX11_looks 8 = .ok (.if_icmp .ge 30, 3) := by decide +kernel
theorem dX11_looks_11 : decode cX11_looks 11 = .ok (.aload_n 0, 1) := by decide +kernel
theorem dX11_looks_12 : decode cX11_looks 12 = .ok (.getfield 26, 3) := by decide +kernel
theorem dX11_looks_15 : decode cX11_looks 15 = .ok (.aload_n 0, 1) := by decide +kernel
theorem dX11_looks_16 : decode cX11_looks 16 = .ok (.getfield 268, 3) := by decide +kernel
theorem dX11_looks_19 : decode cX11_looks 19 = .ok (.iaload, 1) := by decide +kernel
theorem dX11_looks_20 : decode cX11_looks 20 = .ok (.bipush 32, 2) := by decide +kernel
theorem dX11_looks_22 : decode cX11_looks 22 = .ok (.if_icmp .ne 16, 3) := by decide +kernel
theorem dX11_looks_25 : decode cX11_looks 25 = .ok (.aload_n 0, 1) := by decide +kernel
theorem dX11_looks_26 : decode cX11_looks 26 = .ok (.dup, 1) := by decide +kernel
theorem dX11_looks_27 : decode cX11_looks 27 = .ok (.getfield 268, 3) := by decide +kernel
theorem dX11_looks_30 : decode cX11_looks 30 = .ok (.iconst 1, 1) := by decide +kernel
theorem dX11_looks_31 : decode cX11_looks 31 = .ok (.iadd, 1) := by decide +kernel
theorem dX11_looks_32 : decode cX11_looks 32 = .ok (.putfield 268, 3) := by decide +kernel
theorem dX11_looks_35 : decode cX11_looks 35 = .ok (.goto (-35), 3) := by decide +kernel
theorem dX11_looks_38 : decode cX11_looks 38 = .ok (.aload_n 0, 1) := by decide +kernel
theorem dX11_looks_39 : decode cX11_looks 39 = .ok (.getfield 268, 3) := by decide +kernel
theorem dX11_looks_42 : decode cX11_looks 42 = .ok (.aload_n 0, 1) := by decide +kernel
theorem dX11_looks_43 : decode cX11_looks 43 = .ok (.getfield 265, 3) := by decide +kernel
theorem dX11_looks_46 : decode cX11_looks 46 = .ok (.if_icmp .ge 15, 3) := by decide +kernel
theorem dX11_looks_49 : decode cX11_looks 49 = .ok (.aload_n 0, 1) := by decide +kernel
