theorem dX10_canLend_22 : decode cX10_canLend 22 = .ok (.iload_n 1, 1) := by decide +kernel
theorem dX10_canLend_23 : decode cX10_canLend 23 = .ok (.invokevirtual 442, 3) := by decide +kernel
theorem dX10_canLend_26 : decode cX10_canLend 26 = .ok (.pop, 1) := by decide +kernel
theorem dX10_canLend_27 : decode cX10_canLend 27 = .ok (.iload_n 3, 1) := by decide +kernel
theorem dX10_canLend_28 : decode cX10_canLend 28 = .ok (.ifCond .eq 16, 3) := by decide +kernel
theorem dX10_canLend_31 : decode cX10_canLend 31 = .ok (.aload_n 0, 1) := by decide +kernel
theorem dX10_canLend_32 : decode cX10_canLend 32 = .ok (.iload_n 2, 1) := by decide +kernel
theorem dX10_canLend_33 : decode cX10_canLend 33 = .ok (.iload_n 1, 1) := by decide +kernel
theorem dX10_canLend_34 : decode cX10_canLend 34 = .ok (.invokevirtual 436, 3) := by decide +kernel
theorem dX10_canLend_37 : decode cX10_canLend 37 = .ok (.ifCond .eq 7, 3) := by decide +kernel
theorem dX10_canLend_40 : decode cX10_canLend 40 = .ok (.iconst 1, 1) := by decide +kernel
theorem dX10_canLend_41 : decode cX10_canLend 41 = .ok (.goto 4, 3) := by decide +kernel
theorem dX10_canLend_44 : decode cX10_canLend 44 = .ok (.iconst 0, 1) := by decide +kernel
theorem dX10_canLend_45 : decode cX10_canLend 45 = .ok (.istore_n 3, 1) := by decide +kernel
theorem dX10_canLend_46 : decode cX10_canLend 46 = .ok (.aload_n 0, 1) := by decide +kernel
theorem dX10_canLend_47 : decode cX10_canLend 47 = .ok (.bipush 18, 2) := by decide +kernel
theorem dX10_canLend_49 : decode cX10_canLend 49 = .ok (.invokevirtual 174, 3) := by decide +kernel
theorem dX10_canLend_52 : decode cX10_canLend 52 = .ok (.iload_n 3, 1) := by decide +kernel
theorem dX10_canLend_53 : decode cX10_canLend 53 = .ok (.ireturn, 1) := by decide +kernel
theorem dX10_waitAt_0 : decode cX10_waitAt 0 = .ok (.iconst (-1), 1) := by decide +kernel
theorem dX10_waitAt_1 : decode cX10_waitAt 1 = .ok (.istore_n 3, 1) := by decide +kernel
theorem dX10_waitAt_2 : decode cX10_waitAt 2 = .ok (.iconst 0, 1) := by decide +kernel
theorem dX10_waitAt_3 : decode cX10_waitAt 3 = .ok (.istore 4, 2) := by decide +kernel
theorem dX10_waitAt_5 : decode cX10_waitAt 5 = .ok (.iload 4, 2) := by decide +kernel
theorem dX10_waitAt_7 : decode cX10_waitAt 7 = .ok (.aload_n 0, 1) := by decide +kernel
theorem dX10_waitAt_8 : decode cX10_waitAt 8 = .ok (.getfield 13, 3) := by decide +kernel
theorem dX10_waitAt_11 : decode cX10_waitAt 11 = .ok (.bipush 8, 2) := by decide +kernel
theorem dX10_waitAt_13 : decode cX10_waitAt 13 = .ok (.iaload, 1) := by decide +kernel
theorem dX10_waitAt_14 : decode cX10_waitAt 14 = .ok (.if_icmp .ge 50, 3) := by decide +kernel
theorem dX10_waitAt_17 : decode cX10_waitAt 17 = .ok (.aload_n 0, 1) := by decide +kernel
theorem dX10_waitAt_18 : decode cX10_waitAt 18 = .ok (.getfield 13, 3) := by decide +kernel
theorem dX10_waitAt_21 : decode cX10_waitAt 21 = .ok (.bipush 47, 2) := by decide +kernel
theorem dX10_waitAt_23 : decode cX10_waitAt 23 = .ok (.iconst 2, 1) := by decide +kernel
theorem dX10_waitAt_24 : decode cX10_waitAt 24 = .ok (.iload 4, 2) := by decide +kernel
theorem dX10_waitAt_26 : decode cX10_waitAt 26 = .ok (.imul, 1) := by decide +kernel
theorem dX10_waitAt_27 : decode cX10_waitAt 27 = .ok (.iadd, 1) := by decide +kernel
theorem dX10_waitAt_28 : decode cX10_waitAt 28 = .ok (.iaload, 1) := by decide +kernel
theorem dX10_waitAt_29 : decode cX10_waitAt 29 = .ok (.iload_n 1, 1) := by decide +kernel
theorem dX10_waitAt_30 : decode cX10_waitAt 30 = .ok (.if_icmp .ne 26, 3) := by decide +kernel
theorem dX10_waitAt_33 : decode cX10_waitAt 33 = .ok (.aload_n 0, 1) := by decide +kernel
theorem dX10_waitAt_34 : decode cX10_waitAt 34 = .ok (.getfield 13, 3) := by decide +kernel
theorem dX10_waitAt_37 : decode cX10_waitAt 37 = .ok (.bipush 47, 2) := by decide +kernel
theorem dX10_waitAt_39 : decode cX10_waitAt 39 = .ok (.iconst 2, 1) := by decide +kernel
theorem dX10_waitAt_40 : decode cX10_waitAt 40 = .ok (.iload 4, 2) := by decide +kernel
theorem dX10_waitAt_42 : decode cX10_waitAt 42 = .ok (.imul, 1) := by decide +kernel
theorem dX10_waitAt_43 : decode cX10_waitAt 43 = .ok (.iadd, 1) := by decide +kernel
theorem dX10_waitAt_44 : decode cX10_waitAt 44 = .ok (.iconst 1, 1) := by decide +kernel
theorem dX10_waitAt_45 : decode cX10_waitAt 45 = .ok (.iadd, 1) := by decide +kernel
theorem dX10_waitAt_46 : decode cX10_waitAt 46 = .ok (.iaload, 1) := by decide +kernel
theorem dX10_waitAt_47 : decode cX10_waitAt 47 = .ok (.iload_n 2, 1) := by decide +kernel
theorem dX10_waitAt_48 : decode cX10_waitAt 48 = .ok (.if_icmp .ne 8, 3) := by decide +kernel
theorem dX10_waitAt_51 : decode cX10_waitAt 51 = .ok (.iload 4, 2) := by decide +kernel
theorem dX10_waitAt_53 : decode cX10_waitAt 53 = .ok (.goto 4, 3) := by decide +kernel
theorem dX10_waitAt_56 : decode cX10_waitAt 56 = .ok (.iload_n 3, 1) := by decide +kernel
theorem dX10_waitAt_57 : decode cX10_waitAt 57 = .ok (.istore_n 3, 1) := by decide +kernel
theorem dX10_waitAt_58 : decode cX10_waitAt 58 = .ok (.iinc 4 1, 3) := by decide +kernel
theorem dX10_waitAt_61 : decode cX10_waitAt 61 = .ok (.goto (-56), 3) := by decide +kernel
theorem dX10_waitAt_64 : decode cX10_waitAt 64 = .ok (.iload_n 3, 1) := by decide +kernel
theorem dX10_waitAt_65 : decode cX10_waitAt 65 = .ok (.ireturn, 1) := by decide +kernel
theorem dX10_lendIt_0 : decode cX10_lendIt 0 = .ok (.aload_n 0, 1) := by decide +kernel
theorem dX10_lendIt_1 : decode cX10_lendIt 1 = .ok (.iload_n 1, 1) := by decide +kernel
theorem dX10_lendIt_2 : decode cX10_lendIt 2 = .ok (.invokevirtual 442, 3) := by decide +kernel
theorem dX10_lendIt_5 : decode cX10_lendIt 5 = .ok (.istore_n 3, 1) := by decide +kernel
theorem dX10_lendIt_6 : decode cX10_lendIt 6 = .ok (.aload_n 0, 1) := by decide +kernel
theorem dX10_lendIt_7 : decode cX10_lendIt 7 = .ok (.getfield 13, 3) := by decide +kernel
theorem dX10_lendIt_10 : decode cX10_lendIt 10 = .ok (.bipush 29, 2) := by decide +kernel
theorem dX10_lendIt_12 : decode cX10_lendIt 12 = .ok (.iload_n 1, 1) := by decide +kernel
theorem dX10_lendIt_13 : decode cX10_lendIt 13 = .ok (.iadd, 1) := by decide +kernel
theorem dX10_lendIt_14 : decode cX10_lendIt 14 = .ok (.iload_n 2, 1) := by decide +kernel
theorem dX10_lendIt_15 : decode cX10_lendIt 15 = .ok (.iastore, 1) := by decide +kernel
theorem dX10_lendIt_16 : decode cX10_lendIt 16 = .ok (.aload_n 0, 1) := by decide +kernel
theorem dX10_lendIt_17 : decode cX10_lendIt 17 = .ok (.getfield 13, 3) := by decide +kernel
theorem dX10_lendIt_20 : decode cX10_lendIt 20 = .ok (.bipush 35, 2) := by decide +kernel
theorem dX10_lendIt_22 : decode cX10_lendIt 22 = .ok (.iload_n 1, 1) := by decide +kernel
theorem dX10_lendIt_23 : decode cX10_lendIt 23 = .ok (.iadd, 1) := by decide +kernel
theorem dX10_lendIt_24 : decode cX10_lendIt 24 = .ok (.aload_n 0, 1) := by decide +kernel
theorem dX10_lendIt_25 : decode cX10_lendIt 25 = .ok (.iconst 0, 1) := by decide +kernel
theorem dX10_lendIt_26 : decode cX10_lendIt 26 = .ok (.invokevirtual 398, 3) := by decide +kernel
theorem dX10_lendIt_29 : decode cX10_lendIt 29 = .ok (.iastore, 1) := by decide +kernel
theorem dX10_lendIt_30 : decode cX10_lendIt 30 = .ok (.aload_n 0, 1) := by decide +kernel
theorem dX10_lendIt_31 : decode cX10_lendIt 31 = .ok (.iload_n 2, 1) := by decide +kernel
theorem dX10_lendIt_32 : decode cX10_lendIt 32 = .ok (.iload_n 1, 1) := by decide +kernel
theorem dX10_lendIt_33 : decode cX10_lendIt 33 = .ok (.invokevirtual 445, 3) := by decide +kernel
theorem dX10_lendIt_36 : decode cX10_lendIt 36 = .ok (.istore 4, 2) := by decide +kernel
theorem dX10_lendIt_38 : decode cX10_lendIt 38 = .ok (.iload 4, 2) := by decide +kernel
theorem dX10_lendIt_40 : decode cX10_lendIt 40 = .ok (.iconst (-1), 1) := by decide +kernel
theorem dX10_lendIt_41 : decode cX10_lendIt 41 = .ok (.if_icmp .eq 62, 3) := by decide +kernel
theorem dX10_lendIt_44 : decode cX10_lendIt 44 = .ok (.aload_n 0, 1) := by decide +kernel
theorem dX10_lendIt_45 : decode cX10_lendIt 45 = .ok (.getfield 13, 3) := by decide +kernel
theorem dX10_lendIt_48 : decode cX10_lendIt 48 = .ok (.bipush 8, 2) := by decide +kernel
theorem dX10_lendIt_50 : decode cX10_lendIt 50 = .ok (.dup2, 1) := by decide +kernel
theorem dX10_lendIt_51 : decode cX10_lendIt 51 = .ok (.iaload, 1) := by decide +kernel
theorem dX10_lendIt_52 : decode cX10_lendIt 52 = .ok (.iconst 1, 1) := by decide +kernel
theorem dX10_lendIt_53 : decode cX10_lendIt 53 = .ok (.isub, 1) := by decide +kernel
theorem dX10_lendIt_54 : decode cX10_lendIt 54 = .ok (.iastore, 1) := by decide +kernel
theorem dX10_lendIt_55 : decode cX10_lendIt 55 = .ok (.iconst 2, 1) := by decide +kernel
theorem dX10_lendIt_56 : decode cX10_lendIt 56 = .ok (.iload 4, 2) := by decide +kernel
theorem dX10_lendIt_58 : decode cX10_lendIt 58 = .ok (.imul, 1) := by decide +kernel
theorem dX10_lendIt_59 : decode cX10_lendIt 59 = .ok (.istore 5, 2) := by decide +kernel
theorem dX10_lendIt_61 : decode cX10_lendIt 61 = .ok (.iload 5, 2) := by decide +kernel
theorem dX10_lendIt_63 : decode cX10_lendIt 63 = .ok (.iconst 2, 1) := by decide +kernel
theorem dX10_lendIt_64 : decode cX10_lendIt 64 = .ok (.aload_n 0, 1) := by decide +kernel
theorem dX10_lendIt_65 : decode cX10_lendIt 65 = .ok (.getfield 13, 3) := by decide +kernel
theorem dX10_lendIt_68 : decode cX10_lendIt 68 = .ok (.bipush 8, 2) := by decide +kernel
theorem dX10_lendIt_70 : decode cX10_lendIt 70 = .ok (.iaload, 1) := by decide +kernel
theorem dX10_lendIt_71 : decode cX10_lendIt 71 = .ok (.imul, 1) := by decide +kernel
theorem dX10_lendIt_72 : decode cX10_lendIt 72 = .ok (.if_icmp .ge 31, 3) := by decide +kernel
theorem dX10_lendIt_75 : decode cX10_lendIt 75 = .ok (.aload_n 0, 1) := by decide +kernel
theorem dX10_lendIt_76 : decode cX10_lendIt 76 = .ok (.getfield 13, 3) := by decide +kernel
theorem dX10_lendIt_79 : decode cX10_lendIt 79 = .ok (.bipush 47, 2) := by decide +kernel
theorem dX10_lendIt_81 : decode cX10_lendIt 81 = .ok (.iload 5, 2) := by decide +kernel
theorem dX10_lendIt_83 : decode cX10_lendIt 83 = .ok (.iadd, 1) := by decide +kernel
theorem dX10_lendIt_84 : decode cX10_lendIt 84 = .ok (.aload_n 0, 1) := by decide +kernel
theorem dX10_lendIt_85 : decode cX10_lendIt 85 = .ok (.getfield 13, 3) := by decide +kernel
theorem dX10_lendIt_88 : decode cX10_lendIt 88 = .ok (.bipush 47, 2) := by decide +kernel
theorem dX10_lendIt_90 : decode cX10_lendIt 90 = .ok (.iload 5, 2) := by decide +kernel
theorem dX10_lendIt_92 : decode cX10_lendIt 92 = .ok (.iadd, 1) := by decide +kernel
theorem dX10_lendIt_93 : decode cX10_lendIt 93 = .ok (.iconst 2, 1) := by decide +kernel
theorem dX10_lendIt_94 : decode cX10_lendIt 94 = .ok (.iadd, 1) := by decide +kernel
theorem dX10_lendIt_95 : decode cX10_lendIt 95 = .ok (.iaload, 1) := by decide +kernel
theorem dX10_lendIt_96 : decode cX10_lendIt 96 = .ok (.iastore, 1) := by decide +kernel
theorem dX10_lendIt_97 : decode cX10_lendIt 97 = .ok (.iinc 5 1, 3) := by decide +kernel
theorem dX10_lendIt_100 : decode cX10_lendIt 100 = .ok (.goto (-39), 3) := by decide +kernel
theorem dX10_lendIt_103 : decode cX10_lendIt 103 = .ok (.iload_n 3, 1) := by decide +kernel
theorem dX10_lendIt_104 : decode cX10_lendIt 104 = .ok (.ireturn, 1) := by decide +kernel
theorem dX10_lendNow_0 : decode cX10_lendNow 0 = .ok (.aload_n 0, 1) := by decide +kernel
theorem dX10_lendNow_1 : decode cX10_lendNow 1 = .ok (.iload_n 1, 1) := by decide +kernel
theorem dX10_lendNow_2 : decode cX10_lendNow 2 = .ok (.invokevirtual 201, 3) := by decide +kernel
theorem dX10_lendNow_5 : decode cX10_lendNow 5 = .ok (.ifCond .eq 11, 3) := by decide +kernel
theorem dX10_lendNow_8 : decode cX10_lendNow 8 = .ok (.aload_n 0, 1) := by decide +kernel
theorem dX10_lendNow_9 : decode cX10_lendNow 9 = .ok (.iload_n 2, 1) := by decide +kernel
theorem dX10_lendNow_10 : decode cX10_lendNow 10 = .ok (.invokevirtual 194, 3) := by decide +kernel
theorem dX10_lendNow_13 : decode cX10_lendNow 13 = .ok (.ifCond .ne 6, 3) := by decide +kernel
theorem dX10_lendNow_16 : decode cX10_lendNow 16 = .ok (.bipush (-2), 2) := by decide +kernel
theorem dX10_lendNow_18 : decode cX10_lendNow 18 = .ok (.ireturn, 1) := by decide +kernel
theorem dX10_lendNow_19 : decode cX10_lendNow 19 = .ok (.aload_n 0, 1) := by decide +kernel
theorem dX10_lendNow_20 : decode cX10_lendNow 20 = .ok (.iload_n 1, 1) := by decide +kernel
theorem dX10_lendNow_21 : decode cX10_lendNow 21 = .ok (.iload_n 2, 1) := by decide +kernel
theorem dX10_lendNow_22 : decode cX10_lendNow 22 = .ok (.invokevirtual 448, 3) := by decide +kernel
theorem dX10_lendNow_25 : decode cX10_lendNow 25 = .ok (.ifCond .ne 6, 3) := by decide +kernel
theorem dX10_lendNow_28 : decode cX10_lendNow 28 = .ok (.bipush (-3), 2) := by decide +kernel
theorem dX10_lendNow_30 : decode cX10_lendNow 30 = .ok (.ireturn, 1) := by decide +kernel
theorem dX10_lendNow_31 : decode cX10_lendNow 31 = .ok (.aload_n 0, 1) := by decide +kernel
theorem dX10_lendNow_32 : decode cX10_lendNow 32 = .ok (.iconst 0, 1) := by decide +kernel
theorem dX10_lendNow_33 : decode cX10_lendNow 33 = .ok (.invokevirtual 451, 3) := by decide +kernel
theorem dX10_lendNow_36 : decode cX10_lendNow 36 = .ok (.aload_n 0, 1) := by decide +kernel
theorem dX10_lendNow_37 : decode cX10_lendNow 37 = .ok (.iload_n 1, 1) := by decide +kernel
theorem dX10_lendNow_38 : decode cX10_lendNow 38 = .ok (.iload_n 2, 1) := by decide +kernel
theorem dX10_lendNow_39 : decode cX10_lendNow 39 = .ok (.invokevirtual 454, 3) := by decide +kernel
theorem dX10_lendNow_42 : decode cX10_lendNow 42 = .ok (.ireturn, 1) := by decide +kernel
theorem dX10_lend_0 : decode cX10_lend 0 = .ok (.aload_n 0, 1) := by decide +kernel
theorem dX10_lend_1 : decode cX10_lend 1 = .ok (.iconst 0, 1) := by decide +kernel
theorem dX10_lend_2 : decode cX10_lend 2 = .ok (.putfield 157, 3) := by decide +kernel
theorem dX10_lend_5 : decode cX10_lend 5 = .ok (.aload_n 0, 1) := by decide +kernel
theorem dX10_lend_6 : decode cX10_lend 6 = .ok (.aload_n 0, 1) := by decide +kernel
theorem dX10_lend_7 : decode cX10_lend 7 = .ok (.iload_n 1, 1) := by decide +kernel
theorem dX10_lend_8 : decode cX10_lend 8 = .ok (.iload_n 2, 1) := by decide +kernel
theorem dX10_lend_9 : decode cX10_lend 9 = .ok (.invokevirtual 457, 3) := by decide +kernel
theorem dX10_lend_12 : decode cX10_lend 12 = .ok (.invokevirtual 166, 3) := by decide +kernel
theorem dX10_lend_15 : decode cX10_lend 15 = .ok (.ireturn, 1) := by decide +kernel
theorem dX10_bringNow_0 : decode cX10_bringNow 0 = .ok (.aload_n 0, 1) := by decide +kernel
theorem dX10_bringNow_1 : decode cX10_bringNow 1 = .ok (.iload_n 1, 1) := by decide +kernel
theorem dX10_bringNow_2 : decode cX10_bringNow 2 = .ok (.invokevirtual 201, 3) := by decide +kernel
theorem dX10_bringNow_5 : decode cX10_bringNow 5 = .ok (.ifCond .ne 6, 3) := by decide +kernel
theorem dX10_bringNow_8 : decode cX10_bringNow 8 = .ok (.bipush (-2), 2) := by decide +kernel
theorem dX10_bringNow_10 : decode cX10_bringNow 10 = .ok (.ireturn, 1) := by decide +kernel
theorem dX10_bringNow_11 : decode cX10_bringNow 11 = .ok (.aload_n 0, 1) := by decide +kernel
theorem dX10_bringNow_12 : decode cX10_bringNow 12 = .ok (.getfield 13, 3) := by decide +kernel
theorem dX10_bringNow_15 : decode cX10_bringNow 15 = .ok (.bipush 29, 2) := by decide +kernel
theorem dX10_bringNow_17 : decode cX10_bringNow 17 = .ok (.iload_n 1, 1) := by decide +kernel
theorem dX10_bringNow_18 : decode cX10_bringNow 18 = .ok (.iadd, 1) := by decide +kernel
theorem dX10_bringNow_19 : decode cX10_bringNow 19 = .ok (.iaload, 1) := by decide +kernel
theorem dX10_bringNow_20 : decode cX10_bringNow 20 = .ok (.iconst (-1), 1) := by decide +kernel
theorem dX10_bringNow_21 : decode cX10_bringNow 21 = .ok (.if_icmp .ne 6, 3) := by decide +kernel
theorem dX10_bringNow_24 : decode cX10_bringNow 24 = .ok (.bipush (-3), 2) := by decide +kernel
theorem dX10_bringNow_26 : decode cX10_bringNow 26 = .ok (.ireturn, 1) := by decide +kernel
theorem dX10_bringNow_27 : decode cX10_bringNow 27 = .ok (.aload_n 0, 1) := by decide +kernel
theorem dX10_bringNow_28 : decode cX10_bringNow 28 = .ok (.iconst 1, 1) := by decide +kernel
theorem dX10_bringNow_29 : decode cX10_bringNow 29 = .ok (.invokevirtual 451, 3) := by decide +kernel
theorem dX10_bringNow_32 : decode cX10_bringNow 32 = .ok (.aload_n 0, 1) := by decide +kernel
theorem dX10_bringNow_33 : decode cX10_bringNow 33 = .ok (.iload_n 1, 1) := by decide +kernel
theorem dX10_bringNow_34 : decode cX10_bringNow 34 = .ok (.invokevirtual 442, 3) := by decide +kernel
theorem dX10_bringNow_37 : decode cX10_bringNow 37 = .ok (.ireturn, 1) := by decide +kernel
theorem dX10_bring_0 : decode cX10_bring 0 = .ok (.aload_n 0, 1) := by decide +kernel
theorem dX10_bring_1 : decode cX10_bring 1 = .ok (.iconst 0, 1) := by decide +kernel
theorem dX10_bring_2 : decode cX10_bring 2 = .ok (.putfield 157, 3) := by decide +kernel
theorem dX10_bring_5 : decode cX10_bring 5 = .ok (.aload_n 0, 1) := by decide +kernel
theorem dX10_bring_6 : decode cX10_bring 6 = .ok (.aload_n 0, 1) := by decide +kernel
theorem dX10_bring_7 : decode cX10_bring 7 = .ok (.iload_n 1, 1) := by decide +kernel
theorem dX10_bring_8 : decode cX10_bring 8 = .ok (.invokevirtual 460, 3) := by decide +kernel
theorem dX10_bring_11 : decode cX10_bring 11 = .ok (.invokevirtual 166, 3) := by decide +kernel
theorem dX10_bring_14 : decode cX10_bring 14 = .ok (.ireturn, 1) := by decide +kernel
theorem dX10_waitsNow_0 : decode cX10_waitsNow 0 = .ok (.aload_n 0, 1) := by decide +kernel
theorem dX10_waitsNow_1 : decode cX10_waitsNow 1 = .ok (.iload_n 1, 1) := by decide +kernel
theorem dX10_waitsNow_2 : decode cX10_waitsNow 2 = .ok (.invokevirtual 194, 3) := by decide +kernel
theorem dX10_waitsNow_5 : decode cX10_waitsNow 5 = .ok (.ifCond .eq 11, 3) := by decide +kernel
theorem dX10_waitsNow_8 : decode cX10_waitsNow 8 = .ok (.aload_n 0, 1) := by decide +kernel
theorem dX10_waitsNow_9 : decode cX10_waitsNow 9 = .ok (.iload_n 2, 1) := by decide +kernel
theorem dX10_waitsNow_10 : decode cX10_waitsNow 10 = .ok (.invokevirtual 201, 3) := by decide +kernel
theorem dX10_waitsNow_13 : decode cX10_waitsNow 13 = .ok (.ifCond .ne 6, 3) := by decide +kernel
theorem dX10_waitsNow_16 : decode cX10_waitsNow 16 = .ok (.bipush (-2), 2) := by decide +kernel
theorem dX10_waitsNow_18 : decode cX10_waitsNow 18 = .ok (.ireturn, 1) := by decide +kernel
theorem dX10_waitsNow_19 : decode cX10_waitsNow 19 = .ok (.aload_n 0, 1) := by decide +kernel
theorem dX10_waitsNow_20 : decode cX10_waitsNow 20 = .ok (.iload_n 1, 1) := by decide +kernel
theorem dX10_waitsNow_21 : decode cX10_waitsNow 21 = .ok (.iload_n 2, 1) := by decide +kernel
theorem dX10_waitsNow_22 : decode cX10_waitsNow 22 = .ok (.invokevirtual 445, 3) := by decide +kernel
theorem dX10_waitsNow_25 : decode cX10_waitsNow 25 = .ok (.iconst (-1), 1) := by decide +kernel
theorem dX10_waitsNow_26 : decode cX10_waitsNow 26 = .ok (.if_icmp .ne 16, 3) := by decide +kernel
theorem dX10_waitsNow_29 : decode cX10_waitsNow 29 = .ok (.aload_n 0, 1) := by decide +kernel
theorem dX10_waitsNow_30 : decode cX10_waitsNow 30 = .ok (.getfield 13, 3) := by decide +kernel
theorem dX10_waitsNow_33 : decode cX10_waitsNow 33 = .ok (.bipush 29, 2) := by decide +kernel
theorem dX10_waitsNow_35 : decode cX10_waitsNow 35 = .ok (.iload_n 2, 1) := by decide +kernel
theorem dX10_waitsNow_36 : decode cX10_waitsNow 36 = .ok (.iadd, 1) := by decide +kernel
theorem dX10_waitsNow_37 : decode cX10_waitsNow 37 = .ok (.iaload, 1) := by decide +kernel
theorem dX10_waitsNow_38 : decode cX10_waitsNow 38 = .ok (.iload_n 1, 1) := by decide +kernel
theorem dX10_waitsNow_39 : decode cX10_waitsNow 39 = .ok (.if_icmp .ne 6, 3) := by decide +kernel
theorem dX10_waitsNow_42 : decode cX10_waitsNow 42 = .ok (.bipush (-3), 2) := by decide +kernel
theorem dX10_waitsNow_44 : decode cX10_waitsNow 44 = .ok (.ireturn, 1) := by decide +kernel
theorem dX10_waitsNow_45 : decode cX10_waitsNow 45 = .ok (.aload_n 0, 1) := by decide +kernel
theorem dX10_waitsNow_46 : decode cX10_waitsNow 46 = .ok (.getfield 13, 3) := by decide +kernel
theorem dX10_waitsNow_49 : decode cX10_waitsNow 49 = .ok (.bipush 8, 2) := by decide +kernel
theorem dX10_waitsNow_51 : decode cX10_waitsNow 51 = .ok (.iaload, 1) := by decide +kernel
theorem dX10_waitsNow_52 : decode cX10_waitsNow 52 = .ok (.bipush 12, 2) := by decide +kernel
theorem dX10_waitsNow_54 : decode cX10_waitsNow 54 = .ok (.if_icmp .ne 6, 3) := by decide +kernel
theorem dX10_waitsNow_57 : decode cX10_waitsNow 57 = .ok (.bipush (-5), 2) := by decide +kernel
theorem dX10_waitsNow_59 : decode cX10_waitsNow 59 = .ok (.ireturn, 1) := by decide +kernel
theorem dX10_waitsNow_60 : decode cX10_waitsNow 60 = .ok (.aload_n 0, 1) := by decide +kernel
theorem dX10_waitsNow_61 : decode cX10_waitsNow 61 = .ok (.iconst 2, 1) := by decide +kernel
theorem dX10_waitsNow_62 : decode cX10_waitsNow 62 = .ok (.invokevirtual 451, 3) := by decide +kernel
theorem dX10_waitsNow_65 : decode cX10_waitsNow 65 = .ok (.aload_n 0, 1) := by decide +kernel
theorem dX10_waitsNow_66 : decode cX10_waitsNow 66 = .ok (.getfield 13, 3) := by decide +kernel
theorem dX10_waitsNow_69 : decode cX10_waitsNow 69 = .ok (.bipush 47, 2) := by decide +kernel
theorem dX10_waitsNow_71 : decode cX10_waitsNow 71 = .ok (.iconst 2, 1) := by decide +kernel
theorem dX10_waitsNow_72 : decode cX10_waitsNow 72 = .ok (.aload_n 0, 1) := by decide +kernel
theorem dX10_waitsNow_73 : decode cX10_waitsNow 73 = .ok (.getfield 13, 3) := by decide +kernel
theorem dX10_waitsNow_76 : decode cX10_waitsNow 76 = .ok (.bipush 8, 2) := by decide +kernel
theorem dX10_waitsNow_78 : decode cX10_waitsNow 78 = .ok (.iaload, 1) := by decide +kernel
theorem dX10_waitsNow_79 : decode cX10_waitsNow 79 = .ok (.imul, 1) := by decide +kernel
theorem dX10_waitsNow_80 : decode cX10_waitsNow 80 = .ok (.iadd, 1) := by decide +kernel
theorem dX10_waitsNow_81 : decode cX10_waitsNow 81 = .ok (.iload_n 1, 1) := by decide +kernel
theorem dX10_waitsNow_82 : decode cX10_waitsNow 82 = .ok (.iastore, 1) := by decide +kernel
theorem dX10_waitsNow_83 : decode cX10_waitsNow 83 = .ok (.aload_n 0, 1) := by decide +kernel
theorem dX10_waitsNow_84 : decode cX10_waitsNow 84 = .ok (.getfield 13, 3) := by decide +kernel
theorem dX10_waitsNow_87 : decode cX10_waitsNow 87 = .ok (.bipush 47, 2) := by decide +kernel
theorem dX10_waitsNow_89 : decode cX10_waitsNow 89 = .ok (.iconst 2, 1) := by decide +kernel
theorem dX10_waitsNow_90 : decode cX10_waitsNow 90 = .ok (.aload_n 0, 1) := by decide +kernel
theorem dX10_waitsNow_91 : decode cX10_waitsNow 91 = .ok (.getfield 13, 3) := by decide +kernel
theorem dX10_waitsNow_94 : decode cX10_waitsNow 94 = .ok (.bipush 8, 2) := by decide +kernel
theorem dX10_waitsNow_96 : decode cX10_waitsNow 96 = .ok (.iaload, 1) := by decide +kernel
theorem dX10_waitsNow_97 : decode cX10_waitsNow 97 = .ok (.imul, 1) := by decide +kernel
theorem dX10_waitsNow_98 : decode cX10_waitsNow 98 = .ok (.iadd, 1) := by decide +kernel
theorem dX10_waitsNow_99 : decode cX10_waitsNow 99 = .ok (.iconst 1, 1) := by decide +kernel
theorem dX10_waitsNow_100 : decode cX10_waitsNow 100 = .ok (.iadd, 1) := by decide +kernel
theorem dX10_waitsNow_101 : decode cX10_waitsNow 101 = .ok (.iload_n 2, 1) := by decide +kernel
theorem dX10_waitsNow_102 : decode cX10_waitsNow 102 = .ok (.iastore, 1) := by decide +kernel
theorem dX10_waitsNow_103 : decode cX10_waitsNow 103 = .ok (.aload_n 0, 1) := by decide +kernel
theorem dX10_waitsNow_104 : decode cX10_waitsNow 104 = .ok (.getfield 13, 3) := by decide +kernel
theorem dX10_waitsNow_107 : decode cX10_waitsNow 107 = .ok (.bipush 8, 2) := by decide +kernel
theorem dX10_waitsNow_109 : decode cX10_waitsNow 109 = .ok (.dup2, 1) := by decide +kernel
theorem dX10_waitsNow_110 : decode cX10_waitsNow 110 = .ok (.iaload, 1) := by decide +kernel
theorem dX10_waitsNow_111 : decode cX10_waitsNow 111 = .ok (.iconst 1, 1) := by decide +kernel
theorem dX10_waitsNow_112 : decode cX10_waitsNow 112 = .ok (.iadd, 1) := by decide +kernel
theorem dX10_waitsNow_113 : decode cX10_waitsNow 113 = .ok (.iastore, 1) := by decide +kernel
theorem dX10_waitsNow_114 : decode cX10_waitsNow 114 = .ok (.aload_n 0, 1) := by decide +kernel
theorem dX10_waitsNow_115 : decode cX10_waitsNow 115 = .ok (.getfield 13, 3) := by decide +kernel
theorem dX10_waitsNow_118 : decode cX10_waitsNow 118 = .ok (.bipush 8, 2) := by decide +kernel
theorem dX10_waitsNow_120 : decode cX10_waitsNow 120 = .ok (.iaload, 1) := by decide +kernel
theorem dX10_waitsNow_121 : decode cX10_waitsNow 121 = .ok (.ireturn, 1) := by decide +kernel
theorem dX10_waits_0 : decode cX10_waits 0 = .ok (.aload_n 0, 1) := by decide +kernel
theorem dX10_waits_1 : decode cX10_waits 1 = .ok (.iconst 0, 1) := by decide +kernel
theorem dX10_waits_2 : decode cX10_waits 2 = .ok (.putfield 157, 3) := by decide +kernel
theorem dX10_waits_5 : decode cX10_waits 5 = .ok (.aload_n 0, 1) := by decide +kernel
theorem dX10_waits_6 : decode cX10_waits 6 = .ok (.aload_n 0, 1) := by decide +kernel
theorem dX10_waits_7 : decode cX10_waits 7 = .ok (.iload_n 1, 1) := by decide +kernel
theorem dX10_waits_8 : decode cX10_waits 8 = .ok (.iload_n 2, 1) := by decide +kernel
theorem dX10_waits_9 : decode cX10_waits 9 = .ok (.invokevirtual 463, 3) := by decide +kernel
theorem dX10_waits_12 : decode cX10_waits 12 = .ok (.invokevirtual 166, 3) := by decide +kernel
theorem dX10_waits_15 : decode cX10_waits 15 = .ok (.ireturn, 1) := by decide +kernel
theorem dX10_passIt_0 : decode cX10_passIt 0 = .ok (.iconst 0, 1) := by decide +kernel
theorem dX10_passIt_1 : decode cX10_passIt 1 = .ok (.istore_n 1, 1) := by decide +kernel
theorem dX10_passIt_2 : decode cX10_passIt 2 = .ok (.iload_n 1, 1) := by decide +kernel
theorem dX10_passIt_3 : decode cX10_passIt 3 = .ok (.aload_n 0, 1) := by decide +kernel
theorem dX10_passIt_4 : decode cX10_passIt 4 = .ok (.getfield 13, 3) := by decide +kernel
theorem dX10_passIt_7 : decode cX10_passIt 7 = .ok (.iconst 1, 1) := by decide +kernel
theorem dX10_passIt_8 : decode cX10_passIt 8 = .ok (.iaload, 1) := by decide +kernel
theorem dX10_passIt_9 : decode cX10_passIt 9 = .ok (.if_icmp .ge 62, 3) := by decide +kernel
theorem dX10_passIt_12 : decode cX10_passIt 12 = .ok (.aload_n 0, 1) := by decide +kernel
theorem dX10_passIt_13 : decode cX10_passIt 13 = .ok (.getfield 13, 3) := by decide +kernel
theorem dX10_passIt_16 : decode cX10_passIt 16 = .ok (.bipush 29, 2) := by decide +kernel
theorem dX10_passIt_18 : decode cX10_passIt 18 = .ok (.iload_n 1, 1) := by decide +kernel
theorem dX10_passIt_19 : decode cX10_passIt 19 = .ok (.iadd, 1) := by decide +kernel
theorem dX10_passIt_20 : decode cX10_passIt 20 = .ok (.iaload, 1) := by decide +kernel
theorem dX10_passIt_21 : decode cX10_passIt 21 = .ok (.iconst (-1), 1) := by decide +kernel
theorem dX10_passIt_22 : decode cX10_passIt 22 = .ok (.if_icmp .eq 43, 3) := by decide +kernel
theorem dX10_passIt_25 : decode cX10_passIt 25 = .ok (.aload_n 0, 1) := by decide +kernel
theorem dX10_passIt_26 : decode cX10_passIt 26 = .ok (.getfield 13, 3) := by decide +kernel
theorem dX10_passIt_29 : decode cX10_passIt 29 = .ok (.bipush 23, 2) := by decide +kernel
theorem dX10_passIt_31 : decode cX10_passIt 31 = .ok (.iload_n 1, 1) := by decide +kernel
theorem dX10_passIt_32 : decode cX10_passIt 32 = .ok (.iadd, 1) := by decide +kernel
theorem dX10_passIt_33 : decode cX10_passIt 33 = .ok (.aload_n 0, 1) := by decide +kernel
theorem dX10_passIt_34 : decode cX10_passIt 34 = .ok (.getfield 13, 3) := by decide +kernel
theorem dX10_passIt_37 : decode cX10_passIt 37 = .ok (.bipush 23, 2) := by decide +kernel
theorem dX10_passIt_39 : decode cX10_passIt 39 = .ok (.iload_n 1, 1) := by decide +kernel
theorem dX10_passIt_40 : decode cX10_passIt 40 = .ok (.iadd, 1) := by decide +kernel
theorem dX10_passIt_41 : decode cX10_passIt 41 = .ok (.iaload, 1) := by decide +kernel
theorem dX10_passIt_42 : decode cX10_passIt 42 = .ok (.aload_n 0, 1) := by decide +kernel
theorem dX10_passIt_43 : decode cX10_passIt 43 = .ok (.aload_n 0, 1) := by decide +kernel
theorem dX10_passIt_44 : decode cX10_passIt 44 = .ok (.getfield 13, 3) := by decide +kernel
theorem dX10_passIt_47 : decode cX10_passIt 47 = .ok (.bipush 29, 2) := by decide +kernel
theorem dX10_passIt_49 : decode cX10_passIt 49 = .ok (.iload_n 1, 1) := by decide +kernel
theorem dX10_passIt_50 : decode cX10_passIt 50 = .ok (.iadd, 1) := by decide +kernel
theorem dX10_passIt_51 : decode cX10_passIt 51 = .ok (.iaload, 1) := by decide +kernel
theorem dX10_passIt_52 : decode cX10_passIt 52 = .ok (.iload_n 1, 1) := by decide +kernel
theorem dX10_passIt_53 : decode cX10_passIt 53 = .ok (.invokevirtual 430, 3) := by decide +kernel
theorem dX10_passIt_56 : decode cX10_passIt 56 = .ok (.iadd, 1) := by decide +kernel
theorem dX10_passIt_57 : decode cX10_passIt 57 = .ok (.i2l, 1) := by decide +kernel
theorem dX10_passIt_58 : decode cX10_passIt 58 = .ok (.iconst 0, 1) := by decide +kernel
theorem dX10_passIt_59 : decode cX10_passIt 59 = .ok (.bipush 99, 2) := by decide +kernel
theorem dX10_passIt_61 : decode cX10_passIt 61 = .ok (.invokestatic 413, 3) := by decide +kernel
theorem dX10_passIt_64 : decode cX10_passIt 64 = .ok (.iastore, 1) := by decide +kernel
theorem dX10_passIt_65 : decode cX10_passIt 65 = .ok (.iinc 1 1, 3) := by decide +kernel
theorem dX10_passIt_68 : decode cX10_passIt 68 = .ok (.goto (-66), 3) := by decide +kernel
theorem dX10_passIt_71 : decode cX10_passIt 71 = .ok (.aload_n 0, 1) := by decide +kernel
theorem dX10_passIt_72 : decode cX10_passIt 72 = .ok (.getfield 13, 3) := by decide +kernel
theorem dX10_passIt_75 : decode cX10_passIt 75 = .ok (.iconst 4, 1) := by decide +kernel
theorem dX10_passIt_76 : decode cX10_passIt 76 = .ok (.dup2, 1) := by decide +kernel
theorem dX10_passIt_77 : decode cX10_passIt 77 = .ok (.iaload, 1) := by decide +kernel
theorem dX10_passIt_78 : decode cX10_passIt 78 = .ok (.iconst 1, 1) := by decide +kernel
theorem dX10_passIt_79 : decode cX10_passIt 79 = .ok (.iadd, 1) := by decide +kernel
theorem dX10_passIt_80 : decode cX10_passIt 80 = .ok (.iastore, 1) := by decide +kernel
theorem dX10_passIt_81 : decode cX10_passIt 81 = .ok (.return_, 1) := by decide +kernel
theorem dX10_passNow_0 : decode cX10_passNow 0 = .ok (.aload_n 0, 1) := by decide +kernel
theorem dX10_passNow_1 : decode cX10_passNow 1 = .ok (.iconst 0, 1) := by decide +kernel
theorem dX10_passNow_2 : decode cX10_passNow 2 = .ok (.invokevirtual 398, 3) := by decide +kernel
theorem dX10_passNow_5 : decode cX10_passNow 5 = .ok (.sipush 999, 3) := by decide +kernel
theorem dX10_passNow_8 : decode cX10_passNow 8 = .ok (.if_icmp .ne 6, 3) := by decide +kernel
theorem dX10_passNow_11 : decode cX10_passNow 11 = .ok (.bipush (-3), 2) := by decide +kernel
theorem dX10_passNow_13 : decode cX10_passNow 13 = .ok (.ireturn, 1) := by decide +kernel
theorem dX10_passNow_14 : decode cX10_passNow 14 = .ok (.aload_n 0, 1) := by decide +kernel
theorem dX10_passNow_15 : decode cX10_passNow 15 = .ok (.iconst 3, 1) := by decide +kernel
theorem dX10_passNow_16 : decode cX10_passNow 16 = .ok (.invokevirtual 451, 3) := by decide +kernel
theorem dX10_passNow_19 : decode cX10_passNow 19 = .ok (.aload_n 0, 1) := by decide +kernel
theorem dX10_passNow_20 : decode cX10_passNow 20 = .ok (.invokevirtual 466, 3) := by decide +kernel
theorem dX10_passNow_23 : decode cX10_passNow 23 = .ok (.aload_n 0, 1) := by decide +kernel
theorem dX10_passNow_24 : decode cX10_passNow 24 = .ok (.iconst 0, 1) := by decide +kernel
theorem dX10_passNow_25 : decode cX10_passNow 25 = .ok (.invokevirtual 398, 3) := by decide +kernel
theorem dX10_passNow_28 : decode cX10_passNow 28 = .ok (.ireturn, 1) := by decide +kernel
theorem dX10_pass_0 : decode cX10_pass 0 = .ok (.aload_n 0, 1) := by decide +kernel
theorem dX10_pass_1 : decode cX10_pass 1 = .ok (.iconst 0, 1) := by decide +kernel
theorem dX10_pass_2 : decode cX10_pass 2 = .ok (.putfield 157, 3) := by decide +kernel
theorem dX10_pass_5 : decode cX10_pass 5 = .ok (.aload_n 0, 1) := by decide +kernel
theorem dX10_pass_6 : decode cX10_pass 6 = .ok (.aload_n 0, 1) := by decide +kernel
theorem dX10_pass_7 : decode cX10_pass 7 = .ok (.invokevirtual 469, 3) := by decide +kernel
theorem dX10_pass_10 : decode cX10_pass 10 = .ok (.invokevirtual 166, 3) := by decide +kernel
theorem dX10_pass_13 : decode cX10_pass 13 = .ok (.ireturn, 1) := by decide +kernel
theorem dX10_isFree_0 : decode cX10_isFree 0 = .ok (.aload_n 0, 1) := by decide +kernel
theorem dX10_isFree_1 : decode cX10_isFree 1 = .ok (.aload_n 0, 1) := by decide +kernel
theorem dX10_isFree_2 : decode cX10_isFree 2 = .ok (.getfield 110, 3) := by decide +kernel
theorem dX10_isFree_5 : decode cX10_isFree 5 = .ok (.iload_n 1, 1) := by decide +kernel
theorem dX10_isFree_6 : decode cX10_isFree 6 = .ok (.iaload, 1) := by decide +kernel
theorem dX10_isFree_7 : decode cX10_isFree 7 = .ok (.iload_n 1, 1) := by decide +kernel
theorem dX10_isFree_8 : decode cX10_isFree 8 = .ok (.invokevirtual 436, 3) := by decide +kernel
theorem dX10_isFree_11 : decode cX10_isFree 11 = .ok (.istore_n 2, 1) := by decide +kernel
theorem dX10_isFree_12 : decode cX10_isFree 12 = .ok (.iconst 0, 1) := by decide +kernel
theorem dX10_isFree_13 : decode cX10_isFree 13 = .ok (.istore_n 3, 1) := by decide +kernel
theorem dX10_isFree_14 : decode cX10_isFree 14 = .ok (.iload_n 3, 1) := by decide +kernel
theorem dX10_isFree_15 : decode cX10_isFree 15 = .ok (.iload_n 1, 1) := by decide +kernel
theorem dX10_isFree_16 : decode cX10_isFree 16 = .ok (.if_icmp .ge 34, 3) := by decide +kernel
theorem dX10_isFree_19 : decode cX10_isFree 19 = .ok (.iload_n 2, 1) := by decide +kernel
theorem dX10_isFree_20 : decode cX10_isFree 20 = .ok (.ifCond .eq 22, 3) := by decide +kernel
theorem dX10_isFree_23 : decode cX10_isFree 23 = .ok (.aload_n 0, 1) := by decide +kernel
theorem dX10_isFree_24 : decode cX10_isFree 24 = .ok (.getfield 110, 3) := by decide +kernel
theorem dX10_isFree_27 : decode cX10_isFree 27 = .ok (.iload_n 3, 1) := by decide +kernel
theorem dX10_isFree_28 : decode cX10_isFree 28 = .ok (.iaload, 1) := by decide +kernel
theorem dX10_isFree_29 : decode cX10_isFree 29 = .ok (.aload_n 0, 1) := by decide +kernel
theorem dX10_isFree_30 : decode cX10_isFree 30 = .ok (.getfield 110, 3) := by decide +kernel
theorem dX10_isFree_33 : decode cX10_isFree 33 = .ok (.iload_n 1, 1) := by decide +kernel
theorem dX10_isFree_34 : decode cX10_isFree 34 = .ok (.iaload, 1) := by decide +kernel
theorem dX10_isFree_35 : decode cX10_isFree 35 = .ok (.if_icmp .eq 7, 3) := by decide +kernel
theorem dX10_isFree_38 : decode cX10_isFree 38 = .ok (.iconst 1, 1) := by decide +kernel
theorem dX10_isFree_39 : decode cX10_isFree 39 = .ok (.goto 4, 3) := by decide +kernel
theorem dX10_isFree_42 : decode cX10_isFree 42 = .ok (.iconst 0, 1) := by decide +kernel
theorem dX10_isFree_43 : decode cX10_isFree 43 = .ok (.istore_n 2, 1) := by decide +kernel
theorem dX10_isFree_44 : decode cX10_isFree 44 = .ok (.iinc 3 1, 3) := by decide +kernel
theorem dX10_isFree_47 : decode cX10_isFree 47 = .ok (.goto (-33), 3) := by decide +kernel
theorem dX10_isFree_50 : decode cX10_isFree 50 = .ok (.iload_n 2, 1) := by decide +kernel
theorem dX10_isFree_51 : decode cX10_isFree 51 = .ok (.ireturn, 1) := by decide +kernel
theorem dX10_findServed_0 : decode cX10_findServed 0 = .ok (.aload_n 0, 1) := by decide +kernel
theorem dX10_findServed_1 : decode cX10_findServed 1 = .ok (.getfield 13, 3) := by decide +kernel
theorem dX10_findServed_4 : decode cX10_findServed 4 = .ok (.iconst 1, 1) := by decide +kernel
theorem dX10_findServed_5 : decode cX10_findServed 5 = .ok (.iaload, 1) := by decide +kernel
theorem dX10_findServed_6 : decode cX10_findServed 6 = .ok (.istore_n 1, 1) := by decide +kernel
theorem dX10_findServed_7 : decode cX10_findServed 7 = .ok (.aload_n 0, 1) := by decide +kernel
theorem dX10_findServed_8 : decode cX10_findServed 8 = .ok (.getfield 13, 3) := by decide +kernel
theorem dX10_findServed_11 : decode cX10_findServed 11 = .ok (.iconst 0, 1) := by decide +kernel
theorem dX10_findServed_12 : decode cX10_findServed 12 = .ok (.iaload, 1) := by decide +kernel
theorem dX10_findServed_13 : decode cX10_findServed 13 = .ok (.istore_n 2, 1) := by decide +kernel
theorem dX10_findServed_14 : decode cX10_findServed 14 = .ok (.iconst (-1), 1) := by decide +kernel
theorem dX10_findServed_15 : decode cX10_findServed 15 = .ok (.istore_n 3, 1) := by decide +kernel
theorem dX10_findServed_16 : decode cX10_findServed 16 = .ok (.iconst 0, 1) := by decide +kernel
theorem dX10_findServed_17 : decode cX10_findServed 17 = .ok (.istore 4, 2) := by decide +kernel
theorem dX10_findServed_19 : decode cX10_findServed 19 = .ok (.aload_n 0, 1) := by decide +kernel
theorem dX10_findServed_20 : decode cX10_findServed 20 = .ok (.getfield 110, 3) := by decide +kernel
theorem dX10_findServed_23 : decode cX10_findServed 23 = .ok (.iconst 0, 1) := by decide +kernel
theorem dX10_findServed_24 : decode cX10_findServed 24 = .ok (.iconst (-1), 1) := by decide +kernel
theorem dX10_findServed_25 : decode cX10_findServed 25 = .ok (.iastore, 1) := by decide +kernel
theorem dX10_findServed_26 : decode cX10_findServed 26 = .ok (.iload 4, 2) := by decide +kernel
theorem dX10_findServed_28 : decode cX10_findServed 28 = .ok (.ifCond .lt 180, 3) := by decide +kernel
theorem dX10_findServed_31 : decode cX10_findServed 31 = .ok (.iload 4, 2) := by decide +kernel
theorem dX10_findServed_33 : decode cX10_findServed 33 = .ok (.iload_n 1, 1) := by decide +kernel
theorem dX10_findServed_34 : decode cX10_findServed 34 = .ok (.if_icmp .ne 112, 3) := by decide +kernel
theorem dX10_findServed_37 : decode cX10_findServed 37 = .ok (.iconst 0, 1) := by decide +kernel
theorem dX10_findServed_38 : decode cX10_findServed 38 = .ok (.istore 5, 2) := by decide +kernel
theorem dX10_findServed_40 : decode cX10_findServed 40 = .ok (.iconst 0, 1) := by decide +kernel
theorem dX10_findServed_41 : decode cX10_findServed 41 = .ok (.istore 6, 2) := by decide +kernel
theorem dX10_findServed_43 : decode cX10_findServed 43 = .ok (.iload 6, 2) := by decide +kernel
theorem dX10_findServed_45 : decode cX10_findServed 45 = .ok (.iload_n 1, 1) := by decide +kernel
theorem dX10_findServed_46 : decode cX10_findServed 46 = .ok (.if_icmp .ge 30, 3) := by decide +kernel
theorem dX10_findServed_49 : decode cX10_findServed 49 = .ok (.iload 5, 2) := by decide +kernel
theorem dX10_findServed_51 : decode cX10_findServed 51 = .ok (.aload_n 0, 1) := by decide +kernel
theorem dX10_findServed_52 : decode cX10_findServed 52 = .ok (.getfield 110, 3) := by decide +kernel
theorem dX10_findServed_55 : decode cX10_findServed 55 = .ok (.iload 6, 2) := by decide +kernel
theorem dX10_findServed_57 : decode cX10_findServed 57 = .ok (.iaload, 1) := by decide +kernel
theorem dX10_findServed_58 : decode cX10_findServed 58 = .ok (.iload_n 2, 1) := by decide +kernel
theorem dX10_findServed_59 : decode cX10_findServed 59 = .ok (.if_icmp .ne 7, 3) := by decide +kernel
theorem dX10_findServed_62 : decode cX10_findServed 62 = .ok (.iconst 0, 1) := by decide +kernel
theorem dX10_findServed_63 : decode cX10_findServed 63 = .ok (.goto 4, 3) := by decide +kernel
theorem dX10_findServed_66 : decode cX10_findServed 66 = .ok (.iconst 1, 1) := by decide +kernel
theorem dX10_findServed_67 : decode cX10_findServed 67 = .ok (.iadd, 1) := by decide +kernel
theorem dX10_findServed_68 : decode cX10_findServed 68 = .ok (.istore 5, 2) := by decide +kernel
theorem dX10_findServed_70 : decode cX10_findServed 70 = .ok (.iinc 6 1, 3) := by decide +kernel
theorem dX10_findServed_73 : decode cX10_findServed 73 = .ok (.goto (-30), 3) := by decide +kernel
theorem dX10_findServed_76 : decode cX10_findServed 76 = .ok (.iconst 0, 1) := by decide +kernel
theorem dX10_findServed_77 : decode cX10_findServed 77 = .ok (.istore 6, 2) := by decide +kernel
theorem dX10_findServed_79 : decode cX10_findServed 79 = .ok (.iload 6, 2) := by decide +kernel
theorem dX10_findServed_81 : decode cX10_findServed 81 = .ok (.iload_n 1, 1) := by decide +kernel
theorem dX10_findServed_82 : decode cX10_findServed 82 = .ok (.if_icmp .ge 45, 3) := by decide +kernel
theorem dX10_findServed_85 : decode cX10_findServed 85 = .ok (.iload 5, 2) := by decide +kernel
theorem dX10_findServed_87 : decode cX10_findServed 87 = .ok (.iload_n 3, 1) := by decide +kernel
theorem dX10_findServed_88 : decode cX10_findServed 88 = .ok (.if_icmp .le 39, 3) := by decide +kernel
theorem dX10_findServed_91 : decode cX10_findServed 91 = .ok (.aload_n 0, 1) := by decide +kernel
theorem dX10_findServed_92 : decode cX10_findServed 92 = .ok (.getfield 113, 3) := by decide +kernel
theorem dX10_findServed_95 : decode cX10_findServed 95 = .ok (.iload 6, 2) := by decide +kernel
theorem dX10_findServed_97 : decode cX10_findServed 97 = .ok (.aload_n 0, 1) := by decide +kernel
theorem dX10_findServed_98 : decode cX10_findServed 98 = .ok (.getfield 110, 3) := by decide +kernel
theorem dX10_findServed_101 : decode cX10_findServed 101 = .ok (.iload 6, 2) := by decide +kernel
theorem dX10_findServed_103 : decode cX10_findServed 103 = .ok (.iaload, 1) := by decide +kernel
theorem dX10_findServed_104 : decode cX10_findServed 104 = .ok (.iload_n 2, 1) := by decide +kernel
theorem dX10_findServed_105 : decode cX10_findServed 105 = .ok (.if_icmp .ne 8, 3) := by decide +kernel
theorem dX10_findServed_108 : decode cX10_findServed 108 = .ok (.bipush 100, 2) := by decide +kernel
theorem dX10_findServed_110 : decode cX10_findServed 110 = .ok (.goto 10, 3) := by decide +kernel
theorem dX10_findServed_113 : decode cX10_findServed 113 = .ok (.aload_n 0, 1) := by decide +kernel
theorem dX10_findServed_114 : decode cX10_findServed 114 = .ok (.getfield 110, 3) := by decide +kernel
theorem dX10_findServed_117 : decode cX10_findServed 117 = .ok (.iload 6, 2) := by decide +kernel
theorem dX10_findServed_119 : decode cX10_findServed 119 = .ok (.iaload, 1) := by decide +kernel
theorem dX10_findServed_120 : decode cX10_findServed 120 = .ok (.iastore, 1) := by decide +kernel
theorem dX10_findServed_121 : decode cX10_findServed 121 = .ok (.iinc 6 1, 3) := by decide +kernel
theorem dX10_findServed_124 : decode cX10_findServed 124 = .ok (.goto (-45), 3) := by decide +kernel
theorem dX10_findServed_127 : decode cX10_findServed 127 = .ok (.iload 5, 2) := by decide +kernel
theorem dX10_findServed_129 : decode cX10_findServed 129 = .ok (.iload_n 3, 1) := by decide +kernel
theorem dX10_findServed_130 : decode cX10_findServed 130 = .ok (.if_icmp .le 8, 3) := by decide +kernel
theorem dX10_findServed_133 : decode cX10_findServed 133 = .ok (.iload 5, 2) := by decide +kernel
theorem dX10_findServed_135 : decode cX10_findServed 135 = .ok (.goto 4, 3) := by decide +kernel
theorem dX10_findServed_138 : decode cX10_findServed 138 = .ok (.iload_n 3, 1) := by decide +kernel
theorem dX10_findServed_139 : decode cX10_findServed 139 = .ok (.istore_n 3, 1) := by decide +kernel
theorem dX10_findServed_140 : decode cX10_findServed 140 = .ok (.iinc 4 (-1), 3) := by decide +kernel
theorem dX10_findServed_143 : decode cX10_findServed 143 = .ok (.goto (-117), 3) := by decide +kernel
theorem dX10_findServed_146 : decode cX10_findServed 146 = .ok (.aload_n 0, 1) := by decide +kernel
theorem dX10_findServed_147 : decode cX10_findServed 147 = .ok (.getfield 110, 3) := by decide +kernel
theorem dX10_findServed_150 : decode cX10_findServed 150 = .ok (.iload 4, 2) := by decide +kernel
theorem dX10_findServed_152 : decode cX10_findServed 152 = .ok (.dup2, 1) := by decide +kernel
theorem dX10_findServed_153 : decode cX10_findServed 153 = .ok (.iaload, 1) := by decide +kernel
theorem dX10_findServed_154 : decode cX10_findServed 154 = .ok (.iconst 1, 1) := by decide +kernel
theorem dX10_findServed_155 : decode cX10_findServed 155 = .ok (.iadd, 1) := by decide +kernel
theorem dX10_findServed_156 : decode cX10_findServed 156 = .ok (.iastore, 1) := by decide +kernel
theorem dX10_findServed_157 : decode cX10_findServed 157 = .ok (.aload_n 0, 1) := by decide +kernel
theorem dX10_findServed_158 : decode cX10_findServed 158 = .ok (.getfield 110, 3) := by decide +kernel
theorem dX10_findServed_161 : decode cX10_findServed 161 = .ok (.iload 4, 2) := by decide +kernel
theorem dX10_findServed_163 : decode cX10_findServed 163 = .ok (.iaload, 1) := by decide +kernel
theorem dX10_findServed_164 : decode cX10_findServed 164 = .ok (.iload_n 2, 1) := by decide +kernel
theorem dX10_findServed_165 : decode cX10_findServed 165 = .ok (.if_icmp .le 9, 3) := by decide +kernel
theorem dX10_findServed_168 : decode cX10_findServed 168 = .ok (.iinc 4 (-1), 3) := by decide +kernel
theorem dX10_findServed_171 : decode cX10_findServed 171 = .ok (.goto (-145), 3) := by decide +kernel
theorem dX10_findServed_174 : decode cX10_findServed 174 = .ok (.aload_n 0, 1) := by decide +kernel
theorem dX10_findServed_175 : decode cX10_findServed 175 = .ok (.getfield 110, 3) := by decide +kernel
theorem dX10_findServed_178 : decode cX10_findServed 178 = .ok (.iload 4, 2) := by decide +kernel
theorem dX10_findServed_180 : decode cX10_findServed 180 = .ok (.iaload, 1) := by decide +kernel
theorem dX10_findServed_181 : decode cX10_findServed 181 = .ok (.iload_n 2, 1) := by decide +kernel
theorem dX10_findServed_182 : decode cX10_findServed 182 = .ok (.if_icmp .eq 12, 3) := by decide +kernel
theorem dX10_findServed_185 : decode cX10_findServed 185 = .ok (.aload_n 0, 1) := by decide +kernel
theorem dX10_findServed_186 : decode cX10_findServed 186 = .ok (.iload 4, 2) := by decide +kernel
theorem dX10_findServed_188 : decode cX10_findServed 188 = .ok (.invokevirtual 472, 3) := by decide +kernel
theorem dX10_findServed_191 : decode cX10_findServed 191 = .ok (.ifCond .eq (-165), 3) := by decide +kernel
theorem dX10_findServed_194 : decode cX10_findServed 194 = .ok (.iinc 4 1, 3) := by decide +kernel
theorem dX10_findServed_197 : decode cX10_findServed 197 = .ok (.aload_n 0, 1) := by decide +kernel
theorem dX10_findServed_198 : decode cX10_findServed 198 = .ok (.getfield 110, 3) := by decide +kernel
theorem dX10_findServed_201 : decode cX10_findServed 201 = .ok (.iload 4, 2) := by decide +kernel
theorem dX10_findServed_203 : decode cX10_findServed 203 = .ok (.iconst (-1), 1) := by decide +kernel
theorem dX10_findServed_204 : decode cX10_findServed 204 = .ok (.iastore, 1) := by decide +kernel
theorem dX10_findServed_205 : decode cX10_findServed 205 = .ok (.goto (-179), 3) := by decide +kernel
theorem dX10_findServed_208 : decode cX10_findServed 208 = .ok (.iload_n 3, 1) := by decide +kernel
theorem dX10_findServed_209 : decode cX10_findServed 209 = .ok (.ireturn, 1) := by decide +kernel
theorem dX10_served_0 : decode cX10_served 0 = .ok (.aload_n 0, 1) := by decide +kernel
theorem dX10_served_1 : decode cX10_served 1 = .ok (.iconst 0, 1) := by decide +kernel
theorem dX10_served_2 : decode cX10_served 2 = .ok (.putfield 157, 3) := by decide +kernel
theorem dX10_served_5 : decode cX10_served 5 = .ok (.iload_n 1, 1) := by decide +kernel
theorem dX10_served_6 : decode cX10_served 6 = .ok (.i2l, 1) := by decide +kernel
theorem dX10_served_7 : decode cX10_served 7 = .ok (.lconst 0, 1) := by decide +kernel
theorem dX10_served_8 : decode cX10_served 8 = .ok (.aload_n 0, 1) := by decide +kernel
theorem dX10_served_9 : decode cX10_served 9 = .ok (.getfield 13, 3) := by decide +kernel
theorem dX10_served_12 : decode cX10_served 12 = .ok (.iconst 1, 1) := by decide +kernel
theorem dX10_served_13 : decode cX10_served 13 = .ok (.iaload, 1) := by decide +kernel
theorem dX10_served_14 : decode cX10_served 14 = .ok (.i2l, 1) := by decide +kernel
theorem dX10_served_15 : decode cX10_served 15 = .ok (.invokestatic 177, 3) := by decide +kernel
theorem dX10_served_18 : decode cX10_served 18 = .ok (.ifCond .ne 5, 3) := by decide +kernel
theorem dX10_served_21 : decode cX10_served 21 = .ok (.iconst (-1), 1) := by decide +kernel
theorem dX10_served_22 : decode cX10_served 22 = .ok (.ireturn, 1) := by decide +kernel
theorem dX10_served_23 : decode cX10_served 23 = .ok (.aload_n 0, 1) := by decide +kernel
theorem dX10_served_24 : decode cX10_served 24 = .ok (.invokevirtual 475, 3) := by decide +kernel
theorem dX10_served_27 : decode cX10_served 27 = .ok (.istore_n 2, 1) := by decide +kernel
theorem dX10_served_28 : decode cX10_served 28 = .ok (.iload_n 1, 1) := by decide +kernel
theorem dX10_served_29 : decode cX10_served 29 = .ok (.ifCond .ne 7, 3) := by decide +kernel
theorem dX10_served_32 : decode cX10_served 32 = .ok (.iload_n 2, 1) := by decide +kernel
theorem dX10_served_33 : decode cX10_served 33 = .ok (.goto 11, 3) := by decide +kernel
theorem dX10_served_36 : decode cX10_served 36 = .ok (.aload_n 0, 1) := by decide +kernel
theorem dX10_served_37 : decode cX10_served 37 = .ok (.getfield 113, 3) := by decide +kernel
theorem dX10_served_40 : decode cX10_served 40 = .ok (.iload_n 1, 1) := by decide +kernel
theorem dX10_served_41 : decode cX10_served 41 = .ok (.iconst 1, 1) := by decide +kernel
theorem dX10_served_42 : decode cX10_served 42 = .ok (.isub, 1) := by decide +kernel
theorem dX10_served_43 : decode cX10_served 43 = .ok (.iaload, 1) := by decide +kernel
theorem dX10_served_44 : decode cX10_served 44 = .ok (.ireturn, 1) := by decide +kernel
theorem dX10_turn_0 : decode cX10_turn 0 = .ok (.aload_n 0, 1) := by decide +kernel
theorem dX10_turn_1 : decode cX10_turn 1 = .ok (.iconst 0, 1) := by decide +kernel
theorem dX10_turn_2 : decode cX10_turn 2 = .ok (.putfield 157, 3) := by decide +kernel
theorem dX10_turn_5 : decode cX10_turn 5 = .ok (.iconst (-1), 1) := by decide +kernel
theorem dX10_turn_6 : decode cX10_turn 6 = .ok (.istore_n 2, 1) := by decide +kernel
theorem dX10_turn_7 : decode cX10_turn 7 = .ok (.iconst 0, 1) := by decide +kernel
theorem dX10_turn_8 : decode cX10_turn 8 = .ok (.istore_n 3, 1) := by decide +kernel
theorem dX10_turn_9 : decode cX10_turn 9 = .ok (.aload_n 0, 1) := by decide +kernel
theorem dX10_turn_10 : decode cX10_turn 10 = .ok (.iload_n 1, 1) := by decide +kernel
theorem dX10_turn_11 : decode cX10_turn 11 = .ok (.invokevirtual 201, 3) := by decide +kernel
theorem dX10_turn_14 : decode cX10_turn 14 = .ok (.ifCond .eq 77, 3) := by decide +kernel
theorem dX10_turn_17 : decode cX10_turn 17 = .ok (.iload_n 2, 1) := by decide +kernel
theorem dX10_turn_18 : decode cX10_turn 18 = .ok (.iconst (-1), 1) := by decide +kernel
theorem dX10_turn_19 : decode cX10_turn 19 = .ok (.if_icmp .ne 72, 3) := by decide +kernel
theorem dX10_turn_22 : decode cX10_turn 22 = .ok (.iload_n 3, 1) := by decide +kernel
theorem dX10_turn_23 : decode cX10_turn 23 = .ok (.aload_n 0, 1) := by decide +kernel
theorem dX10_turn_24 : decode cX10_turn 24 = .ok (.getfield 13, 3) := by decide +kernel
theorem dX10_turn_27 : decode cX10_turn 27 = .ok (.bipush 8, 2) := by decide +kernel
theorem dX10_turn_29 : decode cX10_turn 29 = .ok (.iaload, 1) := by decide +kernel
theorem dX10_turn_30 : decode cX10_turn 30 = .ok (.if_icmp .ge 61, 3) := by decide +kernel
theorem dX10_turn_33 : decode cX10_turn 33 = .ok (.aload_n 0, 1) := by decide +kernel
theorem dX10_turn_34 : decode cX10_turn 34 = .ok (.getfield 13, 3) := by decide +kernel
theorem dX10_turn_37 : decode cX10_turn 37 = .ok (.bipush 47, 2) := by decide +kernel
theorem dX10_turn_39 : decode cX10_turn 39 = .ok (.iconst 2, 1) := by decide +kernel
theorem dX10_turn_40 : decode cX10_turn 40 = .ok (.iload_n 3, 1) := by decide +kernel
theorem dX10_turn_41 : decode cX10_turn 41 = .ok (.imul, 1) := by decide +kernel
theorem dX10_turn_42 : decode cX10_turn 42 = .ok (.iadd, 1) := by decide +kernel
theorem dX10_turn_43 : decode cX10_turn 43 = .ok (.iconst 1, 1) := by decide +kernel
theorem dX10_turn_44 : decode cX10_turn 44 = .ok (.iadd, 1) := by decide +kernel
theorem dX10_turn_45 : decode cX10_turn 45 = .ok (.iaload, 1) := by decide +kernel
theorem dX10_turn_46 : decode cX10_turn 46 = .ok (.iload_n 1, 1) := by decide +kernel
theorem dX10_turn_47 : decode cX10_turn 47 = .ok (.if_icmp .ne 36, 3) := by decide +kernel
theorem dX10_turn_50 : decode cX10_turn 50 = .ok (.aload_n 0, 1) := by decide +kernel
theorem dX10_turn_51 : decode cX10_turn 51 = .ok (.aload_n 0, 1) := by decide +kernel
theorem dX10_turn_52 : decode cX10_turn 52 = .ok (.getfield 13, 3) := by decide +kernel
theorem dX10_turn_55 : decode cX10_turn 55 = .ok (.bipush 47, 2) := by decide +kernel
theorem dX10_turn_57 : decode cX10_turn 57 = .ok (.iconst 2, 1) := by decide +kernel
theorem dX10_turn_58 : decode cX10_turn 58 = .ok (.iload_n 3, 1) := by decide +kernel
theorem dX10_turn_59 : decode cX10_turn 59 = .ok (.imul, 1) := by decide +kernel
theorem dX10_turn_60 : decode cX10_turn 60 = .ok (.iadd, 1) := by decide +kernel
theorem dX10_turn_61 : decode cX10_turn 61 = .ok (.iaload, 1) := by decide +kernel
theorem dX10_turn_62 : decode cX10_turn 62 = .ok (.iload_n 1, 1) := by decide +kernel
theorem dX10_turn_63 : decode cX10_turn 63 = .ok (.invokevirtual 436, 3) := by decide +kernel
theorem dX10_turn_66 : decode cX10_turn 66 = .ok (.ifCond .eq 17, 3) := by decide +kernel
theorem dX10_turn_69 : decode cX10_turn 69 = .ok (.aload_n 0, 1) := by decide +kernel
theorem dX10_turn_70 : decode cX10_turn 70 = .ok (.getfield 13, 3) := by decide +kernel
theorem dX10_turn_73 : decode cX10_turn 73 = .ok (.bipush 47, 2) := by decide +kernel
theorem dX10_turn_75 : decode cX10_turn 75 = .ok (.iconst 2, 1) := by decide +kernel
theorem dX10_turn_76 : decode cX10_turn 76 = .ok (.iload_n 3, 1) := by decide +kernel
theorem dX10_turn_77 : decode cX10_turn 77 = .ok (.imul, 1) := by decide +kernel
theorem dX10_turn_78 : decode cX10_turn 78 = .ok (.iadd, 1) := by decide +kernel
theorem dX10_turn_79 : decode cX10_turn 79 = .ok (.iaload, 1) := by decide +kernel
theorem dX10_turn_80 : decode cX10_turn 80 = .ok (.goto 4, 3) := by decide +kernel
theorem dX10_turn_83 : decode cX10_turn 83 = .ok (.iconst (-1), 1) := by decide +kernel
theorem dX10_turn_84 : decode cX10_turn 84 = .ok (.istore_n 2, 1) := by decide +kernel
theorem dX10_turn_85 : decode cX10_turn 85 = .ok (.iinc 3 1, 3) := by decide +kernel
theorem dX10_turn_88 : decode cX10_turn 88 = .ok (.goto (-79), 3) := by decide +kernel
theorem dX10_turn_91 : decode cX10_turn 91 = .ok (.iload_n 2, 1) := by decide +kernel
theorem dX10_turn_92 : decode cX10_turn 92 = .ok (.ireturn, 1) := by decide +kernel
theorem dX10_weeksBy_0 : decode cX10_weeksBy 0 = .ok (.iload_n 1, 1) := by decide +kernel
theorem dX10_weeksBy_1 : decode cX10_weeksBy 1 = .ok (.aload_n 0, 1) := by decide +kernel
theorem dX10_weeksBy_2 : decode cX10_weeksBy 2 = .ok (.getfield 13, 3) := by decide +kernel
theorem dX10_weeksBy_5 : decode cX10_weeksBy 5 = .ok (.bipush 87, 2) := by decide +kernel
theorem dX10_weeksBy_7 : decode cX10_weeksBy 7 = .ok (.iload_n 2, 1) := by decide +kernel
theorem dX10_weeksBy_8 : decode cX10_weeksBy 8 = .ok (.iadd, 1) := by decide +kernel
theorem dX10_weeksBy_9 : decode cX10_weeksBy 9 = .ok (.iaload, 1) := by decide +kernel
theorem dX10_weeksBy_10 : decode cX10_weeksBy 10 = .ok (.ior, 1) := by decide +kernel
theorem dX10_weeksBy_11 : decode cX10_weeksBy 11 = .ok (.istore_n 3, 1) := by decide +kernel
theorem dX10_weeksBy_12 : decode cX10_weeksBy 12 = .ok (.aload_n 0, 1) := by decide +kernel
theorem dX10_weeksBy_13 : decode cX10_weeksBy 13 = .ok (.getfield 13, 3) := by decide +kernel
theorem dX10_weeksBy_16 : decode cX10_weeksBy 16 = .ok (.bipush 79, 2) := by decide +kernel
theorem dX10_weeksBy_18 : decode cX10_weeksBy 18 = .ok (.iload_n 2, 1) := by decide +kernel
theorem dX10_weeksBy_19 : decode cX10_weeksBy 19 = .ok (.iadd, 1) := by decide +kernel
theorem dX10_weeksBy_20 : decode cX10_weeksBy 20 = .ok (.iaload, 1) := by decide +kernel
theorem dX10_weeksBy_21 : decode cX10_weeksBy 21 = .ok (.iload_n 1, 1) := by decide +kernel
theorem dX10_weeksBy_22 : decode cX10_weeksBy 22 = .ok (.invokestatic 417, 3) := by decide +kernel
theorem dX10_weeksBy_25 : decode cX10_weeksBy 25 = .ok (.ifCond .eq 20, 3) := by decide +kernel
theorem dX10_weeksBy_28 : decode cX10_weeksBy 28 = .ok (.iload_n 3, 1) := by decide +kernel
theorem dX10_weeksBy_29 : decode cX10_weeksBy 29 = .ok (.iload_n 1, 1) := by decide +kernel
theorem dX10_weeksBy_30 : decode cX10_weeksBy 30 = .ok (.if_icmp .eq 15, 3) := by decide +kernel
theorem dX10_weeksBy_33 : decode cX10_weeksBy 33 = .ok (.aload_n 0, 1) := by decide +kernel
theorem dX10_weeksBy_34 : decode cX10_weeksBy 34 = .ok (.getfield 116, 3) := by decide +kernel
theorem dX10_weeksBy_37 : decode cX10_weeksBy 37 = .ok (.iload_n 3, 1) := by decide +kernel
theorem dX10_weeksBy_38 : decode cX10_weeksBy 38 = .ok (.iaload, 1) := by decide +kernel
theorem dX10_weeksBy_39 : decode cX10_weeksBy 39 = .ok (.ldc_w 478, 3) := by decide +kernel
theorem dX10_weeksBy_42 : decode cX10_weeksBy 42 = .ok (.if_icmp .ne 9, 3) := by decide +kernel
theorem dX10_weeksBy_45 : decode cX10_weeksBy 45 = .ok (.ldc_w 478, 3) := by decide +kernel
theorem dX10_weeksBy_48 : decode cX10_weeksBy 48 = .ok (.goto 24, 3) := by decide +kernel
theorem dX10_weeksBy_51 : decode cX10_weeksBy 51 = .ok (.bipush 100, 2) := by decide +kernel
theorem dX10_weeksBy_53 : decode cX10_weeksBy 53 = .ok (.aload_n 0, 1) := by decide +kernel
theorem dX10_weeksBy_54 : decode cX10_weeksBy 54 = .ok (.getfield 13, 3) := by decide +kernel
theorem dX10_weeksBy_57 : decode cX10_weeksBy 57 = .ok (.bipush 71, 2) := by decide +kernel
theorem dX10_weeksBy_59 : decode cX10_weeksBy 59 = .ok (.iload_n 2, 1) := by decide +kernel
theorem dX10_weeksBy_60 : decode cX10_weeksBy 60 = .ok (.iadd, 1) := by decide +kernel
theorem dX10_weeksBy_61 : decode cX10_weeksBy 61 = .ok (.iaload, 1) := by decide +kernel
theorem dX10_weeksBy_62 : decode cX10_weeksBy 62 = .ok (.imul, 1) := by decide +kernel
theorem dX10_weeksBy_63 : decode cX10_weeksBy 63 = .ok (.iconst 1, 1) := by decide +kernel
theorem dX10_weeksBy_64 : decode cX10_weeksBy 64 = .ok (.iadd, 1) := by decide +kernel
theorem dX10_weeksBy_65 : decode cX10_weeksBy 65 = .ok (.aload_n 0, 1) := by decide +kernel
theorem dX10_weeksBy_66 : decode cX10_weeksBy 66 = .ok (.getfield 116, 3) := by decide +kernel
theorem dX10_weeksBy_69 : decode cX10_weeksBy 69 = .ok (.iload_n 3, 1) := by decide +kernel
theorem dX10_weeksBy_70 : decode cX10_weeksBy 70 = .ok (.iaload, 1) := by decide +kernel
theorem dX10_weeksBy_71 : decode cX10_weeksBy 71 = .ok (.iadd, 1) := by decide +kernel
theorem dX10_weeksBy_72 : decode cX10_weeksBy 72 = .ok (.ireturn, 1) := by decide +kernel
theorem dX10_layWeeks_0 : decode cX10_layWeeks 0 = .ok (.bipush 63, 2) := by decide +kernel
theorem dX10_layWeeks_2 : decode cX10_layWeeks 2 = .ok (.istore_n 2, 1) := by decide +kernel
theorem dX10_layWeeks_3 : decode cX10_layWeeks 3 = .ok (.iload_n 2, 1) := by decide +kernel
theorem dX10_layWeeks_4 : decode cX10_layWeeks 4 = .ok (.ifCond .lt 92, 3) := by decide +kernel
theorem dX10_layWeeks_7 : decode cX10_layWeeks 7 = .ok (.aload_n 0, 1) := by decide +kernel
theorem dX10_layWeeks_8 : decode cX10_layWeeks 8 = .ok (.getfield 116, 3) := by decide +kernel
theorem dX10_layWeeks_11 : decode cX10_layWeeks 11 = .ok (.iload_n 2, 1) := by decide +kernel
theorem dX10_layWeeks_12 : decode cX10_layWeeks 12 = .ok (.iload_n 1, 1) := by decide +kernel
theorem dX10_layWeeks_13 : decode cX10_layWeeks 13 = .ok (.iload_n 2, 1) := by decide +kernel
theorem dX10_layWeeks_14 : decode cX10_layWeeks 14 = .ok (.invokestatic 417, 3) := by decide +kernel
theorem dX10_layWeeks_17 : decode cX10_layWeeks 17 = .ok (.ifCond .eq 7, 3) := by decide +kernel
theorem dX10_layWeeks_20 : decode cX10_layWeeks 20 = .ok (.iconst 0, 1) := by decide +kernel
theorem dX10_layWeeks_21 : decode cX10_layWeeks 21 = .ok (.goto 6, 3) := by decide +kernel
theorem dX10_layWeeks_24 : decode cX10_layWeeks 24 = .ok (.ldc_w 478, 3) := by decide +kernel
theorem dX10_layWeeks_27 : decode cX10_layWeeks 27 = .ok (.iastore, 1) := by decide +kernel
theorem dX10_layWeeks_28 : decode cX10_layWeeks 28 = .ok (.iconst 0, 1) := by decide +kernel
theorem dX10_layWeeks_29 : decode cX10_layWeeks 29 = .ok (.istore_n 3, 1) := by decide +kernel
theorem dX10_layWeeks_30 : decode cX10_layWeeks 30 = .ok (.iload_n 3, 1) := by decide +kernel
theorem dX10_layWeeks_31 : decode cX10_layWeeks 31 = .ok (.aload_n 0, 1) := by decide +kernel
theorem dX10_layWeeks_32 : decode cX10_layWeeks 32 = .ok (.getfield 13, 3) := by decide +kernel
theorem dX10_layWeeks_35 : decode cX10_layWeeks 35 = .ok (.iconst 0, 1) := by decide +kernel
theorem dX10_layWeeks_36 : decode cX10_layWeeks 36 = .ok (.iaload, 1) := by decide +kernel
theorem dX10_layWeeks_37 : decode cX10_layWeeks 37 = .ok (.if_icmp .ge 53, 3) := by decide +kernel
theorem dX10_layWeeks_40 : decode cX10_layWeeks 40 = .ok (.iload_n 1, 1) := by decide +kernel
theorem dX10_layWeeks_41 : decode cX10_layWeeks 41 = .ok (.iload_n 2, 1) := by decide +kernel
theorem dX10_layWeeks_42 : decode cX10_layWeeks 42 = .ok (.invokestatic 417, 3) := by decide +kernel
theorem dX10_layWeeks_45 : decode cX10_layWeeks 45 = .ok (.ifCond .ne 45, 3) := by decide +kernel
theorem dX10_layWeeks_48 : decode cX10_layWeeks 48 = .ok (.aload_n 0, 1) := by decide +kernel
theorem dX10_layWeeks_49 : decode cX10_layWeeks 49 = .ok (.iload_n 2, 1) := by decide +kernel
theorem dX10_layWeeks_50 : decode cX10_layWeeks 50 = .ok (.iload_n 3, 1) := by decide +kernel
theorem dX10_layWeeks_51 : decode cX10_layWeeks 51 = .ok (.invokevirtual 479, 3) := by decide +kernel
theorem dX10_layWeeks_54 : decode cX10_layWeeks 54 = .ok (.istore 4, 2) := by decide +kernel
theorem dX10_layWeeks_56 : decode cX10_layWeeks 56 = .ok (.aload_n 0, 1) := by decide +kernel
theorem dX10_layWeeks_57 : decode cX10_layWeeks 57 = .ok (.getfield 116, 3) := by decide +kernel
theorem dX10_layWeeks_60 : decode cX10_layWeeks 60 = .ok (.iload_n 2, 1) := by decide +kernel
theorem dX10_layWeeks_61 : decode cX10_layWeeks 61 = .ok (.iload 4, 2) := by decide +kernel
theorem dX10_layWeeks_63 : decode cX10_layWeeks 63 = .ok (.aload_n 0, 1) := by decide +kernel
theorem dX10_layWeeks_64 : decode cX10_layWeeks 64 = .ok (.getfield 116, 3) := by decide +kernel
theorem dX10_layWeeks_67 : decode cX10_layWeeks 67 = .ok (.iload_n 2, 1) := by decide +kernel
theorem dX10_layWeeks_68 : decode cX10_layWeeks 68 = .ok (.iaload, 1) := by decide +kernel
theorem dX10_layWeeks_69 : decode cX10_layWeeks 69 = .ok (.if_icmp .ge 8, 3) := by decide +kernel
theorem dX10_layWeeks_72 : decode cX10_layWeeks 72 = .ok (.iload 4, 2) := by decide +kernel
theorem dX10_layWeeks_74 : decode cX10_layWeeks 74 = .ok (.goto 9, 3) := by decide +kernel
theorem dX10_layWeeks_77 : decode cX10_layWeeks 77 = .ok (.aload_n 0, 1) := by decide +kernel
theorem dX10_layWeeks_78 : decode cX10_layWeeks 78 = .ok (.getfield 116, 3) := by decide +kernel
theorem dX10_layWeeks_81 : decode cX10_layWeeks 81 = .ok (.iload_n 2, 1) := by decide +kernel
theorem dX10_layWeeks_82 : decode cX10_layWeeks 82 = .ok (.iaload, 1) := by decide +kernel
theorem dX10_layWeeks_83 : decode cX10_layWeeks 83 = .ok (.iastore, 1) := by decide +kernel
theorem dX10_layWeeks_84 : decode cX10_layWeeks 84 = .ok (.iinc 3 1, 3) := by decide +kernel
theorem dX10_layWeeks_87 : decode cX10_layWeeks 87 = .ok (.goto (-57), 3) := by decide +kernel
theorem dX10_layWeeks_90 : decode cX10_layWeeks 90 = .ok (.iinc 2 (-1), 3) := by decide +kernel
theorem dX10_layWeeks_93 : decode cX10_layWeeks 93 = .ok (.goto (-90), 3) := by decide +kernel
theorem dX10_layWeeks_96 : decode cX10_layWeeks 96 = .ok (.return_, 1) := by decide +kernel
theorem dX10_way_0 : decode cX10_way 0 = .ok (.aload_n 0, 1) := by decide +kernel
theorem dX10_way_1 : decode cX10_way 1 = .ok (.iconst 0, 1) := by decide +kernel
theorem dX10_way_2 : decode cX10_way 2 = .ok (.putfield 157, 3) := by decide +kernel
theorem dX10_way_5 : decode cX10_way 5 = .ok (.iload_n 1, 1) := by decide +kernel
theorem dX10_way_6 : decode cX10_way 6 = .ok (.i2l, 1) := by decide +kernel
theorem dX10_way_7 : decode cX10_way 7 = .ok (.lconst 0, 1) := by decide +kernel
theorem dX10_way_8 : decode cX10_way 8 = .ok (.ldc2_w 186, 3) := by decide +kernel
theorem dX10_way_11 : decode cX10_way 11 = .ok (.invokestatic 177, 3) := by decide +kernel
theorem dX10_way_14 : decode cX10_way 14 = .ok (.ifCond .eq 20, 3) := by decide +kernel
theorem dX10_way_17 : decode cX10_way 17 = .ok (.iload_n 2, 1) := by decide +kernel
theorem dX10_way_18 : decode cX10_way 18 = .ok (.i2l, 1) := by decide +kernel
theorem dX10_way_19 : decode cX10_way 19 = .ok (.lconst 0, 1) := by decide +kernel
theorem dX10_way_20 : decode cX10_way 20 = .ok (.ldc2_w 186, 3) := by decide +kernel
theorem dX10_way_23 : decode cX10_way 23 = .ok (.invokestatic 177, 3) := by decide +kernel
theorem dX10_way_26 : decode cX10_way 26 = .ok (.ifCond .eq 8, 3) := by decide +kernel
theorem dX10_way_29 : decode cX10_way 29 = .ok (.iload_n 3, 1) := by decide +kernel
theorem dX10_way_30 : decode cX10_way 30 = .ok (.iconst (-1), 1) := by decide +kernel
theorem dX10_way_31 : decode cX10_way 31 = .ok (.if_icmp .ge 5, 3) := by decide +kernel
theorem dX10_way_34 : decode cX10_way 34 = .ok (.iconst (-1), 1) := by decide +kernel
theorem dX10_way_35 : decode cX10_way 35 = .ok (.ireturn, 1) := by decide +kernel
theorem dX10_way_36 : decode cX10_way 36 = .ok (.aload_n 0, 1) := by decide +kernel
theorem dX10_way_37 : decode cX10_way 37 = .ok (.iload_n 2, 1) := by decide +kernel
theorem dX10_way_38 : decode cX10_way 38 = .ok (.invokevirtual 482, 3) := by decide +kernel
theorem dX10_way_41 : decode cX10_way 41 = .ok (.aload_n 0, 1) := by decide +kernel
theorem dX10_way_42 : decode cX10_way 42 = .ok (.getfield 116, 3) := by decide +kernel
theorem dX10_way_45 : decode cX10_way 45 = .ok (.iload_n 1, 1) := by decide +kernel
theorem dX10_way_46 : decode cX10_way 46 = .ok (.iaload, 1) := by decide +kernel
theorem dX10_way_47 : decode cX10_way 47 = .ok (.ldc_w 478, 3) := by decide +kernel
theorem dX10_way_50 : decode cX10_way 50 = .ok (.if_icmp .eq 8, 3) := by decide +kernel
theorem dX10_way_53 : decode cX10_way 53 = .ok (.iload_n 3, 1) := by decide +kernel
theorem dX10_way_54 : decode cX10_way 54 = .ok (.iconst (-1), 1) := by decide +kernel
theorem dX10_way_55 : decode cX10_way 55 = .ok (.if_icmp .ne 29, 3) := by decide +kernel
theorem dX10_way_58 : decode cX10_way 58 = .ok (.aload_n 0, 1) := by decide +kernel
theorem dX10_way_59 : decode cX10_way 59 = .ok (.getfield 116, 3) := by decide +kernel
theorem dX10_way_62 : decode cX10_way 62 = .ok (.iload_n 1, 1) := by decide +kernel
theorem dX10_way_63 : decode cX10_way 63 = .ok (.iaload, 1) := by decide +kernel
theorem dX10_way_64 : decode cX10_way 64 = .ok (.ldc_w 478, 3) := by decide +kernel
theorem dX10_way_67 : decode cX10_way 67 = .ok (.if_icmp .ne 7, 3) := by decide +kernel
theorem dX10_way_70 : decode cX10_way 70 = .ok (.iconst (-1), 1) := by decide +kernel
theorem dX10_way_71 : decode cX10_way 71 = .ok (.goto 12, 3) := by decide +kernel
theorem dX10_way_74 : decode cX10_way 74 = .ok (.aload_n 0, 1) := by decide +kernel
theorem dX10_way_75 : decode cX10_way 75 = .ok (.getfield 116, 3) := by decide +kernel
theorem dX10_way_78 : decode cX10_way 78 = .ok (.iload_n 1, 1) := by decide +kernel
theorem dX10_way_79 : decode cX10_way 79 = .ok (.iaload, 1) := by decide +kernel
theorem dX10_way_80 : decode cX10_way 80 = .ok (.bipush 100, 2) := by decide +kernel
theorem dX10_way_82 : decode cX10_way 82 = .ok (.idiv, 1) := by decide +kernel
theorem dX10_way_83 : decode cX10_way 83 = .ok (.ireturn, 1) := by decide +kernel
theorem dX10_way_84 : decode cX10_way 84 = .ok (.iload_n 1, 1) := by decide +kernel
theorem dX10_way_85 : decode cX10_way 85 = .ok (.istore 4, 2) := by decide +kernel
theorem dX10_way_87 : decode cX10_way 87 = .ok (.iconst (-1), 1) := by decide +kernel
theorem dX10_way_88 : decode cX10_way 88 = .ok (.istore 5, 2) := by decide +kernel
theorem dX10_way_90 : decode cX10_way 90 = .ok (.iconst 0, 1) := by decide +kernel
theorem dX10_way_91 : decode cX10_way 91 = .ok (.istore 6, 2) := by decide +kernel
theorem dX10_way_93 : decode cX10_way 93 = .ok (.iload 6, 2) := by decide +kernel
theorem dX10_way_95 : decode cX10_way 95 = .ok (.iload_n 3, 1) := by decide +kernel
theorem dX10_way_96 : decode cX10_way 96 = .ok (.if_icmp .gt 63, 3) := by decide +kernel
theorem dX10_way_99 : decode cX10_way 99 = .ok (.aload_n 0, 1) := by decide +kernel
theorem dX10_way_100 : decode cX10_way 100 = .ok (.getfield 116, 3) := by decide +kernel
theorem dX10_way_103 : decode cX10_way 103 = .ok (.iload 4, 2) := by decide +kernel
theorem dX10_way_105 : decode cX10_way 105 = .ok (.iaload, 1) := by decide +kernel
theorem dX10_way_106 : decode cX10_way 106 = .ok (.ifCond .ne 5, 3) := by decide +kernel
theorem dX10_way_109 : decode cX10_way 109 = .ok (.iconst (-1), 1) := by decide +kernel
theorem dX10_way_110 : decode cX10_way 110 = .ok (.ireturn, 1) := by decide +kernel
theorem dX10_way_111 : decode cX10_way 111 = .ok (.iconst 0, 1) := by decide +kernel
theorem dX10_way_112 : decode cX10_way 112 = .ok (.istore 5, 2) := by decide +kernel
theorem dX10_way_114 : decode cX10_way 114 = .ok (.aload_n 0, 1) := by decide +kernel
theorem dX10_way_115 : decode cX10_way 115 = .ok (.iload 4, 2) := by decide +kernel
theorem dX10_way_117 : decode cX10_way 117 = .ok (.iload 5, 2) := by decide +kernel
theorem dX10_way_119 : decode cX10_way 119 = .ok (.invokevirtual 479, 3) := by decide +kernel
theorem dX10_way_122 : decode cX10_way 122 = .ok (.aload_n 0, 1) := by decide +kernel
theorem dX10_way_123 : decode cX10_way 123 = .ok (.getfield 116, 3) := by decide +kernel
theorem dX10_way_126 : decode cX10_way 126 = .ok (.iload 4, 2) := by decide +kernel
theorem dX10_way_128 : decode cX10_way 128 = .ok (.iaload, 1) := by decide +kernel
theorem dX10_way_129 : decode cX10_way 129 = .ok (.if_icmp .eq 9, 3) := by decide +kernel
theorem dX10_way_132 : decode cX10_way 132 = .ok (.iinc 5 1, 3) := by decide +kernel
theorem dX10_way_135 : decode cX10_way 135 = .ok (.goto (-21), 3) := by decide +kernel
theorem dX10_way_138 : decode cX10_way 138 = .ok (.iload 4, 2) := by decide +kernel
theorem dX10_way_140 : decode cX10_way 140 = .ok (.aload_n 0, 1) := by decide +kernel
theorem dX10_way_141 : decode cX10_way 141 = .ok (.getfield 13, 3) := by decide +kernel
theorem dX10_way_144 : decode cX10_way 144 = .ok (.bipush 87, 2) := by decide +kernel
theorem dX10_way_146 : decode cX10_way 146 = .ok (.iload 5, 2) := by decide +kernel
theorem dX10_way_148 : decode cX10_way 148 = .ok (.iadd, 1) := by decide +kernel
theorem dX10_way_149 : decode cX10_way 149 = .ok (.iaload, 1) := by decide +kernel
theorem dX10_way_150 : decode cX10_way 150 = .ok (.ior, 1) := by decide +kernel
theorem dX10_way_151 : decode cX10_way 151 = .ok (.istore 4, 2) := by decide +kernel
theorem dX10_way_153 : decode cX10_way 153 = .ok (.iinc 6 1, 3) := by decide +kernel
theorem dX10_way_156 : decode cX10_way 156 = .ok (.goto (-63), 3) := by decide +kernel
theorem dX10_way_159 : decode cX10_way 159 = .ok (.iload 5, 2) := by decide +kernel
theorem dX10_way_161 : decode cX10_way 161 = .ok (.ireturn, 1) := by decide +kernel
theorem dX10_canBeLast_0 : decode cX10_canBeLast 0 = .ok (.iload_n 1, 1) := by decide +kernel
theorem dX10_canBeLast_1 : decode cX10_canBeLast 1 = .ok (.iconst 1, 1) := by decide +kernel
theorem dX10_canBeLast_2 : decode cX10_canBeLast 2 = .ok (.iload_n 2, 1) := by decide +kernel
theorem dX10_canBeLast_3 : decode cX10_canBeLast 3 = .ok (.ishl, 1) := by decide +kernel
theorem dX10_canBeLast_4 : decode cX10_canBeLast 4 = .ok (.isub, 1) := by decide +kernel
theorem dX10_canBeLast_5 : decode cX10_canBeLast 5 = .ok (.istore_n 3, 1) := by decide +kernel
theorem dX10_canBeLast_6 : decode cX10_canBeLast 6 = .ok (.aload_n 0, 1) := by decide +kernel
theorem dX10_canBeLast_7 : decode cX10_canBeLast 7 = .ok (.getfield 119, 3) := by decide +kernel
theorem dX10_canBeLast_10 : decode cX10_canBeLast 10 = .ok (.iload_n 3, 1) := by decide +kernel
theorem dX10_canBeLast_11 : decode cX10_canBeLast 11 = .ok (.baload, 1) := by decide +kernel
theorem dX10_canBeLast_12 : decode cX10_canBeLast 12 = .ok (.ifCond .eq 28, 3) := by decide +kernel
theorem dX10_canBeLast_15 : decode cX10_canBeLast 15 = .ok (.aload_n 0, 1) := by decide +kernel
theorem dX10_canBeLast_16 : decode cX10_canBeLast 16 = .ok (.getfield 13, 3) := by decide +kernel
theorem dX10_canBeLast_19 : decode cX10_canBeLast 19 = .ok (.bipush 79, 2) := by decide +kernel
theorem dX10_canBeLast_21 : decode cX10_canBeLast 21 = .ok (.iload_n 2, 1) := by decide +kernel
theorem dX10_canBeLast_22 : decode cX10_canBeLast 22 = .ok (.iadd, 1) := by decide +kernel
theorem dX10_canBeLast_23 : decode cX10_canBeLast 23 = .ok (.iaload, 1) := by decide +kernel
theorem dX10_canBeLast_24 : decode cX10_canBeLast 24 = .ok (.aload_n 0, 1) := by decide +kernel
theorem dX10_canBeLast_25 : decode cX10_canBeLast 25 = .ok (.getfield 122, 3) := by decide +kernel
theorem dX10_canBeLast_28 : decode cX10_canBeLast 28 = .ok (.iload_n 3, 1) := by decide +kernel
theorem dX10_canBeLast_29 : decode cX10_canBeLast 29 = .ok (.iaload, 1) := by decide +kernel
theorem dX10_canBeLast_30 : decode cX10_canBeLast 30 = .ok (.invokestatic 417, 3) := by decide +kernel
theorem dX10_canBeLast_33 : decode cX10_canBeLast 33 = .ok (.ifCond .eq 7, 3) := by decide +kernel
theorem dX10_canBeLast_36 : decode cX10_canBeLast 36 = .ok (.iconst 1, 1) := by decide +kernel
theorem dX10_canBeLast_37 : decode cX10_canBeLast 37 = .ok (.goto 4, 3) := by decide +kernel
theorem dX10_canBeLast_40 : decode cX10_canBeLast 40 = .ok (.iconst 0, 1) := by decide +kernel
theorem dX10_canBeLast_41 : decode cX10_canBeLast 41 = .ok (.ireturn, 1) := by decide +kernel
theorem dX10_laySets_0 : decode cX10_laySets 0 = .ok (.aload_n 0, 1) := by decide +kernel
theorem dX10_laySets_1 : decode cX10_laySets 1 = .ok (.getfield 119, 3) := by decide +kernel
theorem dX10_laySets_4 : decode cX10_laySets 4 = .ok (.iconst 0, 1) := by decide +kernel
theorem dX10_laySets_5 : decode cX10_laySets 5 = .ok (.iconst 1, 1) := by decide +kernel
theorem dX10_laySets_6 : decode cX10_laySets 6 = .ok (.bastore, 1) := by decide +kernel
theorem dX10_laySets_7 : decode cX10_laySets 7 = .ok (.aload_n 0, 1) := by decide +kernel
theorem dX10_laySets_8 : decode cX10_laySets 8 = .ok (.getfield 122, 3) := by decide +kernel
theorem dX10_laySets_11 : decode cX10_laySets 11 = .ok (.iconst 0, 1) := by decide +kernel
theorem dX10_laySets_12 : decode cX10_laySets 12 = .ok (.iload_n 1, 1) := by decide +kernel
theorem dX10_laySets_13 : decode cX10_laySets 13 = .ok (.iastore, 1) := by decide +kernel
theorem dX10_laySets_14 : decode cX10_laySets 14 = .ok (.iconst 1, 1) := by decide +kernel
theorem dX10_laySets_15 : decode cX10_laySets 15 = .ok (.istore_n 2, 1) := by decide +kernel
theorem dX10_laySets_16 : decode cX10_laySets 16 = .ok (.iload_n 2, 1) := by decide +kernel
theorem dX10_laySets_17 : decode cX10_laySets 17 = .ok (.iconst 1, 1) := by decide +kernel
theorem dX10_laySets_18 : decode cX10_laySets 18 = .ok (.aload_n 0, 1) := by decide +kernel
theorem dX10_laySets_19 : decode cX10_laySets 19 = .ok (.getfield 13, 3) := by decide +kernel
theorem dX10_laySets_22 : decode cX10_laySets 22 = .ok (.iconst 0, 1) := by decide +kernel
theorem dX10_laySets_23 : decode cX10_laySets 23 = .ok (.iaload, 1) := by decide +kernel
theorem dX10_laySets_24 : decode cX10_laySets 24 = .ok (.ishl, 1) := by decide +kernel
theorem dX10_laySets_25 : decode cX10_laySets 25 = .ok (.if_icmp .ge 96, 3) := by decide +kernel
theorem dX10_laySets_28 : decode cX10_laySets 28 = .ok (.aload_n 0, 1) := by decide +kernel
theorem dX10_laySets_29 : decode cX10_laySets 29 = .ok (.getfield 119, 3) := by decide +kernel
theorem dX10_laySets_32 : decode cX10_laySets 32 = .ok (.iload_n 2, 1) := by decide +kernel
theorem dX10_laySets_33 : decode cX10_laySets 33 = .ok (.iconst 0, 1) := by decide +kernel
theorem dX10_laySets_34 : decode cX10_laySets 34 = .ok (.bastore, 1) := by decide +kernel
theorem dX10_laySets_35 : decode cX10_laySets 35 = .ok (.aload_n 0, 1) := by decide +kernel
theorem dX10_laySets_36 : decode cX10_laySets 36 = .ok (.getfield 122, 3) := by decide +kernel
theorem dX10_laySets_39 : decode cX10_laySets 39 = .ok (.iload_n 2, 1) := by decide +kernel
theorem dX10_laySets_40 : decode cX10_laySets 40 = .ok (.iload_n 1, 1) := by decide +kernel
theorem dX10_laySets_41 : decode cX10_laySets 41 = .ok (.iastore, 1) := by decide +kernel
theorem dX10_laySets_42 : decode cX10_laySets 42 = .ok (.iconst 0, 1) := by decide +kernel
theorem dX10_laySets_43 : decode cX10_laySets 43 = .ok (.istore_n 3, 1) := by decide +kernel
theorem dX10_laySets_44 : decode cX10_laySets 44 = .ok (.iload_n 3, 1) := by decide +kernel
theorem dX10_laySets_45 : decode cX10_laySets 45 = .ok (.aload_n 0, 1) := by decide +kernel
theorem dX10_laySets_46 : decode cX10_laySets 46 = .ok (.getfield 13, 3) := by decide +kernel
theorem dX10_laySets_49 : decode cX10_laySets 49 = .ok (.iconst 0, 1) := by decide +kernel
theorem dX10_laySets_50 : decode cX10_laySets 50 = .ok (.iaload, 1) := by decide +kernel
theorem dX10_laySets_51 : decode cX10_laySets 51 = .ok (.if_icmp .ge 64, 3) := by decide +kernel
theorem dX10_laySets_54 : decode cX10_laySets 54 = .ok (.iload_n 2, 1) := by decide +kernel
theorem dX10_laySets_55 : decode cX10_laySets 55 = .ok (.iload_n 3, 1) := by decide +kernel
theorem dX10_laySets_56 : decode cX10_laySets 56 = .ok (.invokestatic 485, 3) := by decide +kernel
theorem dX10_laySets_59 : decode cX10_laySets 59 = .ok (.ifCond .eq 50, 3) := by decide +kernel
theorem dX10_laySets_62 : decode cX10_laySets 62 = .ok (.aload_n 0, 1) := by decide +kernel
theorem dX10_laySets_63 : decode cX10_laySets 63 = .ok (.getfield 122, 3) := by decide +kernel
theorem dX10_laySets_66 : decode cX10_laySets 66 = .ok (.iload_n 2, 1) := by decide +kernel
theorem dX10_laySets_67 : decode cX10_laySets 67 = .ok (.dup2, 1) := by decide +kernel
theorem dX10_laySets_68 : decode cX10_laySets 68 = .ok (.iaload, 1) := by decide +kernel
theorem dX10_laySets_69 : decode cX10_laySets 69 = .ok (.aload_n 0, 1) := by decide +kernel
theorem dX10_laySets_70 : decode cX10_laySets 70 = .ok (.getfield 13, 3) := by decide +kernel
theorem dX10_laySets_73 : decode cX10_laySets 73 = .ok (.bipush 87, 2) := by decide +kernel
theorem dX10_laySets_75 : decode cX10_laySets 75 = .ok (.iload_n 3, 1) := by decide +kernel
theorem dX10_laySets_76 : decode cX10_laySets 76 = .ok (.iadd, 1) := by decide +kernel
theorem dX10_laySets_77 : decode cX10_laySets 77 = .ok (.iaload, 1) := by decide +kernel
theorem dX10_laySets_78 : decode cX10_laySets 78 = .ok (.ior, 1) := by decide +kernel
theorem dX10_laySets_79 : decode cX10_laySets 79 = .ok (.iastore, 1) := by decide +kernel
theorem dX10_laySets_80 : decode cX10_laySets 80 = .ok (.aload_n 0, 1) := by decide +kernel
theorem dX10_laySets_81 : decode cX10_laySets 81 = .ok (.getfield 119, 3) := by decide +kernel
theorem dX10_laySets_84 : decode cX10_laySets 84 = .ok (.iload_n 2, 1) := by decide +kernel
theorem dX10_laySets_85 : decode cX10_laySets 85 = .ok (.aload_n 0, 1) := by decide +kernel
theorem dX10_laySets_86 : decode cX10_laySets 86 = .ok (.getfield 119, 3) := by decide +kernel
theorem dX10_laySets_89 : decode cX10_laySets 89 = .ok (.iload_n 2, 1) := by decide +kernel
theorem dX10_laySets_90 : decode cX10_laySets 90 = .ok (.baload, 1) := by decide +kernel
theorem dX10_laySets_91 : decode cX10_laySets 91 = .ok (.ifCond .ne 12, 3) := by decide +kernel
theorem dX10_laySets_94 : decode cX10_laySets 94 = .ok (.aload_n 0, 1) := by decide +kernel
theorem dX10_laySets_95 : decode cX10_laySets 95 = .ok (.iload_n 2, 1) := by decide +kernel
theorem dX10_laySets_96 : decode cX10_laySets 96 = .ok (.iload_n 3, 1) := by decide +kernel
theorem dX10_laySets_97 : decode cX10_laySets 97 = .ok (.invokevirtual 488, 3) := by decide +kernel
theorem dX10_laySets_100 : decode cX10_laySets 100 = .ok (.ifCond .eq 7, 3) := by decide +kernel
theorem dX10_laySets_103 : decode cX10_laySets 103 = .ok (.iconst 1, 1) := by decide +kernel
theorem dX10_laySets_104 : decode cX10_laySets 104 = .ok (.goto 4, 3) := by decide +kernel
theorem dX10_laySets_107 : decode cX10_laySets 107 = .ok (.iconst 0, 1) := by decide +kernel
theorem dX10_laySets_108 : decode cX10_laySets 108 = .ok (.bastore, 1) := by decide +kernel
theorem dX10_laySets_109 : decode cX10_laySets 109 = .ok (.iinc 3 1, 3) := by decide +kernel
theorem dX10_laySets_112 : decode cX10_laySets 112 = .ok (.goto (-68), 3) := by decide +kernel
theorem dX10_laySets_115 : decode cX10_laySets 115 = .ok (.iinc 2 1, 3) := by decide +kernel
theorem dX10_laySets_118 : decode cX10_laySets 118 = .ok (.goto (-102), 3) := by decide +kernel
theorem dX10_laySets_121 : decode cX10_laySets 121 = .ok (.return_, 1) := by decide +kernel
theorem dX10_isOne_0 : decode cX10_isOne 0 = .ok (.aload_n 0, 1) := by decide +kernel
theorem dX10_isOne_1 : decode cX10_isOne 1 = .ok (.getfield 119, 3) := by decide +kernel
theorem dX10_isOne_4 : decode cX10_isOne 4 = .ok (.iload_n 1, 1) := by decide +kernel
theorem dX10_isOne_5 : decode cX10_isOne 5 = .ok (.baload, 1) := by decide +kernel
theorem dX10_isOne_6 : decode cX10_isOne 6 = .ok (.ifCond .eq 25, 3) := by decide +kernel
theorem dX10_isOne_9 : decode cX10_isOne 9 = .ok (.aload_n 0, 1) := by decide +kernel
theorem dX10_isOne_10 : decode cX10_isOne 10 = .ok (.getfield 122, 3) := by decide +kernel
theorem dX10_isOne_13 : decode cX10_isOne 13 = .ok (.iload_n 1, 1) := by decide +kernel
theorem dX10_isOne_14 : decode cX10_isOne 14 = .ok (.iaload, 1) := by decide +kernel
theorem dX10_isOne_15 : decode cX10_isOne 15 = .ok (.aload_n 0, 1) := by decide +kernel
theorem dX10_isOne_16 : decode cX10_isOne 16 = .ok (.getfield 13, 3) := by decide +kernel
theorem dX10_isOne_19 : decode cX10_isOne 19 = .ok (.bipush 17, 2) := by decide +kernel
theorem dX10_isOne_21 : decode cX10_isOne 21 = .ok (.iload_n 2, 1) := by decide +kernel
theorem dX10_isOne_22 : decode cX10_isOne 22 = .ok (.iadd, 1) := by decide +kernel
theorem dX10_isOne_23 : decode cX10_isOne 23 = .ok (.iaload, 1) := by decide +kernel
theorem dX10_isOne_24 : decode cX10_isOne 24 = .ok (.if_icmp .ne 7, 3) := by decide +kernel
theorem dX10_isOne_27 : decode cX10_isOne 27 = .ok (.iconst 1, 1) := by decide +kernel
theorem dX10_isOne_28 : decode cX10_isOne 28 = .ok (.goto 4, 3) := by decide +kernel
theorem dX10_isOne_31 : decode cX10_isOne 31 = .ok (.iconst 0, 1) := by decide +kernel
theorem dX10_isOne_32 : decode cX10_isOne 32 = .ok (.ireturn, 1) := by decide +kernel
theorem dX10_sets_0 : decode cX10_sets 0 = .ok (.aload_n 0, 1) := by decide +kernel
theorem dX10_sets_1 : decode cX10_sets 1 = .ok (.iconst 0, 1) := by decide +kernel
theorem dX10_sets_2 : decode cX10_sets 2 = .ok (.putfield 157, 3) := by decide +kernel
theorem dX10_sets_5 : decode cX10_sets 5 = .ok (.aload_n 0, 1) := by decide +kernel
theorem dX10_sets_6 : decode cX10_sets 6 = .ok (.iload_n 1, 1) := by decide +kernel
theorem dX10_sets_7 : decode cX10_sets 7 = .ok (.invokevirtual 201, 3) := by decide +kernel
theorem dX10_sets_10 : decode cX10_sets 10 = .ok (.ifCond .eq 15, 3) := by decide +kernel
theorem dX10_sets_13 : decode cX10_sets 13 = .ok (.iload_n 2, 1) := by decide +kernel
theorem dX10_sets_14 : decode cX10_sets 14 = .ok (.i2l, 1) := by decide +kernel
theorem dX10_sets_15 : decode cX10_sets 15 = .ok (.lconst 0, 1) := by decide +kernel
theorem dX10_sets_16 : decode cX10_sets 16 = .ok (.ldc2_w 186, 3) := by decide +kernel
theorem dX10_sets_19 : decode cX10_sets 19 = .ok (.invokestatic 177, 3) := by decide +kernel
theorem dX10_sets_22 : decode cX10_sets 22 = .ok (.ifCond .ne 5, 3) := by decide +kernel
theorem dX10_sets_25 : decode cX10_sets 25 = .ok (.iconst (-1), 1) := by decide +kernel
theorem dX10_sets_26 : decode cX10_sets 26 = .ok (.ireturn, 1) := by decide +kernel
theorem dX10_sets_27 : decode cX10_sets 27 = .ok (.aload_n 0, 1) := by decide +kernel
theorem dX10_sets_28 : decode cX10_sets 28 = .ok (.iload_n 2, 1) := by decide +kernel
theorem dX10_sets_29 : decode cX10_sets 29 = .ok (.invokevirtual 491, 3) := by decide +kernel
theorem dX10_sets_32 : decode cX10_sets 32 = .ok (.iconst 0, 1) := by decide +kernel
theorem dX10_sets_33 : decode cX10_sets 33 = .ok (.istore 4, 2) := by decide +kernel
theorem dX10_sets_35 : decode cX10_sets 35 = .ok (.iconst (-1), 1) := by decide +kernel
theorem dX10_sets_36 : decode cX10_sets 36 = .ok (.istore 5, 2) := by decide +kernel
theorem dX10_sets_38 : decode cX10_sets 38 = .ok (.iconst 0, 1) := by decide +kernel
theorem dX10_sets_39 : decode cX10_sets 39 = .ok (.istore 6, 2) := by decide +kernel
theorem dX10_sets_41 : decode cX10_sets 41 = .ok (.iload 6, 2) := by decide +kernel
theorem dX10_sets_43 : decode cX10_sets 43 = .ok (.iconst 1, 1) := by decide +kernel
theorem dX10_sets_44 : decode cX10_sets 44 = .ok (.aload_n 0, 1) := by decide +kernel
theorem dX10_sets_45 : decode cX10_sets 45 = .ok (.getfield 13, 3) := by decide +kernel
theorem dX10_sets_48 : decode cX10_sets 48 = .ok (.iconst 0, 1) := by decide +kernel
theorem dX10_sets_49 : decode cX10_sets 49 = .ok (.iaload, 1) := by decide +kernel
theorem dX10_sets_50 : decode cX10_sets 50 = .ok (.ishl, 1) := by decide +kernel
theorem dX10_sets_51 : decode cX10_sets 51 = .ok (.if_icmp .ge 37, 3) := by decide +kernel
theorem dX10_sets_54 : decode cX10_sets 54 = .ok (.aload_n 0, 1) := by decide +kernel
theorem dX10_sets_55 : decode cX10_sets 55 = .ok (.iload 6, 2) := by decide +kernel
theorem dX10_sets_57 : decode cX10_sets 57 = .ok (.iload_n 1, 1) := by decide +kernel
theorem dX10_sets_58 : decode cX10_sets 58 = .ok (.invokevirtual 494, 3) := by decide +kernel
theorem dX10_sets_61 : decode cX10_sets 61 = .ok (.ifCond .eq 21, 3) := by decide +kernel
theorem dX10_sets_64 : decode cX10_sets 64 = .ok (.iload 4, 2) := by decide +kernel
theorem dX10_sets_66 : decode cX10_sets 66 = .ok (.iload_n 3, 1) := by decide +kernel
theorem dX10_sets_67 : decode cX10_sets 67 = .ok (.if_icmp .ne 8, 3) := by decide +kernel
theorem dX10_sets_70 : decode cX10_sets 70 = .ok (.iload 6, 2) := by decide +kernel
theorem dX10_sets_72 : decode cX10_sets 72 = .ok (.goto 5, 3) := by decide +kernel
theorem dX10_sets_75 : decode cX10_sets 75 = .ok (.iload 5, 2) := by decide +kernel
theorem dX10_sets_77 : decode cX10_sets 77 = .ok (.istore 5, 2) := by decide +kernel
theorem dX10_sets_79 : decode cX10_sets 79 = .ok (.iinc 4 1, 3) := by decide +kernel
theorem dX10_sets_82 : decode cX10_sets 82 = .ok (.iinc 6 1, 3) := by decide +kernel
theorem dX10_sets_85 : decode cX10_sets 85 = .ok (.goto (-44), 3) := by decide +kernel
theorem dX10_sets_88 : decode cX10_sets 88 = .ok (.iload_n 3, 1) := by decide +kernel
theorem dX10_sets_89 : decode cX10_sets 89 = .ok (.iconst (-1), 1) := by decide +kernel
theorem dX10_sets_90 : decode cX10_sets 90 = .ok (.if_icmp .ne 8, 3) := by decide +kernel
theorem dX10_sets_93 : decode cX10_sets 93 = .ok (.iload 4, 2) := by decide +kernel
theorem dX10_sets_95 : decode cX10_sets 95 = .ok (.goto 5, 3) := by decide +kernel
theorem dX10_sets_98 : decode cX10_sets 98 = .ok (.iload 5, 2) := by decide +kernel
theorem dX10_sets_100 : decode cX10_sets 100 = .ok (.ireturn, 1) := by decide +kernel
theorem dX10_ask_0 : decode cX10_ask 0 = .ok (.aload_n 0, 1) := by decide +kernel
theorem dX10_ask_1 : decode cX10_ask 1 = .ok (.iconst 0, 1) := by decide +kernel
theorem dX10_ask_2 : decode cX10_ask 2 = .ok (.putfield 157, 3) := by decide +kernel
theorem dX10_ask_5 : decode cX10_ask 5 = .ok (.aload_n 0, 1) := by decide +kernel
theorem dX10_ask_6 : decode cX10_ask 6 = .ok (.iload_n 1, 1) := by decide +kernel
theorem dX10_ask_7 : decode cX10_ask 7 = .ok (.invokevirtual 201, 3) := by decide +kernel
theorem dX10_ask_10 : decode cX10_ask 10 = .ok (.ifCond .eq 25, 3) := by decide +kernel
theorem dX10_ask_13 : decode cX10_ask 13 = .ok (.iload_n 2, 1) := by decide +kernel
theorem dX10_ask_14 : decode cX10_ask 14 = .ok (.i2l, 1) := by decide +kernel
theorem dX10_ask_15 : decode cX10_ask 15 = .ok (.lconst 0, 1) := by decide +kernel
theorem dX10_ask_16 : decode cX10_ask 16 = .ok (.ldc2_w 186, 3) := by decide +kernel
theorem dX10_ask_19 : decode cX10_ask 19 = .ok (.invokestatic 177, 3) := by decide +kernel
theorem dX10_ask_22 : decode cX10_ask 22 = .ok (.ifCond .eq 13, 3) := by decide +kernel
theorem dX10_ask_25 : decode cX10_ask 25 = .ok (.iload_n 3, 1) := by decide +kernel
theorem dX10_ask_26 : decode cX10_ask 26 = .ok (.i2l, 1) := by decide +kernel
theorem dX10_ask_27 : decode cX10_ask 27 = .ok (.lconst 0, 1) := by decide +kernel
theorem dX10_ask_28 : decode cX10_ask 28 = .ok (.lconst 1, 1) := by decide +kernel
theorem dX10_ask_29 : decode cX10_ask 29 = .ok (.invokestatic 177, 3) := by decide +kernel
theorem dX10_ask_32 : decode cX10_ask 32 = .ok (.ifCond .ne 5, 3) := by decide +kernel
theorem dX10_ask_35 : decode cX10_ask 35 = .ok (.iconst (-1), 1) := by decide +kernel
theorem dX10_ask_36 : decode cX10_ask 36 = .ok (.ireturn, 1) := by decide +kernel
theorem dX10_ask_37 : decode cX10_ask 37 = .ok (.aload_n 0, 1) := by decide +kernel
theorem dX10_ask_38 : decode cX10_ask 38 = .ok (.iload_n 2, 1) := by decide +kernel
theorem dX10_ask_39 : decode cX10_ask 39 = .ok (.invokevirtual 491, 3) := by decide +kernel
theorem dX10_ask_42 : decode cX10_ask 42 = .ok (.ldc_w 478, 3) := by decide +kernel
theorem dX10_ask_45 : decode cX10_ask 45 = .ok (.istore 4, 2) := by decide +kernel
theorem dX10_ask_47 : decode cX10_ask 47 = .ok (.iconst (-1), 1) := by decide +kernel
theorem dX10_ask_48 : decode cX10_ask 48 = .ok (.istore 5, 2) := by decide +kernel
theorem dX10_ask_50 : decode cX10_ask 50 = .ok (.iconst 0, 1) := by decide +kernel
theorem dX10_ask_51 : decode cX10_ask 51 = .ok (.istore 6, 2) := by decide +kernel
theorem dX10_ask_53 : decode cX10_ask 53 = .ok (.iload 6, 2) := by decide +kernel
theorem dX10_ask_55 : decode cX10_ask 55 = .ok (.aload_n 0, 1) := by decide +kernel
theorem dX10_ask_56 : decode cX10_ask 56 = .ok (.getfield 13, 3) := by decide +kernel
theorem dX10_ask_59 : decode cX10_ask 59 = .ok (.iconst 0, 1) := by decide +kernel
theorem dX10_ask_60 : decode cX10_ask 60 = .ok (.iaload, 1) := by decide +kernel
theorem dX10_ask_61 : decode cX10_ask 61 = .ok (.if_icmp .ge 155, 3) := by decide +kernel
theorem dX10_ask_64 : decode cX10_ask 64 = .ok (.iconst 0, 1) := by decide +kernel
theorem dX10_ask_65 : decode cX10_ask 65 = .ok (.istore 7, 2) := by decide +kernel
theorem dX10_ask_67 : decode cX10_ask 67 = .ok (.iconst 0, 1) := by decide +kernel
theorem dX10_ask_68 : decode cX10_ask 68 = .ok (.istore 8, 2) := by decide +kernel
theorem dX10_ask_70 : decode cX10_ask 70 = .ok (.iconst 0, 1) := by decide +kernel
theorem dX10_ask_71 : decode cX10_ask 71 = .ok (.istore 9, 2) := by decide +kernel
theorem dX10_ask_73 : decode cX10_ask 73 = .ok (.iload 9, 2) := by decide +kernel
theorem dX10_ask_75 : decode cX10_ask 75 = .ok (.iconst 1, 1) := by decide +kernel
theorem dX10_ask_76 : decode cX10_ask 76 = .ok (.aload_n 0, 1) := by decide +kernel
theorem dX10_ask_77 : decode cX10_ask 77 = .ok (.getfield 13, 3) := by decide +kernel
theorem dX10_ask_80 : decode cX10_ask 80 = .ok (.iconst 0, 1) := by decide +kernel
theorem dX10_ask_81 : decode cX10_ask 81 = .ok (.iaload, 1) := by decide +kernel
theorem dX10_ask_82 : decode cX10_ask 82 = .ok (.ishl, 1) := by decide +kernel
theorem dX10_ask_83 : decode cX10_ask 83 = .ok (.if_icmp .ge 69, 3) := by decide +kernel
theorem dX10_ask_86 : decode cX10_ask 86 = .ok (.iload 7, 2) := by decide +kernel
theorem dX10_ask_88 : decode cX10_ask 88 = .ok (.aload_n 0, 1) := by decide +kernel
theorem dX10_ask_89 : decode cX10_ask 89 = .ok (.iload 9, 2) := by decide +kernel
theorem dX10_ask_91 : decode cX10_ask 91 = .ok (.iload_n 1, 1) := by decide +kernel
theorem dX10_ask_92 : decode cX10_ask 92 = .ok (.invokevirtual 494, 3) := by decide +kernel
theorem dX10_ask_95 : decode cX10_ask 95 = .ok (.ifCond .eq 17, 3) := by decide +kernel
theorem dX10_ask_98 : decode cX10_ask 98 = .ok (.iload 9, 2) := by decide +kernel
theorem dX10_ask_100 : decode cX10_ask 100 = .ok (.iload 6, 2) := by decide +kernel
theorem dX10_ask_102 : decode cX10_ask 102 = .ok (.invokestatic 485, 3) := by decide +kernel
theorem dX10_ask_105 : decode cX10_ask 105 = .ok (.ifCond .eq 7, 3) := by decide +kernel
theorem dX10_ask_108 : decode cX10_ask 108 = .ok (.iconst 1, 1) := by decide +kernel
theorem dX10_ask_109 : decode cX10_ask 109 = .ok (.goto 4, 3) := by decide +kernel
theorem dX10_ask_112 : decode cX10_ask 112 = .ok (.iconst 0, 1) := by decide +kernel
theorem dX10_ask_113 : decode cX10_ask 113 = .ok (.iadd, 1) := by decide +kernel
theorem dX10_ask_114 : decode cX10_ask 114 = .ok (.istore 7, 2) := by decide +kernel
theorem dX10_ask_116 : decode cX10_ask 116 = .ok (.iload 8, 2) := by decide +kernel
theorem dX10_ask_118 : decode cX10_ask 118 = .ok (.aload_n 0, 1) := by decide +kernel
theorem dX10_ask_119 : decode cX10_ask 119 = .ok (.iload 9, 2) := by decide +kernel
theorem dX10_ask_121 : decode cX10_ask 121 = .ok (.iload_n 1, 1) := by decide +kernel
theorem dX10_ask_122 : decode cX10_ask 122 = .ok (.invokevirtual 494, 3) := by decide +kernel
theorem dX10_ask_125 : decode cX10_ask 125 = .ok (.ifCond .eq 17, 3) := by decide +kernel
theorem dX10_ask_128 : decode cX10_ask 128 = .ok (.iload 9, 2) := by decide +kernel
theorem dX10_ask_130 : decode cX10_ask 130 = .ok (.iload 6, 2) := by decide +kernel
theorem dX10_ask_132 : decode cX10_ask 132 = .ok (.invokestatic 485, 3) := by decide +kernel
theorem dX10_ask_135 : decode cX10_ask 135 = .ok (.ifCond .ne 7, 3) := by decide +kernel
theorem dX10_ask_138 : decode cX10_ask 138 = .ok (.iconst 1, 1) := by decide +kernel
theorem dX10_ask_139 : decode cX10_ask 139 = .ok (.goto 4, 3) := by decide +kernel
theorem dX10_ask_142 : decode cX10_ask 142 = .ok (.iconst 0, 1) := by decide +kernel
theorem dX10_ask_143 : decode cX10_ask 143 = .ok (.iadd, 1) := by decide +kernel
theorem dX10_ask_144 : decode cX10_ask 144 = .ok (.istore 8, 2) := by decide +kernel
theorem dX10_ask_146 : decode cX10_ask 146 = .ok (.iinc 9 1, 3) := by decide +kernel
theorem dX10_ask_149 : decode cX10_ask 149 = .ok (.goto (-76), 3) := by decide +kernel
theorem dX10_ask_152 : decode cX10_ask 152 = .ok (.iload 7, 2) := by decide +kernel
theorem dX10_ask_154 : decode cX10_ask 154 = .ok (.iload 8, 2) := by decide +kernel
theorem dX10_ask_156 : decode cX10_ask 156 = .ok (.if_icmp .le 8, 3) := by decide +kernel
theorem dX10_ask_159 : decode cX10_ask 159 = .ok (.iload 7, 2) := by decide +kernel
theorem dX10_ask_161 : decode cX10_ask 161 = .ok (.goto 5, 3) := by decide +kernel
theorem dX10_ask_164 : decode cX10_ask 164 = .ok (.iload 8, 2) := by decide +kernel
theorem dX10_ask_166 : decode cX10_ask 166 = .ok (.istore 9, 2) := by decide +kernel
theorem dX10_ask_168 : decode cX10_ask 168 = .ok (.iload 9, 2) := by decide +kernel
theorem dX10_ask_170 : decode cX10_ask 170 = .ok (.ifCond .le 15, 3) := by decide +kernel
theorem dX10_ask_173 : decode cX10_ask 173 = .ok (.iload 9, 2) := by decide +kernel
theorem dX10_ask_175 : decode cX10_ask 175 = .ok (.iload 4, 2) := by decide +kernel
theorem dX10_ask_177 : decode cX10_ask 177 = .ok (.if_icmp .ge 8, 3) := by decide +kernel
theorem dX10_ask_180 : decode cX10_ask 180 = .ok (.iload 6, 2) := by decide +kernel
theorem dX10_ask_182 : decode cX10_ask 182 = .ok (.goto 5, 3) := by decide +kernel
theorem dX10_ask_185 : decode cX10_ask 185 = .ok (.iload 5, 2) := by decide +kernel
theorem dX10_ask_187 : decode cX10_ask 187 = .ok (.istore 5, 2) := by decide +kernel
theorem dX10_ask_189 : decode cX10_ask 189 = .ok (.iload 9, 2) := by decide +kernel
theorem dX10_ask_191 : decode cX10_ask 191 = .ok (.ifCond .le 15, 3) := by decide +kernel
theorem dX10_ask_194 : decode cX10_ask 194 = .ok (.iload 9, 2) := by decide +kernel
theorem dX10_ask_196 : decode cX10_ask 196 = .ok (.iload 4, 2) := by decide +kernel
theorem dX10_ask_198 : decode cX10_ask 198 = .ok (.if_icmp .ge 8, 3) := by decide +kernel
theorem dX10_ask_201 : decode cX10_ask 201 = .ok (.iload 9, 2) := by decide +kernel
theorem dX10_ask_203 : decode cX10_ask 203 = .ok (.goto 5, 3) := by decide +kernel
theorem dX10_ask_206 : decode cX10_ask 206 = .ok (.iload 4, 2) := by decide +kernel
theorem dX10_ask_208 : decode cX10_ask 208 = .ok (.istore 4, 2) := by decide +kernel
theorem dX10_ask_210 : decode cX10_ask 210 = .ok (.iinc 6 1, 3) := by decide +kernel
theorem dX10_ask_213 : decode cX10_ask 213 = .ok (.goto (-160), 3) := by decide +kernel
theorem dX10_ask_216 : decode cX10_ask 216 = .ok (.iload 5, 2) := by decide +kernel
theorem dX10_ask_218 : decode cX10_ask 218 = .ok (.iconst (-1), 1) := by decide +kernel
theorem dX10_ask_219 : decode cX10_ask 219 = .ok (.if_icmp .eq 7, 3) := by decide +kernel
theorem dX10_ask_222 : decode cX10_ask 222 = .ok (.iload_n 3, 1) := by decide +kernel
theorem dX10_ask_223 : decode cX10_ask 223 = .ok (.ifCond .ne 8, 3) := by decide +kernel
theorem dX10_ask_226 : decode cX10_ask 226 = .ok (.iload 5, 2) := by decide +kernel
theorem dX10_ask_228 : decode cX10_ask 228 = .ok (.goto 5, 3) := by decide +kernel
theorem dX10_ask_231 : decode cX10_ask 231 = .ok (.iload 4, 2) := by decide +kernel
theorem dX10_ask_233 : decode cX10_ask 233 = .ok (.ireturn, 1) := by decide +kernel
theorem dX10_last_0 : decode cX10_last 0 = .ok (.aload_n 0, 1) := by decide +kernel
theorem dX10_last_1 : decode cX10_last 1 = .ok (.iconst 0, 1) := by decide +kernel
theorem dX10_last_2 : decode cX10_last 2 = .ok (.putfield 157, 3) := by decide +kernel
theorem dX10_last_5 : decode cX10_last 5 = .ok (.aload_n 0, 1) := by decide +kernel
theorem dX10_last_6 : decode cX10_last 6 = .ok (.iload_n 1, 1) := by decide +kernel
theorem dX10_last_7 : decode cX10_last 7 = .ok (.invokevirtual 201, 3) := by decide +kernel
theorem dX10_last_10 : decode cX10_last 10 = .ok (.ifCond .eq 15, 3) := by decide +kernel
theorem dX10_last_13 : decode cX10_last 13 = .ok (.iload_n 2, 1) := by decide +kernel
theorem dX10_last_14 : decode cX10_last 14 = .ok (.i2l, 1) := by decide +kernel
theorem dX10_last_15 : decode cX10_last 15 = .ok (.lconst 0, 1) := by decide +kernel
theorem dX10_last_16 : decode cX10_last 16 = .ok (.ldc2_w 186, 3) := by decide +kernel
theorem dX10_last_19 : decode cX10_last 19 = .ok (.invokestatic 177, 3) := by decide +kernel
theorem dX10_last_22 : decode cX10_last 22 = .ok (.ifCond .ne 5, 3) := by decide +kernel
theorem dX10_last_25 : decode cX10_last 25 = .ok (.iconst (-1), 1) := by decide +kernel
theorem dX10_last_26 : decode cX10_last 26 = .ok (.ireturn, 1) := by decide +kernel
theorem dX10_last_27 : decode cX10_last 27 = .ok (.aload_n 0, 1) := by decide +kernel
theorem dX10_last_28 : decode cX10_last 28 = .ok (.iload_n 2, 1) := by decide +kernel
theorem dX10_last_29 : decode cX10_last 29 = .ok (.invokevirtual 491, 3) := by decide +kernel
theorem dX10_last_32 : decode cX10_last 32 = .ok (.iconst 0, 1) := by decide +kernel
theorem dX10_last_33 : decode cX10_last 33 = .ok (.istore_n 3, 1) := by decide +kernel
theorem dX10_last_34 : decode cX10_last 34 = .ok (.iconst 0, 1) := by decide +kernel
theorem dX10_last_35 : decode cX10_last 35 = .ok (.istore 4, 2) := by decide +kernel
theorem dX10_last_37 : decode cX10_last 37 = .ok (.iload 4, 2) := by decide +kernel
theorem dX10_last_39 : decode cX10_last 39 = .ok (.iconst 1, 1) := by decide +kernel
theorem dX10_last_40 : decode cX10_last 40 = .ok (.aload_n 0, 1) := by decide +kernel
theorem dX10_last_41 : decode cX10_last 41 = .ok (.getfield 13, 3) := by decide +kernel
theorem dX10_last_44 : decode cX10_last 44 = .ok (.iconst 0, 1) := by decide +kernel
theorem dX10_last_45 : decode cX10_last 45 = .ok (.iaload, 1) := by decide +kernel
theorem dX10_last_46 : decode cX10_last 46 = .ok (.ishl, 1) := by decide +kernel
theorem dX10_last_47 : decode cX10_last 47 = .ok (.if_icmp .ge 71, 3) := by decide +kernel
theorem dX10_last_50 : decode cX10_last 50 = .ok (.iconst 0, 1) := by decide +kernel
theorem dX10_last_51 : decode cX10_last 51 = .ok (.istore 5, 2) := by decide +kernel
theorem dX10_last_53 : decode cX10_last 53 = .ok (.iload 5, 2) := by decide +kernel
theorem dX10_last_55 : decode cX10_last 55 = .ok (.aload_n 0, 1) := by decide +kernel
theorem dX10_last_56 : decode cX10_last 56 = .ok (.getfield 13, 3) := by decide +kernel
theorem dX10_last_59 : decode cX10_last 59 = .ok (.iconst 0, 1) := by decide +kernel
theorem dX10_last_60 : decode cX10_last 60 = .ok (.iaload, 1) := by decide +kernel
theorem dX10_last_61 : decode cX10_last 61 = .ok (.if_icmp .ge 51, 3) := by decide +kernel
theorem dX10_last_64 : decode cX10_last 64 = .ok (.iload_n 3, 1) := by decide +kernel
theorem dX10_last_65 : decode cX10_last 65 = .ok (.iload 4, 2) := by decide +kernel
theorem dX10_last_67 : decode cX10_last 67 = .ok (.iload 5, 2) := by decide +kernel
theorem dX10_last_69 : decode cX10_last 69 = .ok (.invokestatic 485, 3) := by decide +kernel
theorem dX10_last_72 : decode cX10_last 72 = .ok (.ifCond .eq 31, 3) := by decide +kernel
theorem dX10_last_75 : decode cX10_last 75 = .ok (.aload_n 0, 1) := by decide +kernel
theorem dX10_last_76 : decode cX10_last 76 = .ok (.iload 4, 2) := by decide +kernel
theorem dX10_last_78 : decode cX10_last 78 = .ok (.iload_n 1, 1) := by decide +kernel
theorem dX10_last_79 : decode cX10_last 79 = .ok (.invokevirtual 494, 3) := by decide +kernel
theorem dX10_last_82 : decode cX10_last 82 = .ok (.ifCond .eq 21, 3) := by decide +kernel
theorem dX10_last_85 : decode cX10_last 85 = .ok (.aload_n 0, 1) := by decide +kernel
theorem dX10_last_86 : decode cX10_last 86 = .ok (.iload 4, 2) := by decide +kernel
theorem dX10_last_88 : decode cX10_last 88 = .ok (.iload 5, 2) := by decide +kernel
theorem dX10_last_90 : decode cX10_last 90 = .ok (.invokevirtual 488, 3) := by decide +kernel
theorem dX10_last_93 : decode cX10_last 93 = .ok (.ifCond .eq 10, 3) := by decide +kernel
theorem dX10_last_96 : decode cX10_last 96 = .ok (.iconst 1, 1) := by decide +kernel
theorem dX10_last_97 : decode cX10_last 97 = .ok (.iload 5, 2) := by decide +kernel
theorem dX10_last_99 : decode cX10_last 99 = .ok (.ishl, 1) := by decide +kernel
theorem dX10_last_100 : decode cX10_last 100 = .ok (.goto 4, 3) := by decide +kernel
theorem dX10_last_103 : decode cX10_last 103 = .ok (.iconst 0, 1) := by decide +kernel
theorem dX10_last_104 : decode cX10_last 104 = .ok (.ior, 1) := by decide +kernel
theorem dX10_last_105 : decode cX10_last 105 = .ok (.istore_n 3, 1) := by decide +kernel
theorem dX10_last_106 : decode cX10_last 106 = .ok (.iinc 5 1, 3) := by decide +kernel
theorem dX10_last_109 : decode cX10_last 109 = .ok (.goto (-56), 3) := by decide +kernel
theorem dX10_last_112 : decode cX10_last 112 = .ok (.iinc 4 1, 3) := by decide +kernel
theorem dX10_last_115 : decode cX10_last 115 = .ok (.goto (-78), 3) := by decide +kernel
theorem dX10_last_118 : decode cX10_last 118 = .ok (.iload_n 3, 1) := by decide +kernel
theorem dX10_last_119 : decode cX10_last 119 = .ok (.ireturn, 1) := by decide +kernel
theorem dX10_isInside_0 : decode cX10_isInside 0 = .ok (.aload_n 0, 1) := by decide +kernel
theorem dX10_isInside_1 : decode cX10_isInside 1 = .ok (.getfield 13, 3) := by decide +kernel
theorem dX10_isInside_4 : decode cX10_isInside 4 = .ok (.bipush 79, 2) := by decide +kernel
theorem dX10_isInside_6 : decode cX10_isInside 6 = .ok (.iload_n 1, 1) := by decide +kernel
theorem dX10_isInside_7 : decode cX10_isInside 7 = .ok (.iadd, 1) := by decide +kernel
theorem dX10_isInside_8 : decode cX10_isInside 8 = .ok (.iaload, 1) := by decide +kernel
theorem dX10_isInside_9 : decode cX10_isInside 9 = .ok (.aload_n 0, 1) := by decide +kernel
theorem dX10_isInside_10 : decode cX10_isInside 10 = .ok (.getfield 13, 3) := by decide +kernel
theorem dX10_isInside_13 : decode cX10_isInside 13 = .ok (.bipush 79, 2) := by decide +kernel
theorem dX10_isInside_15 : decode cX10_isInside 15 = .ok (.iload_n 2, 1) := by decide +kernel
theorem dX10_isInside_16 : decode cX10_isInside 16 = .ok (.iadd, 1) := by decide +kernel
theorem dX10_isInside_17 : decode cX10_isInside 17 = .ok (.iaload, 1) := by decide +kernel
theorem dX10_isInside_18 : decode cX10_isInside 18 = .ok (.if_icmp .eq 31, 3) := by decide +kernel
theorem dX10_isInside_21 : decode cX10_isInside 21 = .ok (.aload_n 0, 1) := by decide +kernel
theorem dX10_isInside_22 : decode cX10_isInside 22 = .ok (.getfield 13, 3) := by decide +kernel
theorem dX10_isInside_25 : decode cX10_isInside 25 = .ok (.bipush 79, 2) := by decide +kernel
theorem dX10_isInside_27 : decode cX10_isInside 27 = .ok (.iload_n 1, 1) := by decide +kernel
theorem dX10_isInside_28 : decode cX10_isInside 28 = .ok (.iadd, 1) := by decide +kernel
theorem dX10_isInside_29 : decode cX10_isInside 29 = .ok (.iaload, 1) := by decide +kernel
theorem dX10_isInside_30 : decode cX10_isInside 30 = .ok (.aload_n 0, 1) := by decide +kernel
theorem dX10_isInside_31 : decode cX10_isInside 31 = .ok (.getfield 13, 3) := by decide +kernel
theorem dX10_isInside_34 : decode cX10_isInside 34 = .ok (.bipush 79, 2) := by decide +kernel
theorem dX10_isInside_36 : decode cX10_isInside 36 = .ok (.iload_n 2, 1) := by decide +kernel
theorem dX10_isInside_37 : decode cX10_isInside 37 = .ok (.iadd, 1) := by decide +kernel
theorem dX10_isInside_38 : decode cX10_isInside 38 = .ok (.iaload, 1) := by decide +kernel
theorem dX10_isInside_39 : decode cX10_isInside 39 = .ok (.invokestatic 417, 3) := by decide +kernel
theorem dX10_isInside_42 : decode cX10_isInside 42 = .ok (.ifCond .eq 7, 3) := by decide +kernel
theorem dX10_isInside_45 : decode cX10_isInside 45 = .ok (.iconst 1, 1) := by decide +kernel
theorem dX10_isInside_46 : decode cX10_isInside 46 = .ok (.goto 4, 3) := by decide +kernel
theorem dX10_isInside_49 : decode cX10_isInside 49 = .ok (.iconst 0, 1) := by decide +kernel
theorem dX10_isInside_50 : decode cX10_isInside 50 = .ok (.ireturn, 1) := by decide +kernel
theorem dX10_layNests_0 : decode cX10_layNests 0 = .ok (.aload_n 0, 1) := by decide +kernel
theorem dX10_layNests_1 : decode cX10_layNests 1 = .ok (.getfield 13, 3) := by decide +kernel
theorem dX10_layNests_4 : decode cX10_layNests 4 = .ok (.iconst 0, 1) := by decide +kernel
theorem dX10_layNests_5 : decode cX10_layNests 5 = .ok (.iaload, 1) := by decide +kernel
theorem dX10_layNests_6 : decode cX10_layNests 6 = .ok (.istore_n 1, 1) := by decide +kernel
theorem dX10_layNests_7 : decode cX10_layNests 7 = .ok (.iconst 0, 1) := by decide +kernel
theorem dX10_layNests_8 : decode cX10_layNests 8 = .ok (.istore_n 2, 1) := by decide +kernel
theorem dX10_layNests_9 : decode cX10_layNests 9 = .ok (.iload_n 2, 1) := by decide +kernel
theorem dX10_layNests_10 : decode cX10_layNests 10 = .ok (.iload_n 1, 1) := by decide +kernel
theorem dX10_layNests_11 : decode cX10_layNests 11 = .ok (.if_icmp .ge 16, 3) := by decide +kernel
theorem dX10_layNests_14 : decode cX10_layNests 14 = .ok (.aload_n 0, 1) := by decide +kernel
theorem dX10_layNests_15 : decode cX10_layNests 15 = .ok (.getfield 125, 3) := by decide +kernel
theorem dX10_layNests_18 : decode cX10_layNests 18 = .ok (.iload_n 2, 1) := by decide +kernel
theorem dX10_layNests_19 : decode cX10_layNests 19 = .ok (.iconst 1, 1) := by decide +kernel
theorem dX10_layNests_20 : decode cX10_layNests 20 = .ok (.iastore, 1) := by decide +kernel
theorem dX10_layNests_21 : decode cX10_layNests 21 = .ok (.iinc 2 1, 3) := by decide +kernel
theorem dX10_layNests_24 : decode cX10_layNests 24 = .ok (.goto (-15), 3) := by decide +kernel
theorem dX10_layNests_27 : decode cX10_layNests 27 = .ok (.iconst 0, 1) := by decide +kernel
theorem dX10_layNests_28 : decode cX10_layNests 28 = .ok (.istore_n 2, 1) := by decide +kernel
theorem dX10_layNests_29 : decode cX10_layNests 29 = .ok (.iload_n 2, 1) := by decide +kernel
theorem dX10_layNests_30 : decode cX10_layNests 30 = .ok (.iload_n 1, 1) := by decide +kernel
theorem dX10_layNests_31 : decode cX10_layNests 31 = .ok (.if_icmp .ge 89, 3) := by decide +kernel
theorem dX10_layNests_34 : decode cX10_layNests 34 = .ok (.iconst 0, 1) := by decide +kernel
theorem dX10_layNests_35 : decode cX10_layNests 35 = .ok (.istore_n 3, 1) := by decide +kernel
theorem dX10_layNests_36 : decode cX10_layNests 36 = .ok (.iload_n 3, 1) := by decide +kernel
theorem dX10_layNests_37 : decode cX10_layNests 37 = .ok (.iload_n 1, 1) := by decide +kernel
theorem dX10_layNests_38 : decode cX10_layNests 38 = .ok (.if_icmp .ge 76, 3) := by decide +kernel
theorem dX10_layNests_41 : decode cX10_layNests 41 = .ok (.iconst 0, 1) := by decide +kernel
theorem dX10_layNests_42 : decode cX10_layNests 42 = .ok (.istore 4, 2) := by decide +kernel
theorem dX10_layNests_44 : decode cX10_layNests 44 = .ok (.iload 4, 2) := by decide +kernel
theorem dX10_layNests_46 : decode cX10_layNests 46 = .ok (.iload_n 1, 1) := by decide +kernel
theorem dX10_layNests_47 : decode cX10_layNests 47 = .ok (.if_icmp .ge 61, 3) := by decide +kernel
theorem dX10_layNests_50 : decode cX10_layNests 50 = .ok (.aload_n 0, 1) := by decide +kernel
theorem dX10_layNests_51 : decode cX10_layNests 51 = .ok (.getfield 125, 3) := by decide +kernel
theorem dX10_layNests_54 : decode cX10_layNests 54 = .ok (.iload_n 3, 1) := by decide +kernel
theorem dX10_layNests_55 : decode cX10_layNests 55 = .ok (.aload_n 0, 1) := by decide +kernel
theorem dX10_layNests_56 : decode cX10_layNests 56 = .ok (.iload_n 3, 1) := by decide +kernel
theorem dX10_layNests_57 : decode cX10_layNests 57 = .ok (.iload 4, 2) := by decide +kernel
theorem dX10_layNests_59 : decode cX10_layNests 59 = .ok (.invokevirtual 497, 3) := by decide +kernel
theorem dX10_layNests_62 : decode cX10_layNests 62 = .ok (.ifCond .eq 33, 3) := by decide +kernel
theorem dX10_layNests_65 : decode cX10_layNests 65 = .ok (.aload_n 0, 1) := by decide +kernel
theorem dX10_layNests_66 : decode cX10_layNests 66 = .ok (.getfield 125, 3) := by decide +kernel
theorem dX10_layNests_69 : decode cX10_layNests 69 = .ok (.iload 4, 2) := by decide +kernel
theorem dX10_layNests_71 : decode cX10_layNests 71 = .ok (.iaload, 1) := by decide +kernel
theorem dX10_layNests_72 : decode cX10_layNests 72 = .ok (.iconst 1, 1) := by decide +kernel
theorem dX10_layNests_73 : decode cX10_layNests 73 = .ok (.iadd, 1) := by decide +kernel
theorem dX10_layNests_74 : decode cX10_layNests 74 = .ok (.aload_n 0, 1) := by decide +kernel
theorem dX10_layNests_75 : decode cX10_layNests 75 = .ok (.getfield 125, 3) := by decide +kernel
theorem dX10_layNests_78 : decode cX10_layNests 78 = .ok (.iload_n 3, 1) := by decide +kernel
theorem dX10_layNests_79 : decode cX10_layNests 79 = .ok (.iaload, 1) := by decide +kernel
theorem dX10_layNests_80 : decode cX10_layNests 80 = .ok (.if_icmp .le 15, 3) := by decide +kernel
theorem dX10_layNests_83 : decode cX10_layNests 83 = .ok (.aload_n 0, 1) := by decide +kernel
theorem dX10_layNests_84 : decode cX10_layNests 84 = .ok (.getfield 125, 3) := by decide +kernel
theorem dX10_layNests_87 : decode cX10_layNests 87 = .ok (.iload 4, 2) := by decide +kernel
theorem dX10_layNests_89 : decode cX10_layNests 89 = .ok (.iaload, 1) := by decide +kernel
theorem dX10_layNests_90 : decode cX10_layNests 90 = .ok (.iconst 1, 1) := by decide +kernel
theorem dX10_layNests_91 : decode cX10_layNests 91 = .ok (.iadd, 1) := by decide +kernel
theorem dX10_layNests_92 : decode cX10_layNests 92 = .ok (.goto 9, 3) := by decide +kernel
theorem dX10_layNests_95 : decode cX10_layNests 95 = .ok (.aload_n 0, 1) := by decide +kernel
theorem dX10_layNests_96 : decode cX10_layNests 96 = .ok (.getfield 125, 3) := by decide +kernel
theorem dX10_layNests_99 : decode cX10_layNests 99 = .ok (.iload_n 3, 1) := by decide +kernel
theorem dX10_layNests_100 : decode cX10_layNests 100 = .ok (.iaload, 1) := by decide +kernel
theorem dX10_layNests_101 : decode cX10_layNests 101 = .ok (.iastore, 1) := by decide +kernel
theorem dX10_layNests_102 : decode cX10_layNests 102 = .ok (.iinc 4 1, 3) := by decide +kernel
theorem dX10_layNests_105 : decode cX10_layNests 105 = .ok (.goto (-61), 3) := by decide +kernel
theorem dX10_layNests_108 : decode cX10_layNests 108 = .ok (.iinc 3 1, 3) := by decide +kernel
theorem dX10_layNests_111 : decode cX10_layNests 111 = .ok (.goto (-75), 3) := by decide +kernel
theorem dX10_layNests_114 : decode cX10_layNests 114 = .ok (.iinc 2 1, 3) := by decide +kernel
theorem dX10_layNests_117 : decode cX10_layNests 117 = .ok (.goto (-88), 3) := by decide +kernel
theorem dX10_layNests_120 : decode cX10_layNests 120 = .ok (.return_, 1) := by decide +kernel
theorem dX10_nest_0 : decode cX10_nest 0 = .ok (.aload_n 0, 1) := by decide +kernel
theorem dX10_nest_1 : decode cX10_nest 1 = .ok (.iconst 0, 1) := by decide +kernel
theorem dX10_nest_2 : decode cX10_nest 2 = .ok (.putfield 157, 3) := by decide +kernel
theorem dX10_nest_5 : decode cX10_nest 5 = .ok (.aload_n 0, 1) := by decide +kernel
theorem dX10_nest_6 : decode cX10_nest 6 = .ok (.invokevirtual 500, 3) := by decide +kernel
theorem dX10_nest_9 : decode cX10_nest 9 = .ok (.iconst 0, 1) := by decide +kernel
theorem dX10_nest_10 : decode cX10_nest 10 = .ok (.istore_n 2, 1) := by decide +kernel
theorem dX10_nest_11 : decode cX10_nest 11 = .ok (.iconst (-1), 1) := by decide +kernel
theorem dX10_nest_12 : decode cX10_nest 12 = .ok (.istore_n 3, 1) := by decide +kernel
theorem dX10_nest_13 : decode cX10_nest 13 = .ok (.iconst 0, 1) := by decide +kernel
theorem dX10_nest_14 : decode cX10_nest 14 = .ok (.istore 4, 2) := by decide +kernel
theorem dX10_nest_16 : decode cX10_nest 16 = .ok (.iload 4, 2) := by decide +kernel
theorem dX10_nest_18 : decode cX10_nest 18 = .ok (.aload_n 0, 1) := by decide +kernel
theorem dX10_nest_19 : decode cX10_nest 19 = .ok (.getfield 13, 3) := by decide +kernel
theorem dX10_nest_22 : decode cX10_nest 22 = .ok (.iconst 0, 1) := by decide +kernel
theorem dX10_nest_23 : decode cX10_nest 23 = .ok (.iaload, 1) := by decide +kernel
theorem dX10_nest_24 : decode cX10_nest 24 = .ok (.if_icmp .ge 50, 3) := by decide +kernel
theorem dX10_nest_27 : decode cX10_nest 27 = .ok (.aload_n 0, 1) := by decide +kernel
theorem dX10_nest_28 : decode cX10_nest 28 = .ok (.getfield 125, 3) := by decide +kernel
theorem dX10_nest_31 : decode cX10_nest 31 = .ok (.iload 4, 2) := by decide +kernel
theorem dX10_nest_33 : decode cX10_nest 33 = .ok (.iaload, 1) := by decide +kernel
theorem dX10_nest_34 : decode cX10_nest 34 = .ok (.iload_n 2, 1) := by decide +kernel
theorem dX10_nest_35 : decode cX10_nest 35 = .ok (.if_icmp .le 8, 3) := by decide +kernel
theorem dX10_nest_38 : decode cX10_nest 38 = .ok (.iload 4, 2) := by decide +kernel
theorem dX10_nest_40 : decode cX10_nest 40 = .ok (.goto 4, 3) := by decide +kernel
theorem dX10_nest_43 : decode cX10_nest 43 = .ok (.iload_n 3, 1) := by decide +kernel
theorem dX10_nest_44 : decode cX10_nest 44 = .ok (.istore_n 3, 1) := by decide +kernel
theorem dX10_nest_45 : decode cX10_nest 45 = .ok (.aload_n 0, 1) := by decide +kernel
theorem dX10_nest_46 : decode cX10_nest 46 = .ok (.getfield 125, 3) := by decide +kernel
theorem dX10_nest_49 : decode cX10_nest 49 = .ok (.iload 4, 2) := by decide +kernel
theorem dX10_nest_51 : decode cX10_nest 51 = .ok (.iaload, 1) := by decide +kernel
theorem dX10_nest_52 : decode cX10_nest 52 = .ok (.iload_n 2, 1) := by decide +kernel
theorem dX10_nest_53 : decode cX10_nest 53 = .ok (.if_icmp .le 13, 3) := by decide +kernel
theorem dX10_nest_56 : decode cX10_nest 56 = .ok (.aload_n 0, 1) := by decide +kernel
theorem dX10_nest_57 : decode cX10_nest 57 = .ok (.getfield 125, 3) := by decide +kernel
theorem dX10_nest_60 : decode cX10_nest 60 = .ok (.iload 4, 2) := by decide +kernel
theorem dX10_nest_62 : decode cX10_nest 62 = .ok (.iaload, 1) := by decide +kernel
theorem dX10_nest_63 : decode cX10_nest 63 = .ok (.goto 4, 3) := by decide +kernel
theorem dX10_nest_66 : decode cX10_nest 66 = .ok (.iload_n 2, 1) := by decide +kernel
theorem dX10_nest_67 : decode cX10_nest 67 = .ok (.istore_n 2, 1) := by decide +kernel
theorem dX10_nest_68 : decode cX10_nest 68 = .ok (.iinc 4 1, 3) := by decide +kernel
theorem dX10_nest_71 : decode cX10_nest 71 = .ok (.goto (-55), 3) := by decide +kernel
theorem dX10_nest_74 : decode cX10_nest 74 = .ok (.iload_n 1, 1) := by decide +kernel
theorem dX10_nest_75 : decode cX10_nest 75 = .ok (.iconst (-1), 1) := by decide +kernel
theorem dX10_nest_76 : decode cX10_nest 76 = .ok (.if_icmp .eq 16, 3) := by decide +kernel
theorem dX10_nest_79 : decode cX10_nest 79 = .ok (.iload_n 1, 1) := by decide +kernel
theorem dX10_nest_80 : decode cX10_nest 80 = .ok (.i2l, 1) := by decide +kernel
theorem dX10_nest_81 : decode cX10_nest 81 = .ok (.lconst 0, 1) := by decide +kernel
theorem dX10_nest_82 : decode cX10_nest 82 = .ok (.iload_n 2, 1) := by decide +kernel
theorem dX10_nest_83 : decode cX10_nest 83 = .ok (.i2l, 1) := by decide +kernel
theorem dX10_nest_84 : decode cX10_nest 84 = .ok (.lconst 1, 1) := by decide +kernel
theorem dX10_nest_85 : decode cX10_nest 85 = .ok (.lsub, 1) := by decide +kernel
theorem dX10_nest_86 : decode cX10_nest 86 = .ok (.invokestatic 177, 3) := by decide +kernel
theorem dX10_nest_89 : decode cX10_nest 89 = .ok (.ifCond .ne 14, 3) := by decide +kernel
theorem dX10_nest_92 : decode cX10_nest 92 = .ok (.iload_n 1, 1) := by decide +kernel
theorem dX10_nest_93 : decode cX10_nest 93 = .ok (.iconst (-1), 1) := by decide +kernel
theorem dX10_nest_94 : decode cX10_nest 94 = .ok (.if_icmp .ne 7, 3) := by decide +kernel
theorem dX10_nest_97 : decode cX10_nest 97 = .ok (.iload_n 2, 1) := by decide +kernel
theorem dX10_nest_98 : decode cX10_nest 98 = .ok (.goto 4, 3) := by decide +kernel
theorem dX10_nest_101 : decode cX10_nest 101 = .ok (.iconst (-1), 1) := by decide +kernel
theorem dX10_nest_102 : decode cX10_nest 102 = .ok (.ireturn, 1) := by decide +kernel
theorem dX10_nest_103 : decode cX10_nest 103 = .ok (.iconst 0, 1) := by decide +kernel
theorem dX10_nest_104 : decode cX10_nest 104 = .ok (.istore 4, 2) := by decide +kernel
theorem dX10_nest_106 : decode cX10_nest 106 = .ok (.iload 4, 2) := by decide +kernel
theorem dX10_nest_108 : decode cX10_nest 108 = .ok (.iload_n 1, 1) := by decide +kernel
theorem dX10_nest_109 : decode cX10_nest 109 = .ok (.if_icmp .ge 49, 3) := by decide +kernel
theorem dX10_nest_112 : decode cX10_nest 112 = .ok (.iconst 0, 1) := by decide +kernel
theorem dX10_nest_113 : decode cX10_nest 113 = .ok (.istore 5, 2) := by decide +kernel
theorem dX10_nest_115 : decode cX10_nest 115 = .ok (.aload_n 0, 1) := by decide +kernel
theorem dX10_nest_116 : decode cX10_nest 116 = .ok (.iload_n 3, 1) := by decide +kernel
theorem dX10_nest_117 : decode cX10_nest 117 = .ok (.iload 5, 2) := by decide +kernel
theorem dX10_nest_119 : decode cX10_nest 119 = .ok (.invokevirtual 497, 3) := by decide +kernel
theorem dX10_nest_122 : decode cX10_nest 122 = .ok (.ifCond .eq 21, 3) := by decide +kernel
theorem dX10_nest_125 : decode cX10_nest 125 = .ok (.aload_n 0, 1) := by decide +kernel
theorem dX10_nest_126 : decode cX10_nest 126 = .ok (.getfield 125, 3) := by decide +kernel
theorem dX10_nest_129 : decode cX10_nest 129 = .ok (.iload 5, 2) := by decide +kernel
theorem dX10_nest_131 : decode cX10_nest 131 = .ok (.iaload, 1) := by decide +kernel
theorem dX10_nest_132 : decode cX10_nest 132 = .ok (.aload_n 0, 1) := by decide +kernel
theorem dX10_nest_133 : decode cX10_nest 133 = .ok (.getfield 125, 3) := by decide +kernel
theorem dX10_nest_136 : decode cX10_nest 136 = .ok (.iload_n 3, 1) := by decide +kernel
theorem dX10_nest_137 : decode cX10_nest 137 = .ok (.iaload, 1) := by decide +kernel
theorem dX10_nest_138 : decode cX10_nest 138 = .ok (.iconst 1, 1) := by decide +kernel
theorem dX10_nest_139 : decode cX10_nest 139 = .ok (.isub, 1) := by decide +kernel
theorem dX10_nest_140 : decode cX10_nest 140 = .ok (.if_icmp .eq 9, 3) := by decide +kernel
theorem dX10_nest_143 : decode cX10_nest 143 = .ok (.iinc 5 1, 3) := by decide +kernel
theorem dX10_nest_146 : decode cX10_nest 146 = .ok (.goto (-31), 3) := by decide +kernel
theorem dX10_nest_149 : decode cX10_nest 149 = .ok (.iload 5, 2) := by decide +kernel
theorem dX10_nest_151 : decode cX10_nest 151 = .ok (.istore_n 3, 1) := by decide +kernel
theorem dX10_nest_152 : decode cX10_nest 152 = .ok (.iinc 4 1, 3) := by decide +kernel
theorem dX10_nest_155 : decode cX10_nest 155 = .ok (.goto (-49), 3) := by decide +kernel
theorem dX10_nest_158 : decode cX10_nest 158 = .ok (.iload_n 3, 1) := by decide +kernel
theorem dX10_nest_159 : decode cX10_nest 159 = .ok (.ireturn, 1) := by decide +kernel
theorem dX10_fittedBy_0 : decode cX10_fittedBy 0 = .ok (.iconst 0, 1) := by decide +kernel
theorem dX10_fittedBy_1 : decode cX10_fittedBy 1 = .ok (.istore_n 2, 1) := by decide +kernel
theorem dX10_fittedBy_2 : decode cX10_fittedBy 2 = .ok (.iconst 0, 1) := by decide +kernel
theorem dX10_fittedBy_3 : decode cX10_fittedBy 3 = .ok (.istore_n 3, 1) := by decide +kernel
theorem dX10_fittedBy_4 : decode cX10_fittedBy 4 = .ok (.iload_n 3, 1) := by decide +kernel
theorem dX10_fittedBy_5 : decode cX10_fittedBy 5 = .ok (.aload_n 0, 1) := by decide +kernel
theorem dX10_fittedBy_6 : decode cX10_fittedBy 6 = .ok (.getfield 13, 3) := by decide +kernel
theorem dX10_fittedBy_9 : decode cX10_fittedBy 9 = .ok (.iconst 1, 1) := by decide +kernel
theorem dX10_fittedBy_10 : decode cX10_fittedBy 10 = .ok (.iaload, 1) := by decide +kernel
theorem dX10_fittedBy_11 : decode cX10_fittedBy 11 = .ok (.if_icmp .ge 58, 3) := by decide +kernel
theorem dX10_fittedBy_14 : decode cX10_fittedBy 14 = .ok (.iconst 0, 1) := by decide +kernel
theorem dX10_fittedBy_15 : decode cX10_fittedBy 15 = .ok (.istore 4, 2) := by decide +kernel
theorem dX10_fittedBy_17 : decode cX10_fittedBy 17 = .ok (.iload 4, 2) := by decide +kernel
theorem dX10_fittedBy_19 : decode cX10_fittedBy 19 = .ok (.aload_n 0, 1) := by decide +kernel
theorem dX10_fittedBy_20 : decode cX10_fittedBy 20 = .ok (.getfield 13, 3) := by decide +kernel
theorem dX10_fittedBy_23 : decode cX10_fittedBy 23 = .ok (.iconst 0, 1) := by decide +kernel
theorem dX10_fittedBy_24 : decode cX10_fittedBy 24 = .ok (.iaload, 1) := by decide +kernel
theorem dX10_fittedBy_25 : decode cX10_fittedBy 25 = .ok (.if_icmp .ge 38, 3) := by decide +kernel
theorem dX10_fittedBy_28 : decode cX10_fittedBy 28 = .ok (.iload_n 2, 1) := by decide +kernel
theorem dX10_fittedBy_29 : decode cX10_fittedBy 29 = .ok (.iload_n 1, 1) := by decide +kernel
theorem dX10_fittedBy_30 : decode cX10_fittedBy 30 = .ok (.iload_n 3, 1) := by decide +kernel
theorem dX10_fittedBy_31 : decode cX10_fittedBy 31 = .ok (.invokestatic 485, 3) := by decide +kernel
theorem dX10_fittedBy_34 : decode cX10_fittedBy 34 = .ok (.ifCond .eq 20, 3) := by decide +kernel
theorem dX10_fittedBy_37 : decode cX10_fittedBy 37 = .ok (.aload_n 0, 1) := by decide +kernel
theorem dX10_fittedBy_38 : decode cX10_fittedBy 38 = .ok (.iload 4, 2) := by decide +kernel
theorem dX10_fittedBy_40 : decode cX10_fittedBy 40 = .ok (.iload_n 3, 1) := by decide +kernel
theorem dX10_fittedBy_41 : decode cX10_fittedBy 41 = .ok (.invokevirtual 421, 3) := by decide +kernel
theorem dX10_fittedBy_44 : decode cX10_fittedBy 44 = .ok (.ifCond .eq 10, 3) := by decide +kernel
theorem dX10_fittedBy_47 : decode cX10_fittedBy 47 = .ok (.iconst 1, 1) := by decide +kernel
theorem dX10_fittedBy_48 : decode cX10_fittedBy 48 = .ok (.iload 4, 2) := by decide +kernel
theorem dX10_fittedBy_50 : decode cX10_fittedBy 50 = .ok (.ishl, 1) := by decide +kernel
theorem dX10_fittedBy_51 : decode cX10_fittedBy 51 = .ok (.goto 4, 3) := by decide +kernel
theorem dX10_fittedBy_54 : decode cX10_fittedBy 54 = .ok (.iconst 0, 1) := by decide +kernel
theorem dX10_fittedBy_55 : decode cX10_fittedBy 55 = .ok (.ior, 1) := by decide +kernel
theorem dX10_fittedBy_56 : decode cX10_fittedBy 56 = .ok (.istore_n 2, 1) := by decide +kernel
theorem dX10_fittedBy_57 : decode cX10_fittedBy 57 = .ok (.iinc 4 1, 3) := by decide +kernel
theorem dX10_fittedBy_60 : decode cX10_fittedBy 60 = .ok (.goto (-43), 3) := by decide +kernel
theorem dX10_fittedBy_63 : decode cX10_fittedBy 63 = .ok (.iinc 3 1, 3) := by decide +kernel
theorem dX10_fittedBy_66 : decode cX10_fittedBy 66 = .ok (.goto (-62), 3) := by decide +kernel
theorem dX10_fittedBy_69 : decode cX10_fittedBy 69 = .ok (.iload_n 2, 1) := by decide +kernel
theorem dX10_fittedBy_70 : decode cX10_fittedBy 70 = .ok (.ireturn, 1) := by decide +kernel
theorem dX10_all_0 : decode cX10_all 0 = .ok (.aload_n 0, 1) := by decide +kernel
theorem dX10_all_1 : decode cX10_all 1 = .ok (.iconst 0, 1) := by decide +kernel
theorem dX10_all_2 : decode cX10_all 2 = .ok (.putfield 157, 3) := by decide +kernel
theorem dX10_all_5 : decode cX10_all 5 = .ok (.iload_n 1, 1) := by decide +kernel
theorem dX10_all_6 : decode cX10_all 6 = .ok (.i2l, 1) := by decide +kernel
theorem dX10_all_7 : decode cX10_all 7 = .ok (.lconst 0, 1) := by decide +kernel
theorem dX10_all_8 : decode cX10_all 8 = .ok (.lconst 1, 1) := by decide +kernel
theorem dX10_all_9 : decode cX10_all 9 = .ok (.invokestatic 177, 3) := by decide +kernel
theorem dX10_all_12 : decode cX10_all 12 = .ok (.ifCond .ne 5, 3) := by decide +kernel
theorem dX10_all_15 : decode cX10_all 15 = .ok (.iconst (-1), 1) := by decide +kernel
theorem dX10_all_16 : decode cX10_all 16 = .ok (.ireturn, 1) := by decide +kernel
theorem dX10_all_17 : decode cX10_all 17 = .ok (.iconst 1, 1) := by decide +kernel
theorem dX10_all_18 : decode cX10_all 18 = .ok (.aload_n 0, 1) := by decide +kernel
theorem dX10_all_19 : decode cX10_all 19 = .ok (.getfield 13, 3) := by decide +kernel
theorem dX10_all_22 : decode cX10_all 22 = .ok (.iconst 1, 1) := by decide +kernel
theorem dX10_all_23 : decode cX10_all 23 = .ok (.iaload, 1) := by decide +kernel
theorem dX10_all_24 : decode cX10_all 24 = .ok (.ishl, 1) := by decide +kernel
theorem dX10_all_25 : decode cX10_all 25 = .ok (.iconst 1, 1) := by decide +kernel
theorem dX10_all_26 : decode cX10_all 26 = .ok (.isub, 1) := by decide +kernel
theorem dX10_all_27 : decode cX10_all 27 = .ok (.istore_n 2, 1) := by decide +kernel
theorem dX10_all_28 : decode cX10_all 28 = .ok (.ldc_w 478, 3) := by decide +kernel
theorem dX10_all_31 : decode cX10_all 31 = .ok (.istore_n 3, 1) := by decide +kernel
theorem dX10_all_32 : decode cX10_all 32 = .ok (.iconst (-1), 1) := by decide +kernel
theorem dX10_all_33 : decode cX10_all 33 = .ok (.istore 4, 2) := by decide +kernel
theorem dX10_all_35 : decode cX10_all 35 = .ok (.iconst 0, 1) := by decide +kernel
theorem dX10_all_36 : decode cX10_all 36 = .ok (.istore 5, 2) := by decide +kernel
theorem dX10_all_38 : decode cX10_all 38 = .ok (.iload 5, 2) := by decide +kernel
theorem dX10_all_40 : decode cX10_all 40 = .ok (.iload_n 2, 1) := by decide +kernel
theorem dX10_all_41 : decode cX10_all 41 = .ok (.if_icmp .gt 68, 3) := by decide +kernel
theorem dX10_all_44 : decode cX10_all 44 = .ok (.iload 5, 2) := by decide +kernel
theorem dX10_all_46 : decode cX10_all 46 = .ok (.invokestatic 503, 3) := by decide +kernel
theorem dX10_all_49 : decode cX10_all 49 = .ok (.iload_n 3, 1) := by decide +kernel
theorem dX10_all_50 : decode cX10_all 50 = .ok (.if_icmp .ge 21, 3) := by decide +kernel
theorem dX10_all_53 : decode cX10_all 53 = .ok (.aload_n 0, 1) := by decide +kernel
theorem dX10_all_54 : decode cX10_all 54 = .ok (.iload 5, 2) := by decide +kernel
theorem dX10_all_56 : decode cX10_all 56 = .ok (.invokevirtual 506, 3) := by decide +kernel
theorem dX10_all_59 : decode cX10_all 59 = .ok (.aload_n 0, 1) := by decide +kernel
theorem dX10_all_60 : decode cX10_all 60 = .ok (.iload_n 2, 1) := by decide +kernel
theorem dX10_all_61 : decode cX10_all 61 = .ok (.invokevirtual 506, 3) := by decide +kernel
theorem dX10_all_64 : decode cX10_all 64 = .ok (.if_icmp .ne 7, 3) := by decide +kernel
theorem dX10_all_67 : decode cX10_all 67 = .ok (.iconst 1, 1) := by decide +kernel
theorem dX10_all_68 : decode cX10_all 68 = .ok (.goto 4, 3) := by decide +kernel
theorem dX10_all_71 : decode cX10_all 71 = .ok (.iconst 0, 1) := by decide +kernel
theorem dX10_all_72 : decode cX10_all 72 = .ok (.istore 6, 2) := by decide +kernel
theorem dX10_all_74 : decode cX10_all 74 = .ok (.iload 6, 2) := by decide +kernel
theorem dX10_all_76 : decode cX10_all 76 = .ok (.ifCond .eq 8, 3) := by decide +kernel
theorem dX10_all_79 : decode cX10_all 79 = .ok (.iload 5, 2) := by decide +kernel
theorem dX10_all_81 : decode cX10_all 81 = .ok (.goto 5, 3) := by decide +kernel
theorem dX10_all_84 : decode cX10_all 84 = .ok (.iload 4, 2) := by decide +kernel
theorem dX10_all_86 : decode cX10_all 86 = .ok (.istore 4, 2) := by decide +kernel
theorem dX10_all_88 : decode cX10_all 88 = .ok (.iload 6, 2) := by decide +kernel
theorem dX10_all_90 : decode cX10_all 90 = .ok (.ifCond .eq 11, 3) := by decide +kernel
theorem dX10_all_93 : decode cX10_all 93 = .ok (.iload 5, 2) := by decide +kernel
theorem dX10_all_95 : decode cX10_all 95 = .ok (.invokestatic 503, 3) := by decide +kernel
theorem dX10_all_98 : decode cX10_all 98 = .ok (.goto 4, 3) := by decide +kernel
theorem dX10_all_101 : decode cX10_all 101 = .ok (.iload_n 3, 1) := by decide +kernel
theorem dX10_all_102 : decode cX10_all 102 = .ok (.istore_n 3, 1) := by decide +kernel
theorem dX10_all_103 : decode cX10_all 103 = .ok (.iinc 5 1, 3) := by decide +kernel
theorem dX10_all_106 : decode cX10_all 106 = .ok (.goto (-68), 3) := by decide +kernel
theorem dX10_all_109 : decode cX10_all 109 = .ok (.iload_n 1, 1) := by decide +kernel
theorem dX10_all_110 : decode cX10_all 110 = .ok (.ifCond .ne 7, 3) := by decide +kernel
theorem dX10_all_113 : decode cX10_all 113 = .ok (.iload_n 3, 1) := by decide +kernel
theorem dX10_all_114 : decode cX10_all 114 = .ok (.goto 5, 3) := by decide +kernel
theorem dX10_all_117 : decode cX10_all 117 = .ok (.iload 4, 2) := by decide +kernel
theorem dX10_all_119 : decode cX10_all 119 = .ok (.ireturn, 1) := by decide +kernel
theorem dX10_owed_0 : decode cX10_owed 0 = .ok (.aload_n 0, 1) := by decide +kernel
theorem dX10_owed_1 : decode cX10_owed 1 = .ok (.iconst 0, 1) := by decide +kernel
theorem dX10_owed_2 : decode cX10_owed 2 = .ok (.putfield 157, 3) := by decide +kernel
theorem dX10_owed_5 : decode cX10_owed 5 = .ok (.aload_n 0, 1) := by decide +kernel
theorem dX10_owed_6 : decode cX10_owed 6 = .ok (.iload_n 1, 1) := by decide +kernel
theorem dX10_owed_7 : decode cX10_owed 7 = .ok (.invokevirtual 372, 3) := by decide +kernel
theorem dX10_owed_10 : decode cX10_owed 10 = .ok (.ifCond .ne 5, 3) := by decide +kernel
theorem dX10_owed_13 : decode cX10_owed 13 = .ok (.iconst (-1), 1) := by decide +kernel
theorem dX10_owed_14 : decode cX10_owed 14 = .ok (.ireturn, 1) := by decide +kernel
theorem dX10_owed_15 : decode cX10_owed 15 = .ok (.aload_n 0, 1) := by decide +kernel
theorem dX10_owed_16 : decode cX10_owed 16 = .ok (.getfield 13, 3) := by decide +kernel
theorem dX10_owed_19 : decode cX10_owed 19 = .ok (.iconst 3, 1) := by decide +kernel
theorem dX10_owed_20 : decode cX10_owed 20 = .ok (.iaload, 1) := by decide +kernel
theorem dX10_owed_21 : decode cX10_owed 21 = .ok (.istore_n 2, 1) := by decide +kernel
theorem dX10_owed_22 : decode cX10_owed 22 = .ok (.aload_n 0, 1) := by decide +kernel
theorem dX10_owed_23 : decode cX10_owed 23 = .ok (.getfield 13, 3) := by decide +kernel
theorem dX10_owed_26 : decode cX10_owed 26 = .ok (.iconst 3, 1) := by decide +kernel
theorem dX10_owed_27 : decode cX10_owed 27 = .ok (.iload_n 1, 1) := by decide +kernel
theorem dX10_owed_28 : decode cX10_owed 28 = .ok (.iastore, 1) := by decide +kernel
theorem dX10_owed_29 : decode cX10_owed 29 = .ok (.iconst 0, 1) := by decide +kernel
theorem dX10_owed_30 : decode cX10_owed 30 = .ok (.istore_n 3, 1) := by decide +kernel
theorem dX10_owed_31 : decode cX10_owed 31 = .ok (.iconst 0, 1) := by decide +kernel
theorem dX10_owed_32 : decode cX10_owed 32 = .ok (.istore 4, 2) := by decide +kernel
theorem dX10_owed_34 : decode cX10_owed 34 = .ok (.iload 4, 2) := by decide +kernel
theorem dX10_owed_36 : decode cX10_owed 36 = .ok (.aload_n 0, 1) := by decide +kernel
theorem dX10_owed_37 : decode cX10_owed 37 = .ok (.getfield 13, 3) := by decide +kernel
theorem dX10_owed_40 : decode cX10_owed 40 = .ok (.iconst 1, 1) := by decide +kernel
theorem dX10_owed_41 : decode cX10_owed 41 = .ok (.iaload, 1) := by decide +kernel
theorem dX10_owed_42 : decode cX10_owed 42 = .ok (.if_icmp .ge 36, 3) := by decide +kernel
theorem dX10_owed_45 : decode cX10_owed 45 = .ok (.iload_n 3, 1) := by decide +kernel
theorem dX10_owed_46 : decode cX10_owed 46 = .ok (.aload_n 0, 1) := by decide +kernel
theorem dX10_owed_47 : decode cX10_owed 47 = .ok (.getfield 13, 3) := by decide +kernel
theorem dX10_owed_50 : decode cX10_owed 50 = .ok (.bipush 29, 2) := by decide +kernel
theorem dX10_owed_52 : decode cX10_owed 52 = .ok (.iload 4, 2) := by decide +kernel
theorem dX10_owed_54 : decode cX10_owed 54 = .ok (.iadd, 1) := by decide +kernel
theorem dX10_owed_55 : decode cX10_owed 55 = .ok (.iaload, 1) := by decide +kernel
theorem dX10_owed_56 : decode cX10_owed 56 = .ok (.iconst (-1), 1) := by decide +kernel
theorem dX10_owed_57 : decode cX10_owed 57 = .ok (.if_icmp .ne 7, 3) := by decide +kernel
theorem dX10_owed_60 : decode cX10_owed 60 = .ok (.iconst 0, 1) := by decide +kernel
theorem dX10_owed_61 : decode cX10_owed 61 = .ok (.goto 9, 3) := by decide +kernel
theorem dX10_owed_64 : decode cX10_owed 64 = .ok (.aload_n 0, 1) := by decide +kernel
theorem dX10_owed_65 : decode cX10_owed 65 = .ok (.iload 4, 2) := by decide +kernel
theorem dX10_owed_67 : decode cX10_owed 67 = .ok (.invokevirtual 439, 3) := by decide +kernel
theorem dX10_owed_70 : decode cX10_owed 70 = .ok (.iadd, 1) := by decide +kernel
theorem dX10_owed_71 : decode cX10_owed 71 = .ok (.istore_n 3, 1) := by decide +kernel
theorem dX10_owed_72 : decode cX10_owed 72 = .ok (.iinc 4 1, 3) := by decide +kernel
theorem dX10_owed_75 : decode cX10_owed 75 = .ok (.goto (-41), 3) := by decide +kernel
theorem dX10_owed_78 : decode cX10_owed 78 = .ok (.aload_n 0, 1) := by decide +kernel
theorem dX10_owed_79 : decode cX10_owed 79 = .ok (.getfield 13, 3) := by decide +kernel
theorem dX10_owed_82 : decode cX10_owed 82 = .ok (.iconst 3, 1) := by decide +kernel
theorem dX10_owed_83 : decode cX10_owed 83 = .ok (.iload_n 2, 1) := by decide +kernel
theorem dX10_owed_84 : decode cX10_owed 84 = .ok (.iastore, 1) := by decide +kernel
theorem dX10_owed_85 : decode cX10_owed 85 = .ok (.iload_n 3, 1) := by decide +kernel
theorem dX10_owed_86 : decode cX10_owed 86 = .ok (.ireturn, 1) := by decide +kernel
theorem dX10_whole_0 : decode cX10_whole 0 = .ok (.aload_n 0, 1) := by decide +kernel
theorem dX10_whole_1 : decode cX10_whole 1 = .ok (.iconst 0, 1) := by decide +kernel
theorem dX10_whole_2 : decode cX10_whole 2 = .ok (.putfield 157, 3) := by decide +kernel
theorem dX10_whole_5 : decode cX10_whole 5 = .ok (.iload_n 1, 1) := by decide +kernel
theorem dX10_whole_6 : decode cX10_whole 6 = .ok (.i2l, 1) := by decide +kernel
theorem dX10_whole_7 : decode cX10_whole 7 = .ok (.lconst 1, 1) := by decide +kernel
theorem dX10_whole_8 : decode cX10_whole 8 = .ok (.ldc2_w 204, 3) := by decide +kernel
theorem dX10_whole_11 : decode cX10_whole 11 = .ok (.invokestatic 177, 3) := by decide +kernel
theorem dX10_whole_14 : decode cX10_whole 14 = .ok (.ifCond .eq 15, 3) := by decide +kernel
theorem dX10_whole_17 : decode cX10_whole 17 = .ok (.iload_n 2, 1) := by decide +kernel
theorem dX10_whole_18 : decode cX10_whole 18 = .ok (.i2l, 1) := by decide +kernel
theorem dX10_whole_19 : decode cX10_whole 19 = .ok (.lconst 0, 1) := by decide +kernel
theorem dX10_whole_20 : decode cX10_whole 20 = .ok (.ldc2_w 509, 3) := by decide +kernel
theorem dX10_whole_23 : decode cX10_whole 23 = .ok (.invokestatic 177, 3) := by decide +kernel
theorem dX10_whole_26 : decode cX10_whole 26 = .ok (.ifCond .ne 7, 3) := by decide +kernel
theorem dX10_whole_29 : decode cX10_whole 29 = .ok (.ldc2_w 251, 3) := by decide +kernel
theorem dX10_whole_32 : decode cX10_whole 32 = .ok (.lreturn, 1) := by decide +kernel
theorem dX10_whole_33 : decode cX10_whole 33 = .ok (.iconst 0, 1) := by decide +kernel
theorem dX10_whole_34 : decode cX10_whole 34 = .ok (.istore_n 3, 1) := by decide +kernel
theorem dX10_whole_35 : decode cX10_whole 35 = .ok (.iload_n 3, 1) := by decide +kernel
theorem dX10_whole_36 : decode cX10_whole 36 = .ok (.bipush 21, 2) := by decide +kernel
theorem dX10_whole_38 : decode cX10_whole 38 = .ok (.if_icmp .ge 16, 3) := by decide +kernel
theorem dX10_whole_41 : decode cX10_whole 41 = .ok (.aload_n 0, 1) := by decide +kernel
theorem dX10_whole_42 : decode cX10_whole 42 = .ok (.getfield 128, 3) := by decide +kernel
theorem dX10_whole_45 : decode cX10_whole 45 = .ok (.iload_n 3, 1) := by decide +kernel
theorem dX10_whole_46 : decode cX10_whole 46 = .ok (.lconst 0, 1) := by decide +kernel
theorem dX10_whole_47 : decode cX10_whole 47 = .ok (.lastore, 1) := by decide +kernel
theorem dX10_whole_48 : decode cX10_whole 48 = .ok (.iinc 3 1, 3) := by decide +kernel
theorem dX10_whole_51 : decode cX10_whole 51 = .ok (.goto (-16), 3) := by decide +kernel
theorem dX10_whole_54 : decode cX10_whole 54 = .ok (.aload_n 0, 1) := by decide +kernel
theorem dX10_whole_55 : decode cX10_whole 55 = .ok (.getfield 128, 3) := by decide +kernel
theorem dX10_whole_58 : decode cX10_whole 58 = .ok (.iconst 0, 1) := by decide +kernel
theorem dX10_whole_59 : decode cX10_whole 59 = .ok (.ldc2_w 511, 3) := by decide +kernel
theorem dX10_whole_62 : decode cX10_whole 62 = .ok (.lastore, 1) := by decide +kernel
theorem dX10_whole_63 : decode cX10_whole 63 = .ok (.aload_n 0, 1) := by decide +kernel
theorem dX10_whole_64 : decode cX10_whole 64 = .ok (.iconst 2, 1) := by decide +kernel
theorem dX10_whole_65 : decode cX10_whole 65 = .ok (.invokevirtual 398, 3) := by decide +kernel
theorem dX10_whole_68 : decode cX10_whole 68 = .ok (.istore_n 3, 1) := by decide +kernel
theorem dX10_whole_69 : decode cX10_whole 69 = .ok (.iconst 0, 1) := by decide +kernel
theorem dX10_whole_70 : decode cX10_whole 70 = .ok (.istore 4, 2) := by decide +kernel
theorem dX10_whole_72 : decode cX10_whole 72 = .ok (.iload 4, 2) := by decide +kernel
theorem dX10_whole_74 : decode cX10_whole 74 = .ok (.iload_n 2, 1) := by decide +kernel
theorem dX10_whole_75 : decode cX10_whole 75 = .ok (.if_icmp .ge 74, 3) := by decide +kernel
theorem dX10_whole_78 : decode cX10_whole 78 = .ok (.iload_n 1, 1) := by decide +kernel
theorem dX10_whole_79 : decode cX10_whole 79 = .ok (.iconst 1, 1) := by decide +kernel
theorem dX10_whole_80 : decode cX10_whole 80 = .ok (.isub, 1) := by decide +kernel
theorem dX10_whole_81 : decode cX10_whole 81 = .ok (.istore 5, 2) := by decide +kernel
theorem dX10_whole_83 : decode cX10_whole 83 = .ok (.iload 5, 2) := by decide +kernel
theorem dX10_whole_85 : decode cX10_whole 85 = .ok (.ifCond .lt 58, 3) := by decide +kernel
theorem dX10_whole_88 : decode cX10_whole 88 = .ok (.aload_n 0, 1) := by decide +kernel
theorem dX10_whole_89 : decode cX10_whole 89 = .ok (.getfield 128, 3) := by decide +kernel
theorem dX10_whole_92 : decode cX10_whole 92 = .ok (.iload 5, 2) := by decide +kernel
theorem dX10_whole_94 : decode cX10_whole 94 = .ok (.laload, 1) := by decide +kernel
theorem dX10_whole_95 : decode cX10_whole 95 = .ok (.lstore 6, 2) := by decide +kernel
theorem dX10_whole_97 : decode cX10_whole 97 = .ok (.aload_n 0, 1) := by decide +kernel
theorem dX10_whole_98 : decode cX10_whole 98 = .ok (.getfield 128, 3) := by decide +kernel
theorem dX10_whole_101 : decode cX10_whole 101 = .ok (.iload 5, 2) := by decide +kernel
theorem dX10_whole_103 : decode cX10_whole 103 = .ok (.lload 6, 2) := by decide +kernel
theorem dX10_whole_105 : decode cX10_whole 105 = .ok (.bipush 10, 2) := by decide +kernel
theorem dX10_whole_107 : decode cX10_whole 107 = .ok (.iload_n 3, 1) := by decide +kernel
theorem dX10_whole_108 : decode cX10_whole 108 = .ok (.isub, 1) := by decide +kernel
theorem dX10_whole_109 : decode cX10_whole 109 = .ok (.i2l, 1) := by decide +kernel
theorem dX10_whole_110 : decode cX10_whole 110 = .ok (.lmul, 1) := by decide +kernel
theorem dX10_whole_111 : decode cX10_whole 111 = .ok (.ldc2_w 206, 3) := by decide +kernel
theorem dX10_whole_114 : decode cX10_whole 114 = .ok (.ldiv, 1) := by decide +kernel
theorem dX10_whole_115 : decode cX10_whole 115 = .ok (.lastore, 1) := by decide +kernel
theorem dX10_whole_116 : decode cX10_whole 116 = .ok (.aload_n 0, 1) := by decide +kernel
theorem dX10_whole_117 : decode cX10_whole 117 = .ok (.getfield 128, 3) := by decide +kernel
theorem dX10_whole_120 : decode cX10_whole 120 = .ok (.iload 5, 2) := by decide +kernel
theorem dX10_whole_122 : decode cX10_whole 122 = .ok (.iconst 1, 1) := by decide +kernel
theorem dX10_whole_123 : decode cX10_whole 123 = .ok (.iadd, 1) := by decide +kernel
theorem dX10_whole_124 : decode cX10_whole 124 = .ok (.dup2, 1) := by decide +kernel
theorem dX10_whole_125 : decode cX10_whole 125 = .ok (.laload, 1) := by decide +kernel
theorem dX10_whole_126 : decode cX10_whole 126 = .ok (.lload 6, 2) := by decide +kernel
theorem dX10_whole_128 : decode cX10_whole 128 = .ok (.iload_n 3, 1) := by decide +kernel
theorem dX10_whole_129 : decode cX10_whole 129 = .ok (.i2l, 1) := by decide +kernel
theorem dX10_whole_130 : decode cX10_whole 130 = .ok (.lmul, 1) := by decide +kernel
theorem dX10_whole_131 : decode cX10_whole 131 = .ok (.ldc2_w 206, 3) := by decide +kernel
theorem dX10_whole_134 : decode cX10_whole 134 = .ok (.ldiv, 1) := by decide +kernel
theorem dX10_whole_135 : decode cX10_whole 135 = .ok (.ladd, 1) := by decide +kernel
theorem dX10_whole_136 : decode cX10_whole 136 = .ok (.lastore, 1) := by decide +kernel
theorem dX10_whole_137 : decode cX10_whole 137 = .ok (.iinc 5 (-1), 3) := by decide +kernel
theorem dX10_whole_140 : decode cX10_whole 140 = .ok (.goto (-57), 3) := by decide +kernel
theorem dX10_whole_143 : decode cX10_whole 143 = .ok (.iinc 4 1, 3) := by decide +kernel
theorem dX10_whole_146 : decode cX10_whole 146 = .ok (.goto (-74), 3) := by decide +kernel
theorem dX10_whole_149 : decode cX10_whole 149 = .ok (.lconst 0, 1) := by decide +kernel
theorem dX10_whole_150 : decode cX10_whole 150 = .ok (.lstore 4, 2) := by decide +kernel
theorem dX10_whole_152 : decode cX10_whole 152 = .ok (.iconst 0, 1) := by decide +kernel
theorem dX10_whole_153 : decode cX10_whole 153 = .ok (.istore 6, 2) := by decide +kernel
theorem dX10_whole_155 : decode cX10_whole 155 = .ok (.iload 6, 2) := by decide +kernel
theorem dX10_whole_157 : decode cX10_whole 157 = .ok (.iload_n 1, 1) := by decide +kernel
theorem dX10_whole_158 : decode cX10_whole 158 = .ok (.if_icmp .ge 21, 3) := by decide +kernel
theorem dX10_whole_161 : decode cX10_whole 161 = .ok (.lload 4, 2) := by decide +kernel
theorem dX10_whole_163 : decode cX10_whole 163 = .ok (.aload_n 0, 1) := by decide +kernel
theorem dX10_whole_164 : decode cX10_whole 164 = .ok (.getfield 128, 3) := by decide +kernel
theorem dX10_whole_167 : decode cX10_whole 167 = .ok (.iload 6, 2) := by decide +kernel
theorem dX10_whole_169 : decode cX10_whole 169 = .ok (.laload, 1) := by decide +kernel
theorem dX10_whole_170 : decode cX10_whole 170 = .ok (.ladd, 1) := by decide +kernel
theorem dX10_whole_171 : decode cX10_whole 171 = .ok (.lstore 4, 2) := by decide +kernel
theorem dX10_whole_173 : decode cX10_whole 173 = .ok (.iinc 6 1, 3) := by decide +kernel
theorem dX10_whole_176 : decode cX10_whole 176 = .ok (.goto (-21), 3) := by decide +kernel
theorem dX10_whole_179 : decode cX10_whole 179 = .ok (.lload 4, 2) := by decide +kernel
theorem dX10_whole_181 : decode cX10_whole 181 = .ok (.lreturn, 1) := by decide +kernel
theorem dX10_readSum_0 : decode cX10_readSum 0 = .ok (.aload_n 0, 1) := by decide +kernel
theorem dX10_readSum_1 : decode cX10_readSum 1 = .ok (.getfield 142, 3) := by decide +kernel
theorem dX10_readSum_4 : decode cX10_readSum 4 = .ok (.iload_n 1, 1) := by decide +kernel
theorem dX10_readSum_5 : decode cX10_readSum 5 = .ok (.aload_n 0, 1) := by decide +kernel
theorem dX10_readSum_6 : decode cX10_readSum 6 = .ok (.getfield 261, 3) := by decide +kernel
theorem dX10_readSum_9 : decode cX10_readSum 9 = .ok (.iastore, 1) := by decide +kernel
theorem dX10_readSum_10 : decode cX10_readSum 10 = .ok (.aload_n 0, 1) := by decide +kernel
theorem dX10_readSum_11 : decode cX10_readSum 11 = .ok (.getfield 224, 3) := by decide +kernel
theorem dX10_readSum_14 : decode cX10_readSum 14 = .ok (.ifCond .ne 8, 3) := by decide +kernel
theorem dX10_readSum_17 : decode cX10_readSum 17 = .ok (.aload_n 0, 1) := by decide +kernel
theorem dX10_readSum_18 : decode cX10_readSum 18 = .ok (.iconst 0, 1) := by decide +kernel
theorem dX10_readSum_19 : decode cX10_readSum 19 = .ok (.invokevirtual 358, 3) := by decide +kernel
theorem dX10_readSum_22 : decode cX10_readSum 22 = .ok (.aload_n 0, 1) := by decide +kernel
theorem dX10_readSum_23 : decode cX10_readSum 23 = .ok (.getfield 142, 3) := by decide +kernel
theorem dX10_readSum_26 : decode cX10_readSum 26 = .ok (.iload_n 1, 1) := by decide +kernel
theorem dX10_readSum_27 : decode cX10_readSum 27 = .ok (.iconst 1, 1) := by decide +kernel
theorem dX10_readSum_28 : decode cX10_readSum 28 = .ok (.iadd, 1) := by decide +kernel
theorem dX10_readSum_29 : decode cX10_readSum 29 = .ok (.aload_n 0, 1) := by decide +kernel
theorem dX10_readSum_30 : decode cX10_readSum 30 = .ok (.getfield 261, 3) := by decide +kernel
theorem dX10_readSum_33 : decode cX10_readSum 33 = .ok (.iastore, 1) := by decide +kernel
theorem dX10_readSum_34 : decode cX10_readSum 34 = .ok (.return_, 1) := by decide +kernel
theorem dX10_readOrder_0 : decode cX10_readOrder 0 = .ok (.iconst (-1), 1) := by decide +kernel
theorem dX10_readOrder_1 : decode cX10_readOrder 1 = .ok (.istore_n 1, 1) := by decide +kernel
theorem dX10_readOrder_2 : decode cX10_readOrder 2 = .ok (.iconst 0, 1) := by decide +kernel
theorem dX10_readOrder_3 : decode cX10_readOrder 3 = .ok (.istore_n 2, 1) := by decide +kernel
theorem dX10_readOrder_4 : decode cX10_readOrder 4 = .ok (.iload_n 2, 1) := by decide +kernel
theorem dX10_readOrder_5 : decode cX10_readOrder 5 = .ok (.iconst 4, 1) := by decide +kernel
theorem dX10_readOrder_6 : decode cX10_readOrder 6 = .ok (.if_icmp .ge 28, 3) := by decide +kernel
theorem dX10_readOrder_9 : decode cX10_readOrder 9 = .ok (.aload_n 0, 1) := by decide +kernel
theorem dX10_readOrder_10 : decode cX10_readOrder 10 = .ok (.aload_n 0, 1) := by decide +kernel
theorem dX10_readOrder_11 : decode cX10_readOrder 11 = .ok (.getfield 139, 3) := by decide +kernel
theorem dX10_readOrder_14 : decode cX10_readOrder 14 = .ok (.iload_n 2, 1) := by decide +kernel
theorem dX10_readOrder_15 : decode cX10_readOrder 15 = .ok (.laload, 1) := by decide +kernel
theorem dX10_readOrder_16 : decode cX10_readOrder 16 = .ok (.invokevirtual 280, 3) := by decide +kernel
theorem dX10_readOrder_19 : decode cX10_readOrder 19 = .ok (.ifCond .eq 7, 3) := by decide +kernel
theorem dX10_readOrder_22 : decode cX10_readOrder 22 = .ok (.iload_n 2, 1) := by decide +kernel
theorem dX10_readOrder_23 : decode cX10_readOrder 23 = .ok (.goto 4, 3) := by decide +kernel
theorem dX10_readOrder_26 : decode cX10_readOrder 26 = .ok (.iload_n 1, 1) := by decide +kernel
theorem dX10_readOrder_27 : decode cX10_readOrder 27 = .ok (.istore_n 1, 1) := by decide +kernel
theorem dX10_readOrder_28 : decode cX10_readOrder 28 = .ok (.iinc 2 1, 3) := by decide +kernel
theorem dX10_readOrder_31 : decode cX10_readOrder 31 = .ok (.goto (-27), 3) := by decide +kernel
theorem dX10_readOrder_34 : decode cX10_readOrder 34 = .ok (.aload_n 0, 1) := by decide +kernel
theorem dX10_readOrder_35 : decode cX10_readOrder 35 = .ok (.iload_n 1, 1) := by decide +kernel
theorem dX10_readOrder_36 : decode cX10_readOrder 36 = .ok (.iconst (-1), 1) := by decide +kernel
theorem dX10_readOrder_37 : decode cX10_readOrder 37 = .ok (.if_icmp .eq 16, 3) := by decide +kernel
theorem dX10_readOrder_40 : decode cX10_readOrder 40 = .ok (.aload_n 0, 1) := by decide +kernel
theorem dX10_readOrder_41 : decode cX10_readOrder 41 = .ok (.getfield 355, 3) := by decide +kernel
theorem dX10_readOrder_44 : decode cX10_readOrder 44 = .ok (.bipush 12, 2) := by decide +kernel
theorem dX10_readOrder_46 : decode cX10_readOrder 46 = .ok (.if_icmp .ge 7, 3) := by decide +kernel
theorem dX10_readOrder_49 : decode cX10_readOrder 49 = .ok (.iconst 1, 1) := by decide +kernel
theorem dX10_readOrder_50 : decode cX10_readOrder 50 = .ok (.goto 4, 3) := by decide +kernel
theorem dX10_readOrder_53 : decode cX10_readOrder 53 = .ok (.iconst 0, 1) := by decide +kernel
theorem dX10_readOrder_54 : decode cX10_readOrder 54 = .ok (.invokevirtual 257, 3) := by decide +kernel
theorem dX10_readOrder_57 : decode cX10_readOrder 57 = .ok (.aload_n 0, 1) := by decide +kernel
theorem dX10_readOrder_58 : decode cX10_readOrder 58 = .ok (.getfield 224, 3) := by decide +kernel
theorem dX10_readOrder_61 : decode cX10_readOrder 61 = .ok (.ifCond .eq 4, 3) := by decide +kernel
theorem dX10_readOrder_64 : decode cX10_readOrder 64 = .ok (.return_, 1) := by decide +kernel
theorem dX10_readOrder_65 : decode cX10_readOrder 65 = .ok (.bipush 8, 2) := by decide +kernel
theorem dX10_readOrder_67 : decode cX10_readOrder 67 = .ok (.aload_n 0, 1) := by decide +kernel
theorem dX10_readOrder_68 : decode cX10_readOrder 68 = .ok (.getfield 355, 3) := by decide +kernel
theorem dX10_readOrder_71 : decode cX10_readOrder 71 = .ok (.imul, 1) := by decide +kernel
theorem dX10_readOrder_72 : decode cX10_readOrder 72 = .ok (.istore_n 2, 1) := by decide +kernel
theorem dX10_readOrder_73 : decode cX10_readOrder 73 = .ok (.aload_n 0, 1) := by decide +kernel
theorem dX10_readOrder_74 : decode cX10_readOrder 74 = .ok (.dup, 1) := by decide +kernel
theorem dX10_readOrder_75 : decode cX10_readOrder 75 = .ok (.getfield 355, 3) := by decide +kernel
theorem dX10_readOrder_78 : decode cX10_readOrder 78 = .ok (.iconst 1, 1) := by decide +kernel
theorem dX10_readOrder_79 : decode cX10_readOrder 79 = .ok (.iadd, 1) := by decide +kernel
theorem dX10_readOrder_80 : decode cX10_readOrder 80 = .ok (.putfield 355, 3) := by decide +kernel
theorem dX10_readOrder_83 : decode cX10_readOrder 83 = .ok (.iconst 0, 1) := by decide +kernel
theorem dX10_readOrder_84 : decode cX10_readOrder 84 = .ok (.istore_n 3, 1) := by decide +kernel
theorem dX10_readOrder_85 : decode cX10_readOrder 85 = .ok (.iload_n 3, 1) := by decide +kernel
theorem dX10_readOrder_86 : decode cX10_readOrder 86 = .ok (.bipush 8, 2) := by decide +kernel
theorem dX10_readOrder_88 : decode cX10_readOrder 88 = .ok (.if_icmp .ge 18, 3) := by decide +kernel
theorem dX10_readOrder_91 : decode cX10_readOrder 91 = .ok (.aload_n 0, 1) := by decide +kernel
theorem dX10_readOrder_92 : decode cX10_readOrder 92 = .ok (.getfield 142, 3) := by decide +kernel
theorem dX10_readOrder_95 : decode cX10_readOrder 95 = .ok (.iload_n 2, 1) := by decide +kernel
theorem dX10_readOrder_96 : decode cX10_readOrder 96 = .ok (.iload_n 3, 1) := by decide +kernel
theorem dX10_readOrder_97 : decode cX10_readOrder 97 = .ok (.iadd, 1) := by decide +kernel
theorem dX10_readOrder_98 : decode cX10_readOrder 98 = .ok (.iconst 0, 1) := by decide +kernel
theorem dX10_readOrder_99 : decode cX10_readOrder 99 = .ok (.iastore, 1) := by decide +kernel
theorem dX10_readOrder_100 : decode cX10_readOrder 100 = .ok (.iinc 3 1, 3) := by decide +kernel
theorem dX10_readOrder_103 : decode cX10_readOrder 103 = .ok (.goto (-18), 3) := by decide +kernel
theorem dX10_readOrder_106 : decode cX10_readOrder 106 = .ok (.aload_n 0, 1) := by decide +kernel
theorem dX10_readOrder_107 : decode cX10_readOrder 107 = .ok (.getfield 142, 3) := by decide +kernel
theorem dX10_readOrder_110 : decode cX10_readOrder 110 = .ok (.iload_n 2, 1) := by decide +kernel
theorem dX10_readOrder_111 : decode cX10_readOrder 111 = .ok (.iload_n 1, 1) := by decide +kernel
theorem dX10_readOrder_112 : decode cX10_readOrder 112 = .ok (.iastore, 1) := by decide +kernel
theorem dX10_readOrder_113 : decode cX10_readOrder 113 = .ok (.iload_n 1, 1) := by decide +kernel
theorem dX10_readOrder_114 : decode cX10_readOrder 114 = .ok (.iconst 3, 1) := by decide +kernel
theorem dX10_readOrder_115 : decode cX10_readOrder 115 = .ok (.if_icmp .eq 10, 3) := by decide +kernel
theorem dX10_readOrder_118 : decode cX10_readOrder 118 = .ok (.aload_n 0, 1) := by decide +kernel
theorem dX10_readOrder_119 : decode cX10_readOrder 119 = .ok (.iload_n 2, 1) := by decide +kernel
theorem dX10_readOrder_120 : decode cX10_readOrder 120 = .ok (.iconst 1, 1) := by decide +kernel
theorem dX10_readOrder_121 : decode cX10_readOrder 121 = .ok (.iadd, 1) := by decide +kernel
theorem dX10_readOrder_122 : decode cX10_readOrder 122 = .ok (.invokevirtual 513, 3) := by decide +kernel
theorem dX10_readOrder_125 : decode cX10_readOrder 125 = .ok (.iload_n 1, 1) := by decide +kernel
theorem dX10_readOrder_126 : decode cX10_readOrder 126 = .ok (.ifCond .eq 8, 3) := by decide +kernel
theorem dX10_readOrder_129 : decode cX10_readOrder 129 = .ok (.iload_n 1, 1) := by decide +kernel
theorem dX10_readOrder_130 : decode cX10_readOrder 130 = .ok (.iconst 2, 1) := by decide +kernel
theorem dX10_readOrder_131 : decode cX10_readOrder 131 = .ok (.if_icmp .ne 38, 3) := by decide +kernel
theorem dX10_readOrder_134 : decode cX10_readOrder 134 = .ok (.aload_n 0, 1) := by decide +kernel
theorem dX10_readOrder_135 : decode cX10_readOrder 135 = .ok (.getfield 224, 3) := by decide +kernel
theorem dX10_readOrder_138 : decode cX10_readOrder 138 = .ok (.ifCond .ne 24, 3) := by decide +kernel
theorem dX10_readOrder_141 : decode cX10_readOrder 141 = .ok (.aload_n 0, 1) := by decide +kernel
theorem dX10_readOrder_142 : decode cX10_readOrder 142 = .ok (.aload_n 0, 1) := by decide +kernel
