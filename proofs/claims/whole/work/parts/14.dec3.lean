theorem dX10_fittedBy_23 : decode cX10_fittedBy 23 = .ok (.iconst 0, 1) := by decide +kernel
theorem dX10_fittedBy_24 : decode cX10_fittedBy 24 = .ok (.iaload, 1) := by decide +kernel
theorem dX10_fittedBy_25 : decode cX10_fittedBy 25 = .ok (.if_icmp .ge 38, 3) := by decide +kernel
theorem dX10_fittedBy_28 : decode cX10_fittedBy 28 = .ok (.iload_n 2, 1) := by decide +kernel
theorem dX10_fittedBy_29 : decode cX10_fittedBy 29 = .ok (.iload_n 1, 1) := by decide +kernel
theorem dX10_fittedBy_30 : decode cX10_fittedBy 30 = .ok (.iload_n 3, 1) := by decide +kernel
theorem dX10_fittedBy_31 : decode cX10_fittedBy 31 = .ok (.invokestatic 485, 3) := by decide +kernel
theorem dX10_fittedBy_34 : decode cX10_fittedBy 34 = .ok (.ifCond .eq 20, 3) := by decide +kernel
theorem dX10_fittedBy_37 : decode cX10_fittedBy 37 = .ok (.aload_n 0, 1) := by decide +kernel
theorem dX10_fittedBy_38 : decode cX10_fittedBy 38 = .ok (.iload 4, 2) := by decide +kernel
theorem dX10_fittedBy_40 : decode cX10_fittedBy 40 = .ok (.iload_n 3, 1) := by decide +kernel
theorem dX10_fittedBy_41 : decode cX10_fittedBy 41 = .ok (.invokevirtual 421, 3) := by decide +kernel
theorem dX10_fittedBy_44 : decode cX10_fittedBy 44 = .ok (.ifCond .eq 10, 3) := by decide +kernel
theorem dX10_fittedBy_47 : decode cX10_fittedBy 47 = .ok (.iconst 1, 1) := by decide +kernel
theorem dX10_fittedBy_48 : decode cX10_fittedBy 48 = .ok (.iload 4, 2) := by decide +kernel
theorem dX10_fittedBy_50 : decode cX10_fittedBy 50 = .ok (.ishl, 1) := by decide +kernel
theorem dX10_fittedBy_51 : decode cX10_fittedBy 51 = .ok (.goto 4, 3) := by decide +kernel
theorem dX10_fittedBy_54 : decode cX10_fittedBy 54 = .ok (.iconst 0, 1) := by decide +kernel
theorem dX10_fittedBy_55 : decode cX10_fittedBy 55 = .ok (.ior, 1) := by decide +kernel
theorem dX10_fittedBy_56 : decode cX10_fittedBy 56 = .ok (.istore_n 2, 1) := by decide +kernel
theorem dX10_fittedBy_57 : decode cX10_fittedBy 57 = .ok (.iinc 4 1, 3) := by decide +kernel
theorem dX10_fittedBy_60 : decode cX10_fittedBy 60 = .ok (.goto (-43), 3) := by decide +kernel
theorem dX10_fittedBy_63 : decode cX10_fittedBy 63 = .ok (.iinc 3 1, 3) := by decide +kernel
theorem dX10_fittedBy_66 : decode cX10_fittedBy 66 = .ok (.goto (-62), 3) := by decide +kernel
theorem dX10_fittedBy_69 : decode cX10_fittedBy 69 = .ok (.iload_n 2, 1) := by decide +kernel
theorem dX10_fittedBy_70 : decode cX10_fittedBy 70 = .ok (.ireturn, 1) := by decide +kernel
theorem dX10_all_0 : decode cX10_all 0 = .ok (.aload_n 0, 1) := by decide +kernel
theorem dX10_all_1 : decode cX10_all 1 = .ok (.iconst 0, 1) := by decide +kernel
theorem dX10_all_2 : decode cX10_all 2 = .ok (.putfield 157, 3) := by decide +kernel
theorem dX10_all_5 : decode cX10_all 5 = .ok (.iload_n 1, 1) := by decide +kernel
theorem dX10_all_6 : decode cX10_all 6 = .ok (.i2l, 1) := by decide +kernel
theorem dX10_all_7 : decode cX10_all 7 = .ok (.lconst 0, 1) := by decide +kernel
theorem dX10_all_8 : decode cX10_all 8 = .ok (.lconst 1, 1) := by decide +kernel
theorem dX10_all_9 : decode cX10_all 9 = .ok (.invokestatic 177, 3) := by decide +kernel
theorem dX10_all_12 : decode cX10_all 12 = .ok (.ifCond .ne 5, 3) := by decide +kernel
theorem dX10_all_15 : decode cX10_all 15 = .ok (.iconst (-1), 1) := by decide +kernel
theorem dX10_all_16 : decode cX10_all 16 = .ok (.ireturn, 1) := by decide +kernel
theorem dX10_all_17 : decode cX10_all 17 = .ok (.iconst 1, 1) := by decide +kernel
theorem dX10_all_18 : decode cX10_all 18 = .ok (.aload_n 0, 1) := by decide +kernel
theorem dX10_all_19 : decode cX10_all 19 = .ok (.getfield 13, 3) := by decide +kernel
theorem dX10_all_22 : decode cX10_all 22 = .ok (.iconst 1, 1) := by decide +kernel
theorem dX10_all_23 : decode cX10_all 23 = .ok (.iaload, 1) := by decide +kernel
theorem dX10_all_24 : decode cX10_all 24 = .ok (.ishl, 1) := by decide +kernel
theorem dX10_all_25 : decode cX10_all 25 = .ok (.iconst 1, 1) := by decide +kernel
theorem dX10_all_26 : decode cX10_all 26 = .ok (.isub, 1) := by decide +kernel
theorem dX10_all_27 : decode cX10_all 27 = .ok (.istore_n 2, 1) := by decide +kernel
theorem dX10_all_28 : decode cX10_all 28 = .ok (.ldc_w 478, 3) := by decide +kernel
theorem dX10_all_31 : decode cX10_all 31 = .ok (.istore_n 3, 1) := by decide +kernel
theorem dX10_all_32 : decode cX10_all 32 = .ok (.iconst (-1), 1) := by decide +kernel
theorem dX10_all_33 : decode cX10_all 33 = .ok (.istore 4, 2) := by decide +kernel
theorem dX10_all_35 : decode cX10_all 35 = .ok (.iconst 0, 1) := by decide +kernel
theorem dX10_all_36 : decode cX10_all 36 = .ok (.istore 5, 2) := by decide +kernel
theorem dX10_all_38 : decode cX10_all 38 = .ok (.iload 5, 2) := by decide +kernel
theorem dX10_all_40 : decode cX10_all 40 = .ok (.iload_n 2, 1) := by decide +kernel
theorem dX10_all_41 : decode cX10_all 41 = .ok (.if_icmp .gt 68, 3) := by decide +kernel
theorem dX10_all_44 : decode cX10_all 44 = .ok (.iload 5, 2) := by decide +kernel
theorem dX10_all_46 : decode cX10_all 46 = .ok (.invokestatic 503, 3) := by decide +kernel
theorem dX10_all_49 : decode cX10_all 49 = .ok (.iload_n 3, 1) := by decide +kernel
theorem dX10_all_50 : decode cX10_all 50 = .ok (.if_icmp .ge 21, 3) := by decide +kernel
theorem dX10_all_53 : decode cX10_all 53 = .ok (.aload_n 0, 1) := by decide +kernel
theorem dX10_all_54 : decode cX10_all 54 = .ok (.iload 5, 2) := by decide +kernel
theorem dX10_all_56 : decode cX10_all 56 = .ok (.invokevirtual 506, 3) := by decide +kernel
theorem dX10_all_59 : decode cX10_all 59 = .ok (.aload_n 0, 1) := by decide +kernel
theorem dX10_all_60 : decode cX10_all 60 = .ok (.iload_n 2, 1) := by decide +kernel
theorem dX10_all_61 : decode cX10_all 61 = .ok (.invokevirtual 506, 3) := by decide +kernel
theorem dX10_all_64 : decode cX10_all 64 = .ok (.if_icmp .ne 7, 3) := by decide +kernel
theorem dX10_all_67 : decode cX10_all 67 = .ok (.iconst 1, 1) := by decide +kernel
theorem dX10_all_68 : decode cX10_all 68 = .ok (.goto 4, 3) := by decide +kernel
theorem dX10_all_71 : decode cX10_all 71 = .ok (.iconst 0, 1) := by decide +kernel
theorem dX10_all_72 : decode cX10_all 72 = .ok (.istore 6, 2) := by decide +kernel
theorem dX10_all_74 : decode cX10_all 74 = .ok (.iload 6, 2) := by decide +kernel
theorem dX10_all_76 : decode cX10_all 76 = .ok (.ifCond .eq 8, 3) := by decide +kernel
theorem dX10_all_79 : decode cX10_all 79 = .ok (.iload 5, 2) := by decide +kernel
theorem dX10_all_81 : decode cX10_all 81 = .ok (.goto 5, 3) := by decide +kernel
theorem dX10_all_84 : decode cX10_all 84 = .ok (.iload 4, 2) := by decide +kernel
theorem dX10_all_86 : decode cX10_all 86 = .ok (.istore 4, 2) := by decide +kernel
theorem dX10_all_88 : decode cX10_all 88 = .ok (.iload 6, 2) := by decide +kernel
theorem dX10_all_90 : decode cX10_all 90 = .ok (.ifCond .eq 11, 3) := by decide +kernel
theorem dX10_all_93 : decode cX10_all 93 = .ok (.iload 5, 2) := by decide +kernel
theorem dX10_all_95 : decode cX10_all 95 = .ok (.invokestatic 503, 3) := by decide +kernel
theorem dX10_all_98 : decode cX10_all 98 = .ok (.goto 4, 3) := by decide +kernel
theorem dX10_all_101 : decode cX10_all 101 = .ok (.iload_n 3, 1) := by decide +kernel
theorem dX10_all_102 : decode cX10_all 102 = .ok (.istore_n 3, 1) := by decide +kernel
theorem dX10_all_103 : decode cX10_all 103 = .ok (.iinc 5 1, 3) := by decide +kernel
theorem dX10_all_106 : decode cX10_all 106 = .ok (.goto (-68), 3) := by decide +kernel
theorem dX10_all_109 : decode cX10_all 109 = .ok (.iload_n 1, 1) := by decide +kernel
theorem dX10_all_110 : decode cX10_all 110 = .ok (.ifCond .ne 7, 3) := by decide +kernel
theorem dX10_all_113 : decode cX10_all 113 = .ok (.iload_n 3, 1) := by decide +kernel
theorem dX10_all_114 : decode cX10_all 114 = .ok (.goto 5, 3) := by decide +kernel
theorem dX10_all_117 : decode cX10_all 117 = .ok (.iload 4, 2) := by decide +kernel
theorem dX10_all_119 : decode cX10_all 119 = .ok (.ireturn, 1) := by decide +kernel
theorem dX10_owed_0 : decode cX10_owed 0 = .ok (.aload_n 0, 1) := by decide +kernel
theorem dX10_owed_1 : decode cX10_owed 1 = .ok (.iconst 0, 1) := by decide +kernel
theorem dX10_owed_2 : decode cX10_owed 2 = .ok (.putfield 157, 3) := by decide +kernel
theorem dX10_owed_5 : decode cX10_owed 5 = .ok (.aload_n 0, 1) := by decide +kernel
theorem dX10_owed_6 : decode cX10_owed 6 = .ok (.iload_n 1, 1) := by decide +kernel
theorem dX10_owed_7 : decode cX10_owed 7 = .ok (.invokevirtual 372, 3) := by decide +kernel
theorem dX10_owed_10 : decode cX10_owed 10 = .ok (.ifCond .ne 5, 3) := by decide +kernel
theorem dX10_owed_13 : decode cX10_owed 13 = .ok (.iconst (-1), 1) := by decide +kernel
theorem dX10_owed_14 : decode cX10_owed 14 = .ok (.ireturn, 1) := by decide +kernel
theorem dX10_owed_15 : decode cX10_owed 15 = .ok (.aload_n 0, 1) := by decide +kernel
theorem dX10_owed_16 : decode cX10_owed 16 = .ok (.getfield 13, 3) := by decide +kernel
theorem dX10_owed_19 : decode cX10_owed 19 = .ok (.iconst 3, 1) := by decide +kernel
theorem dX10_owed_20 : decode cX10_owed 20 = .ok (.iaload, 1) := by decide +kernel
theorem dX10_owed_21 : decode cX10_owed 21 = .ok (.istore_n 2, 1) := by decide +kernel
theorem dX10_owed_22 : decode cX10_owed 22 = .ok (.aload_n 0, 1) := by decide +kernel
theorem dX10_owed_23 : decode cX10_owed 23 = .ok (.getfield 13, 3) := by decide +kernel
theorem dX10_owed_26 : decode cX10_owed 26 = .ok (.iconst 3, 1) := by decide +kernel
theorem dX10_owed_27 : decode cX10_owed 27 = .ok (.iload_n 1, 1) := by decide +kernel
theorem dX10_owed_28 : decode cX10_owed 28 = .ok (.iastore, 1) := by decide +kernel
theorem dX10_owed_29 : decode cX10_owed 29 = .ok (.iconst 0, 1) := by decide +kernel
theorem dX10_owed_30 : decode cX10_owed 30 = .ok (.istore_n 3, 1) := by decide +kernel
theorem dX10_owed_31 : decode cX10_owed 31 = .ok (.iconst 0, 1) := by decide +kernel
theorem dX10_owed_32 : decode cX10_owed 32 = .ok (.istore 4, 2) := by decide +kernel
theorem dX10_owed_34 : decode cX10_owed 34 = .ok (.iload 4, 2) := by decide +kernel
theorem dX10_owed_36 : decode cX10_owed 36 = .ok (.aload_n 0, 1) := by decide +kernel
theorem dX10_owed_37 : decode cX10_owed 37 = .ok (.getfield 13, 3) := by decide +kernel
theorem dX10_owed_40 : decode cX10_owed 40 = .ok (.iconst 1, 1) := by decide +kernel
theorem dX10_owed_41 : decode cX10_owed 41 = .ok (.iaload, 1) := by decide +kernel
theorem dX10_owed_42 : decode cX10_owed 42 = .ok (.if_icmp .ge 36, 3) := by decide +kernel
theorem dX10_owed_45 : decode cX10_owed 45 = .ok (.iload_n 3, 1) := by decide +kernel
theorem dX10_owed_46 : decode cX10_owed 46 = .ok (.aload_n 0, 1) := by decide +kernel
theorem dX10_owed_47 : decode cX10_owed 47 = .ok (.getfield 13, 3) := by decide +kernel
theorem dX10_owed_50 : decode cX10_owed 50 = .ok (.bipush 29, 2) := by decide +kernel
theorem dX10_owed_52 : decode cX10_owed 52 = .ok (.iload 4, 2) := by decide +kernel
theorem dX10_owed_54 : decode cX10_owed 54 = .ok (.iadd, 1) := by decide +kernel
theorem dX10_owed_55 : decode cX10_owed 55 = .ok (.iaload, 1) := by decide +kernel
theorem dX10_owed_56 : decode cX10_owed 56 = .ok (.iconst (-1), 1) := by decide +kernel
theorem dX10_owed_57 : decode cX10_owed 57 = .ok (.if_icmp .ne 7, 3) := by decide +kernel
theorem dX10_owed_60 : decode cX10_owed 60 = .ok (.iconst 0, 1) := by decide +kernel
theorem dX10_owed_61 : decode cX10_owed 61 = .ok (.goto 9, 3) := by decide +kernel
theorem dX10_owed_64 : decode cX10_owed 64 = .ok (.aload_n 0, 1) := by decide +kernel
theorem dX10_owed_65 : decode cX10_owed 65 = .ok (.iload 4, 2) := by decide +kernel
theorem dX10_owed_67 : decode cX10_owed 67 = .ok (.invokevirtual 439, 3) := by decide +kernel
theorem dX10_owed_70 : decode cX10_owed 70 = .ok (.iadd, 1) := by decide +kernel
theorem dX10_owed_71 : decode cX10_owed 71 = .ok (.istore_n 3, 1) := by decide +kernel
theorem dX10_owed_72 : decode cX10_owed 72 = .ok (.iinc 4 1, 3) := by decide +kernel
theorem dX10_owed_75 : decode cX10_owed 75 = .ok (.goto (-41), 3) := by decide +kernel
theorem dX10_owed_78 : decode cX10_owed 78 = .ok (.aload_n 0, 1) := by decide +kernel
theorem dX10_owed_79 : decode cX10_owed 79 = .ok (.getfield 13, 3) := by decide +kernel
theorem dX10_owed_82 : decode cX10_owed 82 = .ok (.iconst 3, 1) := by decide +kernel
theorem dX10_owed_83 : decode cX10_owed 83 = .ok (.iload_n 2, 1) := by decide +kernel
theorem dX10_owed_84 : decode cX10_owed 84 = .ok (.iastore, 1) := by decide +kernel
theorem dX10_owed_85 : decode cX10_owed 85 = .ok (.iload_n 3, 1) := by decide +kernel
theorem dX10_owed_86 : decode cX10_owed 86 = .ok (.ireturn, 1) := by decide +kernel
theorem dX10_whole_0 : decode cX10_whole 0 = .ok (.aload_n 0, 1) := by decide +kernel
theorem dX10_whole_1 : decode cX10_whole 1 = .ok (.iconst 0, 1) := by decide +kernel
theorem dX10_whole_2 : decode cX10_whole 2 = .ok (.putfield 157, 3) := by decide +kernel
theorem dX10_whole_5 : decode cX10_whole 5 = .ok (.iload_n 1, 1) := by decide +kernel
theorem dX10_whole_6 : decode cX10_whole 6 = .ok (.i2l, 1) := by decide +kernel
theorem dX10_whole_7 : decode cX10_whole 7 = .ok (.lconst 1, 1) := by decide +kernel
theorem dX10_whole_8 : decode cX10_whole 8 = .ok (.ldc2_w 204, 3) := by decide +kernel
theorem dX10_whole_11 : decode cX10_whole 11 = .ok (.invokestatic 177, 3) := by decide +kernel
theorem dX10_whole_14 : decode cX10_whole 14 = .ok (.ifCond .eq 15, 3) := by decide +kernel
theorem dX10_whole_17 : decode cX10_whole 17 = .ok (.iload_n 2, 1) := by decide +kernel
theorem dX10_whole_18 : decode cX10_whole 18 = .ok (.i2l, 1) := by decide +kernel
theorem dX10_whole_19 : decode cX10_whole 19 = .ok (.lconst 0, 1) := by decide +kernel
theorem dX10_whole_20 : decode cX10_whole 20 = .ok (.ldc2_w 509, 3) := by decide +kernel
theorem dX10_whole_23 : decode cX10_whole 23 = .ok (.invokestatic 177, 3) := by decide +kernel
theorem dX10_whole_26 : decode cX10_whole 26 = .ok (.ifCond .ne 7, 3) := by decide +kernel
theorem dX10_whole_29 : decode cX10_whole 29 = .ok (.ldc2_w 251, 3) := by decide +kernel
theorem dX10_whole_32 : decode cX10_whole 32 = .ok (.lreturn, 1) := by decide +kernel
theorem dX10_whole_33 : decode cX10_whole 33 = .ok (.iconst 0, 1) := by decide +kernel
theorem dX10_whole_34 : decode cX10_whole 34 = .ok (.istore_n 3, 1) := by decide +kernel
theorem dX10_whole_35 : decode cX10_whole 35 = .ok (.iload_n 3, 1) := by decide +kernel
theorem dX10_whole_36 : decode cX10_whole 36 = .ok (.bipush 21, 2) := by decide +kernel
theorem dX10_whole_38 : decode cX10_whole 38 = .ok (.if_icmp .ge 16, 3) := by decide +kernel
theorem dX10_whole_41 : decode cX10_whole 41 = .ok (.aload_n 0, 1) := by decide +kernel
theorem dX10_whole_42 : decode cX10_whole 42 = .ok (.getfield 128, 3) := by decide +kernel
theorem dX10_whole_45 : decode cX10_whole 45 = .ok (.iload_n 3, 1) := by decide +kernel
theorem dX10_whole_46 : decode cX10_whole 46 = .ok (.lconst 0, 1) := by decide +kernel
theorem dX10_whole_47 : decode cX10_whole 47 = .ok (.lastore, 1) := by decide +kernel
theorem dX10_whole_48 : decode cX10_whole 48 = .ok (.iinc 3 1, 3) := by decide +kernel
theorem dX10_whole_51 : decode cX10_whole 51 = .ok (.goto (-16), 3) := by decide +kernel
theorem dX10_whole_54 : decode cX10_whole 54 = .ok (.aload_n 0, 1) := by decide +kernel
theorem dX10_whole_55 : decode cX10_whole 55 = .ok (.getfield 128, 3) := by decide +kernel
theorem dX10_whole_58 : decode cX10_whole 58 = .ok (.iconst 0, 1) := by decide +kernel
theorem dX10_whole_59 : decode cX10_whole 59 = .ok (.ldc2_w 511, 3) := by decide +kernel
theorem dX10_whole_62 : decode cX10_whole 62 = .ok (.lastore, 1) := by decide +kernel
theorem dX10_whole_63 : decode cX10_whole 63 = .ok (.aload_n 0, 1) := by decide +kernel
theorem dX10_whole_64 : decode cX10_whole 64 = .ok (.iconst 2, 1) := by decide +kernel
theorem dX10_whole_65 : decode cX10_whole 65 = .ok (.invokevirtual 398, 3) := by decide +kernel
theorem dX10_whole_68 : decode cX10_whole 68 = .ok (.istore_n 3, 1) := by decide +kernel
theorem dX10_whole_69 : decode cX10_whole 69 = .ok (.iconst 0, 1) := by decide +kernel
theorem dX10_whole_70 : decode cX10_whole 70 = .ok (.istore 4, 2) := by decide +kernel
theorem dX10_whole_72 : decode cX10_whole 72 = .ok (.iload 4, 2) := by decide +kernel
theorem dX10_whole_74 : decode cX10_whole 74 = .ok (.iload_n 2, 1) := by decide +kernel
theorem dX10_whole_75 : decode cX10_whole 75 = .ok (.if_icmp .ge 74, 3) := by decide +kernel
theorem dX10_whole_78 : decode cX10_whole 78 = .ok (.iload_n 1, 1) := by decide +kernel
theorem dX10_whole_79 : decode cX10_whole 79 = .ok (.iconst 1, 1) := by decide +kernel
theorem dX10_whole_80 : decode cX10_whole 80 = .ok (.isub, 1) := by decide +kernel
theorem dX10_whole_81 : decode cX10_whole 81 = .ok (.istore 5, 2) := by decide +kernel
theorem dX10_whole_83 : decode cX10_whole 83 = .ok (.iload 5, 2) := by decide +kernel
theorem dX10_whole_85 : decode cX10_whole 85 = .ok (.ifCond .lt 58, 3) := by decide +kernel
theorem dX10_whole_88 : decode cX10_whole 88 = .ok (.aload_n 0, 1) := by decide +kernel
theorem dX10_whole_89 : decode cX10_whole 89 = .ok (.getfield 128, 3) := by decide +kernel
theorem dX10_whole_92 : decode cX10_whole 92 = .ok (.iload 5, 2) := by decide +kernel
theorem dX10_whole_94 : decode cX10_whole 94 = .ok (.laload, 1) := by decide +kernel
theorem dX10_whole_95 : decode cX10_whole 95 = .ok (.lstore 6, 2) := by decide +kernel
theorem dX10_whole_97 : decode cX10_whole 97 = .ok (.aload_n 0, 1) := by decide +kernel
theorem dX10_whole_98 : decode cX10_whole 98 = .ok (.getfield 128, 3) := by decide +kernel
theorem dX10_whole_101 : decode cX10_whole 101 = .ok (.iload 5, 2) := by decide +kernel
theorem dX10_whole_103 : decode cX10_whole 103 = .ok (.lload 6, 2) := by decide +kernel
theorem dX10_whole_105 : decode cX10_whole 105 = .ok (.bipush 10, 2) := by decide +kernel
theorem dX10_whole_107 : decode cX10_whole 107 = .ok (.iload_n 3, 1) := by decide +kernel
theorem dX10_whole_108 : decode cX10_whole 108 = .ok (.isub, 1) := by decide +kernel
theorem dX10_whole_109 : decode cX10_whole 109 = .ok (.i2l, 1) := by decide +kernel
theorem dX10_whole_110 : decode cX10_whole 110 = .ok (.lmul, 1) := by decide +kernel
theorem dX10_whole_111 : decode cX10_whole 111 = .ok (.ldc2_w 206, 3) := by decide +kernel
theorem dX10_whole_114 : decode cX10_whole 114 = .ok (.ldiv, 1) := by decide +kernel
theorem dX10_whole_115 : decode cX10_whole 115 = .ok (.lastore, 1) := by decide +kernel
theorem dX10_whole_116 : decode cX10_whole 116 = .ok (.aload_n 0, 1) := by decide +kernel
theorem dX10_whole_117 : decode cX10_whole 117 = .ok (.getfield 128, 3) := by decide +kernel
theorem dX10_whole_120 : decode cX10_whole 120 = .ok (.iload 5, 2) := by decide +kernel
theorem dX10_whole_122 : decode cX10_whole 122 = .ok (.iconst 1, 1) := by decide +kernel
theorem dX10_whole_123 : decode cX10_whole 123 = .ok (.iadd, 1) := by decide +kernel
theorem dX10_whole_124 : decode cX10_whole 124 = .ok (.dup2, 1) := by decide +kernel
theorem dX10_whole_125 : decode cX10_whole 125 = .ok (.laload, 1) := by decide +kernel
theorem dX10_whole_126 : decode cX10_whole 126 = .ok (.lload 6, 2) := by decide +kernel
theorem dX10_whole_128 : decode cX10_whole 128 = .ok (.iload_n 3, 1) := by decide +kernel
theorem dX10_whole_129 : decode cX10_whole 129 = .ok (.i2l, 1) := by decide +kernel
theorem dX10_whole_130 : decode cX10_whole 130 = .ok (.lmul, 1) := by decide +kernel
theorem dX10_whole_131 : decode cX10_whole 131 = .ok (.ldc2_w 206, 3) := by decide +kernel
theorem dX10_whole_134 : decode cX10_whole 134 = .ok (.ldiv, 1) := by decide +kernel
theorem dX10_whole_135 : decode cX10_whole 135 = .ok (.ladd, 1) := by decide +kernel
theorem dX10_whole_136 : decode cX10_whole 136 = .ok (.lastore, 1) := by decide +kernel
theorem dX10_whole_137 : decode cX10_whole 137 = .ok (.iinc 5 (-1), 3) := by decide +kernel
theorem dX10_whole_140 : decode cX10_whole 140 = .ok (.goto (-57), 3) := by decide +kernel
theorem dX10_whole_143 : decode cX10_whole 143 = .ok (.iinc 4 1, 3) := by decide +kernel
theorem dX10_whole_146 : decode cX10_whole 146 = .ok (.goto (-74), 3) := by decide +kernel
theorem dX10_whole_149 : decode cX10_whole 149 = .ok (.lconst 0, 1) := by decide +kernel
theorem dX10_whole_150 : decode cX10_whole 150 = .ok (.lstore 4, 2) := by decide +kernel
theorem dX10_whole_152 : decode cX10_whole 152 = .ok (.iconst 0, 1) := by decide +kernel
theorem dX10_whole_153 : decode cX10_whole 153 = .ok (.istore 6, 2) := by decide +kernel
theorem dX10_whole_155 : decode cX10_whole 155 = .ok (.iload 6, 2) := by decide +kernel
theorem dX10_whole_157 : decode cX10_whole 157 = .ok (.iload_n 1, 1) := by decide +kernel
theorem dX10_whole_158 : decode cX10_whole 158 = .ok (.if_icmp .ge 21, 3) := by decide +kernel
theorem dX10_whole_161 : decode cX10_whole 161 = .ok (.lload 4, 2) := by decide +kernel
theorem dX10_whole_163 : decode cX10_whole 163 = .ok (.aload_n 0, 1) := by decide +kernel
theorem dX10_whole_164 : decode cX10_whole 164 = .ok (.getfield 128, 3) := by decide +kernel
theorem dX10_whole_167 : decode cX10_whole 167 = .ok (.iload 6, 2) := by decide +kernel
theorem dX10_whole_169 : decode cX10_whole 169 = .ok (.laload, 1) := by decide +kernel
theorem dX10_whole_170 : decode cX10_whole 170 = .ok (.ladd, 1) := by decide +kernel
theorem dX10_whole_171 : decode cX10_whole 171 = .ok (.lstore 4, 2) := by decide +kernel
theorem dX10_whole_173 : decode cX10_whole 173 = .ok (.iinc 6 1, 3) := by decide +kernel
theorem dX10_whole_176 : decode cX10_whole 176 = .ok (.goto (-21), 3) := by decide +kernel
theorem dX10_whole_179 : decode cX10_whole 179 = .ok (.lload 4, 2) := by decide +kernel
theorem dX10_whole_181 : decode cX10_whole 181 = .ok (.lreturn, 1) := by decide +kernel
theorem dX10_readSum_0 : decode cX10_readSum 0 = .ok (.aload_n 0, 1) := by decide +kernel
theorem dX10_readSum_1 : decode cX10_readSum 1 = .ok (.getfield 142, 3) := by decide +kernel
theorem dX10_readSum_4 : decode cX10_readSum 4 = .ok (.iload_n 1, 1) := by decide +kernel
theorem dX10_readSum_5 : decode cX10_readSum 5 = .ok (.aload_n 0, 1) := by decide +kernel
theorem dX10_readSum_6 : decode cX10_readSum 6 = .ok (.getfield 261, 3) := by decide +kernel
theorem dX10_readSum_9 : decode cX10_readSum 9 = .ok (.iastore, 1) := by decide +kernel
theorem dX10_readSum_10 : decode cX10_readSum 10 = .ok (.aload_n 0, 1) := by decide +kernel
theorem dX10_readSum_11 : decode cX10_readSum 11 = .ok (.getfield 224, 3) := by decide +kernel
theorem dX10_readSum_14 : decode cX10_readSum 14 = .ok (.ifCond .ne 8, 3) := by decide +kernel
theorem dX10_readSum_17 : decode cX10_readSum 17 = .ok (.aload_n 0, 1) := by decide +kernel
theorem dX10_readSum_18 : decode cX10_readSum 18 = .ok (.iconst 0, 1) := by decide +kernel
theorem dX10_readSum_19 : decode cX10_readSum 19 = .ok (.invokevirtual 358, 3) := by decide +kernel
theorem dX10_readSum_22 : decode cX10_readSum 22 = .ok (.aload_n 0, 1) := by decide +kernel
theorem dX10_readSum_23 : decode cX10_readSum 23 = .ok (.getfield 142, 3) := by decide +kernel
theorem dX10_readSum_26 : decode cX10_readSum 26 = .ok (.iload_n 1, 1) := by decide +kernel
theorem dX10_readSum_27 : decode cX10_readSum 27 = .ok (.iconst 1, 1) := by decide +kernel
theorem dX10_readSum_28 : decode cX10_readSum 28 = .ok (.iadd, 1) := by decide +kernel
theorem dX10_readSum_29 : decode cX10_readSum 29 = .ok (.aload_n 0, 1) := by decide +kernel
theorem dX10_readSum_30 : decode cX10_readSum 30 = .ok (.getfield 261, 3) := by decide +kernel
theorem dX10_readSum_33 : decode cX10_readSum 33 = .ok (.iastore, 1) := by decide +kernel
theorem dX10_readSum_34 : decode cX10_readSum 34 = .ok (.return_, 1) := by decide +kernel
theorem dX10_readOrder_0 : decode cX10_readOrder 0 = .ok (.iconst (-1), 1) := by decide +kernel
theorem dX10_readOrder_1 : decode cX10_readOrder 1 = .ok (.istore_n 1, 1) := by decide +kernel
theorem dX10_readOrder_2 : decode cX10_readOrder 2 = .ok (.iconst 0, 1) := by decide +kernel
theorem dX10_readOrder_3 : decode cX10_readOrder 3 = .ok (.istore_n 2, 1) := by decide +kernel
theorem dX10_readOrder_4 : decode cX10_readOrder 4 = .ok (.iload_n 2, 1) := by decide +kernel
theorem dX10_readOrder_5 : decode cX10_readOrder 5 = .ok (.iconst 4, 1) := by decide +kernel
theorem dX10_readOrder_6 : decode cX10_readOrder 6 = .ok (.if_icmp .ge 28, 3) := by decide +kernel
theorem dX10_readOrder_9 : decode cX10_readOrder 9 = .ok (.aload_n 0, 1) := by decide +kernel
theorem dX10_readOrder_10 : decode cX10_readOrder 10 = .ok (.aload_n 0, 1) := by decide +kernel
theorem dX10_readOrder_11 : decode cX10_readOrder 11 = .ok (.getfield 139, 3) := by decide +kernel
theorem dX10_readOrder_14 : decode cX10_readOrder 14 = .ok (.iload_n 2, 1) := by decide +kernel
theorem dX10_readOrder_15 : decode cX10_readOrder 15 = .ok (.laload, 1) := by decide +kernel
theorem dX10_readOrder_16 : decode cX10_readOrder 16 = .ok (.invokevirtual 280, 3) := by decide +kernel
theorem dX10_readOrder_19 : decode cX10_readOrder 19 = .ok (.ifCond .eq 7, 3) := by decide +kernel
theorem dX10_readOrder_22 : decode cX10_readOrder 22 = .ok (.iload_n 2, 1) := by decide +kernel
theorem dX10_readOrder_23 : decode cX10_readOrder 23 = .ok (.goto 4, 3) := by decide +kernel
theorem dX10_readOrder_26 : decode cX10_readOrder 26 = .ok (.iload_n 1, 1) := by decide +kernel
theorem dX10_readOrder_27 : decode cX10_readOrder 27 = .ok (.istore_n 1, 1) := by decide +kernel
theorem dX10_readOrder_28 : decode cX10_readOrder 28 = .ok (.iinc 2 1, 3) := by decide +kernel
theorem dX10_readOrder_31 : decode cX10_readOrder 31 = .ok (.goto (-27), 3) := by decide +kernel
theorem dX10_readOrder_34 : decode cX10_readOrder 34 = .ok (.aload_n 0, 1) := by decide +kernel
theorem dX10_readOrder_35 : decode cX10_readOrder 35 = .ok (.iload_n 1, 1) := by decide +kernel
theorem dX10_readOrder_36 : decode cX10_readOrder 36 = .ok (.iconst (-1), 1) := by decide +kernel
theorem dX10_readOrder_37 : decode cX10_readOrder 37 = .ok (.if_icmp .eq 16, 3) := by decide +kernel
theorem dX10_readOrder_40 : decode cX10_readOrder 40 = .ok (.aload_n 0, 1) := by decide +kernel
theorem dX10_readOrder_41 : decode cX10_readOrder 41 = .ok (.getfield 355, 3) := by decide +kernel
theorem dX10_readOrder_44 : decode cX10_readOrder 44 = .ok (.bipush 12, 2) := by decide +kernel
theorem dX10_readOrder_46 : decode cX10_readOrder 46 = .ok (.if_icmp .ge 7, 3) := by decide +kernel
theorem dX10_readOrder_49 : decode cX10_readOrder 49 = .ok (.iconst 1, 1) := by decide +kernel
theorem dX10_readOrder_50 : decode cX10_readOrder 50 = .ok (.goto 4, 3) := by decide +kernel
theorem dX10_readOrder_53 : decode cX10_readOrder 53 = .ok (.iconst 0, 1) := by decide +kernel
theorem dX10_readOrder_54 : decode cX10_readOrder 54 = .ok (.invokevirtual 257, 3) := by decide +kernel
theorem dX10_readOrder_57 : decode cX10_readOrder 57 = .ok (.aload_n 0, 1) := by decide +kernel
theorem dX10_readOrder_58 : decode cX10_readOrder 58 = .ok (.getfield 224, 3) := by decide +kernel
theorem dX10_readOrder_61 : decode cX10_readOrder 61 = .ok (.ifCond .eq 4, 3) := by decide +kernel
theorem dX10_readOrder_64 : decode cX10_readOrder 64 = .ok (.return_, 1) := by decide +kernel
theorem dX10_readOrder_65 : decode cX10_readOrder 65 = .ok (.bipush 8, 2) := by decide +kernel
theorem dX10_readOrder_67 : decode cX10_readOrder 67 = .ok (.aload_n 0, 1) := by decide +kernel
theorem dX10_readOrder_68 : decode cX10_readOrder 68 = .ok (.getfield 355, 3) := by decide +kernel
theorem dX10_readOrder_71 : decode cX10_readOrder 71 = .ok (.imul, 1) := by decide +kernel
theorem dX10_readOrder_72 : decode cX10_readOrder 72 = .ok (.istore_n 2, 1) := by decide +kernel
theorem dX10_readOrder_73 : decode cX10_readOrder 73 = .ok (.aload_n 0, 1) := by decide +kernel
theorem dX10_readOrder_74 : decode cX10_readOrder 74 = .ok (.dup, 1) := by decide +kernel
theorem dX10_readOrder_75 : decode cX10_readOrder 75 = .ok (.getfield 355, 3) := by decide +kernel
theorem dX10_readOrder_78 : decode cX10_readOrder 78 = .ok (.iconst 1, 1) := by decide +kernel
theorem dX10_readOrder_79 : decode cX10_readOrder 79 = .ok (.iadd, 1) := by decide +kernel
theorem dX10_readOrder_80 : decode cX10_readOrder 80 = .ok (.putfield 355, 3) := by decide +kernel
theorem dX10_readOrder_83 : decode cX10_readOrder 83 = .ok (.iconst 0, 1) := by decide +kernel
theorem dX10_readOrder_84 : decode cX10_readOrder 84 = .ok (.istore_n 3, 1) := by decide +kernel
theorem dX10_readOrder_85 : decode cX10_readOrder 85 = .ok (.iload_n 3, 1) := by decide +kernel
theorem dX10_readOrder_86 : decode cX10_readOrder 86 = .ok (.bipush 8, 2) := by decide +kernel
theorem dX10_readOrder_88 : decode cX10_readOrder 88 = .ok (.if_icmp .ge 18, 3) := by decide +kernel
theorem dX10_readOrder_91 : decode cX10_readOrder 91 = .ok (.aload_n 0, 1) := by decide +kernel
theorem dX10_readOrder_92 : decode cX10_readOrder 92 = .ok (.getfield 142, 3) := by decide +kernel
theorem dX10_readOrder_95 : decode cX10_readOrder 95 = .ok (.iload_n 2, 1) := by decide +kernel
theorem dX10_readOrder_96 : decode cX10_readOrder 96 = .ok (.iload_n 3, 1) := by decide +kernel
theorem dX10_readOrder_97 : decode cX10_readOrder 97 = .ok (.iadd, 1) := by decide +kernel
theorem dX10_readOrder_98 : decode cX10_readOrder 98 = .ok (.iconst 0, 1) := by decide +kernel
theorem dX10_readOrder_99 : decode cX10_readOrder 99 = .ok (.iastore, 1) := by decide +kernel
theorem dX10_readOrder_100 : decode cX10_readOrder 100 = .ok (.iinc 3 1, 3) := by decide +kernel
theorem dX10_readOrder_103 : decode cX10_readOrder 103 = .ok (.goto (-18), 3) := by decide +kernel
theorem dX10_readOrder_106 : decode cX10_readOrder 106 = .ok (.aload_n 0, 1) := by decide +kernel
theorem dX10_readOrder_107 : decode cX10_readOrder 107 = .ok (.getfield 142, 3) := by decide +kernel
theorem dX10_readOrder_110 : decode cX10_readOrder 110 = .ok (.iload_n 2, 1) := by decide +kernel
theorem dX10_readOrder_111 : decode cX10_readOrder 111 = .ok (.iload_n 1, 1) := by decide +kernel
theorem dX10_readOrder_112 : decode cX10_readOrder 112 = .ok (.iastore, 1) := by decide +kernel
theorem dX10_readOrder_113 : decode cX10_readOrder 113 = .ok (.iload_n 1, 1) := by decide +kernel
theorem dX10_readOrder_114 : decode cX10_readOrder 114 = .ok (.iconst 3, 1) := by decide +kernel
theorem dX10_readOrder_115 : decode cX10_readOrder 115 = .ok (.if_icmp .eq 10, 3) := by decide +kernel
theorem dX10_readOrder_118 : decode cX10_readOrder 118 = .ok (.aload_n 0, 1) := by decide +kernel
theorem dX10_readOrder_119 : decode cX10_readOrder 119 = .ok (.iload_n 2, 1) := by decide +kernel
theorem dX10_readOrder_120 : decode cX10_readOrder 120 = .ok (.iconst 1, 1) := by decide +kernel
theorem dX10_readOrder_121 : decode cX10_readOrder 121 = .ok (.iadd, 1) := by decide +kernel
theorem dX10_readOrder_122 : decode cX10_readOrder 122 = .ok (.invokevirtual 513, 3) := by decide +kernel
theorem dX10_readOrder_125 : decode cX10_readOrder 125 = .ok (.iload_n 1, 1) := by decide +kernel
theorem dX10_readOrder_126 : decode cX10_readOrder 126 = .ok (.ifCond .eq 8, 3) := by decide +kernel
theorem dX10_readOrder_129 : decode cX10_readOrder 129 = .ok (.iload_n 1, 1) := by decide +kernel
theorem dX10_readOrder_130 : decode cX10_readOrder 130 = .ok (.iconst 2, 1) := by decide +kernel
theorem dX10_readOrder_131 : decode cX10_readOrder 131 = .ok (.if_icmp .ne 38, 3) := by decide +kernel
theorem dX10_readOrder_134 : decode cX10_readOrder 134 = .ok (.aload_n 0, 1) := by decide +kernel
theorem dX10_readOrder_135 : decode cX10_readOrder 135 = .ok (.getfield 224, 3) := by decide +kernel
theorem dX10_readOrder_138 : decode cX10_readOrder 138 = .ok (.ifCond .ne 24, 3) := by decide +kernel
theorem dX10_readOrder_141 : decode cX10_readOrder 141 = .ok (.aload_n 0, 1) := by decide +kernel
theorem dX10_readOrder_142 : decode cX10_readOrder 142 = .ok (.aload_n 0, 1) := by decide +kernel
theorem dX10_readOrder_143 : decode cX10_readOrder 143 = .ok (.iload_n 1, 1) := by decide +kernel
theorem dX10_readOrder_144 : decode cX10_readOrder 144 = .ok (.ifCond .ne 9, 3) := by decide +kernel
theorem dX10_readOrder_147 : decode cX10_readOrder 147 = .ok (.ldc2_w 516, 3) := by decide +kernel
theorem dX10_readOrder_150 : decode cX10_readOrder 150 = .ok (.goto 6, 3) := by decide +kernel
theorem dX10_readOrder_153 : decode cX10_readOrder 153 = .ok (.ldc2_w 518, 3) := by decide +kernel
theorem dX10_readOrder_156 : decode cX10_readOrder 156 = .ok (.invokevirtual 280, 3) := by decide +kernel
theorem dX10_readOrder_159 : decode cX10_readOrder 159 = .ok (.invokevirtual 257, 3) := by decide +kernel
theorem dX10_readOrder_162 : decode cX10_readOrder 162 = .ok (.aload_n 0, 1) := by decide +kernel
theorem dX10_readOrder_163 : decode cX10_readOrder 163 = .ok (.iload_n 2, 1) := by decide +kernel
theorem dX10_readOrder_164 : decode cX10_readOrder 164 = .ok (.iconst 3, 1) := by decide +kernel
theorem dX10_readOrder_165 : decode cX10_readOrder 165 = .ok (.iadd, 1) := by decide +kernel
theorem dX10_readOrder_166 : decode cX10_readOrder 166 = .ok (.invokevirtual 513, 3) := by decide +kernel
theorem dX10_readOrder_169 : decode cX10_readOrder 169 = .ok (.aload_n 0, 1) := by decide +kernel
theorem dX10_readOrder_170 : decode cX10_readOrder 170 = .ok (.getfield 142, 3) := by decide +kernel
theorem dX10_readOrder_173 : decode cX10_readOrder 173 = .ok (.iload_n 2, 1) := by decide +kernel
theorem dX10_readOrder_174 : decode cX10_readOrder 174 = .ok (.bipush 7, 2) := by decide +kernel
theorem dX10_readOrder_176 : decode cX10_readOrder 176 = .ok (.iadd, 1) := by decide +kernel
theorem dX10_readOrder_177 : decode cX10_readOrder 177 = .ok (.iconst 1, 1) := by decide +kernel
theorem dX10_readOrder_178 : decode cX10_readOrder 178 = .ok (.iastore, 1) := by decide +kernel
theorem dX10_readOrder_179 : decode cX10_readOrder 179 = .ok (.aload_n 0, 1) := by decide +kernel
theorem dX10_readOrder_180 : decode cX10_readOrder 180 = .ok (.getfield 224, 3) := by decide +kernel
theorem dX10_readOrder_183 : decode cX10_readOrder 183 = .ok (.ifCond .ne 34, 3) := by decide +kernel
theorem dX10_readOrder_186 : decode cX10_readOrder 186 = .ok (.aload_n 0, 1) := by decide +kernel
theorem dX10_readOrder_187 : decode cX10_readOrder 187 = .ok (.ldc2_w 520, 3) := by decide +kernel
theorem dX10_readOrder_190 : decode cX10_readOrder 190 = .ok (.invokevirtual 280, 3) := by decide +kernel
theorem dX10_readOrder_193 : decode cX10_readOrder 193 = .ok (.ifCond .eq 24, 3) := by decide +kernel
theorem dX10_readOrder_196 : decode cX10_readOrder 196 = .ok (.aload_n 0, 1) := by decide +kernel
theorem dX10_readOrder_197 : decode cX10_readOrder 197 = .ok (.invokevirtual 228, 3) := by decide +kernel
theorem dX10_readOrder_200 : decode cX10_readOrder 200 = .ok (.aload_n 0, 1) := by decide +kernel
theorem dX10_readOrder_201 : decode cX10_readOrder 201 = .ok (.getfield 142, 3) := by decide +kernel
theorem dX10_readOrder_204 : decode cX10_readOrder 204 = .ok (.iload_n 2, 1) := by decide +kernel
theorem dX10_readOrder_205 : decode cX10_readOrder 205 = .ok (.bipush 7, 2) := by decide +kernel
theorem dX10_readOrder_207 : decode cX10_readOrder 207 = .ok (.iadd, 1) := by decide +kernel
theorem dX10_readOrder_208 : decode cX10_readOrder 208 = .ok (.aload_n 0, 1) := by decide +kernel
theorem dX10_readOrder_209 : decode cX10_readOrder 209 = .ok (.lconst 1, 1) := by decide +kernel
theorem dX10_readOrder_210 : decode cX10_readOrder 210 = .ok (.ldc2_w 204, 3) := by decide +kernel
theorem dX10_readOrder_213 : decode cX10_readOrder 213 = .ok (.invokevirtual 319, 3) := by decide +kernel
theorem dX10_readOrder_216 : decode cX10_readOrder 216 = .ok (.iastore, 1) := by decide +kernel
theorem dX10_readOrder_217 : decode cX10_readOrder 217 = .ok (.aload_n 0, 1) := by decide +kernel
theorem dX10_readOrder_218 : decode cX10_readOrder 218 = .ok (.getfield 142, 3) := by decide +kernel
theorem dX10_readOrder_221 : decode cX10_readOrder 221 = .ok (.iload_n 2, 1) := by decide +kernel
theorem dX10_readOrder_222 : decode cX10_readOrder 222 = .ok (.iconst 5, 1) := by decide +kernel
theorem dX10_readOrder_223 : decode cX10_readOrder 223 = .ok (.iadd, 1) := by decide +kernel
theorem dX10_readOrder_224 : decode cX10_readOrder 224 = .ok (.aload_n 0, 1) := by decide +kernel
theorem dX10_readOrder_225 : decode cX10_readOrder 225 = .ok (.getfield 261, 3) := by decide +kernel
theorem dX10_readOrder_228 : decode cX10_readOrder 228 = .ok (.iastore, 1) := by decide +kernel
theorem dX10_readOrder_229 : decode cX10_readOrder 229 = .ok (.aload_n 0, 1) := by decide +kernel
theorem dX10_readOrder_230 : decode cX10_readOrder 230 = .ok (.getfield 224, 3) := by decide +kernel
theorem dX10_readOrder_233 : decode cX10_readOrder 233 = .ok (.ifCond .ne 22, 3) := by decide +kernel
theorem dX10_readOrder_236 : decode cX10_readOrder 236 = .ok (.aload_n 0, 1) := by decide +kernel
theorem dX10_readOrder_237 : decode cX10_readOrder 237 = .ok (.ldc2_w 361, 3) := by decide +kernel
theorem dX10_readOrder_240 : decode cX10_readOrder 240 = .ok (.invokevirtual 280, 3) := by decide +kernel
theorem dX10_readOrder_243 : decode cX10_readOrder 243 = .ok (.ifCond .eq 12, 3) := by decide +kernel
theorem dX10_readOrder_246 : decode cX10_readOrder 246 = .ok (.aload_n 0, 1) := by decide +kernel
theorem dX10_readOrder_247 : decode cX10_readOrder 247 = .ok (.invokevirtual 228, 3) := by decide +kernel
theorem dX10_readOrder_250 : decode cX10_readOrder 250 = .ok (.aload_n 0, 1) := by decide +kernel
theorem dX10_readOrder_251 : decode cX10_readOrder 251 = .ok (.iconst 1, 1) := by decide +kernel
theorem dX10_readOrder_252 : decode cX10_readOrder 252 = .ok (.invokevirtual 358, 3) := by decide +kernel
theorem dX10_readOrder_255 : decode cX10_readOrder 255 = .ok (.aload_n 0, 1) := by decide +kernel
theorem dX10_readOrder_256 : decode cX10_readOrder 256 = .ok (.getfield 142, 3) := by decide +kernel
theorem dX10_readOrder_259 : decode cX10_readOrder 259 = .ok (.iload_n 2, 1) := by decide +kernel
theorem dX10_readOrder_260 : decode cX10_readOrder 260 = .ok (.bipush 6, 2) := by decide +kernel
theorem dX10_readOrder_262 : decode cX10_readOrder 262 = .ok (.iadd, 1) := by decide +kernel
theorem dX10_readOrder_263 : decode cX10_readOrder 263 = .ok (.aload_n 0, 1) := by decide +kernel
theorem dX10_readOrder_264 : decode cX10_readOrder 264 = .ok (.getfield 261, 3) := by decide +kernel
theorem dX10_readOrder_267 : decode cX10_readOrder 267 = .ok (.iastore, 1) := by decide +kernel
theorem dX10_readOrder_268 : decode cX10_readOrder 268 = .ok (.return_, 1) := by decide +kernel
theorem dX10_sumOf_0 : decode cX10_sumOf 0 = .ok (.aload_n 0, 1) := by decide +kernel
theorem dX10_sumOf_1 : decode cX10_sumOf 1 = .ok (.getfield 522, 3) := by decide +kernel
theorem dX10_sumOf_4 : decode cX10_sumOf 4 = .ok (.ifCond .ne 20, 3) := by decide +kernel
theorem dX10_sumOf_7 : decode cX10_sumOf 7 = .ok (.aload_n 0, 1) := by decide +kernel
theorem dX10_sumOf_8 : decode cX10_sumOf 8 = .ok (.getfield 142, 3) := by decide +kernel
theorem dX10_sumOf_11 : decode cX10_sumOf 11 = .ok (.iload_n 1, 1) := by decide +kernel
theorem dX10_sumOf_12 : decode cX10_sumOf 12 = .ok (.iaload, 1) := by decide +kernel
theorem dX10_sumOf_13 : decode cX10_sumOf 13 = .ok (.aload_n 0, 1) := by decide +kernel
theorem dX10_sumOf_14 : decode cX10_sumOf 14 = .ok (.getfield 142, 3) := by decide +kernel
theorem dX10_sumOf_17 : decode cX10_sumOf 17 = .ok (.iload_n 1, 1) := by decide +kernel
theorem dX10_sumOf_18 : decode cX10_sumOf 18 = .ok (.iconst 1, 1) := by decide +kernel
theorem dX10_sumOf_19 : decode cX10_sumOf 19 = .ok (.iadd, 1) := by decide +kernel
theorem dX10_sumOf_20 : decode cX10_sumOf 20 = .ok (.iaload, 1) := by decide +kernel
theorem dX10_sumOf_21 : decode cX10_sumOf 21 = .ok (.if_icmp .ne 5, 3) := by decide +kernel
theorem dX10_sumOf_24 : decode cX10_sumOf 24 = .ok (.iconst (-1), 1) := by decide +kernel
theorem dX10_sumOf_25 : decode cX10_sumOf 25 = .ok (.ireturn, 1) := by decide +kernel
theorem dX10_sumOf_26 : decode cX10_sumOf 26 = .ok (.aload_n 0, 1) := by decide +kernel
theorem dX10_sumOf_27 : decode cX10_sumOf 27 = .ok (.iconst 1, 1) := by decide +kernel
theorem dX10_sumOf_28 : decode cX10_sumOf 28 = .ok (.putfield 299, 3) := by decide +kernel
theorem dX10_sumOf_31 : decode cX10_sumOf 31 = .ok (.aload_n 0, 1) := by decide +kernel
theorem dX10_sumOf_32 : decode cX10_sumOf 32 = .ok (.aload_n 0, 1) := by decide +kernel
theorem dX10_sumOf_33 : decode cX10_sumOf 33 = .ok (.getfield 142, 3) := by decide +kernel
theorem dX10_sumOf_36 : decode cX10_sumOf 36 = .ok (.iload_n 1, 1) := by decide +kernel
theorem dX10_sumOf_37 : decode cX10_sumOf 37 = .ok (.iaload, 1) := by decide +kernel
theorem dX10_sumOf_38 : decode cX10_sumOf 38 = .ok (.aload_n 0, 1) := by decide +kernel
theorem dX10_sumOf_39 : decode cX10_sumOf 39 = .ok (.getfield 142, 3) := by decide +kernel
theorem dX10_sumOf_42 : decode cX10_sumOf 42 = .ok (.iload_n 1, 1) := by decide +kernel
theorem dX10_sumOf_43 : decode cX10_sumOf 43 = .ok (.iconst 1, 1) := by decide +kernel
theorem dX10_sumOf_44 : decode cX10_sumOf 44 = .ok (.iadd, 1) := by decide +kernel
theorem dX10_sumOf_45 : decode cX10_sumOf 45 = .ok (.iaload, 1) := by decide +kernel
theorem dX10_sumOf_46 : decode cX10_sumOf 46 = .ok (.invokevirtual 392, 3) := by decide +kernel
theorem dX10_sumOf_49 : decode cX10_sumOf 49 = .ok (.aload_n 0, 1) := by decide +kernel
theorem dX10_sumOf_50 : decode cX10_sumOf 50 = .ok (.iconst 0, 1) := by decide +kernel
theorem dX10_sumOf_51 : decode cX10_sumOf 51 = .ok (.putfield 299, 3) := by decide +kernel
theorem dX10_sumOf_54 : decode cX10_sumOf 54 = .ok (.aload_n 0, 1) := by decide +kernel
theorem dX10_sumOf_55 : decode cX10_sumOf 55 = .ok (.aload_n 0, 1) := by decide +kernel
theorem dX10_sumOf_56 : decode cX10_sumOf 56 = .ok (.getfield 375, 3) := by decide +kernel
theorem dX10_sumOf_59 : decode cX10_sumOf 59 = .ok (.putfield 522, 3) := by decide +kernel
theorem dX10_sumOf_62 : decode cX10_sumOf 62 = .ok (.aload_n 0, 1) := by decide +kernel
theorem dX10_sumOf_63 : decode cX10_sumOf 63 = .ok (.getfield 389, 3) := by decide +kernel
theorem dX10_sumOf_66 : decode cX10_sumOf 66 = .ok (.l2i, 1) := by decide +kernel
theorem dX10_sumOf_67 : decode cX10_sumOf 67 = .ok (.ireturn, 1) := by decide +kernel
theorem dX10_act_0 : decode cX10_act 0 = .ok (.iload_n 1, 1) := by decide +kernel
theorem dX10_act_1 : decode cX10_act 1 = .ok (.tableswitch 47 0 2 #[27, 34, 40], 27) := by decide +kernel
theorem dX10_act_28 : decode cX10_act 28 = .ok (.aload_n 0, 1) := by decide +kernel
theorem dX10_act_29 : decode cX10_act 29 = .ok (.iload_n 2, 1) := by decide +kernel
theorem dX10_act_30 : decode cX10_act 30 = .ok (.iload_n 3, 1) := by decide +kernel
theorem dX10_act_31 : decode cX10_act 31 = .ok (.invokevirtual 457, 3) := by decide +kernel
theorem dX10_act_34 : decode cX10_act 34 = .ok (.ireturn, 1) := by decide +kernel
theorem dX10_act_35 : decode cX10_act 35 = .ok (.aload_n 0, 1) := by decide +kernel
theorem dX10_act_36 : decode cX10_act 36 = .ok (.iload_n 2, 1) := by decide +kernel
theorem dX10_act_37 : decode cX10_act 37 = .ok (.invokevirtual 460, 3) := by decide +kernel
theorem dX10_act_40 : decode cX10_act 40 = .ok (.ireturn, 1) := by decide +kernel
theorem dX10_act_41 : decode cX10_act 41 = .ok (.aload_n 0, 1) := by decide +kernel
theorem dX10_act_42 : decode cX10_act 42 = .ok (.iload_n 2, 1) := by decide +kernel
theorem dX10_act_43 : decode cX10_act 43 = .ok (.iload_n 3, 1) := by decide +kernel
theorem dX10_act_44 : decode cX10_act 44 = .ok (.invokevirtual 463, 3) := by decide +kernel
theorem dX10_act_47 : decode cX10_act 47 = .ok (.ireturn, 1) := by decide +kernel
theorem dX10_act_48 : decode cX10_act 48 = .ok (.aload_n 0, 1) := by decide +kernel
theorem dX10_act_49 : decode cX10_act 49 = .ok (.invokevirtual 469, 3) := by decide +kernel
theorem dX10_act_52 : decode cX10_act 52 = .ok (.ireturn, 1) := by decide +kernel
theorem dX10_run_0 : decode cX10_run 0 = .ok (.aload_n 0, 1) := by decide +kernel
theorem dX10_run_1 : decode cX10_run 1 = .ok (.getfield 104, 3) := by decide +kernel
theorem dX10_run_4 : decode cX10_run 4 = .ok (.iconst 1, 1) := by decide +kernel
theorem dX10_run_5 : decode cX10_run 5 = .ok (.aload_n 0, 1) := by decide +kernel
theorem dX10_run_6 : decode cX10_run 6 = .ok (.iconst 0, 1) := by decide +kernel
theorem dX10_run_7 : decode cX10_run 7 = .ok (.invokevirtual 398, 3) := by decide +kernel
theorem dX10_run_10 : decode cX10_run 10 = .ok (.i2l, 1) := by decide +kernel
theorem dX10_run_11 : decode cX10_run 11 = .ok (.lastore, 1) := by decide +kernel
theorem dX10_run_12 : decode cX10_run 12 = .ok (.aload_n 0, 1) := by decide +kernel
theorem dX10_run_13 : decode cX10_run 13 = .ok (.getfield 104, 3) := by decide +kernel
theorem dX10_run_16 : decode cX10_run 16 = .ok (.iconst 2, 1) := by decide +kernel
theorem dX10_run_17 : decode cX10_run 17 = .ok (.aload_n 0, 1) := by decide +kernel
theorem dX10_run_18 : decode cX10_run 18 = .ok (.getfield 525, 3) := by decide +kernel
theorem dX10_run_21 : decode cX10_run 21 = .ok (.i2l, 1) := by decide +kernel
theorem dX10_run_22 : decode cX10_run 22 = .ok (.lastore, 1) := by decide +kernel
theorem dX10_run_23 : decode cX10_run 23 = .ok (.aload_n 0, 1) := by decide +kernel
theorem dX10_run_24 : decode cX10_run 24 = .ok (.getfield 104, 3) := by decide +kernel
theorem dX10_run_27 : decode cX10_run 27 = .ok (.iconst 3, 1) := by decide +kernel
theorem dX10_run_28 : decode cX10_run 28 = .ok (.aload_n 0, 1) := by decide +kernel
theorem dX10_run_29 : decode cX10_run 29 = .ok (.getfield 528, 3) := by decide +kernel
theorem dX10_run_32 : decode cX10_run 32 = .ok (.i2l, 1) := by decide +kernel
theorem dX10_run_33 : decode cX10_run 33 = .ok (.lastore, 1) := by decide +kernel
theorem dX10_run_34 : decode cX10_run 34 = .ok (.aload_n 0, 1) := by decide +kernel
theorem dX10_run_35 : decode cX10_run 35 = .ok (.getfield 104, 3) := by decide +kernel
theorem dX10_run_38 : decode cX10_run 38 = .ok (.iconst 4, 1) := by decide +kernel
theorem dX10_run_39 : decode cX10_run 39 = .ok (.aload_n 0, 1) := by decide +kernel
theorem dX10_run_40 : decode cX10_run 40 = .ok (.getfield 13, 3) := by decide +kernel
theorem dX10_run_43 : decode cX10_run 43 = .ok (.bipush 8, 2) := by decide +kernel
theorem dX10_run_45 : decode cX10_run 45 = .ok (.iaload, 1) := by decide +kernel
theorem dX10_run_46 : decode cX10_run 46 = .ok (.i2l, 1) := by decide +kernel
theorem dX10_run_47 : decode cX10_run 47 = .ok (.lastore, 1) := by decide +kernel
theorem dX10_run_48 : decode cX10_run 48 = .ok (.aload_n 0, 1) := by decide +kernel
theorem dX10_run_49 : decode cX10_run 49 = .ok (.iconst 0, 1) := by decide +kernel
theorem dX10_run_50 : decode cX10_run 50 = .ok (.putfield 522, 3) := by decide +kernel
theorem dX10_run_53 : decode cX10_run 53 = .ok (.aload_n 0, 1) := by decide +kernel
theorem dX10_run_54 : decode cX10_run 54 = .ok (.getfield 142, 3) := by decide +kernel
theorem dX10_run_57 : decode cX10_run 57 = .ok (.iload_n 1, 1) := by decide +kernel
theorem dX10_run_58 : decode cX10_run 58 = .ok (.iconst 5, 1) := by decide +kernel
theorem dX10_run_59 : decode cX10_run 59 = .ok (.iadd, 1) := by decide +kernel
theorem dX10_run_60 : decode cX10_run 60 = .ok (.iaload, 1) := by decide +kernel
theorem dX10_run_61 : decode cX10_run 61 = .ok (.aload_n 0, 1) := by decide +kernel
theorem dX10_run_62 : decode cX10_run 62 = .ok (.getfield 142, 3) := by decide +kernel
theorem dX10_run_65 : decode cX10_run 65 = .ok (.iload_n 1, 1) := by decide +kernel
theorem dX10_run_66 : decode cX10_run 66 = .ok (.bipush 6, 2) := by decide +kernel
theorem dX10_run_68 : decode cX10_run 68 = .ok (.iadd, 1) := by decide +kernel
theorem dX10_run_69 : decode cX10_run 69 = .ok (.iaload, 1) := by decide +kernel
theorem dX10_run_70 : decode cX10_run 70 = .ok (.if_icmp .ge 24, 3) := by decide +kernel
theorem dX10_run_73 : decode cX10_run 73 = .ok (.aload_n 0, 1) := by decide +kernel
theorem dX10_run_74 : decode cX10_run 74 = .ok (.iload_n 1, 1) := by decide +kernel
theorem dX10_run_75 : decode cX10_run 75 = .ok (.iconst 5, 1) := by decide +kernel
theorem dX10_run_76 : decode cX10_run 76 = .ok (.iadd, 1) := by decide +kernel
theorem dX10_run_77 : decode cX10_run 77 = .ok (.invokevirtual 531, 3) := by decide +kernel
theorem dX10_run_80 : decode cX10_run 80 = .ok (.istore_n 2, 1) := by decide +kernel
theorem dX10_run_81 : decode cX10_run 81 = .ok (.aload_n 0, 1) := by decide +kernel
theorem dX10_run_82 : decode cX10_run 82 = .ok (.getfield 522, 3) := by decide +kernel
theorem dX10_run_85 : decode cX10_run 85 = .ok (.ifCond .ne 7, 3) := by decide +kernel
theorem dX10_run_88 : decode cX10_run 88 = .ok (.iload_n 2, 1) := by decide +kernel
theorem dX10_run_89 : decode cX10_run 89 = .ok (.ifCond .ne 5, 3) := by decide +kernel
theorem dX10_run_92 : decode cX10_run 92 = .ok (.iconst 0, 1) := by decide +kernel
theorem dX10_run_93 : decode cX10_run 93 = .ok (.ireturn, 1) := by decide +kernel
theorem dX10_run_94 : decode cX10_run 94 = .ok (.aload_n 0, 1) := by decide +kernel
theorem dX10_run_95 : decode cX10_run 95 = .ok (.iload_n 1, 1) := by decide +kernel
theorem dX10_run_96 : decode cX10_run 96 = .ok (.iconst 1, 1) := by decide +kernel
theorem dX10_run_97 : decode cX10_run 97 = .ok (.iadd, 1) := by decide +kernel
theorem dX10_run_98 : decode cX10_run 98 = .ok (.invokevirtual 531, 3) := by decide +kernel
theorem dX10_run_101 : decode cX10_run 101 = .ok (.istore_n 2, 1) := by decide +kernel
theorem dX10_run_102 : decode cX10_run 102 = .ok (.aload_n 0, 1) := by decide +kernel
theorem dX10_run_103 : decode cX10_run 103 = .ok (.iload_n 1, 1) := by decide +kernel
theorem dX10_run_104 : decode cX10_run 104 = .ok (.iconst 3, 1) := by decide +kernel
theorem dX10_run_105 : decode cX10_run 105 = .ok (.iadd, 1) := by decide +kernel
theorem dX10_run_106 : decode cX10_run 106 = .ok (.invokevirtual 531, 3) := by decide +kernel
theorem dX10_run_109 : decode cX10_run 109 = .ok (.istore_n 3, 1) := by decide +kernel
theorem dX10_run_110 : decode cX10_run 110 = .ok (.aload_n 0, 1) := by decide +kernel
theorem dX10_run_111 : decode cX10_run 111 = .ok (.getfield 522, 3) := by decide +kernel
theorem dX10_run_114 : decode cX10_run 114 = .ok (.ifCond .eq 6, 3) := by decide +kernel
theorem dX10_run_117 : decode cX10_run 117 = .ok (.bipush (-3), 2) := by decide +kernel
theorem dX10_run_119 : decode cX10_run 119 = .ok (.ireturn, 1) := by decide +kernel
theorem dX10_run_120 : decode cX10_run 120 = .ok (.aload_n 0, 1) := by decide +kernel
theorem dX10_run_121 : decode cX10_run 121 = .ok (.aload_n 0, 1) := by decide +kernel
theorem dX10_run_122 : decode cX10_run 122 = .ok (.getfield 142, 3) := by decide +kernel
theorem dX10_run_125 : decode cX10_run 125 = .ok (.iload_n 1, 1) := by decide +kernel
theorem dX10_run_126 : decode cX10_run 126 = .ok (.iaload, 1) := by decide +kernel
theorem dX10_run_127 : decode cX10_run 127 = .ok (.iload_n 2, 1) := by decide +kernel
theorem dX10_run_128 : decode cX10_run 128 = .ok (.iload_n 3, 1) := by decide +kernel
theorem dX10_run_129 : decode cX10_run 129 = .ok (.invokevirtual 534, 3) := by decide +kernel
theorem dX10_run_132 : decode cX10_run 132 = .ok (.istore 4, 2) := by decide +kernel
theorem dX10_run_134 : decode cX10_run 134 = .ok (.iload 4, 2) := by decide +kernel
theorem dX10_run_136 : decode cX10_run 136 = .ok (.ifCond .ge 6, 3) := by decide +kernel
theorem dX10_run_139 : decode cX10_run 139 = .ok (.bipush (-3), 2) := by decide +kernel
theorem dX10_run_141 : decode cX10_run 141 = .ok (.ireturn, 1) := by decide +kernel
theorem dX10_run_142 : decode cX10_run 142 = .ok (.aload_n 0, 1) := by decide +kernel
theorem dX10_run_143 : decode cX10_run 143 = .ok (.aload_n 0, 1) := by decide +kernel
theorem dX10_run_144 : decode cX10_run 144 = .ok (.getfield 142, 3) := by decide +kernel
theorem dX10_run_147 : decode cX10_run 147 = .ok (.iload_n 1, 1) := by decide +kernel
theorem dX10_run_148 : decode cX10_run 148 = .ok (.iaload, 1) := by decide +kernel
theorem dX10_run_149 : decode cX10_run 149 = .ok (.iconst 2, 1) := by decide +kernel
theorem dX10_run_150 : decode cX10_run 150 = .ok (.if_icmp .ge 8, 3) := by decide +kernel
theorem dX10_run_153 : decode cX10_run 153 = .ok (.iload 4, 2) := by decide +kernel
theorem dX10_run_155 : decode cX10_run 155 = .ok (.goto 7, 3) := by decide +kernel
theorem dX10_run_158 : decode cX10_run 158 = .ok (.aload_n 0, 1) := by decide +kernel
theorem dX10_run_159 : decode cX10_run 159 = .ok (.getfield 528, 3) := by decide +kernel
theorem dX10_run_162 : decode cX10_run 162 = .ok (.putfield 528, 3) := by decide +kernel
theorem dX10_run_165 : decode cX10_run 165 = .ok (.aload_n 0, 1) := by decide +kernel
theorem dX10_run_166 : decode cX10_run 166 = .ok (.dup, 1) := by decide +kernel
theorem dX10_run_167 : decode cX10_run 167 = .ok (.getfield 525, 3) := by decide +kernel
theorem dX10_run_170 : decode cX10_run 170 = .ok (.iconst 1, 1) := by decide +kernel
theorem dX10_run_171 : decode cX10_run 171 = .ok (.iadd, 1) := by decide +kernel
theorem dX10_run_172 : decode cX10_run 172 = .ok (.putfield 525, 3) := by decide +kernel
theorem dX10_run_175 : decode cX10_run 175 = .ok (.iconst 0, 1) := by decide +kernel
theorem dX10_run_176 : decode cX10_run 176 = .ok (.ireturn, 1) := by decide +kernel
theorem dX10_orders_0 : decode cX10_orders 0 = .ok (.aload_n 0, 1) := by decide +kernel
theorem dX10_orders_1 : decode cX10_orders 1 = .ok (.iconst 0, 1) := by decide +kernel
theorem dX10_orders_2 : decode cX10_orders 2 = .ok (.putfield 157, 3) := by decide +kernel
theorem dX10_orders_5 : decode cX10_orders 5 = .ok (.aload_n 0, 1) := by decide +kernel
theorem dX10_orders_6 : decode cX10_orders 6 = .ok (.iconst (-1), 1) := by decide +kernel
theorem dX10_orders_7 : decode cX10_orders 7 = .ok (.putfield 145, 3) := by decide +kernel
theorem dX10_orders_10 : decode cX10_orders 10 = .ok (.aload_n 0, 1) := by decide +kernel
theorem dX10_orders_11 : decode cX10_orders 11 = .ok (.iconst 1, 1) := by decide +kernel
theorem dX10_orders_12 : decode cX10_orders 12 = .ok (.invokevirtual 363, 3) := by decide +kernel
theorem dX10_orders_15 : decode cX10_orders 15 = .ok (.aload_n 0, 1) := by decide +kernel
theorem dX10_orders_16 : decode cX10_orders 16 = .ok (.invokevirtual 538, 3) := by decide +kernel
theorem dX10_orders_19 : decode cX10_orders 19 = .ok (.aload_n 0, 1) := by decide +kernel
theorem dX10_orders_20 : decode cX10_orders 20 = .ok (.getfield 224, 3) := by decide +kernel
theorem dX10_orders_23 : decode cX10_orders 23 = .ok (.ifCond .ne 23, 3) := by decide +kernel
theorem dX10_orders_26 : decode cX10_orders 26 = .ok (.aload_n 0, 1) := by decide +kernel
theorem dX10_orders_27 : decode cX10_orders 27 = .ok (.bipush 59, 2) := by decide +kernel
theorem dX10_orders_29 : decode cX10_orders 29 = .ok (.invokevirtual 293, 3) := by decide +kernel
theorem dX10_orders_32 : decode cX10_orders 32 = .ok (.ifCond .eq 14, 3) := by decide +kernel
theorem dX10_orders_35 : decode cX10_orders 35 = .ok (.aload_n 0, 1) := by decide +kernel
theorem dX10_orders_36 : decode cX10_orders 36 = .ok (.invokevirtual 228, 3) := by decide +kernel
theorem dX10_orders_39 : decode cX10_orders 39 = .ok (.aload_n 0, 1) := by decide +kernel
theorem dX10_orders_40 : decode cX10_orders 40 = .ok (.invokevirtual 538, 3) := by decide +kernel
theorem dX10_orders_43 : decode cX10_orders 43 = .ok (.goto (-24), 3) := by decide +kernel
theorem dX10_orders_46 : decode cX10_orders 46 = .ok (.aload_n 0, 1) := by decide +kernel
theorem dX10_orders_47 : decode cX10_orders 47 = .ok (.invokevirtual 369, 3) := by decide +kernel
theorem dX10_orders_50 : decode cX10_orders 50 = .ok (.aload_n 0, 1) := by decide +kernel
theorem dX10_orders_51 : decode cX10_orders 51 = .ok (.getfield 224, 3) := by decide +kernel
theorem dX10_orders_54 : decode cX10_orders 54 = .ok (.ifCond .eq 10, 3) := by decide +kernel
theorem dX10_orders_57 : decode cX10_orders 57 = .ok (.aload_n 0, 1) := by decide +kernel
theorem dX10_orders_58 : decode cX10_orders 58 = .ok (.bipush (-6), 2) := by decide +kernel
theorem dX10_orders_60 : decode cX10_orders 60 = .ok (.invokevirtual 166, 3) := by decide +kernel
theorem dX10_orders_63 : decode cX10_orders 63 = .ok (.ireturn, 1) := by decide +kernel
theorem dX10_orders_64 : decode cX10_orders 64 = .ok (.aload_n 0, 1) := by decide +kernel
theorem dX10_orders_65 : decode cX10_orders 65 = .ok (.bipush 17, 2) := by decide +kernel
theorem dX10_orders_67 : decode cX10_orders 67 = .ok (.invokevirtual 170, 3) := by decide +kernel
theorem dX10_orders_70 : decode cX10_orders 70 = .ok (.aload_n 0, 1) := by decide +kernel
theorem dX10_orders_71 : decode cX10_orders 71 = .ok (.getfield 163, 3) := by decide +kernel
theorem dX10_orders_74 : decode cX10_orders 74 = .ok (.istore_n 1, 1) := by decide +kernel
theorem dX10_orders_75 : decode cX10_orders 75 = .ok (.iconst 0, 1) := by decide +kernel
theorem dX10_orders_76 : decode cX10_orders 76 = .ok (.istore_n 2, 1) := by decide +kernel
theorem dX10_orders_77 : decode cX10_orders 77 = .ok (.iload_n 2, 1) := by decide +kernel
theorem dX10_orders_78 : decode cX10_orders 78 = .ok (.sipush 1072, 3) := by decide +kernel
theorem dX10_orders_81 : decode cX10_orders 81 = .ok (.if_icmp .ge 21, 3) := by decide +kernel
theorem dX10_orders_84 : decode cX10_orders 84 = .ok (.aload_n 0, 1) := by decide +kernel
theorem dX10_orders_85 : decode cX10_orders 85 = .ok (.getfield 29, 3) := by decide +kernel
theorem dX10_orders_88 : decode cX10_orders 88 = .ok (.iload_n 2, 1) := by decide +kernel
theorem dX10_orders_89 : decode cX10_orders 89 = .ok (.aload_n 0, 1) := by decide +kernel
theorem dX10_orders_90 : decode cX10_orders 90 = .ok (.getfield 23, 3) := by decide +kernel
theorem dX10_orders_93 : decode cX10_orders 93 = .ok (.iload_n 2, 1) := by decide +kernel
theorem dX10_orders_94 : decode cX10_orders 94 = .ok (.iaload, 1) := by decide +kernel
theorem dX10_orders_95 : decode cX10_orders 95 = .ok (.iastore, 1) := by decide +kernel
theorem dX10_orders_96 : decode cX10_orders 96 = .ok (.iinc 2 1, 3) := by decide +kernel
theorem dX10_orders_99 : decode cX10_orders 99 = .ok (.goto (-22), 3) := by decide +kernel
theorem dX10_orders_102 : decode cX10_orders 102 = .ok (.iconst 0, 1) := by decide +kernel
theorem dX10_orders_103 : decode cX10_orders 103 = .ok (.istore_n 2, 1) := by decide +kernel
theorem dX10_orders_104 : decode cX10_orders 104 = .ok (.iload_n 2, 1) := by decide +kernel
theorem dX10_orders_105 : decode cX10_orders 105 = .ok (.bipush 16, 2) := by decide +kernel
theorem dX10_orders_107 : decode cX10_orders 107 = .ok (.if_icmp .ge 21, 3) := by decide +kernel
theorem dX10_orders_110 : decode cX10_orders 110 = .ok (.aload_n 0, 1) := by decide +kernel
theorem dX10_orders_111 : decode cX10_orders 111 = .ok (.getfield 32, 3) := by decide +kernel
theorem dX10_orders_114 : decode cX10_orders 114 = .ok (.iload_n 2, 1) := by decide +kernel
theorem dX10_orders_115 : decode cX10_orders 115 = .ok (.aload_n 0, 1) := by decide +kernel
theorem dX10_orders_116 : decode cX10_orders 116 = .ok (.getfield 26, 3) := by decide +kernel
theorem dX10_orders_119 : decode cX10_orders 119 = .ok (.iload_n 2, 1) := by decide +kernel
theorem dX10_orders_120 : decode cX10_orders 120 = .ok (.iaload, 1) := by decide +kernel
theorem dX10_orders_121 : decode cX10_orders 121 = .ok (.iastore, 1) := by decide +kernel
theorem dX10_orders_122 : decode cX10_orders 122 = .ok (.iinc 2 1, 3) := by decide +kernel
theorem dX10_orders_125 : decode cX10_orders 125 = .ok (.goto (-21), 3) := by decide +kernel
theorem dX10_orders_128 : decode cX10_orders 128 = .ok (.aload_n 0, 1) := by decide +kernel
theorem dX10_orders_129 : decode cX10_orders 129 = .ok (.iconst 0, 1) := by decide +kernel
theorem dX10_orders_130 : decode cX10_orders 130 = .ok (.putfield 525, 3) := by decide +kernel
theorem dX10_orders_133 : decode cX10_orders 133 = .ok (.aload_n 0, 1) := by decide +kernel
theorem dX10_orders_134 : decode cX10_orders 134 = .ok (.iconst (-1), 1) := by decide +kernel
theorem dX10_orders_135 : decode cX10_orders 135 = .ok (.putfield 528, 3) := by decide +kernel
theorem dX10_orders_138 : decode cX10_orders 138 = .ok (.iconst 0, 1) := by decide +kernel
theorem dX10_orders_139 : decode cX10_orders 139 = .ok (.istore_n 2, 1) := by decide +kernel
theorem dX10_orders_140 : decode cX10_orders 140 = .ok (.iload_n 2, 1) := by decide +kernel
theorem dX10_orders_141 : decode cX10_orders 141 = .ok (.aload_n 0, 1) := by decide +kernel
theorem dX10_orders_142 : decode cX10_orders 142 = .ok (.getfield 355, 3) := by decide +kernel
theorem dX10_orders_145 : decode cX10_orders 145 = .ok (.if_icmp .ge 61, 3) := by decide +kernel
theorem dX10_orders_148 : decode cX10_orders 148 = .ok (.iconst 0, 1) := by decide +kernel
theorem dX10_orders_149 : decode cX10_orders 149 = .ok (.istore_n 3, 1) := by decide +kernel
theorem dX10_orders_150 : decode cX10_orders 150 = .ok (.iload_n 3, 1) := by decide +kernel
theorem dX10_orders_151 : decode cX10_orders 151 = .ok (.aload_n 0, 1) := by decide +kernel
theorem dX10_orders_152 : decode cX10_orders 152 = .ok (.getfield 142, 3) := by decide +kernel
theorem dX10_orders_155 : decode cX10_orders 155 = .ok (.bipush 8, 2) := by decide +kernel
theorem dX10_orders_157 : decode cX10_orders 157 = .ok (.iload_n 2, 1) := by decide +kernel
theorem dX10_orders_158 : decode cX10_orders 158 = .ok (.imul, 1) := by decide +kernel
theorem dX10_orders_159 : decode cX10_orders 159 = .ok (.bipush 7, 2) := by decide +kernel
theorem dX10_orders_161 : decode cX10_orders 161 = .ok (.iadd, 1) := by decide +kernel
theorem dX10_orders_162 : decode cX10_orders 162 = .ok (.iaload, 1) := by decide +kernel
theorem dX10_orders_163 : decode cX10_orders 163 = .ok (.if_icmp .ge 37, 3) := by decide +kernel
theorem dX10_orders_166 : decode cX10_orders 166 = .ok (.aload_n 0, 1) := by decide +kernel
theorem dX10_orders_167 : decode cX10_orders 167 = .ok (.bipush 8, 2) := by decide +kernel
theorem dX10_orders_169 : decode cX10_orders 169 = .ok (.iload_n 2, 1) := by decide +kernel
theorem dX10_orders_170 : decode cX10_orders 170 = .ok (.imul, 1) := by decide +kernel
theorem dX10_orders_171 : decode cX10_orders 171 = .ok (.invokevirtual 541, 3) := by decide +kernel
theorem dX10_orders_174 : decode cX10_orders 174 = .ok (.ifCond .ge 20, 3) := by decide +kernel
theorem dX10_orders_177 : decode cX10_orders 177 = .ok (.aload_n 0, 1) := by decide +kernel
theorem dX10_orders_178 : decode cX10_orders 178 = .ok (.iload_n 1, 1) := by decide +kernel
theorem dX10_orders_179 : decode cX10_orders 179 = .ok (.invokevirtual 544, 3) := by decide +kernel
theorem dX10_orders_182 : decode cX10_orders 182 = .ok (.aload_n 0, 1) := by decide +kernel
theorem dX10_orders_183 : decode cX10_orders 183 = .ok (.iload_n 2, 1) := by decide +kernel
theorem dX10_orders_184 : decode cX10_orders 184 = .ok (.putfield 145, 3) := by decide +kernel
theorem dX10_orders_187 : decode cX10_orders 187 = .ok (.aload_n 0, 1) := by decide +kernel
theorem dX10_orders_188 : decode cX10_orders 188 = .ok (.bipush (-3), 2) := by decide +kernel
theorem dX10_orders_190 : decode cX10_orders 190 = .ok (.invokevirtual 166, 3) := by decide +kernel
theorem dX10_orders_193 : decode cX10_orders 193 = .ok (.ireturn, 1) := by decide +kernel
theorem dX10_orders_194 : decode cX10_orders 194 = .ok (.iinc 3 1, 3) := by decide +kernel
theorem dX10_orders_197 : decode cX10_orders 197 = .ok (.goto (-47), 3) := by decide +kernel
theorem dX10_orders_200 : decode cX10_orders 200 = .ok (.iinc 2 1, 3) := by decide +kernel
theorem dX10_orders_203 : decode cX10_orders 203 = .ok (.goto (-63), 3) := by decide +kernel
theorem dX10_orders_206 : decode cX10_orders 206 = .ok (.aload_n 0, 1) := by decide +kernel
theorem dX10_orders_207 : decode cX10_orders 207 = .ok (.aload_n 0, 1) := by decide +kernel
theorem dX10_orders_208 : decode cX10_orders 208 = .ok (.getfield 525, 3) := by decide +kernel
theorem dX10_orders_211 : decode cX10_orders 211 = .ok (.invokevirtual 166, 3) := by decide +kernel
theorem dX10_orders_214 : decode cX10_orders 214 = .ok (.ireturn, 1) := by decide +kernel
theorem dX10_giveBack_0 : decode cX10_giveBack 0 = .ok (.aload_n 0, 1) := by decide +kernel
theorem dX10_giveBack_1 : decode cX10_giveBack 1 = .ok (.bipush 17, 2) := by decide +kernel
theorem dX10_giveBack_3 : decode cX10_giveBack 3 = .ok (.invokevirtual 174, 3) := by decide +kernel
theorem dX10_giveBack_6 : decode cX10_giveBack 6 = .ok (.iconst 0, 1) := by decide +kernel
theorem dX10_giveBack_7 : decode cX10_giveBack 7 = .ok (.istore_n 2, 1) := by decide +kernel
theorem dX10_giveBack_8 : decode cX10_giveBack 8 = .ok (.iload_n 2, 1) := by decide +kernel
theorem dX10_giveBack_9 : decode cX10_giveBack 9 = .ok (.sipush 1072, 3) := by decide +kernel
theorem dX10_giveBack_12 : decode cX10_giveBack 12 = .ok (.if_icmp .ge 21, 3) := by decide +kernel
theorem dX10_giveBack_15 : decode cX10_giveBack 15 = .ok (.aload_n 0, 1) := by decide +kernel
theorem dX10_giveBack_16 : decode cX10_giveBack 16 = .ok (.getfield 23, 3) := by decide +kernel
theorem dX10_giveBack_19 : decode cX10_giveBack 19 = .ok (.iload_n 2, 1) := by decide +kernel
theorem dX10_giveBack_20 : decode cX10_giveBack 20 = .ok (.aload_n 0, 1) := by decide +kernel
theorem dX10_giveBack_21 : decode cX10_giveBack 21 = .ok (.getfield 29, 3) := by decide +kernel
theorem dX10_giveBack_24 : decode cX10_giveBack 24 = .ok (.iload_n 2, 1) := by decide +kernel
theorem dX10_giveBack_25 : decode cX10_giveBack 25 = .ok (.iaload, 1) := by decide +kernel
theorem dX10_giveBack_26 : decode cX10_giveBack 26 = .ok (.iastore, 1) := by decide +kernel
theorem dX10_giveBack_27 : decode cX10_giveBack 27 = .ok (.iinc 2 1, 3) := by decide +kernel
theorem dX10_giveBack_30 : decode cX10_giveBack 30 = .ok (.goto (-22), 3) := by decide +kernel
theorem dX10_giveBack_33 : decode cX10_giveBack 33 = .ok (.iconst 0, 1) := by decide +kernel
theorem dX10_giveBack_34 : decode cX10_giveBack 34 = .ok (.istore_n 2, 1) := by decide +kernel
theorem dX10_giveBack_35 : decode cX10_giveBack 35 = .ok (.iload_n 2, 1) := by decide +kernel
theorem dX10_giveBack_36 : decode cX10_giveBack 36 = .ok (.bipush 16, 2) := by decide +kernel
theorem dX10_giveBack_38 : decode cX10_giveBack 38 = .ok (.if_icmp .ge 21, 3) := by decide +kernel
theorem dX10_giveBack_41 : decode cX10_giveBack 41 = .ok (.aload_n 0, 1) := by decide +kernel
theorem dX10_giveBack_42 : decode cX10_giveBack 42 = .ok (.getfield 26, 3) := by decide +kernel
theorem dX10_giveBack_45 : decode cX10_giveBack 45 = .ok (.iload_n 2, 1) := by decide +kernel
theorem dX10_giveBack_46 : decode cX10_giveBack 46 = .ok (.aload_n 0, 1) := by decide +kernel
theorem dX10_giveBack_47 : decode cX10_giveBack 47 = .ok (.getfield 32, 3) := by decide +kernel
theorem dX10_giveBack_50 : decode cX10_giveBack 50 = .ok (.iload_n 2, 1) := by decide +kernel
theorem dX10_giveBack_51 : decode cX10_giveBack 51 = .ok (.iaload, 1) := by decide +kernel
theorem dX10_giveBack_52 : decode cX10_giveBack 52 = .ok (.iastore, 1) := by decide +kernel
theorem dX10_giveBack_53 : decode cX10_giveBack 53 = .ok (.iinc 2 1, 3) := by decide +kernel
theorem dX10_giveBack_56 : decode cX10_giveBack 56 = .ok (.goto (-21), 3) := by decide +kernel
theorem dX10_giveBack_59 : decode cX10_giveBack 59 = .ok (.aload_n 0, 1) := by decide +kernel
theorem dX10_giveBack_60 : decode cX10_giveBack 60 = .ok (.iload_n 1, 1) := by decide +kernel
theorem dX10_giveBack_61 : decode cX10_giveBack 61 = .ok (.putfield 163, 3) := by decide +kernel
theorem dX10_giveBack_64 : decode cX10_giveBack 64 = .ok (.return_, 1) := by decide +kernel
theorem dX10_stopped_0 : decode cX10_stopped 0 = .ok (.aload_n 0, 1) := by decide +kernel
theorem dX10_stopped_1 : decode cX10_stopped 1 = .ok (.iconst 0, 1) := by decide +kernel
theorem dX10_stopped_2 : decode cX10_stopped 2 = .ok (.putfield 157, 3) := by decide +kernel
theorem dX10_stopped_5 : decode cX10_stopped 5 = .ok (.aload_n 0, 1) := by decide +kernel
theorem dX10_stopped_6 : decode cX10_stopped 6 = .ok (.getfield 145, 3) := by decide +kernel
theorem dX10_stopped_9 : decode cX10_stopped 9 = .ok (.ireturn, 1) := by decide +kernel
theorem dX10_draw_0 : decode cX10_draw 0 = .ok (.aload_n 0, 1) := by decide +kernel
theorem dX10_draw_1 : decode cX10_draw 1 = .ok (.aload_n 0, 1) := by decide +kernel
theorem dX10_draw_2 : decode cX10_draw 2 = .ok (.getfield 547, 3) := by decide +kernel
theorem dX10_draw_5 : decode cX10_draw 5 = .ok (.ldc2_w 550, 3) := by decide +kernel
theorem dX10_draw_8 : decode cX10_draw 8 = .ok (.lmul, 1) := by decide +kernel
theorem dX10_draw_9 : decode cX10_draw 9 = .ok (.ldc2_w 552, 3) := by decide +kernel
theorem dX10_draw_12 : decode cX10_draw 12 = .ok (.ladd, 1) := by decide +kernel
theorem dX10_draw_13 : decode cX10_draw 13 = .ok (.ldc2_w 554, 3) := by decide +kernel
theorem dX10_draw_16 : decode cX10_draw 16 = .ok (.lrem, 1) := by decide +kernel
theorem dX10_draw_17 : decode cX10_draw 17 = .ok (.putfield 547, 3) := by decide +kernel
theorem dX10_draw_20 : decode cX10_draw 20 = .ok (.aload_n 0, 1) := by decide +kernel
theorem dX10_draw_21 : decode cX10_draw 21 = .ok (.getfield 547, 3) := by decide +kernel
theorem dX10_draw_24 : decode cX10_draw 24 = .ok (.iload_n 1, 1) := by decide +kernel
theorem dX10_draw_25 : decode cX10_draw 25 = .ok (.i2l, 1) := by decide +kernel
theorem dX10_draw_26 : decode cX10_draw 26 = .ok (.lrem, 1) := by decide +kernel
theorem dX10_draw_27 : decode cX10_draw 27 = .ok (.l2i, 1) := by decide +kernel
theorem dX10_draw_28 : decode cX10_draw 28 = .ok (.ireturn, 1) := by decide +kernel
theorem dX10_years_0 : decode cX10_years 0 = .ok (.aload_n 0, 1) := by decide +kernel
theorem dX10_years_1 : decode cX10_years 1 = .ok (.iconst 0, 1) := by decide +kernel
theorem dX10_years_2 : decode cX10_years 2 = .ok (.putfield 157, 3) := by decide +kernel
theorem dX10_years_5 : decode cX10_years 5 = .ok (.iload_n 1, 1) := by decide +kernel
theorem dX10_years_6 : decode cX10_years 6 = .ok (.i2l, 1) := by decide +kernel
theorem dX10_years_7 : decode cX10_years 7 = .ok (.lconst 0, 1) := by decide +kernel
theorem dX10_years_8 : decode cX10_years 8 = .ok (.ldc2_w 253, 3) := by decide +kernel
theorem dX10_years_11 : decode cX10_years 11 = .ok (.invokestatic 177, 3) := by decide +kernel
theorem dX10_years_14 : decode cX10_years 14 = .ok (.ifCond .eq 15, 3) := by decide +kernel
theorem dX10_years_17 : decode cX10_years 17 = .ok (.iload_n 2, 1) := by decide +kernel
theorem dX10_years_18 : decode cX10_years 18 = .ok (.i2l, 1) := by decide +kernel
theorem dX10_years_19 : decode cX10_years 19 = .ok (.lconst 1, 1) := by decide +kernel
theorem dX10_years_20 : decode cX10_years 20 = .ok (.ldc2_w 556, 3) := by decide +kernel
theorem dX10_years_23 : decode cX10_years 23 = .ok (.invokestatic 177, 3) := by decide +kernel
theorem dX10_years_26 : decode cX10_years 26 = .ok (.ifCond .ne 9, 3) := by decide +kernel
theorem dX10_years_29 : decode cX10_years 29 = .ok (.aload_n 0, 1) := by decide +kernel
theorem dX10_years_30 : decode cX10_years 30 = .ok (.iconst (-1), 1) := by decide +kernel
theorem dX10_years_31 : decode cX10_years 31 = .ok (.invokevirtual 166, 3) := by decide +kernel
theorem dX10_years_34 : decode cX10_years 34 = .ok (.ireturn, 1) := by decide +kernel
theorem dX10_years_35 : decode cX10_years 35 = .ok (.aload_n 0, 1) := by decide +kernel
theorem dX10_years_36 : decode cX10_years 36 = .ok (.getfield 13, 3) := by decide +kernel
theorem dX10_years_39 : decode cX10_years 39 = .ok (.iconst 0, 1) := by decide +kernel
theorem dX10_years_40 : decode cX10_years 40 = .ok (.iaload, 1) := by decide +kernel
theorem dX10_years_41 : decode cX10_years 41 = .ok (.ifCond .eq 12, 3) := by decide +kernel
theorem dX10_years_44 : decode cX10_years 44 = .ok (.aload_n 0, 1) := by decide +kernel
theorem dX10_years_45 : decode cX10_years 45 = .ok (.getfield 13, 3) := by decide +kernel
theorem dX10_years_48 : decode cX10_years 48 = .ok (.iconst 1, 1) := by decide +kernel
theorem dX10_years_49 : decode cX10_years 49 = .ok (.iaload, 1) := by decide +kernel
theorem dX10_years_50 : decode cX10_years 50 = .ok (.ifCond .ne 10, 3) := by decide +kernel
theorem dX10_years_53 : decode cX10_years 53 = .ok (.aload_n 0, 1) := by decide +kernel
theorem dX10_years_54 : decode cX10_years 54 = .ok (.bipush (-3), 2) := by decide +kernel
theorem dX10_years_56 : decode cX10_years 56 = .ok (.invokevirtual 166, 3) := by decide +kernel
theorem dX10_years_59 : decode cX10_years 59 = .ok (.ireturn, 1) := by decide +kernel
theorem dX10_years_60 : decode cX10_years 60 = .ok (.aload_n 0, 1) := by decide +kernel
theorem dX10_years_61 : decode cX10_years 61 = .ok (.bipush 16, 2) := by decide +kernel
theorem dX10_years_63 : decode cX10_years 63 = .ok (.invokevirtual 170, 3) := by decide +kernel
theorem dX10_years_66 : decode cX10_years 66 = .ok (.aload_n 0, 1) := by decide +kernel
theorem dX10_years_67 : decode cX10_years 67 = .ok (.iload_n 1, 1) := by decide +kernel
theorem dX10_years_68 : decode cX10_years 68 = .ok (.i2l, 1) := by decide +kernel
theorem dX10_years_69 : decode cX10_years 69 = .ok (.putfield 547, 3) := by decide +kernel
theorem dX10_years_72 : decode cX10_years 72 = .ok (.iconst 0, 1) := by decide +kernel
theorem dX10_years_73 : decode cX10_years 73 = .ok (.istore_n 3, 1) := by decide +kernel
theorem dX10_years_74 : decode cX10_years 74 = .ok (.iconst 0, 1) := by decide +kernel
theorem dX10_years_75 : decode cX10_years 75 = .ok (.istore 4, 2) := by decide +kernel
theorem dX10_years_77 : decode cX10_years 77 = .ok (.iload 4, 2) := by decide +kernel
theorem dX10_years_79 : decode cX10_years 79 = .ok (.iload_n 2, 1) := by decide +kernel
theorem dX10_years_80 : decode cX10_years 80 = .ok (.if_icmp .ge 108, 3) := by decide +kernel
theorem dX10_years_83 : decode cX10_years 83 = .ok (.aload_n 0, 1) := by decide +kernel
theorem dX10_years_84 : decode cX10_years 84 = .ok (.iconst 0, 1) := by decide +kernel
theorem dX10_years_85 : decode cX10_years 85 = .ok (.invokevirtual 398, 3) := by decide +kernel
theorem dX10_years_88 : decode cX10_years 88 = .ok (.sipush 999, 3) := by decide +kernel
theorem dX10_years_91 : decode cX10_years 91 = .ok (.if_icmp .ge 97, 3) := by decide +kernel
theorem dX10_years_94 : decode cX10_years 94 = .ok (.aload_n 0, 1) := by decide +kernel
theorem dX10_years_95 : decode cX10_years 95 = .ok (.aload_n 0, 1) := by decide +kernel
theorem dX10_years_96 : decode cX10_years 96 = .ok (.getfield 13, 3) := by decide +kernel
theorem dX10_years_99 : decode cX10_years 99 = .ok (.iconst 1, 1) := by decide +kernel
theorem dX10_years_100 : decode cX10_years 100 = .ok (.iaload, 1) := by decide +kernel
theorem dX10_years_101 : decode cX10_years 101 = .ok (.invokevirtual 558, 3) := by decide +kernel
theorem dX10_years_104 : decode cX10_years 104 = .ok (.istore 5, 2) := by decide +kernel
theorem dX10_years_106 : decode cX10_years 106 = .ok (.aload_n 0, 1) := by decide +kernel
theorem dX10_years_107 : decode cX10_years 107 = .ok (.aload_n 0, 1) := by decide +kernel
theorem dX10_years_108 : decode cX10_years 108 = .ok (.getfield 13, 3) := by decide +kernel
theorem dX10_years_111 : decode cX10_years 111 = .ok (.iconst 0, 1) := by decide +kernel
theorem dX10_years_112 : decode cX10_years 112 = .ok (.iaload, 1) := by decide +kernel
theorem dX10_years_113 : decode cX10_years 113 = .ok (.invokevirtual 558, 3) := by decide +kernel
theorem dX10_years_116 : decode cX10_years 116 = .ok (.istore 6, 2) := by decide +kernel
theorem dX10_years_118 : decode cX10_years 118 = .ok (.aload_n 0, 1) := by decide +kernel
theorem dX10_years_119 : decode cX10_years 119 = .ok (.iconst 3, 1) := by decide +kernel
theorem dX10_years_120 : decode cX10_years 120 = .ok (.invokevirtual 558, 3) := by decide +kernel
theorem dX10_years_123 : decode cX10_years 123 = .ok (.istore 7, 2) := by decide +kernel
theorem dX10_years_125 : decode cX10_years 125 = .ok (.iload 7, 2) := by decide +kernel
theorem dX10_years_127 : decode cX10_years 127 = .ok (.ifCond .ne 29, 3) := by decide +kernel
theorem dX10_years_130 : decode cX10_years 130 = .ok (.aload_n 0, 1) := by decide +kernel
theorem dX10_years_131 : decode cX10_years 131 = .ok (.getfield 13, 3) := by decide +kernel
theorem dX10_years_134 : decode cX10_years 134 = .ok (.bipush 29, 2) := by decide +kernel
theorem dX10_years_136 : decode cX10_years 136 = .ok (.iload 5, 2) := by decide +kernel
theorem dX10_years_138 : decode cX10_years 138 = .ok (.iadd, 1) := by decide +kernel
theorem dX10_years_139 : decode cX10_years 139 = .ok (.iaload, 1) := by decide +kernel
theorem dX10_years_140 : decode cX10_years 140 = .ok (.iconst (-1), 1) := by decide +kernel
theorem dX10_years_141 : decode cX10_years 141 = .ok (.if_icmp .eq 15, 3) := by decide +kernel
theorem dX10_years_144 : decode cX10_years 144 = .ok (.iload_n 3, 1) := by decide +kernel
theorem dX10_years_145 : decode cX10_years 145 = .ok (.aload_n 0, 1) := by decide +kernel
theorem dX10_years_146 : decode cX10_years 146 = .ok (.iload 5, 2) := by decide +kernel
theorem dX10_years_148 : decode cX10_years 148 = .ok (.invokevirtual 442, 3) := by decide +kernel
theorem dX10_years_151 : decode cX10_years 151 = .ok (.iadd, 1) := by decide +kernel
theorem dX10_years_152 : decode cX10_years 152 = .ok (.istore_n 3, 1) := by decide +kernel
theorem dX10_years_153 : decode cX10_years 153 = .ok (.goto 25, 3) := by decide +kernel
theorem dX10_years_156 : decode cX10_years 156 = .ok (.aload_n 0, 1) := by decide +kernel
theorem dX10_years_157 : decode cX10_years 157 = .ok (.iload 5, 2) := by decide +kernel
theorem dX10_years_159 : decode cX10_years 159 = .ok (.iload 6, 2) := by decide +kernel
theorem dX10_years_161 : decode cX10_years 161 = .ok (.invokevirtual 448, 3) := by decide +kernel
theorem dX10_years_164 : decode cX10_years 164 = .ok (.ifCond .eq 14, 3) := by decide +kernel
theorem dX10_years_167 : decode cX10_years 167 = .ok (.iload_n 3, 1) := by decide +kernel
theorem dX10_years_168 : decode cX10_years 168 = .ok (.aload_n 0, 1) := by decide +kernel
theorem dX10_years_169 : decode cX10_years 169 = .ok (.iload 5, 2) := by decide +kernel
theorem dX10_years_171 : decode cX10_years 171 = .ok (.iload 6, 2) := by decide +kernel
theorem dX10_years_173 : decode cX10_years 173 = .ok (.invokevirtual 454, 3) := by decide +kernel
theorem dX10_years_176 : decode cX10_years 176 = .ok (.iadd, 1) := by decide +kernel
theorem dX10_years_177 : decode cX10_years 177 = .ok (.istore_n 3, 1) := by decide +kernel
theorem dX10_years_178 : decode cX10_years 178 = .ok (.aload_n 0, 1) := by decide +kernel
theorem dX10_years_179 : decode cX10_years 179 = .ok (.invokevirtual 466, 3) := by decide +kernel
theorem dX10_years_182 : decode cX10_years 182 = .ok (.iinc 4 1, 3) := by decide +kernel
theorem dX10_years_185 : decode cX10_years 185 = .ok (.goto (-108), 3) := by decide +kernel
theorem dX10_years_188 : decode cX10_years 188 = .ok (.aload_n 0, 1) := by decide +kernel
theorem dX10_years_189 : decode cX10_years 189 = .ok (.aload_n 0, 1) := by decide +kernel
theorem dX10_years_190 : decode cX10_years 190 = .ok (.getfield 13, 3) := by decide +kernel
theorem dX10_years_193 : decode cX10_years 193 = .ok (.iconst 1, 1) := by decide +kernel
theorem dX10_years_194 : decode cX10_years 194 = .ok (.iaload, 1) := by decide +kernel
theorem dX10_years_195 : decode cX10_years 195 = .ok (.putfield 151, 3) := by decide +kernel
theorem dX10_years_198 : decode cX10_years 198 = .ok (.aload_n 0, 1) := by decide +kernel
theorem dX10_years_199 : decode cX10_years 199 = .ok (.aload_n 0, 1) := by decide +kernel
theorem dX10_years_200 : decode cX10_years 200 = .ok (.getfield 13, 3) := by decide +kernel
theorem dX10_years_203 : decode cX10_years 203 = .ok (.iconst 0, 1) := by decide +kernel
theorem dX10_years_204 : decode cX10_years 204 = .ok (.iaload, 1) := by decide +kernel
theorem dX10_years_205 : decode cX10_years 205 = .ok (.putfield 154, 3) := by decide +kernel
theorem dX10_years_208 : decode cX10_years 208 = .ok (.iconst 0, 1) := by decide +kernel
theorem dX10_years_209 : decode cX10_years 209 = .ok (.istore 4, 2) := by decide +kernel
theorem dX10_years_211 : decode cX10_years 211 = .ok (.iload 4, 2) := by decide +kernel
theorem dX10_years_213 : decode cX10_years 213 = .ok (.aload_n 0, 1) := by decide +kernel
theorem dX10_years_214 : decode cX10_years 214 = .ok (.getfield 151, 3) := by decide +kernel
theorem dX10_years_217 : decode cX10_years 217 = .ok (.if_icmp .ge 70, 3) := by decide +kernel
theorem dX10_years_220 : decode cX10_years 220 = .ok (.aload_n 0, 1) := by decide +kernel
theorem dX10_years_221 : decode cX10_years 221 = .ok (.getfield 148, 3) := by decide +kernel
theorem dX10_years_224 : decode cX10_years 224 = .ok (.iconst 3, 1) := by decide +kernel
theorem dX10_years_225 : decode cX10_years 225 = .ok (.iload 4, 2) := by decide +kernel
theorem dX10_years_227 : decode cX10_years 227 = .ok (.imul, 1) := by decide +kernel
theorem dX10_years_228 : decode cX10_years 228 = .ok (.aload_n 0, 1) := by decide +kernel
theorem dX10_years_229 : decode cX10_years 229 = .ok (.getfield 13, 3) := by decide +kernel
theorem dX10_years_232 : decode cX10_years 232 = .ok (.bipush 17, 2) := by decide +kernel
theorem dX10_years_234 : decode cX10_years 234 = .ok (.iload 4, 2) := by decide +kernel
theorem dX10_years_236 : decode cX10_years 236 = .ok (.iadd, 1) := by decide +kernel
theorem dX10_years_237 : decode cX10_years 237 = .ok (.iaload, 1) := by decide +kernel
theorem dX10_years_238 : decode cX10_years 238 = .ok (.iastore, 1) := by decide +kernel
theorem dX10_years_239 : decode cX10_years 239 = .ok (.aload_n 0, 1) := by decide +kernel
theorem dX10_years_240 : decode cX10_years 240 = .ok (.getfield 148, 3) := by decide +kernel
theorem dX10_years_243 : decode cX10_years 243 = .ok (.iconst 3, 1) := by decide +kernel
theorem dX10_years_244 : decode cX10_years 244 = .ok (.iload 4, 2) := by decide +kernel
theorem dX10_years_246 : decode cX10_years 246 = .ok (.imul, 1) := by decide +kernel
theorem dX10_years_247 : decode cX10_years 247 = .ok (.iconst 1, 1) := by decide +kernel
theorem dX10_years_248 : decode cX10_years 248 = .ok (.iadd, 1) := by decide +kernel
theorem dX10_years_249 : decode cX10_years 249 = .ok (.aload_n 0, 1) := by decide +kernel
theorem dX10_years_250 : decode cX10_years 250 = .ok (.getfield 13, 3) := by decide +kernel
theorem dX10_years_253 : decode cX10_years 253 = .ok (.bipush 23, 2) := by decide +kernel
theorem dX10_years_255 : decode cX10_years 255 = .ok (.iload 4, 2) := by decide +kernel
theorem dX10_years_257 : decode cX10_years 257 = .ok (.iadd, 1) := by decide +kernel
theorem dX10_years_258 : decode cX10_years 258 = .ok (.iaload, 1) := by decide +kernel
theorem dX10_years_259 : decode cX10_years 259 = .ok (.iastore, 1) := by decide +kernel
theorem dX10_years_260 : decode cX10_years 260 = .ok (.aload_n 0, 1) := by decide +kernel
theorem dX10_years_261 : decode cX10_years 261 = .ok (.getfield 148, 3) := by decide +kernel
theorem dX10_years_264 : decode cX10_years 264 = .ok (.iconst 3, 1) := by decide +kernel
theorem dX10_years_265 : decode cX10_years 265 = .ok (.iload 4, 2) := by decide +kernel
theorem dX10_years_267 : decode cX10_years 267 = .ok (.imul, 1) := by decide +kernel
theorem dX10_years_268 : decode cX10_years 268 = .ok (.iconst 2, 1) := by decide +kernel
theorem dX10_years_269 : decode cX10_years 269 = .ok (.iadd, 1) := by decide +kernel
theorem dX10_years_270 : decode cX10_years 270 = .ok (.aload_n 0, 1) := by decide +kernel
theorem dX10_years_271 : decode cX10_years 271 = .ok (.getfield 13, 3) := by decide +kernel
theorem dX10_years_274 : decode cX10_years 274 = .ok (.bipush 29, 2) := by decide +kernel
theorem dX10_years_276 : decode cX10_years 276 = .ok (.iload 4, 2) := by decide +kernel
theorem dX10_years_278 : decode cX10_years 278 = .ok (.iadd, 1) := by decide +kernel
theorem dX10_years_279 : decode cX10_years 279 = .ok (.iaload, 1) := by decide +kernel
theorem dX10_years_280 : decode cX10_years 280 = .ok (.iastore, 1) := by decide +kernel
theorem dX10_years_281 : decode cX10_years 281 = .ok (.iinc 4 1, 3) := by decide +kernel
theorem dX10_years_284 : decode cX10_years 284 = .ok (.goto (-73), 3) := by decide +kernel
theorem dX10_years_287 : decode cX10_years 287 = .ok (.iconst 0, 1) := by decide +kernel
theorem dX10_years_288 : decode cX10_years 288 = .ok (.istore 4, 2) := by decide +kernel
theorem dX10_years_290 : decode cX10_years 290 = .ok (.iload 4, 2) := by decide +kernel
theorem dX10_years_292 : decode cX10_years 292 = .ok (.aload_n 0, 1) := by decide +kernel
theorem dX10_years_293 : decode cX10_years 293 = .ok (.getfield 154, 3) := by decide +kernel
theorem dX10_years_296 : decode cX10_years 296 = .ok (.if_icmp .ge 29, 3) := by decide +kernel
theorem dX10_years_299 : decode cX10_years 299 = .ok (.aload_n 0, 1) := by decide +kernel
theorem dX10_years_300 : decode cX10_years 300 = .ok (.getfield 148, 3) := by decide +kernel
theorem dX10_years_303 : decode cX10_years 303 = .ok (.bipush 18, 2) := by decide +kernel
theorem dX10_years_305 : decode cX10_years 305 = .ok (.iload 4, 2) := by decide +kernel
theorem dX10_years_307 : decode cX10_years 307 = .ok (.iadd, 1) := by decide +kernel
theorem dX10_years_308 : decode cX10_years 308 = .ok (.aload_n 0, 1) := by decide +kernel
theorem dX10_years_309 : decode cX10_years 309 = .ok (.getfield 13, 3) := by decide +kernel
theorem dX10_years_312 : decode cX10_years 312 = .ok (.bipush 9, 2) := by decide +kernel
theorem dX10_years_314 : decode cX10_years 314 = .ok (.iload 4, 2) := by decide +kernel
theorem dX10_years_316 : decode cX10_years 316 = .ok (.iadd, 1) := by decide +kernel
theorem dX10_years_317 : decode cX10_years 317 = .ok (.iaload, 1) := by decide +kernel
theorem dX10_years_318 : decode cX10_years 318 = .ok (.iastore, 1) := by decide +kernel
theorem dX10_years_319 : decode cX10_years 319 = .ok (.iinc 4 1, 3) := by decide +kernel
theorem dX10_years_322 : decode cX10_years 322 = .ok (.goto (-32), 3) := by decide +kernel
theorem dX10_years_325 : decode cX10_years 325 = .ok (.aload_n 0, 1) := by decide +kernel
theorem dX10_years_326 : decode cX10_years 326 = .ok (.bipush 16, 2) := by decide +kernel
theorem dX10_years_328 : decode cX10_years 328 = .ok (.invokevirtual 174, 3) := by decide +kernel
theorem dX10_years_331 : decode cX10_years 331 = .ok (.aload_n 0, 1) := by decide +kernel
theorem dX10_years_332 : decode cX10_years 332 = .ok (.iload_n 3, 1) := by decide +kernel
theorem dX10_years_333 : decode cX10_years 333 = .ok (.invokevirtual 166, 3) := by decide +kernel
theorem dX10_years_336 : decode cX10_years 336 = .ok (.ireturn, 1) := by decide +kernel
theorem dX10_drawn_0 : decode cX10_drawn 0 = .ok (.aload_n 0, 1) := by decide +kernel
theorem dX10_drawn_1 : decode cX10_drawn 1 = .ok (.iconst 0, 1) := by decide +kernel
theorem dX10_drawn_2 : decode cX10_drawn 2 = .ok (.putfield 157, 3) := by decide +kernel
theorem dX10_drawn_5 : decode cX10_drawn 5 = .ok (.iload_n 2, 1) := by decide +kernel
theorem dX10_drawn_6 : decode cX10_drawn 6 = .ok (.i2l, 1) := by decide +kernel
theorem dX10_drawn_7 : decode cX10_drawn 7 = .ok (.lconst 0, 1) := by decide +kernel
theorem dX10_drawn_8 : decode cX10_drawn 8 = .ok (.ldc2_w 561, 3) := by decide +kernel
theorem dX10_drawn_11 : decode cX10_drawn 11 = .ok (.invokestatic 177, 3) := by decide +kernel
theorem dX10_drawn_14 : decode cX10_drawn 14 = .ok (.ifCond .eq 31, 3) := by decide +kernel
theorem dX10_drawn_17 : decode cX10_drawn 17 = .ok (.iload_n 1, 1) := by decide +kernel
theorem dX10_drawn_18 : decode cX10_drawn 18 = .ok (.i2l, 1) := by decide +kernel
theorem dX10_drawn_19 : decode cX10_drawn 19 = .ok (.lconst 0, 1) := by decide +kernel
theorem dX10_drawn_20 : decode cX10_drawn 20 = .ok (.iload_n 2, 1) := by decide +kernel
theorem dX10_drawn_21 : decode cX10_drawn 21 = .ok (.iconst 3, 1) := by decide +kernel
theorem dX10_drawn_22 : decode cX10_drawn 22 = .ok (.if_icmp .ne 10, 3) := by decide +kernel
theorem dX10_drawn_25 : decode cX10_drawn 25 = .ok (.aload_n 0, 1) := by decide +kernel
theorem dX10_drawn_26 : decode cX10_drawn 26 = .ok (.getfield 154, 3) := by decide +kernel
theorem dX10_drawn_29 : decode cX10_drawn 29 = .ok (.goto 7, 3) := by decide +kernel
theorem dX10_drawn_32 : decode cX10_drawn 32 = .ok (.aload_n 0, 1) := by decide +kernel
theorem dX10_drawn_33 : decode cX10_drawn 33 = .ok (.getfield 151, 3) := by decide +kernel
theorem dX10_drawn_36 : decode cX10_drawn 36 = .ok (.i2l, 1) := by decide +kernel
theorem dX10_drawn_37 : decode cX10_drawn 37 = .ok (.lconst 1, 1) := by decide +kernel
theorem dX10_drawn_38 : decode cX10_drawn 38 = .ok (.lsub, 1) := by decide +kernel
theorem dX10_drawn_39 : decode cX10_drawn 39 = .ok (.invokestatic 177, 3) := by decide +kernel
theorem dX10_drawn_42 : decode cX10_drawn 42 = .ok (.ifCond .ne 5, 3) := by decide +kernel
theorem dX10_drawn_45 : decode cX10_drawn 45 = .ok (.iconst (-1), 1) := by decide +kernel
theorem dX10_drawn_46 : decode cX10_drawn 46 = .ok (.ireturn, 1) := by decide +kernel
theorem dX10_drawn_47 : decode cX10_drawn 47 = .ok (.iload_n 2, 1) := by decide +kernel
theorem dX10_drawn_48 : decode cX10_drawn 48 = .ok (.iconst 3, 1) := by decide +kernel
theorem dX10_drawn_49 : decode cX10_drawn 49 = .ok (.if_icmp .ne 15, 3) := by decide +kernel
theorem dX10_drawn_52 : decode cX10_drawn 52 = .ok (.aload_n 0, 1) := by decide +kernel
theorem dX10_drawn_53 : decode cX10_drawn 53 = .ok (.getfield 148, 3) := by decide +kernel
theorem dX10_drawn_56 : decode cX10_drawn 56 = .ok (.bipush 18, 2) := by decide +kernel
theorem dX10_drawn_58 : decode cX10_drawn 58 = .ok (.iload_n 1, 1) := by decide +kernel
theorem dX10_drawn_59 : decode cX10_drawn 59 = .ok (.iadd, 1) := by decide +kernel
theorem dX10_drawn_60 : decode cX10_drawn 60 = .ok (.iaload, 1) := by decide +kernel
theorem dX10_drawn_61 : decode cX10_drawn 61 = .ok (.goto 13, 3) := by decide +kernel
theorem dX10_drawn_64 : decode cX10_drawn 64 = .ok (.aload_n 0, 1) := by decide +kernel
theorem dX10_drawn_65 : decode cX10_drawn 65 = .ok (.getfield 148, 3) := by decide +kernel
theorem dX10_drawn_68 : decode cX10_drawn 68 = .ok (.iconst 3, 1) := by decide +kernel
theorem dX10_drawn_69 : decode cX10_drawn 69 = .ok (.iload_n 1, 1) := by decide +kernel
theorem dX10_drawn_70 : decode cX10_drawn 70 = .ok (.imul, 1) := by decide +kernel
theorem dX10_drawn_71 : decode cX10_drawn 71 = .ok (.iload_n 2, 1) := by decide +kernel
theorem dX10_drawn_72 : decode cX10_drawn 72 = .ok (.iadd, 1) := by decide +kernel
theorem dX10_drawn_73 : decode cX10_drawn 73 = .ok (.iaload, 1) := by decide +kernel
theorem dX10_drawn_74 : decode cX10_drawn 74 = .ok (.ireturn, 1) := by decide +kernel
theorem dX10_lentOnes_0 : decode cX10_lentOnes 0 = .ok (.iconst 0, 1) := by decide +kernel
theorem dX10_lentOnes_1 : decode cX10_lentOnes 1 = .ok (.istore_n 1, 1) := by decide +kernel
theorem dX10_lentOnes_2 : decode cX10_lentOnes 2 = .ok (.iconst 0, 1) := by decide +kernel
theorem dX10_lentOnes_3 : decode cX10_lentOnes 3 = .ok (.istore_n 2, 1) := by decide +kernel
theorem dX10_lentOnes_4 : decode cX10_lentOnes 4 = .ok (.iload_n 2, 1) := by decide +kernel
theorem dX10_lentOnes_5 : decode cX10_lentOnes 5 = .ok (.aload_n 0, 1) := by decide +kernel
theorem dX10_lentOnes_6 : decode cX10_lentOnes 6 = .ok (.getfield 13, 3) := by decide +kernel
theorem dX10_lentOnes_9 : decode cX10_lentOnes 9 = .ok (.iconst 1, 1) := by decide +kernel
theorem dX10_lentOnes_10 : decode cX10_lentOnes 10 = .ok (.iaload, 1) := by decide +kernel
theorem dX10_lentOnes_11 : decode cX10_lentOnes 11 = .ok (.if_icmp .ge 30, 3) := by decide +kernel
theorem dX10_lentOnes_14 : decode cX10_lentOnes 14 = .ok (.iload_n 1, 1) := by decide +kernel
theorem dX10_lentOnes_15 : decode cX10_lentOnes 15 = .ok (.aload_n 0, 1) := by decide +kernel
theorem dX10_lentOnes_16 : decode cX10_lentOnes 16 = .ok (.getfield 13, 3) := by decide +kernel
theorem dX10_lentOnes_19 : decode cX10_lentOnes 19 = .ok (.bipush 29, 2) := by decide +kernel
theorem dX10_lentOnes_21 : decode cX10_lentOnes 21 = .ok (.iload_n 2, 1) := by decide +kernel
theorem dX10_lentOnes_22 : decode cX10_lentOnes 22 = .ok (.iadd, 1) := by decide +kernel
theorem dX10_lentOnes_23 : decode cX10_lentOnes 23 = .ok (.iaload, 1) := by decide +kernel
theorem dX10_lentOnes_24 : decode cX10_lentOnes 24 = .ok (.iconst (-1), 1) := by decide +kernel
theorem dX10_lentOnes_25 : decode cX10_lentOnes 25 = .ok (.if_icmp .ne 7, 3) := by decide +kernel
theorem dX10_lentOnes_28 : decode cX10_lentOnes 28 = .ok (.iconst 0, 1) := by decide +kernel
theorem dX10_lentOnes_29 : decode cX10_lentOnes 29 = .ok (.goto 4, 3) := by decide +kernel
theorem dX10_lentOnes_32 : decode cX10_lentOnes 32 = .ok (.iconst 1, 1) := by decide +kernel
theorem dX10_lentOnes_33 : decode cX10_lentOnes 33 = .ok (.iadd, 1) := by decide +kernel
theorem dX10_lentOnes_34 : decode cX10_lentOnes 34 = .ok (.istore_n 1, 1) := by decide +kernel
theorem dX10_lentOnes_35 : decode cX10_lentOnes 35 = .ok (.iinc 2 1, 3) := by decide +kernel
theorem dX10_lentOnes_38 : decode cX10_lentOnes 38 = .ok (.goto (-34), 3) := by decide +kernel
theorem dX10_lentOnes_41 : decode cX10_lentOnes 41 = .ok (.iload_n 1, 1) := by decide +kernel
theorem dX10_lentOnes_42 : decode cX10_lentOnes 42 = .ok (.ireturn, 1) := by decide +kernel
theorem dX10_count_0 : decode cX10_count 0 = .ok (.aload_n 0, 1) := by decide +kernel
theorem dX10_count_1 : decode cX10_count 1 = .ok (.iconst 0, 1) := by decide +kernel
theorem dX10_count_2 : decode cX10_count 2 = .ok (.putfield 157, 3) := by decide +kernel
theorem dX10_count_5 : decode cX10_count 5 = .ok (.iload_n 1, 1) := by decide +kernel
theorem dX10_count_6 : decode cX10_count 6 = .ok (.tableswitch 153 0 12 #[66, 73, 80, 85, 93, 100, 105, 110, 117, 124, 131, 138, 146], 66) := by decide +kernel
theorem dX10_count_72 : decode cX10_count 72 = .ok (.aload_n 0, 1) := by decide +kernel
theorem dX10_count_73 : decode cX10_count 73 = .ok (.getfield 13, 3) := by decide +kernel
theorem dX10_count_76 : decode cX10_count 76 = .ok (.iconst 0, 1) := by decide +kernel
theorem dX10_count_77 : decode cX10_count 77 = .ok (.iaload, 1) := by decide +kernel
theorem dX10_count_78 : decode cX10_count 78 = .ok (.ireturn, 1) := by decide +kernel
theorem dX10_count_79 : decode cX10_count 79 = .ok (.aload_n 0, 1) := by decide +kernel
theorem dX10_count_80 : decode cX10_count 80 = .ok (.getfield 13, 3) := by decide +kernel
theorem dX10_count_83 : decode cX10_count 83 = .ok (.iconst 1, 1) := by decide +kernel
theorem dX10_count_84 : decode cX10_count 84 = .ok (.iaload, 1) := by decide +kernel
theorem dX10_count_85 : decode cX10_count 85 = .ok (.ireturn, 1) := by decide +kernel
theorem dX10_count_86 : decode cX10_count 86 = .ok (.aload_n 0, 1) := by decide +kernel
theorem dX10_count_87 : decode cX10_count 87 = .ok (.invokevirtual 563, 3) := by decide +kernel
theorem dX10_count_90 : decode cX10_count 90 = .ok (.ireturn, 1) := by decide +kernel
theorem dX10_count_91 : decode cX10_count 91 = .ok (.aload_n 0, 1) := by decide +kernel
theorem dX10_count_92 : decode cX10_count 92 = .ok (.getfield 13, 3) := by decide +kernel
theorem dX10_count_95 : decode cX10_count 95 = .ok (.bipush 8, 2) := by decide +kernel
theorem dX10_count_97 : decode cX10_count 97 = .ok (.iaload, 1) := by decide +kernel
theorem dX10_count_98 : decode cX10_count 98 = .ok (.ireturn, 1) := by decide +kernel
theorem dX10_count_99 : decode cX10_count 99 = .ok (.aload_n 0, 1) := by decide +kernel
theorem dX10_count_100 : decode cX10_count 100 = .ok (.getfield 13, 3) := by decide +kernel
theorem dX10_count_103 : decode cX10_count 103 = .ok (.iconst 2, 1) := by decide +kernel
theorem dX10_count_104 : decode cX10_count 104 = .ok (.iaload, 1) := by decide +kernel
theorem dX10_count_105 : decode cX10_count 105 = .ok (.ireturn, 1) := by decide +kernel
theorem dX10_count_106 : decode cX10_count 106 = .ok (.aload_n 0, 1) := by decide +kernel
theorem dX10_count_107 : decode cX10_count 107 = .ok (.getfield 163, 3) := by decide +kernel
theorem dX10_count_110 : decode cX10_count 110 = .ok (.ireturn, 1) := by decide +kernel
theorem dX10_count_111 : decode cX10_count 111 = .ok (.aload_n 0, 1) := by decide +kernel
theorem dX10_count_112 : decode cX10_count 112 = .ok (.getfield 212, 3) := by decide +kernel
theorem dX10_count_115 : decode cX10_count 115 = .ok (.ireturn, 1) := by decide +kernel
theorem dX10_count_116 : decode cX10_count 116 = .ok (.aload_n 0, 1) := by decide +kernel
theorem dX10_count_117 : decode cX10_count 117 = .ok (.getfield 7, 3) := by decide +kernel
theorem dX10_count_120 : decode cX10_count 120 = .ok (.iconst 1, 1) := by decide +kernel
theorem dX10_count_121 : decode cX10_count 121 = .ok (.iaload, 1) := by decide +kernel
theorem dX10_count_122 : decode cX10_count 122 = .ok (.ireturn, 1) := by decide +kernel
theorem dX10_count_123 : decode cX10_count 123 = .ok (.aload_n 0, 1) := by decide +kernel
theorem dX10_count_124 : decode cX10_count 124 = .ok (.getfield 7, 3) := by decide +kernel
theorem dX10_count_127 : decode cX10_count 127 = .ok (.iconst 2, 1) := by decide +kernel
theorem dX10_count_128 : decode cX10_count 128 = .ok (.iaload, 1) := by decide +kernel
theorem dX10_count_129 : decode cX10_count 129 = .ok (.ireturn, 1) := by decide +kernel
theorem dX10_count_130 : decode cX10_count 130 = .ok (.aload_n 0, 1) := by decide +kernel
theorem dX10_count_131 : decode cX10_count 131 = .ok (.getfield 7, 3) := by decide +kernel
theorem dX10_count_134 : decode cX10_count 134 = .ok (.iconst 3, 1) := by decide +kernel
theorem dX10_count_135 : decode cX10_count 135 = .ok (.iaload, 1) := by decide +kernel
theorem dX10_count_136 : decode cX10_count 136 = .ok (.ireturn, 1) := by decide +kernel
theorem dX10_count_137 : decode cX10_count 137 = .ok (.aload_n 0, 1) := by decide +kernel
theorem dX10_count_138 : decode cX10_count 138 = .ok (.getfield 7, 3) := by decide +kernel
theorem dX10_count_141 : decode cX10_count 141 = .ok (.iconst 5, 1) := by decide +kernel
theorem dX10_count_142 : decode cX10_count 142 = .ok (.iaload, 1) := by decide +kernel
theorem dX10_count_143 : decode cX10_count 143 = .ok (.ireturn, 1) := by decide +kernel
theorem dX10_count_144 : decode cX10_count 144 = .ok (.aload_n 0, 1) := by decide +kernel
theorem dX10_count_145 : decode cX10_count 145 = .ok (.getfield 7, 3) := by decide +kernel
theorem dX10_count_148 : decode cX10_count 148 = .ok (.bipush 6, 2) := by decide +kernel
theorem dX10_count_150 : decode cX10_count 150 = .ok (.iaload, 1) := by decide +kernel
theorem dX10_count_151 : decode cX10_count 151 = .ok (.ireturn, 1) := by decide +kernel
theorem dX10_count_152 : decode cX10_count 152 = .ok (.aload_n 0, 1) := by decide +kernel
theorem dX10_count_153 : decode cX10_count 153 = .ok (.getfield 13, 3) := by decide +kernel
theorem dX10_count_156 : decode cX10_count 156 = .ok (.iconst 3, 1) := by decide +kernel
theorem dX10_count_157 : decode cX10_count 157 = .ok (.iaload, 1) := by decide +kernel
theorem dX10_count_158 : decode cX10_count 158 = .ok (.ireturn, 1) := by decide +kernel
theorem dX10_count_159 : decode cX10_count 159 = .ok (.iload_n 1, 1) := by decide +kernel
theorem dX10_count_160 : decode cX10_count 160 = .ok (.i2l, 1) := by decide +kernel
theorem dX10_count_161 : decode cX10_count 161 = .ok (.ldc2_w 566, 3) := by decide +kernel
theorem dX10_count_164 : decode cX10_count 164 = .ok (.ldc2_w 568, 3) := by decide +kernel
theorem dX10_count_167 : decode cX10_count 167 = .ok (.invokestatic 177, 3) := by decide +kernel
theorem dX10_count_170 : decode cX10_count 170 = .ok (.ifCond .eq 17, 3) := by decide +kernel
theorem dX10_count_173 : decode cX10_count 173 = .ok (.aload_n 0, 1) := by decide +kernel
theorem dX10_count_174 : decode cX10_count 174 = .ok (.getfield 13, 3) := by decide +kernel
theorem dX10_count_177 : decode cX10_count 177 = .ok (.iconst 4, 1) := by decide +kernel
theorem dX10_count_178 : decode cX10_count 178 = .ok (.iload_n 1, 1) := by decide +kernel
theorem dX10_count_179 : decode cX10_count 179 = .ok (.iadd, 1) := by decide +kernel
theorem dX10_count_180 : decode cX10_count 180 = .ok (.bipush 13, 2) := by decide +kernel
theorem dX10_count_182 : decode cX10_count 182 = .ok (.isub, 1) := by decide +kernel
theorem dX10_count_183 : decode cX10_count 183 = .ok (.iaload, 1) := by decide +kernel
theorem dX10_count_184 : decode cX10_count 184 = .ok (.goto 4, 3) := by decide +kernel
theorem dX10_count_187 : decode cX10_count 187 = .ok (.iconst (-1), 1) := by decide +kernel
theorem dX10_count_188 : decode cX10_count 188 = .ok (.ireturn, 1) := by decide +kernel
theorem dX10_status_0 : decode cX10_status 0 = .ok (.aload_n 0, 1) := by decide +kernel
theorem dX10_status_1 : decode cX10_status 1 = .ok (.iconst 0, 1) := by decide +kernel
theorem dX10_status_2 : decode cX10_status 2 = .ok (.putfield 157, 3) := by decide +kernel
theorem dX10_status_5 : decode cX10_status 5 = .ok (.aload_n 0, 1) := by decide +kernel
theorem dX10_status_6 : decode cX10_status 6 = .ok (.getfield 160, 3) := by decide +kernel
theorem dX10_status_9 : decode cX10_status 9 = .ok (.ireturn, 1) := by decide +kernel
