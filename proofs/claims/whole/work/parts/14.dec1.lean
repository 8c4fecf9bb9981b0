theorem dX1_bringRefusal_27 : decode cX1_bringRefusal 27 = .ok (.ireturn, 1) := by decide +kernel
theorem dX1_waitRefusal_0 : decode cX1_waitRefusal 0 = .ok (.aload_n 0, 1) := by decide +kernel
theorem dX1_waitRefusal_1 : decode cX1_waitRefusal 1 = .ok (.iload_n 2, 1) := by decide +kernel
theorem dX1_waitRefusal_2 : decode cX1_waitRefusal 2 = .ok (.invokevirtual 145, 3) := by decide +kernel
theorem dX1_waitRefusal_5 : decode cX1_waitRefusal 5 = .ok (.ifCond .eq 11, 3) := by decide +kernel
theorem dX1_waitRefusal_8 : decode cX1_waitRefusal 8 = .ok (.aload_n 0, 1) := by decide +kernel
theorem dX1_waitRefusal_9 : decode cX1_waitRefusal 9 = .ok (.iload_n 1, 1) := by decide +kernel
theorem dX1_waitRefusal_10 : decode cX1_waitRefusal 10 = .ok (.invokevirtual 130, 3) := by decide +kernel
theorem dX1_waitRefusal_13 : decode cX1_waitRefusal 13 = .ok (.ifCond .ne 6, 3) := by decide +kernel
theorem dX1_waitRefusal_16 : decode cX1_waitRefusal 16 = .ok (.bipush (-2), 2) := by decide +kernel
theorem dX1_waitRefusal_18 : decode cX1_waitRefusal 18 = .ok (.ireturn, 1) := by decide +kernel
theorem dX1_waitRefusal_19 : decode cX1_waitRefusal 19 = .ok (.aload_n 0, 1) := by decide +kernel
theorem dX1_waitRefusal_20 : decode cX1_waitRefusal 20 = .ok (.getfield 33, 3) := by decide +kernel
theorem dX1_waitRefusal_23 : decode cX1_waitRefusal 23 = .ok (.iload_n 2, 1) := by decide +kernel
theorem dX1_waitRefusal_24 : decode cX1_waitRefusal 24 = .ok (.iaload, 1) := by decide +kernel
theorem dX1_waitRefusal_25 : decode cX1_waitRefusal 25 = .ok (.iload_n 1, 1) := by decide +kernel
theorem dX1_waitRefusal_26 : decode cX1_waitRefusal 26 = .ok (.if_icmp .eq 13, 3) := by decide +kernel
theorem dX1_waitRefusal_29 : decode cX1_waitRefusal 29 = .ok (.aload_n 0, 1) := by decide +kernel
theorem dX1_waitRefusal_30 : decode cX1_waitRefusal 30 = .ok (.iload_n 1, 1) := by decide +kernel
theorem dX1_waitRefusal_31 : decode cX1_waitRefusal 31 = .ok (.iload_n 2, 1) := by decide +kernel
theorem dX1_waitRefusal_32 : decode cX1_waitRefusal 32 = .ok (.invokevirtual 161, 3) := by decide +kernel
theorem dX1_waitRefusal_35 : decode cX1_waitRefusal 35 = .ok (.iconst (-1), 1) := by decide +kernel
theorem dX1_waitRefusal_36 : decode cX1_waitRefusal 36 = .ok (.if_icmp .eq 6, 3) := by decide +kernel
theorem dX1_waitRefusal_39 : decode cX1_waitRefusal 39 = .ok (.bipush (-3), 2) := by decide +kernel
theorem dX1_waitRefusal_41 : decode cX1_waitRefusal 41 = .ok (.ireturn, 1) := by decide +kernel
theorem dX1_waitRefusal_42 : decode cX1_waitRefusal 42 = .ok (.aload_n 0, 1) := by decide +kernel
theorem dX1_waitRefusal_43 : decode cX1_waitRefusal 43 = .ok (.getfield 62, 3) := by decide +kernel
theorem dX1_waitRefusal_46 : decode cX1_waitRefusal 46 = .ok (.bipush 12, 2) := by decide +kernel
theorem dX1_waitRefusal_48 : decode cX1_waitRefusal 48 = .ok (.if_icmp .lt 8, 3) := by decide +kernel
theorem dX1_waitRefusal_51 : decode cX1_waitRefusal 51 = .ok (.bipush (-5), 2) := by decide +kernel
theorem dX1_waitRefusal_53 : decode cX1_waitRefusal 53 = .ok (.goto 4, 3) := by decide +kernel
theorem dX1_waitRefusal_56 : decode cX1_waitRefusal 56 = .ok (.iconst 0, 1) := by decide +kernel
theorem dX1_waitRefusal_57 : decode cX1_waitRefusal 57 = .ok (.ireturn, 1) := by decide +kernel
theorem dX1_passRefusal_0 : decode cX1_passRefusal 0 = .ok (.aload_n 0, 1) := by decide +kernel
theorem dX1_passRefusal_1 : decode cX1_passRefusal 1 = .ok (.getfield 48, 3) := by decide +kernel
theorem dX1_passRefusal_4 : decode cX1_passRefusal 4 = .ok (.iconst 0, 1) := by decide +kernel
theorem dX1_passRefusal_5 : decode cX1_passRefusal 5 = .ok (.iaload, 1) := by decide +kernel
theorem dX1_passRefusal_6 : decode cX1_passRefusal 6 = .ok (.sipush 999, 3) := by decide +kernel
theorem dX1_passRefusal_9 : decode cX1_passRefusal 9 = .ok (.if_icmp .ge 7, 3) := by decide +kernel
theorem dX1_passRefusal_12 : decode cX1_passRefusal 12 = .ok (.iconst 0, 1) := by decide +kernel
theorem dX1_passRefusal_13 : decode cX1_passRefusal 13 = .ok (.goto 5, 3) := by decide +kernel
theorem dX1_passRefusal_16 : decode cX1_passRefusal 16 = .ok (.bipush (-3), 2) := by decide +kernel
theorem dX1_passRefusal_18 : decode cX1_passRefusal 18 = .ok (.ireturn, 1) := by decide +kernel
theorem dX1_leave_0 : decode cX1_leave 0 = .ok (.aload_n 0, 1) := by decide +kernel
theorem dX1_leave_1 : decode cX1_leave 1 = .ok (.getfield 33, 3) := by decide +kernel
theorem dX1_leave_4 : decode cX1_leave 4 = .ok (.iload_n 1, 1) := by decide +kernel
theorem dX1_leave_5 : decode cX1_leave 5 = .ok (.iaload, 1) := by decide +kernel
theorem dX1_leave_6 : decode cX1_leave 6 = .ok (.istore_n 2, 1) := by decide +kernel
theorem dX1_leave_7 : decode cX1_leave 7 = .ok (.aload_n 0, 1) := by decide +kernel
theorem dX1_leave_8 : decode cX1_leave 8 = .ok (.iload_n 2, 1) := by decide +kernel
theorem dX1_leave_9 : decode cX1_leave 9 = .ok (.invokevirtual 130, 3) := by decide +kernel
theorem dX1_leave_12 : decode cX1_leave 12 = .ok (.ifCond .ne 5, 3) := by decide +kernel
theorem dX1_leave_15 : decode cX1_leave 15 = .ok (.iconst 0, 1) := by decide +kernel
theorem dX1_leave_16 : decode cX1_leave 16 = .ok (.ireturn, 1) := by decide +kernel
theorem dX1_leave_17 : decode cX1_leave 17 = .ok (.aload_n 0, 1) := by decide +kernel
theorem dX1_leave_18 : decode cX1_leave 18 = .ok (.iconst 2, 1) := by decide +kernel
theorem dX1_leave_19 : decode cX1_leave 19 = .ok (.aload_n 0, 1) := by decide +kernel
theorem dX1_leave_20 : decode cX1_leave 20 = .ok (.getfield 51, 3) := by decide +kernel
theorem dX1_leave_23 : decode cX1_leave 23 = .ok (.getfield 134, 3) := by decide +kernel
theorem dX1_leave_26 : decode cX1_leave 26 = .ok (.iload_n 2, 1) := by decide +kernel
theorem dX1_leave_27 : decode cX1_leave 27 = .ok (.iload_n 1, 1) := by decide +kernel
theorem dX1_leave_28 : decode cX1_leave 28 = .ok (.aload_n 0, 1) := by decide +kernel
theorem dX1_leave_29 : decode cX1_leave 29 = .ok (.getfield 24, 3) := by decide +kernel
theorem dX1_leave_32 : decode cX1_leave 32 = .ok (.iload_n 1, 1) := by decide +kernel
theorem dX1_leave_33 : decode cX1_leave 33 = .ok (.iaload, 1) := by decide +kernel
theorem dX1_leave_34 : decode cX1_leave 34 = .ok (.invokevirtual 137, 3) := by decide +kernel
theorem dX1_leave_37 : decode cX1_leave 37 = .ok (.istore_n 3, 1) := by decide +kernel
theorem dX1_leave_38 : decode cX1_leave 38 = .ok (.aload_n 0, 1) := by decide +kernel
theorem dX1_leave_39 : decode cX1_leave 39 = .ok (.iload_n 1, 1) := by decide +kernel
theorem dX1_leave_40 : decode cX1_leave 40 = .ok (.aload_n 0, 1) := by decide +kernel
theorem dX1_leave_41 : decode cX1_leave 41 = .ok (.iconst 0, 1) := by decide +kernel
theorem dX1_leave_42 : decode cX1_leave 42 = .ok (.aload_n 0, 1) := by decide +kernel
theorem dX1_leave_43 : decode cX1_leave 43 = .ok (.getfield 51, 3) := by decide +kernel
theorem dX1_leave_46 : decode cX1_leave 46 = .ok (.getfield 134, 3) := by decide +kernel
theorem dX1_leave_49 : decode cX1_leave 49 = .ok (.iload_n 2, 1) := by decide +kernel
theorem dX1_leave_50 : decode cX1_leave 50 = .ok (.iload_n 1, 1) := by decide +kernel
theorem dX1_leave_51 : decode cX1_leave 51 = .ok (.aload_n 0, 1) := by decide +kernel
theorem dX1_leave_52 : decode cX1_leave 52 = .ok (.getfield 24, 3) := by decide +kernel
theorem dX1_leave_55 : decode cX1_leave 55 = .ok (.iload_n 1, 1) := by decide +kernel
theorem dX1_leave_56 : decode cX1_leave 56 = .ok (.iaload, 1) := by decide +kernel
theorem dX1_leave_57 : decode cX1_leave 57 = .ok (.invokevirtual 137, 3) := by decide +kernel
theorem dX1_leave_60 : decode cX1_leave 60 = .ok (.invokevirtual 164, 3) := by decide +kernel
theorem dX1_leave_63 : decode cX1_leave 63 = .ok (.istore 4, 2) := by decide +kernel
theorem dX1_leave_65 : decode cX1_leave 65 = .ok (.aload_n 0, 1) := by decide +kernel
theorem dX1_leave_66 : decode cX1_leave 66 = .ok (.iload_n 1, 1) := by decide +kernel
theorem dX1_leave_67 : decode cX1_leave 67 = .ok (.iload_n 3, 1) := by decide +kernel
theorem dX1_leave_68 : decode cX1_leave 68 = .ok (.invokevirtual 141, 3) := by decide +kernel
theorem dX1_leave_71 : decode cX1_leave 71 = .ok (.ifCond .eq 30, 3) := by decide +kernel
theorem dX1_leave_74 : decode cX1_leave 74 = .ok (.aload_n 0, 1) := by decide +kernel
theorem dX1_leave_75 : decode cX1_leave 75 = .ok (.getfield 39, 3) := by decide +kernel
theorem dX1_leave_78 : decode cX1_leave 78 = .ok (.iload_n 1, 1) := by decide +kernel
theorem dX1_leave_79 : decode cX1_leave 79 = .ok (.dup2, 1) := by decide +kernel
theorem dX1_leave_80 : decode cX1_leave 80 = .ok (.iaload, 1) := by decide +kernel
theorem dX1_leave_81 : decode cX1_leave 81 = .ok (.iconst 1, 1) := by decide +kernel
theorem dX1_leave_82 : decode cX1_leave 82 = .ok (.iload_n 2, 1) := by decide +kernel
theorem dX1_leave_83 : decode cX1_leave 83 = .ok (.ishl, 1) := by decide +kernel
theorem dX1_leave_84 : decode cX1_leave 84 = .ok (.ior, 1) := by decide +kernel
theorem dX1_leave_85 : decode cX1_leave 85 = .ok (.iastore, 1) := by decide +kernel
theorem dX1_leave_86 : decode cX1_leave 86 = .ok (.aload_n 0, 1) := by decide +kernel
theorem dX1_leave_87 : decode cX1_leave 87 = .ok (.getfield 24, 3) := by decide +kernel
theorem dX1_leave_90 : decode cX1_leave 90 = .ok (.iload_n 1, 1) := by decide +kernel
theorem dX1_leave_91 : decode cX1_leave 91 = .ok (.dup2, 1) := by decide +kernel
theorem dX1_leave_92 : decode cX1_leave 92 = .ok (.iaload, 1) := by decide +kernel
theorem dX1_leave_93 : decode cX1_leave 93 = .ok (.aload_n 0, 1) := by decide +kernel
theorem dX1_leave_94 : decode cX1_leave 94 = .ok (.getfield 18, 3) := by decide +kernel
theorem dX1_leave_97 : decode cX1_leave 97 = .ok (.iload_n 2, 1) := by decide +kernel
theorem dX1_leave_98 : decode cX1_leave 98 = .ok (.iaload, 1) := by decide +kernel
theorem dX1_leave_99 : decode cX1_leave 99 = .ok (.ior, 1) := by decide +kernel
theorem dX1_leave_100 : decode cX1_leave 100 = .ok (.iastore, 1) := by decide +kernel
theorem dX1_leave_101 : decode cX1_leave 101 = .ok (.aload_n 0, 1) := by decide +kernel
theorem dX1_leave_102 : decode cX1_leave 102 = .ok (.getfield 21, 3) := by decide +kernel
theorem dX1_leave_105 : decode cX1_leave 105 = .ok (.iload_n 2, 1) := by decide +kernel
theorem dX1_leave_106 : decode cX1_leave 106 = .ok (.dup2, 1) := by decide +kernel
theorem dX1_leave_107 : decode cX1_leave 107 = .ok (.iaload, 1) := by decide +kernel
theorem dX1_leave_108 : decode cX1_leave 108 = .ok (.iload 4, 2) := by decide +kernel
theorem dX1_leave_110 : decode cX1_leave 110 = .ok (.isub, 1) := by decide +kernel
theorem dX1_leave_111 : decode cX1_leave 111 = .ok (.iastore, 1) := by decide +kernel
theorem dX1_leave_112 : decode cX1_leave 112 = .ok (.aload_n 0, 1) := by decide +kernel
theorem dX1_leave_113 : decode cX1_leave 113 = .ok (.getfield 33, 3) := by decide +kernel
theorem dX1_leave_116 : decode cX1_leave 116 = .ok (.iload_n 1, 1) := by decide +kernel
theorem dX1_leave_117 : decode cX1_leave 117 = .ok (.iconst (-1), 1) := by decide +kernel
theorem dX1_leave_118 : decode cX1_leave 118 = .ok (.iastore, 1) := by decide +kernel
theorem dX1_leave_119 : decode cX1_leave 119 = .ok (.iload 4, 2) := by decide +kernel
theorem dX1_leave_121 : decode cX1_leave 121 = .ok (.ireturn, 1) := by decide +kernel
theorem dX1_lendOut_0 : decode cX1_lendOut 0 = .ok (.aload_n 0, 1) := by decide +kernel
theorem dX1_lendOut_1 : decode cX1_lendOut 1 = .ok (.iload_n 1, 1) := by decide +kernel
theorem dX1_lendOut_2 : decode cX1_lendOut 2 = .ok (.invokevirtual 167, 3) := by decide +kernel
theorem dX1_lendOut_5 : decode cX1_lendOut 5 = .ok (.istore_n 3, 1) := by decide +kernel
theorem dX1_lendOut_6 : decode cX1_lendOut 6 = .ok (.aload_n 0, 1) := by decide +kernel
theorem dX1_lendOut_7 : decode cX1_lendOut 7 = .ok (.getfield 33, 3) := by decide +kernel
theorem dX1_lendOut_10 : decode cX1_lendOut 10 = .ok (.iload_n 1, 1) := by decide +kernel
theorem dX1_lendOut_11 : decode cX1_lendOut 11 = .ok (.iload_n 2, 1) := by decide +kernel
theorem dX1_lendOut_12 : decode cX1_lendOut 12 = .ok (.iastore, 1) := by decide +kernel
theorem dX1_lendOut_13 : decode cX1_lendOut 13 = .ok (.aload_n 0, 1) := by decide +kernel
theorem dX1_lendOut_14 : decode cX1_lendOut 14 = .ok (.getfield 36, 3) := by decide +kernel
theorem dX1_lendOut_17 : decode cX1_lendOut 17 = .ok (.iload_n 1, 1) := by decide +kernel
theorem dX1_lendOut_18 : decode cX1_lendOut 18 = .ok (.aload_n 0, 1) := by decide +kernel
theorem dX1_lendOut_19 : decode cX1_lendOut 19 = .ok (.getfield 48, 3) := by decide +kernel
theorem dX1_lendOut_22 : decode cX1_lendOut 22 = .ok (.iconst 0, 1) := by decide +kernel
theorem dX1_lendOut_23 : decode cX1_lendOut 23 = .ok (.iaload, 1) := by decide +kernel
theorem dX1_lendOut_24 : decode cX1_lendOut 24 = .ok (.iastore, 1) := by decide +kernel
theorem dX1_lendOut_25 : decode cX1_lendOut 25 = .ok (.aload_n 0, 1) := by decide +kernel
theorem dX1_lendOut_26 : decode cX1_lendOut 26 = .ok (.aload_n 0, 1) := by decide +kernel
theorem dX1_lendOut_27 : decode cX1_lendOut 27 = .ok (.iload_n 2, 1) := by decide +kernel
theorem dX1_lendOut_28 : decode cX1_lendOut 28 = .ok (.iload_n 1, 1) := by decide +kernel
theorem dX1_lendOut_29 : decode cX1_lendOut 29 = .ok (.invokevirtual 161, 3) := by decide +kernel
theorem dX1_lendOut_32 : decode cX1_lendOut 32 = .ok (.invokevirtual 170, 3) := by decide +kernel
theorem dX1_lendOut_35 : decode cX1_lendOut 35 = .ok (.iload_n 3, 1) := by decide +kernel
theorem dX1_lendOut_36 : decode cX1_lendOut 36 = .ok (.ireturn, 1) := by decide +kernel
theorem dX1_addWaiting_0 : decode cX1_addWaiting 0 = .ok (.aload_n 0, 1) := by decide +kernel
theorem dX1_addWaiting_1 : decode cX1_addWaiting 1 = .ok (.getfield 62, 3) := by decide +kernel
theorem dX1_addWaiting_4 : decode cX1_addWaiting 4 = .ok (.bipush 12, 2) := by decide +kernel
theorem dX1_addWaiting_6 : decode cX1_addWaiting 6 = .ok (.if_icmp .ge 33, 3) := by decide +kernel
theorem dX1_addWaiting_9 : decode cX1_addWaiting 9 = .ok (.aload_n 0, 1) := by decide +kernel
theorem dX1_addWaiting_10 : decode cX1_addWaiting 10 = .ok (.getfield 42, 3) := by decide +kernel
theorem dX1_addWaiting_13 : decode cX1_addWaiting 13 = .ok (.aload_n 0, 1) := by decide +kernel
theorem dX1_addWaiting_14 : decode cX1_addWaiting 14 = .ok (.getfield 62, 3) := by decide +kernel
theorem dX1_addWaiting_17 : decode cX1_addWaiting 17 = .ok (.iload_n 1, 1) := by decide +kernel
theorem dX1_addWaiting_18 : decode cX1_addWaiting 18 = .ok (.iastore, 1) := by decide +kernel
theorem dX1_addWaiting_19 : decode cX1_addWaiting 19 = .ok (.aload_n 0, 1) := by decide +kernel
theorem dX1_addWaiting_20 : decode cX1_addWaiting 20 = .ok (.getfield 45, 3) := by decide +kernel
theorem dX1_addWaiting_23 : decode cX1_addWaiting 23 = .ok (.aload_n 0, 1) := by decide +kernel
theorem dX1_addWaiting_24 : decode cX1_addWaiting 24 = .ok (.getfield 62, 3) := by decide +kernel
theorem dX1_addWaiting_27 : decode cX1_addWaiting 27 = .ok (.iload_n 2, 1) := by decide +kernel
theorem dX1_addWaiting_28 : decode cX1_addWaiting 28 = .ok (.iastore, 1) := by decide +kernel
theorem dX1_addWaiting_29 : decode cX1_addWaiting 29 = .ok (.aload_n 0, 1) := by decide +kernel
theorem dX1_addWaiting_30 : decode cX1_addWaiting 30 = .ok (.dup, 1) := by decide +kernel
theorem dX1_addWaiting_31 : decode cX1_addWaiting 31 = .ok (.getfield 62, 3) := by decide +kernel
theorem dX1_addWaiting_34 : decode cX1_addWaiting 34 = .ok (.iconst 1, 1) := by decide +kernel
theorem dX1_addWaiting_35 : decode cX1_addWaiting 35 = .ok (.iadd, 1) := by decide +kernel
theorem dX1_addWaiting_36 : decode cX1_addWaiting 36 = .ok (.putfield 62, 3) := by decide +kernel
theorem dX1_addWaiting_39 : decode cX1_addWaiting 39 = .ok (.aload_n 0, 1) := by decide +kernel
theorem dX1_addWaiting_40 : decode cX1_addWaiting 40 = .ok (.getfield 62, 3) := by decide +kernel
theorem dX1_addWaiting_43 : decode cX1_addWaiting 43 = .ok (.ireturn, 1) := by decide +kernel
theorem dX1_placeWaiting_0 : decode cX1_placeWaiting 0 = .ok (.iconst 0, 1) := by decide +kernel
theorem dX1_placeWaiting_1 : decode cX1_placeWaiting 1 = .ok (.istore_n 3, 1) := by decide +kernel
theorem dX1_placeWaiting_2 : decode cX1_placeWaiting 2 = .ok (.iload_n 3, 1) := by decide +kernel
theorem dX1_placeWaiting_3 : decode cX1_placeWaiting 3 = .ok (.aload_n 0, 1) := by decide +kernel
theorem dX1_placeWaiting_4 : decode cX1_placeWaiting 4 = .ok (.getfield 62, 3) := by decide +kernel
theorem dX1_placeWaiting_7 : decode cX1_placeWaiting 7 = .ok (.if_icmp .ge 31, 3) := by decide +kernel
theorem dX1_placeWaiting_10 : decode cX1_placeWaiting 10 = .ok (.aload_n 0, 1) := by decide +kernel
theorem dX1_placeWaiting_11 : decode cX1_placeWaiting 11 = .ok (.getfield 42, 3) := by decide +kernel
theorem dX1_placeWaiting_14 : decode cX1_placeWaiting 14 = .ok (.iload_n 3, 1) := by decide +kernel
theorem dX1_placeWaiting_15 : decode cX1_placeWaiting 15 = .ok (.iaload, 1) := by decide +kernel
theorem dX1_placeWaiting_16 : decode cX1_placeWaiting 16 = .ok (.iload_n 1, 1) := by decide +kernel
theorem dX1_placeWaiting_17 : decode cX1_placeWaiting 17 = .ok (.if_icmp .ne 15, 3) := by decide +kernel
theorem dX1_placeWaiting_20 : decode cX1_placeWaiting 20 = .ok (.aload_n 0, 1) := by decide +kernel
theorem dX1_placeWaiting_21 : decode cX1_placeWaiting 21 = .ok (.getfield 45, 3) := by decide +kernel
theorem dX1_placeWaiting_24 : decode cX1_placeWaiting 24 = .ok (.iload_n 3, 1) := by decide +kernel
theorem dX1_placeWaiting_25 : decode cX1_placeWaiting 25 = .ok (.iaload, 1) := by decide +kernel
theorem dX1_placeWaiting_26 : decode cX1_placeWaiting 26 = .ok (.iload_n 2, 1) := by decide +kernel
theorem dX1_placeWaiting_27 : decode cX1_placeWaiting 27 = .ok (.if_icmp .ne 5, 3) := by decide +kernel
theorem dX1_placeWaiting_30 : decode cX1_placeWaiting 30 = .ok (.iload_n 3, 1) := by decide +kernel
theorem dX1_placeWaiting_31 : decode cX1_placeWaiting 31 = .ok (.ireturn, 1) := by decide +kernel
theorem dX1_placeWaiting_32 : decode cX1_placeWaiting 32 = .ok (.iinc 3 1, 3) := by decide +kernel
theorem dX1_placeWaiting_35 : decode cX1_placeWaiting 35 = .ok (.goto (-33), 3) := by decide +kernel
theorem dX1_placeWaiting_38 : decode cX1_placeWaiting 38 = .ok (.iconst (-1), 1) := by decide +kernel
theorem dX1_placeWaiting_39 : decode cX1_placeWaiting 39 = .ok (.ireturn, 1) := by decide +kernel
theorem dX1_dropWaiting_0 : decode cX1_dropWaiting 0 = .ok (.iload_n 1, 1) := by decide +kernel
theorem dX1_dropWaiting_1 : decode cX1_dropWaiting 1 = .ok (.ifCond .lt 11, 3) := by decide +kernel
theorem dX1_dropWaiting_4 : decode cX1_dropWaiting 4 = .ok (.iload_n 1, 1) := by decide +kernel
theorem dX1_dropWaiting_5 : decode cX1_dropWaiting 5 = .ok (.aload_n 0, 1) := by decide +kernel
theorem dX1_dropWaiting_6 : decode cX1_dropWaiting 6 = .ok (.getfield 62, 3) := by decide +kernel
theorem dX1_dropWaiting_9 : decode cX1_dropWaiting 9 = .ok (.if_icmp .lt 4, 3) := by decide +kernel
theorem dX1_dropWaiting_12 : decode cX1_dropWaiting 12 = .ok (.return_, 1) := by decide +kernel
theorem dX1_dropWaiting_13 : decode cX1_dropWaiting 13 = .ok (.aload_n 0, 1) := by decide +kernel
theorem dX1_dropWaiting_14 : decode cX1_dropWaiting 14 = .ok (.dup, 1) := by decide +kernel
theorem dX1_dropWaiting_15 : decode cX1_dropWaiting 15 = .ok (.getfield 62, 3) := by decide +kernel
theorem dX1_dropWaiting_18 : decode cX1_dropWaiting 18 = .ok (.iconst 1, 1) := by decide +kernel
theorem dX1_dropWaiting_19 : decode cX1_dropWaiting 19 = .ok (.isub, 1) := by decide +kernel
theorem dX1_dropWaiting_20 : decode cX1_dropWaiting 20 = .ok (.putfield 62, 3) := by decide +kernel
theorem dX1_dropWaiting_23 : decode cX1_dropWaiting 23 = .ok (.iload_n 1, 1) := by decide +kernel
theorem dX1_dropWaiting_24 : decode cX1_dropWaiting 24 = .ok (.istore_n 2, 1) := by decide +kernel
theorem dX1_dropWaiting_25 : decode cX1_dropWaiting 25 = .ok (.iload_n 2, 1) := by decide +kernel
theorem dX1_dropWaiting_26 : decode cX1_dropWaiting 26 = .ok (.aload_n 0, 1) := by decide +kernel
theorem dX1_dropWaiting_27 : decode cX1_dropWaiting 27 = .ok (.getfield 62, 3) := by decide +kernel
theorem dX1_dropWaiting_30 : decode cX1_dropWaiting 30 = .ok (.if_icmp .ge 37, 3) := by decide +kernel
theorem dX1_dropWaiting_33 : decode cX1_dropWaiting 33 = .ok (.aload_n 0, 1) := by decide +kernel
theorem dX1_dropWaiting_34 : decode cX1_dropWaiting 34 = .ok (.getfield 42, 3) := by decide +kernel
theorem dX1_dropWaiting_37 : decode cX1_dropWaiting 37 = .ok (.iload_n 2, 1) := by decide +kernel
theorem dX1_dropWaiting_38 : decode cX1_dropWaiting 38 = .ok (.aload_n 0, 1) := by decide +kernel
theorem dX1_dropWaiting_39 : decode cX1_dropWaiting 39 = .ok (.getfield 42, 3) := by decide +kernel
theorem dX1_dropWaiting_42 : decode cX1_dropWaiting 42 = .ok (.iload_n 2, 1) := by decide +kernel
theorem dX1_dropWaiting_43 : decode cX1_dropWaiting 43 = .ok (.iconst 1, 1) := by decide +kernel
theorem dX1_dropWaiting_44 : decode cX1_dropWaiting 44 = .ok (.iadd, 1) := by decide +kernel
theorem dX1_dropWaiting_45 : decode cX1_dropWaiting 45 = .ok (.iaload, 1) := by decide +kernel
theorem dX1_dropWaiting_46 : decode cX1_dropWaiting 46 = .ok (.iastore, 1) := by decide +kernel
theorem dX1_dropWaiting_47 : decode cX1_dropWaiting 47 = .ok (.aload_n 0, 1) := by decide +kernel
theorem dX1_dropWaiting_48 : decode cX1_dropWaiting 48 = .ok (.getfield 45, 3) := by decide +kernel
theorem dX1_dropWaiting_51 : decode cX1_dropWaiting 51 = .ok (.iload_n 2, 1) := by decide +kernel
theorem dX1_dropWaiting_52 : decode cX1_dropWaiting 52 = .ok (.aload_n 0, 1) := by decide +kernel
theorem dX1_dropWaiting_53 : decode cX1_dropWaiting 53 = .ok (.getfield 45, 3) := by decide +kernel
theorem dX1_dropWaiting_56 : decode cX1_dropWaiting 56 = .ok (.iload_n 2, 1) := by decide +kernel
theorem dX1_dropWaiting_57 : decode cX1_dropWaiting 57 = .ok (.iconst 1, 1) := by decide +kernel
theorem dX1_dropWaiting_58 : decode cX1_dropWaiting 58 = .ok (.iadd, 1) := by decide +kernel
theorem dX1_dropWaiting_59 : decode cX1_dropWaiting 59 = .ok (.iaload, 1) := by decide +kernel
theorem dX1_dropWaiting_60 : decode cX1_dropWaiting 60 = .ok (.iastore, 1) := by decide +kernel
theorem dX1_dropWaiting_61 : decode cX1_dropWaiting 61 = .ok (.iinc 2 1, 3) := by decide +kernel
theorem dX1_dropWaiting_64 : decode cX1_dropWaiting 64 = .ok (.goto (-39), 3) := by decide +kernel
theorem dX1_dropWaiting_67 : decode cX1_dropWaiting 67 = .ok (.return_, 1) := by decide +kernel
theorem dX1_firstWaiting_0 : decode cX1_firstWaiting 0 = .ok (.iconst 0, 1) := by decide +kernel
theorem dX1_firstWaiting_1 : decode cX1_firstWaiting 1 = .ok (.istore_n 2, 1) := by decide +kernel
theorem dX1_firstWaiting_2 : decode cX1_firstWaiting 2 = .ok (.iload_n 2, 1) := by decide +kernel
theorem dX1_firstWaiting_3 : decode cX1_firstWaiting 3 = .ok (.aload_n 0, 1) := by decide +kernel
theorem dX1_firstWaiting_4 : decode cX1_firstWaiting 4 = .ok (.getfield 62, 3) := by decide +kernel
theorem dX1_firstWaiting_7 : decode cX1_firstWaiting 7 = .ok (.if_icmp .ge 40, 3) := by decide +kernel
theorem dX1_firstWaiting_10 : decode cX1_firstWaiting 10 = .ok (.aload_n 0, 1) := by decide +kernel
theorem dX1_firstWaiting_11 : decode cX1_firstWaiting 11 = .ok (.getfield 45, 3) := by decide +kernel
theorem dX1_firstWaiting_14 : decode cX1_firstWaiting 14 = .ok (.iload_n 2, 1) := by decide +kernel
theorem dX1_firstWaiting_15 : decode cX1_firstWaiting 15 = .ok (.iaload, 1) := by decide +kernel
theorem dX1_firstWaiting_16 : decode cX1_firstWaiting 16 = .ok (.iload_n 1, 1) := by decide +kernel
theorem dX1_firstWaiting_17 : decode cX1_firstWaiting 17 = .ok (.if_icmp .ne 24, 3) := by decide +kernel
theorem dX1_firstWaiting_20 : decode cX1_firstWaiting 20 = .ok (.aload_n 0, 1) := by decide +kernel
theorem dX1_firstWaiting_21 : decode cX1_firstWaiting 21 = .ok (.aload_n 0, 1) := by decide +kernel
theorem dX1_firstWaiting_22 : decode cX1_firstWaiting 22 = .ok (.getfield 42, 3) := by decide +kernel
theorem dX1_firstWaiting_25 : decode cX1_firstWaiting 25 = .ok (.iload_n 2, 1) := by decide +kernel
theorem dX1_firstWaiting_26 : decode cX1_firstWaiting 26 = .ok (.iaload, 1) := by decide +kernel
theorem dX1_firstWaiting_27 : decode cX1_firstWaiting 27 = .ok (.iload_n 1, 1) := by decide +kernel
theorem dX1_firstWaiting_28 : decode cX1_firstWaiting 28 = .ok (.invokevirtual 174, 3) := by decide +kernel
theorem dX1_firstWaiting_31 : decode cX1_firstWaiting 31 = .ok (.ifCond .eq 10, 3) := by decide +kernel
theorem dX1_firstWaiting_34 : decode cX1_firstWaiting 34 = .ok (.aload_n 0, 1) := by decide +kernel
theorem dX1_firstWaiting_35 : decode cX1_firstWaiting 35 = .ok (.getfield 42, 3) := by decide +kernel
theorem dX1_firstWaiting_38 : decode cX1_firstWaiting 38 = .ok (.iload_n 2, 1) := by decide +kernel
theorem dX1_firstWaiting_39 : decode cX1_firstWaiting 39 = .ok (.iaload, 1) := by decide +kernel
theorem dX1_firstWaiting_40 : decode cX1_firstWaiting 40 = .ok (.ireturn, 1) := by decide +kernel
theorem dX1_firstWaiting_41 : decode cX1_firstWaiting 41 = .ok (.iinc 2 1, 3) := by decide +kernel
theorem dX1_firstWaiting_44 : decode cX1_firstWaiting 44 = .ok (.goto (-42), 3) := by decide +kernel
theorem dX1_firstWaiting_47 : decode cX1_firstWaiting 47 = .ok (.iconst (-1), 1) := by decide +kernel
theorem dX1_firstWaiting_48 : decode cX1_firstWaiting 48 = .ok (.ireturn, 1) := by decide +kernel
theorem dX1_passWeek_0 : decode cX1_passWeek 0 = .ok (.iconst 0, 1) := by decide +kernel
theorem dX1_passWeek_1 : decode cX1_passWeek 1 = .ok (.istore_n 1, 1) := by decide +kernel
theorem dX1_passWeek_2 : decode cX1_passWeek 2 = .ok (.iload_n 1, 1) := by decide +kernel
theorem dX1_passWeek_3 : decode cX1_passWeek 3 = .ok (.aload_n 0, 1) := by decide +kernel
theorem dX1_passWeek_4 : decode cX1_passWeek 4 = .ok (.getfield 59, 3) := by decide +kernel
theorem dX1_passWeek_7 : decode cX1_passWeek 7 = .ok (.if_icmp .ge 61, 3) := by decide +kernel
theorem dX1_passWeek_10 : decode cX1_passWeek 10 = .ok (.aload_n 0, 1) := by decide +kernel
theorem dX1_passWeek_11 : decode cX1_passWeek 11 = .ok (.getfield 33, 3) := by decide +kernel
theorem dX1_passWeek_14 : decode cX1_passWeek 14 = .ok (.iload_n 1, 1) := by decide +kernel
theorem dX1_passWeek_15 : decode cX1_passWeek 15 = .ok (.iaload, 1) := by decide +kernel
theorem dX1_passWeek_16 : decode cX1_passWeek 16 = .ok (.istore_n 2, 1) := by decide +kernel
theorem dX1_passWeek_17 : decode cX1_passWeek 17 = .ok (.iload_n 2, 1) := by decide +kernel
theorem dX1_passWeek_18 : decode cX1_passWeek 18 = .ok (.iconst (-1), 1) := by decide +kernel
theorem dX1_passWeek_19 : decode cX1_passWeek 19 = .ok (.if_icmp .eq 43, 3) := by decide +kernel
theorem dX1_passWeek_22 : decode cX1_passWeek 22 = .ok (.aload_n 0, 1) := by decide +kernel
theorem dX1_passWeek_23 : decode cX1_passWeek 23 = .ok (.iconst 1, 1) := by decide +kernel
theorem dX1_passWeek_24 : decode cX1_passWeek 24 = .ok (.aload_n 0, 1) := by decide +kernel
theorem dX1_passWeek_25 : decode cX1_passWeek 25 = .ok (.getfield 51, 3) := by decide +kernel
theorem dX1_passWeek_28 : decode cX1_passWeek 28 = .ok (.getfield 134, 3) := by decide +kernel
theorem dX1_passWeek_31 : decode cX1_passWeek 31 = .ok (.iload_n 2, 1) := by decide +kernel
theorem dX1_passWeek_32 : decode cX1_passWeek 32 = .ok (.iload_n 1, 1) := by decide +kernel
theorem dX1_passWeek_33 : decode cX1_passWeek 33 = .ok (.aload_n 0, 1) := by decide +kernel
theorem dX1_passWeek_34 : decode cX1_passWeek 34 = .ok (.getfield 24, 3) := by decide +kernel
theorem dX1_passWeek_37 : decode cX1_passWeek 37 = .ok (.iload_n 1, 1) := by decide +kernel
theorem dX1_passWeek_38 : decode cX1_passWeek 38 = .ok (.iaload, 1) := by decide +kernel
theorem dX1_passWeek_39 : decode cX1_passWeek 39 = .ok (.invokevirtual 137, 3) := by decide +kernel
theorem dX1_passWeek_42 : decode cX1_passWeek 42 = .ok (.istore_n 3, 1) := by decide +kernel
theorem dX1_passWeek_43 : decode cX1_passWeek 43 = .ok (.aload_n 0, 1) := by decide +kernel
theorem dX1_passWeek_44 : decode cX1_passWeek 44 = .ok (.getfield 30, 3) := by decide +kernel
theorem dX1_passWeek_47 : decode cX1_passWeek 47 = .ok (.iload_n 1, 1) := by decide +kernel
theorem dX1_passWeek_48 : decode cX1_passWeek 48 = .ok (.bipush 99, 2) := by decide +kernel
theorem dX1_passWeek_50 : decode cX1_passWeek 50 = .ok (.aload_n 0, 1) := by decide +kernel
theorem dX1_passWeek_51 : decode cX1_passWeek 51 = .ok (.getfield 30, 3) := by decide +kernel
theorem dX1_passWeek_54 : decode cX1_passWeek 54 = .ok (.iload_n 1, 1) := by decide +kernel
theorem dX1_passWeek_55 : decode cX1_passWeek 55 = .ok (.iaload, 1) := by decide +kernel
theorem dX1_passWeek_56 : decode cX1_passWeek 56 = .ok (.iload_n 3, 1) := by decide +kernel
theorem dX1_passWeek_57 : decode cX1_passWeek 57 = .ok (.iadd, 1) := by decide +kernel
theorem dX1_passWeek_58 : decode cX1_passWeek 58 = .ok (.invokestatic 119, 3) := by decide +kernel
theorem dX1_passWeek_61 : decode cX1_passWeek 61 = .ok (.iastore, 1) := by decide +kernel
theorem dX1_passWeek_62 : decode cX1_passWeek 62 = .ok (.iinc 1 1, 3) := by decide +kernel
theorem dX1_passWeek_65 : decode cX1_passWeek 65 = .ok (.goto (-63), 3) := by decide +kernel
theorem dX1_passWeek_68 : decode cX1_passWeek 68 = .ok (.aload_n 0, 1) := by decide +kernel
theorem dX1_passWeek_69 : decode cX1_passWeek 69 = .ok (.getfield 48, 3) := by decide +kernel
theorem dX1_passWeek_72 : decode cX1_passWeek 72 = .ok (.iconst 0, 1) := by decide +kernel
theorem dX1_passWeek_73 : decode cX1_passWeek 73 = .ok (.dup2, 1) := by decide +kernel
theorem dX1_passWeek_74 : decode cX1_passWeek 74 = .ok (.iaload, 1) := by decide +kernel
theorem dX1_passWeek_75 : decode cX1_passWeek 75 = .ok (.iconst 1, 1) := by decide +kernel
theorem dX1_passWeek_76 : decode cX1_passWeek 76 = .ok (.iadd, 1) := by decide +kernel
theorem dX1_passWeek_77 : decode cX1_passWeek 77 = .ok (.iastore, 1) := by decide +kernel
theorem dX1_passWeek_78 : decode cX1_passWeek 78 = .ok (.aload_n 0, 1) := by decide +kernel
theorem dX1_passWeek_79 : decode cX1_passWeek 79 = .ok (.getfield 48, 3) := by decide +kernel
theorem dX1_passWeek_82 : decode cX1_passWeek 82 = .ok (.iconst 0, 1) := by decide +kernel
theorem dX1_passWeek_83 : decode cX1_passWeek 83 = .ok (.iaload, 1) := by decide +kernel
theorem dX1_passWeek_84 : decode cX1_passWeek 84 = .ok (.ireturn, 1) := by decide +kernel
theorem dX2_init_0 : decode cX2_init 0 = .ok (.aload_n 0, 1) := by decide +kernel
theorem dX2_init_1 : decode cX2_init 1 = .ok (.invokespecial 1, 3) := by decide +kernel
theorem dX2_init_4 : decode cX2_init 4 = .ok (.aload_n 0, 1) := by decide +kernel
theorem dX2_init_5 : decode cX2_init 5 = .ok (.new 7, 3) := by decide +kernel
theorem dX2_init_8 : decode cX2_init 8 = .ok (.dup, 1) := by decide +kernel
theorem dX2_init_9 : decode cX2_init 9 = .ok (.invokespecial 9, 3) := by decide +kernel
theorem dX2_init_12 : decode cX2_init 12 = .ok (.putfield 10, 3) := by decide +kernel
theorem dX2_init_15 : decode cX2_init 15 = .ok (.aload_n 0, 1) := by decide +kernel
theorem dX2_init_16 : decode cX2_init 16 = .ok (.new 16, 3) := by decide +kernel
theorem dX2_init_19 : decode cX2_init 19 = .ok (.dup, 1) := by decide +kernel
theorem dX2_init_20 : decode cX2_init 20 = .ok (.aload_n 0, 1) := by decide +kernel
theorem dX2_init_21 : decode cX2_init 21 = .ok (.getfield 10, 3) := by decide +kernel
theorem dX2_init_24 : decode cX2_init 24 = .ok (.invokespecial 18, 3) := by decide +kernel
theorem dX2_init_27 : decode cX2_init 27 = .ok (.putfield 21, 3) := by decide +kernel
theorem dX2_init_30 : decode cX2_init 30 = .ok (.return_, 1) := by decide +kernel
theorem dX3_init_0 : decode cX3_init 0 = .ok (.aload_n 0, 1) := by decide +kernel
theorem dX3_init_1 : decode cX3_init 1 = .ok (.invokespecial 3, 3) := by decide +kernel
theorem dX3_init_4 : decode cX3_init 4 = .ok (.aload_n 0, 1) := by decide +kernel
theorem dX3_init_5 : decode cX3_init 5 = .ok (.new 9, 3) := by decide +kernel
theorem dX3_init_8 : decode cX3_init 8 = .ok (.dup, 1) := by decide +kernel
theorem dX3_init_9 : decode cX3_init 9 = .ok (.iconst 0, 1) := by decide +kernel
theorem dX3_init_10 : decode cX3_init 10 = .ok (.iconst 0, 1) := by decide +kernel
theorem dX3_init_11 : decode cX3_init 11 = .ok (.invokespecial 11, 3) := by decide +kernel
theorem dX3_init_14 : decode cX3_init 14 = .ok (.putfield 14, 3) := by decide +kernel
theorem dX3_init_17 : decode cX3_init 17 = .ok (.aload_n 0, 1) := by decide +kernel
theorem dX3_init_18 : decode cX3_init 18 = .ok (.bipush 6, 2) := by decide +kernel
theorem dX3_init_20 : decode cX3_init 20 = .ok (.anewarray 9, 3) := by decide +kernel
theorem dX3_init_23 : decode cX3_init 23 = .ok (.putfield 20, 3) := by decide +kernel
theorem dX3_init_26 : decode cX3_init 26 = .ok (.aload_n 0, 1) := by decide +kernel
theorem dX3_init_27 : decode cX3_init 27 = .ok (.new 24, 3) := by decide +kernel
theorem dX3_init_30 : decode cX3_init 30 = .ok (.dup, 1) := by decide +kernel
theorem dX3_init_31 : decode cX3_init 31 = .ok (.invokespecial 26, 3) := by decide +kernel
theorem dX3_init_34 : decode cX3_init 34 = .ok (.putfield 27, 3) := by decide +kernel
theorem dX3_init_37 : decode cX3_init 37 = .ok (.aload_n 0, 1) := by decide +kernel
theorem dX3_init_38 : decode cX3_init 38 = .ok (.bipush 9, 2) := by decide +kernel
theorem dX3_init_40 : decode cX3_init 40 = .ok (.newarray .int, 2) := by decide +kernel
theorem dX3_init_42 : decode cX3_init 42 = .ok (.putfield 31, 3) := by decide +kernel
theorem dX3_init_45 : decode cX3_init 45 = .ok (.aload_n 0, 1) := by decide +kernel
theorem dX3_init_46 : decode cX3_init 46 = .ok (.iconst 0, 1) := by decide +kernel
theorem dX3_init_47 : decode cX3_init 47 = .ok (.putfield 35, 3) := by decide +kernel
theorem dX3_init_50 : decode cX3_init 50 = .ok (.aload_n 0, 1) := by decide +kernel
theorem dX3_init_51 : decode cX3_init 51 = .ok (.iconst (-1), 1) := by decide +kernel
theorem dX3_init_52 : decode cX3_init 52 = .ok (.putfield 39, 3) := by decide +kernel
theorem dX3_init_55 : decode cX3_init 55 = .ok (.return_, 1) := by decide +kernel
theorem dX3_has_0 : decode cX3_has 0 = .ok (.iload_n 1, 1) := by decide +kernel
theorem dX3_has_1 : decode cX3_has 1 = .ok (.ifCond .lt 15, 3) := by decide +kernel
theorem dX3_has_4 : decode cX3_has 4 = .ok (.iload_n 1, 1) := by decide +kernel
theorem dX3_has_5 : decode cX3_has 5 = .ok (.aload_n 0, 1) := by decide +kernel
theorem dX3_has_6 : decode cX3_has 6 = .ok (.getfield 35, 3) := by decide +kernel
theorem dX3_has_9 : decode cX3_has 9 = .ok (.if_icmp .ge 7, 3) := by decide +kernel
theorem dX3_has_12 : decode cX3_has 12 = .ok (.iconst 1, 1) := by decide +kernel
theorem dX3_has_13 : decode cX3_has 13 = .ok (.goto 4, 3) := by decide +kernel
theorem dX3_has_16 : decode cX3_has 16 = .ok (.iconst 0, 1) := by decide +kernel
theorem dX3_has_17 : decode cX3_has 17 = .ok (.ireturn, 1) := by decide +kernel
theorem dX3_textOf_0 : decode cX3_textOf 0 = .ok (.aload_n 0, 1) := by decide +kernel
theorem dX3_textOf_1 : decode cX3_textOf 1 = .ok (.iload_n 1, 1) := by decide +kernel
theorem dX3_textOf_2 : decode cX3_textOf 2 = .ok (.invokevirtual 42, 3) := by decide +kernel
theorem dX3_textOf_5 : decode cX3_textOf 5 = .ok (.ifCond .eq 21, 3) := by decide +kernel
theorem dX3_textOf_8 : decode cX3_textOf 8 = .ok (.aload_n 0, 1) := by decide +kernel
theorem dX3_textOf_9 : decode cX3_textOf 9 = .ok (.getfield 20, 3) := by decide +kernel
theorem dX3_textOf_12 : decode cX3_textOf 12 = .ok (.iload_n 1, 1) := by decide +kernel
theorem dX3_textOf_13 : decode cX3_textOf 13 = .ok (.aaload, 1) := by decide +kernel
theorem dX3_textOf_14 : decode cX3_textOf 14 = .ok (.ifnull 12, 3) := by decide +kernel
theorem dX3_textOf_17 : decode cX3_textOf 17 = .ok (.aload_n 0, 1) := by decide +kernel
theorem dX3_textOf_18 : decode cX3_textOf 18 = .ok (.getfield 20, 3) := by decide +kernel
theorem dX3_textOf_21 : decode cX3_textOf 21 = .ok (.iload_n 1, 1) := by decide +kernel
theorem dX3_textOf_22 : decode cX3_textOf 22 = .ok (.aaload, 1) := by decide +kernel
theorem dX3_textOf_23 : decode cX3_textOf 23 = .ok (.goto 7, 3) := by decide +kernel
theorem dX3_textOf_26 : decode cX3_textOf 26 = .ok (.aload_n 0, 1) := by decide +kernel
theorem dX3_textOf_27 : decode cX3_textOf 27 = .ok (.getfield 14, 3) := by decide +kernel
theorem dX3_textOf_30 : decode cX3_textOf 30 = .ok (.areturn, 1) := by decide +kernel
theorem dX3_add_0 : decode cX3_add 0 = .ok (.aload_n 0, 1) := by decide +kernel
theorem dX3_add_1 : decode cX3_add 1 = .ok (.getfield 35, 3) := by decide +kernel
theorem dX3_add_4 : decode cX3_add 4 = .ok (.bipush 6, 2) := by decide +kernel
theorem dX3_add_6 : decode cX3_add 6 = .ok (.if_icmp .lt 5, 3) := by decide +kernel
theorem dX3_add_9 : decode cX3_add 9 = .ok (.iconst (-1), 1) := by decide +kernel
theorem dX3_add_10 : decode cX3_add 10 = .ok (.ireturn, 1) := by decide +kernel
theorem dX3_add_11 : decode cX3_add 11 = .ok (.aload_n 0, 1) := by decide +kernel
theorem dX3_add_12 : decode cX3_add 12 = .ok (.getfield 20, 3) := by decide +kernel
theorem dX3_add_15 : decode cX3_add 15 = .ok (.aload_n 0, 1) := by decide +kernel
theorem dX3_add_16 : decode cX3_add 16 = .ok (.getfield 35, 3) := by decide +kernel
theorem dX3_add_19 : decode cX3_add 19 = .ok (.aload_n 1, 1) := by decide +kernel
theorem dX3_add_20 : decode cX3_add 20 = .ok (.aastore, 1) := by decide +kernel
theorem dX3_add_21 : decode cX3_add 21 = .ok (.aload_n 0, 1) := by decide +kernel
theorem dX3_add_22 : decode cX3_add 22 = .ok (.dup, 1) := by decide +kernel
theorem dX3_add_23 : decode cX3_add 23 = .ok (.getfield 35, 3) := by decide +kernel
theorem dX3_add_26 : decode cX3_add 26 = .ok (.iconst 1, 1) := by decide +kernel
theorem dX3_add_27 : decode cX3_add 27 = .ok (.iadd, 1) := by decide +kernel
theorem dX3_add_28 : decode cX3_add 28 = .ok (.putfield 35, 3) := by decide +kernel
theorem dX3_add_31 : decode cX3_add 31 = .ok (.aload_n 0, 1) := by decide +kernel
theorem dX3_add_32 : decode cX3_add 32 = .ok (.getfield 35, 3) := by decide +kernel
theorem dX3_add_35 : decode cX3_add 35 = .ok (.iconst 1, 1) := by decide +kernel
theorem dX3_add_36 : decode cX3_add 36 = .ok (.isub, 1) := by decide +kernel
theorem dX3_add_37 : decode cX3_add 37 = .ok (.ireturn, 1) := by decide +kernel
theorem dX3_copyFrom_0 : decode cX3_copyFrom 0 = .ok (.aload_n 0, 1) := by decide +kernel
theorem dX3_copyFrom_1 : decode cX3_copyFrom 1 = .ok (.aload_n 1, 1) := by decide +kernel
theorem dX3_copyFrom_2 : decode cX3_copyFrom 2 = .ok (.getfield 35, 3) := by decide +kernel
theorem dX3_copyFrom_5 : decode cX3_copyFrom 5 = .ok (.putfield 35, 3) := by decide +kernel
theorem dX3_copyFrom_8 : decode cX3_copyFrom 8 = .ok (.aload_n 0, 1) := by decide +kernel
theorem dX3_copyFrom_9 : decode cX3_copyFrom 9 = .ok (.aload_n 1, 1) := by decide +kernel
theorem dX3_copyFrom_10 : decode cX3_copyFrom 10 = .ok (.getfield 39, 3) := by decide +kernel
theorem dX3_copyFrom_13 : decode cX3_copyFrom 13 = .ok (.putfield 39, 3) := by decide +kernel
theorem dX3_copyFrom_16 : decode cX3_copyFrom 16 = .ok (.iconst 0, 1) := by decide +kernel
theorem dX3_copyFrom_17 : decode cX3_copyFrom 17 = .ok (.istore_n 2, 1) := by decide +kernel
theorem dX3_copyFrom_18 : decode cX3_copyFrom 18 = .ok (.iload_n 2, 1) := by decide +kernel
theorem dX3_copyFrom_19 : decode cX3_copyFrom 19 = .ok (.bipush 6, 2) := by decide +kernel
theorem dX3_copyFrom_21 : decode cX3_copyFrom 21 = .ok (.if_icmp .ge 21, 3) := by decide +kernel
theorem dX3_copyFrom_24 : decode cX3_copyFrom 24 = .ok (.aload_n 0, 1) := by decide +kernel
theorem dX3_copyFrom_25 : decode cX3_copyFrom 25 = .ok (.getfield 20, 3) := by decide +kernel
theorem dX3_copyFrom_28 : decode cX3_copyFrom 28 = .ok (.iload_n 2, 1) := by decide +kernel
theorem dX3_copyFrom_29 : decode cX3_copyFrom 29 = .ok (.aload_n 1, 1) := by decide +kernel
theorem dX3_copyFrom_30 : decode cX3_copyFrom 30 = .ok (.getfield 20, 3) := by decide +kernel
theorem dX3_copyFrom_33 : decode cX3_copyFrom 33 = .ok (.iload_n 2, 1) := by decide +kernel
theorem dX3_copyFrom_34 : decode cX3_copyFrom 34 = .ok (.aaload, 1) := by decide +kernel
theorem dX3_copyFrom_35 : decode cX3_copyFrom 35 = .ok (.aastore, 1) := by decide +kernel
theorem dX3_copyFrom_36 : decode cX3_copyFrom 36 = .ok (.iinc 2 1, 3) := by decide +kernel
theorem dX3_copyFrom_39 : decode cX3_copyFrom 39 = .ok (.goto (-21), 3) := by decide +kernel
theorem dX3_copyFrom_42 : decode cX3_copyFrom 42 = .ok (.return_, 1) := by decide +kernel
theorem dX4_init_0 : decode cX4_init 0 = .ok (.aload_n 0, 1) := by decide +kernel
theorem dX4_init_1 : decode cX4_init 1 = .ok (.invokespecial 5, 3) := by decide +kernel
theorem dX4_init_4 : decode cX4_init 4 = .ok (.aload_n 0, 1) := by decide +kernel
theorem dX4_init_5 : decode cX4_init 5 = .ok (.new 11, 3) := by decide +kernel
theorem dX4_init_8 : decode cX4_init 8 = .ok (.dup, 1) := by decide +kernel
theorem dX4_init_9 : decode cX4_init 9 = .ok (.bipush 12, 2) := by decide +kernel
theorem dX4_init_11 : decode cX4_init 11 = .ok (.sipush 400, 3) := by decide +kernel
theorem dX4_init_14 : decode cX4_init 14 = .ok (.invokespecial 13, 3) := by decide +kernel
theorem dX4_init_17 : decode cX4_init 17 = .ok (.putfield 16, 3) := by decide +kernel
theorem dX4_init_20 : decode cX4_init 20 = .ok (.aload_n 0, 1) := by decide +kernel
theorem dX4_init_21 : decode cX4_init 21 = .ok (.iconst (-1), 1) := by decide +kernel
theorem dX4_init_22 : decode cX4_init 22 = .ok (.putfield 20, 3) := by decide +kernel
theorem dX4_init_25 : decode cX4_init 25 = .ok (.aload_n 0, 1) := by decide +kernel
theorem dX4_init_26 : decode cX4_init 26 = .ok (.sipush 401, 3) := by decide +kernel
theorem dX4_init_29 : decode cX4_init 29 = .ok (.newarray .int, 2) := by decide +kernel
theorem dX4_init_31 : decode cX4_init 31 = .ok (.putfield 24, 3) := by decide +kernel
theorem dX4_init_34 : decode cX4_init 34 = .ok (.aload_n 0, 1) := by decide +kernel
theorem dX4_init_35 : decode cX4_init 35 = .ok (.sipush 401, 3) := by decide +kernel
theorem dX4_init_38 : decode cX4_init 38 = .ok (.newarray .int, 2) := by decide +kernel
theorem dX4_init_40 : decode cX4_init 40 = .ok (.putfield 28, 3) := by decide +kernel
theorem dX4_init_43 : decode cX4_init 43 = .ok (.aload_n 0, 1) := by decide +kernel
theorem dX4_init_44 : decode cX4_init 44 = .ok (.iconst 1, 1) := by decide +kernel
theorem dX4_init_45 : decode cX4_init 45 = .ok (.putfield 31, 3) := by decide +kernel
theorem dX4_init_48 : decode cX4_init 48 = .ok (.aload_n 0, 1) := by decide +kernel
theorem dX4_init_49 : decode cX4_init 49 = .ok (.iconst 0, 1) := by decide +kernel
theorem dX4_init_50 : decode cX4_init 50 = .ok (.putfield 35, 3) := by decide +kernel
theorem dX4_init_53 : decode cX4_init 53 = .ok (.aload_n 0, 1) := by decide +kernel
theorem dX4_init_54 : decode cX4_init 54 = .ok (.iconst 0, 1) := by decide +kernel
theorem dX4_init_55 : decode cX4_init 55 = .ok (.putfield 38, 3) := by decide +kernel
theorem dX4_init_58 : decode cX4_init 58 = .ok (.aload_n 0, 1) := by decide +kernel
theorem dX4_init_59 : decode cX4_init 59 = .ok (.aload_n 1, 1) := by decide +kernel
theorem dX4_init_60 : decode cX4_init 60 = .ok (.putfield 41, 3) := by decide +kernel
theorem dX4_init_63 : decode cX4_init 63 = .ok (.return_, 1) := by decide +kernel
theorem dX4_reads_0 : decode cX4_reads 0 = .ok (.aload_n 0, 1) := by decide +kernel
theorem dX4_reads_1 : decode cX4_reads 1 = .ok (.invokevirtual 45, 3) := by decide +kernel
theorem dX4_reads_4 : decode cX4_reads 4 = .ok (.aload_n 0, 1) := by decide +kernel
theorem dX4_reads_5 : decode cX4_reads 5 = .ok (.getfield 16, 3) := by decide +kernel
theorem dX4_reads_8 : decode cX4_reads 8 = .ok (.invokevirtual 48, 3) := by decide +kernel
theorem dX4_reads_11 : decode cX4_reads 11 = .ok (.aload_n 0, 1) := by decide +kernel
theorem dX4_reads_12 : decode cX4_reads 12 = .ok (.iload_n 1, 1) := by decide +kernel
theorem dX4_reads_13 : decode cX4_reads 13 = .ok (.putfield 31, 3) := by decide +kernel
theorem dX4_reads_16 : decode cX4_reads 16 = .ok (.aload_n 0, 1) := by decide +kernel
theorem dX4_reads_17 : decode cX4_reads 17 = .ok (.iconst (-1), 1) := by decide +kernel
theorem dX4_reads_18 : decode cX4_reads 18 = .ok (.putfield 20, 3) := by decide +kernel
theorem dX4_reads_21 : decode cX4_reads 21 = .ok (.aload_n 0, 1) := by decide +kernel
theorem dX4_reads_22 : decode cX4_reads 22 = .ok (.iconst 0, 1) := by decide +kernel
theorem dX4_reads_23 : decode cX4_reads 23 = .ok (.putfield 35, 3) := by decide +kernel
theorem dX4_reads_26 : decode cX4_reads 26 = .ok (.aload_n 0, 1) := by decide +kernel
theorem dX4_reads_27 : decode cX4_reads 27 = .ok (.iconst 0, 1) := by decide +kernel
theorem dX4_reads_28 : decode cX4_reads 28 = .ok (.putfield 38, 3) := by decide +kernel
theorem dX4_reads_31 : decode cX4_reads 31 = .ok (.iconst 0, 1) := by decide +kernel
theorem dX4_reads_32 : decode cX4_reads 32 = .ok (.istore_n 2, 1) := by decide +kernel
theorem dX4_reads_33 : decode cX4_reads 33 = .ok (.iload_n 2, 1) := by decide +kernel
theorem dX4_reads_34 : decode cX4_reads 34 = .ok (.bipush 12, 2) := by decide +kernel
theorem dX4_reads_36 : decode cX4_reads 36 = .ok (.if_icmp .ge 90, 3) := by decide +kernel
theorem dX4_reads_39 : decode cX4_reads 39 = .ok (.aload_n 0, 1) := by decide +kernel
theorem dX4_reads_40 : decode cX4_reads 40 = .ok (.getfield 31, 3) := by decide +kernel
theorem dX4_reads_43 : decode cX4_reads 43 = .ok (.ifCond .eq 11, 3) := by decide +kernel
theorem dX4_reads_46 : decode cX4_reads 46 = .ok (.aload_n 0, 1) := by decide +kernel
theorem dX4_reads_47 : decode cX4_reads 47 = .ok (.iload_n 2, 1) := by decide +kernel
theorem dX4_reads_48 : decode cX4_reads 48 = .ok (.invokevirtual 51, 3) := by decide +kernel
theorem dX4_reads_51 : decode cX4_reads 51 = .ok (.goto 8, 3) := by decide +kernel
theorem dX4_reads_54 : decode cX4_reads 54 = .ok (.aload_n 0, 1) := by decide +kernel
theorem dX4_reads_55 : decode cX4_reads 55 = .ok (.iload_n 2, 1) := by decide +kernel
theorem dX4_reads_56 : decode cX4_reads 56 = .ok (.invokevirtual 55, 3) := by decide +kernel
theorem dX4_reads_59 : decode cX4_reads 59 = .ok (.istore_n 3, 1) := by decide +kernel
theorem dX4_reads_60 : decode cX4_reads 60 = .ok (.iload_n 3, 1) := by decide +kernel
theorem dX4_reads_61 : decode cX4_reads 61 = .ok (.ifCond .eq 11, 3) := by decide +kernel
theorem dX4_reads_64 : decode cX4_reads 64 = .ok (.aload_n 0, 1) := by decide +kernel
theorem dX4_reads_65 : decode cX4_reads 65 = .ok (.iload_n 2, 1) := by decide +kernel
theorem dX4_reads_66 : decode cX4_reads 66 = .ok (.invokevirtual 58, 3) := by decide +kernel
theorem dX4_reads_69 : decode cX4_reads 69 = .ok (.ifCond .ne 5, 3) := by decide +kernel
theorem dX4_reads_72 : decode cX4_reads 72 = .ok (.iconst 0, 1) := by decide +kernel
theorem dX4_reads_73 : decode cX4_reads 73 = .ok (.ireturn, 1) := by decide +kernel
theorem dX4_reads_74 : decode cX4_reads 74 = .ok (.aload_n 0, 1) := by decide +kernel
theorem dX4_reads_75 : decode cX4_reads 75 = .ok (.getfield 24, 3) := by decide +kernel
theorem dX4_reads_78 : decode cX4_reads 78 = .ok (.aload_n 0, 1) := by decide +kernel
theorem dX4_reads_79 : decode cX4_reads 79 = .ok (.getfield 35, 3) := by decide +kernel
theorem dX4_reads_82 : decode cX4_reads 82 = .ok (.iaload, 1) := by decide +kernel
theorem dX4_reads_83 : decode cX4_reads 83 = .ok (.sipush 256, 3) := by decide +kernel
theorem dX4_reads_86 : decode cX4_reads 86 = .ok (.if_icmp .ne 5, 3) := by decide +kernel
theorem dX4_reads_89 : decode cX4_reads 89 = .ok (.iconst 1, 1) := by decide +kernel
theorem dX4_reads_90 : decode cX4_reads 90 = .ok (.ireturn, 1) := by decide +kernel
theorem dX4_reads_91 : decode cX4_reads 91 = .ok (.aload_n 0, 1) := by decide +kernel
theorem dX4_reads_92 : decode cX4_reads 92 = .ok (.getfield 24, 3) := by decide +kernel
theorem dX4_reads_95 : decode cX4_reads 95 = .ok (.aload_n 0, 1) := by decide +kernel
theorem dX4_reads_96 : decode cX4_reads 96 = .ok (.getfield 35, 3) := by decide +kernel
theorem dX4_reads_99 : decode cX4_reads 99 = .ok (.iaload, 1) := by decide +kernel
theorem dX4_reads_100 : decode cX4_reads 100 = .ok (.bipush 59, 2) := by decide +kernel
theorem dX4_reads_102 : decode cX4_reads 102 = .ok (.if_icmp .eq 8, 3) := by decide +kernel
theorem dX4_reads_105 : decode cX4_reads 105 = .ok (.aload_n 0, 1) := by decide +kernel
theorem dX4_reads_106 : decode cX4_reads 106 = .ok (.invokevirtual 61, 3) := by decide +kernel
theorem dX4_reads_109 : decode cX4_reads 109 = .ok (.ireturn, 1) := by decide +kernel
theorem dX4_reads_110 : decode cX4_reads 110 = .ok (.aload_n 0, 1) := by decide +kernel
theorem dX4_reads_111 : decode cX4_reads 111 = .ok (.dup, 1) := by decide +kernel
theorem dX4_reads_112 : decode cX4_reads 112 = .ok (.getfield 35, 3) := by decide +kernel
theorem dX4_reads_115 : decode cX4_reads 115 = .ok (.iconst 1, 1) := by decide +kernel
theorem dX4_reads_116 : decode cX4_reads 116 = .ok (.iadd, 1) := by decide +kernel
theorem dX4_reads_117 : decode cX4_reads 117 = .ok (.putfield 35, 3) := by decide +kernel
theorem dX4_reads_120 : decode cX4_reads 120 = .ok (.iinc 2 1, 3) := by decide +kernel
theorem dX4_reads_123 : decode cX4_reads 123 = .ok (.goto (-90), 3) := by decide +kernel
theorem dX4_reads_126 : decode cX4_reads 126 = .ok (.aload_n 0, 1) := by decide +kernel
theorem dX4_reads_127 : decode cX4_reads 127 = .ok (.invokevirtual 61, 3) := by decide +kernel
theorem dX4_reads_130 : decode cX4_reads 130 = .ok (.ireturn, 1) := by decide +kernel
theorem dX4_fails_0 : decode cX4_fails 0 = .ok (.aload_n 0, 1) := by decide +kernel
theorem dX4_fails_1 : decode cX4_fails 1 = .ok (.aload_n 0, 1) := by decide +kernel
theorem dX4_fails_2 : decode cX4_fails 2 = .ok (.getfield 28, 3) := by decide +kernel
theorem dX4_fails_5 : decode cX4_fails 5 = .ok (.aload_n 0, 1) := by decide +kernel
theorem dX4_fails_6 : decode cX4_fails 6 = .ok (.getfield 35, 3) := by decide +kernel
theorem dX4_fails_9 : decode cX4_fails 9 = .ok (.iaload, 1) := by decide +kernel
theorem dX4_fails_10 : decode cX4_fails 10 = .ok (.putfield 20, 3) := by decide +kernel
theorem dX4_fails_13 : decode cX4_fails 13 = .ok (.iconst 0, 1) := by decide +kernel
theorem dX4_fails_14 : decode cX4_fails 14 = .ok (.ireturn, 1) := by decide +kernel
theorem dX4_isLetter_0 : decode cX4_isLetter 0 = .ok (.iload_n 0, 1) := by decide +kernel
theorem dX4_isLetter_1 : decode cX4_isLetter 1 = .ok (.bipush 97, 2) := by decide +kernel
theorem dX4_isLetter_3 : decode cX4_isLetter 3 = .ok (.if_icmp .lt 13, 3) := by decide +kernel
theorem dX4_isLetter_6 : decode cX4_isLetter 6 = .ok (.iload_n 0, 1) := by decide +kernel
theorem dX4_isLetter_7 : decode cX4_isLetter 7 = .ok (.bipush 122, 2) := by decide +kernel
theorem dX4_isLetter_9 : decode cX4_isLetter 9 = .ok (.if_icmp .gt 7, 3) := by decide +kernel
theorem dX4_isLetter_12 : decode cX4_isLetter 12 = .ok (.iconst 1, 1) := by decide +kernel
theorem dX4_isLetter_13 : decode cX4_isLetter 13 = .ok (.goto 4, 3) := by decide +kernel
theorem dX4_isLetter_16 : decode cX4_isLetter 16 = .ok (.iconst 0, 1) := by decide +kernel
theorem dX4_isLetter_17 : decode cX4_isLetter 17 = .ok (.ireturn, 1) := by decide +kernel
theorem dX4_isDigit_0 : decode cX4_isDigit 0 = .ok (.iload_n 0, 1) := by decide +kernel
theorem dX4_isDigit_1 : decode cX4_isDigit 1 = .ok (.bipush 48, 2) := by decide +kernel
theorem dX4_isDigit_3 : decode cX4_isDigit 3 = .ok (.if_icmp .lt 13, 3) := by decide +kernel
theorem dX4_isDigit_6 : decode cX4_isDigit 6 = .ok (.iload_n 0, 1) := by decide +kernel
theorem dX4_isDigit_7 : decode cX4_isDigit 7 = .ok (.bipush 57, 2) := by decide +kernel
theorem dX4_isDigit_9 : decode cX4_isDigit 9 = .ok (.if_icmp .gt 7, 3) := by decide +kernel
theorem dX4_isDigit_12 : decode cX4_isDigit 12 = .ok (.iconst 1, 1) := by decide +kernel
theorem dX4_isDigit_13 : decode cX4_isDigit 13 = .ok (.goto 4, 3) := by decide +kernel
theorem dX4_isDigit_16 : decode cX4_isDigit 16 = .ok (.iconst 0, 1) := by decide +kernel
theorem dX4_isDigit_17 : decode cX4_isDigit 17 = .ok (.ireturn, 1) := by decide +kernel
theorem dX4_split_0 : decode cX4_split 0 = .ok (.iconst 0, 1) := by decide +kernel
theorem dX4_split_1 : decode cX4_split 1 = .ok (.istore_n 1, 1) := by decide +kernel
theorem dX4_split_2 : decode cX4_split 2 = .ok (.iconst 0, 1) := by decide +kernel
theorem dX4_split_3 : decode cX4_split 3 = .ok (.istore_n 2, 1) := by decide +kernel
theorem dX4_split_4 : decode cX4_split 4 = .ok (.iload_n 2, 1) := by decide +kernel
theorem dX4_split_5 : decode cX4_split 5 = .ok (.aload_n 0, 1) := by decide +kernel
theorem dX4_split_6 : decode cX4_split 6 = .ok (.getfield 41, 3) := by decide +kernel
theorem dX4_split_9 : decode cX4_split 9 = .ok (.getfield 65, 3) := by decide +kernel
theorem dX4_split_12 : decode cX4_split 12 = .ok (.if_icmp .ge 158, 3) := by decide +kernel
theorem dX4_split_15 : decode cX4_split 15 = .ok (.iload_n 2, 1) := by decide +kernel
theorem dX4_split_16 : decode cX4_split 16 = .ok (.iconst 1, 1) := by decide +kernel
theorem dX4_split_17 : decode cX4_split 17 = .ok (.iadd, 1) := by decide +kernel
theorem dX4_split_18 : decode cX4_split 18 = .ok (.istore_n 3, 1) := by decide +kernel
theorem dX4_split_19 : decode cX4_split 19 = .ok (.aload_n 0, 1) := by decide +kernel
theorem dX4_split_20 : decode cX4_split 20 = .ok (.getfield 41, 3) := by decide +kernel
theorem dX4_split_23 : decode cX4_split 23 = .ok (.getfield 70, 3) := by decide +kernel
theorem dX4_split_26 : decode cX4_split 26 = .ok (.iload_n 2, 1) := by decide +kernel
theorem dX4_split_27 : decode cX4_split 27 = .ok (.iaload, 1) := by decide +kernel
theorem dX4_split_28 : decode cX4_split 28 = .ok (.istore 4, 2) := by decide +kernel
theorem dX4_split_30 : decode cX4_split 30 = .ok (.iload 4, 2) := by decide +kernel
theorem dX4_split_32 : decode cX4_split 32 = .ok (.bipush 32, 2) := by decide +kernel
theorem dX4_split_34 : decode cX4_split 34 = .ok (.if_icmp .eq 131, 3) := by decide +kernel
theorem dX4_split_37 : decode cX4_split 37 = .ok (.aload_n 0, 1) := by decide +kernel
theorem dX4_split_38 : decode cX4_split 38 = .ok (.getfield 28, 3) := by decide +kernel
theorem dX4_split_41 : decode cX4_split 41 = .ok (.iload_n 1, 1) := by decide +kernel
theorem dX4_split_42 : decode cX4_split 42 = .ok (.iload_n 2, 1) := by decide +kernel
theorem dX4_split_43 : decode cX4_split 43 = .ok (.iastore, 1) := by decide +kernel
theorem dX4_split_44 : decode cX4_split 44 = .ok (.iload 4, 2) := by decide +kernel
theorem dX4_split_46 : decode cX4_split 46 = .ok (.invokestatic 73, 3) := by decide +kernel
theorem dX4_split_49 : decode cX4_split 49 = .ok (.ifCond .eq 50, 3) := by decide +kernel
theorem dX4_split_52 : decode cX4_split 52 = .ok (.iload_n 3, 1) := by decide +kernel
theorem dX4_split_53 : decode cX4_split 53 = .ok (.aload_n 0, 1) := by decide +kernel
theorem dX4_split_54 : decode cX4_split 54 = .ok (.getfield 41, 3) := by decide +kernel
theorem dX4_split_57 : decode cX4_split 57 = .ok (.getfield 65, 3) := by decide +kernel
theorem dX4_split_60 : decode cX4_split 60 = .ok (.if_icmp .ge 24, 3) := by decide +kernel
theorem dX4_split_63 : decode cX4_split 63 = .ok (.aload_n 0, 1) := by decide +kernel
theorem dX4_split_64 : decode cX4_split 64 = .ok (.getfield 41, 3) := by decide +kernel
theorem dX4_split_67 : decode cX4_split 67 = .ok (.getfield 70, 3) := by decide +kernel
theorem dX4_split_70 : decode cX4_split 70 = .ok (.iload_n 3, 1) := by decide +kernel
theorem dX4_split_71 : decode cX4_split 71 = .ok (.iaload, 1) := by decide +kernel
theorem dX4_split_72 : decode cX4_split 72 = .ok (.invokestatic 73, 3) := by decide +kernel
theorem dX4_split_75 : decode cX4_split 75 = .ok (.ifCond .eq 9, 3) := by decide +kernel
theorem dX4_split_78 : decode cX4_split 78 = .ok (.iinc 3 1, 3) := by decide +kernel
theorem dX4_split_81 : decode cX4_split 81 = .ok (.goto (-29), 3) := by decide +kernel
theorem dX4_split_84 : decode cX4_split 84 = .ok (.aload_n 0, 1) := by decide +kernel
theorem dX4_split_85 : decode cX4_split 85 = .ok (.getfield 24, 3) := by decide +kernel
theorem dX4_split_88 : decode cX4_split 88 = .ok (.iload_n 1, 1) := by decide +kernel
theorem dX4_split_89 : decode cX4_split 89 = .ok (.aload_n 0, 1) := by decide +kernel
theorem dX4_split_90 : decode cX4_split 90 = .ok (.iload_n 2, 1) := by decide +kernel
theorem dX4_split_91 : decode cX4_split 91 = .ok (.iload_n 3, 1) := by decide +kernel
theorem dX4_split_92 : decode cX4_split 92 = .ok (.invokevirtual 76, 3) := by decide +kernel
theorem dX4_split_95 : decode cX4_split 95 = .ok (.iastore, 1) := by decide +kernel
theorem dX4_split_96 : decode cX4_split 96 = .ok (.goto 66, 3) := by decide +kernel
theorem dX4_split_99 : decode cX4_split 99 = .ok (.iload 4, 2) := by decide +kernel
theorem dX4_split_101 : decode cX4_split 101 = .ok (.invokestatic 80, 3) := by decide +kernel
theorem dX4_split_104 : decode cX4_split 104 = .ok (.ifCond .eq 50, 3) := by decide +kernel
theorem dX4_split_107 : decode cX4_split 107 = .ok (.iload_n 3, 1) := by decide +kernel
theorem dX4_split_108 : decode cX4_split 108 = .ok (.aload_n 0, 1) := by decide +kernel
theorem dX4_split_109 : decode cX4_split 109 = .ok (.getfield 41, 3) := by decide +kernel
theorem dX4_split_112 : decode cX4_split 112 = .ok (.getfield 65, 3) := by decide +kernel
theorem dX4_split_115 : decode cX4_split 115 = .ok (.if_icmp .ge 24, 3) := by decide +kernel
theorem dX4_split_118 : decode cX4_split 118 = .ok (.aload_n 0, 1) := by decide +kernel
theorem dX4_split_119 : decode cX4_split 119 = .ok (.getfield 41, 3) := by decide +kernel
theorem dX4_split_122 : decode cX4_split 122 = .ok (.getfield 70, 3) := by decide +kernel
theorem dX4_split_125 : decode cX4_split 125 = .ok (.iload_n 3, 1) := by decide +kernel
theorem dX4_split_126 : decode cX4_split 126 = .ok (.iaload, 1) := by decide +kernel
theorem dX4_split_127 : decode cX4_split 127 = .ok (.invokestatic 80, 3) := by decide +kernel
theorem dX4_split_130 : decode cX4_split 130 = .ok (.ifCond .eq 9, 3) := by decide +kernel
theorem dX4_split_133 : decode cX4_split 133 = .ok (.iinc 3 1, 3) := by decide +kernel
theorem dX4_split_136 : decode cX4_split 136 = .ok (.goto (-29), 3) := by decide +kernel
theorem dX4_split_139 : decode cX4_split 139 = .ok (.aload_n 0, 1) := by decide +kernel
theorem dX4_split_140 : decode cX4_split 140 = .ok (.getfield 24, 3) := by decide +kernel
theorem dX4_split_143 : decode cX4_split 143 = .ok (.iload_n 1, 1) := by decide +kernel
theorem dX4_split_144 : decode cX4_split 144 = .ok (.aload_n 0, 1) := by decide +kernel
theorem dX4_split_145 : decode cX4_split 145 = .ok (.iload_n 2, 1) := by decide +kernel
theorem dX4_split_146 : decode cX4_split 146 = .ok (.iload_n 3, 1) := by decide +kernel
theorem dX4_split_147 : decode cX4_split 147 = .ok (.invokevirtual 83, 3) := by decide +kernel
theorem dX4_split_150 : decode cX4_split 150 = .ok (.iastore, 1) := by decide +kernel
theorem dX4_split_151 : decode cX4_split 151 = .ok (.goto 11, 3) := by decide +kernel
theorem dX4_split_154 : decode cX4_split 154 = .ok (.aload_n 0, 1) := by decide +kernel
theorem dX4_split_155 : decode cX4_split 155 = .ok (.getfield 24, 3) := by decide +kernel
theorem dX4_split_158 : decode cX4_split 158 = .ok (.iload_n 1, 1) := by decide +kernel
theorem dX4_split_159 : decode cX4_split 159 = .ok (.iload 4, 2) := by decide +kernel
theorem dX4_split_161 : decode cX4_split 161 = .ok (.iastore, 1) := by decide +kernel
theorem dX4_split_162 : decode cX4_split 162 = .ok (.iinc 1 1, 3) := by decide +kernel
theorem dX4_split_165 : decode cX4_split 165 = .ok (.iload_n 3, 1) := by decide +kernel
theorem dX4_split_166 : decode cX4_split 166 = .ok (.istore_n 2, 1) := by decide +kernel
theorem dX4_split_167 : decode cX4_split 167 = .ok (.goto (-163), 3) := by decide +kernel
theorem dX4_split_170 : decode cX4_split 170 = .ok (.aload_n 0, 1) := by decide +kernel
theorem dX4_split_171 : decode cX4_split 171 = .ok (.getfield 28, 3) := by decide +kernel
theorem dX4_split_174 : decode cX4_split 174 = .ok (.iload_n 1, 1) := by decide +kernel
theorem dX4_split_175 : decode cX4_split 175 = .ok (.aload_n 0, 1) := by decide +kernel
theorem dX4_split_176 : decode cX4_split 176 = .ok (.getfield 41, 3) := by decide +kernel
theorem dX4_split_179 : decode cX4_split 179 = .ok (.getfield 65, 3) := by decide +kernel
theorem dX4_split_182 : decode cX4_split 182 = .ok (.iastore, 1) := by decide +kernel
theorem dX4_split_183 : decode cX4_split 183 = .ok (.aload_n 0, 1) := by decide +kernel
theorem dX4_split_184 : decode cX4_split 184 = .ok (.getfield 24, 3) := by decide +kernel
theorem dX4_split_187 : decode cX4_split 187 = .ok (.iload_n 1, 1) := by decide +kernel
theorem dX4_split_188 : decode cX4_split 188 = .ok (.sipush 256, 3) := by decide +kernel
theorem dX4_split_191 : decode cX4_split 191 = .ok (.iastore, 1) := by decide +kernel
theorem dX4_split_192 : decode cX4_split 192 = .ok (.return_, 1) := by decide +kernel
theorem dX4_wordToken_0 : decode cX4_wordToken 0 = .ok (.iconst 0, 1) := by decide +kernel
theorem dX4_wordToken_1 : decode cX4_wordToken 1 = .ok (.istore_n 3, 1) := by decide +kernel
theorem dX4_wordToken_2 : decode cX4_wordToken 2 = .ok (.iconst 0, 1) := by decide +kernel
theorem dX4_wordToken_3 : decode cX4_wordToken 3 = .ok (.istore 4, 2) := by decide +kernel
theorem dX4_wordToken_5 : decode cX4_wordToken 5 = .ok (.iconst 0, 1) := by decide +kernel
theorem dX4_wordToken_6 : decode cX4_wordToken 6 = .ok (.istore 5, 2) := by decide +kernel
theorem dX4_wordToken_8 : decode cX4_wordToken 8 = .ok (.iload 5, 2) := by decide +kernel
theorem dX4_wordToken_10 : decode cX4_wordToken 10 = .ok (.ldc 86, 2) := by decide +kernel
theorem dX4_wordToken_12 : decode cX4_wordToken 12 = .ok (.invokevirtual 88, 3) := by decide +kernel
theorem dX4_wordToken_15 : decode cX4_wordToken 15 = .ok (.if_icmp .ge 89, 3) := by decide +kernel
theorem dX4_wordToken_18 : decode cX4_wordToken 18 = .ok (.ldc 86, 2) := by decide +kernel
theorem dX4_wordToken_20 : decode cX4_wordToken 20 = .ok (.iload 5, 2) := by decide +kernel
theorem dX4_wordToken_22 : decode cX4_wordToken 22 = .ok (.invokevirtual 94, 3) := by decide +kernel
theorem dX4_wordToken_25 : decode cX4_wordToken 25 = .ok (.istore 6, 2) := by decide +kernel
theorem dX4_wordToken_27 : decode cX4_wordToken 27 = .ok (.iload 6, 2) := by decide +kernel
theorem dX4_wordToken_29 : decode cX4_wordToken 29 = .ok (.bipush 32, 2) := by decide +kernel
theorem dX4_wordToken_31 : decode cX4_wordToken 31 = .ok (.if_icmp .ne 26, 3) := by decide +kernel
theorem dX4_wordToken_34 : decode cX4_wordToken 34 = .ok (.iload 4, 2) := by decide +kernel
theorem dX4_wordToken_36 : decode cX4_wordToken 36 = .ok (.iload_n 2, 1) := by decide +kernel
theorem dX4_wordToken_37 : decode cX4_wordToken 37 = .ok (.iload_n 1, 1) := by decide +kernel
theorem dX4_wordToken_38 : decode cX4_wordToken 38 = .ok (.isub, 1) := by decide +kernel
theorem dX4_wordToken_39 : decode cX4_wordToken 39 = .ok (.if_icmp .ne 9, 3) := by decide +kernel
theorem dX4_wordToken_42 : decode cX4_wordToken 42 = .ok (.sipush 300, 3) := by decide +kernel
theorem dX4_wordToken_45 : decode cX4_wordToken 45 = .ok (.iload_n 3, 1) := by decide +kernel
theorem dX4_wordToken_46 : decode cX4_wordToken 46 = .ok (.iadd, 1) := by decide +kernel
theorem dX4_wordToken_47 : decode cX4_wordToken 47 = .ok (.ireturn, 1) := by decide +kernel
theorem dX4_wordToken_48 : decode cX4_wordToken 48 = .ok (.iinc 3 1, 3) := by decide +kernel
theorem dX4_wordToken_51 : decode cX4_wordToken 51 = .ok (.iconst 0, 1) := by decide +kernel
theorem dX4_wordToken_52 : decode cX4_wordToken 52 = .ok (.istore 4, 2) := by decide +kernel
theorem dX4_wordToken_54 : decode cX4_wordToken 54 = .ok (.goto 44, 3) := by decide +kernel
theorem dX4_wordToken_57 : decode cX4_wordToken 57 = .ok (.iload 4, 2) := by decide +kernel
theorem dX4_wordToken_59 : decode cX4_wordToken 59 = .ok (.iconst (-1), 1) := by decide +kernel
theorem dX4_wordToken_60 : decode cX4_wordToken 60 = .ok (.if_icmp .eq 38, 3) := by decide +kernel
theorem dX4_wordToken_63 : decode cX4_wordToken 63 = .ok (.iload_n 1, 1) := by decide +kernel
theorem dX4_wordToken_64 : decode cX4_wordToken 64 = .ok (.iload 4, 2) := by decide +kernel
theorem dX4_wordToken_66 : decode cX4_wordToken 66 = .ok (.iadd, 1) := by decide +kernel
theorem dX4_wordToken_67 : decode cX4_wordToken 67 = .ok (.iload_n 2, 1) := by decide +kernel
theorem dX4_wordToken_68 : decode cX4_wordToken 68 = .ok (.if_icmp .ge 27, 3) := by decide +kernel
theorem dX4_wordToken_71 : decode cX4_wordToken 71 = .ok (.aload_n 0, 1) := by decide +kernel
theorem dX4_wordToken_72 : decode cX4_wordToken 72 = .ok (.getfield 41, 3) := by decide +kernel
theorem dX4_wordToken_75 : decode cX4_wordToken 75 = .ok (.getfield 70, 3) := by decide +kernel
theorem dX4_wordToken_78 : decode cX4_wordToken 78 = .ok (.iload_n 1, 1) := by decide +kernel
theorem dX4_wordToken_79 : decode cX4_wordToken 79 = .ok (.iload 4, 2) := by decide +kernel
theorem dX4_wordToken_81 : decode cX4_wordToken 81 = .ok (.iadd, 1) := by decide +kernel
theorem dX4_wordToken_82 : decode cX4_wordToken 82 = .ok (.iaload, 1) := by decide +kernel
theorem dX4_wordToken_83 : decode cX4_wordToken 83 = .ok (.iload 6, 2) := by decide +kernel
theorem dX4_wordToken_85 : decode cX4_wordToken 85 = .ok (.if_icmp .ne 10, 3) := by decide +kernel
theorem dX4_wordToken_88 : decode cX4_wordToken 88 = .ok (.iload 4, 2) := by decide +kernel
theorem dX4_wordToken_90 : decode cX4_wordToken 90 = .ok (.iconst 1, 1) := by decide +kernel
theorem dX4_wordToken_91 : decode cX4_wordToken 91 = .ok (.iadd, 1) := by decide +kernel
theorem dX4_wordToken_92 : decode cX4_wordToken 92 = .ok (.goto 4, 3) := by decide +kernel
theorem dX4_wordToken_95 : decode cX4_wordToken 95 = .ok (.iconst (-1), 1) := by decide +kernel
theorem dX4_wordToken_96 : decode cX4_wordToken 96 = .ok (.istore 4, 2) := by decide +kernel
theorem dX4_wordToken_98 : decode cX4_wordToken 98 = .ok (.iinc 5 1, 3) := by decide +kernel
theorem dX4_wordToken_101 : decode cX4_wordToken 101 = .ok (.goto (-93), 3) := by decide +kernel
theorem dX4_wordToken_104 : decode cX4_wordToken 104 = .ok (.sipush 257, 3) := by decide +kernel
theorem dX4_wordToken_107 : decode cX4_wordToken 107 = .ok (.ireturn, 1) := by decide +kernel
theorem dX4_numberToken_0 : decode cX4_numberToken 0 = .ok (.iconst 0, 1) := by decide +kernel
theorem dX4_numberToken_1 : decode cX4_numberToken 1 = .ok (.istore_n 3, 1) := by decide +kernel
theorem dX4_numberToken_2 : decode cX4_numberToken 2 = .ok (.iload_n 1, 1) := by decide +kernel
theorem dX4_numberToken_3 : decode cX4_numberToken 3 = .ok (.istore 4, 2) := by decide +kernel
theorem dX4_numberToken_5 : decode cX4_numberToken 5 = .ok (.iload 4, 2) := by decide +kernel
theorem dX4_numberToken_7 : decode cX4_numberToken 7 = .ok (.iload_n 2, 1) := by decide +kernel
theorem dX4_numberToken_8 : decode cX4_numberToken 8 = .ok (.if_icmp .ge 34, 3) := by decide +kernel
theorem dX4_numberToken_11 : decode cX4_numberToken 11 = .ok (.sipush 1001, 3) := by decide +kernel
theorem dX4_numberToken_14 : decode cX4_numberToken 14 = .ok (.iload_n 3, 1) := by decide +kernel
theorem dX4_numberToken_15 : decode cX4_numberToken 15 = .ok (.bipush 10, 2) := by decide +kernel
theorem dX4_numberToken_17 : decode cX4_numberToken 17 = .ok (.imul, 1) := by decide +kernel
theorem dX4_numberToken_18 : decode cX4_numberToken 18 = .ok (.aload_n 0, 1) := by decide +kernel
theorem dX4_numberToken_19 : decode cX4_numberToken 19 = .ok (.getfield 41, 3) := by decide +kernel
theorem dX4_numberToken_22 : decode cX4_numberToken 22 = .ok (.getfield 70, 3) := by decide +kernel
theorem dX4_numberToken_25 : decode cX4_numberToken 25 = .ok (.iload 4, 2) := by decide +kernel
theorem dX4_numberToken_27 : decode cX4_numberToken 27 = .ok (.iaload, 1) := by decide +kernel
theorem dX4_numberToken_28 : decode cX4_numberToken 28 = .ok (.iadd, 1) := by decide +kernel
theorem dX4_numberToken_29 : decode cX4_numberToken 29 = .ok (.bipush 48, 2) := by decide +kernel
theorem dX4_numberToken_31 : decode cX4_numberToken 31 = .ok (.isub, 1) := by decide +kernel
theorem dX4_numberToken_32 : decode cX4_numberToken 32 = .ok (.invokestatic 98, 3) := by decide +kernel
theorem dX4_numberToken_35 : decode cX4_numberToken 35 = .ok (.istore_n 3, 1) := by decide +kernel
theorem dX4_numberToken_36 : decode cX4_numberToken 36 = .ok (.iinc 4 1, 3) := by decide +kernel
theorem dX4_numberToken_39 : decode cX4_numberToken 39 = .ok (.goto (-34), 3) := by decide +kernel
theorem dX4_numberToken_42 : decode cX4_numberToken 42 = .ok (.sipush 1000, 3) := by decide +kernel
theorem dX4_numberToken_45 : decode cX4_numberToken 45 = .ok (.iload_n 3, 1) := by decide +kernel
theorem dX4_numberToken_46 : decode cX4_numberToken 46 = .ok (.iadd, 1) := by decide +kernel
theorem dX4_numberToken_47 : decode cX4_numberToken 47 = .ok (.ireturn, 1) := by decide +kernel
theorem dX4_numberHere_0 : decode cX4_numberHere 0 = .ok (.aload_n 0, 1) := by decide +kernel
theorem dX4_numberHere_1 : decode cX4_numberHere 1 = .ok (.getfield 24, 3) := by decide +kernel
theorem dX4_numberHere_4 : decode cX4_numberHere 4 = .ok (.aload_n 0, 1) := by decide +kernel
theorem dX4_numberHere_5 : decode cX4_numberHere 5 = .ok (.getfield 35, 3) := by decide +kernel
theorem dX4_numberHere_8 : decode cX4_numberHere 8 = .ok (.iaload, 1) := by decide +kernel
theorem dX4_numberHere_9 : decode cX4_numberHere 9 = .ok (.sipush 1000, 3) := by decide +kernel
theorem dX4_numberHere_12 : decode cX4_numberHere 12 = .ok (.isub, 1) := by decide +kernel
theorem dX4_numberHere_13 : decode cX4_numberHere 13 = .ok (.istore_n 3, 1) := by decide +kernel
theorem dX4_numberHere_14 : decode cX4_numberHere 14 = .ok (.iload_n 3, 1) := by decide +kernel
theorem dX4_numberHere_15 : decode cX4_numberHere 15 = .ok (.iload_n 1, 1) := by decide +kernel
theorem dX4_numberHere_16 : decode cX4_numberHere 16 = .ok (.if_icmp .lt 12, 3) := by decide +kernel
theorem dX4_numberHere_19 : decode cX4_numberHere 19 = .ok (.iload_n 3, 1) := by decide +kernel
theorem dX4_numberHere_20 : decode cX4_numberHere 20 = .ok (.iload_n 2, 1) := by decide +kernel
theorem dX4_numberHere_21 : decode cX4_numberHere 21 = .ok (.if_icmp .gt 7, 3) := by decide +kernel
theorem dX4_numberHere_24 : decode cX4_numberHere 24 = .ok (.iload_n 3, 1) := by decide +kernel
theorem dX4_numberHere_25 : decode cX4_numberHere 25 = .ok (.goto 4, 3) := by decide +kernel
theorem dX4_numberHere_28 : decode cX4_numberHere 28 = .ok (.iconst (-1), 1) := by decide +kernel
theorem dX4_numberHere_29 : decode cX4_numberHere 29 = .ok (.ireturn, 1) := by decide +kernel
theorem dX4_lawClause_0 : decode cX4_lawClause 0 = .ok (.aload_n 0, 1) := by decide +kernel
theorem dX4_lawClause_1 : decode cX4_lawClause 1 = .ok (.getfield 24, 3) := by decide +kernel
theorem dX4_lawClause_4 : decode cX4_lawClause 4 = .ok (.aload_n 0, 1) := by decide +kernel
theorem dX4_lawClause_5 : decode cX4_lawClause 5 = .ok (.getfield 35, 3) := by decide +kernel
theorem dX4_lawClause_8 : decode cX4_lawClause 8 = .ok (.iaload, 1) := by decide +kernel
theorem dX4_lawClause_9 : decode cX4_lawClause 9 = .ok (.sipush 300, 3) := by decide +kernel
theorem dX4_lawClause_12 : decode cX4_lawClause 12 = .ok (.isub, 1) := by decide +kernel
theorem dX4_lawClause_13 : decode cX4_lawClause 13 = .ok (.istore_n 2, 1) := by decide +kernel
theorem dX4_lawClause_14 : decode cX4_lawClause 14 = .ok (.iload_n 2, 1) := by decide +kernel
theorem dX4_lawClause_15 : decode cX4_lawClause 15 = .ok (.ifCond .lt 8, 3) := by decide +kernel
theorem dX4_lawClause_18 : decode cX4_lawClause 18 = .ok (.iload_n 2, 1) := by decide +kernel
theorem dX4_lawClause_19 : decode cX4_lawClause 19 = .ok (.iconst 3, 1) := by decide +kernel
theorem dX4_lawClause_20 : decode cX4_lawClause 20 = .ok (.if_icmp .le 8, 3) := by decide +kernel
theorem dX4_lawClause_23 : decode cX4_lawClause 23 = .ok (.aload_n 0, 1) := by decide +kernel
theorem dX4_lawClause_24 : decode cX4_lawClause 24 = .ok (.invokevirtual 61, 3) := by decide +kernel
theorem dX4_lawClause_27 : decode cX4_lawClause 27 = .ok (.ireturn, 1) := by decide +kernel
theorem dX4_lawClause_28 : decode cX4_lawClause 28 = .ok (.aload_n 0, 1) := by decide +kernel
theorem dX4_lawClause_29 : decode cX4_lawClause 29 = .ok (.dup, 1) := by decide +kernel
theorem dX4_lawClause_30 : decode cX4_lawClause 30 = .ok (.getfield 35, 3) := by decide +kernel
theorem dX4_lawClause_33 : decode cX4_lawClause 33 = .ok (.iconst 1, 1) := by decide +kernel
theorem dX4_lawClause_34 : decode cX4_lawClause 34 = .ok (.iadd, 1) := by decide +kernel
theorem dX4_lawClause_35 : decode cX4_lawClause 35 = .ok (.putfield 35, 3) := by decide +kernel
theorem dX4_lawClause_38 : decode cX4_lawClause 38 = .ok (.aload_n 0, 1) := by decide +kernel
theorem dX4_lawClause_39 : decode cX4_lawClause 39 = .ok (.getfield 16, 3) := by decide +kernel
theorem dX4_lawClause_42 : decode cX4_lawClause 42 = .ok (.iload_n 2, 1) := by decide +kernel
theorem dX4_lawClause_43 : decode cX4_lawClause 43 = .ok (.invokevirtual 103, 3) := by decide +kernel
theorem dX4_lawClause_46 : decode cX4_lawClause 46 = .ok (.iload_n 2, 1) := by decide +kernel
theorem dX4_lawClause_47 : decode cX4_lawClause 47 = .ok (.iconst 3, 1) := by decide +kernel
theorem dX4_lawClause_48 : decode cX4_lawClause 48 = .ok (.if_icmp .eq 18, 3) := by decide +kernel
theorem dX4_lawClause_51 : decode cX4_lawClause 51 = .ok (.aload_n 0, 1) := by decide +kernel
theorem dX4_lawClause_52 : decode cX4_lawClause 52 = .ok (.aload_n 0, 1) := by decide +kernel
theorem dX4_lawClause_53 : decode cX4_lawClause 53 = .ok (.getfield 16, 3) := by decide +kernel
theorem dX4_lawClause_56 : decode cX4_lawClause 56 = .ok (.getfield 107, 3) := by decide +kernel
theorem dX4_lawClause_59 : decode cX4_lawClause 59 = .ok (.iload_n 1, 1) := by decide +kernel
theorem dX4_lawClause_60 : decode cX4_lawClause 60 = .ok (.invokevirtual 110, 3) := by decide +kernel
theorem dX4_lawClause_63 : decode cX4_lawClause 63 = .ok (.ifCond .eq 7, 3) := by decide +kernel
theorem dX4_lawClause_66 : decode cX4_lawClause 66 = .ok (.iconst 1, 1) := by decide +kernel
theorem dX4_lawClause_67 : decode cX4_lawClause 67 = .ok (.goto 4, 3) := by decide +kernel
theorem dX4_lawClause_70 : decode cX4_lawClause 70 = .ok (.iconst 0, 1) := by decide +kernel
theorem dX4_lawClause_71 : decode cX4_lawClause 71 = .ok (.ireturn, 1) := by decide +kernel
theorem dX4_wholeSum_0 : decode cX4_wholeSum 0 = .ok (.aload_n 1, 1) := by decide +kernel
theorem dX4_wholeSum_1 : decode cX4_wholeSum 1 = .ok (.iload_n 2, 1) := by decide +kernel
theorem dX4_wholeSum_2 : decode cX4_wholeSum 2 = .ok (.aload_n 0, 1) := by decide +kernel
theorem dX4_wholeSum_3 : decode cX4_wholeSum 3 = .ok (.getfield 16, 3) := by decide +kernel
theorem dX4_wholeSum_6 : decode cX4_wholeSum 6 = .ok (.getfield 114, 3) := by decide +kernel
theorem dX4_wholeSum_9 : decode cX4_wholeSum 9 = .ok (.iastore, 1) := by decide +kernel
theorem dX4_wholeSum_10 : decode cX4_wholeSum 10 = .ok (.aload_n 0, 1) := by decide +kernel
theorem dX4_wholeSum_11 : decode cX4_wholeSum 11 = .ok (.iconst 0, 1) := by decide +kernel
theorem dX4_wholeSum_12 : decode cX4_wholeSum 12 = .ok (.invokevirtual 115, 3) := by decide +kernel
theorem dX4_wholeSum_15 : decode cX4_wholeSum 15 = .ok (.istore_n 3, 1) := by decide +kernel
theorem dX4_wholeSum_16 : decode cX4_wholeSum 16 = .ok (.aload_n 0, 1) := by decide +kernel
theorem dX4_wholeSum_17 : decode cX4_wholeSum 17 = .ok (.getfield 16, 3) := by decide +kernel
theorem dX4_wholeSum_20 : decode cX4_wholeSum 20 = .ok (.iconst (-1), 1) := by decide +kernel
theorem dX4_wholeSum_21 : decode cX4_wholeSum 21 = .ok (.invokevirtual 118, 3) := by decide +kernel
theorem dX4_wholeSum_24 : decode cX4_wholeSum 24 = .ok (.iload_n 3, 1) := by decide +kernel
theorem dX4_wholeSum_25 : decode cX4_wholeSum 25 = .ok (.ireturn, 1) := by decide +kernel
theorem dX4_orderClause_0 : decode cX4_orderClause 0 = .ok (.aload_n 0, 1) := by decide +kernel
theorem dX4_orderClause_1 : decode cX4_orderClause 1 = .ok (.getfield 24, 3) := by decide +kernel
theorem dX4_orderClause_4 : decode cX4_orderClause 4 = .ok (.aload_n 0, 1) := by decide +kernel
theorem dX4_orderClause_5 : decode cX4_orderClause 5 = .ok (.getfield 35, 3) := by decide +kernel
theorem dX4_orderClause_8 : decode cX4_orderClause 8 = .ok (.iaload, 1) := by decide +kernel
theorem dX4_orderClause_9 : decode cX4_orderClause 9 = .ok (.sipush 304, 3) := by decide +kernel
theorem dX4_orderClause_12 : decode cX4_orderClause 12 = .ok (.isub, 1) := by decide +kernel
theorem dX4_orderClause_13 : decode cX4_orderClause 13 = .ok (.istore_n 2, 1) := by decide +kernel
theorem dX4_orderClause_14 : decode cX4_orderClause 14 = .ok (.iload_n 2, 1) := by decide +kernel
theorem dX4_orderClause_15 : decode cX4_orderClause 15 = .ok (.ifCond .lt 8, 3) := by decide +kernel
theorem dX4_orderClause_18 : decode cX4_orderClause 18 = .ok (.iload_n 2, 1) := by decide +kernel
theorem dX4_orderClause_19 : decode cX4_orderClause 19 = .ok (.iconst 3, 1) := by decide +kernel
theorem dX4_orderClause_20 : decode cX4_orderClause 20 = .ok (.if_icmp .le 8, 3) := by decide +kernel
theorem dX4_orderClause_23 : decode cX4_orderClause 23 = .ok (.aload_n 0, 1) := by decide +kernel
theorem dX4_orderClause_24 : decode cX4_orderClause 24 = .ok (.invokevirtual 61, 3) := by decide +kernel
theorem dX4_orderClause_27 : decode cX4_orderClause 27 = .ok (.ireturn, 1) := by decide +kernel
theorem dX4_orderClause_28 : decode cX4_orderClause 28 = .ok (.aload_n 0, 1) := by decide +kernel
theorem dX4_orderClause_29 : decode cX4_orderClause 29 = .ok (.dup, 1) := by decide +kernel
theorem dX4_orderClause_30 : decode cX4_orderClause 30 = .ok (.getfield 35, 3) := by decide +kernel
theorem dX4_orderClause_33 : decode cX4_orderClause 33 = .ok (.iconst 1, 1) := by decide +kernel
theorem dX4_orderClause_34 : decode cX4_orderClause 34 = .ok (.iadd, 1) := by decide +kernel
theorem dX4_orderClause_35 : decode cX4_orderClause 35 = .ok (.putfield 35, 3) := by decide +kernel
theorem dX4_orderClause_38 : decode cX4_orderClause 38 = .ok (.aload_n 0, 1) := by decide +kernel
theorem dX4_orderClause_39 : decode cX4_orderClause 39 = .ok (.getfield 16, 3) := by decide +kernel
theorem dX4_orderClause_42 : decode cX4_orderClause 42 = .ok (.iload_n 2, 1) := by decide +kernel
theorem dX4_orderClause_43 : decode cX4_orderClause 43 = .ok (.invokevirtual 103, 3) := by decide +kernel
theorem dX4_orderClause_46 : decode cX4_orderClause 46 = .ok (.iload_n 2, 1) := by decide +kernel
theorem dX4_orderClause_47 : decode cX4_orderClause 47 = .ok (.iconst 3, 1) := by decide +kernel
theorem dX4_orderClause_48 : decode cX4_orderClause 48 = .ok (.if_icmp .eq 20, 3) := by decide +kernel
theorem dX4_orderClause_51 : decode cX4_orderClause 51 = .ok (.aload_n 0, 1) := by decide +kernel
theorem dX4_orderClause_52 : decode cX4_orderClause 52 = .ok (.aload_n 0, 1) := by decide +kernel
theorem dX4_orderClause_53 : decode cX4_orderClause 53 = .ok (.getfield 16, 3) := by decide +kernel
theorem dX4_orderClause_56 : decode cX4_orderClause 56 = .ok (.getfield 107, 3) := by decide +kernel
theorem dX4_orderClause_59 : decode cX4_orderClause 59 = .ok (.iload_n 1, 1) := by decide +kernel
theorem dX4_orderClause_60 : decode cX4_orderClause 60 = .ok (.invokevirtual 110, 3) := by decide +kernel
theorem dX4_orderClause_63 : decode cX4_orderClause 63 = .ok (.ifCond .ne 5, 3) := by decide +kernel
theorem dX4_orderClause_66 : decode cX4_orderClause 66 = .ok (.iconst 0, 1) := by decide +kernel
theorem dX4_orderClause_67 : decode cX4_orderClause 67 = .ok (.ireturn, 1) := by decide +kernel
theorem dX4_orderClause_68 : decode cX4_orderClause 68 = .ok (.iload_n 2, 1) := by decide +kernel
theorem dX4_orderClause_69 : decode cX4_orderClause 69 = .ok (.ifCond .eq 8, 3) := by decide +kernel
theorem dX4_orderClause_72 : decode cX4_orderClause 72 = .ok (.iload_n 2, 1) := by decide +kernel
theorem dX4_orderClause_73 : decode cX4_orderClause 73 = .ok (.iconst 2, 1) := by decide +kernel
theorem dX4_orderClause_74 : decode cX4_orderClause 74 = .ok (.if_icmp .ne 60, 3) := by decide +kernel
theorem dX4_orderClause_77 : decode cX4_orderClause 77 = .ok (.aload_n 0, 1) := by decide +kernel
theorem dX4_orderClause_78 : decode cX4_orderClause 78 = .ok (.getfield 24, 3) := by decide +kernel
theorem dX4_orderClause_81 : decode cX4_orderClause 81 = .ok (.aload_n 0, 1) := by decide +kernel
theorem dX4_orderClause_82 : decode cX4_orderClause 82 = .ok (.getfield 35, 3) := by decide +kernel
theorem dX4_orderClause_85 : decode cX4_orderClause 85 = .ok (.iaload, 1) := by decide +kernel
theorem dX4_orderClause_86 : decode cX4_orderClause 86 = .ok (.iload_n 2, 1) := by decide +kernel
theorem dX4_orderClause_87 : decode cX4_orderClause 87 = .ok (.ifCond .ne 9, 3) := by decide +kernel
theorem dX4_orderClause_90 : decode cX4_orderClause 90 = .ok (.sipush 326, 3) := by decide +kernel
theorem dX4_orderClause_93 : decode cX4_orderClause 93 = .ok (.goto 6, 3) := by decide +kernel
theorem dX4_orderClause_96 : decode cX4_orderClause 96 = .ok (.sipush 327, 3) := by decide +kernel
theorem dX4_orderClause_99 : decode cX4_orderClause 99 = .ok (.if_icmp .eq 8, 3) := by decide +kernel
theorem dX4_orderClause_102 : decode cX4_orderClause 102 = .ok (.aload_n 0, 1) := by decide +kernel
theorem dX4_orderClause_103 : decode cX4_orderClause 103 = .ok (.invokevirtual 61, 3) := by decide +kernel
theorem dX4_orderClause_106 : decode cX4_orderClause 106 = .ok (.ireturn, 1) := by decide +kernel
theorem dX4_orderClause_107 : decode cX4_orderClause 107 = .ok (.aload_n 0, 1) := by decide +kernel
theorem dX4_orderClause_108 : decode cX4_orderClause 108 = .ok (.dup, 1) := by decide +kernel
theorem dX4_orderClause_109 : decode cX4_orderClause 109 = .ok (.getfield 35, 3) := by decide +kernel
theorem dX4_orderClause_112 : decode cX4_orderClause 112 = .ok (.iconst 1, 1) := by decide +kernel
theorem dX4_orderClause_113 : decode cX4_orderClause 113 = .ok (.iadd, 1) := by decide +kernel
theorem dX4_orderClause_114 : decode cX4_orderClause 114 = .ok (.putfield 35, 3) := by decide +kernel
theorem dX4_orderClause_117 : decode cX4_orderClause 117 = .ok (.aload_n 0, 1) := by decide +kernel
theorem dX4_orderClause_118 : decode cX4_orderClause 118 = .ok (.aload_n 0, 1) := by decide +kernel
theorem dX4_orderClause_119 : decode cX4_orderClause 119 = .ok (.getfield 16, 3) := by decide +kernel
theorem dX4_orderClause_122 : decode cX4_orderClause 122 = .ok (.getfield 121, 3) := by decide +kernel
theorem dX4_orderClause_125 : decode cX4_orderClause 125 = .ok (.iload_n 1, 1) := by decide +kernel
theorem dX4_orderClause_126 : decode cX4_orderClause 126 = .ok (.invokevirtual 110, 3) := by decide +kernel
theorem dX4_orderClause_129 : decode cX4_orderClause 129 = .ok (.ifCond .ne 5, 3) := by decide +kernel
theorem dX4_orderClause_132 : decode cX4_orderClause 132 = .ok (.iconst 0, 1) := by decide +kernel
theorem dX4_orderClause_133 : decode cX4_orderClause 133 = .ok (.ireturn, 1) := by decide +kernel
theorem dX4_orderClause_134 : decode cX4_orderClause 134 = .ok (.aload_n 0, 1) := by decide +kernel
theorem dX4_orderClause_135 : decode cX4_orderClause 135 = .ok (.iload_n 1, 1) := by decide +kernel
theorem dX4_orderClause_136 : decode cX4_orderClause 136 = .ok (.invokevirtual 124, 3) := by decide +kernel
theorem dX4_orderClause_139 : decode cX4_orderClause 139 = .ok (.ireturn, 1) := by decide +kernel
theorem dX4_repeats_0 : decode cX4_repeats 0 = .ok (.aload_n 0, 1) := by decide +kernel
theorem dX4_repeats_1 : decode cX4_repeats 1 = .ok (.getfield 24, 3) := by decide +kernel
theorem dX4_repeats_4 : decode cX4_repeats 4 = .ok (.aload_n 0, 1) := by decide +kernel
theorem dX4_repeats_5 : decode cX4_repeats 5 = .ok (.getfield 35, 3) := by decide +kernel
theorem dX4_repeats_8 : decode cX4_repeats 8 = .ok (.iaload, 1) := by decide +kernel
theorem dX4_repeats_9 : decode cX4_repeats 9 = .ok (.sipush 325, 3) := by decide +kernel
theorem dX4_repeats_12 : decode cX4_repeats 12 = .ok (.if_icmp .eq 5, 3) := by decide +kernel
theorem dX4_repeats_15 : decode cX4_repeats 15 = .ok (.iconst 1, 1) := by decide +kernel
theorem dX4_repeats_16 : decode cX4_repeats 16 = .ok (.ireturn, 1) := by decide +kernel
theorem dX4_repeats_17 : decode cX4_repeats 17 = .ok (.aload_n 0, 1) := by decide +kernel
theorem dX4_repeats_18 : decode cX4_repeats 18 = .ok (.dup, 1) := by decide +kernel
theorem dX4_repeats_19 : decode cX4_repeats 19 = .ok (.getfield 35, 3) := by decide +kernel
theorem dX4_repeats_22 : decode cX4_repeats 22 = .ok (.iconst 1, 1) := by decide +kernel
theorem dX4_repeats_23 : decode cX4_repeats 23 = .ok (.iadd, 1) := by decide +kernel
theorem dX4_repeats_24 : decode cX4_repeats 24 = .ok (.putfield 35, 3) := by decide +kernel
theorem dX4_repeats_27 : decode cX4_repeats 27 = .ok (.aload_n 0, 1) := by decide +kernel
theorem dX4_repeats_28 : decode cX4_repeats 28 = .ok (.iconst 1, 1) := by decide +kernel
theorem dX4_repeats_29 : decode cX4_repeats 29 = .ok (.bipush 20, 2) := by decide +kernel
theorem dX4_repeats_31 : decode cX4_repeats 31 = .ok (.invokevirtual 127, 3) := by decide +kernel
theorem dX4_repeats_34 : decode cX4_repeats 34 = .ok (.istore_n 2, 1) := by decide +kernel
theorem dX4_repeats_35 : decode cX4_repeats 35 = .ok (.iload_n 2, 1) := by decide +kernel
theorem dX4_repeats_36 : decode cX4_repeats 36 = .ok (.iconst (-1), 1) := by decide +kernel
theorem dX4_repeats_37 : decode cX4_repeats 37 = .ok (.if_icmp .ne 8, 3) := by decide +kernel
theorem dX4_repeats_40 : decode cX4_repeats 40 = .ok (.aload_n 0, 1) := by decide +kernel
theorem dX4_repeats_41 : decode cX4_repeats 41 = .ok (.invokevirtual 61, 3) := by decide +kernel
theorem dX4_repeats_44 : decode cX4_repeats 44 = .ok (.ireturn, 1) := by decide +kernel
theorem dX4_repeats_45 : decode cX4_repeats 45 = .ok (.aload_n 0, 1) := by decide +kernel
theorem dX4_repeats_46 : decode cX4_repeats 46 = .ok (.getfield 16, 3) := by decide +kernel
theorem dX4_repeats_49 : decode cX4_repeats 49 = .ok (.getfield 130, 3) := by decide +kernel
theorem dX4_repeats_52 : decode cX4_repeats 52 = .ok (.iload_n 1, 1) := by decide +kernel
theorem dX4_repeats_53 : decode cX4_repeats 53 = .ok (.iload_n 2, 1) := by decide +kernel
theorem dX4_repeats_54 : decode cX4_repeats 54 = .ok (.iastore, 1) := by decide +kernel
theorem dX4_repeats_55 : decode cX4_repeats 55 = .ok (.aload_n 0, 1) := by decide +kernel
theorem dX4_repeats_56 : decode cX4_repeats 56 = .ok (.dup, 1) := by decide +kernel
theorem dX4_repeats_57 : decode cX4_repeats 57 = .ok (.getfield 35, 3) := by decide +kernel
theorem dX4_repeats_60 : decode cX4_repeats 60 = .ok (.iconst 1, 1) := by decide +kernel
theorem dX4_repeats_61 : decode cX4_repeats 61 = .ok (.iadd, 1) := by decide +kernel
theorem dX4_repeats_62 : decode cX4_repeats 62 = .ok (.putfield 35, 3) := by decide +kernel
theorem dX4_repeats_65 : decode cX4_repeats 65 = .ok (.iconst 1, 1) := by decide +kernel
theorem dX4_repeats_66 : decode cX4_repeats 66 = .ok (.ireturn, 1) := by decide +kernel
theorem dX4_condition_0 : decode cX4_condition 0 = .ok (.aload_n 0, 1) := by decide +kernel
theorem dX4_condition_1 : decode cX4_condition 1 = .ok (.getfield 24, 3) := by decide +kernel
theorem dX4_condition_4 : decode cX4_condition 4 = .ok (.aload_n 0, 1) := by decide +kernel
theorem dX4_condition_5 : decode cX4_condition 5 = .ok (.getfield 35, 3) := by decide +kernel
theorem dX4_condition_8 : decode cX4_condition 8 = .ok (.iaload, 1) := by decide +kernel
theorem dX4_condition_9 : decode cX4_condition 9 = .ok (.sipush 324, 3) := by decide +kernel
theorem dX4_condition_12 : decode cX4_condition 12 = .ok (.if_icmp .eq 5, 3) := by decide +kernel
theorem dX4_condition_15 : decode cX4_condition 15 = .ok (.iconst 1, 1) := by decide +kernel
theorem dX4_condition_16 : decode cX4_condition 16 = .ok (.ireturn, 1) := by decide +kernel
theorem dX4_condition_17 : decode cX4_condition 17 = .ok (.aload_n 0, 1) := by decide +kernel
theorem dX4_condition_18 : decode cX4_condition 18 = .ok (.dup, 1) := by decide +kernel
theorem dX4_condition_19 : decode cX4_condition 19 = .ok (.getfield 35, 3) := by decide +kernel
theorem dX4_condition_22 : decode cX4_condition 22 = .ok (.iconst 1, 1) := by decide +kernel
theorem dX4_condition_23 : decode cX4_condition 23 = .ok (.iadd, 1) := by decide +kernel
theorem dX4_condition_24 : decode cX4_condition 24 = .ok (.putfield 35, 3) := by decide +kernel
theorem dX4_condition_27 : decode cX4_condition 27 = .ok (.aload_n 0, 1) := by decide +kernel
theorem dX4_condition_28 : decode cX4_condition 28 = .ok (.getfield 16, 3) := by decide +kernel
theorem dX4_condition_31 : decode cX4_condition 31 = .ok (.getfield 133, 3) := by decide +kernel
theorem dX4_condition_34 : decode cX4_condition 34 = .ok (.iload_n 1, 1) := by decide +kernel
theorem dX4_condition_35 : decode cX4_condition 35 = .ok (.aload_n 0, 1) := by decide +kernel
theorem dX4_condition_36 : decode cX4_condition 36 = .ok (.getfield 16, 3) := by decide +kernel
theorem dX4_condition_39 : decode cX4_condition 39 = .ok (.getfield 114, 3) := by decide +kernel
theorem dX4_condition_42 : decode cX4_condition 42 = .ok (.iastore, 1) := by decide +kernel
theorem dX4_condition_43 : decode cX4_condition 43 = .ok (.aload_n 0, 1) := by decide +kernel
theorem dX4_condition_44 : decode cX4_condition 44 = .ok (.iconst 0, 1) := by decide +kernel
theorem dX4_condition_45 : decode cX4_condition 45 = .ok (.invokevirtual 136, 3) := by decide +kernel
theorem dX4_condition_48 : decode cX4_condition 48 = .ok (.istore_n 2, 1) := by decide +kernel
theorem dX4_condition_49 : decode cX4_condition 49 = .ok (.aload_n 0, 1) := by decide +kernel
theorem dX4_condition_50 : decode cX4_condition 50 = .ok (.getfield 16, 3) := by decide +kernel
theorem dX4_condition_53 : decode cX4_condition 53 = .ok (.iconst (-1), 1) := by decide +kernel
theorem dX4_condition_54 : decode cX4_condition 54 = .ok (.invokevirtual 118, 3) := by decide +kernel
theorem dX4_condition_57 : decode cX4_condition 57 = .ok (.iload_n 2, 1) := by decide +kernel
theorem dX4_condition_58 : decode cX4_condition 58 = .ok (.ireturn, 1) := by decide +kernel
theorem dX4_test_0 : decode cX4_test 0 = .ok (.aload_n 0, 1) := by decide +kernel
theorem dX4_test_1 : decode cX4_test 1 = .ok (.iload_n 1, 1) := by decide +kernel
theorem dX4_test_2 : decode cX4_test 2 = .ok (.invokevirtual 138, 3) := by decide +kernel
theorem dX4_test_5 : decode cX4_test 5 = .ok (.ifCond .ne 5, 3) := by decide +kernel
theorem dX4_test_8 : decode cX4_test 8 = .ok (.iconst 0, 1) := by decide +kernel
theorem dX4_test_9 : decode cX4_test 9 = .ok (.ireturn, 1) := by decide +kernel
theorem dX4_test_10 : decode cX4_test 10 = .ok (.iconst 0, 1) := by decide +kernel
theorem dX4_test_11 : decode cX4_test 11 = .ok (.istore_n 2, 1) := by decide +kernel
theorem dX4_test_12 : decode cX4_test 12 = .ok (.iload_n 2, 1) := by decide +kernel
theorem dX4_test_13 : decode cX4_test 13 = .ok (.sipush 400, 3) := by decide +kernel
theorem dX4_test_16 : decode cX4_test 16 = .ok (.if_icmp .ge 53, 3) := by decide +kernel
theorem dX4_test_19 : decode cX4_test 19 = .ok (.aload_n 0, 1) := by decide +kernel
theorem dX4_test_20 : decode cX4_test 20 = .ok (.getfield 24, 3) := by decide +kernel
theorem dX4_test_23 : decode cX4_test 23 = .ok (.aload_n 0, 1) := by decide +kernel
theorem dX4_test_24 : decode cX4_test 24 = .ok (.getfield 35, 3) := by decide +kernel
theorem dX4_test_27 : decode cX4_test 27 = .ok (.iaload, 1) := by decide +kernel
theorem dX4_test_28 : decode cX4_test 28 = .ok (.sipush 321, 3) := by decide +kernel
theorem dX4_test_31 : decode cX4_test 31 = .ok (.if_icmp .ne 38, 3) := by decide +kernel
theorem dX4_test_34 : decode cX4_test 34 = .ok (.aload_n 0, 1) := by decide +kernel
theorem dX4_test_35 : decode cX4_test 35 = .ok (.dup, 1) := by decide +kernel
theorem dX4_test_36 : decode cX4_test 36 = .ok (.getfield 35, 3) := by decide +kernel
theorem dX4_test_39 : decode cX4_test 39 = .ok (.iconst 1, 1) := by decide +kernel
theorem dX4_test_40 : decode cX4_test 40 = .ok (.iadd, 1) := by decide +kernel
theorem dX4_test_41 : decode cX4_test 41 = .ok (.putfield 35, 3) := by decide +kernel
theorem dX4_test_44 : decode cX4_test 44 = .ok (.aload_n 0, 1) := by decide +kernel
theorem dX4_test_45 : decode cX4_test 45 = .ok (.iload_n 1, 1) := by decide +kernel
theorem dX4_test_46 : decode cX4_test 46 = .ok (.invokevirtual 138, 3) := by decide +kernel
theorem dX4_test_49 : decode cX4_test 49 = .ok (.ifCond .ne 5, 3) := by decide +kernel
theorem dX4_test_52 : decode cX4_test 52 = .ok (.iconst 0, 1) := by decide +kernel
theorem dX4_test_53 : decode cX4_test 53 = .ok (.ireturn, 1) := by decide +kernel
theorem dX4_test_54 : decode cX4_test 54 = .ok (.aload_n 0, 1) := by decide +kernel
theorem dX4_test_55 : decode cX4_test 55 = .ok (.getfield 16, 3) := by decide +kernel
theorem dX4_test_58 : decode cX4_test 58 = .ok (.bipush (-2), 2) := by decide +kernel
theorem dX4_test_60 : decode cX4_test 60 = .ok (.invokevirtual 118, 3) := by decide +kernel
theorem dX4_test_63 : decode cX4_test 63 = .ok (.iinc 2 1, 3) := by decide +kernel
theorem dX4_test_66 : decode cX4_test 66 = .ok (.goto (-54), 3) := by decide +kernel
theorem dX4_test_69 : decode cX4_test 69 = .ok (.iconst 1, 1) := by decide +kernel
theorem dX4_test_70 : decode cX4_test 70 = .ok (.ireturn, 1) := by decide +kernel
theorem dX4_both_0 : decode cX4_both 0 = .ok (.aload_n 0, 1) := by decide +kernel
theorem dX4_both_1 : decode cX4_both 1 = .ok (.iload_n 1, 1) := by decide +kernel
theorem dX4_both_2 : decode cX4_both 2 = .ok (.invokevirtual 141, 3) := by decide +kernel
theorem dX4_both_5 : decode cX4_both 5 = .ok (.ifCond .ne 5, 3) := by decide +kernel
theorem dX4_both_8 : decode cX4_both 8 = .ok (.iconst 0, 1) := by decide +kernel
theorem dX4_both_9 : decode cX4_both 9 = .ok (.ireturn, 1) := by decide +kernel
theorem dX4_both_10 : decode cX4_both 10 = .ok (.iconst 0, 1) := by decide +kernel
theorem dX4_both_11 : decode cX4_both 11 = .ok (.istore_n 2, 1) := by decide +kernel
theorem dX4_both_12 : decode cX4_both 12 = .ok (.iload_n 2, 1) := by decide +kernel
theorem dX4_both_13 : decode cX4_both 13 = .ok (.sipush 400, 3) := by decide +kernel
theorem dX4_both_16 : decode cX4_both 16 = .ok (.if_icmp .ge 53, 3) := by decide +kernel
theorem dX4_both_19 : decode cX4_both 19 = .ok (.aload_n 0, 1) := by decide +kernel
theorem dX4_both_20 : decode cX4_both 20 = .ok (.getfield 24, 3) := by decide +kernel
theorem dX4_both_23 : decode cX4_both 23 = .ok (.aload_n 0, 1) := by decide +kernel
theorem dX4_both_24 : decode cX4_both 24 = .ok (.getfield 35, 3) := by decide +kernel
theorem dX4_both_27 : decode cX4_both 27 = .ok (.iaload, 1) := by decide +kernel
theorem dX4_both_28 : decode cX4_both 28 = .ok (.sipush 322, 3) := by decide +kernel
theorem dX4_both_31 : decode cX4_both 31 = .ok (.if_icmp .ne 38, 3) := by decide +kernel
theorem dX4_both_34 : decode cX4_both 34 = .ok (.aload_n 0, 1) := by decide +kernel
theorem dX4_both_35 : decode cX4_both 35 = .ok (.dup, 1) := by decide +kernel
theorem dX4_both_36 : decode cX4_both 36 = .ok (.getfield 35, 3) := by decide +kernel
theorem dX4_both_39 : decode cX4_both 39 = .ok (.iconst 1, 1) := by decide +kernel
theorem dX4_both_40 : decode cX4_both 40 = .ok (.iadd, 1) := by decide +kernel
theorem dX4_both_41 : decode cX4_both 41 = .ok (.putfield 35, 3) := by decide +kernel
theorem dX4_both_44 : decode cX4_both 44 = .ok (.aload_n 0, 1) := by decide +kernel
theorem dX4_both_45 : decode cX4_both 45 = .ok (.iload_n 1, 1) := by decide +kernel
theorem dX4_both_46 : decode cX4_both 46 = .ok (.invokevirtual 141, 3) := by decide +kernel
theorem dX4_both_49 : decode cX4_both 49 = .ok (.ifCond .ne 5, 3) := by decide +kernel
theorem dX4_both_52 : decode cX4_both 52 = .ok (.iconst 0, 1) := by decide +kernel
theorem dX4_both_53 : decode cX4_both 53 = .ok (.ireturn, 1) := by decide +kernel
theorem dX4_both_54 : decode cX4_both 54 = .ok (.aload_n 0, 1) := by decide +kernel
theorem dX4_both_55 : decode cX4_both 55 = .ok (.getfield 16, 3) := by decide +kernel
theorem dX4_both_58 : decode cX4_both 58 = .ok (.bipush (-3), 2) := by decide +kernel
theorem dX4_both_60 : decode cX4_both 60 = .ok (.invokevirtual 118, 3) := by decide +kernel
theorem dX4_both_63 : decode cX4_both 63 = .ok (.iinc 2 1, 3) := by decide +kernel
theorem dX4_both_66 : decode cX4_both 66 = .ok (.goto (-54), 3) := by decide +kernel
theorem dX4_both_69 : decode cX4_both 69 = .ok (.iconst 1, 1) := by decide +kernel
theorem dX4_both_70 : decode cX4_both 70 = .ok (.ireturn, 1) := by decide +kernel
theorem dX4_plain_0 : decode cX4_plain 0 = .ok (.iconst 0, 1) := by decide +kernel
theorem dX4_plain_1 : decode cX4_plain 1 = .ok (.istore_n 2, 1) := by decide +kernel
theorem dX4_plain_2 : decode cX4_plain 2 = .ok (.iconst 0, 1) := by decide +kernel
theorem dX4_plain_3 : decode cX4_plain 3 = .ok (.istore_n 3, 1) := by decide +kernel
theorem dX4_plain_4 : decode cX4_plain 4 = .ok (.iload_n 3, 1) := by decide +kernel
theorem dX4_plain_5 : decode cX4_plain 5 = .ok (.sipush 400, 3) := by decide +kernel
theorem dX4_plain_8 : decode cX4_plain 8 = .ok (.if_icmp .ge 37, 3) := by decide +kernel
theorem dX4_plain_11 : decode cX4_plain 11 = .ok (.aload_n 0, 1) := by decide +kernel
theorem dX4_plain_12 : decode cX4_plain 12 = .ok (.getfield 24, 3) := by decide +kernel
theorem dX4_plain_15 : decode cX4_plain 15 = .ok (.aload_n 0, 1) := by decide +kernel
theorem dX4_plain_16 : decode cX4_plain 16 = .ok (.getfield 35, 3) := by decide +kernel
theorem dX4_plain_19 : decode cX4_plain 19 = .ok (.iaload, 1) := by decide +kernel
theorem dX4_plain_20 : decode cX4_plain 20 = .ok (.sipush 323, 3) := by decide +kernel
theorem dX4_plain_23 : decode cX4_plain 23 = .ok (.if_icmp .ne 22, 3) := by decide +kernel
theorem dX4_plain_26 : decode cX4_plain 26 = .ok (.aload_n 0, 1) := by decide +kernel
theorem dX4_plain_27 : decode cX4_plain 27 = .ok (.dup, 1) := by decide +kernel
theorem dX4_plain_28 : decode cX4_plain 28 = .ok (.getfield 35, 3) := by decide +kernel
theorem dX4_plain_31 : decode cX4_plain 31 = .ok (.iconst 1, 1) := by decide +kernel
theorem dX4_plain_32 : decode cX4_plain 32 = .ok (.iadd, 1) := by decide +kernel
theorem dX4_plain_33 : decode cX4_plain 33 = .ok (.putfield 35, 3) := by decide +kernel
theorem dX4_plain_36 : decode cX4_plain 36 = .ok (.iinc 2 1, 3) := by decide +kernel
theorem dX4_plain_39 : decode cX4_plain 39 = .ok (.iinc 3 1, 3) := by decide +kernel
theorem dX4_plain_42 : decode cX4_plain 42 = .ok (.goto (-38), 3) := by decide +kernel
theorem dX4_plain_45 : decode cX4_plain 45 = .ok (.aload_n 0, 1) := by decide +kernel
theorem dX4_plain_46 : decode cX4_plain 46 = .ok (.getfield 24, 3) := by decide +kernel
theorem dX4_plain_49 : decode cX4_plain 49 = .ok (.aload_n 0, 1) := by decide +kernel
theorem dX4_plain_50 : decode cX4_plain 50 = .ok (.getfield 35, 3) := by decide +kernel
theorem dX4_plain_53 : decode cX4_plain 53 = .ok (.iaload, 1) := by decide +kernel
theorem dX4_plain_54 : decode cX4_plain 54 = .ok (.bipush 40, 2) := by decide +kernel
theorem dX4_plain_56 : decode cX4_plain 56 = .ok (.if_icmp .ne 11, 3) := by decide +kernel
theorem dX4_plain_59 : decode cX4_plain 59 = .ok (.aload_n 0, 1) := by decide +kernel
theorem dX4_plain_60 : decode cX4_plain 60 = .ok (.iload_n 1, 1) := by decide +kernel
theorem dX4_plain_61 : decode cX4_plain 61 = .ok (.invokevirtual 144, 3) := by decide +kernel
theorem dX4_plain_64 : decode cX4_plain 64 = .ok (.goto 8, 3) := by decide +kernel
theorem dX4_plain_67 : decode cX4_plain 67 = .ok (.aload_n 0, 1) := by decide +kernel
theorem dX4_plain_68 : decode cX4_plain 68 = .ok (.iload_n 1, 1) := by decide +kernel
theorem dX4_plain_69 : decode cX4_plain 69 = .ok (.invokevirtual 147, 3) := by decide +kernel
theorem dX4_plain_72 : decode cX4_plain 72 = .ok (.istore_n 3, 1) := by decide +kernel
theorem dX4_plain_73 : decode cX4_plain 73 = .ok (.iload_n 3, 1) := by decide +kernel
theorem dX4_plain_74 : decode cX4_plain 74 = .ok (.ifCond .eq 18, 3) := by decide +kernel
theorem dX4_plain_77 : decode cX4_plain 77 = .ok (.iload_n 2, 1) := by decide +kernel
theorem dX4_plain_78 : decode cX4_plain 78 = .ok (.iconst 2, 1) := by decide +kernel
theorem dX4_plain_79 : decode cX4_plain 79 = .ok (.irem, 1) := by decide +kernel
theorem dX4_plain_80 : decode cX4_plain 80 = .ok (.ifCond .eq 12, 3) := by decide +kernel
theorem dX4_plain_83 : decode cX4_plain 83 = .ok (.aload_n 0, 1) := by decide +kernel
theorem dX4_plain_84 : decode cX4_plain 84 = .ok (.getfield 16, 3) := by decide +kernel
theorem dX4_plain_87 : decode cX4_plain 87 = .ok (.bipush (-4), 2) := by decide +kernel
theorem dX4_plain_89 : decode cX4_plain 89 = .ok (.invokevirtual 118, 3) := by decide +kernel
theorem dX4_plain_92 : decode cX4_plain 92 = .ok (.iload_n 3, 1) := by decide +kernel
theorem dX4_plain_93 : decode cX4_plain 93 = .ok (.ireturn, 1) := by decide +kernel
theorem dX4_bracketed_0 : decode cX4_bracketed 0 = .ok (.iload_n 1, 1) := by decide +kernel
theorem dX4_bracketed_1 : decode cX4_bracketed 1 = .ok (.bipush 8, 2) := by decide +kernel
theorem dX4_bracketed_3 : decode cX4_bracketed 3 = .ok (.if_icmp .lt 8, 3) := by decide +kernel
theorem dX4_bracketed_6 : decode cX4_bracketed 6 = .ok (.aload_n 0, 1) := by decide +kernel
theorem dX4_bracketed_7 : decode cX4_bracketed 7 = .ok (.invokevirtual 61, 3) := by decide +kernel
theorem dX4_bracketed_10 : decode cX4_bracketed 10 = .ok (.ireturn, 1) := by decide +kernel
theorem dX4_bracketed_11 : decode cX4_bracketed 11 = .ok (.aload_n 0, 1) := by decide +kernel
theorem dX4_bracketed_12 : decode cX4_bracketed 12 = .ok (.dup, 1) := by decide +kernel
theorem dX4_bracketed_13 : decode cX4_bracketed 13 = .ok (.getfield 35, 3) := by decide +kernel
theorem dX4_bracketed_16 : decode cX4_bracketed 16 = .ok (.iconst 1, 1) := by decide +kernel
theorem dX4_bracketed_17 : decode cX4_bracketed 17 = .ok (.iadd, 1) := by decide +kernel
theorem dX4_bracketed_18 : decode cX4_bracketed 18 = .ok (.putfield 35, 3) := by decide +kernel
theorem dX4_bracketed_21 : decode cX4_bracketed 21 = .ok (.aload_n 0, 1) := by decide +kernel
theorem dX4_bracketed_22 : decode cX4_bracketed 22 = .ok (.iload_n 1, 1) := by decide +kernel
theorem dX4_bracketed_23 : decode cX4_bracketed 23 = .ok (.iconst 1, 1) := by decide +kernel
theorem dX4_bracketed_24 : decode cX4_bracketed 24 = .ok (.iadd, 1) := by decide +kernel
theorem dX4_bracketed_25 : decode cX4_bracketed 25 = .ok (.invokevirtual 136, 3) := by decide +kernel
theorem dX4_bracketed_28 : decode cX4_bracketed 28 = .ok (.ifCond .ne 5, 3) := by decide +kernel
theorem dX4_bracketed_31 : decode cX4_bracketed 31 = .ok (.iconst 0, 1) := by decide +kernel
theorem dX4_bracketed_32 : decode cX4_bracketed 32 = .ok (.ireturn, 1) := by decide +kernel
theorem dX4_bracketed_33 : decode cX4_bracketed 33 = .ok (.aload_n 0, 1) := by decide +kernel
theorem dX4_bracketed_34 : decode cX4_bracketed 34 = .ok (.getfield 24, 3) := by decide +kernel
theorem dX4_bracketed_37 : decode cX4_bracketed 37 = .ok (.aload_n 0, 1) := by decide +kernel
theorem dX4_bracketed_38 : decode cX4_bracketed 38 = .ok (.getfield 35, 3) := by decide +kernel
theorem dX4_bracketed_41 : decode cX4_bracketed 41 = .ok (.iaload, 1) := by decide +kernel
theorem dX4_bracketed_42 : decode cX4_bracketed 42 = .ok (.bipush 41, 2) := by decide +kernel
theorem dX4_bracketed_44 : decode cX4_bracketed 44 = .ok (.if_icmp .eq 8, 3) := by decide +kernel
theorem dX4_bracketed_47 : decode cX4_bracketed 47 = .ok (.aload_n 0, 1) := by decide +kernel
theorem dX4_bracketed_48 : decode cX4_bracketed 48 = .ok (.invokevirtual 61, 3) := by decide +kernel
theorem dX4_bracketed_51 : decode cX4_bracketed 51 = .ok (.ireturn, 1) := by decide +kernel
theorem dX4_bracketed_52 : decode cX4_bracketed 52 = .ok (.aload_n 0, 1) := by decide +kernel
theorem dX4_bracketed_53 : decode cX4_bracketed 53 = .ok (.dup, 1) := by decide +kernel
theorem dX4_bracketed_54 : decode cX4_bracketed 54 = .ok (.getfield 35, 3) := by decide +kernel
theorem dX4_bracketed_57 : decode cX4_bracketed 57 = .ok (.iconst 1, 1) := by decide +kernel
theorem dX4_bracketed_58 : decode cX4_bracketed 58 = .ok (.iadd, 1) := by decide +kernel
theorem dX4_bracketed_59 : decode cX4_bracketed 59 = .ok (.putfield 35, 3) := by decide +kernel
theorem dX4_bracketed_62 : decode cX4_bracketed 62 = .ok (.iconst 1, 1) := by decide +kernel
theorem dX4_bracketed_63 : decode cX4_bracketed 63 = .ok (.ireturn, 1) := by decide +kernel
theorem dX4_comparison_0 : decode cX4_comparison 0 = .ok (.aload_n 0, 1) := by decide +kernel
theorem dX4_comparison_1 : decode cX4_comparison 1 = .ok (.iload_n 1, 1) := by decide +kernel
theorem dX4_comparison_2 : decode cX4_comparison 2 = .ok (.invokevirtual 115, 3) := by decide +kernel
theorem dX4_comparison_5 : decode cX4_comparison 5 = .ok (.ifCond .ne 5, 3) := by decide +kernel
theorem dX4_comparison_8 : decode cX4_comparison 8 = .ok (.iconst 0, 1) := by decide +kernel
theorem dX4_comparison_9 : decode cX4_comparison 9 = .ok (.ireturn, 1) := by decide +kernel
theorem dX4_comparison_10 : decode cX4_comparison 10 = .ok (.aload_n 0, 1) := by decide +kernel
theorem dX4_comparison_11 : decode cX4_comparison 11 = .ok (.getfield 24, 3) := by decide +kernel
theorem dX4_comparison_14 : decode cX4_comparison 14 = .ok (.aload_n 0, 1) := by decide +kernel
theorem dX4_comparison_15 : decode cX4_comparison 15 = .ok (.getfield 35, 3) := by decide +kernel
theorem dX4_comparison_18 : decode cX4_comparison 18 = .ok (.iaload, 1) := by decide +kernel
theorem dX4_comparison_19 : decode cX4_comparison 19 = .ok (.istore_n 2, 1) := by decide +kernel
theorem dX4_comparison_20 : decode cX4_comparison 20 = .ok (.iload_n 2, 1) := by decide +kernel
theorem dX4_comparison_21 : decode cX4_comparison 21 = .ok (.bipush 60, 2) := by decide +kernel
theorem dX4_comparison_23 : decode cX4_comparison 23 = .ok (.if_icmp .eq 20, 3) := by decide +kernel
theorem dX4_comparison_26 : decode cX4_comparison 26 = .ok (.iload_n 2, 1) := by decide +kernel
theorem dX4_comparison_27 : decode cX4_comparison 27 = .ok (.bipush 62, 2) := by decide +kernel
theorem dX4_comparison_29 : decode cX4_comparison 29 = .ok (.if_icmp .eq 14, 3) := by decide +kernel
theorem dX4_comparison_32 : decode cX4_comparison 32 = .ok (.iload_n 2, 1) := by decide +kernel
theorem dX4_comparison_33 : decode cX4_comparison 33 = .ok (.bipush 61, 2) := by decide +kernel
theorem dX4_comparison_35 : decode cX4_comparison 35 = .ok (.if_icmp .eq 8, 3) := by decide +kernel
theorem dX4_comparison_38 : decode cX4_comparison 38 = .ok (.aload_n 0, 1) := by decide +kernel
theorem dX4_comparison_39 : decode cX4_comparison 39 = .ok (.invokevirtual 61, 3) := by decide +kernel
theorem dX4_comparison_42 : decode cX4_comparison 42 = .ok (.ireturn, 1) := by decide +kernel
theorem dX4_comparison_43 : decode cX4_comparison 43 = .ok (.aload_n 0, 1) := by decide +kernel
theorem dX4_comparison_44 : decode cX4_comparison 44 = .ok (.dup, 1) := by decide +kernel
theorem dX4_comparison_45 : decode cX4_comparison 45 = .ok (.getfield 35, 3) := by decide +kernel
theorem dX4_comparison_48 : decode cX4_comparison 48 = .ok (.iconst 1, 1) := by decide +kernel
theorem dX4_comparison_49 : decode cX4_comparison 49 = .ok (.iadd, 1) := by decide +kernel
theorem dX4_comparison_50 : decode cX4_comparison 50 = .ok (.putfield 35, 3) := by decide +kernel
theorem dX4_comparison_53 : decode cX4_comparison 53 = .ok (.aload_n 0, 1) := by decide +kernel
theorem dX4_comparison_54 : decode cX4_comparison 54 = .ok (.iload_n 1, 1) := by decide +kernel
theorem dX4_comparison_55 : decode cX4_comparison 55 = .ok (.invokevirtual 115, 3) := by decide +kernel
theorem dX4_comparison_58 : decode cX4_comparison 58 = .ok (.ifCond .ne 5, 3) := by decide +kernel
theorem dX4_comparison_61 : decode cX4_comparison 61 = .ok (.iconst 0, 1) := by decide +kernel
theorem dX4_comparison_62 : decode cX4_comparison 62 = .ok (.ireturn, 1) := by decide +kernel
theorem dX4_comparison_63 : decode cX4_comparison 63 = .ok (.aload_n 0, 1) := by decide +kernel
theorem dX4_comparison_64 : decode cX4_comparison 64 = .ok (.getfield 16, 3) := by decide +kernel
theorem dX4_comparison_67 : decode cX4_comparison 67 = .ok (.iload_n 2, 1) := by decide +kernel
theorem dX4_comparison_68 : decode cX4_comparison 68 = .ok (.ineg, 1) := by decide +kernel
theorem dX4_comparison_69 : decode cX4_comparison 69 = .ok (.invokevirtual 118, 3) := by decide +kernel
theorem dX4_comparison_72 : decode cX4_comparison 72 = .ok (.iconst 1, 1) := by decide +kernel
theorem dX4_comparison_73 : decode cX4_comparison 73 = .ok (.ireturn, 1) := by decide +kernel
theorem dX4_sum_0 : decode cX4_sum 0 = .ok (.aload_n 0, 1) := by decide +kernel
theorem dX4_sum_1 : decode cX4_sum 1 = .ok (.iload_n 1, 1) := by decide +kernel
theorem dX4_sum_2 : decode cX4_sum 2 = .ok (.invokevirtual 150, 3) := by decide +kernel
theorem dX4_sum_5 : decode cX4_sum 5 = .ok (.ifCond .ne 5, 3) := by decide +kernel
theorem dX4_sum_8 : decode cX4_sum 8 = .ok (.iconst 0, 1) := by decide +kernel
theorem dX4_sum_9 : decode cX4_sum 9 = .ok (.ireturn, 1) := by decide +kernel
theorem dX4_sum_10 : decode cX4_sum 10 = .ok (.iconst 0, 1) := by decide +kernel
theorem dX4_sum_11 : decode cX4_sum 11 = .ok (.istore_n 2, 1) := by decide +kernel
theorem dX4_sum_12 : decode cX4_sum 12 = .ok (.iload_n 2, 1) := by decide +kernel
theorem dX4_sum_13 : decode cX4_sum 13 = .ok (.sipush 400, 3) := by decide +kernel
theorem dX4_sum_16 : decode cX4_sum 16 = .ok (.if_icmp .ge 76, 3) := by decide +kernel
theorem dX4_sum_19 : decode cX4_sum 19 = .ok (.aload_n 0, 1) := by decide +kernel
theorem dX4_sum_20 : decode cX4_sum 20 = .ok (.getfield 24, 3) := by decide +kernel
theorem dX4_sum_23 : decode cX4_sum 23 = .ok (.aload_n 0, 1) := by decide +kernel
theorem dX4_sum_24 : decode cX4_sum 24 = .ok (.getfield 35, 3) := by decide +kernel
theorem dX4_sum_27 : decode cX4_sum 27 = .ok (.iaload, 1) := by decide +kernel
theorem dX4_sum_28 : decode cX4_sum 28 = .ok (.bipush 43, 2) := by decide +kernel
theorem dX4_sum_30 : decode cX4_sum 30 = .ok (.if_icmp .eq 17, 3) := by decide +kernel
theorem dX4_sum_33 : decode cX4_sum 33 = .ok (.aload_n 0, 1) := by decide +kernel
theorem dX4_sum_34 : decode cX4_sum 34 = .ok (.getfield 24, 3) := by decide +kernel
theorem dX4_sum_37 : decode cX4_sum 37 = .ok (.aload_n 0, 1) := by decide +kernel
theorem dX4_sum_38 : decode cX4_sum 38 = .ok (.getfield 35, 3) := by decide +kernel
theorem dX4_sum_41 : decode cX4_sum 41 = .ok (.iaload, 1) := by decide +kernel
theorem dX4_sum_42 : decode cX4_sum 42 = .ok (.bipush 45, 2) := by decide +kernel
theorem dX4_sum_44 : decode cX4_sum 44 = .ok (.if_icmp .ne 48, 3) := by decide +kernel
theorem dX4_sum_47 : decode cX4_sum 47 = .ok (.aload_n 0, 1) := by decide +kernel
theorem dX4_sum_48 : decode cX4_sum 48 = .ok (.getfield 24, 3) := by decide +kernel
theorem dX4_sum_51 : decode cX4_sum 51 = .ok (.aload_n 0, 1) := by decide +kernel
theorem dX4_sum_52 : decode cX4_sum 52 = .ok (.getfield 35, 3) := by decide +kernel
theorem dX4_sum_55 : decode cX4_sum 55 = .ok (.iaload, 1) := by decide +kernel
theorem dX4_sum_56 : decode cX4_sum 56 = .ok (.istore_n 3, 1) := by decide +kernel
theorem dX4_sum_57 : decode cX4_sum 57 = .ok (.aload_n 0, 1) := by decide +kernel
theorem dX4_sum_58 : decode cX4_sum 58 = .ok (.dup, 1) := by decide +kernel
theorem dX4_sum_59 : decode cX4_sum 59 = .ok (.getfield 35, 3) := by decide +kernel
theorem dX4_sum_62 : decode cX4_sum 62 = .ok (.iconst 1, 1) := by decide +kernel
theorem dX4_sum_63 : decode cX4_sum 63 = .ok (.iadd, 1) := by decide +kernel
theorem dX4_sum_64 : decode cX4_sum 64 = .ok (.putfield 35, 3) := by decide +kernel
theorem dX4_sum_67 : decode cX4_sum 67 = .ok (.aload_n 0, 1) := by decide +kernel
theorem dX4_sum_68 : decode cX4_sum 68 = .ok (.iload_n 1, 1) := by decide +kernel
theorem dX4_sum_69 : decode cX4_sum 69 = .ok (.invokevirtual 150, 3) := by decide +kernel
theorem dX4_sum_72 : decode cX4_sum 72 = .ok (.ifCond .ne 5, 3) := by decide +kernel
theorem dX4_sum_75 : decode cX4_sum 75 = .ok (.iconst 0, 1) := by decide +kernel
theorem dX4_sum_76 : decode cX4_sum 76 = .ok (.ireturn, 1) := by decide +kernel
theorem dX4_sum_77 : decode cX4_sum 77 = .ok (.aload_n 0, 1) := by decide +kernel
theorem dX4_sum_78 : decode cX4_sum 78 = .ok (.getfield 16, 3) := by decide +kernel
theorem dX4_sum_81 : decode cX4_sum 81 = .ok (.iload_n 3, 1) := by decide +kernel
theorem dX4_sum_82 : decode cX4_sum 82 = .ok (.ineg, 1) := by decide +kernel
theorem dX4_sum_83 : decode cX4_sum 83 = .ok (.invokevirtual 118, 3) := by decide +kernel
theorem dX4_sum_86 : decode cX4_sum 86 = .ok (.iinc 2 1, 3) := by decide +kernel
theorem dX4_sum_89 : decode cX4_sum 89 = .ok (.goto (-77), 3) := by decide +kernel
theorem dX4_sum_92 : decode cX4_sum 92 = .ok (.iconst 1, 1) := by decide +kernel
theorem dX4_sum_93 : decode cX4_sum 93 = .ok (.ireturn, 1) := by decide +kernel
theorem dX4_term_0 : decode cX4_term 0 = .ok (.aload_n 0, 1) := by decide +kernel
theorem dX4_term_1 : decode cX4_term 1 = .ok (.iload_n 1, 1) := by decide +kernel
theorem dX4_term_2 : decode cX4_term 2 = .ok (.invokevirtual 153, 3) := by decide +kernel
theorem dX4_term_5 : decode cX4_term 5 = .ok (.ifCond .ne 5, 3) := by decide +kernel
theorem dX4_term_8 : decode cX4_term 8 = .ok (.iconst 0, 1) := by decide +kernel
theorem dX4_term_9 : decode cX4_term 9 = .ok (.ireturn, 1) := by decide +kernel
theorem dX4_term_10 : decode cX4_term 10 = .ok (.iconst 0, 1) := by decide +kernel
theorem dX4_term_11 : decode cX4_term 11 = .ok (.istore_n 2, 1) := by decide +kernel
theorem dX4_term_12 : decode cX4_term 12 = .ok (.iload_n 2, 1) := by decide +kernel
theorem dX4_term_13 : decode cX4_term 13 = .ok (.sipush 400, 3) := by decide +kernel
theorem dX4_term_16 : decode cX4_term 16 = .ok (.if_icmp .ge 90, 3) := by decide +kernel
theorem dX4_term_19 : decode cX4_term 19 = .ok (.aload_n 0, 1) := by decide +kernel
theorem dX4_term_20 : decode cX4_term 20 = .ok (.getfield 24, 3) := by decide +kernel
theorem dX4_term_23 : decode cX4_term 23 = .ok (.aload_n 0, 1) := by decide +kernel
theorem dX4_term_24 : decode cX4_term 24 = .ok (.getfield 35, 3) := by decide +kernel
theorem dX4_term_27 : decode cX4_term 27 = .ok (.iaload, 1) := by decide +kernel
theorem dX4_term_28 : decode cX4_term 28 = .ok (.bipush 42, 2) := by decide +kernel
theorem dX4_term_30 : decode cX4_term 30 = .ok (.if_icmp .eq 31, 3) := by decide +kernel
theorem dX4_term_33 : decode cX4_term 33 = .ok (.aload_n 0, 1) := by decide +kernel
theorem dX4_term_34 : decode cX4_term 34 = .ok (.getfield 24, 3) := by decide +kernel
theorem dX4_term_37 : decode cX4_term 37 = .ok (.aload_n 0, 1) := by decide +kernel
theorem dX4_term_38 : decode cX4_term 38 = .ok (.getfield 35, 3) := by decide +kernel
theorem dX4_term_41 : decode cX4_term 41 = .ok (.iaload, 1) := by decide +kernel
theorem dX4_term_42 : decode cX4_term 42 = .ok (.bipush 47, 2) := by decide +kernel
theorem dX4_term_44 : decode cX4_term 44 = .ok (.if_icmp .eq 17, 3) := by decide +kernel
theorem dX4_term_47 : decode cX4_term 47 = .ok (.aload_n 0, 1) := by decide +kernel
theorem dX4_term_48 : decode cX4_term 48 = .ok (.getfield 24, 3) := by decide +kernel
theorem dX4_term_51 : decode cX4_term 51 = .ok (.aload_n 0, 1) := by decide +kernel
theorem dX4_term_52 : decode cX4_term 52 = .ok (.getfield 35, 3) := by decide +kernel
theorem dX4_term_55 : decode cX4_term 55 = .ok (.iaload, 1) := by decide +kernel
theorem dX4_term_56 : decode cX4_term 56 = .ok (.bipush 37, 2) := by decide +kernel
theorem dX4_term_58 : decode cX4_term 58 = .ok (.if_icmp .ne 48, 3) := by decide +kernel
theorem dX4_term_61 : decode cX4_term 61 = .ok (.aload_n 0, 1) := by decide +kernel
theorem dX4_term_62 : decode cX4_term 62 = .ok (.getfield 24, 3) := by decide +kernel
theorem dX4_term_65 : decode cX4_term 65 = .ok (.aload_n 0, 1) := by decide +kernel
theorem dX4_term_66 : decode cX4_term 66 = .ok (.getfield 35, 3) := by decide +kernel
theorem dX4_term_69 : decode cX4_term 69 = .ok (.iaload, 1) := by decide +kernel
theorem dX4_term_70 : decode cX4_term 70 = .ok (.istore_n 3, 1) := by decide +kernel
theorem dX4_term_71 : decode cX4_term 71 = .ok (.aload_n 0, 1) := by decide +kernel
theorem dX4_term_72 : decode cX4_term 72 = .ok (.dup, 1) := by decide +kernel
theorem dX4_term_73 : decode cX4_term 73 = .ok (.getfield 35, 3) := by decide +kernel
theorem dX4_term_76 : decode cX4_term 76 = .ok (.iconst 1, 1) := by decide +kernel
theorem dX4_term_77 : decode cX4_term 77 = .ok (.iadd, 1) := by decide +kernel
theorem dX4_term_78 : decode cX4_term 78 = .ok (.putfield 35, 3) := by decide +kernel
theorem dX4_term_81 : decode cX4_term 81 = .ok (.aload_n 0, 1) := by decide +kernel
theorem dX4_term_82 : decode cX4_term 82 = .ok (.iload_n 1, 1) := by decide +kernel
theorem dX4_term_83 : decode cX4_term 83 = .ok (.invokevirtual 153, 3) := by decide +kernel
theorem dX4_term_86 : decode cX4_term 86 = .ok (.ifCond .ne 5, 3) := by decide +kernel
theorem dX4_term_89 : decode cX4_term 89 = .ok (.iconst 0, 1) := by decide +kernel
theorem dX4_term_90 : decode cX4_term 90 = .ok (.ireturn, 1) := by decide +kernel
theorem dX4_term_91 : decode cX4_term 91 = .ok (.aload_n 0, 1) := by decide +kernel
theorem dX4_term_92 : decode cX4_term 92 = .ok (.getfield 16, 3) := by decide +kernel
theorem dX4_term_95 : decode cX4_term 95 = .ok (.iload_n 3, 1) := by decide +kernel
theorem dX4_term_96 : decode cX4_term 96 = .ok (.ineg, 1) := by decide +kernel
theorem dX4_term_97 : decode cX4_term 97 = .ok (.invokevirtual 118, 3) := by decide +kernel
theorem dX4_term_100 : decode cX4_term 100 = .ok (.iinc 2 1, 3) := by decide +kernel
theorem dX4_term_103 : decode cX4_term 103 = .ok (.goto (-91), 3) := by decide +kernel
theorem dX4_term_106 : decode cX4_term 106 = .ok (.iconst 1, 1) := by decide +kernel
theorem dX4_term_107 : decode cX4_term 107 = .ok (.ireturn, 1) := by decide +kernel
theorem dX4_part_0 : decode cX4_part 0 = .ok (.aload_n 0, 1) := by decide +kernel
theorem dX4_part_1 : decode cX4_part 1 = .ok (.getfield 24, 3) := by decide +kernel
theorem dX4_part_4 : decode cX4_part 4 = .ok (.aload_n 0, 1) := by decide +kernel
theorem dX4_part_5 : decode cX4_part 5 = .ok (.getfield 35, 3) := by decide +kernel
theorem dX4_part_8 : decode cX4_part 8 = .ok (.iaload, 1) := by decide +kernel
theorem dX4_part_9 : decode cX4_part 9 = .ok (.bipush 91, 2) := by decide +kernel
theorem dX4_part_11 : decode cX4_part 11 = .ok (.if_icmp .ne 9, 3) := by decide +kernel
theorem dX4_part_14 : decode cX4_part 14 = .ok (.aload_n 0, 1) := by decide +kernel
theorem dX4_part_15 : decode cX4_part 15 = .ok (.iload_n 1, 1) := by decide +kernel
theorem dX4_part_16 : decode cX4_part 16 = .ok (.invokevirtual 156, 3) := by decide +kernel
theorem dX4_part_19 : decode cX4_part 19 = .ok (.ireturn, 1) := by decide +kernel
theorem dX4_part_20 : decode cX4_part 20 = .ok (.aload_n 0, 1) := by decide +kernel
theorem dX4_part_21 : decode cX4_part 21 = .ok (.getfield 38, 3) := by decide +kernel
theorem dX4_part_24 : decode cX4_part 24 = .ok (.bipush 50, 2) := by decide +kernel
theorem dX4_part_26 : decode cX4_part 26 = .ok (.if_icmp .lt 8, 3) := by decide +kernel
theorem dX4_part_29 : decode cX4_part 29 = .ok (.aload_n 0, 1) := by decide +kernel
theorem dX4_part_30 : decode cX4_part 30 = .ok (.invokevirtual 61, 3) := by decide +kernel
theorem dX4_part_33 : decode cX4_part 33 = .ok (.ireturn, 1) := by decide +kernel
theorem dX4_part_34 : decode cX4_part 34 = .ok (.aload_n 0, 1) := by decide +kernel
theorem dX4_part_35 : decode cX4_part 35 = .ok (.dup, 1) := by decide +kernel
theorem dX4_part_36 : decode cX4_part 36 = .ok (.getfield 38, 3) := by decide +kernel
theorem dX4_part_39 : decode cX4_part 39 = .ok (.iconst 1, 1) := by decide +kernel
theorem dX4_part_40 : decode cX4_part 40 = .ok (.iadd, 1) := by decide +kernel
theorem dX4_part_41 : decode cX4_part 41 = .ok (.putfield 38, 3) := by decide +kernel
theorem dX4_part_44 : decode cX4_part 44 = .ok (.aload_n 0, 1) := by decide +kernel
theorem dX4_part_45 : decode cX4_part 45 = .ok (.iconst 0, 1) := by decide +kernel
theorem dX4_part_46 : decode cX4_part 46 = .ok (.sipush 1000, 3) := by decide +kernel
theorem dX4_part_49 : decode cX4_part 49 = .ok (.invokevirtual 127, 3) := by decide +kernel
theorem dX4_part_52 : decode cX4_part 52 = .ok (.istore_n 2, 1) := by decide +kernel
theorem dX4_part_53 : decode cX4_part 53 = .ok (.iload_n 2, 1) := by decide +kernel
theorem dX4_part_54 : decode cX4_part 54 = .ok (.iconst (-1), 1) := by decide +kernel
theorem dX4_part_55 : decode cX4_part 55 = .ok (.if_icmp .ne 22, 3) := by decide +kernel
theorem dX4_part_58 : decode cX4_part 58 = .ok (.aload_n 0, 1) := by decide +kernel
theorem dX4_part_59 : decode cX4_part 59 = .ok (.getfield 31, 3) := by decide +kernel
theorem dX4_part_62 : decode cX4_part 62 = .ok (.ifCond .eq 10, 3) := by decide +kernel
theorem dX4_part_65 : decode cX4_part 65 = .ok (.aload_n 0, 1) := by decide +kernel
theorem dX4_part_66 : decode cX4_part 66 = .ok (.invokevirtual 159, 3) := by decide +kernel
theorem dX4_part_69 : decode cX4_part 69 = .ok (.goto 7, 3) := by decide +kernel
theorem dX4_part_72 : decode cX4_part 72 = .ok (.aload_n 0, 1) := by decide +kernel
theorem dX4_part_73 : decode cX4_part 73 = .ok (.invokevirtual 162, 3) := by decide +kernel
theorem dX4_part_76 : decode cX4_part 76 = .ok (.istore_n 2, 1) := by decide +kernel
theorem dX4_part_77 : decode cX4_part 77 = .ok (.iload_n 2, 1) := by decide +kernel
theorem dX4_part_78 : decode cX4_part 78 = .ok (.iconst (-1), 1) := by decide +kernel
theorem dX4_part_79 : decode cX4_part 79 = .ok (.if_icmp .ne 8, 3) := by decide +kernel
theorem dX4_part_82 : decode cX4_part 82 = .ok (.aload_n 0, 1) := by decide +kernel
theorem dX4_part_83 : decode cX4_part 83 = .ok (.invokevirtual 61, 3) := by decide +kernel
theorem dX4_part_86 : decode cX4_part 86 = .ok (.ireturn, 1) := by decide +kernel
theorem dX4_part_87 : decode cX4_part 87 = .ok (.aload_n 0, 1) := by decide +kernel
theorem dX4_part_88 : decode cX4_part 88 = .ok (.dup, 1) := by decide +kernel
theorem dX4_part_89 : decode cX4_part 89 = .ok (.getfield 35, 3) := by decide +kernel
theorem dX4_part_92 : decode cX4_part 92 = .ok (.iconst 1, 1) := by decide +kernel
theorem dX4_part_93 : decode cX4_part 93 = .ok (.iadd, 1) := by decide +kernel
theorem dX4_part_94 : decode cX4_part 94 = .ok (.putfield 35, 3) := by decide +kernel
theorem dX4_part_97 : decode cX4_part 97 = .ok (.aload_n 0, 1) := by decide +kernel
theorem dX4_part_98 : decode cX4_part 98 = .ok (.getfield 16, 3) := by decide +kernel
theorem dX4_part_101 : decode cX4_part 101 = .ok (.iload_n 2, 1) := by decide +kernel
theorem dX4_part_102 : decode cX4_part 102 = .ok (.invokevirtual 118, 3) := by decide +kernel
theorem dX4_part_105 : decode cX4_part 105 = .ok (.iconst 1, 1) := by decide +kernel
theorem dX4_part_106 : decode cX4_part 106 = .ok (.ireturn, 1) := by decide +kernel
theorem dX4_inner_0 : decode cX4_inner 0 = .ok (.iload_n 1, 1) := by decide +kernel
theorem dX4_inner_1 : decode cX4_inner 1 = .ok (.bipush 8, 2) := by decide +kernel
theorem dX4_inner_3 : decode cX4_inner 3 = .ok (.if_icmp .lt 8, 3) := by decide +kernel
theorem dX4_inner_6 : decode cX4_inner 6 = .ok (.aload_n 0, 1) := by decide +kernel
theorem dX4_inner_7 : decode cX4_inner 7 = .ok (.invokevirtual 61, 3) := by decide +kernel
theorem dX4_inner_10 : decode cX4_inner 10 = .ok (.ireturn, 1) := by decide +kernel
theorem dX4_inner_11 : decode cX4_inner 11 = .ok (.aload_n 0, 1) := by decide +kernel
theorem dX4_inner_12 : decode cX4_inner 12 = .ok (.dup, 1) := by decide +kernel
theorem dX4_inner_13 : decode cX4_inner 13 = .ok (.getfield 35, 3) := by decide +kernel
theorem dX4_inner_16 : decode cX4_inner 16 = .ok (.iconst 1, 1) := by decide +kernel
theorem dX4_inner_17 : decode cX4_inner 17 = .ok (.iadd, 1) := by decide +kernel
theorem dX4_inner_18 : decode cX4_inner 18 = .ok (.putfield 35, 3) := by decide +kernel
theorem dX4_inner_21 : decode cX4_inner 21 = .ok (.aload_n 0, 1) := by decide +kernel
theorem dX4_inner_22 : decode cX4_inner 22 = .ok (.iload_n 1, 1) := by decide +kernel
theorem dX4_inner_23 : decode cX4_inner 23 = .ok (.iconst 1, 1) := by decide +kernel
theorem dX4_inner_24 : decode cX4_inner 24 = .ok (.iadd, 1) := by decide +kernel
theorem dX4_inner_25 : decode cX4_inner 25 = .ok (.invokevirtual 115, 3) := by decide +kernel
theorem dX4_inner_28 : decode cX4_inner 28 = .ok (.ifCond .ne 5, 3) := by decide +kernel
theorem dX4_inner_31 : decode cX4_inner 31 = .ok (.iconst 0, 1) := by decide +kernel
theorem dX4_inner_32 : decode cX4_inner 32 = .ok (.ireturn, 1) := by decide +kernel
theorem dX4_inner_33 : decode cX4_inner 33 = .ok (.aload_n 0, 1) := by decide +kernel
theorem dX4_inner_34 : decode cX4_inner 34 = .ok (.getfield 24, 3) := by decide +kernel
theorem dX4_inner_37 : decode cX4_inner 37 = .ok (.aload_n 0, 1) := by decide +kernel
theorem dX4_inner_38 : decode cX4_inner 38 = .ok (.getfield 35, 3) := by decide +kernel
theorem dX4_inner_41 : decode cX4_inner 41 = .ok (.iaload, 1) := by decide +kernel
theorem dX4_inner_42 : decode cX4_inner 42 = .ok (.bipush 93, 2) := by decide +kernel
theorem dX4_inner_44 : decode cX4_inner 44 = .ok (.if_icmp .eq 8, 3) := by decide +kernel
theorem dX4_inner_47 : decode cX4_inner 47 = .ok (.aload_n 0, 1) := by decide +kernel
theorem dX4_inner_48 : decode cX4_inner 48 = .ok (.invokevirtual 61, 3) := by decide +kernel
theorem dX4_inner_51 : decode cX4_inner 51 = .ok (.ireturn, 1) := by decide +kernel
theorem dX4_inner_52 : decode cX4_inner 52 = .ok (.aload_n 0, 1) := by decide +kernel
theorem dX4_inner_53 : decode cX4_inner 53 = .ok (.dup, 1) := by decide +kernel
theorem dX4_inner_54 : decode cX4_inner 54 = .ok (.getfield 35, 3) := by decide +kernel
theorem dX4_inner_57 : decode cX4_inner 57 = .ok (.iconst 1, 1) := by decide +kernel
theorem dX4_inner_58 : decode cX4_inner 58 = .ok (.iadd, 1) := by decide +kernel
theorem dX4_inner_59 : decode cX4_inner 59 = .ok (.putfield 35, 3) := by decide +kernel
theorem dX4_inner_62 : decode cX4_inner 62 = .ok (.iconst 1, 1) := by decide +kernel
theorem dX4_inner_63 : decode cX4_inner 63 = .ok (.ireturn, 1) := by decide +kernel
theorem dX4_lawWord_0 : decode cX4_lawWord 0 = .ok (.aload_n 0, 1) := by decide +kernel
theorem dX4_lawWord_1 : decode cX4_lawWord 1 = .ok (.getfield 24, 3) := by decide +kernel
theorem dX4_lawWord_4 : decode cX4_lawWord 4 = .ok (.aload_n 0, 1) := by decide +kernel
theorem dX4_lawWord_5 : decode cX4_lawWord 5 = .ok (.getfield 35, 3) := by decide +kernel
theorem dX4_lawWord_8 : decode cX4_lawWord 8 = .ok (.iaload, 1) := by decide +kernel
theorem dX4_lawWord_9 : decode cX4_lawWord 9 = .ok (.sipush 308, 3) := by decide +kernel
theorem dX4_lawWord_12 : decode cX4_lawWord 12 = .ok (.isub, 1) := by decide +kernel
theorem dX4_lawWord_13 : decode cX4_lawWord 13 = .ok (.istore_n 1, 1) := by decide +kernel
theorem dX4_lawWord_14 : decode cX4_lawWord 14 = .ok (.iload_n 1, 1) := by decide +kernel
theorem dX4_lawWord_15 : decode cX4_lawWord 15 = .ok (.ifCond .lt 17, 3) := by decide +kernel
theorem dX4_lawWord_18 : decode cX4_lawWord 18 = .ok (.iload_n 1, 1) := by decide +kernel
theorem dX4_lawWord_19 : decode cX4_lawWord 19 = .ok (.bipush 9, 2) := by decide +kernel
theorem dX4_lawWord_21 : decode cX4_lawWord 21 = .ok (.if_icmp .ge 11, 3) := by decide +kernel
theorem dX4_lawWord_24 : decode cX4_lawWord 24 = .ok (.sipush 2000, 3) := by decide +kernel
theorem dX4_lawWord_27 : decode cX4_lawWord 27 = .ok (.iload_n 1, 1) := by decide +kernel
theorem dX4_lawWord_28 : decode cX4_lawWord 28 = .ok (.iadd, 1) := by decide +kernel
theorem dX4_lawWord_29 : decode cX4_lawWord 29 = .ok (.goto 4, 3) := by decide +kernel
theorem dX4_lawWord_32 : decode cX4_lawWord 32 = .ok (.iconst (-1), 1) := by decide +kernel
theorem dX4_lawWord_33 : decode cX4_lawWord 33 = .ok (.ireturn, 1) := by decide +kernel
theorem dX4_orderWord_0 : decode cX4_orderWord 0 = .ok (.aload_n 0, 1) := by decide +kernel
theorem dX4_orderWord_1 : decode cX4_orderWord 1 = .ok (.getfield 24, 3) := by decide +kernel
theorem dX4_orderWord_4 : decode cX4_orderWord 4 = .ok (.aload_n 0, 1) := by decide +kernel
theorem dX4_orderWord_5 : decode cX4_orderWord 5 = .ok (.getfield 35, 3) := by decide +kernel
theorem dX4_orderWord_8 : decode cX4_orderWord 8 = .ok (.iaload, 1) := by decide +kernel
theorem dX4_orderWord_9 : decode cX4_orderWord 9 = .ok (.tableswitch 101 310 320 #[92, 101, 101, 83, 101, 59, 101, 63, 67, 71, 75], 59) := by decide +kernel
theorem dX4_orderWord_68 : decode cX4_orderWord 68 = .ok (.sipush 2000, 3) := by decide +kernel
theorem dX4_orderWord_71 : decode cX4_orderWord 71 = .ok (.ireturn, 1) := by decide +kernel
theorem dX4_orderWord_72 : decode cX4_orderWord 72 = .ok (.sipush 2001, 3) := by decide +kernel
theorem dX4_orderWord_75 : decode cX4_orderWord 75 = .ok (.ireturn, 1) := by decide +kernel
theorem dX4_orderWord_76 : decode cX4_orderWord 76 = .ok (.sipush 2002, 3) := by decide +kernel
theorem dX4_orderWord_79 : decode cX4_orderWord 79 = .ok (.ireturn, 1) := by decide +kernel
theorem dX4_orderWord_80 : decode cX4_orderWord 80 = .ok (.sipush 2003, 3) := by decide +kernel
theorem dX4_orderWord_83 : decode cX4_orderWord 83 = .ok (.ireturn, 1) := by decide +kernel
theorem dX4_orderWord_84 : decode cX4_orderWord 84 = .ok (.aload_n 0, 1) := by decide +kernel
theorem dX4_orderWord_85 : decode cX4_orderWord 85 = .ok (.iconst 4, 1) := by decide +kernel
theorem dX4_orderWord_86 : decode cX4_orderWord 86 = .ok (.bipush 6, 2) := by decide +kernel
theorem dX4_orderWord_88 : decode cX4_orderWord 88 = .ok (.invokevirtual 165, 3) := by decide +kernel
theorem dX4_orderWord_91 : decode cX4_orderWord 91 = .ok (.ireturn, 1) := by decide +kernel
theorem dX4_orderWord_92 : decode cX4_orderWord 92 = .ok (.aload_n 0, 1) := by decide +kernel
theorem dX4_orderWord_93 : decode cX4_orderWord 93 = .ok (.bipush 10, 2) := by decide +kernel
theorem dX4_orderWord_95 : decode cX4_orderWord 95 = .ok (.bipush 6, 2) := by decide +kernel
theorem dX4_orderWord_97 : decode cX4_orderWord 97 = .ok (.invokevirtual 165, 3) := by decide +kernel
theorem dX4_orderWord_100 : decode cX4_orderWord 100 = .ok (.ireturn, 1) := by decide +kernel
theorem dX4_orderWord_101 : decode cX4_orderWord 101 = .ok (.aload_n 0, 1) := by decide +kernel
theorem dX4_orderWord_102 : decode cX4_orderWord 102 = .ok (.bipush 16, 2) := by decide +kernel
theorem dX4_orderWord_104 : decode cX4_orderWord 104 = .ok (.bipush 8, 2) := by decide +kernel
theorem dX4_orderWord_106 : decode cX4_orderWord 106 = .ok (.invokevirtual 165, 3) := by decide +kernel
theorem dX4_orderWord_109 : decode cX4_orderWord 109 = .ok (.ireturn, 1) := by decide +kernel
theorem dX4_orderWord_110 : decode cX4_orderWord 110 = .ok (.iconst (-1), 1) := by decide +kernel
theorem dX4_orderWord_111 : decode cX4_orderWord 111 = .ok (.ireturn, 1) := by decide +kernel
theorem dX4_wordOfOne_0 : decode cX4_wordOfOne 0 = .ok (.aload_n 0, 1) := by decide +kernel
theorem dX4_wordOfOne_1 : decode cX4_wordOfOne 1 = .ok (.dup, 1) := by decide +kernel
theorem dX4_wordOfOne_2 : decode cX4_wordOfOne 2 = .ok (.getfield 35, 3) := by decide +kernel
theorem dX4_wordOfOne_5 : decode cX4_wordOfOne 5 = .ok (.iconst 1, 1) := by decide +kernel
theorem dX4_wordOfOne_6 : decode cX4_wordOfOne 6 = .ok (.iadd, 1) := by decide +kernel
theorem dX4_wordOfOne_7 : decode cX4_wordOfOne 7 = .ok (.putfield 35, 3) := by decide +kernel
theorem dX4_wordOfOne_10 : decode cX4_wordOfOne 10 = .ok (.aload_n 0, 1) := by decide +kernel
theorem dX4_wordOfOne_11 : decode cX4_wordOfOne 11 = .ok (.getfield 24, 3) := by decide +kernel
theorem dX4_wordOfOne_14 : decode cX4_wordOfOne 14 = .ok (.aload_n 0, 1) := by decide +kernel
theorem dX4_wordOfOne_15 : decode cX4_wordOfOne 15 = .ok (.getfield 35, 3) := by decide +kernel
theorem dX4_wordOfOne_18 : decode cX4_wordOfOne 18 = .ok (.iaload, 1) := by decide +kernel
theorem dX4_wordOfOne_19 : decode cX4_wordOfOne 19 = .ok (.sipush 1000, 3) := by decide +kernel
theorem dX4_wordOfOne_22 : decode cX4_wordOfOne 22 = .ok (.isub, 1) := by decide +kernel
theorem dX4_wordOfOne_23 : decode cX4_wordOfOne 23 = .ok (.istore_n 3, 1) := by decide +kernel
theorem dX4_wordOfOne_24 : decode cX4_wordOfOne 24 = .ok (.iload_n 3, 1) := by decide +kernel
theorem dX4_wordOfOne_25 : decode cX4_wordOfOne 25 = .ok (.ifCond .lt 18, 3) := by decide +kernel
theorem dX4_wordOfOne_28 : decode cX4_wordOfOne 28 = .ok (.iload_n 3, 1) := by decide +kernel
theorem dX4_wordOfOne_29 : decode cX4_wordOfOne 29 = .ok (.iload_n 2, 1) := by decide +kernel
theorem dX4_wordOfOne_30 : decode cX4_wordOfOne 30 = .ok (.if_icmp .ge 13, 3) := by decide +kernel
theorem dX4_wordOfOne_33 : decode cX4_wordOfOne 33 = .ok (.sipush 2000, 3) := by decide +kernel
theorem dX4_wordOfOne_36 : decode cX4_wordOfOne 36 = .ok (.iload_n 1, 1) := by decide +kernel
theorem dX4_wordOfOne_37 : decode cX4_wordOfOne 37 = .ok (.iadd, 1) := by decide +kernel
theorem dX4_wordOfOne_38 : decode cX4_wordOfOne 38 = .ok (.iload_n 3, 1) := by decide +kernel
theorem dX4_wordOfOne_39 : decode cX4_wordOfOne 39 = .ok (.iadd, 1) := by decide +kernel
theorem dX4_wordOfOne_40 : decode cX4_wordOfOne 40 = .ok (.goto 4, 3) := by decide +kernel
theorem dX4_wordOfOne_43 : decode cX4_wordOfOne 43 = .ok (.iconst (-1), 1) := by decide +kernel
theorem dX4_wordOfOne_44 : decode cX4_wordOfOne 44 = .ok (.ireturn, 1) := by decide +kernel
theorem dX5_init_0 : decode cX5_init 0 = .ok (.aload_n 0, 1) := by decide +kernel
theorem dX5_init_1 : decode cX5_init 1 = .ok (.invokespecial 3, 3) := by decide +kernel
theorem dX5_init_4 : decode cX5_init 4 = .ok (.aload_n 0, 1) := by decide +kernel
theorem dX5_init_5 : decode cX5_init 5 = .ok (.bipush 50, 2) := by decide +kernel
theorem dX5_init_7 : decode cX5_init 7 = .ok (.newarray .int, 2) := by decide +kernel
theorem dX5_init_9 : decode cX5_init 9 = .ok (.putfield 9, 3) := by decide +kernel
theorem dX5_init_12 : decode cX5_init 12 = .ok (.return_, 1) := by decide +kernel
theorem dX5_value_0 : decode cX5_value 0 = .ok (.iconst 0, 1) := by decide +kernel
theorem dX5_value_1 : decode cX5_value 1 = .ok (.istore 4, 2) := by decide +kernel
theorem dX5_value_3 : decode cX5_value 3 = .ok (.iconst 0, 1) := by decide +kernel
theorem dX5_value_4 : decode cX5_value 4 = .ok (.iload_n 2, 1) := by decide +kernel
theorem dX5_value_5 : decode cX5_value 5 = .ok (.invokestatic 15, 3) := by decide +kernel
theorem dX5_value_8 : decode cX5_value 8 = .ok (.istore 5, 2) := by decide +kernel
theorem dX5_value_10 : decode cX5_value 10 = .ok (.iload 5, 2) := by decide +kernel
theorem dX5_value_12 : decode cX5_value 12 = .ok (.aload_n 1, 1) := by decide +kernel
theorem dX5_value_13 : decode cX5_value 13 = .ok (.getfield 21, 3) := by decide +kernel
theorem dX5_value_16 : decode cX5_value 16 = .ok (.if_icmp .ge 189, 3) := by decide +kernel
theorem dX5_value_19 : decode cX5_value 19 = .ok (.aload_n 1, 1) := by decide +kernel
theorem dX5_value_20 : decode cX5_value 20 = .ok (.getfield 27, 3) := by decide +kernel
theorem dX5_value_23 : decode cX5_value 23 = .ok (.iload 5, 2) := by decide +kernel
theorem dX5_value_25 : decode cX5_value 25 = .ok (.iaload, 1) := by decide +kernel
theorem dX5_value_26 : decode cX5_value 26 = .ok (.istore 6, 2) := by decide +kernel
theorem dX5_value_28 : decode cX5_value 28 = .ok (.iload 6, 2) := by decide +kernel
theorem dX5_value_30 : decode cX5_value 30 = .ok (.iconst (-1), 1) := by decide +kernel
theorem dX5_value_31 : decode cX5_value 31 = .ok (.if_icmp .ne 6, 3) := by decide +kernel
theorem dX5_value_34 : decode cX5_value 34 = .ok (.goto 171, 3) := by decide +kernel
theorem dX5_value_37 : decode cX5_value 37 = .ok (.iload 6, 2) := by decide +kernel
theorem dX5_value_39 : decode cX5_value 39 = .ok (.sipush 2000, 3) := by decide +kernel
theorem dX5_value_42 : decode cX5_value 42 = .ok (.if_icmp .lt 42, 3) := by decide +kernel
theorem dX5_value_45 : decode cX5_value 45 = .ok (.iload 4, 2) := by decide +kernel
theorem dX5_value_47 : decode cX5_value 47 = .ok (.bipush 50, 2) := by decide +kernel
theorem dX5_value_49 : decode cX5_value 49 = .ok (.if_icmp .ge 150, 3) := by decide +kernel
theorem dX5_value_52 : decode cX5_value 52 = .ok (.iload 6, 2) := by decide +kernel
theorem dX5_value_54 : decode cX5_value 54 = .ok (.sipush 2000, 3) := by decide +kernel
theorem dX5_value_57 : decode cX5_value 57 = .ok (.isub, 1) := by decide +kernel
theorem dX5_value_58 : decode cX5_value 58 = .ok (.aload_n 3, 1) := by decide +kernel
theorem dX5_value_59 : decode cX5_value 59 = .ok (.arraylength, 1) := by decide +kernel
theorem dX5_value_60 : decode cX5_value 60 = .ok (.if_icmp .ge 139, 3) := by decide +kernel
theorem dX5_value_63 : decode cX5_value 63 = .ok (.aload_n 0, 1) := by decide +kernel
theorem dX5_value_64 : decode cX5_value 64 = .ok (.getfield 9, 3) := by decide +kernel
theorem dX5_value_67 : decode cX5_value 67 = .ok (.iload 4, 2) := by decide +kernel
theorem dX5_value_69 : decode cX5_value 69 = .ok (.aload_n 3, 1) := by decide +kernel
theorem dX5_value_70 : decode cX5_value 70 = .ok (.iload 6, 2) := by decide +kernel
theorem dX5_value_72 : decode cX5_value 72 = .ok (.sipush 2000, 3) := by decide +kernel
theorem dX5_value_75 : decode cX5_value 75 = .ok (.isub, 1) := by decide +kernel
theorem dX5_value_76 : decode cX5_value 76 = .ok (.iaload, 1) := by decide +kernel
theorem dX5_value_77 : decode cX5_value 77 = .ok (.iastore, 1) := by decide +kernel
theorem dX5_value_78 : decode cX5_value 78 = .ok (.iinc 4 1, 3) := by decide +kernel
theorem dX5_value_81 : decode cX5_value 81 = .ok (.goto 118, 3) := by decide +kernel
theorem dX5_value_84 : decode cX5_value 84 = .ok (.iload 6, 2) := by decide +kernel
theorem dX5_value_86 : decode cX5_value 86 = .ok (.ifCond .lt 25, 3) := by decide +kernel
theorem dX5_value_89 : decode cX5_value 89 = .ok (.iload 4, 2) := by decide +kernel
theorem dX5_value_91 : decode cX5_value 91 = .ok (.bipush 50, 2) := by decide +kernel
theorem dX5_value_93 : decode cX5_value 93 = .ok (.if_icmp .ge 106, 3) := by decide +kernel
theorem dX5_value_96 : decode cX5_value 96 = .ok (.aload_n 0, 1) := by decide +kernel
theorem dX5_value_97 : decode cX5_value 97 = .ok (.getfield 9, 3) := by decide +kernel
theorem dX5_value_100 : decode cX5_value 100 = .ok (.iload 4, 2) := by decide +kernel
theorem dX5_value_102 : decode cX5_value 102 = .ok (.iload 6, 2) := by decide +kernel
theorem dX5_value_104 : decode cX5_value 104 = .ok (.iastore, 1) := by decide +kernel
theorem dX5_value_105 : decode cX5_value 105 = .ok (.iinc 4 1, 3) := by decide +kernel
theorem dX5_value_108 : decode cX5_value 108 = .ok (.goto 91, 3) := by decide +kernel
theorem dX5_value_111 : decode cX5_value 111 = .ok (.iload 6, 2) := by decide +kernel
theorem dX5_value_113 : decode cX5_value 113 = .ok (.bipush (-4), 2) := by decide +kernel
theorem dX5_value_115 : decode cX5_value 115 = .ok (.if_icmp .ne 45, 3) := by decide +kernel
theorem dX5_value_118 : decode cX5_value 118 = .ok (.iload 4, 2) := by decide +kernel
theorem dX5_value_120 : decode cX5_value 120 = .ok (.ifCond .le 79, 3) := by decide +kernel
theorem dX5_value_123 : decode cX5_value 123 = .ok (.aload_n 0, 1) := by decide +kernel
theorem dX5_value_124 : decode cX5_value 124 = .ok (.getfield 9, 3) := by decide +kernel
theorem dX5_value_127 : decode cX5_value 127 = .ok (.iload 4, 2) := by decide +kernel
theorem dX5_value_129 : decode cX5_value 129 = .ok (.iconst 1, 1) := by decide +kernel
theorem dX5_value_130 : decode cX5_value 130 = .ok (.isub, 1) := by decide +kernel
theorem dX5_value_131 : decode cX5_value 131 = .ok (.iaload, 1) := by decide +kernel
theorem dX5_value_132 : decode cX5_value 132 = .ok (.ldc 30, 2) := by decide +kernel
theorem dX5_value_134 : decode cX5_value 134 = .ok (.if_icmp .eq 65, 3) := by decide +kernel
theorem dX5_value_137 : decode cX5_value 137 = .ok (.aload_n 0, 1) := by decide +kernel
theorem dX5_value_138 : decode cX5_value 138 = .ok (.getfield 9, 3) := by decide +kernel
theorem dX5_value_141 : decode cX5_value 141 = .ok (.iload 4, 2) := by decide +kernel
theorem dX5_value_143 : decode cX5_value 143 = .ok (.iconst 1, 1) := by decide +kernel
theorem dX5_value_144 : decode cX5_value 144 = .ok (.isub, 1) := by decide +kernel
theorem dX5_value_145 : decode cX5_value 145 = .ok (.iconst 1, 1) := by decide +kernel
theorem dX5_value_146 : decode cX5_value 146 = .ok (.aload_n 0, 1) := by decide +kernel
theorem dX5_value_147 : decode cX5_value 147 = .ok (.getfield 9, 3) := by decide +kernel
theorem dX5_value_150 : decode cX5_value 150 = .ok (.iload 4, 2) := by decide +kernel
theorem dX5_value_152 : decode cX5_value 152 = .ok (.iconst 1, 1) := by decide +kernel
theorem dX5_value_153 : decode cX5_value 153 = .ok (.isub, 1) := by decide +kernel
theorem dX5_value_154 : decode cX5_value 154 = .ok (.iaload, 1) := by decide +kernel
theorem dX5_value_155 : decode cX5_value 155 = .ok (.isub, 1) := by decide +kernel
theorem dX5_value_156 : decode cX5_value 156 = .ok (.iastore, 1) := by decide +kernel
theorem dX5_value_157 : decode cX5_value 157 = .ok (.goto 42, 3) := by decide +kernel
theorem dX5_value_160 : decode cX5_value 160 = .ok (.iload 4, 2) := by decide +kernel
theorem dX5_value_162 : decode cX5_value 162 = .ok (.iconst 1, 1) := by decide +kernel
theorem dX5_value_163 : decode cX5_value 163 = .ok (.if_icmp .le 36, 3) := by decide +kernel
theorem dX5_value_166 : decode cX5_value 166 = .ok (.iinc 4 (-1), 3) := by decide +kernel
theorem dX5_value_169 : decode cX5_value 169 = .ok (.aload_n 0, 1) := by decide +kernel
theorem dX5_value_170 : decode cX5_value 170 = .ok (.getfield 9, 3) := by decide +kernel
theorem dX5_value_173 : decode cX5_value 173 = .ok (.iload 4, 2) := by decide +kernel
theorem dX5_value_175 : decode cX5_value 175 = .ok (.iconst 1, 1) := by decide +kernel
theorem dX5_value_176 : decode cX5_value 176 = .ok (.isub, 1) := by decide +kernel
theorem dX5_value_177 : decode cX5_value 177 = .ok (.iload 6, 2) := by decide +kernel
theorem dX5_value_179 : decode cX5_value 179 = .ok (.aload_n 0, 1) := by decide +kernel
theorem dX5_value_180 : decode cX5_value 180 = .ok (.getfield 9, 3) := by decide +kernel
theorem dX5_value_183 : decode cX5_value 183 = .ok (.iload 4, 2) := by decide +kernel
theorem dX5_value_185 : decode cX5_value 185 = .ok (.iconst 1, 1) := by decide +kernel
theorem dX5_value_186 : decode cX5_value 186 = .ok (.isub, 1) := by decide +kernel
theorem dX5_value_187 : decode cX5_value 187 = .ok (.iaload, 1) := by decide +kernel
theorem dX5_value_188 : decode cX5_value 188 = .ok (.aload_n 0, 1) := by decide +kernel
theorem dX5_value_189 : decode cX5_value 189 = .ok (.getfield 9, 3) := by decide +kernel
theorem dX5_value_192 : decode cX5_value 192 = .ok (.iload 4, 2) := by decide +kernel
theorem dX5_value_194 : decode cX5_value 194 = .ok (.iaload, 1) := by decide +kernel
theorem dX5_value_195 : decode cX5_value 195 = .ok (.invokestatic 31, 3) := by decide +kernel
theorem dX5_value_198 : decode cX5_value 198 = .ok (.iastore, 1) := by decide +kernel
theorem dX5_value_199 : decode cX5_value 199 = .ok (.iinc 5 1, 3) := by decide +kernel
theorem dX5_value_202 : decode cX5_value 202 = .ok (.goto (-192), 3) := by decide +kernel
theorem dX5_value_205 : decode cX5_value 205 = .ok (.iload 4, 2) := by decide +kernel
theorem dX5_value_207 : decode cX5_value 207 = .ok (.ifCond .le 12, 3) := by decide +kernel
theorem dX5_value_210 : decode cX5_value 210 = .ok (.aload_n 0, 1) := by decide +kernel
theorem dX5_value_211 : decode cX5_value 211 = .ok (.getfield 9, 3) := by decide +kernel
theorem dX5_value_214 : decode cX5_value 214 = .ok (.iconst 0, 1) := by decide +kernel
theorem dX5_value_215 : decode cX5_value 215 = .ok (.iaload, 1) := by decide +kernel
theorem dX5_value_216 : decode cX5_value 216 = .ok (.goto 5, 3) := by decide +kernel
theorem dX5_value_219 : decode cX5_value 219 = .ok (.ldc 30, 2) := by decide +kernel
theorem dX5_value_221 : decode cX5_value 221 = .ok (.ireturn, 1) := by decide +kernel
theorem dX5_joined_0 : decode cX5_joined 0 = .ok (.iload_n 0, 1) := by decide +kernel
theorem dX5_joined_1 : decode cX5_joined 1 = .ok (.bipush (-2), 2) := by decide +kernel
theorem dX5_joined_3 : decode cX5_joined 3 = .ok (.if_icmp .ne 13, 3) := by decide +kernel
theorem dX5_joined_6 : decode cX5_joined 6 = .ok (.iload_n 1, 1) := by decide +kernel
theorem dX5_joined_7 : decode cX5_joined 7 = .ok (.ifCond .ne 7, 3) := by decide +kernel
theorem dX5_joined_10 : decode cX5_joined 10 = .ok (.iload_n 2, 1) := by decide +kernel
theorem dX5_joined_11 : decode cX5_joined 11 = .ok (.goto 4, 3) := by decide +kernel
theorem dX5_joined_14 : decode cX5_joined 14 = .ok (.iload_n 1, 1) := by decide +kernel
theorem dX5_joined_15 : decode cX5_joined 15 = .ok (.ireturn, 1) := by decide +kernel
theorem dX5_joined_16 : decode cX5_joined 16 = .ok (.iload_n 0, 1) := by decide +kernel
theorem dX5_joined_17 : decode cX5_joined 17 = .ok (.bipush (-3), 2) := by decide +kernel
theorem dX5_joined_19 : decode cX5_joined 19 = .ok (.if_icmp .ne 14, 3) := by decide +kernel
theorem dX5_joined_22 : decode cX5_joined 22 = .ok (.iload_n 1, 1) := by decide +kernel
theorem dX5_joined_23 : decode cX5_joined 23 = .ok (.iconst 1, 1) := by decide +kernel
theorem dX5_joined_24 : decode cX5_joined 24 = .ok (.if_icmp .ne 7, 3) := by decide +kernel
theorem dX5_joined_27 : decode cX5_joined 27 = .ok (.iload_n 2, 1) := by decide +kernel
theorem dX5_joined_28 : decode cX5_joined 28 = .ok (.goto 4, 3) := by decide +kernel
theorem dX5_joined_31 : decode cX5_joined 31 = .ok (.iload_n 1, 1) := by decide +kernel
theorem dX5_joined_32 : decode cX5_joined 32 = .ok (.ireturn, 1) := by decide +kernel
theorem dX5_joined_33 : decode cX5_joined 33 = .ok (.iload_n 1, 1) := by decide +kernel
theorem dX5_joined_34 : decode cX5_joined 34 = .ok (.ldc 30, 2) := by decide +kernel
theorem dX5_joined_36 : decode cX5_joined 36 = .ok (.if_icmp .eq 9, 3) := by decide +kernel
theorem dX5_joined_39 : decode cX5_joined 39 = .ok (.iload_n 2, 1) := by decide +kernel
theorem dX5_joined_40 : decode cX5_joined 40 = .ok (.ldc 30, 2) := by decide +kernel
theorem dX5_joined_42 : decode cX5_joined 42 = .ok (.if_icmp .ne 6, 3) := by decide +kernel
theorem dX5_joined_45 : decode cX5_joined 45 = .ok (.ldc 30, 2) := by decide +kernel
theorem dX5_joined_47 : decode cX5_joined 47 = .ok (.ireturn, 1) := by decide +kernel
theorem dX5_joined_48 : decode cX5_joined 48 = .ok (.iload_n 0, 1) := by decide +kernel
theorem dX5_joined_49 : decode cX5_joined 49 = .ok (.ineg, 1) := by decide +kernel
theorem dX5_joined_50 : decode cX5_joined 50 = .ok (.lookupswitch 157 #[(37, 111), (42, 84), (43, 66), (45, 75), (47, 93), (60, 129), (62, 143)], 66) := by decide +kernel
theorem dX5_joined_116 : decode cX5_joined 116 = .ok (.iload_n 1, 1) := by decide +kernel
theorem dX5_joined_117 : decode cX5_joined 117 = .ok (.i2l, 1) := by decide +kernel
theorem dX5_joined_118 : decode cX5_joined 118 = .ok (.iload_n 2, 1) := by decide +kernel
theorem dX5_joined_119 : decode cX5_joined 119 = .ok (.i2l, 1) := by decide +kernel
theorem dX5_joined_120 : decode cX5_joined 120 = .ok (.ladd, 1) := by decide +kernel
theorem dX5_joined_121 : decode cX5_joined 121 = .ok (.lstore_n 3, 1) := by decide +kernel
theorem dX5_joined_122 : decode cX5_joined 122 = .ok (.goto 96, 3) := by decide +kernel
theorem dX5_joined_125 : decode cX5_joined 125 = .ok (.iload_n 1, 1) := by decide +kernel
theorem dX5_joined_126 : decode cX5_joined 126 = .ok (.i2l, 1) := by decide +kernel
theorem dX5_joined_127 : decode cX5_joined 127 = .ok (.iload_n 2, 1) := by decide +kernel
theorem dX5_joined_128 : decode cX5_joined 128 = .ok (.i2l, 1) := by decide +kernel
theorem dX5_joined_129 : decode cX5_joined 129 = .ok (.lsub, 1) := by decide +kernel
theorem dX5_joined_130 : decode cX5_joined 130 = .ok (.lstore_n 3, 1) := by decide +kernel
theorem dX5_joined_131 : decode cX5_joined 131 = .ok (.goto 87, 3) := by decide +kernel
theorem dX5_joined_134 : decode cX5_joined 134 = .ok (.iload_n 1, 1) := by decide +kernel
theorem dX5_joined_135 : decode cX5_joined 135 = .ok (.i2l, 1) := by decide +kernel
theorem dX5_joined_136 : decode cX5_joined 136 = .ok (.iload_n 2, 1) := by decide +kernel
theorem dX5_joined_137 : decode cX5_joined 137 = .ok (.i2l, 1) := by decide +kernel
theorem dX5_joined_138 : decode cX5_joined 138 = .ok (.lmul, 1) := by decide +kernel
theorem dX5_joined_139 : decode cX5_joined 139 = .ok (.lstore_n 3, 1) := by decide +kernel
theorem dX5_joined_140 : decode cX5_joined 140 = .ok (.goto 78, 3) := by decide +kernel
theorem dX5_joined_143 : decode cX5_joined 143 = .ok (.iload_n 2, 1) := by decide +kernel
theorem dX5_joined_144 : decode cX5_joined 144 = .ok (.ifCond .ne 9, 3) := by decide +kernel
theorem dX5_joined_147 : decode cX5_joined 147 = .ok (.ldc2_w 35, 3) := by decide +kernel
theorem dX5_joined_150 : decode cX5_joined 150 = .ok (.goto 7, 3) := by decide +kernel
theorem dX5_joined_153 : decode cX5_joined 153 = .ok (.iload_n 1, 1) := by decide +kernel
theorem dX5_joined_154 : decode cX5_joined 154 = .ok (.iload_n 2, 1) := by decide +kernel
theorem dX5_joined_155 : decode cX5_joined 155 = .ok (.idiv, 1) := by decide +kernel
theorem dX5_joined_156 : decode cX5_joined 156 = .ok (.i2l, 1) := by decide +kernel
theorem dX5_joined_157 : decode cX5_joined 157 = .ok (.lstore_n 3, 1) := by decide +kernel
theorem dX5_joined_158 : decode cX5_joined 158 = .ok (.goto 60, 3) := by decide +kernel
theorem dX5_joined_161 : decode cX5_joined 161 = .ok (.iload_n 2, 1) := by decide +kernel
theorem dX5_joined_162 : decode cX5_joined 162 = .ok (.ifCond .ne 9, 3) := by decide +kernel
theorem dX5_joined_165 : decode cX5_joined 165 = .ok (.ldc2_w 35, 3) := by decide +kernel
theorem dX5_joined_168 : decode cX5_joined 168 = .ok (.goto 7, 3) := by decide +kernel
theorem dX5_joined_171 : decode cX5_joined 171 = .ok (.iload_n 1, 1) := by decide +kernel
theorem dX5_joined_172 : decode cX5_joined 172 = .ok (.iload_n 2, 1) := by decide +kernel
theorem dX5_joined_173 : decode cX5_joined 173 = .ok (.irem, 1) := by decide +kernel
theorem dX5_joined_174 : decode cX5_joined 174 = .ok (.i2l, 1) := by decide +kernel
theorem dX5_joined_175 : decode cX5_joined 175 = .ok (.lstore_n 3, 1) := by decide +kernel
theorem dX5_joined_176 : decode cX5_joined 176 = .ok (.goto 42, 3) := by decide +kernel
theorem dX5_joined_179 : decode cX5_joined 179 = .ok (.iload_n 1, 1) := by decide +kernel
theorem dX5_joined_180 : decode cX5_joined 180 = .ok (.iload_n 2, 1) := by decide +kernel
theorem dX5_joined_181 : decode cX5_joined 181 = .ok (.if_icmp .ge 7, 3) := by decide +kernel
theorem dX5_joined_184 : decode cX5_joined 184 = .ok (.lconst 1, 1) := by decide +kernel
theorem dX5_joined_185 : decode cX5_joined 185 = .ok (.goto 4, 3) := by decide +kernel
theorem dX5_joined_188 : decode cX5_joined 188 = .ok (.lconst 0, 1) := by decide +kernel
theorem dX5_joined_189 : decode cX5_joined 189 = .ok (.lstore_n 3, 1) := by decide +kernel
theorem dX5_joined_190 : decode cX5_joined 190 = .ok (.goto 28, 3) := by decide +kernel
theorem dX5_joined_193 : decode cX5_joined 193 = .ok (.iload_n 1, 1) := by decide +kernel
theorem dX5_joined_194 : decode cX5_joined 194 = .ok (.iload_n 2, 1) := by decide +kernel
theorem dX5_joined_195 : decode cX5_joined 195 = .ok (.if_icmp .le 7, 3) := by decide +kernel
theorem dX5_joined_198 : decode cX5_joined 198 = .ok (.lconst 1, 1) := by decide +kernel
theorem dX5_joined_199 : decode cX5_joined 199 = .ok (.goto 4, 3) := by decide +kernel
theorem dX5_joined_202 : decode cX5_joined 202 = .ok (.lconst 0, 1) := by decide +kernel
theorem dX5_joined_203 : decode cX5_joined 203 = .ok (.lstore_n 3, 1) := by decide +kernel
theorem dX5_joined_204 : decode cX5_joined 204 = .ok (.goto 14, 3) := by decide +kernel
theorem dX5_joined_207 : decode cX5_joined 207 = .ok (.iload_n 1, 1) := by decide +kernel
theorem dX5_joined_208 : decode cX5_joined 208 = .ok (.iload_n 2, 1) := by decide +kernel
theorem dX5_joined_209 : decode cX5_joined 209 = .ok (.if_icmp .ne 7, 3) := by decide +kernel
theorem dX5_joined_212 : decode cX5_joined 212 = .ok (.lconst 1, 1) := by decide +kernel
theorem dX5_joined_213 : decode cX5_joined 213 = .ok (.goto 4, 3) := by decide +kernel
theorem dX5_joined_216 : decode cX5_joined 216 = .ok (.lconst 0, 1) := by decide +kernel
theorem dX5_joined_217 : decode cX5_joined 217 = .ok (.lstore_n 3, 1) := by decide +kernel
theorem dX5_joined_218 : decode cX5_joined 218 = .ok (.lload_n 3, 1) := by decide +kernel
theorem dX5_joined_219 : decode cX5_joined 219 = .ok (.ldc2_w 37, 3) := by decide +kernel
theorem dX5_joined_222 : decode cX5_joined 222 = .ok (.lcmp, 1) := by decide +kernel
theorem dX5_joined_223 : decode cX5_joined 223 = .ok (.ifCond .gt 11, 3) := by decide +kernel
theorem dX5_joined_226 : decode cX5_joined 226 = .ok (.lload_n 3, 1) := by decide +kernel
theorem dX5_joined_227 : decode cX5_joined 227 = .ok (.ldc2_w 39, 3) := by decide +kernel
theorem dX5_joined_230 : decode cX5_joined 230 = .ok (.lcmp, 1) := by decide +kernel
theorem dX5_joined_231 : decode cX5_joined 231 = .ok (.ifCond .ge 8, 3) := by decide +kernel
theorem dX5_joined_234 : decode cX5_joined 234 = .ok (.ldc 30, 2) := by decide +kernel
theorem dX5_joined_236 : decode cX5_joined 236 = .ok (.goto 5, 3) := by decide +kernel
