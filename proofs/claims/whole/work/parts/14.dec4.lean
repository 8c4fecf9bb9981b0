theorem dX10_binds_58 : decode cX10_binds 58 = .ok (.goto 4, 3) := by decide +kernel
theorem dX10_binds_61 : decode cX10_binds 61 = .ok (.iconst 5, 1) := by decide +kernel
theorem dX10_binds_62 : decode cX10_binds 62 = .ok (.ireturn, 1) := by decide +kernel
theorem dX10_settle_0 : decode cX10_settle 0 = .ok (.aload_n 0, 1) := by decide +kernel
theorem dX10_settle_1 : decode cX10_settle 1 = .ok (.getfield 264, 3) := by decide +kernel
theorem dX10_settle_4 : decode cX10_settle 4 = .ok (.ifCond .le 97, 3) := by decide +kernel
theorem dX10_settle_7 : decode cX10_settle 7 = .ok (.aload_n 0, 1) := by decide +kernel
theorem dX10_settle_8 : decode cX10_settle 8 = .ok (.getfield 51, 3) := by decide +kernel
theorem dX10_settle_11 : decode cX10_settle 11 = .ok (.aload_n 0, 1) := by decide +kernel
theorem dX10_settle_12 : decode cX10_settle 12 = .ok (.getfield 264, 3) := by decide +kernel
theorem dX10_settle_15 : decode cX10_settle 15 = .ok (.iconst 1, 1) := by decide +kernel
theorem dX10_settle_16 : decode cX10_settle 16 = .ok (.isub, 1) := by decide +kernel
theorem dX10_settle_17 : decode cX10_settle 17 = .ok (.iaload, 1) := by decide +kernel
theorem dX10_settle_18 : decode cX10_settle 18 = .ok (.invokestatic 267, 3) := by decide +kernel
theorem dX10_settle_21 : decode cX10_settle 21 = .ok (.iload_n 1, 1) := by decide +kernel
theorem dX10_settle_22 : decode cX10_settle 22 = .ok (.if_icmp .lt 79, 3) := by decide +kernel
theorem dX10_settle_25 : decode cX10_settle 25 = .ok (.aload_n 0, 1) := by decide +kernel
theorem dX10_settle_26 : decode cX10_settle 26 = .ok (.dup, 1) := by decide +kernel
theorem dX10_settle_27 : decode cX10_settle 27 = .ok (.getfield 264, 3) := by decide +kernel
theorem dX10_settle_30 : decode cX10_settle 30 = .ok (.iconst 1, 1) := by decide +kernel
theorem dX10_settle_31 : decode cX10_settle 31 = .ok (.isub, 1) := by decide +kernel
theorem dX10_settle_32 : decode cX10_settle 32 = .ok (.putfield 264, 3) := by decide +kernel
theorem dX10_settle_35 : decode cX10_settle 35 = .ok (.aload_n 0, 1) := by decide +kernel
theorem dX10_settle_36 : decode cX10_settle 36 = .ok (.getfield 51, 3) := by decide +kernel
theorem dX10_settle_39 : decode cX10_settle 39 = .ok (.aload_n 0, 1) := by decide +kernel
theorem dX10_settle_40 : decode cX10_settle 40 = .ok (.getfield 264, 3) := by decide +kernel
theorem dX10_settle_43 : decode cX10_settle 43 = .ok (.iaload, 1) := by decide +kernel
theorem dX10_settle_44 : decode cX10_settle 44 = .ok (.bipush 29, 2) := by decide +kernel
theorem dX10_settle_46 : decode cX10_settle 46 = .ok (.if_icmp .eq 17, 3) := by decide +kernel
theorem dX10_settle_49 : decode cX10_settle 49 = .ok (.aload_n 0, 1) := by decide +kernel
theorem dX10_settle_50 : decode cX10_settle 50 = .ok (.getfield 51, 3) := by decide +kernel
theorem dX10_settle_53 : decode cX10_settle 53 = .ok (.aload_n 0, 1) := by decide +kernel
theorem dX10_settle_54 : decode cX10_settle 54 = .ok (.getfield 264, 3) := by decide +kernel
theorem dX10_settle_57 : decode cX10_settle 57 = .ok (.iaload, 1) := by decide +kernel
theorem dX10_settle_58 : decode cX10_settle 58 = .ok (.bipush 30, 2) := by decide +kernel
theorem dX10_settle_60 : decode cX10_settle 60 = .ok (.if_icmp .ne 24, 3) := by decide +kernel
theorem dX10_settle_63 : decode cX10_settle 63 = .ok (.aload_n 0, 1) := by decide +kernel
theorem dX10_settle_64 : decode cX10_settle 64 = .ok (.getfield 48, 3) := by decide +kernel
theorem dX10_settle_67 : decode cX10_settle 67 = .ok (.aload_n 0, 1) := by decide +kernel
theorem dX10_settle_68 : decode cX10_settle 68 = .ok (.getfield 54, 3) := by decide +kernel
theorem dX10_settle_71 : decode cX10_settle 71 = .ok (.aload_n 0, 1) := by decide +kernel
theorem dX10_settle_72 : decode cX10_settle 72 = .ok (.getfield 264, 3) := by decide +kernel
theorem dX10_settle_75 : decode cX10_settle 75 = .ok (.iaload, 1) := by decide +kernel
theorem dX10_settle_76 : decode cX10_settle 76 = .ok (.aload_n 0, 1) := by decide +kernel
theorem dX10_settle_77 : decode cX10_settle 77 = .ok (.getfield 261, 3) := by decide +kernel
theorem dX10_settle_80 : decode cX10_settle 80 = .ok (.iastore, 1) := by decide +kernel
theorem dX10_settle_81 : decode cX10_settle 81 = .ok (.goto (-81), 3) := by decide +kernel
theorem dX10_settle_84 : decode cX10_settle 84 = .ok (.aload_n 0, 1) := by decide +kernel
theorem dX10_settle_85 : decode cX10_settle 85 = .ok (.aload_n 0, 1) := by decide +kernel
theorem dX10_settle_86 : decode cX10_settle 86 = .ok (.getfield 51, 3) := by decide +kernel
theorem dX10_settle_89 : decode cX10_settle 89 = .ok (.aload_n 0, 1) := by decide +kernel
theorem dX10_settle_90 : decode cX10_settle 90 = .ok (.getfield 264, 3) := by decide +kernel
theorem dX10_settle_93 : decode cX10_settle 93 = .ok (.iaload, 1) := by decide +kernel
theorem dX10_settle_94 : decode cX10_settle 94 = .ok (.iconst 0, 1) := by decide +kernel
theorem dX10_settle_95 : decode cX10_settle 95 = .ok (.invokevirtual 270, 3) := by decide +kernel
theorem dX10_settle_98 : decode cX10_settle 98 = .ok (.goto (-98), 3) := by decide +kernel
theorem dX10_settle_101 : decode cX10_settle 101 = .ok (.return_, 1) := by decide +kernel
theorem dX10_inner_0 : decode cX10_inner 0 = .ok (.iconst (-1), 1) := by decide +kernel
theorem dX10_inner_1 : decode cX10_inner 1 = .ok (.istore_n 1, 1) := by decide +kernel
theorem dX10_inner_2 : decode cX10_inner 2 = .ok (.iconst 0, 1) := by decide +kernel
theorem dX10_inner_3 : decode cX10_inner 3 = .ok (.istore_n 2, 1) := by decide +kernel
theorem dX10_inner_4 : decode cX10_inner 4 = .ok (.iload_n 2, 1) := by decide +kernel
theorem dX10_inner_5 : decode cX10_inner 5 = .ok (.aload_n 0, 1) := by decide +kernel
theorem dX10_inner_6 : decode cX10_inner 6 = .ok (.getfield 264, 3) := by decide +kernel
theorem dX10_inner_9 : decode cX10_inner 9 = .ok (.if_icmp .ge 31, 3) := by decide +kernel
theorem dX10_inner_12 : decode cX10_inner 12 = .ok (.aload_n 0, 1) := by decide +kernel
theorem dX10_inner_13 : decode cX10_inner 13 = .ok (.getfield 51, 3) := by decide +kernel
theorem dX10_inner_16 : decode cX10_inner 16 = .ok (.iload_n 2, 1) := by decide +kernel
theorem dX10_inner_17 : decode cX10_inner 17 = .ok (.iaload, 1) := by decide +kernel
theorem dX10_inner_18 : decode cX10_inner 18 = .ok (.bipush 31, 2) := by decide +kernel
theorem dX10_inner_20 : decode cX10_inner 20 = .ok (.if_icmp .lt 12, 3) := by decide +kernel
theorem dX10_inner_23 : decode cX10_inner 23 = .ok (.aload_n 0, 1) := by decide +kernel
theorem dX10_inner_24 : decode cX10_inner 24 = .ok (.getfield 51, 3) := by decide +kernel
theorem dX10_inner_27 : decode cX10_inner 27 = .ok (.iload_n 2, 1) := by decide +kernel
theorem dX10_inner_28 : decode cX10_inner 28 = .ok (.iaload, 1) := by decide +kernel
theorem dX10_inner_29 : decode cX10_inner 29 = .ok (.goto 4, 3) := by decide +kernel
theorem dX10_inner_32 : decode cX10_inner 32 = .ok (.iload_n 1, 1) := by decide +kernel
theorem dX10_inner_33 : decode cX10_inner 33 = .ok (.istore_n 1, 1) := by decide +kernel
theorem dX10_inner_34 : decode cX10_inner 34 = .ok (.iinc 2 1, 3) := by decide +kernel
theorem dX10_inner_37 : decode cX10_inner 37 = .ok (.goto (-33), 3) := by decide +kernel
theorem dX10_inner_40 : decode cX10_inner 40 = .ok (.iload_n 1, 1) := by decide +kernel
theorem dX10_inner_41 : decode cX10_inner 41 = .ok (.ireturn, 1) := by decide +kernel
theorem dX10_isCompared_0 : decode cX10_isCompared 0 = .ok (.aload_n 0, 1) := by decide +kernel
theorem dX10_isCompared_1 : decode cX10_isCompared 1 = .ok (.getfield 264, 3) := by decide +kernel
theorem dX10_isCompared_4 : decode cX10_isCompared 4 = .ok (.iconst 1, 1) := by decide +kernel
theorem dX10_isCompared_5 : decode cX10_isCompared 5 = .ok (.isub, 1) := by decide +kernel
theorem dX10_isCompared_6 : decode cX10_isCompared 6 = .ok (.istore_n 1, 1) := by decide +kernel
theorem dX10_isCompared_7 : decode cX10_isCompared 7 = .ok (.iload_n 1, 1) := by decide +kernel
theorem dX10_isCompared_8 : decode cX10_isCompared 8 = .ok (.ifCond .lt 28, 3) := by decide +kernel
theorem dX10_isCompared_11 : decode cX10_isCompared 11 = .ok (.aload_n 0, 1) := by decide +kernel
theorem dX10_isCompared_12 : decode cX10_isCompared 12 = .ok (.getfield 51, 3) := by decide +kernel
theorem dX10_isCompared_15 : decode cX10_isCompared 15 = .ok (.iload_n 1, 1) := by decide +kernel
theorem dX10_isCompared_16 : decode cX10_isCompared 16 = .ok (.iaload, 1) := by decide +kernel
theorem dX10_isCompared_17 : decode cX10_isCompared 17 = .ok (.i2l, 1) := by decide +kernel
theorem dX10_isCompared_18 : decode cX10_isCompared 18 = .ok (.ldc2_w 204, 3) := by decide +kernel
theorem dX10_isCompared_21 : decode cX10_isCompared 21 = .ok (.ldc2_w 274, 3) := by decide +kernel
theorem dX10_isCompared_24 : decode cX10_isCompared 24 = .ok (.invokestatic 177, 3) := by decide +kernel
theorem dX10_isCompared_27 : decode cX10_isCompared 27 = .ok (.ifCond .eq 9, 3) := by decide +kernel
theorem dX10_isCompared_30 : decode cX10_isCompared 30 = .ok (.iinc 1 (-1), 3) := by decide +kernel
theorem dX10_isCompared_33 : decode cX10_isCompared 33 = .ok (.goto (-26), 3) := by decide +kernel
theorem dX10_isCompared_36 : decode cX10_isCompared 36 = .ok (.iload_n 1, 1) := by decide +kernel
theorem dX10_isCompared_37 : decode cX10_isCompared 37 = .ok (.ifCond .lt 26, 3) := by decide +kernel
theorem dX10_isCompared_40 : decode cX10_isCompared 40 = .ok (.aload_n 0, 1) := by decide +kernel
theorem dX10_isCompared_41 : decode cX10_isCompared 41 = .ok (.getfield 51, 3) := by decide +kernel
theorem dX10_isCompared_44 : decode cX10_isCompared 44 = .ok (.iload_n 1, 1) := by decide +kernel
theorem dX10_isCompared_45 : decode cX10_isCompared 45 = .ok (.iaload, 1) := by decide +kernel
theorem dX10_isCompared_46 : decode cX10_isCompared 46 = .ok (.i2l, 1) := by decide +kernel
theorem dX10_isCompared_47 : decode cX10_isCompared 47 = .ok (.ldc2_w 276, 3) := by decide +kernel
theorem dX10_isCompared_50 : decode cX10_isCompared 50 = .ok (.ldc2_w 278, 3) := by decide +kernel
theorem dX10_isCompared_53 : decode cX10_isCompared 53 = .ok (.invokestatic 177, 3) := by decide +kernel
theorem dX10_isCompared_56 : decode cX10_isCompared 56 = .ok (.ifCond .eq 7, 3) := by decide +kernel
theorem dX10_isCompared_59 : decode cX10_isCompared 59 = .ok (.iconst 1, 1) := by decide +kernel
theorem dX10_isCompared_60 : decode cX10_isCompared 60 = .ok (.goto 4, 3) := by decide +kernel
theorem dX10_isCompared_63 : decode cX10_isCompared 63 = .ok (.iconst 0, 1) := by decide +kernel
theorem dX10_isCompared_64 : decode cX10_isCompared 64 = .ok (.ireturn, 1) := by decide +kernel
theorem dX10_partAt_0 : decode cX10_partAt 0 = .ok (.iconst (-1), 1) := by decide +kernel
theorem dX10_partAt_1 : decode cX10_partAt 1 = .ok (.istore_n 1, 1) := by decide +kernel
theorem dX10_partAt_2 : decode cX10_partAt 2 = .ok (.iconst 0, 1) := by decide +kernel
theorem dX10_partAt_3 : decode cX10_partAt 3 = .ok (.istore_n 2, 1) := by decide +kernel
theorem dX10_partAt_4 : decode cX10_partAt 4 = .ok (.iload_n 2, 1) := by decide +kernel
theorem dX10_partAt_5 : decode cX10_partAt 5 = .ok (.bipush 9, 2) := by decide +kernel
theorem dX10_partAt_7 : decode cX10_partAt 7 = .ok (.if_icmp .ge 30, 3) := by decide +kernel
theorem dX10_partAt_10 : decode cX10_partAt 10 = .ok (.aload_n 0, 1) := by decide +kernel
theorem dX10_partAt_11 : decode cX10_partAt 11 = .ok (.aload_n 0, 1) := by decide +kernel
theorem dX10_partAt_12 : decode cX10_partAt 12 = .ok (.getfield 75, 3) := by decide +kernel
theorem dX10_partAt_15 : decode cX10_partAt 15 = .ok (.iload_n 2, 1) := by decide +kernel
theorem dX10_partAt_16 : decode cX10_partAt 16 = .ok (.laload, 1) := by decide +kernel
theorem dX10_partAt_17 : decode cX10_partAt 17 = .ok (.invokevirtual 280, 3) := by decide +kernel
theorem dX10_partAt_20 : decode cX10_partAt 20 = .ok (.ifCond .eq 9, 3) := by decide +kernel
theorem dX10_partAt_23 : decode cX10_partAt 23 = .ok (.iload_n 2, 1) := by decide +kernel
theorem dX10_partAt_24 : decode cX10_partAt 24 = .ok (.iconst 1, 1) := by decide +kernel
theorem dX10_partAt_25 : decode cX10_partAt 25 = .ok (.iadd, 1) := by decide +kernel
theorem dX10_partAt_26 : decode cX10_partAt 26 = .ok (.goto 4, 3) := by decide +kernel
theorem dX10_partAt_29 : decode cX10_partAt 29 = .ok (.iload_n 1, 1) := by decide +kernel
theorem dX10_partAt_30 : decode cX10_partAt 30 = .ok (.istore_n 1, 1) := by decide +kernel
theorem dX10_partAt_31 : decode cX10_partAt 31 = .ok (.iinc 2 1, 3) := by decide +kernel
theorem dX10_partAt_34 : decode cX10_partAt 34 = .ok (.goto (-30), 3) := by decide +kernel
theorem dX10_partAt_37 : decode cX10_partAt 37 = .ok (.iload_n 1, 1) := by decide +kernel
theorem dX10_partAt_38 : decode cX10_partAt 38 = .ok (.ireturn, 1) := by decide +kernel
theorem dX10_orderPartAt_0 : decode cX10_orderPartAt 0 = .ok (.iconst (-1), 1) := by decide +kernel
theorem dX10_orderPartAt_1 : decode cX10_orderPartAt 1 = .ok (.istore_n 1, 1) := by decide +kernel
theorem dX10_orderPartAt_2 : decode cX10_orderPartAt 2 = .ok (.iconst 0, 1) := by decide +kernel
theorem dX10_orderPartAt_3 : decode cX10_orderPartAt 3 = .ok (.istore_n 2, 1) := by decide +kernel
theorem dX10_orderPartAt_4 : decode cX10_orderPartAt 4 = .ok (.iload_n 2, 1) := by decide +kernel
theorem dX10_orderPartAt_5 : decode cX10_orderPartAt 5 = .ok (.bipush 7, 2) := by decide +kernel
theorem dX10_orderPartAt_7 : decode cX10_orderPartAt 7 = .ok (.if_icmp .ge 30, 3) := by decide +kernel
theorem dX10_orderPartAt_10 : decode cX10_orderPartAt 10 = .ok (.aload_n 0, 1) := by decide +kernel
theorem dX10_orderPartAt_11 : decode cX10_orderPartAt 11 = .ok (.aload_n 0, 1) := by decide +kernel
theorem dX10_orderPartAt_12 : decode cX10_orderPartAt 12 = .ok (.getfield 87, 3) := by decide +kernel
theorem dX10_orderPartAt_15 : decode cX10_orderPartAt 15 = .ok (.iload_n 2, 1) := by decide +kernel
theorem dX10_orderPartAt_16 : decode cX10_orderPartAt 16 = .ok (.laload, 1) := by decide +kernel
theorem dX10_orderPartAt_17 : decode cX10_orderPartAt 17 = .ok (.invokevirtual 280, 3) := by decide +kernel
theorem dX10_orderPartAt_20 : decode cX10_orderPartAt 20 = .ok (.ifCond .eq 9, 3) := by decide +kernel
theorem dX10_orderPartAt_23 : decode cX10_orderPartAt 23 = .ok (.iload_n 2, 1) := by decide +kernel
theorem dX10_orderPartAt_24 : decode cX10_orderPartAt 24 = .ok (.iconst 1, 1) := by decide +kernel
theorem dX10_orderPartAt_25 : decode cX10_orderPartAt 25 = .ok (.iadd, 1) := by decide +kernel
theorem dX10_orderPartAt_26 : decode cX10_orderPartAt 26 = .ok (.goto 4, 3) := by decide +kernel
theorem dX10_orderPartAt_29 : decode cX10_orderPartAt 29 = .ok (.iload_n 1, 1) := by decide +kernel
theorem dX10_orderPartAt_30 : decode cX10_orderPartAt 30 = .ok (.istore_n 1, 1) := by decide +kernel
theorem dX10_orderPartAt_31 : decode cX10_orderPartAt 31 = .ok (.iinc 2 1, 3) := by decide +kernel
theorem dX10_orderPartAt_34 : decode cX10_orderPartAt 34 = .ok (.goto (-30), 3) := by decide +kernel
theorem dX10_orderPartAt_37 : decode cX10_orderPartAt 37 = .ok (.iload_n 1, 1) := by decide +kernel
theorem dX10_orderPartAt_38 : decode cX10_orderPartAt 38 = .ok (.ireturn, 1) := by decide +kernel
theorem dX10_openBracket_0 : decode cX10_openBracket 0 = .ok (.aload_n 0, 1) := by decide +kernel
theorem dX10_openBracket_1 : decode cX10_openBracket 1 = .ok (.aload_n 0, 1) := by decide +kernel
theorem dX10_openBracket_2 : decode cX10_openBracket 2 = .ok (.getfield 284, 3) := by decide +kernel
theorem dX10_openBracket_5 : decode cX10_openBracket 5 = .ok (.bipush 8, 2) := by decide +kernel
theorem dX10_openBracket_7 : decode cX10_openBracket 7 = .ok (.if_icmp .ge 7, 3) := by decide +kernel
theorem dX10_openBracket_10 : decode cX10_openBracket 10 = .ok (.iconst 1, 1) := by decide +kernel
theorem dX10_openBracket_11 : decode cX10_openBracket 11 = .ok (.goto 4, 3) := by decide +kernel
theorem dX10_openBracket_14 : decode cX10_openBracket 14 = .ok (.iconst 0, 1) := by decide +kernel
theorem dX10_openBracket_15 : decode cX10_openBracket 15 = .ok (.invokevirtual 257, 3) := by decide +kernel
theorem dX10_openBracket_18 : decode cX10_openBracket 18 = .ok (.aload_n 0, 1) := by decide +kernel
theorem dX10_openBracket_19 : decode cX10_openBracket 19 = .ok (.getfield 224, 3) := by decide +kernel
theorem dX10_openBracket_22 : decode cX10_openBracket 22 = .ok (.ifCond .ne 19, 3) := by decide +kernel
theorem dX10_openBracket_25 : decode cX10_openBracket 25 = .ok (.aload_n 0, 1) := by decide +kernel
theorem dX10_openBracket_26 : decode cX10_openBracket 26 = .ok (.dup, 1) := by decide +kernel
theorem dX10_openBracket_27 : decode cX10_openBracket 27 = .ok (.getfield 284, 3) := by decide +kernel
theorem dX10_openBracket_30 : decode cX10_openBracket 30 = .ok (.iconst 1, 1) := by decide +kernel
theorem dX10_openBracket_31 : decode cX10_openBracket 31 = .ok (.iadd, 1) := by decide +kernel
theorem dX10_openBracket_32 : decode cX10_openBracket 32 = .ok (.putfield 284, 3) := by decide +kernel
theorem dX10_openBracket_35 : decode cX10_openBracket 35 = .ok (.aload_n 0, 1) := by decide +kernel
theorem dX10_openBracket_36 : decode cX10_openBracket 36 = .ok (.iload_n 1, 1) := by decide +kernel
theorem dX10_openBracket_37 : decode cX10_openBracket 37 = .ok (.iconst 0, 1) := by decide +kernel
theorem dX10_openBracket_38 : decode cX10_openBracket 38 = .ok (.invokevirtual 287, 3) := by decide +kernel
theorem dX10_openBracket_41 : decode cX10_openBracket 41 = .ok (.return_, 1) := by decide +kernel
theorem dX10_leaf_0 : decode cX10_leaf 0 = .ok (.aload_n 0, 1) := by decide +kernel
theorem dX10_leaf_1 : decode cX10_leaf 1 = .ok (.iload_n 1, 1) := by decide +kernel
theorem dX10_leaf_2 : decode cX10_leaf 2 = .ok (.ifCond .eq 16, 3) := by decide +kernel
theorem dX10_leaf_5 : decode cX10_leaf 5 = .ok (.aload_n 0, 1) := by decide +kernel
theorem dX10_leaf_6 : decode cX10_leaf 6 = .ok (.getfield 290, 3) := by decide +kernel
theorem dX10_leaf_9 : decode cX10_leaf 9 = .ok (.bipush 50, 2) := by decide +kernel
theorem dX10_leaf_11 : decode cX10_leaf 11 = .ok (.if_icmp .ge 7, 3) := by decide +kernel
theorem dX10_leaf_14 : decode cX10_leaf 14 = .ok (.iconst 1, 1) := by decide +kernel
theorem dX10_leaf_15 : decode cX10_leaf 15 = .ok (.goto 4, 3) := by decide +kernel
theorem dX10_leaf_18 : decode cX10_leaf 18 = .ok (.iconst 0, 1) := by decide +kernel
theorem dX10_leaf_19 : decode cX10_leaf 19 = .ok (.invokevirtual 257, 3) := by decide +kernel
theorem dX10_leaf_22 : decode cX10_leaf 22 = .ok (.aload_n 0, 1) := by decide +kernel
theorem dX10_leaf_23 : decode cX10_leaf 23 = .ok (.getfield 224, 3) := by decide +kernel
theorem dX10_leaf_26 : decode cX10_leaf 26 = .ok (.ifCond .ne 19, 3) := by decide +kernel
theorem dX10_leaf_29 : decode cX10_leaf 29 = .ok (.aload_n 0, 1) := by decide +kernel
theorem dX10_leaf_30 : decode cX10_leaf 30 = .ok (.iload_n 2, 1) := by decide +kernel
theorem dX10_leaf_31 : decode cX10_leaf 31 = .ok (.iload_n 3, 1) := by decide +kernel
theorem dX10_leaf_32 : decode cX10_leaf 32 = .ok (.invokevirtual 270, 3) := by decide +kernel
theorem dX10_leaf_35 : decode cX10_leaf 35 = .ok (.aload_n 0, 1) := by decide +kernel
theorem dX10_leaf_36 : decode cX10_leaf 36 = .ok (.dup, 1) := by decide +kernel
theorem dX10_leaf_37 : decode cX10_leaf 37 = .ok (.getfield 290, 3) := by decide +kernel
theorem dX10_leaf_40 : decode cX10_leaf 40 = .ok (.iconst 1, 1) := by decide +kernel
theorem dX10_leaf_41 : decode cX10_leaf 41 = .ok (.iadd, 1) := by decide +kernel
theorem dX10_leaf_42 : decode cX10_leaf 42 = .ok (.putfield 290, 3) := by decide +kernel
theorem dX10_leaf_45 : decode cX10_leaf 45 = .ok (.return_, 1) := by decide +kernel
theorem dX10_readPart_0 : decode cX10_readPart 0 = .ok (.aload_n 0, 1) := by decide +kernel
theorem dX10_readPart_1 : decode cX10_readPart 1 = .ok (.bipush 91, 2) := by decide +kernel
theorem dX10_readPart_3 : decode cX10_readPart 3 = .ok (.invokevirtual 293, 3) := by decide +kernel
theorem dX10_readPart_6 : decode cX10_readPart 6 = .ok (.ifCond .eq 11, 3) := by decide +kernel
theorem dX10_readPart_9 : decode cX10_readPart 9 = .ok (.aload_n 0, 1) := by decide +kernel
theorem dX10_readPart_10 : decode cX10_readPart 10 = .ok (.bipush 32, 2) := by decide +kernel
theorem dX10_readPart_12 : decode cX10_readPart 12 = .ok (.invokevirtual 296, 3) := by decide +kernel
theorem dX10_readPart_15 : decode cX10_readPart 15 = .ok (.iconst 1, 1) := by decide +kernel
theorem dX10_readPart_16 : decode cX10_readPart 16 = .ok (.ireturn, 1) := by decide +kernel
theorem dX10_readPart_17 : decode cX10_readPart 17 = .ok (.aload_n 0, 1) := by decide +kernel
theorem dX10_readPart_18 : decode cX10_readPart 18 = .ok (.getfield 299, 3) := by decide +kernel
theorem dX10_readPart_21 : decode cX10_readPart 21 = .ok (.ifCond .eq 10, 3) := by decide +kernel
theorem dX10_readPart_24 : decode cX10_readPart 24 = .ok (.aload_n 0, 1) := by decide +kernel
theorem dX10_readPart_25 : decode cX10_readPart 25 = .ok (.invokevirtual 302, 3) := by decide +kernel
theorem dX10_readPart_28 : decode cX10_readPart 28 = .ok (.goto 7, 3) := by decide +kernel
theorem dX10_readPart_31 : decode cX10_readPart 31 = .ok (.aload_n 0, 1) := by decide +kernel
theorem dX10_readPart_32 : decode cX10_readPart 32 = .ok (.invokevirtual 306, 3) := by decide +kernel
theorem dX10_readPart_35 : decode cX10_readPart 35 = .ok (.istore_n 1, 1) := by decide +kernel
theorem dX10_readPart_36 : decode cX10_readPart 36 = .ok (.aload_n 0, 1) := by decide +kernel
theorem dX10_readPart_37 : decode cX10_readPart 37 = .ok (.getfield 244, 3) := by decide +kernel
theorem dX10_readPart_40 : decode cX10_readPart 40 = .ok (.iconst 2, 1) := by decide +kernel
theorem dX10_readPart_41 : decode cX10_readPart 41 = .ok (.if_icmp .ne 18, 3) := by decide +kernel
theorem dX10_readPart_44 : decode cX10_readPart 44 = .ok (.aload_n 0, 1) := by decide +kernel
theorem dX10_readPart_45 : decode cX10_readPart 45 = .ok (.getfield 234, 3) := by decide +kernel
theorem dX10_readPart_48 : decode cX10_readPart 48 = .ok (.ldc2_w 309, 3) := by decide +kernel
theorem dX10_readPart_51 : decode cX10_readPart 51 = .ok (.lcmp, 1) := by decide +kernel
theorem dX10_readPart_52 : decode cX10_readPart 52 = .ok (.ifCond .gt 7, 3) := by decide +kernel
theorem dX10_readPart_55 : decode cX10_readPart 55 = .ok (.iconst 1, 1) := by decide +kernel
theorem dX10_readPart_56 : decode cX10_readPart 56 = .ok (.goto 4, 3) := by decide +kernel
theorem dX10_readPart_59 : decode cX10_readPart 59 = .ok (.iconst 0, 1) := by decide +kernel
theorem dX10_readPart_60 : decode cX10_readPart 60 = .ok (.istore_n 2, 1) := by decide +kernel
theorem dX10_readPart_61 : decode cX10_readPart 61 = .ok (.aload_n 0, 1) := by decide +kernel
theorem dX10_readPart_62 : decode cX10_readPart 62 = .ok (.iload_n 1, 1) := by decide +kernel
theorem dX10_readPart_63 : decode cX10_readPart 63 = .ok (.iconst (-1), 1) := by decide +kernel
theorem dX10_readPart_64 : decode cX10_readPart 64 = .ok (.if_icmp .ne 7, 3) := by decide +kernel
theorem dX10_readPart_67 : decode cX10_readPart 67 = .ok (.iload_n 2, 1) := by decide +kernel
theorem dX10_readPart_68 : decode cX10_readPart 68 = .ok (.ifCond .eq 7, 3) := by decide +kernel
theorem dX10_readPart_71 : decode cX10_readPart 71 = .ok (.iconst 1, 1) := by decide +kernel
theorem dX10_readPart_72 : decode cX10_readPart 72 = .ok (.goto 4, 3) := by decide +kernel
theorem dX10_readPart_75 : decode cX10_readPart 75 = .ok (.iconst 0, 1) := by decide +kernel
theorem dX10_readPart_76 : decode cX10_readPart 76 = .ok (.iload_n 1, 1) := by decide +kernel
theorem dX10_readPart_77 : decode cX10_readPart 77 = .ok (.iconst (-1), 1) := by decide +kernel
theorem dX10_readPart_78 : decode cX10_readPart 78 = .ok (.if_icmp .ne 7, 3) := by decide +kernel
theorem dX10_readPart_81 : decode cX10_readPart 81 = .ok (.iconst 0, 1) := by decide +kernel
theorem dX10_readPart_82 : decode cX10_readPart 82 = .ok (.goto 4, 3) := by decide +kernel
theorem dX10_readPart_85 : decode cX10_readPart 85 = .ok (.iload_n 1, 1) := by decide +kernel
theorem dX10_readPart_86 : decode cX10_readPart 86 = .ok (.iload_n 2, 1) := by decide +kernel
theorem dX10_readPart_87 : decode cX10_readPart 87 = .ok (.ifCond .eq 11, 3) := by decide +kernel
theorem dX10_readPart_90 : decode cX10_readPart 90 = .ok (.aload_n 0, 1) := by decide +kernel
theorem dX10_readPart_91 : decode cX10_readPart 91 = .ok (.getfield 234, 3) := by decide +kernel
theorem dX10_readPart_94 : decode cX10_readPart 94 = .ok (.l2i, 1) := by decide +kernel
theorem dX10_readPart_95 : decode cX10_readPart 95 = .ok (.goto 4, 3) := by decide +kernel
theorem dX10_readPart_98 : decode cX10_readPart 98 = .ok (.iconst 0, 1) := by decide +kernel
theorem dX10_readPart_99 : decode cX10_readPart 99 = .ok (.invokevirtual 311, 3) := by decide +kernel
theorem dX10_readPart_102 : decode cX10_readPart 102 = .ok (.aload_n 0, 1) := by decide +kernel
theorem dX10_readPart_103 : decode cX10_readPart 103 = .ok (.getfield 299, 3) := by decide +kernel
theorem dX10_readPart_106 : decode cX10_readPart 106 = .ok (.ifCond .eq 48, 3) := by decide +kernel
theorem dX10_readPart_109 : decode cX10_readPart 109 = .ok (.iload_n 1, 1) := by decide +kernel
theorem dX10_readPart_110 : decode cX10_readPart 110 = .ok (.iconst 5, 1) := by decide +kernel
theorem dX10_readPart_111 : decode cX10_readPart 111 = .ok (.if_icmp .lt 43, 3) := by decide +kernel
theorem dX10_readPart_114 : decode cX10_readPart 114 = .ok (.aload_n 0, 1) := by decide +kernel
theorem dX10_readPart_115 : decode cX10_readPart 115 = .ok (.getfield 224, 3) := by decide +kernel
theorem dX10_readPart_118 : decode cX10_readPart 118 = .ok (.ifCond .ne 36, 3) := by decide +kernel
theorem dX10_readPart_121 : decode cX10_readPart 121 = .ok (.aload_n 0, 1) := by decide +kernel
theorem dX10_readPart_122 : decode cX10_readPart 122 = .ok (.getfield 261, 3) := by decide +kernel
theorem dX10_readPart_125 : decode cX10_readPart 125 = .ok (.iconst 1, 1) := by decide +kernel
theorem dX10_readPart_126 : decode cX10_readPart 126 = .ok (.isub, 1) := by decide +kernel
theorem dX10_readPart_127 : decode cX10_readPart 127 = .ok (.istore_n 3, 1) := by decide +kernel
theorem dX10_readPart_128 : decode cX10_readPart 128 = .ok (.aload_n 0, 1) := by decide +kernel
theorem dX10_readPart_129 : decode cX10_readPart 129 = .ok (.getfield 48, 3) := by decide +kernel
theorem dX10_readPart_132 : decode cX10_readPart 132 = .ok (.iload_n 3, 1) := by decide +kernel
theorem dX10_readPart_133 : decode cX10_readPart 133 = .ok (.aload_n 0, 1) := by decide +kernel
theorem dX10_readPart_134 : decode cX10_readPart 134 = .ok (.lconst 0, 1) := by decide +kernel
theorem dX10_readPart_135 : decode cX10_readPart 135 = .ok (.iload_n 1, 1) := by decide +kernel
theorem dX10_readPart_136 : decode cX10_readPart 136 = .ok (.bipush 7, 2) := by decide +kernel
theorem dX10_readPart_138 : decode cX10_readPart 138 = .ok (.if_icmp .ne 9, 3) := by decide +kernel
theorem dX10_readPart_141 : decode cX10_readPart 141 = .ok (.ldc2_w 315, 3) := by decide +kernel
theorem dX10_readPart_144 : decode cX10_readPart 144 = .ok (.goto 6, 3) := by decide +kernel
theorem dX10_readPart_147 : decode cX10_readPart 147 = .ok (.ldc2_w 317, 3) := by decide +kernel
theorem dX10_readPart_150 : decode cX10_readPart 150 = .ok (.invokevirtual 319, 3) := by decide +kernel
theorem dX10_readPart_153 : decode cX10_readPart 153 = .ok (.iastore, 1) := by decide +kernel
theorem dX10_readPart_154 : decode cX10_readPart 154 = .ok (.iconst 3, 1) := by decide +kernel
theorem dX10_readPart_155 : decode cX10_readPart 155 = .ok (.ireturn, 1) := by decide +kernel
theorem dX10_readPlain_0 : decode cX10_readPlain 0 = .ok (.aload_n 0, 1) := by decide +kernel
theorem dX10_readPlain_1 : decode cX10_readPlain 1 = .ok (.ldc2_w 323, 3) := by decide +kernel
theorem dX10_readPlain_4 : decode cX10_readPlain 4 = .ok (.invokevirtual 280, 3) := by decide +kernel
theorem dX10_readPlain_7 : decode cX10_readPlain 7 = .ok (.ifCond .eq 16, 3) := by decide +kernel
theorem dX10_readPlain_10 : decode cX10_readPlain 10 = .ok (.aload_n 0, 1) := by decide +kernel
theorem dX10_readPlain_11 : decode cX10_readPlain 11 = .ok (.bipush 28, 2) := by decide +kernel
theorem dX10_readPlain_13 : decode cX10_readPlain 13 = .ok (.iconst 0, 1) := by decide +kernel
theorem dX10_readPlain_14 : decode cX10_readPlain 14 = .ok (.invokevirtual 287, 3) := by decide +kernel
theorem dX10_readPlain_17 : decode cX10_readPlain 17 = .ok (.aload_n 0, 1) := by decide +kernel
theorem dX10_readPlain_18 : decode cX10_readPlain 18 = .ok (.invokevirtual 228, 3) := by decide +kernel
theorem dX10_readPlain_21 : decode cX10_readPlain 21 = .ok (.iconst 0, 1) := by decide +kernel
theorem dX10_readPlain_22 : decode cX10_readPlain 22 = .ok (.ireturn, 1) := by decide +kernel
theorem dX10_readPlain_23 : decode cX10_readPlain 23 = .ok (.aload_n 0, 1) := by decide +kernel
theorem dX10_readPlain_24 : decode cX10_readPlain 24 = .ok (.bipush 40, 2) := by decide +kernel
theorem dX10_readPlain_26 : decode cX10_readPlain 26 = .ok (.invokevirtual 293, 3) := by decide +kernel
theorem dX10_readPlain_29 : decode cX10_readPlain 29 = .ok (.ifCond .eq 11, 3) := by decide +kernel
theorem dX10_readPlain_32 : decode cX10_readPlain 32 = .ok (.aload_n 0, 1) := by decide +kernel
theorem dX10_readPlain_33 : decode cX10_readPlain 33 = .ok (.bipush 31, 2) := by decide +kernel
theorem dX10_readPlain_35 : decode cX10_readPlain 35 = .ok (.invokevirtual 296, 3) := by decide +kernel
theorem dX10_readPlain_38 : decode cX10_readPlain 38 = .ok (.iconst 0, 1) := by decide +kernel
theorem dX10_readPlain_39 : decode cX10_readPlain 39 = .ok (.ireturn, 1) := by decide +kernel
theorem dX10_readPlain_40 : decode cX10_readPlain 40 = .ok (.aload_n 0, 1) := by decide +kernel
theorem dX10_readPlain_41 : decode cX10_readPlain 41 = .ok (.invokevirtual 325, 3) := by decide +kernel
theorem dX10_readPlain_44 : decode cX10_readPlain 44 = .ok (.ireturn, 1) := by decide +kernel
theorem dX10_behindSum_0 : decode cX10_behindSum 0 = .ok (.aload_n 0, 1) := by decide +kernel
theorem dX10_behindSum_1 : decode cX10_behindSum 1 = .ok (.bipush 43, 2) := by decide +kernel
theorem dX10_behindSum_3 : decode cX10_behindSum 3 = .ok (.invokevirtual 293, 3) := by decide +kernel
theorem dX10_behindSum_6 : decode cX10_behindSum 6 = .ok (.ifCond .eq 8, 3) := by decide +kernel
theorem dX10_behindSum_9 : decode cX10_behindSum 9 = .ok (.bipush 20, 2) := by decide +kernel
theorem dX10_behindSum_11 : decode cX10_behindSum 11 = .ok (.goto 60, 3) := by decide +kernel
theorem dX10_behindSum_14 : decode cX10_behindSum 14 = .ok (.aload_n 0, 1) := by decide +kernel
theorem dX10_behindSum_15 : decode cX10_behindSum 15 = .ok (.bipush 45, 2) := by decide +kernel
theorem dX10_behindSum_17 : decode cX10_behindSum 17 = .ok (.invokevirtual 293, 3) := by decide +kernel
theorem dX10_behindSum_20 : decode cX10_behindSum 20 = .ok (.ifCond .eq 8, 3) := by decide +kernel
theorem dX10_behindSum_23 : decode cX10_behindSum 23 = .ok (.bipush 21, 2) := by decide +kernel
theorem dX10_behindSum_25 : decode cX10_behindSum 25 = .ok (.goto 46, 3) := by decide +kernel
theorem dX10_behindSum_28 : decode cX10_behindSum 28 = .ok (.aload_n 0, 1) := by decide +kernel
theorem dX10_behindSum_29 : decode cX10_behindSum 29 = .ok (.bipush 42, 2) := by decide +kernel
theorem dX10_behindSum_31 : decode cX10_behindSum 31 = .ok (.invokevirtual 293, 3) := by decide +kernel
theorem dX10_behindSum_34 : decode cX10_behindSum 34 = .ok (.ifCond .eq 8, 3) := by decide +kernel
theorem dX10_behindSum_37 : decode cX10_behindSum 37 = .ok (.bipush 22, 2) := by decide +kernel
theorem dX10_behindSum_39 : decode cX10_behindSum 39 = .ok (.goto 32, 3) := by decide +kernel
theorem dX10_behindSum_42 : decode cX10_behindSum 42 = .ok (.aload_n 0, 1) := by decide +kernel
theorem dX10_behindSum_43 : decode cX10_behindSum 43 = .ok (.bipush 47, 2) := by decide +kernel
theorem dX10_behindSum_45 : decode cX10_behindSum 45 = .ok (.invokevirtual 293, 3) := by decide +kernel
theorem dX10_behindSum_48 : decode cX10_behindSum 48 = .ok (.ifCond .eq 8, 3) := by decide +kernel
theorem dX10_behindSum_51 : decode cX10_behindSum 51 = .ok (.bipush 23, 2) := by decide +kernel
theorem dX10_behindSum_53 : decode cX10_behindSum 53 = .ok (.goto 18, 3) := by decide +kernel
theorem dX10_behindSum_56 : decode cX10_behindSum 56 = .ok (.aload_n 0, 1) := by decide +kernel
theorem dX10_behindSum_57 : decode cX10_behindSum 57 = .ok (.bipush 37, 2) := by decide +kernel
theorem dX10_behindSum_59 : decode cX10_behindSum 59 = .ok (.invokevirtual 293, 3) := by decide +kernel
theorem dX10_behindSum_62 : decode cX10_behindSum 62 = .ok (.ifCond .eq 8, 3) := by decide +kernel
theorem dX10_behindSum_65 : decode cX10_behindSum 65 = .ok (.bipush 24, 2) := by decide +kernel
theorem dX10_behindSum_67 : decode cX10_behindSum 67 = .ok (.goto 4, 3) := by decide +kernel
theorem dX10_behindSum_70 : decode cX10_behindSum 70 = .ok (.iconst (-1), 1) := by decide +kernel
theorem dX10_behindSum_71 : decode cX10_behindSum 71 = .ok (.istore_n 2, 1) := by decide +kernel
theorem dX10_behindSum_72 : decode cX10_behindSum 72 = .ok (.iload_n 2, 1) := by decide +kernel
theorem dX10_behindSum_73 : decode cX10_behindSum 73 = .ok (.iconst (-1), 1) := by decide +kernel
theorem dX10_behindSum_74 : decode cX10_behindSum 74 = .ok (.if_icmp .eq 23, 3) := by decide +kernel
theorem dX10_behindSum_77 : decode cX10_behindSum 77 = .ok (.aload_n 0, 1) := by decide +kernel
theorem dX10_behindSum_78 : decode cX10_behindSum 78 = .ok (.iload_n 2, 1) := by decide +kernel
theorem dX10_behindSum_79 : decode cX10_behindSum 79 = .ok (.invokestatic 267, 3) := by decide +kernel
theorem dX10_behindSum_82 : decode cX10_behindSum 82 = .ok (.invokevirtual 328, 3) := by decide +kernel
theorem dX10_behindSum_85 : decode cX10_behindSum 85 = .ok (.aload_n 0, 1) := by decide +kernel
theorem dX10_behindSum_86 : decode cX10_behindSum 86 = .ok (.iload_n 2, 1) := by decide +kernel
theorem dX10_behindSum_87 : decode cX10_behindSum 87 = .ok (.iconst 0, 1) := by decide +kernel
theorem dX10_behindSum_88 : decode cX10_behindSum 88 = .ok (.invokevirtual 287, 3) := by decide +kernel
theorem dX10_behindSum_91 : decode cX10_behindSum 91 = .ok (.aload_n 0, 1) := by decide +kernel
theorem dX10_behindSum_92 : decode cX10_behindSum 92 = .ok (.invokevirtual 228, 3) := by decide +kernel
theorem dX10_behindSum_95 : decode cX10_behindSum 95 = .ok (.iconst 1, 1) := by decide +kernel
theorem dX10_behindSum_96 : decode cX10_behindSum 96 = .ok (.ireturn, 1) := by decide +kernel
theorem dX10_behindSum_97 : decode cX10_behindSum 97 = .ok (.aload_n 0, 1) := by decide +kernel
theorem dX10_behindSum_98 : decode cX10_behindSum 98 = .ok (.invokevirtual 331, 3) := by decide +kernel
theorem dX10_behindSum_101 : decode cX10_behindSum 101 = .ok (.istore_n 3, 1) := by decide +kernel
theorem dX10_behindSum_102 : decode cX10_behindSum 102 = .ok (.iload_n 3, 1) := by decide +kernel
theorem dX10_behindSum_103 : decode cX10_behindSum 103 = .ok (.bipush 32, 2) := by decide +kernel
theorem dX10_behindSum_105 : decode cX10_behindSum 105 = .ok (.if_icmp .ne 47, 3) := by decide +kernel
theorem dX10_behindSum_108 : decode cX10_behindSum 108 = .ok (.aload_n 0, 1) := by decide +kernel
theorem dX10_behindSum_109 : decode cX10_behindSum 109 = .ok (.aload_n 0, 1) := by decide +kernel
theorem dX10_behindSum_110 : decode cX10_behindSum 110 = .ok (.bipush 93, 2) := by decide +kernel
theorem dX10_behindSum_112 : decode cX10_behindSum 112 = .ok (.invokevirtual 293, 3) := by decide +kernel
theorem dX10_behindSum_115 : decode cX10_behindSum 115 = .ok (.invokevirtual 257, 3) := by decide +kernel
theorem dX10_behindSum_118 : decode cX10_behindSum 118 = .ok (.aload_n 0, 1) := by decide +kernel
theorem dX10_behindSum_119 : decode cX10_behindSum 119 = .ok (.getfield 224, 3) := by decide +kernel
theorem dX10_behindSum_122 : decode cX10_behindSum 122 = .ok (.ifCond .ne 28, 3) := by decide +kernel
theorem dX10_behindSum_125 : decode cX10_behindSum 125 = .ok (.aload_n 0, 1) := by decide +kernel
theorem dX10_behindSum_126 : decode cX10_behindSum 126 = .ok (.iconst 5, 1) := by decide +kernel
theorem dX10_behindSum_127 : decode cX10_behindSum 127 = .ok (.invokevirtual 328, 3) := by decide +kernel
theorem dX10_behindSum_130 : decode cX10_behindSum 130 = .ok (.aload_n 0, 1) := by decide +kernel
theorem dX10_behindSum_131 : decode cX10_behindSum 131 = .ok (.dup, 1) := by decide +kernel
theorem dX10_behindSum_132 : decode cX10_behindSum 132 = .ok (.getfield 264, 3) := by decide +kernel
theorem dX10_behindSum_135 : decode cX10_behindSum 135 = .ok (.iconst 1, 1) := by decide +kernel
theorem dX10_behindSum_136 : decode cX10_behindSum 136 = .ok (.isub, 1) := by decide +kernel
theorem dX10_behindSum_137 : decode cX10_behindSum 137 = .ok (.putfield 264, 3) := by decide +kernel
theorem dX10_behindSum_140 : decode cX10_behindSum 140 = .ok (.aload_n 0, 1) := by decide +kernel
theorem dX10_behindSum_141 : decode cX10_behindSum 141 = .ok (.dup, 1) := by decide +kernel
theorem dX10_behindSum_142 : decode cX10_behindSum 142 = .ok (.getfield 284, 3) := by decide +kernel
theorem dX10_behindSum_145 : decode cX10_behindSum 145 = .ok (.iconst 1, 1) := by decide +kernel
theorem dX10_behindSum_146 : decode cX10_behindSum 146 = .ok (.isub, 1) := by decide +kernel
theorem dX10_behindSum_147 : decode cX10_behindSum 147 = .ok (.putfield 284, 3) := by decide +kernel
theorem dX10_behindSum_150 : decode cX10_behindSum 150 = .ok (.iconst 3, 1) := by decide +kernel
theorem dX10_behindSum_151 : decode cX10_behindSum 151 = .ok (.ireturn, 1) := by decide +kernel
theorem dX10_behindSum_152 : decode cX10_behindSum 152 = .ok (.iload_n 3, 1) := by decide +kernel
theorem dX10_behindSum_153 : decode cX10_behindSum 153 = .ok (.iconst (-1), 1) := by decide +kernel
theorem dX10_behindSum_154 : decode cX10_behindSum 154 = .ok (.if_icmp .ne 9, 3) := by decide +kernel
theorem dX10_behindSum_157 : decode cX10_behindSum 157 = .ok (.iload_n 1, 1) := by decide +kernel
theorem dX10_behindSum_158 : decode cX10_behindSum 158 = .ok (.ifCond .ne 5, 3) := by decide +kernel
theorem dX10_behindSum_161 : decode cX10_behindSum 161 = .ok (.iconst 4, 1) := by decide +kernel
theorem dX10_behindSum_162 : decode cX10_behindSum 162 = .ok (.ireturn, 1) := by decide +kernel
theorem dX10_behindSum_163 : decode cX10_behindSum 163 = .ok (.aload_n 0, 1) := by decide +kernel
theorem dX10_behindSum_164 : decode cX10_behindSum 164 = .ok (.invokevirtual 334, 3) := by decide +kernel
theorem dX10_behindSum_167 : decode cX10_behindSum 167 = .ok (.ifCond .eq 5, 3) := by decide +kernel
theorem dX10_behindSum_170 : decode cX10_behindSum 170 = .ok (.iconst 2, 1) := by decide +kernel
theorem dX10_behindSum_171 : decode cX10_behindSum 171 = .ok (.ireturn, 1) := by decide +kernel
theorem dX10_behindSum_172 : decode cX10_behindSum 172 = .ok (.aload_n 0, 1) := by decide +kernel
theorem dX10_behindSum_173 : decode cX10_behindSum 173 = .ok (.bipush 60, 2) := by decide +kernel
theorem dX10_behindSum_175 : decode cX10_behindSum 175 = .ok (.invokevirtual 293, 3) := by decide +kernel
theorem dX10_behindSum_178 : decode cX10_behindSum 178 = .ok (.ifCond .eq 8, 3) := by decide +kernel
theorem dX10_behindSum_181 : decode cX10_behindSum 181 = .ok (.bipush 25, 2) := by decide +kernel
theorem dX10_behindSum_183 : decode cX10_behindSum 183 = .ok (.goto 19, 3) := by decide +kernel
theorem dX10_behindSum_186 : decode cX10_behindSum 186 = .ok (.aload_n 0, 1) := by decide +kernel
theorem dX10_behindSum_187 : decode cX10_behindSum 187 = .ok (.bipush 62, 2) := by decide +kernel
theorem dX10_behindSum_189 : decode cX10_behindSum 189 = .ok (.invokevirtual 293, 3) := by decide +kernel
theorem dX10_behindSum_192 : decode cX10_behindSum 192 = .ok (.ifCond .eq 8, 3) := by decide +kernel
theorem dX10_behindSum_195 : decode cX10_behindSum 195 = .ok (.bipush 26, 2) := by decide +kernel
theorem dX10_behindSum_197 : decode cX10_behindSum 197 = .ok (.goto 5, 3) := by decide +kernel
theorem dX10_behindSum_200 : decode cX10_behindSum 200 = .ok (.bipush 27, 2) := by decide +kernel
theorem dX10_behindSum_202 : decode cX10_behindSum 202 = .ok (.istore_n 2, 1) := by decide +kernel
theorem dX10_behindSum_203 : decode cX10_behindSum 203 = .ok (.aload_n 0, 1) := by decide +kernel
theorem dX10_behindSum_204 : decode cX10_behindSum 204 = .ok (.iload_n 2, 1) := by decide +kernel
theorem dX10_behindSum_205 : decode cX10_behindSum 205 = .ok (.bipush 27, 2) := by decide +kernel
theorem dX10_behindSum_207 : decode cX10_behindSum 207 = .ok (.if_icmp .ne 12, 3) := by decide +kernel
theorem dX10_behindSum_210 : decode cX10_behindSum 210 = .ok (.aload_n 0, 1) := by decide +kernel
theorem dX10_behindSum_211 : decode cX10_behindSum 211 = .ok (.bipush 61, 2) := by decide +kernel
theorem dX10_behindSum_213 : decode cX10_behindSum 213 = .ok (.invokevirtual 293, 3) := by decide +kernel
theorem dX10_behindSum_216 : decode cX10_behindSum 216 = .ok (.ifCond .eq 7, 3) := by decide +kernel
theorem dX10_behindSum_219 : decode cX10_behindSum 219 = .ok (.iconst 1, 1) := by decide +kernel
theorem dX10_behindSum_220 : decode cX10_behindSum 220 = .ok (.goto 4, 3) := by decide +kernel
theorem dX10_behindSum_223 : decode cX10_behindSum 223 = .ok (.iconst 0, 1) := by decide +kernel
theorem dX10_behindSum_224 : decode cX10_behindSum 224 = .ok (.invokevirtual 257, 3) := by decide +kernel
theorem dX10_behindSum_227 : decode cX10_behindSum 227 = .ok (.aload_n 0, 1) := by decide +kernel
theorem dX10_behindSum_228 : decode cX10_behindSum 228 = .ok (.getfield 224, 3) := by decide +kernel
theorem dX10_behindSum_231 : decode cX10_behindSum 231 = .ok (.ifCond .ne 14, 3) := by decide +kernel
theorem dX10_behindSum_234 : decode cX10_behindSum 234 = .ok (.aload_n 0, 1) := by decide +kernel
theorem dX10_behindSum_235 : decode cX10_behindSum 235 = .ok (.iconst 5, 1) := by decide +kernel
theorem dX10_behindSum_236 : decode cX10_behindSum 236 = .ok (.invokevirtual 328, 3) := by decide +kernel
theorem dX10_behindSum_239 : decode cX10_behindSum 239 = .ok (.aload_n 0, 1) := by decide +kernel
theorem dX10_behindSum_240 : decode cX10_behindSum 240 = .ok (.iload_n 2, 1) := by decide +kernel
theorem dX10_behindSum_241 : decode cX10_behindSum 241 = .ok (.iconst 0, 1) := by decide +kernel
theorem dX10_behindSum_242 : decode cX10_behindSum 242 = .ok (.invokevirtual 287, 3) := by decide +kernel
theorem dX10_behindSum_245 : decode cX10_behindSum 245 = .ok (.iconst 1, 1) := by decide +kernel
theorem dX10_behindSum_246 : decode cX10_behindSum 246 = .ok (.ireturn, 1) := by decide +kernel
theorem dX10_behindTest_0 : decode cX10_behindTest 0 = .ok (.aload_n 0, 1) := by decide +kernel
theorem dX10_behindTest_1 : decode cX10_behindTest 1 = .ok (.ldc2_w 338, 3) := by decide +kernel
theorem dX10_behindTest_4 : decode cX10_behindTest 4 = .ok (.invokevirtual 280, 3) := by decide +kernel
theorem dX10_behindTest_7 : decode cX10_behindTest 7 = .ok (.istore_n 1, 1) := by decide +kernel
theorem dX10_behindTest_8 : decode cX10_behindTest 8 = .ok (.iload_n 1, 1) := by decide +kernel
theorem dX10_behindTest_9 : decode cX10_behindTest 9 = .ok (.ifCond .ne 13, 3) := by decide +kernel
theorem dX10_behindTest_12 : decode cX10_behindTest 12 = .ok (.aload_n 0, 1) := by decide +kernel
theorem dX10_behindTest_13 : decode cX10_behindTest 13 = .ok (.ldc2_w 340, 3) := by decide +kernel
theorem dX10_behindTest_16 : decode cX10_behindTest 16 = .ok (.invokevirtual 280, 3) := by decide +kernel
theorem dX10_behindTest_19 : decode cX10_behindTest 19 = .ok (.ifCond .eq 57, 3) := by decide +kernel
theorem dX10_behindTest_22 : decode cX10_behindTest 22 = .ok (.aload_n 0, 1) := by decide +kernel
theorem dX10_behindTest_23 : decode cX10_behindTest 23 = .ok (.iload_n 1, 1) := by decide +kernel
theorem dX10_behindTest_24 : decode cX10_behindTest 24 = .ok (.ifCond .eq 7, 3) := by decide +kernel
theorem dX10_behindTest_27 : decode cX10_behindTest 27 = .ok (.iconst 2, 1) := by decide +kernel
theorem dX10_behindTest_28 : decode cX10_behindTest 28 = .ok (.goto 4, 3) := by decide +kernel
theorem dX10_behindTest_31 : decode cX10_behindTest 31 = .ok (.iconst 1, 1) := by decide +kernel
theorem dX10_behindTest_32 : decode cX10_behindTest 32 = .ok (.invokevirtual 328, 3) := by decide +kernel
theorem dX10_behindTest_35 : decode cX10_behindTest 35 = .ok (.aload_n 0, 1) := by decide +kernel
theorem dX10_behindTest_36 : decode cX10_behindTest 36 = .ok (.iload_n 1, 1) := by decide +kernel
theorem dX10_behindTest_37 : decode cX10_behindTest 37 = .ok (.ifCond .eq 8, 3) := by decide +kernel
theorem dX10_behindTest_40 : decode cX10_behindTest 40 = .ok (.bipush 29, 2) := by decide +kernel
theorem dX10_behindTest_42 : decode cX10_behindTest 42 = .ok (.goto 5, 3) := by decide +kernel
theorem dX10_behindTest_45 : decode cX10_behindTest 45 = .ok (.bipush 30, 2) := by decide +kernel
theorem dX10_behindTest_47 : decode cX10_behindTest 47 = .ok (.aload_n 0, 1) := by decide +kernel
theorem dX10_behindTest_48 : decode cX10_behindTest 48 = .ok (.getfield 261, 3) := by decide +kernel
theorem dX10_behindTest_51 : decode cX10_behindTest 51 = .ok (.invokevirtual 287, 3) := by decide +kernel
theorem dX10_behindTest_54 : decode cX10_behindTest 54 = .ok (.aload_n 0, 1) := by decide +kernel
theorem dX10_behindTest_55 : decode cX10_behindTest 55 = .ok (.iload_n 1, 1) := by decide +kernel
theorem dX10_behindTest_56 : decode cX10_behindTest 56 = .ok (.ifCond .eq 8, 3) := by decide +kernel
theorem dX10_behindTest_59 : decode cX10_behindTest 59 = .ok (.bipush 29, 2) := by decide +kernel
theorem dX10_behindTest_61 : decode cX10_behindTest 61 = .ok (.goto 5, 3) := by decide +kernel
theorem dX10_behindTest_64 : decode cX10_behindTest 64 = .ok (.bipush 30, 2) := by decide +kernel
theorem dX10_behindTest_66 : decode cX10_behindTest 66 = .ok (.iconst 0, 1) := by decide +kernel
theorem dX10_behindTest_67 : decode cX10_behindTest 67 = .ok (.invokevirtual 270, 3) := by decide +kernel
theorem dX10_behindTest_70 : decode cX10_behindTest 70 = .ok (.aload_n 0, 1) := by decide +kernel
theorem dX10_behindTest_71 : decode cX10_behindTest 71 = .ok (.invokevirtual 228, 3) := by decide +kernel
theorem dX10_behindTest_74 : decode cX10_behindTest 74 = .ok (.iconst 0, 1) := by decide +kernel
theorem dX10_behindTest_75 : decode cX10_behindTest 75 = .ok (.ireturn, 1) := by decide +kernel
theorem dX10_behindTest_76 : decode cX10_behindTest 76 = .ok (.aload_n 0, 1) := by decide +kernel
theorem dX10_behindTest_77 : decode cX10_behindTest 77 = .ok (.invokevirtual 331, 3) := by decide +kernel
theorem dX10_behindTest_80 : decode cX10_behindTest 80 = .ok (.iconst (-1), 1) := by decide +kernel
theorem dX10_behindTest_81 : decode cX10_behindTest 81 = .ok (.if_icmp .ne 5, 3) := by decide +kernel
theorem dX10_behindTest_84 : decode cX10_behindTest 84 = .ok (.iconst 4, 1) := by decide +kernel
theorem dX10_behindTest_85 : decode cX10_behindTest 85 = .ok (.ireturn, 1) := by decide +kernel
theorem dX10_behindTest_86 : decode cX10_behindTest 86 = .ok (.aload_n 0, 1) := by decide +kernel
theorem dX10_behindTest_87 : decode cX10_behindTest 87 = .ok (.aload_n 0, 1) := by decide +kernel
theorem dX10_behindTest_88 : decode cX10_behindTest 88 = .ok (.bipush 41, 2) := by decide +kernel
theorem dX10_behindTest_90 : decode cX10_behindTest 90 = .ok (.invokevirtual 293, 3) := by decide +kernel
theorem dX10_behindTest_93 : decode cX10_behindTest 93 = .ok (.invokevirtual 257, 3) := by decide +kernel
theorem dX10_behindTest_96 : decode cX10_behindTest 96 = .ok (.aload_n 0, 1) := by decide +kernel
theorem dX10_behindTest_97 : decode cX10_behindTest 97 = .ok (.getfield 224, 3) := by decide +kernel
theorem dX10_behindTest_100 : decode cX10_behindTest 100 = .ok (.ifCond .ne 28, 3) := by decide +kernel
theorem dX10_behindTest_103 : decode cX10_behindTest 103 = .ok (.aload_n 0, 1) := by decide +kernel
theorem dX10_behindTest_104 : decode cX10_behindTest 104 = .ok (.iconst 1, 1) := by decide +kernel
theorem dX10_behindTest_105 : decode cX10_behindTest 105 = .ok (.invokevirtual 328, 3) := by decide +kernel
theorem dX10_behindTest_108 : decode cX10_behindTest 108 = .ok (.aload_n 0, 1) := by decide +kernel
theorem dX10_behindTest_109 : decode cX10_behindTest 109 = .ok (.dup, 1) := by decide +kernel
theorem dX10_behindTest_110 : decode cX10_behindTest 110 = .ok (.getfield 264, 3) := by decide +kernel
theorem dX10_behindTest_113 : decode cX10_behindTest 113 = .ok (.iconst 1, 1) := by decide +kernel
theorem dX10_behindTest_114 : decode cX10_behindTest 114 = .ok (.isub, 1) := by decide +kernel
theorem dX10_behindTest_115 : decode cX10_behindTest 115 = .ok (.putfield 264, 3) := by decide +kernel
theorem dX10_behindTest_118 : decode cX10_behindTest 118 = .ok (.aload_n 0, 1) := by decide +kernel
theorem dX10_behindTest_119 : decode cX10_behindTest 119 = .ok (.dup, 1) := by decide +kernel
theorem dX10_behindTest_120 : decode cX10_behindTest 120 = .ok (.getfield 284, 3) := by decide +kernel
theorem dX10_behindTest_123 : decode cX10_behindTest 123 = .ok (.iconst 1, 1) := by decide +kernel
theorem dX10_behindTest_124 : decode cX10_behindTest 124 = .ok (.isub, 1) := by decide +kernel
theorem dX10_behindTest_125 : decode cX10_behindTest 125 = .ok (.putfield 284, 3) := by decide +kernel
theorem dX10_behindTest_128 : decode cX10_behindTest 128 = .ok (.iconst 2, 1) := by decide +kernel
theorem dX10_behindTest_129 : decode cX10_behindTest 129 = .ok (.ireturn, 1) := by decide +kernel
theorem dX10_readExpression_0 : decode cX10_readExpression 0 = .ok (.aload_n 0, 1) := by decide +kernel
theorem dX10_readExpression_1 : decode cX10_readExpression 1 = .ok (.iconst 0, 1) := by decide +kernel
theorem dX10_readExpression_2 : decode cX10_readExpression 2 = .ok (.putfield 264, 3) := by decide +kernel
theorem dX10_readExpression_5 : decode cX10_readExpression 5 = .ok (.aload_n 0, 1) := by decide +kernel
theorem dX10_readExpression_6 : decode cX10_readExpression 6 = .ok (.iconst 0, 1) := by decide +kernel
theorem dX10_readExpression_7 : decode cX10_readExpression 7 = .ok (.putfield 284, 3) := by decide +kernel
theorem dX10_readExpression_10 : decode cX10_readExpression 10 = .ok (.iload_n 1, 1) := by decide +kernel
theorem dX10_readExpression_11 : decode cX10_readExpression 11 = .ok (.ifCond .eq 7, 3) := by decide +kernel
theorem dX10_readExpression_14 : decode cX10_readExpression 14 = .ok (.iconst 0, 1) := by decide +kernel
theorem dX10_readExpression_15 : decode cX10_readExpression 15 = .ok (.goto 4, 3) := by decide +kernel
theorem dX10_readExpression_18 : decode cX10_readExpression 18 = .ok (.iconst 1, 1) := by decide +kernel
theorem dX10_readExpression_19 : decode cX10_readExpression 19 = .ok (.istore_n 2, 1) := by decide +kernel
theorem dX10_readExpression_20 : decode cX10_readExpression 20 = .ok (.aload_n 0, 1) := by decide +kernel
theorem dX10_readExpression_21 : decode cX10_readExpression 21 = .ok (.getfield 224, 3) := by decide +kernel
theorem dX10_readExpression_24 : decode cX10_readExpression 24 = .ok (.ifCond .ne 52, 3) := by decide +kernel
theorem dX10_readExpression_27 : decode cX10_readExpression 27 = .ok (.iload_n 2, 1) := by decide +kernel
theorem dX10_readExpression_28 : decode cX10_readExpression 28 = .ok (.iconst 4, 1) := by decide +kernel
theorem dX10_readExpression_29 : decode cX10_readExpression 29 = .ok (.if_icmp .eq 47, 3) := by decide +kernel
theorem dX10_readExpression_32 : decode cX10_readExpression 32 = .ok (.iload_n 2, 1) := by decide +kernel
theorem dX10_readExpression_33 : decode cX10_readExpression 33 = .ok (.ifCond .ne 10, 3) := by decide +kernel
theorem dX10_readExpression_36 : decode cX10_readExpression 36 = .ok (.aload_n 0, 1) := by decide +kernel
theorem dX10_readExpression_37 : decode cX10_readExpression 37 = .ok (.invokevirtual 342, 3) := by decide +kernel
theorem dX10_readExpression_40 : decode cX10_readExpression 40 = .ok (.goto 32, 3) := by decide +kernel
theorem dX10_readExpression_43 : decode cX10_readExpression 43 = .ok (.iload_n 2, 1) := by decide +kernel
theorem dX10_readExpression_44 : decode cX10_readExpression 44 = .ok (.iconst 1, 1) := by decide +kernel
theorem dX10_readExpression_45 : decode cX10_readExpression 45 = .ok (.if_icmp .ne 10, 3) := by decide +kernel
theorem dX10_readExpression_48 : decode cX10_readExpression 48 = .ok (.aload_n 0, 1) := by decide +kernel
theorem dX10_readExpression_49 : decode cX10_readExpression 49 = .ok (.invokevirtual 325, 3) := by decide +kernel
theorem dX10_readExpression_52 : decode cX10_readExpression 52 = .ok (.goto 20, 3) := by decide +kernel
theorem dX10_readExpression_55 : decode cX10_readExpression 55 = .ok (.iload_n 2, 1) := by decide +kernel
theorem dX10_readExpression_56 : decode cX10_readExpression 56 = .ok (.iconst 3, 1) := by decide +kernel
theorem dX10_readExpression_57 : decode cX10_readExpression 57 = .ok (.if_icmp .ne 11, 3) := by decide +kernel
theorem dX10_readExpression_60 : decode cX10_readExpression 60 = .ok (.aload_n 0, 1) := by decide +kernel
theorem dX10_readExpression_61 : decode cX10_readExpression 61 = .ok (.iload_n 1, 1) := by decide +kernel
theorem dX10_readExpression_62 : decode cX10_readExpression 62 = .ok (.invokevirtual 345, 3) := by decide +kernel
theorem dX10_readExpression_65 : decode cX10_readExpression 65 = .ok (.goto 7, 3) := by decide +kernel
theorem dX10_readExpression_68 : decode cX10_readExpression 68 = .ok (.aload_n 0, 1) := by decide +kernel
theorem dX10_readExpression_69 : decode cX10_readExpression 69 = .ok (.invokevirtual 349, 3) := by decide +kernel
theorem dX10_readExpression_72 : decode cX10_readExpression 72 = .ok (.istore_n 2, 1) := by decide +kernel
theorem dX10_readExpression_73 : decode cX10_readExpression 73 = .ok (.goto (-53), 3) := by decide +kernel
theorem dX10_readExpression_76 : decode cX10_readExpression 76 = .ok (.aload_n 0, 1) := by decide +kernel
theorem dX10_readExpression_77 : decode cX10_readExpression 77 = .ok (.iconst 1, 1) := by decide +kernel
theorem dX10_readExpression_78 : decode cX10_readExpression 78 = .ok (.invokevirtual 328, 3) := by decide +kernel
theorem dX10_readExpression_81 : decode cX10_readExpression 81 = .ok (.return_, 1) := by decide +kernel
theorem dX10_beginText_0 : decode cX10_beginText 0 = .ok (.aload_n 0, 1) := by decide +kernel
theorem dX10_beginText_1 : decode cX10_beginText 1 = .ok (.iload_n 1, 1) := by decide +kernel
theorem dX10_beginText_2 : decode cX10_beginText 2 = .ok (.putfield 299, 3) := by decide +kernel
theorem dX10_beginText_5 : decode cX10_beginText 5 = .ok (.aload_n 0, 1) := by decide +kernel
theorem dX10_beginText_6 : decode cX10_beginText 6 = .ok (.invokevirtual 352, 3) := by decide +kernel
theorem dX10_beginText_9 : decode cX10_beginText 9 = .ok (.aload_n 0, 1) := by decide +kernel
theorem dX10_beginText_10 : decode cX10_beginText 10 = .ok (.iconst 0, 1) := by decide +kernel
theorem dX10_beginText_11 : decode cX10_beginText 11 = .ok (.putfield 355, 3) := by decide +kernel
theorem dX10_beginText_14 : decode cX10_beginText 14 = .ok (.aload_n 0, 1) := by decide +kernel
theorem dX10_beginText_15 : decode cX10_beginText 15 = .ok (.iconst 0, 1) := by decide +kernel
theorem dX10_beginText_16 : decode cX10_beginText 16 = .ok (.putfield 261, 3) := by decide +kernel
theorem dX10_beginText_19 : decode cX10_beginText 19 = .ok (.aload_n 0, 1) := by decide +kernel
theorem dX10_beginText_20 : decode cX10_beginText 20 = .ok (.iconst 0, 1) := by decide +kernel
theorem dX10_beginText_21 : decode cX10_beginText 21 = .ok (.putfield 290, 3) := by decide +kernel
theorem dX10_beginText_24 : decode cX10_beginText 24 = .ok (.return_, 1) := by decide +kernel
theorem dX10_endText_0 : decode cX10_endText 0 = .ok (.aload_n 0, 1) := by decide +kernel
theorem dX10_endText_1 : decode cX10_endText 1 = .ok (.getfield 224, 3) := by decide +kernel
theorem dX10_endText_4 : decode cX10_endText 4 = .ok (.ifCond .ne 15, 3) := by decide +kernel
theorem dX10_endText_7 : decode cX10_endText 7 = .ok (.aload_n 0, 1) := by decide +kernel
theorem dX10_endText_8 : decode cX10_endText 8 = .ok (.getfield 244, 3) := by decide +kernel
theorem dX10_endText_11 : decode cX10_endText 11 = .ok (.ifCond .eq 8, 3) := by decide +kernel
theorem dX10_endText_14 : decode cX10_endText 14 = .ok (.aload_n 0, 1) := by decide +kernel
theorem dX10_endText_15 : decode cX10_endText 15 = .ok (.iconst 0, 1) := by decide +kernel
theorem dX10_endText_16 : decode cX10_endText 16 = .ok (.invokevirtual 257, 3) := by decide +kernel
theorem dX10_endText_19 : decode cX10_endText 19 = .ok (.aload_n 0, 1) := by decide +kernel
theorem dX10_endText_20 : decode cX10_endText 20 = .ok (.iconst 0, 1) := by decide +kernel
theorem dX10_endText_21 : decode cX10_endText 21 = .ok (.putfield 299, 3) := by decide +kernel
theorem dX10_endText_24 : decode cX10_endText 24 = .ok (.aload_n 0, 1) := by decide +kernel
theorem dX10_endText_25 : decode cX10_endText 25 = .ok (.iconst 0, 1) := by decide +kernel
theorem dX10_endText_26 : decode cX10_endText 26 = .ok (.putfield 212, 3) := by decide +kernel
theorem dX10_endText_29 : decode cX10_endText 29 = .ok (.return_, 1) := by decide +kernel
theorem dX10_readLaw_0 : decode cX10_readLaw 0 = .ok (.iconst (-1), 1) := by decide +kernel
theorem dX10_readLaw_1 : decode cX10_readLaw 1 = .ok (.istore_n 1, 1) := by decide +kernel
theorem dX10_readLaw_2 : decode cX10_readLaw 2 = .ok (.iconst 0, 1) := by decide +kernel
theorem dX10_readLaw_3 : decode cX10_readLaw 3 = .ok (.istore_n 2, 1) := by decide +kernel
theorem dX10_readLaw_4 : decode cX10_readLaw 4 = .ok (.iload_n 2, 1) := by decide +kernel
theorem dX10_readLaw_5 : decode cX10_readLaw 5 = .ok (.iconst 4, 1) := by decide +kernel
theorem dX10_readLaw_6 : decode cX10_readLaw 6 = .ok (.if_icmp .ge 28, 3) := by decide +kernel
theorem dX10_readLaw_9 : decode cX10_readLaw 9 = .ok (.aload_n 0, 1) := by decide +kernel
theorem dX10_readLaw_10 : decode cX10_readLaw 10 = .ok (.aload_n 0, 1) := by decide +kernel
theorem dX10_readLaw_11 : decode cX10_readLaw 11 = .ok (.getfield 98, 3) := by decide +kernel
theorem dX10_readLaw_14 : decode cX10_readLaw 14 = .ok (.iload_n 2, 1) := by decide +kernel
theorem dX10_readLaw_15 : decode cX10_readLaw 15 = .ok (.laload, 1) := by decide +kernel
theorem dX10_readLaw_16 : decode cX10_readLaw 16 = .ok (.invokevirtual 280, 3) := by decide +kernel
theorem dX10_readLaw_19 : decode cX10_readLaw 19 = .ok (.ifCond .eq 7, 3) := by decide +kernel
theorem dX10_readLaw_22 : decode cX10_readLaw 22 = .ok (.iload_n 2, 1) := by decide +kernel
theorem dX10_readLaw_23 : decode cX10_readLaw 23 = .ok (.goto 4, 3) := by decide +kernel
theorem dX10_readLaw_26 : decode cX10_readLaw 26 = .ok (.iload_n 1, 1) := by decide +kernel
theorem dX10_readLaw_27 : decode cX10_readLaw 27 = .ok (.istore_n 1, 1) := by decide +kernel
theorem dX10_readLaw_28 : decode cX10_readLaw 28 = .ok (.iinc 2 1, 3) := by decide +kernel
theorem dX10_readLaw_31 : decode cX10_readLaw 31 = .ok (.goto (-27), 3) := by decide +kernel
theorem dX10_readLaw_34 : decode cX10_readLaw 34 = .ok (.aload_n 0, 1) := by decide +kernel
theorem dX10_readLaw_35 : decode cX10_readLaw 35 = .ok (.iload_n 1, 1) := by decide +kernel
theorem dX10_readLaw_36 : decode cX10_readLaw 36 = .ok (.iconst (-1), 1) := by decide +kernel
theorem dX10_readLaw_37 : decode cX10_readLaw 37 = .ok (.if_icmp .eq 16, 3) := by decide +kernel
theorem dX10_readLaw_40 : decode cX10_readLaw 40 = .ok (.aload_n 0, 1) := by decide +kernel
theorem dX10_readLaw_41 : decode cX10_readLaw 41 = .ok (.getfield 355, 3) := by decide +kernel
theorem dX10_readLaw_44 : decode cX10_readLaw 44 = .ok (.bipush 12, 2) := by decide +kernel
theorem dX10_readLaw_46 : decode cX10_readLaw 46 = .ok (.if_icmp .ge 7, 3) := by decide +kernel
theorem dX10_readLaw_49 : decode cX10_readLaw 49 = .ok (.iconst 1, 1) := by decide +kernel
theorem dX10_readLaw_50 : decode cX10_readLaw 50 = .ok (.goto 4, 3) := by decide +kernel
theorem dX10_readLaw_53 : decode cX10_readLaw 53 = .ok (.iconst 0, 1) := by decide +kernel
theorem dX10_readLaw_54 : decode cX10_readLaw 54 = .ok (.invokevirtual 257, 3) := by decide +kernel
theorem dX10_readLaw_57 : decode cX10_readLaw 57 = .ok (.aload_n 0, 1) := by decide +kernel
theorem dX10_readLaw_58 : decode cX10_readLaw 58 = .ok (.getfield 224, 3) := by decide +kernel
theorem dX10_readLaw_61 : decode cX10_readLaw 61 = .ok (.ifCond .eq 4, 3) := by decide +kernel
theorem dX10_readLaw_64 : decode cX10_readLaw 64 = .ok (.return_, 1) := by decide +kernel
theorem dX10_readLaw_65 : decode cX10_readLaw 65 = .ok (.bipush 8, 2) := by decide +kernel
theorem dX10_readLaw_67 : decode cX10_readLaw 67 = .ok (.aload_n 0, 1) := by decide +kernel
theorem dX10_readLaw_68 : decode cX10_readLaw 68 = .ok (.getfield 355, 3) := by decide +kernel
theorem dX10_readLaw_71 : decode cX10_readLaw 71 = .ok (.imul, 1) := by decide +kernel
theorem dX10_readLaw_72 : decode cX10_readLaw 72 = .ok (.istore_n 2, 1) := by decide +kernel
theorem dX10_readLaw_73 : decode cX10_readLaw 73 = .ok (.iconst 0, 1) := by decide +kernel
theorem dX10_readLaw_74 : decode cX10_readLaw 74 = .ok (.istore_n 3, 1) := by decide +kernel
theorem dX10_readLaw_75 : decode cX10_readLaw 75 = .ok (.iload_n 3, 1) := by decide +kernel
theorem dX10_readLaw_76 : decode cX10_readLaw 76 = .ok (.bipush 8, 2) := by decide +kernel
theorem dX10_readLaw_78 : decode cX10_readLaw 78 = .ok (.if_icmp .ge 18, 3) := by decide +kernel
theorem dX10_readLaw_81 : decode cX10_readLaw 81 = .ok (.aload_n 0, 1) := by decide +kernel
theorem dX10_readLaw_82 : decode cX10_readLaw 82 = .ok (.getfield 42, 3) := by decide +kernel
theorem dX10_readLaw_85 : decode cX10_readLaw 85 = .ok (.iload_n 2, 1) := by decide +kernel
theorem dX10_readLaw_86 : decode cX10_readLaw 86 = .ok (.iload_n 3, 1) := by decide +kernel
theorem dX10_readLaw_87 : decode cX10_readLaw 87 = .ok (.iadd, 1) := by decide +kernel
theorem dX10_readLaw_88 : decode cX10_readLaw 88 = .ok (.iconst 0, 1) := by decide +kernel
theorem dX10_readLaw_89 : decode cX10_readLaw 89 = .ok (.iastore, 1) := by decide +kernel
theorem dX10_readLaw_90 : decode cX10_readLaw 90 = .ok (.iinc 3 1, 3) := by decide +kernel
theorem dX10_readLaw_93 : decode cX10_readLaw 93 = .ok (.goto (-18), 3) := by decide +kernel
theorem dX10_readLaw_96 : decode cX10_readLaw 96 = .ok (.aload_n 0, 1) := by decide +kernel
theorem dX10_readLaw_97 : decode cX10_readLaw 97 = .ok (.getfield 42, 3) := by decide +kernel
theorem dX10_readLaw_100 : decode cX10_readLaw 100 = .ok (.iload_n 2, 1) := by decide +kernel
theorem dX10_readLaw_101 : decode cX10_readLaw 101 = .ok (.iload_n 1, 1) := by decide +kernel
theorem dX10_readLaw_102 : decode cX10_readLaw 102 = .ok (.iastore, 1) := by decide +kernel
theorem dX10_readLaw_103 : decode cX10_readLaw 103 = .ok (.aload_n 0, 1) := by decide +kernel
theorem dX10_readLaw_104 : decode cX10_readLaw 104 = .ok (.dup, 1) := by decide +kernel
theorem dX10_readLaw_105 : decode cX10_readLaw 105 = .ok (.getfield 355, 3) := by decide +kernel
theorem dX10_readLaw_108 : decode cX10_readLaw 108 = .ok (.iconst 1, 1) := by decide +kernel
theorem dX10_readLaw_109 : decode cX10_readLaw 109 = .ok (.iadd, 1) := by decide +kernel
theorem dX10_readLaw_110 : decode cX10_readLaw 110 = .ok (.putfield 355, 3) := by decide +kernel
theorem dX10_readLaw_113 : decode cX10_readLaw 113 = .ok (.aload_n 0, 1) := by decide +kernel
theorem dX10_readLaw_114 : decode cX10_readLaw 114 = .ok (.getfield 42, 3) := by decide +kernel
theorem dX10_readLaw_117 : decode cX10_readLaw 117 = .ok (.iload_n 2, 1) := by decide +kernel
theorem dX10_readLaw_118 : decode cX10_readLaw 118 = .ok (.iconst 3, 1) := by decide +kernel
theorem dX10_readLaw_119 : decode cX10_readLaw 119 = .ok (.iadd, 1) := by decide +kernel
theorem dX10_readLaw_120 : decode cX10_readLaw 120 = .ok (.aload_n 0, 1) := by decide +kernel
theorem dX10_readLaw_121 : decode cX10_readLaw 121 = .ok (.getfield 261, 3) := by decide +kernel
theorem dX10_readLaw_124 : decode cX10_readLaw 124 = .ok (.iastore, 1) := by decide +kernel
theorem dX10_readLaw_125 : decode cX10_readLaw 125 = .ok (.iload_n 1, 1) := by decide +kernel
theorem dX10_readLaw_126 : decode cX10_readLaw 126 = .ok (.iconst 3, 1) := by decide +kernel
theorem dX10_readLaw_127 : decode cX10_readLaw 127 = .ok (.if_icmp .eq 8, 3) := by decide +kernel
theorem dX10_readLaw_130 : decode cX10_readLaw 130 = .ok (.aload_n 0, 1) := by decide +kernel
theorem dX10_readLaw_131 : decode cX10_readLaw 131 = .ok (.iconst 0, 1) := by decide +kernel
theorem dX10_readLaw_132 : decode cX10_readLaw 132 = .ok (.invokevirtual 358, 3) := by decide +kernel
theorem dX10_readLaw_135 : decode cX10_readLaw 135 = .ok (.aload_n 0, 1) := by decide +kernel
theorem dX10_readLaw_136 : decode cX10_readLaw 136 = .ok (.getfield 42, 3) := by decide +kernel
theorem dX10_readLaw_139 : decode cX10_readLaw 139 = .ok (.iload_n 2, 1) := by decide +kernel
theorem dX10_readLaw_140 : decode cX10_readLaw 140 = .ok (.iconst 4, 1) := by decide +kernel
theorem dX10_readLaw_141 : decode cX10_readLaw 141 = .ok (.iadd, 1) := by decide +kernel
theorem dX10_readLaw_142 : decode cX10_readLaw 142 = .ok (.aload_n 0, 1) := by decide +kernel
theorem dX10_readLaw_143 : decode cX10_readLaw 143 = .ok (.getfield 261, 3) := by decide +kernel
theorem dX10_readLaw_146 : decode cX10_readLaw 146 = .ok (.iastore, 1) := by decide +kernel
theorem dX10_readLaw_147 : decode cX10_readLaw 147 = .ok (.aload_n 0, 1) := by decide +kernel
theorem dX10_readLaw_148 : decode cX10_readLaw 148 = .ok (.getfield 42, 3) := by decide +kernel
theorem dX10_readLaw_151 : decode cX10_readLaw 151 = .ok (.iload_n 2, 1) := by decide +kernel
theorem dX10_readLaw_152 : decode cX10_readLaw 152 = .ok (.iconst 5, 1) := by decide +kernel
theorem dX10_readLaw_153 : decode cX10_readLaw 153 = .ok (.iadd, 1) := by decide +kernel
theorem dX10_readLaw_154 : decode cX10_readLaw 154 = .ok (.aload_n 0, 1) := by decide +kernel
theorem dX10_readLaw_155 : decode cX10_readLaw 155 = .ok (.getfield 261, 3) := by decide +kernel
theorem dX10_readLaw_158 : decode cX10_readLaw 158 = .ok (.iastore, 1) := by decide +kernel
theorem dX10_readLaw_159 : decode cX10_readLaw 159 = .ok (.aload_n 0, 1) := by decide +kernel
theorem dX10_readLaw_160 : decode cX10_readLaw 160 = .ok (.getfield 224, 3) := by decide +kernel
theorem dX10_readLaw_163 : decode cX10_readLaw 163 = .ok (.ifCond .ne 22, 3) := by decide +kernel
theorem dX10_readLaw_166 : decode cX10_readLaw 166 = .ok (.aload_n 0, 1) := by decide +kernel
theorem dX10_readLaw_167 : decode cX10_readLaw 167 = .ok (.ldc2_w 361, 3) := by decide +kernel
theorem dX10_readLaw_170 : decode cX10_readLaw 170 = .ok (.invokevirtual 280, 3) := by decide +kernel
theorem dX10_readLaw_173 : decode cX10_readLaw 173 = .ok (.ifCond .eq 12, 3) := by decide +kernel
theorem dX10_readLaw_176 : decode cX10_readLaw 176 = .ok (.aload_n 0, 1) := by decide +kernel
theorem dX10_readLaw_177 : decode cX10_readLaw 177 = .ok (.invokevirtual 228, 3) := by decide +kernel
theorem dX10_readLaw_180 : decode cX10_readLaw 180 = .ok (.aload_n 0, 1) := by decide +kernel
theorem dX10_readLaw_181 : decode cX10_readLaw 181 = .ok (.iconst 1, 1) := by decide +kernel
theorem dX10_readLaw_182 : decode cX10_readLaw 182 = .ok (.invokevirtual 358, 3) := by decide +kernel
theorem dX10_readLaw_185 : decode cX10_readLaw 185 = .ok (.aload_n 0, 1) := by decide +kernel
theorem dX10_readLaw_186 : decode cX10_readLaw 186 = .ok (.getfield 42, 3) := by decide +kernel
theorem dX10_readLaw_189 : decode cX10_readLaw 189 = .ok (.iload_n 2, 1) := by decide +kernel
theorem dX10_readLaw_190 : decode cX10_readLaw 190 = .ok (.bipush 6, 2) := by decide +kernel
theorem dX10_readLaw_192 : decode cX10_readLaw 192 = .ok (.iadd, 1) := by decide +kernel
theorem dX10_readLaw_193 : decode cX10_readLaw 193 = .ok (.aload_n 0, 1) := by decide +kernel
theorem dX10_readLaw_194 : decode cX10_readLaw 194 = .ok (.getfield 261, 3) := by decide +kernel
theorem dX10_readLaw_197 : decode cX10_readLaw 197 = .ok (.iastore, 1) := by decide +kernel
theorem dX10_readLaw_198 : decode cX10_readLaw 198 = .ok (.return_, 1) := by decide +kernel
theorem dX10_law_0 : decode cX10_law 0 = .ok (.aload_n 0, 1) := by decide +kernel
theorem dX10_law_1 : decode cX10_law 1 = .ok (.iconst 0, 1) := by decide +kernel
theorem dX10_law_2 : decode cX10_law 2 = .ok (.putfield 157, 3) := by decide +kernel
theorem dX10_law_5 : decode cX10_law 5 = .ok (.aload_n 0, 1) := by decide +kernel
theorem dX10_law_6 : decode cX10_law 6 = .ok (.getfield 13, 3) := by decide +kernel
theorem dX10_law_9 : decode cX10_law 9 = .ok (.iconst 2, 1) := by decide +kernel
theorem dX10_law_10 : decode cX10_law 10 = .ok (.iaload, 1) := by decide +kernel
theorem dX10_law_11 : decode cX10_law 11 = .ok (.bipush 6, 2) := by decide +kernel
theorem dX10_law_13 : decode cX10_law 13 = .ok (.if_icmp .ne 15, 3) := by decide +kernel
theorem dX10_law_16 : decode cX10_law 16 = .ok (.aload_n 0, 1) := by decide +kernel
theorem dX10_law_17 : decode cX10_law 17 = .ok (.iconst 0, 1) := by decide +kernel
theorem dX10_law_18 : decode cX10_law 18 = .ok (.putfield 212, 3) := by decide +kernel
theorem dX10_law_21 : decode cX10_law 21 = .ok (.aload_n 0, 1) := by decide +kernel
theorem dX10_law_22 : decode cX10_law 22 = .ok (.bipush (-5), 2) := by decide +kernel
theorem dX10_law_24 : decode cX10_law 24 = .ok (.invokevirtual 166, 3) := by decide +kernel
theorem dX10_law_27 : decode cX10_law 27 = .ok (.ireturn, 1) := by decide +kernel
theorem dX10_law_28 : decode cX10_law 28 = .ok (.aload_n 0, 1) := by decide +kernel
theorem dX10_law_29 : decode cX10_law 29 = .ok (.iconst 0, 1) := by decide +kernel
theorem dX10_law_30 : decode cX10_law 30 = .ok (.invokevirtual 363, 3) := by decide +kernel
theorem dX10_law_33 : decode cX10_law 33 = .ok (.aload_n 0, 1) := by decide +kernel
theorem dX10_law_34 : decode cX10_law 34 = .ok (.invokevirtual 366, 3) := by decide +kernel
theorem dX10_law_37 : decode cX10_law 37 = .ok (.aload_n 0, 1) := by decide +kernel
theorem dX10_law_38 : decode cX10_law 38 = .ok (.getfield 224, 3) := by decide +kernel
theorem dX10_law_41 : decode cX10_law 41 = .ok (.ifCond .ne 23, 3) := by decide +kernel
theorem dX10_law_44 : decode cX10_law 44 = .ok (.aload_n 0, 1) := by decide +kernel
theorem dX10_law_45 : decode cX10_law 45 = .ok (.bipush 59, 2) := by decide +kernel
theorem dX10_law_47 : decode cX10_law 47 = .ok (.invokevirtual 293, 3) := by decide +kernel
theorem dX10_law_50 : decode cX10_law 50 = .ok (.ifCond .eq 14, 3) := by decide +kernel
theorem dX10_law_53 : decode cX10_law 53 = .ok (.aload_n 0, 1) := by decide +kernel
theorem dX10_law_54 : decode cX10_law 54 = .ok (.invokevirtual 228, 3) := by decide +kernel
theorem dX10_law_57 : decode cX10_law 57 = .ok (.aload_n 0, 1) := by decide +kernel
theorem dX10_law_58 : decode cX10_law 58 = .ok (.invokevirtual 366, 3) := by decide +kernel
theorem dX10_law_61 : decode cX10_law 61 = .ok (.goto (-24), 3) := by decide +kernel
theorem dX10_law_64 : decode cX10_law 64 = .ok (.aload_n 0, 1) := by decide +kernel
theorem dX10_law_65 : decode cX10_law 65 = .ok (.invokevirtual 369, 3) := by decide +kernel
theorem dX10_law_68 : decode cX10_law 68 = .ok (.aload_n 0, 1) := by decide +kernel
theorem dX10_law_69 : decode cX10_law 69 = .ok (.getfield 224, 3) := by decide +kernel
theorem dX10_law_72 : decode cX10_law 72 = .ok (.ifCond .eq 10, 3) := by decide +kernel
theorem dX10_law_75 : decode cX10_law 75 = .ok (.aload_n 0, 1) := by decide +kernel
theorem dX10_law_76 : decode cX10_law 76 = .ok (.bipush (-6), 2) := by decide +kernel
theorem dX10_law_78 : decode cX10_law 78 = .ok (.invokevirtual 166, 3) := by decide +kernel
theorem dX10_law_81 : decode cX10_law 81 = .ok (.ireturn, 1) := by decide +kernel
theorem dX10_law_82 : decode cX10_law 82 = .ok (.bipush 105, 2) := by decide +kernel
theorem dX10_law_84 : decode cX10_law 84 = .ok (.sipush 900, 3) := by decide +kernel
theorem dX10_law_87 : decode cX10_law 87 = .ok (.aload_n 0, 1) := by decide +kernel
theorem dX10_law_88 : decode cX10_law 88 = .ok (.getfield 13, 3) := by decide +kernel
theorem dX10_law_91 : decode cX10_law 91 = .ok (.iconst 2, 1) := by decide +kernel
theorem dX10_law_92 : decode cX10_law 92 = .ok (.iaload, 1) := by decide +kernel
theorem dX10_law_93 : decode cX10_law 93 = .ok (.imul, 1) := by decide +kernel
theorem dX10_law_94 : decode cX10_law 94 = .ok (.iadd, 1) := by decide +kernel
theorem dX10_law_95 : decode cX10_law 95 = .ok (.istore_n 1, 1) := by decide +kernel
theorem dX10_law_96 : decode cX10_law 96 = .ok (.aload_n 0, 1) := by decide +kernel
theorem dX10_law_97 : decode cX10_law 97 = .ok (.getfield 13, 3) := by decide +kernel
theorem dX10_law_100 : decode cX10_law 100 = .ok (.iload_n 1, 1) := by decide +kernel
theorem dX10_law_101 : decode cX10_law 101 = .ok (.iconst 1, 1) := by decide +kernel
theorem dX10_law_102 : decode cX10_law 102 = .ok (.iadd, 1) := by decide +kernel
theorem dX10_law_103 : decode cX10_law 103 = .ok (.aload_n 0, 1) := by decide +kernel
theorem dX10_law_104 : decode cX10_law 104 = .ok (.getfield 355, 3) := by decide +kernel
theorem dX10_law_107 : decode cX10_law 107 = .ok (.iastore, 1) := by decide +kernel
theorem dX10_law_108 : decode cX10_law 108 = .ok (.iconst 0, 1) := by decide +kernel
theorem dX10_law_109 : decode cX10_law 109 = .ok (.istore_n 2, 1) := by decide +kernel
theorem dX10_law_110 : decode cX10_law 110 = .ok (.iload_n 2, 1) := by decide +kernel
theorem dX10_law_111 : decode cX10_law 111 = .ok (.bipush 8, 2) := by decide +kernel
theorem dX10_law_113 : decode cX10_law 113 = .ok (.aload_n 0, 1) := by decide +kernel
theorem dX10_law_114 : decode cX10_law 114 = .ok (.getfield 355, 3) := by decide +kernel
theorem dX10_law_117 : decode cX10_law 117 = .ok (.imul, 1) := by decide +kernel
theorem dX10_law_118 : decode cX10_law 118 = .ok (.if_icmp .ge 25, 3) := by decide +kernel
theorem dX10_law_121 : decode cX10_law 121 = .ok (.aload_n 0, 1) := by decide +kernel
theorem dX10_law_122 : decode cX10_law 122 = .ok (.getfield 13, 3) := by decide +kernel
theorem dX10_law_125 : decode cX10_law 125 = .ok (.iload_n 1, 1) := by decide +kernel
theorem dX10_law_126 : decode cX10_law 126 = .ok (.iconst 2, 1) := by decide +kernel
theorem dX10_law_127 : decode cX10_law 127 = .ok (.iadd, 1) := by decide +kernel
theorem dX10_law_128 : decode cX10_law 128 = .ok (.iload_n 2, 1) := by decide +kernel
theorem dX10_law_129 : decode cX10_law 129 = .ok (.iadd, 1) := by decide +kernel
theorem dX10_law_130 : decode cX10_law 130 = .ok (.aload_n 0, 1) := by decide +kernel
theorem dX10_law_131 : decode cX10_law 131 = .ok (.getfield 42, 3) := by decide +kernel
theorem dX10_law_134 : decode cX10_law 134 = .ok (.iload_n 2, 1) := by decide +kernel
theorem dX10_law_135 : decode cX10_law 135 = .ok (.iaload, 1) := by decide +kernel
theorem dX10_law_136 : decode cX10_law 136 = .ok (.iastore, 1) := by decide +kernel
theorem dX10_law_137 : decode cX10_law 137 = .ok (.iinc 2 1, 3) := by decide +kernel
theorem dX10_law_140 : decode cX10_law 140 = .ok (.goto (-30), 3) := by decide +kernel
theorem dX10_law_143 : decode cX10_law 143 = .ok (.iconst 0, 1) := by decide +kernel
theorem dX10_law_144 : decode cX10_law 144 = .ok (.istore_n 2, 1) := by decide +kernel
theorem dX10_law_145 : decode cX10_law 145 = .ok (.iload_n 2, 1) := by decide +kernel
theorem dX10_law_146 : decode cX10_law 146 = .ok (.aload_n 0, 1) := by decide +kernel
theorem dX10_law_147 : decode cX10_law 147 = .ok (.getfield 261, 3) := by decide +kernel
theorem dX10_law_150 : decode cX10_law 150 = .ok (.if_icmp .ge 49, 3) := by decide +kernel
theorem dX10_law_153 : decode cX10_law 153 = .ok (.aload_n 0, 1) := by decide +kernel
theorem dX10_law_154 : decode cX10_law 154 = .ok (.getfield 13, 3) := by decide +kernel
theorem dX10_law_157 : decode cX10_law 157 = .ok (.iload_n 1, 1) := by decide +kernel
theorem dX10_law_158 : decode cX10_law 158 = .ok (.bipush 98, 2) := by decide +kernel
theorem dX10_law_160 : decode cX10_law 160 = .ok (.iadd, 1) := by decide +kernel
theorem dX10_law_161 : decode cX10_law 161 = .ok (.iconst 2, 1) := by decide +kernel
theorem dX10_law_162 : decode cX10_law 162 = .ok (.iload_n 2, 1) := by decide +kernel
theorem dX10_law_163 : decode cX10_law 163 = .ok (.imul, 1) := by decide +kernel
theorem dX10_law_164 : decode cX10_law 164 = .ok (.iadd, 1) := by decide +kernel
theorem dX10_law_165 : decode cX10_law 165 = .ok (.aload_n 0, 1) := by decide +kernel
theorem dX10_law_166 : decode cX10_law 166 = .ok (.getfield 45, 3) := by decide +kernel
theorem dX10_law_169 : decode cX10_law 169 = .ok (.iload_n 2, 1) := by decide +kernel
theorem dX10_law_170 : decode cX10_law 170 = .ok (.iaload, 1) := by decide +kernel
theorem dX10_law_171 : decode cX10_law 171 = .ok (.iastore, 1) := by decide +kernel
theorem dX10_law_172 : decode cX10_law 172 = .ok (.aload_n 0, 1) := by decide +kernel
theorem dX10_law_173 : decode cX10_law 173 = .ok (.getfield 13, 3) := by decide +kernel
theorem dX10_law_176 : decode cX10_law 176 = .ok (.iload_n 1, 1) := by decide +kernel
theorem dX10_law_177 : decode cX10_law 177 = .ok (.bipush 98, 2) := by decide +kernel
theorem dX10_law_179 : decode cX10_law 179 = .ok (.iadd, 1) := by decide +kernel
theorem dX10_law_180 : decode cX10_law 180 = .ok (.iconst 2, 1) := by decide +kernel
theorem dX10_law_181 : decode cX10_law 181 = .ok (.iload_n 2, 1) := by decide +kernel
theorem dX10_law_182 : decode cX10_law 182 = .ok (.imul, 1) := by decide +kernel
theorem dX10_law_183 : decode cX10_law 183 = .ok (.iadd, 1) := by decide +kernel
theorem dX10_law_184 : decode cX10_law 184 = .ok (.iconst 1, 1) := by decide +kernel
theorem dX10_law_185 : decode cX10_law 185 = .ok (.iadd, 1) := by decide +kernel
theorem dX10_law_186 : decode cX10_law 186 = .ok (.aload_n 0, 1) := by decide +kernel
theorem dX10_law_187 : decode cX10_law 187 = .ok (.getfield 48, 3) := by decide +kernel
theorem dX10_law_190 : decode cX10_law 190 = .ok (.iload_n 2, 1) := by decide +kernel
theorem dX10_law_191 : decode cX10_law 191 = .ok (.iaload, 1) := by decide +kernel
theorem dX10_law_192 : decode cX10_law 192 = .ok (.iastore, 1) := by decide +kernel
theorem dX10_law_193 : decode cX10_law 193 = .ok (.iinc 2 1, 3) := by decide +kernel
theorem dX10_law_196 : decode cX10_law 196 = .ok (.goto (-51), 3) := by decide +kernel
theorem dX10_law_199 : decode cX10_law 199 = .ok (.aload_n 0, 1) := by decide +kernel
theorem dX10_law_200 : decode cX10_law 200 = .ok (.getfield 13, 3) := by decide +kernel
theorem dX10_law_203 : decode cX10_law 203 = .ok (.iconst 2, 1) := by decide +kernel
theorem dX10_law_204 : decode cX10_law 204 = .ok (.dup2, 1) := by decide +kernel
theorem dX10_law_205 : decode cX10_law 205 = .ok (.iaload, 1) := by decide +kernel
theorem dX10_law_206 : decode cX10_law 206 = .ok (.iconst 1, 1) := by decide +kernel
theorem dX10_law_207 : decode cX10_law 207 = .ok (.iadd, 1) := by decide +kernel
theorem dX10_law_208 : decode cX10_law 208 = .ok (.iastore, 1) := by decide +kernel
theorem dX10_law_209 : decode cX10_law 209 = .ok (.aload_n 0, 1) := by decide +kernel
theorem dX10_law_210 : decode cX10_law 210 = .ok (.aload_n 0, 1) := by decide +kernel
theorem dX10_law_211 : decode cX10_law 211 = .ok (.getfield 13, 3) := by decide +kernel
theorem dX10_law_214 : decode cX10_law 214 = .ok (.iconst 2, 1) := by decide +kernel
theorem dX10_law_215 : decode cX10_law 215 = .ok (.iaload, 1) := by decide +kernel
theorem dX10_law_216 : decode cX10_law 216 = .ok (.iconst 1, 1) := by decide +kernel
theorem dX10_law_217 : decode cX10_law 217 = .ok (.isub, 1) := by decide +kernel
theorem dX10_law_218 : decode cX10_law 218 = .ok (.invokevirtual 166, 3) := by decide +kernel
theorem dX10_law_221 : decode cX10_law 221 = .ok (.ireturn, 1) := by decide +kernel
theorem dX10_isLaw_0 : decode cX10_isLaw 0 = .ok (.iload_n 1, 1) := by decide +kernel
theorem dX10_isLaw_1 : decode cX10_isLaw 1 = .ok (.iconst (-1), 1) := by decide +kernel
theorem dX10_isLaw_2 : decode cX10_isLaw 2 = .ok (.if_icmp .eq 21, 3) := by decide +kernel
theorem dX10_isLaw_5 : decode cX10_isLaw 5 = .ok (.iload_n 1, 1) := by decide +kernel
theorem dX10_isLaw_6 : decode cX10_isLaw 6 = .ok (.i2l, 1) := by decide +kernel
theorem dX10_isLaw_7 : decode cX10_isLaw 7 = .ok (.lconst 0, 1) := by decide +kernel
theorem dX10_isLaw_8 : decode cX10_isLaw 8 = .ok (.aload_n 0, 1) := by decide +kernel
theorem dX10_isLaw_9 : decode cX10_isLaw 9 = .ok (.getfield 13, 3) := by decide +kernel
theorem dX10_isLaw_12 : decode cX10_isLaw 12 = .ok (.iconst 2, 1) := by decide +kernel
theorem dX10_isLaw_13 : decode cX10_isLaw 13 = .ok (.iaload, 1) := by decide +kernel
theorem dX10_isLaw_14 : decode cX10_isLaw 14 = .ok (.i2l, 1) := by decide +kernel
theorem dX10_isLaw_15 : decode cX10_isLaw 15 = .ok (.lconst 1, 1) := by decide +kernel
theorem dX10_isLaw_16 : decode cX10_isLaw 16 = .ok (.lsub, 1) := by decide +kernel
theorem dX10_isLaw_17 : decode cX10_isLaw 17 = .ok (.invokestatic 177, 3) := by decide +kernel
theorem dX10_isLaw_20 : decode cX10_isLaw 20 = .ok (.ifCond .eq 7, 3) := by decide +kernel
theorem dX10_isLaw_23 : decode cX10_isLaw 23 = .ok (.iconst 1, 1) := by decide +kernel
theorem dX10_isLaw_24 : decode cX10_isLaw 24 = .ok (.goto 4, 3) := by decide +kernel
theorem dX10_isLaw_27 : decode cX10_isLaw 27 = .ok (.iconst 0, 1) := by decide +kernel
theorem dX10_isLaw_28 : decode cX10_isLaw 28 = .ok (.ireturn, 1) := by decide +kernel
theorem dX10_force_0 : decode cX10_force 0 = .ok (.aload_n 0, 1) := by decide +kernel
theorem dX10_force_1 : decode cX10_force 1 = .ok (.iconst 0, 1) := by decide +kernel
theorem dX10_force_2 : decode cX10_force 2 = .ok (.putfield 157, 3) := by decide +kernel
theorem dX10_force_5 : decode cX10_force 5 = .ok (.aload_n 0, 1) := by decide +kernel
theorem dX10_force_6 : decode cX10_force 6 = .ok (.iload_n 1, 1) := by decide +kernel
theorem dX10_force_7 : decode cX10_force 7 = .ok (.invokevirtual 372, 3) := by decide +kernel
theorem dX10_force_10 : decode cX10_force 10 = .ok (.ifCond .eq 12, 3) := by decide +kernel
theorem dX10_force_13 : decode cX10_force 13 = .ok (.aload_n 0, 1) := by decide +kernel
theorem dX10_force_14 : decode cX10_force 14 = .ok (.iconst 3, 1) := by decide +kernel
theorem dX10_force_15 : decode cX10_force 15 = .ok (.iload_n 1, 1) := by decide +kernel
theorem dX10_force_16 : decode cX10_force 16 = .ok (.invokevirtual 208, 3) := by decide +kernel
theorem dX10_force_19 : decode cX10_force 19 = .ok (.goto 9, 3) := by decide +kernel
theorem dX10_force_22 : decode cX10_force 22 = .ok (.aload_n 0, 1) := by decide +kernel
theorem dX10_force_23 : decode cX10_force 23 = .ok (.bipush (-2), 2) := by decide +kernel
theorem dX10_force_25 : decode cX10_force 25 = .ok (.invokevirtual 166, 3) := by decide +kernel
theorem dX10_force_28 : decode cX10_force 28 = .ok (.ireturn, 1) := by decide +kernel
theorem dX10_reckon_0 : decode cX10_reckon 0 = .ok (.iload_n 1, 1) := by decide +kernel
theorem dX10_reckon_1 : decode cX10_reckon 1 = .ok (.tableswitch 148 20 26 #[43, 48, 53, 58, 90, 122, 135], 43) := by decide +kernel
theorem dX10_reckon_44 : decode cX10_reckon 44 = .ok (.lload_n 2, 1) := by decide +kernel
theorem dX10_reckon_45 : decode cX10_reckon 45 = .ok (.lload 4, 2) := by decide +kernel
theorem dX10_reckon_47 : decode cX10_reckon 47 = .ok (.ladd, 1) := by decide +kernel
theorem dX10_reckon_48 : decode cX10_reckon 48 = .ok (.lreturn, 1) := by decide +kernel
theorem dX10_reckon_49 : decode cX10_reckon 49 = .ok (.lload_n 2, 1) := by decide +kernel
theorem dX10_reckon_50 : decode cX10_reckon 50 = .ok (.lload 4, 2) := by decide +kernel
theorem dX10_reckon_52 : decode cX10_reckon 52 = .ok (.lsub, 1) := by decide +kernel
theorem dX10_reckon_53 : decode cX10_reckon 53 = .ok (.lreturn, 1) := by decide +kernel
theorem dX10_reckon_54 : decode cX10_reckon 54 = .ok (.lload_n 2, 1) := by decide +kernel
theorem dX10_reckon_55 : decode cX10_reckon 55 = .ok (.lload 4, 2) := by decide +kernel
theorem dX10_reckon_57 : decode cX10_reckon 57 = .ok (.lmul, 1) := by decide +kernel
theorem dX10_reckon_58 : decode cX10_reckon 58 = .ok (.lreturn, 1) := by decide +kernel
theorem dX10_reckon_59 : decode cX10_reckon 59 = .ok (.aload_n 0, 1) := by decide +kernel
theorem dX10_reckon_60 : decode cX10_reckon 60 = .ok (.lload 4, 2) := by decide +kernel
theorem dX10_reckon_62 : decode cX10_reckon 62 = .ok (.lconst 0, 1) := by decide +kernel
theorem dX10_reckon_63 : decode cX10_reckon 63 = .ok (.lcmp, 1) := by decide +kernel
theorem dX10_reckon_64 : decode cX10_reckon 64 = .ok (.ifCond .ne 7, 3) := by decide +kernel
theorem dX10_reckon_67 : decode cX10_reckon 67 = .ok (.iconst 1, 1) := by decide +kernel
theorem dX10_reckon_68 : decode cX10_reckon 68 = .ok (.goto 4, 3) := by decide +kernel
theorem dX10_reckon_71 : decode cX10_reckon 71 = .ok (.iconst 0, 1) := by decide +kernel
theorem dX10_reckon_72 : decode cX10_reckon 72 = .ok (.putfield 375, 3) := by decide +kernel
theorem dX10_reckon_75 : decode cX10_reckon 75 = .ok (.aload_n 0, 1) := by decide +kernel
theorem dX10_reckon_76 : decode cX10_reckon 76 = .ok (.getfield 375, 3) := by decide +kernel
theorem dX10_reckon_79 : decode cX10_reckon 79 = .ok (.ifCond .eq 7, 3) := by decide +kernel
theorem dX10_reckon_82 : decode cX10_reckon 82 = .ok (.lconst 0, 1) := by decide +kernel
theorem dX10_reckon_83 : decode cX10_reckon 83 = .ok (.goto 7, 3) := by decide +kernel
theorem dX10_reckon_86 : decode cX10_reckon 86 = .ok (.lload_n 2, 1) := by decide +kernel
theorem dX10_reckon_87 : decode cX10_reckon 87 = .ok (.lload 4, 2) := by decide +kernel
theorem dX10_reckon_89 : decode cX10_reckon 89 = .ok (.ldiv, 1) := by decide +kernel
theorem dX10_reckon_90 : decode cX10_reckon 90 = .ok (.lreturn, 1) := by decide +kernel
theorem dX10_reckon_91 : decode cX10_reckon 91 = .ok (.aload_n 0, 1) := by decide +kernel
theorem dX10_reckon_92 : decode cX10_reckon 92 = .ok (.lload 4, 2) := by decide +kernel
theorem dX10_reckon_94 : decode cX10_reckon 94 = .ok (.lconst 0, 1) := by decide +kernel
theorem dX10_reckon_95 : decode cX10_reckon 95 = .ok (.lcmp, 1) := by decide +kernel
theorem dX10_reckon_96 : decode cX10_reckon 96 = .ok (.ifCond .ne 7, 3) := by decide +kernel
theorem dX10_reckon_99 : decode cX10_reckon 99 = .ok (.iconst 1, 1) := by decide +kernel
theorem dX10_reckon_100 : decode cX10_reckon 100 = .ok (.goto 4, 3) := by decide +kernel
theorem dX10_reckon_103 : decode cX10_reckon 103 = .ok (.iconst 0, 1) := by decide +kernel
theorem dX10_reckon_104 : decode cX10_reckon 104 = .ok (.putfield 375, 3) := by decide +kernel
theorem dX10_reckon_107 : decode cX10_reckon 107 = .ok (.aload_n 0, 1) := by decide +kernel
theorem dX10_reckon_108 : decode cX10_reckon 108 = .ok (.getfield 375, 3) := by decide +kernel
theorem dX10_reckon_111 : decode cX10_reckon 111 = .ok (.ifCond .eq 7, 3) := by decide +kernel
theorem dX10_reckon_114 : decode cX10_reckon 114 = .ok (.lconst 0, 1) := by decide +kernel
theorem dX10_reckon_115 : decode cX10_reckon 115 = .ok (.goto 7, 3) := by decide +kernel
theorem dX10_reckon_118 : decode cX10_reckon 118 = .ok (.lload_n 2, 1) := by decide +kernel
theorem dX10_reckon_119 : decode cX10_reckon 119 = .ok (.lload 4, 2) := by decide +kernel
theorem dX10_reckon_121 : decode cX10_reckon 121 = .ok (.lrem, 1) := by decide +kernel
theorem dX10_reckon_122 : decode cX10_reckon 122 = .ok (.lreturn, 1) := by decide +kernel
theorem dX10_reckon_123 : decode cX10_reckon 123 = .ok (.lload_n 2, 1) := by decide +kernel
theorem dX10_reckon_124 : decode cX10_reckon 124 = .ok (.lload 4, 2) := by decide +kernel
theorem dX10_reckon_126 : decode cX10_reckon 126 = .ok (.lcmp, 1) := by decide +kernel
theorem dX10_reckon_127 : decode cX10_reckon 127 = .ok (.ifCond .ge 7, 3) := by decide +kernel
theorem dX10_reckon_130 : decode cX10_reckon 130 = .ok (.lconst 1, 1) := by decide +kernel
theorem dX10_reckon_131 : decode cX10_reckon 131 = .ok (.goto 4, 3) := by decide +kernel
theorem dX10_reckon_134 : decode cX10_reckon 134 = .ok (.lconst 0, 1) := by decide +kernel
theorem dX10_reckon_135 : decode cX10_reckon 135 = .ok (.lreturn, 1) := by decide +kernel
theorem dX10_reckon_136 : decode cX10_reckon 136 = .ok (.lload_n 2, 1) := by decide +kernel
theorem dX10_reckon_137 : decode cX10_reckon 137 = .ok (.lload 4, 2) := by decide +kernel
theorem dX10_reckon_139 : decode cX10_reckon 139 = .ok (.lcmp, 1) := by decide +kernel
theorem dX10_reckon_140 : decode cX10_reckon 140 = .ok (.ifCond .le 7, 3) := by decide +kernel
theorem dX10_reckon_143 : decode cX10_reckon 143 = .ok (.lconst 1, 1) := by decide +kernel
theorem dX10_reckon_144 : decode cX10_reckon 144 = .ok (.goto 4, 3) := by decide +kernel
theorem dX10_reckon_147 : decode cX10_reckon 147 = .ok (.lconst 0, 1) := by decide +kernel
theorem dX10_reckon_148 : decode cX10_reckon 148 = .ok (.lreturn, 1) := by decide +kernel
theorem dX10_reckon_149 : decode cX10_reckon 149 = .ok (.lload_n 2, 1) := by decide +kernel
theorem dX10_reckon_150 : decode cX10_reckon 150 = .ok (.lload 4, 2) := by decide +kernel
theorem dX10_reckon_152 : decode cX10_reckon 152 = .ok (.lcmp, 1) := by decide +kernel
theorem dX10_reckon_153 : decode cX10_reckon 153 = .ok (.ifCond .ne 7, 3) := by decide +kernel
theorem dX10_reckon_156 : decode cX10_reckon 156 = .ok (.lconst 1, 1) := by decide +kernel
theorem dX10_reckon_157 : decode cX10_reckon 157 = .ok (.goto 4, 3) := by decide +kernel
theorem dX10_reckon_160 : decode cX10_reckon 160 = .ok (.lconst 0, 1) := by decide +kernel
theorem dX10_reckon_161 : decode cX10_reckon 161 = .ok (.lreturn, 1) := by decide +kernel
theorem dX10_reckonAll_0 : decode cX10_reckonAll 0 = .ok (.aload_n 0, 1) := by decide +kernel
theorem dX10_reckonAll_1 : decode cX10_reckonAll 1 = .ok (.iconst 0, 1) := by decide +kernel
theorem dX10_reckonAll_2 : decode cX10_reckonAll 2 = .ok (.putfield 375, 3) := by decide +kernel
theorem dX10_reckonAll_5 : decode cX10_reckonAll 5 = .ok (.iconst 0, 1) := by decide +kernel
theorem dX10_reckonAll_6 : decode cX10_reckonAll 6 = .ok (.istore_n 3, 1) := by decide +kernel
theorem dX10_reckonAll_7 : decode cX10_reckonAll 7 = .ok (.iload_n 1, 1) := by decide +kernel
theorem dX10_reckonAll_8 : decode cX10_reckonAll 8 = .ok (.istore 4, 2) := by decide +kernel
theorem dX10_reckonAll_10 : decode cX10_reckonAll 10 = .ok (.iload 4, 2) := by decide +kernel
theorem dX10_reckonAll_12 : decode cX10_reckonAll 12 = .ok (.iload_n 2, 1) := by decide +kernel
theorem dX10_reckonAll_13 : decode cX10_reckonAll 13 = .ok (.if_icmp .ge 372, 3) := by decide +kernel
theorem dX10_reckonAll_16 : decode cX10_reckonAll 16 = .ok (.aload_n 0, 1) := by decide +kernel
theorem dX10_reckonAll_17 : decode cX10_reckonAll 17 = .ok (.getfield 375, 3) := by decide +kernel
theorem dX10_reckonAll_20 : decode cX10_reckonAll 20 = .ok (.ifCond .ne 365, 3) := by decide +kernel
theorem dX10_reckonAll_23 : decode cX10_reckonAll 23 = .ok (.aload_n 0, 1) := by decide +kernel
theorem dX10_reckonAll_24 : decode cX10_reckonAll 24 = .ok (.getfield 299, 3) := by decide +kernel
theorem dX10_reckonAll_27 : decode cX10_reckonAll 27 = .ok (.ifCond .eq 13, 3) := by decide +kernel
theorem dX10_reckonAll_30 : decode cX10_reckonAll 30 = .ok (.aload_n 0, 1) := by decide +kernel
theorem dX10_reckonAll_31 : decode cX10_reckonAll 31 = .ok (.getfield 45, 3) := by decide +kernel
theorem dX10_reckonAll_34 : decode cX10_reckonAll 34 = .ok (.iload 4, 2) := by decide +kernel
theorem dX10_reckonAll_36 : decode cX10_reckonAll 36 = .ok (.iaload, 1) := by decide +kernel
theorem dX10_reckonAll_37 : decode cX10_reckonAll 37 = .ok (.goto 20, 3) := by decide +kernel
theorem dX10_reckonAll_40 : decode cX10_reckonAll 40 = .ok (.aload_n 0, 1) := by decide +kernel
theorem dX10_reckonAll_41 : decode cX10_reckonAll 41 = .ok (.getfield 13, 3) := by decide +kernel
theorem dX10_reckonAll_44 : decode cX10_reckonAll 44 = .ok (.aload_n 0, 1) := by decide +kernel
theorem dX10_reckonAll_45 : decode cX10_reckonAll 45 = .ok (.getfield 378, 3) := by decide +kernel
theorem dX10_reckonAll_48 : decode cX10_reckonAll 48 = .ok (.bipush 98, 2) := by decide +kernel
theorem dX10_reckonAll_50 : decode cX10_reckonAll 50 = .ok (.iadd, 1) := by decide +kernel
theorem dX10_reckonAll_51 : decode cX10_reckonAll 51 = .ok (.iconst 2, 1) := by decide +kernel
theorem dX10_reckonAll_52 : decode cX10_reckonAll 52 = .ok (.iload 4, 2) := by decide +kernel
theorem dX10_reckonAll_54 : decode cX10_reckonAll 54 = .ok (.imul, 1) := by decide +kernel
theorem dX10_reckonAll_55 : decode cX10_reckonAll 55 = .ok (.iadd, 1) := by decide +kernel
theorem dX10_reckonAll_56 : decode cX10_reckonAll 56 = .ok (.iaload, 1) := by decide +kernel
theorem dX10_reckonAll_57 : decode cX10_reckonAll 57 = .ok (.istore 5, 2) := by decide +kernel
theorem dX10_reckonAll_59 : decode cX10_reckonAll 59 = .ok (.aload_n 0, 1) := by decide +kernel
theorem dX10_reckonAll_60 : decode cX10_reckonAll 60 = .ok (.getfield 299, 3) := by decide +kernel
theorem dX10_reckonAll_63 : decode cX10_reckonAll 63 = .ok (.ifCond .eq 13, 3) := by decide +kernel
theorem dX10_reckonAll_66 : decode cX10_reckonAll 66 = .ok (.aload_n 0, 1) := by decide +kernel
theorem dX10_reckonAll_67 : decode cX10_reckonAll 67 = .ok (.getfield 48, 3) := by decide +kernel
theorem dX10_reckonAll_70 : decode cX10_reckonAll 70 = .ok (.iload 4, 2) := by decide +kernel
theorem dX10_reckonAll_72 : decode cX10_reckonAll 72 = .ok (.iaload, 1) := by decide +kernel
theorem dX10_reckonAll_73 : decode cX10_reckonAll 73 = .ok (.goto 22, 3) := by decide +kernel
theorem dX10_reckonAll_76 : decode cX10_reckonAll 76 = .ok (.aload_n 0, 1) := by decide +kernel
theorem dX10_reckonAll_77 : decode cX10_reckonAll 77 = .ok (.getfield 13, 3) := by decide +kernel
theorem dX10_reckonAll_80 : decode cX10_reckonAll 80 = .ok (.aload_n 0, 1) := by decide +kernel
theorem dX10_reckonAll_81 : decode cX10_reckonAll 81 = .ok (.getfield 378, 3) := by decide +kernel
theorem dX10_reckonAll_84 : decode cX10_reckonAll 84 = .ok (.bipush 98, 2) := by decide +kernel
theorem dX10_reckonAll_86 : decode cX10_reckonAll 86 = .ok (.iadd, 1) := by decide +kernel
theorem dX10_reckonAll_87 : decode cX10_reckonAll 87 = .ok (.iconst 2, 1) := by decide +kernel
theorem dX10_reckonAll_88 : decode cX10_reckonAll 88 = .ok (.iload 4, 2) := by decide +kernel
theorem dX10_reckonAll_90 : decode cX10_reckonAll 90 = .ok (.imul, 1) := by decide +kernel
theorem dX10_reckonAll_91 : decode cX10_reckonAll 91 = .ok (.iadd, 1) := by decide +kernel
theorem dX10_reckonAll_92 : decode cX10_reckonAll 92 = .ok (.iconst 1, 1) := by decide +kernel
theorem dX10_reckonAll_93 : decode cX10_reckonAll 93 = .ok (.iadd, 1) := by decide +kernel
theorem dX10_reckonAll_94 : decode cX10_reckonAll 94 = .ok (.iaload, 1) := by decide +kernel
theorem dX10_reckonAll_95 : decode cX10_reckonAll 95 = .ok (.istore 6, 2) := by decide +kernel
theorem dX10_reckonAll_97 : decode cX10_reckonAll 97 = .ok (.iinc 4 1, 3) := by decide +kernel
theorem dX10_reckonAll_100 : decode cX10_reckonAll 100 = .ok (.iload 5, 2) := by decide +kernel
theorem dX10_reckonAll_102 : decode cX10_reckonAll 102 = .ok (.bipush 20, 2) := by decide +kernel
theorem dX10_reckonAll_104 : decode cX10_reckonAll 104 = .ok (.if_icmp .ge 139, 3) := by decide +kernel
theorem dX10_reckonAll_107 : decode cX10_reckonAll 107 = .ok (.aload_n 0, 1) := by decide +kernel
theorem dX10_reckonAll_108 : decode cX10_reckonAll 108 = .ok (.getfield 107, 3) := by decide +kernel
theorem dX10_reckonAll_111 : decode cX10_reckonAll 111 = .ok (.iload_n 3, 1) := by decide +kernel
theorem dX10_reckonAll_112 : decode cX10_reckonAll 112 = .ok (.iload 5, 2) := by decide +kernel
theorem dX10_reckonAll_114 : decode cX10_reckonAll 114 = .ok (.ifCond .ne 9, 3) := by decide +kernel
theorem dX10_reckonAll_117 : decode cX10_reckonAll 117 = .ok (.iload 6, 2) := by decide +kernel
theorem dX10_reckonAll_119 : decode cX10_reckonAll 119 = .ok (.i2l, 1) := by decide +kernel
theorem dX10_reckonAll_120 : decode cX10_reckonAll 120 = .ok (.goto 116, 3) := by decide +kernel
theorem dX10_reckonAll_123 : decode cX10_reckonAll 123 = .ok (.aload_n 0, 1) := by decide +kernel
theorem dX10_reckonAll_124 : decode cX10_reckonAll 124 = .ok (.getfield 299, 3) := by decide +kernel
theorem dX10_reckonAll_127 : decode cX10_reckonAll 127 = .ok (.ifCond .ne 13, 3) := by decide +kernel
theorem dX10_reckonAll_130 : decode cX10_reckonAll 130 = .ok (.aload_n 0, 1) := by decide +kernel
theorem dX10_reckonAll_131 : decode cX10_reckonAll 131 = .ok (.getfield 101, 3) := by decide +kernel
theorem dX10_reckonAll_134 : decode cX10_reckonAll 134 = .ok (.iload 5, 2) := by decide +kernel
theorem dX10_reckonAll_136 : decode cX10_reckonAll 136 = .ok (.laload, 1) := by decide +kernel
theorem dX10_reckonAll_137 : decode cX10_reckonAll 137 = .ok (.goto 99, 3) := by decide +kernel
theorem dX10_reckonAll_140 : decode cX10_reckonAll 140 = .ok (.iload 5, 2) := by decide +kernel
theorem dX10_reckonAll_142 : decode cX10_reckonAll 142 = .ok (.iconst 5, 1) := by decide +kernel
theorem dX10_reckonAll_143 : decode cX10_reckonAll 143 = .ok (.if_icmp .ge 13, 3) := by decide +kernel
theorem dX10_reckonAll_146 : decode cX10_reckonAll 146 = .ok (.aload_n 0, 1) := by decide +kernel
theorem dX10_reckonAll_147 : decode cX10_reckonAll 147 = .ok (.getfield 104, 3) := by decide +kernel
theorem dX10_reckonAll_150 : decode cX10_reckonAll 150 = .ok (.iload 5, 2) := by decide +kernel
theorem dX10_reckonAll_152 : decode cX10_reckonAll 152 = .ok (.laload, 1) := by decide +kernel
theorem dX10_reckonAll_153 : decode cX10_reckonAll 153 = .ok (.goto 83, 3) := by decide +kernel
theorem dX10_reckonAll_156 : decode cX10_reckonAll 156 = .ok (.iload 5, 2) := by decide +kernel
theorem dX10_reckonAll_158 : decode cX10_reckonAll 158 = .ok (.bipush 7, 2) := by decide +kernel
theorem dX10_reckonAll_160 : decode cX10_reckonAll 160 = .ok (.if_icmp .ne 30, 3) := by decide +kernel
theorem dX10_reckonAll_163 : decode cX10_reckonAll 163 = .ok (.aload_n 0, 1) := by decide +kernel
theorem dX10_reckonAll_164 : decode cX10_reckonAll 164 = .ok (.iload 6, 2) := by decide +kernel
theorem dX10_reckonAll_166 : decode cX10_reckonAll 166 = .ok (.invokevirtual 194, 3) := by decide +kernel
theorem dX10_reckonAll_169 : decode cX10_reckonAll 169 = .ok (.ifCond .eq 16, 3) := by decide +kernel
theorem dX10_reckonAll_172 : decode cX10_reckonAll 172 = .ok (.aload_n 0, 1) := by decide +kernel
theorem dX10_reckonAll_173 : decode cX10_reckonAll 173 = .ok (.getfield 13, 3) := by decide +kernel
theorem dX10_reckonAll_176 : decode cX10_reckonAll 176 = .ok (.bipush 9, 2) := by decide +kernel
theorem dX10_reckonAll_178 : decode cX10_reckonAll 178 = .ok (.iload 6, 2) := by decide +kernel
theorem dX10_reckonAll_180 : decode cX10_reckonAll 180 = .ok (.iadd, 1) := by decide +kernel
theorem dX10_reckonAll_181 : decode cX10_reckonAll 181 = .ok (.iaload, 1) := by decide +kernel
theorem dX10_reckonAll_182 : decode cX10_reckonAll 182 = .ok (.goto 4, 3) := by decide +kernel
theorem dX10_reckonAll_185 : decode cX10_reckonAll 185 = .ok (.iconst (-1), 1) := by decide +kernel
theorem dX10_reckonAll_186 : decode cX10_reckonAll 186 = .ok (.i2l, 1) := by decide +kernel
theorem dX10_reckonAll_187 : decode cX10_reckonAll 187 = .ok (.goto 49, 3) := by decide +kernel
theorem dX10_reckonAll_190 : decode cX10_reckonAll 190 = .ok (.aload_n 0, 1) := by decide +kernel
theorem dX10_reckonAll_191 : decode cX10_reckonAll 191 = .ok (.iload 6, 2) := by decide +kernel
theorem dX10_reckonAll_193 : decode cX10_reckonAll 193 = .ok (.invokevirtual 201, 3) := by decide +kernel
theorem dX10_reckonAll_196 : decode cX10_reckonAll 196 = .ok (.ifCond .ne 9, 3) := by decide +kernel
theorem dX10_reckonAll_199 : decode cX10_reckonAll 199 = .ok (.ldc2_w 251, 3) := by decide +kernel
theorem dX10_reckonAll_202 : decode cX10_reckonAll 202 = .ok (.goto 34, 3) := by decide +kernel
theorem dX10_reckonAll_205 : decode cX10_reckonAll 205 = .ok (.iload 5, 2) := by decide +kernel
theorem dX10_reckonAll_207 : decode cX10_reckonAll 207 = .ok (.iconst 5, 1) := by decide +kernel
theorem dX10_reckonAll_208 : decode cX10_reckonAll 208 = .ok (.if_icmp .ne 17, 3) := by decide +kernel
theorem dX10_reckonAll_211 : decode cX10_reckonAll 211 = .ok (.aload_n 0, 1) := by decide +kernel
theorem dX10_reckonAll_212 : decode cX10_reckonAll 212 = .ok (.getfield 13, 3) := by decide +kernel
theorem dX10_reckonAll_215 : decode cX10_reckonAll 215 = .ok (.bipush 29, 2) := by decide +kernel
theorem dX10_reckonAll_217 : decode cX10_reckonAll 217 = .ok (.iload 6, 2) := by decide +kernel
theorem dX10_reckonAll_219 : decode cX10_reckonAll 219 = .ok (.iadd, 1) := by decide +kernel
theorem dX10_reckonAll_220 : decode cX10_reckonAll 220 = .ok (.iaload, 1) := by decide +kernel
theorem dX10_reckonAll_221 : decode cX10_reckonAll 221 = .ok (.i2l, 1) := by decide +kernel
theorem dX10_reckonAll_222 : decode cX10_reckonAll 222 = .ok (.goto 14, 3) := by decide +kernel
theorem dX10_reckonAll_225 : decode cX10_reckonAll 225 = .ok (.aload_n 0, 1) := by decide +kernel
theorem dX10_reckonAll_226 : decode cX10_reckonAll 226 = .ok (.getfield 13, 3) := by decide +kernel
theorem dX10_reckonAll_229 : decode cX10_reckonAll 229 = .ok (.bipush 23, 2) := by decide +kernel
theorem dX10_reckonAll_231 : decode cX10_reckonAll 231 = .ok (.iload 6, 2) := by decide +kernel
theorem dX10_reckonAll_233 : decode cX10_reckonAll 233 = .ok (.iadd, 1) := by decide +kernel
theorem dX10_reckonAll_234 : decode cX10_reckonAll 234 = .ok (.iaload, 1) := by decide +kernel
theorem dX10_reckonAll_235 : decode cX10_reckonAll 235 = .ok (.i2l, 1) := by decide +kernel
theorem dX10_reckonAll_236 : decode cX10_reckonAll 236 = .ok (.lastore, 1) := by decide +kernel
theorem dX10_reckonAll_237 : decode cX10_reckonAll 237 = .ok (.iinc 3 1, 3) := by decide +kernel
theorem dX10_reckonAll_240 : decode cX10_reckonAll 240 = .ok (.goto 142, 3) := by decide +kernel
theorem dX10_reckonAll_243 : decode cX10_reckonAll 243 = .ok (.iload 5, 2) := by decide +kernel
theorem dX10_reckonAll_245 : decode cX10_reckonAll 245 = .ok (.bipush 28, 2) := by decide +kernel
theorem dX10_reckonAll_247 : decode cX10_reckonAll 247 = .ok (.if_icmp .ge 73, 3) := by decide +kernel
theorem dX10_reckonAll_250 : decode cX10_reckonAll 250 = .ok (.iinc 3 (-1), 3) := by decide +kernel
theorem dX10_reckonAll_253 : decode cX10_reckonAll 253 = .ok (.aload_n 0, 1) := by decide +kernel
theorem dX10_reckonAll_254 : decode cX10_reckonAll 254 = .ok (.getfield 107, 3) := by decide +kernel
theorem dX10_reckonAll_257 : decode cX10_reckonAll 257 = .ok (.iload_n 3, 1) := by decide +kernel
theorem dX10_reckonAll_258 : decode cX10_reckonAll 258 = .ok (.iconst 1, 1) := by decide +kernel
theorem dX10_reckonAll_259 : decode cX10_reckonAll 259 = .ok (.isub, 1) := by decide +kernel
theorem dX10_reckonAll_260 : decode cX10_reckonAll 260 = .ok (.aload_n 0, 1) := by decide +kernel
theorem dX10_reckonAll_261 : decode cX10_reckonAll 261 = .ok (.iload 5, 2) := by decide +kernel
theorem dX10_reckonAll_263 : decode cX10_reckonAll 263 = .ok (.aload_n 0, 1) := by decide +kernel
theorem dX10_reckonAll_264 : decode cX10_reckonAll 264 = .ok (.getfield 107, 3) := by decide +kernel
theorem dX10_reckonAll_267 : decode cX10_reckonAll 267 = .ok (.iload_n 3, 1) := by decide +kernel
theorem dX10_reckonAll_268 : decode cX10_reckonAll 268 = .ok (.iconst 1, 1) := by decide +kernel
theorem dX10_reckonAll_269 : decode cX10_reckonAll 269 = .ok (.isub, 1) := by decide +kernel
theorem dX10_reckonAll_270 : decode cX10_reckonAll 270 = .ok (.laload, 1) := by decide +kernel
theorem dX10_reckonAll_271 : decode cX10_reckonAll 271 = .ok (.aload_n 0, 1) := by decide +kernel
theorem dX10_reckonAll_272 : decode cX10_reckonAll 272 = .ok (.getfield 107, 3) := by decide +kernel
theorem dX10_reckonAll_275 : decode cX10_reckonAll 275 = .ok (.iload_n 3, 1) := by decide +kernel
theorem dX10_reckonAll_276 : decode cX10_reckonAll 276 = .ok (.laload, 1) := by decide +kernel
theorem dX10_reckonAll_277 : decode cX10_reckonAll 277 = .ok (.invokevirtual 381, 3) := by decide +kernel
theorem dX10_reckonAll_280 : decode cX10_reckonAll 280 = .ok (.lastore, 1) := by decide +kernel
theorem dX10_reckonAll_281 : decode cX10_reckonAll 281 = .ok (.aload_n 0, 1) := by decide +kernel
theorem dX10_reckonAll_282 : decode cX10_reckonAll 282 = .ok (.aload_n 0, 1) := by decide +kernel
theorem dX10_reckonAll_283 : decode cX10_reckonAll 283 = .ok (.getfield 375, 3) := by decide +kernel
theorem dX10_reckonAll_286 : decode cX10_reckonAll 286 = .ok (.ifCond .ne 23, 3) := by decide +kernel
theorem dX10_reckonAll_289 : decode cX10_reckonAll 289 = .ok (.aload_n 0, 1) := by decide +kernel
theorem dX10_reckonAll_290 : decode cX10_reckonAll 290 = .ok (.getfield 107, 3) := by decide +kernel
theorem dX10_reckonAll_293 : decode cX10_reckonAll 293 = .ok (.iload_n 3, 1) := by decide +kernel
theorem dX10_reckonAll_294 : decode cX10_reckonAll 294 = .ok (.iconst 1, 1) := by decide +kernel
theorem dX10_reckonAll_295 : decode cX10_reckonAll 295 = .ok (.isub, 1) := by decide +kernel
theorem dX10_reckonAll_296 : decode cX10_reckonAll 296 = .ok (.laload, 1) := by decide +kernel
theorem dX10_reckonAll_297 : decode cX10_reckonAll 297 = .ok (.ldc2_w 385, 3) := by decide +kernel
theorem dX10_reckonAll_300 : decode cX10_reckonAll 300 = .ok (.ldc2_w 387, 3) := by decide +kernel
theorem dX10_reckonAll_303 : decode cX10_reckonAll 303 = .ok (.invokestatic 177, 3) := by decide +kernel
theorem dX10_reckonAll_306 : decode cX10_reckonAll 306 = .ok (.ifCond .ne 7, 3) := by decide +kernel
theorem dX10_reckonAll_309 : decode cX10_reckonAll 309 = .ok (.iconst 1, 1) := by decide +kernel
theorem dX10_reckonAll_310 : decode cX10_reckonAll 310 = .ok (.goto 4, 3) := by decide +kernel
theorem dX10_reckonAll_313 : decode cX10_reckonAll 313 = .ok (.iconst 0, 1) := by decide +kernel
theorem dX10_reckonAll_314 : decode cX10_reckonAll 314 = .ok (.putfield 375, 3) := by decide +kernel
theorem dX10_reckonAll_317 : decode cX10_reckonAll 317 = .ok (.goto 65, 3) := by decide +kernel
theorem dX10_reckonAll_320 : decode cX10_reckonAll 320 = .ok (.iload 5, 2) := by decide +kernel
theorem dX10_reckonAll_322 : decode cX10_reckonAll 322 = .ok (.bipush 28, 2) := by decide +kernel
theorem dX10_reckonAll_324 : decode cX10_reckonAll 324 = .ok (.if_icmp .ne 24, 3) := by decide +kernel
theorem dX10_reckonAll_327 : decode cX10_reckonAll 327 = .ok (.aload_n 0, 1) := by decide +kernel
theorem dX10_reckonAll_328 : decode cX10_reckonAll 328 = .ok (.getfield 107, 3) := by decide +kernel
theorem dX10_reckonAll_331 : decode cX10_reckonAll 331 = .ok (.iload_n 3, 1) := by decide +kernel
theorem dX10_reckonAll_332 : decode cX10_reckonAll 332 = .ok (.iconst 1, 1) := by decide +kernel
theorem dX10_reckonAll_333 : decode cX10_reckonAll 333 = .ok (.isub, 1) := by decide +kernel
theorem dX10_reckonAll_334 : decode cX10_reckonAll 334 = .ok (.lconst 1, 1) := by decide +kernel
theorem dX10_reckonAll_335 : decode cX10_reckonAll 335 = .ok (.aload_n 0, 1) := by decide +kernel
theorem dX10_reckonAll_336 : decode cX10_reckonAll 336 = .ok (.getfield 107, 3) := by decide +kernel
theorem dX10_reckonAll_339 : decode cX10_reckonAll 339 = .ok (.iload_n 3, 1) := by decide +kernel
theorem dX10_reckonAll_340 : decode cX10_reckonAll 340 = .ok (.iconst 1, 1) := by decide +kernel
theorem dX10_reckonAll_341 : decode cX10_reckonAll 341 = .ok (.isub, 1) := by decide +kernel
theorem dX10_reckonAll_342 : decode cX10_reckonAll 342 = .ok (.laload, 1) := by decide +kernel
theorem dX10_reckonAll_343 : decode cX10_reckonAll 343 = .ok (.lsub, 1) := by decide +kernel
theorem dX10_reckonAll_344 : decode cX10_reckonAll 344 = .ok (.lastore, 1) := by decide +kernel
theorem dX10_reckonAll_345 : decode cX10_reckonAll 345 = .ok (.goto 37, 3) := by decide +kernel
theorem dX10_reckonAll_348 : decode cX10_reckonAll 348 = .ok (.aload_n 0, 1) := by decide +kernel
theorem dX10_reckonAll_349 : decode cX10_reckonAll 349 = .ok (.getfield 107, 3) := by decide +kernel
theorem dX10_reckonAll_352 : decode cX10_reckonAll 352 = .ok (.iload_n 3, 1) := by decide +kernel
theorem dX10_reckonAll_353 : decode cX10_reckonAll 353 = .ok (.iconst 1, 1) := by decide +kernel
theorem dX10_reckonAll_354 : decode cX10_reckonAll 354 = .ok (.isub, 1) := by decide +kernel
theorem dX10_reckonAll_355 : decode cX10_reckonAll 355 = .ok (.laload, 1) := by decide +kernel
theorem dX10_reckonAll_356 : decode cX10_reckonAll 356 = .ok (.iload 5, 2) := by decide +kernel
theorem dX10_reckonAll_358 : decode cX10_reckonAll 358 = .ok (.bipush 29, 2) := by decide +kernel
theorem dX10_reckonAll_360 : decode cX10_reckonAll 360 = .ok (.if_icmp .ne 7, 3) := by decide +kernel
theorem dX10_reckonAll_363 : decode cX10_reckonAll 363 = .ok (.lconst 0, 1) := by decide +kernel
theorem dX10_reckonAll_364 : decode cX10_reckonAll 364 = .ok (.goto 4, 3) := by decide +kernel
theorem dX10_reckonAll_367 : decode cX10_reckonAll 367 = .ok (.lconst 1, 1) := by decide +kernel
theorem dX10_reckonAll_368 : decode cX10_reckonAll 368 = .ok (.lcmp, 1) := by decide +kernel
theorem dX10_reckonAll_369 : decode cX10_reckonAll 369 = .ok (.ifCond .ne 10, 3) := by decide +kernel
theorem dX10_reckonAll_372 : decode cX10_reckonAll 372 = .ok (.iload 6, 2) := by decide +kernel
theorem dX10_reckonAll_374 : decode cX10_reckonAll 374 = .ok (.istore 4, 2) := by decide +kernel
theorem dX10_reckonAll_376 : decode cX10_reckonAll 376 = .ok (.goto 6, 3) := by decide +kernel
theorem dX10_reckonAll_379 : decode cX10_reckonAll 379 = .ok (.iinc 3 (-1), 3) := by decide +kernel
theorem dX10_reckonAll_382 : decode cX10_reckonAll 382 = .ok (.goto (-372), 3) := by decide +kernel
theorem dX10_reckonAll_385 : decode cX10_reckonAll 385 = .ok (.aload_n 0, 1) := by decide +kernel
theorem dX10_reckonAll_386 : decode cX10_reckonAll 386 = .ok (.iload_n 3, 1) := by decide +kernel
theorem dX10_reckonAll_387 : decode cX10_reckonAll 387 = .ok (.ifCond .le 12, 3) := by decide +kernel
theorem dX10_reckonAll_390 : decode cX10_reckonAll 390 = .ok (.aload_n 0, 1) := by decide +kernel
theorem dX10_reckonAll_391 : decode cX10_reckonAll 391 = .ok (.getfield 107, 3) := by decide +kernel
theorem dX10_reckonAll_394 : decode cX10_reckonAll 394 = .ok (.iconst 0, 1) := by decide +kernel
theorem dX10_reckonAll_395 : decode cX10_reckonAll 395 = .ok (.laload, 1) := by decide +kernel
theorem dX10_reckonAll_396 : decode cX10_reckonAll 396 = .ok (.goto 4, 3) := by decide +kernel
theorem dX10_reckonAll_399 : decode cX10_reckonAll 399 = .ok (.lconst 0, 1) := by decide +kernel
theorem dX10_reckonAll_400 : decode cX10_reckonAll 400 = .ok (.putfield 389, 3) := by decide +kernel
theorem dX10_reckonAll_403 : decode cX10_reckonAll 403 = .ok (.return_, 1) := by decide +kernel
theorem dX10_isSo_0 : decode cX10_isSo 0 = .ok (.aload_n 0, 1) := by decide +kernel
theorem dX10_isSo_1 : decode cX10_isSo 1 = .ok (.getfield 13, 3) := by decide +kernel
theorem dX10_isSo_4 : decode cX10_isSo 4 = .ok (.iload_n 1, 1) := by decide +kernel
theorem dX10_isSo_5 : decode cX10_isSo 5 = .ok (.iconst 5, 1) := by decide +kernel
theorem dX10_isSo_6 : decode cX10_isSo 6 = .ok (.iadd, 1) := by decide +kernel
theorem dX10_isSo_7 : decode cX10_isSo 7 = .ok (.iaload, 1) := by decide +kernel
theorem dX10_isSo_8 : decode cX10_isSo 8 = .ok (.aload_n 0, 1) := by decide +kernel
theorem dX10_isSo_9 : decode cX10_isSo 9 = .ok (.getfield 13, 3) := by decide +kernel
theorem dX10_isSo_12 : decode cX10_isSo 12 = .ok (.iload_n 1, 1) := by decide +kernel
theorem dX10_isSo_13 : decode cX10_isSo 13 = .ok (.bipush 6, 2) := by decide +kernel
theorem dX10_isSo_15 : decode cX10_isSo 15 = .ok (.iadd, 1) := by decide +kernel
theorem dX10_isSo_16 : decode cX10_isSo 16 = .ok (.iaload, 1) := by decide +kernel
theorem dX10_isSo_17 : decode cX10_isSo 17 = .ok (.if_icmp .ge 42, 3) := by decide +kernel
theorem dX10_isSo_20 : decode cX10_isSo 20 = .ok (.aload_n 0, 1) := by decide +kernel
theorem dX10_isSo_21 : decode cX10_isSo 21 = .ok (.aload_n 0, 1) := by decide +kernel
theorem dX10_isSo_22 : decode cX10_isSo 22 = .ok (.getfield 13, 3) := by decide +kernel
theorem dX10_isSo_25 : decode cX10_isSo 25 = .ok (.iload_n 1, 1) := by decide +kernel
theorem dX10_isSo_26 : decode cX10_isSo 26 = .ok (.iconst 5, 1) := by decide +kernel
theorem dX10_isSo_27 : decode cX10_isSo 27 = .ok (.iadd, 1) := by decide +kernel
theorem dX10_isSo_28 : decode cX10_isSo 28 = .ok (.iaload, 1) := by decide +kernel
theorem dX10_isSo_29 : decode cX10_isSo 29 = .ok (.aload_n 0, 1) := by decide +kernel
theorem dX10_isSo_30 : decode cX10_isSo 30 = .ok (.getfield 13, 3) := by decide +kernel
theorem dX10_isSo_33 : decode cX10_isSo 33 = .ok (.iload_n 1, 1) := by decide +kernel
theorem dX10_isSo_34 : decode cX10_isSo 34 = .ok (.bipush 6, 2) := by decide +kernel
theorem dX10_isSo_36 : decode cX10_isSo 36 = .ok (.iadd, 1) := by decide +kernel
theorem dX10_isSo_37 : decode cX10_isSo 37 = .ok (.iaload, 1) := by decide +kernel
theorem dX10_isSo_38 : decode cX10_isSo 38 = .ok (.invokevirtual 392, 3) := by decide +kernel
theorem dX10_isSo_41 : decode cX10_isSo 41 = .ok (.aload_n 0, 1) := by decide +kernel
theorem dX10_isSo_42 : decode cX10_isSo 42 = .ok (.getfield 375, 3) := by decide +kernel
theorem dX10_isSo_45 : decode cX10_isSo 45 = .ok (.ifCond .ne 12, 3) := by decide +kernel
theorem dX10_isSo_48 : decode cX10_isSo 48 = .ok (.aload_n 0, 1) := by decide +kernel
theorem dX10_isSo_49 : decode cX10_isSo 49 = .ok (.getfield 389, 3) := by decide +kernel
theorem dX10_isSo_52 : decode cX10_isSo 52 = .ok (.lconst 0, 1) := by decide +kernel
theorem dX10_isSo_53 : decode cX10_isSo 53 = .ok (.lcmp, 1) := by decide +kernel
theorem dX10_isSo_54 : decode cX10_isSo 54 = .ok (.ifCond .ne 5, 3) := by decide +kernel
theorem dX10_isSo_57 : decode cX10_isSo 57 = .ok (.iconst 0, 1) := by decide +kernel
theorem dX10_isSo_58 : decode cX10_isSo 58 = .ok (.ireturn, 1) := by decide +kernel
theorem dX10_isSo_59 : decode cX10_isSo 59 = .ok (.aload_n 0, 1) := by decide +kernel
theorem dX10_isSo_60 : decode cX10_isSo 60 = .ok (.getfield 13, 3) := by decide +kernel
theorem dX10_isSo_63 : decode cX10_isSo 63 = .ok (.iload_n 1, 1) := by decide +kernel
theorem dX10_isSo_64 : decode cX10_isSo 64 = .ok (.iaload, 1) := by decide +kernel
theorem dX10_isSo_65 : decode cX10_isSo 65 = .ok (.iconst 3, 1) := by decide +kernel
theorem dX10_isSo_66 : decode cX10_isSo 66 = .ok (.if_icmp .eq 44, 3) := by decide +kernel
theorem dX10_isSo_69 : decode cX10_isSo 69 = .ok (.aload_n 0, 1) := by decide +kernel
theorem dX10_isSo_70 : decode cX10_isSo 70 = .ok (.aload_n 0, 1) := by decide +kernel
theorem dX10_isSo_71 : decode cX10_isSo 71 = .ok (.getfield 13, 3) := by decide +kernel
theorem dX10_isSo_74 : decode cX10_isSo 74 = .ok (.iload_n 1, 1) := by decide +kernel
theorem dX10_isSo_75 : decode cX10_isSo 75 = .ok (.iconst 3, 1) := by decide +kernel
theorem dX10_isSo_76 : decode cX10_isSo 76 = .ok (.iadd, 1) := by decide +kernel
theorem dX10_isSo_77 : decode cX10_isSo 77 = .ok (.iaload, 1) := by decide +kernel
theorem dX10_isSo_78 : decode cX10_isSo 78 = .ok (.aload_n 0, 1) := by decide +kernel
theorem dX10_isSo_79 : decode cX10_isSo 79 = .ok (.getfield 13, 3) := by decide +kernel
theorem dX10_isSo_82 : decode cX10_isSo 82 = .ok (.iload_n 1, 1) := by decide +kernel
theorem dX10_isSo_83 : decode cX10_isSo 83 = .ok (.iconst 4, 1) := by decide +kernel
theorem dX10_isSo_84 : decode cX10_isSo 84 = .ok (.iadd, 1) := by decide +kernel
theorem dX10_isSo_85 : decode cX10_isSo 85 = .ok (.iaload, 1) := by decide +kernel
theorem dX10_isSo_86 : decode cX10_isSo 86 = .ok (.invokevirtual 392, 3) := by decide +kernel
theorem dX10_isSo_89 : decode cX10_isSo 89 = .ok (.aload_n 0, 1) := by decide +kernel
theorem dX10_isSo_90 : decode cX10_isSo 90 = .ok (.aload_n 0, 1) := by decide +kernel
theorem dX10_isSo_91 : decode cX10_isSo 91 = .ok (.getfield 389, 3) := by decide +kernel
theorem dX10_isSo_94 : decode cX10_isSo 94 = .ok (.putfield 395, 3) := by decide +kernel
theorem dX10_isSo_97 : decode cX10_isSo 97 = .ok (.aload_n 0, 1) := by decide +kernel
theorem dX10_isSo_98 : decode cX10_isSo 98 = .ok (.getfield 375, 3) := by decide +kernel
theorem dX10_isSo_101 : decode cX10_isSo 101 = .ok (.ifCond .ne 7, 3) := by decide +kernel
theorem dX10_isSo_104 : decode cX10_isSo 104 = .ok (.iconst 1, 1) := by decide +kernel
theorem dX10_isSo_105 : decode cX10_isSo 105 = .ok (.goto 4, 3) := by decide +kernel
theorem dX10_isSo_108 : decode cX10_isSo 108 = .ok (.iconst 0, 1) := by decide +kernel
theorem dX10_isSo_109 : decode cX10_isSo 109 = .ok (.ireturn, 1) := by decide +kernel
theorem dX10_isSo_110 : decode cX10_isSo 110 = .ok (.iconst 1, 1) := by decide +kernel
theorem dX10_isSo_111 : decode cX10_isSo 111 = .ok (.ireturn, 1) := by decide +kernel
theorem dX10_keptFor_0 : decode cX10_keptFor 0 = .ok (.aload_n 0, 1) := by decide +kernel
theorem dX10_keptFor_1 : decode cX10_keptFor 1 = .ok (.iconst 0, 1) := by decide +kernel
theorem dX10_keptFor_2 : decode cX10_keptFor 2 = .ok (.invokevirtual 398, 3) := by decide +kernel
theorem dX10_keptFor_5 : decode cX10_keptFor 5 = .ok (.aload_n 0, 1) := by decide +kernel
theorem dX10_keptFor_6 : decode cX10_keptFor 6 = .ok (.getfield 13, 3) := by decide +kernel
theorem dX10_keptFor_9 : decode cX10_keptFor 9 = .ok (.bipush 35, 2) := by decide +kernel
theorem dX10_keptFor_11 : decode cX10_keptFor 11 = .ok (.iload_n 1, 1) := by decide +kernel
theorem dX10_keptFor_12 : decode cX10_keptFor 12 = .ok (.iadd, 1) := by decide +kernel
theorem dX10_keptFor_13 : decode cX10_keptFor 13 = .ok (.iaload, 1) := by decide +kernel
theorem dX10_keptFor_14 : decode cX10_keptFor 14 = .ok (.isub, 1) := by decide +kernel
theorem dX10_keptFor_15 : decode cX10_keptFor 15 = .ok (.ireturn, 1) := by decide +kernel
theorem dX10_tells_0 : decode cX10_tells 0 = .ok (.aload_n 0, 1) := by decide +kernel
theorem dX10_tells_1 : decode cX10_tells 1 = .ok (.getfield 13, 3) := by decide +kernel
theorem dX10_tells_4 : decode cX10_tells 4 = .ok (.iconst 3, 1) := by decide +kernel
theorem dX10_tells_5 : decode cX10_tells 5 = .ok (.iaload, 1) := by decide +kernel
theorem dX10_tells_6 : decode cX10_tells 6 = .ok (.iconst (-1), 1) := by decide +kernel
theorem dX10_tells_7 : decode cX10_tells 7 = .ok (.if_icmp .ne 6, 3) := by decide +kernel
theorem dX10_tells_10 : decode cX10_tells 10 = .ok (.lload 4, 2) := by decide +kernel
theorem dX10_tells_12 : decode cX10_tells 12 = .ok (.lreturn, 1) := by decide +kernel
theorem dX10_tells_13 : decode cX10_tells 13 = .ok (.aload_n 0, 1) := by decide +kernel
theorem dX10_tells_14 : decode cX10_tells 14 = .ok (.bipush 105, 2) := by decide +kernel
theorem dX10_tells_16 : decode cX10_tells 16 = .ok (.sipush 900, 3) := by decide +kernel
theorem dX10_tells_19 : decode cX10_tells 19 = .ok (.aload_n 0, 1) := by decide +kernel
theorem dX10_tells_20 : decode cX10_tells 20 = .ok (.getfield 13, 3) := by decide +kernel
theorem dX10_tells_23 : decode cX10_tells 23 = .ok (.iconst 3, 1) := by decide +kernel
theorem dX10_tells_24 : decode cX10_tells 24 = .ok (.iaload, 1) := by decide +kernel
theorem dX10_tells_25 : decode cX10_tells 25 = .ok (.imul, 1) := by decide +kernel
theorem dX10_tells_26 : decode cX10_tells 26 = .ok (.iadd, 1) := by decide +kernel
theorem dX10_tells_27 : decode cX10_tells 27 = .ok (.putfield 378, 3) := by decide +kernel
theorem dX10_tells_30 : decode cX10_tells 30 = .ok (.aload_n 0, 1) := by decide +kernel
theorem dX10_tells_31 : decode cX10_tells 31 = .ok (.getfield 101, 3) := by decide +kernel
theorem dX10_tells_34 : decode cX10_tells 34 = .ok (.iconst 1, 1) := by decide +kernel
theorem dX10_tells_35 : decode cX10_tells 35 = .ok (.iload_n 2, 1) := by decide +kernel
theorem dX10_tells_36 : decode cX10_tells 36 = .ok (.i2l, 1) := by decide +kernel
theorem dX10_tells_37 : decode cX10_tells 37 = .ok (.lastore, 1) := by decide +kernel
theorem dX10_tells_38 : decode cX10_tells 38 = .ok (.aload_n 0, 1) := by decide +kernel
theorem dX10_tells_39 : decode cX10_tells 39 = .ok (.getfield 101, 3) := by decide +kernel
theorem dX10_tells_42 : decode cX10_tells 42 = .ok (.iconst 2, 1) := by decide +kernel
theorem dX10_tells_43 : decode cX10_tells 43 = .ok (.aload_n 0, 1) := by decide +kernel
theorem dX10_tells_44 : decode cX10_tells 44 = .ok (.getfield 13, 3) := by decide +kernel
theorem dX10_tells_47 : decode cX10_tells 47 = .ok (.bipush 71, 2) := by decide +kernel
theorem dX10_tells_49 : decode cX10_tells 49 = .ok (.iload_n 2, 1) := by decide +kernel
theorem dX10_tells_50 : decode cX10_tells 50 = .ok (.iadd, 1) := by decide +kernel
theorem dX10_tells_51 : decode cX10_tells 51 = .ok (.iaload, 1) := by decide +kernel
theorem dX10_tells_52 : decode cX10_tells 52 = .ok (.i2l, 1) := by decide +kernel
theorem dX10_tells_53 : decode cX10_tells 53 = .ok (.lastore, 1) := by decide +kernel
theorem dX10_tells_54 : decode cX10_tells 54 = .ok (.aload_n 0, 1) := by decide +kernel
theorem dX10_tells_55 : decode cX10_tells 55 = .ok (.getfield 101, 3) := by decide +kernel
theorem dX10_tells_58 : decode cX10_tells 58 = .ok (.iconst 3, 1) := by decide +kernel
theorem dX10_tells_59 : decode cX10_tells 59 = .ok (.aload_n 0, 1) := by decide +kernel
theorem dX10_tells_60 : decode cX10_tells 60 = .ok (.getfield 13, 3) := by decide +kernel
theorem dX10_tells_63 : decode cX10_tells 63 = .ok (.bipush 9, 2) := by decide +kernel
theorem dX10_tells_65 : decode cX10_tells 65 = .ok (.iload_n 2, 1) := by decide +kernel
theorem dX10_tells_66 : decode cX10_tells 66 = .ok (.iadd, 1) := by decide +kernel
theorem dX10_tells_67 : decode cX10_tells 67 = .ok (.iaload, 1) := by decide +kernel
theorem dX10_tells_68 : decode cX10_tells 68 = .ok (.i2l, 1) := by decide +kernel
theorem dX10_tells_69 : decode cX10_tells 69 = .ok (.lastore, 1) := by decide +kernel
theorem dX10_tells_70 : decode cX10_tells 70 = .ok (.aload_n 0, 1) := by decide +kernel
theorem dX10_tells_71 : decode cX10_tells 71 = .ok (.getfield 101, 3) := by decide +kernel
theorem dX10_tells_74 : decode cX10_tells 74 = .ok (.iconst 4, 1) := by decide +kernel
theorem dX10_tells_75 : decode cX10_tells 75 = .ok (.iload_n 3, 1) := by decide +kernel
theorem dX10_tells_76 : decode cX10_tells 76 = .ok (.i2l, 1) := by decide +kernel
theorem dX10_tells_77 : decode cX10_tells 77 = .ok (.lastore, 1) := by decide +kernel
theorem dX10_tells_78 : decode cX10_tells 78 = .ok (.aload_n 0, 1) := by decide +kernel
theorem dX10_tells_79 : decode cX10_tells 79 = .ok (.getfield 101, 3) := by decide +kernel
theorem dX10_tells_82 : decode cX10_tells 82 = .ok (.iconst 5, 1) := by decide +kernel
theorem dX10_tells_83 : decode cX10_tells 83 = .ok (.aload_n 0, 1) := by decide +kernel
theorem dX10_tells_84 : decode cX10_tells 84 = .ok (.getfield 13, 3) := by decide +kernel
theorem dX10_tells_87 : decode cX10_tells 87 = .ok (.bipush 17, 2) := by decide +kernel
theorem dX10_tells_89 : decode cX10_tells 89 = .ok (.iload_n 3, 1) := by decide +kernel
theorem dX10_tells_90 : decode cX10_tells 90 = .ok (.iadd, 1) := by decide +kernel
theorem dX10_tells_91 : decode cX10_tells 91 = .ok (.iaload, 1) := by decide +kernel
theorem dX10_tells_92 : decode cX10_tells 92 = .ok (.i2l, 1) := by decide +kernel
theorem dX10_tells_93 : decode cX10_tells 93 = .ok (.lastore, 1) := by decide +kernel
theorem dX10_tells_94 : decode cX10_tells 94 = .ok (.aload_n 0, 1) := by decide +kernel
theorem dX10_tells_95 : decode cX10_tells 95 = .ok (.getfield 101, 3) := by decide +kernel
theorem dX10_tells_98 : decode cX10_tells 98 = .ok (.bipush 6, 2) := by decide +kernel
theorem dX10_tells_100 : decode cX10_tells 100 = .ok (.aload_n 0, 1) := by decide +kernel
theorem dX10_tells_101 : decode cX10_tells 101 = .ok (.getfield 13, 3) := by decide +kernel
theorem dX10_tells_104 : decode cX10_tells 104 = .ok (.bipush 23, 2) := by decide +kernel
theorem dX10_tells_106 : decode cX10_tells 106 = .ok (.iload_n 3, 1) := by decide +kernel
theorem dX10_tells_107 : decode cX10_tells 107 = .ok (.iadd, 1) := by decide +kernel
theorem dX10_tells_108 : decode cX10_tells 108 = .ok (.iaload, 1) := by decide +kernel
theorem dX10_tells_109 : decode cX10_tells 109 = .ok (.i2l, 1) := by decide +kernel
theorem dX10_tells_110 : decode cX10_tells 110 = .ok (.lastore, 1) := by decide +kernel
theorem dX10_tells_111 : decode cX10_tells 111 = .ok (.aload_n 0, 1) := by decide +kernel
theorem dX10_tells_112 : decode cX10_tells 112 = .ok (.getfield 101, 3) := by decide +kernel
theorem dX10_tells_115 : decode cX10_tells 115 = .ok (.bipush 7, 2) := by decide +kernel
theorem dX10_tells_117 : decode cX10_tells 117 = .ok (.aload_n 0, 1) := by decide +kernel
theorem dX10_tells_118 : decode cX10_tells 118 = .ok (.getfield 13, 3) := by decide +kernel
theorem dX10_tells_121 : decode cX10_tells 121 = .ok (.bipush 29, 2) := by decide +kernel
theorem dX10_tells_123 : decode cX10_tells 123 = .ok (.iload_n 3, 1) := by decide +kernel
theorem dX10_tells_124 : decode cX10_tells 124 = .ok (.iadd, 1) := by decide +kernel
theorem dX10_tells_125 : decode cX10_tells 125 = .ok (.iaload, 1) := by decide +kernel
theorem dX10_tells_126 : decode cX10_tells 126 = .ok (.iload_n 2, 1) := by decide +kernel
theorem dX10_tells_127 : decode cX10_tells 127 = .ok (.if_icmp .ne 12, 3) := by decide +kernel
theorem dX10_tells_130 : decode cX10_tells 130 = .ok (.aload_n 0, 1) := by decide +kernel
theorem dX10_tells_131 : decode cX10_tells 131 = .ok (.iload_n 3, 1) := by decide +kernel
theorem dX10_tells_132 : decode cX10_tells 132 = .ok (.invokevirtual 401, 3) := by decide +kernel
theorem dX10_tells_135 : decode cX10_tells 135 = .ok (.i2l, 1) := by decide +kernel
theorem dX10_tells_136 : decode cX10_tells 136 = .ok (.goto 6, 3) := by decide +kernel
theorem dX10_tells_139 : decode cX10_tells 139 = .ok (.ldc2_w 251, 3) := by decide +kernel
theorem dX10_tells_142 : decode cX10_tells 142 = .ok (.lastore, 1) := by decide +kernel
theorem dX10_tells_143 : decode cX10_tells 143 = .ok (.aload_n 0, 1) := by decide +kernel
theorem dX10_tells_144 : decode cX10_tells 144 = .ok (.getfield 101, 3) := by decide +kernel
theorem dX10_tells_147 : decode cX10_tells 147 = .ok (.bipush 8, 2) := by decide +kernel
theorem dX10_tells_149 : decode cX10_tells 149 = .ok (.aload_n 0, 1) := by decide +kernel
theorem dX10_tells_150 : decode cX10_tells 150 = .ok (.iconst 0, 1) := by decide +kernel
theorem dX10_tells_151 : decode cX10_tells 151 = .ok (.invokevirtual 398, 3) := by decide +kernel
theorem dX10_tells_154 : decode cX10_tells 154 = .ok (.i2l, 1) := by decide +kernel
theorem dX10_tells_155 : decode cX10_tells 155 = .ok (.lastore, 1) := by decide +kernel
theorem dX10_tells_156 : decode cX10_tells 156 = .ok (.aload_n 0, 1) := by decide +kernel
theorem dX10_tells_157 : decode cX10_tells 157 = .ok (.getfield 101, 3) := by decide +kernel
theorem dX10_tells_160 : decode cX10_tells 160 = .ok (.bipush 9, 2) := by decide +kernel
theorem dX10_tells_162 : decode cX10_tells 162 = .ok (.aload_n 0, 1) := by decide +kernel
theorem dX10_tells_163 : decode cX10_tells 163 = .ok (.iconst 3, 1) := by decide +kernel
theorem dX10_tells_164 : decode cX10_tells 164 = .ok (.invokevirtual 398, 3) := by decide +kernel
theorem dX10_tells_167 : decode cX10_tells 167 = .ok (.i2l, 1) := by decide +kernel
theorem dX10_tells_168 : decode cX10_tells 168 = .ok (.lastore, 1) := by decide +kernel
theorem dX10_tells_169 : decode cX10_tells 169 = .ok (.lload 4, 2) := by decide +kernel
theorem dX10_tells_171 : decode cX10_tells 171 = .ok (.lstore 6, 2) := by decide +kernel
theorem dX10_tells_173 : decode cX10_tells 173 = .ok (.iconst 0, 1) := by decide +kernel
theorem dX10_tells_174 : decode cX10_tells 174 = .ok (.istore 8, 2) := by decide +kernel
theorem dX10_tells_176 : decode cX10_tells 176 = .ok (.iload 8, 2) := by decide +kernel
theorem dX10_tells_178 : decode cX10_tells 178 = .ok (.aload_n 0, 1) := by decide +kernel
theorem dX10_tells_179 : decode cX10_tells 179 = .ok (.getfield 13, 3) := by decide +kernel
theorem dX10_tells_182 : decode cX10_tells 182 = .ok (.aload_n 0, 1) := by decide +kernel
theorem dX10_tells_183 : decode cX10_tells 183 = .ok (.getfield 378, 3) := by decide +kernel
theorem dX10_tells_186 : decode cX10_tells 186 = .ok (.iconst 1, 1) := by decide +kernel
theorem dX10_tells_187 : decode cX10_tells 187 = .ok (.iadd, 1) := by decide +kernel
theorem dX10_tells_188 : decode cX10_tells 188 = .ok (.iaload, 1) := by decide +kernel
theorem dX10_tells_189 : decode cX10_tells 189 = .ok (.if_icmp .ge 58, 3) := by decide +kernel
theorem dX10_tells_192 : decode cX10_tells 192 = .ok (.aload_n 0, 1) := by decide +kernel
theorem dX10_tells_193 : decode cX10_tells 193 = .ok (.getfield 378, 3) := by decide +kernel
theorem dX10_tells_196 : decode cX10_tells 196 = .ok (.iconst 2, 1) := by decide +kernel
theorem dX10_tells_197 : decode cX10_tells 197 = .ok (.iadd, 1) := by decide +kernel
theorem dX10_tells_198 : decode cX10_tells 198 = .ok (.bipush 8, 2) := by decide +kernel
theorem dX10_tells_200 : decode cX10_tells 200 = .ok (.iload 8, 2) := by decide +kernel
theorem dX10_tells_202 : decode cX10_tells 202 = .ok (.imul, 1) := by decide +kernel
theorem dX10_tells_203 : decode cX10_tells 203 = .ok (.iadd, 1) := by decide +kernel
theorem dX10_tells_204 : decode cX10_tells 204 = .ok (.istore 9, 2) := by decide +kernel
theorem dX10_tells_206 : decode cX10_tells 206 = .ok (.aload_n 0, 1) := by decide +kernel
theorem dX10_tells_207 : decode cX10_tells 207 = .ok (.getfield 13, 3) := by decide +kernel
theorem dX10_tells_210 : decode cX10_tells 210 = .ok (.iload 9, 2) := by decide +kernel
theorem dX10_tells_212 : decode cX10_tells 212 = .ok (.iaload, 1) := by decide +kernel
theorem dX10_tells_213 : decode cX10_tells 213 = .ok (.iload_n 1, 1) := by decide +kernel
theorem dX10_tells_214 : decode cX10_tells 214 = .ok (.if_icmp .ne 27, 3) := by decide +kernel
theorem dX10_tells_217 : decode cX10_tells 217 = .ok (.aload_n 0, 1) := by decide +kernel
theorem dX10_tells_218 : decode cX10_tells 218 = .ok (.iload 9, 2) := by decide +kernel
theorem dX10_tells_220 : decode cX10_tells 220 = .ok (.invokevirtual 404, 3) := by decide +kernel
theorem dX10_tells_223 : decode cX10_tells 223 = .ok (.ifCond .eq 18, 3) := by decide +kernel
theorem dX10_tells_226 : decode cX10_tells 226 = .ok (.iload_n 1, 1) := by decide +kernel
theorem dX10_tells_227 : decode cX10_tells 227 = .ok (.iconst 3, 1) := by decide +kernel
theorem dX10_tells_228 : decode cX10_tells 228 = .ok (.if_icmp .ne 7, 3) := by decide +kernel
theorem dX10_tells_231 : decode cX10_tells 231 = .ok (.lconst 1, 1) := by decide +kernel
theorem dX10_tells_232 : decode cX10_tells 232 = .ok (.goto 7, 3) := by decide +kernel
theorem dX10_tells_235 : decode cX10_tells 235 = .ok (.aload_n 0, 1) := by decide +kernel
theorem dX10_tells_236 : decode cX10_tells 236 = .ok (.getfield 395, 3) := by decide +kernel
theorem dX10_tells_239 : decode cX10_tells 239 = .ok (.lstore 6, 2) := by decide +kernel
theorem dX10_tells_241 : decode cX10_tells 241 = .ok (.iinc 8 1, 3) := by decide +kernel
theorem dX10_tells_244 : decode cX10_tells 244 = .ok (.goto (-68), 3) := by decide +kernel
theorem dX10_tells_247 : decode cX10_tells 247 = .ok (.lload 6, 2) := by decide +kernel
theorem dX10_tells_249 : decode cX10_tells 249 = .ok (.lreturn, 1) := by decide +kernel
theorem dX10_finesOf_0 : decode cX10_finesOf 0 = .ok (.aload_n 0, 1) := by decide +kernel
theorem dX10_finesOf_1 : decode cX10_finesOf 1 = .ok (.iconst 0, 1) := by decide +kernel
theorem dX10_finesOf_2 : decode cX10_finesOf 2 = .ok (.iload_n 1, 1) := by decide +kernel
theorem dX10_finesOf_3 : decode cX10_finesOf 3 = .ok (.iload_n 2, 1) := by decide +kernel
theorem dX10_finesOf_4 : decode cX10_finesOf 4 = .ok (.ldc2_w 407, 3) := by decide +kernel
theorem dX10_finesOf_7 : decode cX10_finesOf 7 = .ok (.invokevirtual 409, 3) := by decide +kernel
theorem dX10_finesOf_10 : decode cX10_finesOf 10 = .ok (.iconst 0, 1) := by decide +kernel
theorem dX10_finesOf_11 : decode cX10_finesOf 11 = .ok (.bipush 99, 2) := by decide +kernel
theorem dX10_finesOf_13 : decode cX10_finesOf 13 = .ok (.invokestatic 413, 3) := by decide +kernel
theorem dX10_finesOf_16 : decode cX10_finesOf 16 = .ok (.ireturn, 1) := by decide +kernel
theorem dX10_wearsOf_0 : decode cX10_wearsOf 0 = .ok (.aload_n 0, 1) := by decide +kernel
theorem dX10_wearsOf_1 : decode cX10_wearsOf 1 = .ok (.iconst 1, 1) := by decide +kernel
theorem dX10_wearsOf_2 : decode cX10_wearsOf 2 = .ok (.iload_n 1, 1) := by decide +kernel
theorem dX10_wearsOf_3 : decode cX10_wearsOf 3 = .ok (.iload_n 2, 1) := by decide +kernel
theorem dX10_wearsOf_4 : decode cX10_wearsOf 4 = .ok (.lconst 1, 1) := by decide +kernel
theorem dX10_wearsOf_5 : decode cX10_wearsOf 5 = .ok (.invokevirtual 409, 3) := by decide +kernel
theorem dX10_wearsOf_8 : decode cX10_wearsOf 8 = .ok (.iconst 0, 1) := by decide +kernel
theorem dX10_wearsOf_9 : decode cX10_wearsOf 9 = .ok (.bipush 20, 2) := by decide +kernel
theorem dX10_wearsOf_11 : decode cX10_wearsOf 11 = .ok (.invokestatic 413, 3) := by decide +kernel
theorem dX10_wearsOf_14 : decode cX10_wearsOf 14 = .ok (.ireturn, 1) := by decide +kernel
theorem dX10_takesOf_0 : decode cX10_takesOf 0 = .ok (.aload_n 0, 1) := by decide +kernel
theorem dX10_takesOf_1 : decode cX10_takesOf 1 = .ok (.iconst 2, 1) := by decide +kernel
theorem dX10_takesOf_2 : decode cX10_takesOf 2 = .ok (.iload_n 1, 1) := by decide +kernel
theorem dX10_takesOf_3 : decode cX10_takesOf 3 = .ok (.iload_n 2, 1) := by decide +kernel
theorem dX10_takesOf_4 : decode cX10_takesOf 4 = .ok (.aload_n 0, 1) := by decide +kernel
theorem dX10_takesOf_5 : decode cX10_takesOf 5 = .ok (.getfield 13, 3) := by decide +kernel
theorem dX10_takesOf_8 : decode cX10_takesOf 8 = .ok (.bipush 71, 2) := by decide +kernel
theorem dX10_takesOf_10 : decode cX10_takesOf 10 = .ok (.iload_n 1, 1) := by decide +kernel
theorem dX10_takesOf_11 : decode cX10_takesOf 11 = .ok (.iadd, 1) := by decide +kernel
theorem dX10_takesOf_12 : decode cX10_takesOf 12 = .ok (.iaload, 1) := by decide +kernel
theorem dX10_takesOf_13 : decode cX10_takesOf 13 = .ok (.i2l, 1) := by decide +kernel
theorem dX10_takesOf_14 : decode cX10_takesOf 14 = .ok (.invokevirtual 409, 3) := by decide +kernel
theorem dX10_takesOf_17 : decode cX10_takesOf 17 = .ok (.iconst 1, 1) := by decide +kernel
theorem dX10_takesOf_18 : decode cX10_takesOf 18 = .ok (.bipush 99, 2) := by decide +kernel
theorem dX10_takesOf_20 : decode cX10_takesOf 20 = .ok (.invokestatic 413, 3) := by decide +kernel
theorem dX10_takesOf_23 : decode cX10_takesOf 23 = .ok (.ireturn, 1) := by decide +kernel
theorem dX10_isBarred_0 : decode cX10_isBarred 0 = .ok (.aload_n 0, 1) := by decide +kernel
theorem dX10_isBarred_1 : decode cX10_isBarred 1 = .ok (.iconst 3, 1) := by decide +kernel
theorem dX10_isBarred_2 : decode cX10_isBarred 2 = .ok (.iload_n 1, 1) := by decide +kernel
theorem dX10_isBarred_3 : decode cX10_isBarred 3 = .ok (.iload_n 2, 1) := by decide +kernel
theorem dX10_isBarred_4 : decode cX10_isBarred 4 = .ok (.lconst 0, 1) := by decide +kernel
theorem dX10_isBarred_5 : decode cX10_isBarred 5 = .ok (.invokevirtual 409, 3) := by decide +kernel
theorem dX10_isBarred_8 : decode cX10_isBarred 8 = .ok (.lconst 1, 1) := by decide +kernel
theorem dX10_isBarred_9 : decode cX10_isBarred 9 = .ok (.lcmp, 1) := by decide +kernel
theorem dX10_isBarred_10 : decode cX10_isBarred 10 = .ok (.ifCond .ne 7, 3) := by decide +kernel
theorem dX10_isBarred_13 : decode cX10_isBarred 13 = .ok (.iconst 1, 1) := by decide +kernel
theorem dX10_isBarred_14 : decode cX10_isBarred 14 = .ok (.goto 4, 3) := by decide +kernel
theorem dX10_isBarred_17 : decode cX10_isBarred 17 = .ok (.iconst 0, 1) := by decide +kernel
theorem dX10_isBarred_18 : decode cX10_isBarred 18 = .ok (.ireturn, 1) := by decide +kernel
theorem dX10_isFitting_0 : decode cX10_isFitting 0 = .ok (.aload_n 0, 1) := by decide +kernel
theorem dX10_isFitting_1 : decode cX10_isFitting 1 = .ok (.getfield 13, 3) := by decide +kernel
theorem dX10_isFitting_4 : decode cX10_isFitting 4 = .ok (.bipush 79, 2) := by decide +kernel
theorem dX10_isFitting_6 : decode cX10_isFitting 6 = .ok (.iload_n 1, 1) := by decide +kernel
theorem dX10_isFitting_7 : decode cX10_isFitting 7 = .ok (.iadd, 1) := by decide +kernel
theorem dX10_isFitting_8 : decode cX10_isFitting 8 = .ok (.iaload, 1) := by decide +kernel
theorem dX10_isFitting_9 : decode cX10_isFitting 9 = .ok (.aload_n 0, 1) := by decide +kernel
theorem dX10_isFitting_10 : decode cX10_isFitting 10 = .ok (.getfield 13, 3) := by decide +kernel
theorem dX10_isFitting_13 : decode cX10_isFitting 13 = .ok (.bipush 17, 2) := by decide +kernel
theorem dX10_isFitting_15 : decode cX10_isFitting 15 = .ok (.iload_n 2, 1) := by decide +kernel
theorem dX10_isFitting_16 : decode cX10_isFitting 16 = .ok (.iadd, 1) := by decide +kernel
theorem dX10_isFitting_17 : decode cX10_isFitting 17 = .ok (.iaload, 1) := by decide +kernel
theorem dX10_isFitting_18 : decode cX10_isFitting 18 = .ok (.invokestatic 417, 3) := by decide +kernel
theorem dX10_isFitting_21 : decode cX10_isFitting 21 = .ok (.ireturn, 1) := by decide +kernel
theorem dX10_canHave_0 : decode cX10_canHave 0 = .ok (.aload_n 0, 1) := by decide +kernel
theorem dX10_canHave_1 : decode cX10_canHave 1 = .ok (.iload_n 1, 1) := by decide +kernel
theorem dX10_canHave_2 : decode cX10_canHave 2 = .ok (.invokevirtual 198, 3) := by decide +kernel
theorem dX10_canHave_5 : decode cX10_canHave 5 = .ok (.iconst (-1), 1) := by decide +kernel
theorem dX10_canHave_6 : decode cX10_canHave 6 = .ok (.if_icmp .ne 64, 3) := by decide +kernel
theorem dX10_canHave_9 : decode cX10_canHave 9 = .ok (.aload_n 0, 1) := by decide +kernel
theorem dX10_canHave_10 : decode cX10_canHave 10 = .ok (.getfield 13, 3) := by decide +kernel
theorem dX10_canHave_13 : decode cX10_canHave 13 = .ok (.bipush 29, 2) := by decide +kernel
theorem dX10_canHave_15 : decode cX10_canHave 15 = .ok (.iload_n 2, 1) := by decide +kernel
theorem dX10_canHave_16 : decode cX10_canHave 16 = .ok (.iadd, 1) := by decide +kernel
theorem dX10_canHave_17 : decode cX10_canHave 17 = .ok (.iaload, 1) := by decide +kernel
theorem dX10_canHave_18 : decode cX10_canHave 18 = .ok (.iconst (-1), 1) := by decide +kernel
theorem dX10_canHave_19 : decode cX10_canHave 19 = .ok (.if_icmp .ne 51, 3) := by decide +kernel
theorem dX10_canHave_22 : decode cX10_canHave 22 = .ok (.aload_n 0, 1) := by decide +kernel
theorem dX10_canHave_23 : decode cX10_canHave 23 = .ok (.getfield 13, 3) := by decide +kernel
theorem dX10_canHave_26 : decode cX10_canHave 26 = .ok (.bipush 95, 2) := by decide +kernel
theorem dX10_canHave_28 : decode cX10_canHave 28 = .ok (.iload_n 2, 1) := by decide +kernel
theorem dX10_canHave_29 : decode cX10_canHave 29 = .ok (.iadd, 1) := by decide +kernel
theorem dX10_canHave_30 : decode cX10_canHave 30 = .ok (.iaload, 1) := by decide +kernel
theorem dX10_canHave_31 : decode cX10_canHave 31 = .ok (.ifCond .ne 39, 3) := by decide +kernel
theorem dX10_canHave_34 : decode cX10_canHave 34 = .ok (.aload_n 0, 1) := by decide +kernel
theorem dX10_canHave_35 : decode cX10_canHave 35 = .ok (.getfield 13, 3) := by decide +kernel
theorem dX10_canHave_38 : decode cX10_canHave 38 = .ok (.bipush 23, 2) := by decide +kernel
theorem dX10_canHave_40 : decode cX10_canHave 40 = .ok (.iload_n 2, 1) := by decide +kernel
theorem dX10_canHave_41 : decode cX10_canHave 41 = .ok (.iadd, 1) := by decide +kernel
theorem dX10_canHave_42 : decode cX10_canHave 42 = .ok (.iaload, 1) := by decide +kernel
theorem dX10_canHave_43 : decode cX10_canHave 43 = .ok (.bipush 99, 2) := by decide +kernel
theorem dX10_canHave_45 : decode cX10_canHave 45 = .ok (.if_icmp .ge 25, 3) := by decide +kernel
theorem dX10_canHave_48 : decode cX10_canHave 48 = .ok (.aload_n 0, 1) := by decide +kernel
theorem dX10_canHave_49 : decode cX10_canHave 49 = .ok (.iload_n 1, 1) := by decide +kernel
theorem dX10_canHave_50 : decode cX10_canHave 50 = .ok (.iload_n 2, 1) := by decide +kernel
theorem dX10_canHave_51 : decode cX10_canHave 51 = .ok (.invokevirtual 421, 3) := by decide +kernel
theorem dX10_canHave_54 : decode cX10_canHave 54 = .ok (.ifCond .eq 16, 3) := by decide +kernel
theorem dX10_canHave_57 : decode cX10_canHave 57 = .ok (.aload_n 0, 1) := by decide +kernel
theorem dX10_canHave_58 : decode cX10_canHave 58 = .ok (.iload_n 1, 1) := by decide +kernel
theorem dX10_canHave_59 : decode cX10_canHave 59 = .ok (.iload_n 2, 1) := by decide +kernel
theorem dX10_canHave_60 : decode cX10_canHave 60 = .ok (.invokevirtual 424, 3) := by decide +kernel
theorem dX10_canHave_63 : decode cX10_canHave 63 = .ok (.ifCond .ne 7, 3) := by decide +kernel
theorem dX10_canHave_66 : decode cX10_canHave 66 = .ok (.iconst 1, 1) := by decide +kernel
theorem dX10_canHave_67 : decode cX10_canHave 67 = .ok (.goto 4, 3) := by decide +kernel
theorem dX10_canHave_70 : decode cX10_canHave 70 = .ok (.iconst 0, 1) := by decide +kernel
theorem dX10_canHave_71 : decode cX10_canHave 71 = .ok (.ireturn, 1) := by decide +kernel
theorem dX10_asks_0 : decode cX10_asks 0 = .ok (.aload_n 0, 1) := by decide +kernel
theorem dX10_asks_1 : decode cX10_asks 1 = .ok (.iconst 0, 1) := by decide +kernel
theorem dX10_asks_2 : decode cX10_asks 2 = .ok (.putfield 157, 3) := by decide +kernel
theorem dX10_asks_5 : decode cX10_asks 5 = .ok (.aload_n 0, 1) := by decide +kernel
theorem dX10_asks_6 : decode cX10_asks 6 = .ok (.iload_n 1, 1) := by decide +kernel
theorem dX10_asks_7 : decode cX10_asks 7 = .ok (.invokevirtual 194, 3) := by decide +kernel
theorem dX10_asks_10 : decode cX10_asks 10 = .ok (.ifCond .eq 11, 3) := by decide +kernel
theorem dX10_asks_13 : decode cX10_asks 13 = .ok (.aload_n 0, 1) := by decide +kernel
theorem dX10_asks_14 : decode cX10_asks 14 = .ok (.iload_n 2, 1) := by decide +kernel
theorem dX10_asks_15 : decode cX10_asks 15 = .ok (.invokevirtual 201, 3) := by decide +kernel
theorem dX10_asks_18 : decode cX10_asks 18 = .ok (.ifCond .ne 5, 3) := by decide +kernel
theorem dX10_asks_21 : decode cX10_asks 21 = .ok (.iconst (-1), 1) := by decide +kernel
theorem dX10_asks_22 : decode cX10_asks 22 = .ok (.ireturn, 1) := by decide +kernel
theorem dX10_asks_23 : decode cX10_asks 23 = .ok (.iload_n 3, 1) := by decide +kernel
theorem dX10_asks_24 : decode cX10_asks 24 = .ok (.tableswitch 106 0 5 #[40, 47, 54, 61, 76, 91], 40) := by decide +kernel
theorem dX10_asks_64 : decode cX10_asks 64 = .ok (.aload_n 0, 1) := by decide +kernel
theorem dX10_asks_65 : decode cX10_asks 65 = .ok (.iload_n 1, 1) := by decide +kernel
theorem dX10_asks_66 : decode cX10_asks 66 = .ok (.iload_n 2, 1) := by decide +kernel
theorem dX10_asks_67 : decode cX10_asks 67 = .ok (.invokevirtual 427, 3) := by decide +kernel
theorem dX10_asks_70 : decode cX10_asks 70 = .ok (.ireturn, 1) := by decide +kernel
theorem dX10_asks_71 : decode cX10_asks 71 = .ok (.aload_n 0, 1) := by decide +kernel
theorem dX10_asks_72 : decode cX10_asks 72 = .ok (.iload_n 1, 1) := by decide +kernel
theorem dX10_asks_73 : decode cX10_asks 73 = .ok (.iload_n 2, 1) := by decide +kernel
theorem dX10_asks_74 : decode cX10_asks 74 = .ok (.invokevirtual 430, 3) := by decide +kernel
theorem dX10_asks_77 : decode cX10_asks 77 = .ok (.ireturn, 1) := by decide +kernel
theorem dX10_asks_78 : decode cX10_asks 78 = .ok (.aload_n 0, 1) := by decide +kernel
theorem dX10_asks_79 : decode cX10_asks 79 = .ok (.iload_n 1, 1) := by decide +kernel
theorem dX10_asks_80 : decode cX10_asks 80 = .ok (.iload_n 2, 1) := by decide +kernel
theorem dX10_asks_81 : decode cX10_asks 81 = .ok (.invokevirtual 433, 3) := by decide +kernel
theorem dX10_asks_84 : decode cX10_asks 84 = .ok (.ireturn, 1) := by decide +kernel
theorem dX10_asks_85 : decode cX10_asks 85 = .ok (.aload_n 0, 1) := by decide +kernel
theorem dX10_asks_86 : decode cX10_asks 86 = .ok (.iload_n 1, 1) := by decide +kernel
theorem dX10_asks_87 : decode cX10_asks 87 = .ok (.iload_n 2, 1) := by decide +kernel
theorem dX10_asks_88 : decode cX10_asks 88 = .ok (.invokevirtual 424, 3) := by decide +kernel
theorem dX10_asks_91 : decode cX10_asks 91 = .ok (.ifCond .eq 7, 3) := by decide +kernel
theorem dX10_asks_94 : decode cX10_asks 94 = .ok (.iconst 1, 1) := by decide +kernel
theorem dX10_asks_95 : decode cX10_asks 95 = .ok (.goto 4, 3) := by decide +kernel
theorem dX10_asks_98 : decode cX10_asks 98 = .ok (.iconst 0, 1) := by decide +kernel
theorem dX10_asks_99 : decode cX10_asks 99 = .ok (.ireturn, 1) := by decide +kernel
theorem dX10_asks_100 : decode cX10_asks 100 = .ok (.aload_n 0, 1) := by decide +kernel
theorem dX10_asks_101 : decode cX10_asks 101 = .ok (.iload_n 1, 1) := by decide +kernel
theorem dX10_asks_102 : decode cX10_asks 102 = .ok (.iload_n 2, 1) := by decide +kernel
theorem dX10_asks_103 : decode cX10_asks 103 = .ok (.invokevirtual 421, 3) := by decide +kernel
theorem dX10_asks_106 : decode cX10_asks 106 = .ok (.ifCond .eq 7, 3) := by decide +kernel
theorem dX10_asks_109 : decode cX10_asks 109 = .ok (.iconst 1, 1) := by decide +kernel
theorem dX10_asks_110 : decode cX10_asks 110 = .ok (.goto 4, 3) := by decide +kernel
theorem dX10_asks_113 : decode cX10_asks 113 = .ok (.iconst 0, 1) := by decide +kernel
theorem dX10_asks_114 : decode cX10_asks 114 = .ok (.ireturn, 1) := by decide +kernel
theorem dX10_asks_115 : decode cX10_asks 115 = .ok (.aload_n 0, 1) := by decide +kernel
theorem dX10_asks_116 : decode cX10_asks 116 = .ok (.iload_n 1, 1) := by decide +kernel
theorem dX10_asks_117 : decode cX10_asks 117 = .ok (.iload_n 2, 1) := by decide +kernel
theorem dX10_asks_118 : decode cX10_asks 118 = .ok (.invokevirtual 436, 3) := by decide +kernel
theorem dX10_asks_121 : decode cX10_asks 121 = .ok (.ifCond .eq 7, 3) := by decide +kernel
theorem dX10_asks_124 : decode cX10_asks 124 = .ok (.iconst 1, 1) := by decide +kernel
theorem dX10_asks_125 : decode cX10_asks 125 = .ok (.goto 4, 3) := by decide +kernel
theorem dX10_asks_128 : decode cX10_asks 128 = .ok (.iconst 0, 1) := by decide +kernel
theorem dX10_asks_129 : decode cX10_asks 129 = .ok (.ireturn, 1) := by decide +kernel
theorem dX10_asks_130 : decode cX10_asks 130 = .ok (.iconst (-1), 1) := by decide +kernel
theorem dX10_asks_131 : decode cX10_asks 131 = .ok (.ireturn, 1) := by decide +kernel
theorem dX10_dueOf_0 : decode cX10_dueOf 0 = .ok (.aload_n 0, 1) := by decide +kernel
theorem dX10_dueOf_1 : decode cX10_dueOf 1 = .ok (.getfield 13, 3) := by decide +kernel
theorem dX10_dueOf_4 : decode cX10_dueOf 4 = .ok (.bipush 29, 2) := by decide +kernel
theorem dX10_dueOf_6 : decode cX10_dueOf 6 = .ok (.iload_n 1, 1) := by decide +kernel
theorem dX10_dueOf_7 : decode cX10_dueOf 7 = .ok (.iadd, 1) := by decide +kernel
theorem dX10_dueOf_8 : decode cX10_dueOf 8 = .ok (.iaload, 1) := by decide +kernel
theorem dX10_dueOf_9 : decode cX10_dueOf 9 = .ok (.istore_n 2, 1) := by decide +kernel
theorem dX10_dueOf_10 : decode cX10_dueOf 10 = .ok (.aload_n 0, 1) := by decide +kernel
theorem dX10_dueOf_11 : decode cX10_dueOf 11 = .ok (.iload_n 1, 1) := by decide +kernel
theorem dX10_dueOf_12 : decode cX10_dueOf 12 = .ok (.invokevirtual 401, 3) := by decide +kernel
theorem dX10_dueOf_15 : decode cX10_dueOf 15 = .ok (.aload_n 0, 1) := by decide +kernel
theorem dX10_dueOf_16 : decode cX10_dueOf 16 = .ok (.iconst 1, 1) := by decide +kernel
theorem dX10_dueOf_17 : decode cX10_dueOf 17 = .ok (.invokevirtual 398, 3) := by decide +kernel
theorem dX10_dueOf_20 : decode cX10_dueOf 20 = .ok (.isub, 1) := by decide +kernel
theorem dX10_dueOf_21 : decode cX10_dueOf 21 = .ok (.i2l, 1) := by decide +kernel
theorem dX10_dueOf_22 : decode cX10_dueOf 22 = .ok (.aload_n 0, 1) := by decide +kernel
theorem dX10_dueOf_23 : decode cX10_dueOf 23 = .ok (.iload_n 2, 1) := by decide +kernel
theorem dX10_dueOf_24 : decode cX10_dueOf 24 = .ok (.iload_n 1, 1) := by decide +kernel
theorem dX10_dueOf_25 : decode cX10_dueOf 25 = .ok (.invokevirtual 427, 3) := by decide +kernel
theorem dX10_dueOf_28 : decode cX10_dueOf 28 = .ok (.i2l, 1) := by decide +kernel
theorem dX10_dueOf_29 : decode cX10_dueOf 29 = .ok (.lmul, 1) := by decide +kernel
theorem dX10_dueOf_30 : decode cX10_dueOf 30 = .ok (.lstore_n 3, 1) := by decide +kernel
theorem dX10_dueOf_31 : decode cX10_dueOf 31 = .ok (.lload_n 3, 1) := by decide +kernel
theorem dX10_dueOf_32 : decode cX10_dueOf 32 = .ok (.iconst 0, 1) := by decide +kernel
theorem dX10_dueOf_33 : decode cX10_dueOf 33 = .ok (.aload_n 0, 1) := by decide +kernel
theorem dX10_dueOf_34 : decode cX10_dueOf 34 = .ok (.getfield 13, 3) := by decide +kernel
theorem dX10_dueOf_37 : decode cX10_dueOf 37 = .ok (.bipush 9, 2) := by decide +kernel
theorem dX10_dueOf_39 : decode cX10_dueOf 39 = .ok (.iload_n 2, 1) := by decide +kernel
theorem dX10_dueOf_40 : decode cX10_dueOf 40 = .ok (.iadd, 1) := by decide +kernel
theorem dX10_dueOf_41 : decode cX10_dueOf 41 = .ok (.iaload, 1) := by decide +kernel
theorem dX10_dueOf_42 : decode cX10_dueOf 42 = .ok (.invokestatic 413, 3) := by decide +kernel
theorem dX10_dueOf_45 : decode cX10_dueOf 45 = .ok (.ireturn, 1) := by decide +kernel
theorem dX10_leaveIt_0 : decode cX10_leaveIt 0 = .ok (.aload_n 0, 1) := by decide +kernel
theorem dX10_leaveIt_1 : decode cX10_leaveIt 1 = .ok (.getfield 13, 3) := by decide +kernel
theorem dX10_leaveIt_4 : decode cX10_leaveIt 4 = .ok (.bipush 29, 2) := by decide +kernel
theorem dX10_leaveIt_6 : decode cX10_leaveIt 6 = .ok (.iload_n 1, 1) := by decide +kernel
theorem dX10_leaveIt_7 : decode cX10_leaveIt 7 = .ok (.iadd, 1) := by decide +kernel
theorem dX10_leaveIt_8 : decode cX10_leaveIt 8 = .ok (.iaload, 1) := by decide +kernel
theorem dX10_leaveIt_9 : decode cX10_leaveIt 9 = .ok (.istore_n 2, 1) := by decide +kernel
theorem dX10_leaveIt_10 : decode cX10_leaveIt 10 = .ok (.iload_n 2, 1) := by decide +kernel
theorem dX10_leaveIt_11 : decode cX10_leaveIt 11 = .ok (.iconst (-1), 1) := by decide +kernel
theorem dX10_leaveIt_12 : decode cX10_leaveIt 12 = .ok (.if_icmp .ne 5, 3) := by decide +kernel
theorem dX10_leaveIt_15 : decode cX10_leaveIt 15 = .ok (.iconst 0, 1) := by decide +kernel
theorem dX10_leaveIt_16 : decode cX10_leaveIt 16 = .ok (.ireturn, 1) := by decide +kernel
theorem dX10_leaveIt_17 : decode cX10_leaveIt 17 = .ok (.aload_n 0, 1) := by decide +kernel
theorem dX10_leaveIt_18 : decode cX10_leaveIt 18 = .ok (.iload_n 1, 1) := by decide +kernel
theorem dX10_leaveIt_19 : decode cX10_leaveIt 19 = .ok (.invokevirtual 439, 3) := by decide +kernel
theorem dX10_leaveIt_22 : decode cX10_leaveIt 22 = .ok (.istore_n 3, 1) := by decide +kernel
theorem dX10_leaveIt_23 : decode cX10_leaveIt 23 = .ok (.aload_n 0, 1) := by decide +kernel
theorem dX10_leaveIt_24 : decode cX10_leaveIt 24 = .ok (.iload_n 1, 1) := by decide +kernel
theorem dX10_leaveIt_25 : decode cX10_leaveIt 25 = .ok (.invokevirtual 401, 3) := by decide +kernel
theorem dX10_leaveIt_28 : decode cX10_leaveIt 28 = .ok (.aload_n 0, 1) := by decide +kernel
theorem dX10_leaveIt_29 : decode cX10_leaveIt 29 = .ok (.iload_n 2, 1) := by decide +kernel
theorem dX10_leaveIt_30 : decode cX10_leaveIt 30 = .ok (.iload_n 1, 1) := by decide +kernel
theorem dX10_leaveIt_31 : decode cX10_leaveIt 31 = .ok (.invokevirtual 433, 3) := by decide +kernel
theorem dX10_leaveIt_34 : decode cX10_leaveIt 34 = .ok (.if_icmp .lt 7, 3) := by decide +kernel
theorem dX10_leaveIt_37 : decode cX10_leaveIt 37 = .ok (.iconst 1, 1) := by decide +kernel
theorem dX10_leaveIt_38 : decode cX10_leaveIt 38 = .ok (.goto 4, 3) := by decide +kernel
theorem dX10_leaveIt_41 : decode cX10_leaveIt 41 = .ok (.iconst 0, 1) := by decide +kernel
theorem dX10_leaveIt_42 : decode cX10_leaveIt 42 = .ok (.istore 4, 2) := by decide +kernel
theorem dX10_leaveIt_44 : decode cX10_leaveIt 44 = .ok (.aload_n 0, 1) := by decide +kernel
theorem dX10_leaveIt_45 : decode cX10_leaveIt 45 = .ok (.getfield 13, 3) := by decide +kernel
theorem dX10_leaveIt_48 : decode cX10_leaveIt 48 = .ok (.bipush 41, 2) := by decide +kernel
theorem dX10_leaveIt_50 : decode cX10_leaveIt 50 = .ok (.iload_n 1, 1) := by decide +kernel
theorem dX10_leaveIt_51 : decode cX10_leaveIt 51 = .ok (.iadd, 1) := by decide +kernel
theorem dX10_leaveIt_52 : decode cX10_leaveIt 52 = .ok (.dup2, 1) := by decide +kernel
theorem dX10_leaveIt_53 : decode cX10_leaveIt 53 = .ok (.iaload, 1) := by decide +kernel
theorem dX10_leaveIt_54 : decode cX10_leaveIt 54 = .ok (.iload 4, 2) := by decide +kernel
theorem dX10_leaveIt_56 : decode cX10_leaveIt 56 = .ok (.ifCond .eq 9, 3) := by decide +kernel
theorem dX10_leaveIt_59 : decode cX10_leaveIt 59 = .ok (.iconst 1, 1) := by decide +kernel
theorem dX10_leaveIt_60 : decode cX10_leaveIt 60 = .ok (.iload_n 2, 1) := by decide +kernel
theorem dX10_leaveIt_61 : decode cX10_leaveIt 61 = .ok (.ishl, 1) := by decide +kernel
theorem dX10_leaveIt_62 : decode cX10_leaveIt 62 = .ok (.goto 4, 3) := by decide +kernel
theorem dX10_leaveIt_65 : decode cX10_leaveIt 65 = .ok (.iconst 0, 1) := by decide +kernel
theorem dX10_leaveIt_66 : decode cX10_leaveIt 66 = .ok (.ior, 1) := by decide +kernel
theorem dX10_leaveIt_67 : decode cX10_leaveIt 67 = .ok (.iastore, 1) := by decide +kernel
theorem dX10_leaveIt_68 : decode cX10_leaveIt 68 = .ok (.aload_n 0, 1) := by decide +kernel
theorem dX10_leaveIt_69 : decode cX10_leaveIt 69 = .ok (.getfield 13, 3) := by decide +kernel
theorem dX10_leaveIt_72 : decode cX10_leaveIt 72 = .ok (.bipush 17, 2) := by decide +kernel
theorem dX10_leaveIt_74 : decode cX10_leaveIt 74 = .ok (.iload_n 1, 1) := by decide +kernel
theorem dX10_leaveIt_75 : decode cX10_leaveIt 75 = .ok (.iadd, 1) := by decide +kernel
theorem dX10_leaveIt_76 : decode cX10_leaveIt 76 = .ok (.dup2, 1) := by decide +kernel
theorem dX10_leaveIt_77 : decode cX10_leaveIt 77 = .ok (.iaload, 1) := by decide +kernel
theorem dX10_leaveIt_78 : decode cX10_leaveIt 78 = .ok (.iload 4, 2) := by decide +kernel
theorem dX10_leaveIt_80 : decode cX10_leaveIt 80 = .ok (.ifCond .eq 15, 3) := by decide +kernel
theorem dX10_leaveIt_83 : decode cX10_leaveIt 83 = .ok (.aload_n 0, 1) := by decide +kernel
theorem dX10_leaveIt_84 : decode cX10_leaveIt 84 = .ok (.getfield 13, 3) := by decide +kernel
theorem dX10_leaveIt_87 : decode cX10_leaveIt 87 = .ok (.bipush 87, 2) := by decide +kernel
theorem dX10_leaveIt_89 : decode cX10_leaveIt 89 = .ok (.iload_n 2, 1) := by decide +kernel
theorem dX10_leaveIt_90 : decode cX10_leaveIt 90 = .ok (.iadd, 1) := by decide +kernel
theorem dX10_leaveIt_91 : decode cX10_leaveIt 91 = .ok (.iaload, 1) := by decide +kernel
theorem dX10_leaveIt_92 : decode cX10_leaveIt 92 = .ok (.goto 4, 3) := by decide +kernel
theorem dX10_leaveIt_95 : decode cX10_leaveIt 95 = .ok (.iconst 0, 1) := by decide +kernel
theorem dX10_leaveIt_96 : decode cX10_leaveIt 96 = .ok (.ior, 1) := by decide +kernel
theorem dX10_leaveIt_97 : decode cX10_leaveIt 97 = .ok (.iastore, 1) := by decide +kernel
theorem dX10_leaveIt_98 : decode cX10_leaveIt 98 = .ok (.aload_n 0, 1) := by decide +kernel
theorem dX10_leaveIt_99 : decode cX10_leaveIt 99 = .ok (.getfield 13, 3) := by decide +kernel
theorem dX10_leaveIt_102 : decode cX10_leaveIt 102 = .ok (.bipush 9, 2) := by decide +kernel
theorem dX10_leaveIt_104 : decode cX10_leaveIt 104 = .ok (.iload_n 2, 1) := by decide +kernel
theorem dX10_leaveIt_105 : decode cX10_leaveIt 105 = .ok (.iadd, 1) := by decide +kernel
theorem dX10_leaveIt_106 : decode cX10_leaveIt 106 = .ok (.dup2, 1) := by decide +kernel
theorem dX10_leaveIt_107 : decode cX10_leaveIt 107 = .ok (.iaload, 1) := by decide +kernel
theorem dX10_leaveIt_108 : decode cX10_leaveIt 108 = .ok (.iload_n 3, 1) := by decide +kernel
theorem dX10_leaveIt_109 : decode cX10_leaveIt 109 = .ok (.isub, 1) := by decide +kernel
theorem dX10_leaveIt_110 : decode cX10_leaveIt 110 = .ok (.iastore, 1) := by decide +kernel
theorem dX10_leaveIt_111 : decode cX10_leaveIt 111 = .ok (.aload_n 0, 1) := by decide +kernel
theorem dX10_leaveIt_112 : decode cX10_leaveIt 112 = .ok (.getfield 13, 3) := by decide +kernel
theorem dX10_leaveIt_115 : decode cX10_leaveIt 115 = .ok (.bipush 29, 2) := by decide +kernel
theorem dX10_leaveIt_117 : decode cX10_leaveIt 117 = .ok (.iload_n 1, 1) := by decide +kernel
theorem dX10_leaveIt_118 : decode cX10_leaveIt 118 = .ok (.iadd, 1) := by decide +kernel
theorem dX10_leaveIt_119 : decode cX10_leaveIt 119 = .ok (.iconst (-1), 1) := by decide +kernel
theorem dX10_leaveIt_120 : decode cX10_leaveIt 120 = .ok (.iastore, 1) := by decide +kernel
theorem dX10_leaveIt_121 : decode cX10_leaveIt 121 = .ok (.aload_n 0, 1) := by decide +kernel
theorem dX10_leaveIt_122 : decode cX10_leaveIt 122 = .ok (.getfield 13, 3) := by decide +kernel
theorem dX10_leaveIt_125 : decode cX10_leaveIt 125 = .ok (.bipush 35, 2) := by decide +kernel
theorem dX10_leaveIt_127 : decode cX10_leaveIt 127 = .ok (.iload_n 1, 1) := by decide +kernel
theorem dX10_leaveIt_128 : decode cX10_leaveIt 128 = .ok (.iadd, 1) := by decide +kernel
theorem dX10_leaveIt_129 : decode cX10_leaveIt 129 = .ok (.iconst (-1), 1) := by decide +kernel
theorem dX10_leaveIt_130 : decode cX10_leaveIt 130 = .ok (.iastore, 1) := by decide +kernel
theorem dX10_leaveIt_131 : decode cX10_leaveIt 131 = .ok (.iload_n 3, 1) := by decide +kernel
theorem dX10_leaveIt_132 : decode cX10_leaveIt 132 = .ok (.ireturn, 1) := by decide +kernel
theorem dX10_canLend_0 : decode cX10_canLend 0 = .ok (.aload_n 0, 1) := by decide +kernel
theorem dX10_canLend_1 : decode cX10_canLend 1 = .ok (.bipush 18, 2) := by decide +kernel
theorem dX10_canLend_3 : decode cX10_canLend 3 = .ok (.invokevirtual 170, 3) := by decide +kernel
theorem dX10_canLend_6 : decode cX10_canLend 6 = .ok (.aload_n 0, 1) := by decide +kernel
theorem dX10_canLend_7 : decode cX10_canLend 7 = .ok (.iload_n 2, 1) := by decide +kernel
theorem dX10_canLend_8 : decode cX10_canLend 8 = .ok (.invokevirtual 198, 3) := by decide +kernel
theorem dX10_canLend_11 : decode cX10_canLend 11 = .ok (.iconst (-1), 1) := by decide +kernel
theorem dX10_canLend_12 : decode cX10_canLend 12 = .ok (.if_icmp .ne 7, 3) := by decide +kernel
theorem dX10_canLend_15 : decode cX10_canLend 15 = .ok (.iconst 1, 1) := by decide +kernel
theorem dX10_canLend_16 : decode cX10_canLend 16 = .ok (.goto 4, 3) := by decide +kernel
theorem dX10_canLend_19 : decode cX10_canLend 19 = .ok (.iconst 0, 1) := by decide +kernel
theorem dX10_canLend_20 : decode cX10_canLend 20 = .ok (.istore_n 3, 1) := by decide +kernel
theorem dX10_canLend_21 : decode cX10_canLend 21 = .ok (.aload_n 0, 1) := by decide +kernel
