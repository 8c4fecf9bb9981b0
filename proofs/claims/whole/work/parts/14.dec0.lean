theorem dX0_init_0 : decode cX0_init 0 = .ok (.aload_n 0, 1) := by decide +kernel
theorem dX0_init_1 : decode cX0_init 1 = .ok (.invokespecial 3, 3) := by decide +kernel
theorem dX0_init_4 : decode cX0_init 4 = .ok (.aload_n 0, 1) := by decide +kernel
theorem dX0_init_5 : decode cX0_init 5 = .ok (.bipush 64, 2) := by decide +kernel
theorem dX0_init_7 : decode cX0_init 7 = .ok (.newarray .int, 2) := by decide +kernel
theorem dX0_init_9 : decode cX0_init 9 = .ok (.putfield 11, 3) := by decide +kernel
theorem dX0_init_12 : decode cX0_init 12 = .ok (.aload_n 0, 1) := by decide +kernel
theorem dX0_init_13 : decode cX0_init 13 = .ok (.bipush 64, 2) := by decide +kernel
theorem dX0_init_15 : decode cX0_init 15 = .ok (.newarray .int, 2) := by decide +kernel
theorem dX0_init_17 : decode cX0_init 17 = .ok (.putfield 15, 3) := by decide +kernel
theorem dX0_init_20 : decode cX0_init 20 = .ok (.aload_n 0, 1) := by decide +kernel
theorem dX0_init_21 : decode cX0_init 21 = .ok (.sipush 256, 3) := by decide +kernel
theorem dX0_init_24 : decode cX0_init 24 = .ok (.newarray .boolean, 2) := by decide +kernel
theorem dX0_init_26 : decode cX0_init 26 = .ok (.putfield 18, 3) := by decide +kernel
theorem dX0_init_29 : decode cX0_init 29 = .ok (.aload_n 0, 1) := by decide +kernel
theorem dX0_init_30 : decode cX0_init 30 = .ok (.sipush 256, 3) := by decide +kernel
theorem dX0_init_33 : decode cX0_init 33 = .ok (.newarray .boolean, 2) := by decide +kernel
theorem dX0_init_35 : decode cX0_init 35 = .ok (.putfield 22, 3) := by decide +kernel
theorem dX0_init_38 : decode cX0_init 38 = .ok (.aload_n 0, 1) := by decide +kernel
theorem dX0_init_39 : decode cX0_init 39 = .ok (.sipush 256, 3) := by decide +kernel
theorem dX0_init_42 : decode cX0_init 42 = .ok (.newarray .int, 2) := by decide +kernel
theorem dX0_init_44 : decode cX0_init 44 = .ok (.putfield 25, 3) := by decide +kernel
theorem dX0_init_47 : decode cX0_init 47 = .ok (.aload_n 0, 1) := by decide +kernel
theorem dX0_init_48 : decode cX0_init 48 = .ok (.bipush 8, 2) := by decide +kernel
theorem dX0_init_50 : decode cX0_init 50 = .ok (.newarray .int, 2) := by decide +kernel
theorem dX0_init_52 : decode cX0_init 52 = .ok (.putfield 28, 3) := by decide +kernel
theorem dX0_init_55 : decode cX0_init 55 = .ok (.aload_n 0, 1) := by decide +kernel
theorem dX0_init_56 : decode cX0_init 56 = .ok (.bipush 20, 2) := by decide +kernel
theorem dX0_init_58 : decode cX0_init 58 = .ok (.newarray .long, 2) := by decide +kernel
theorem dX0_init_60 : decode cX0_init 60 = .ok (.putfield 31, 3) := by decide +kernel
theorem dX0_init_63 : decode cX0_init 63 = .ok (.aload_n 0, 1) := by decide +kernel
theorem dX0_init_64 : decode cX0_init 64 = .ok (.aload_n 1, 1) := by decide +kernel
theorem dX0_init_65 : decode cX0_init 65 = .ok (.putfield 35, 3) := by decide +kernel
theorem dX0_init_68 : decode cX0_init 68 = .ok (.return_, 1) := by decide +kernel
theorem dX0_mostServed_0 : decode cX0_mostServed 0 = .ok (.iconst 1, 1) := by decide +kernel
theorem dX0_mostServed_1 : decode cX0_mostServed 1 = .ok (.aload_n 0, 1) := by decide +kernel
theorem dX0_mostServed_2 : decode cX0_mostServed 2 = .ok (.getfield 35, 3) := by decide +kernel
theorem dX0_mostServed_5 : decode cX0_mostServed 5 = .ok (.getfield 39, 3) := by decide +kernel
theorem dX0_mostServed_8 : decode cX0_mostServed 8 = .ok (.ishl, 1) := by decide +kernel
theorem dX0_mostServed_9 : decode cX0_mostServed 9 = .ok (.iconst 1, 1) := by decide +kernel
theorem dX0_mostServed_10 : decode cX0_mostServed 10 = .ok (.isub, 1) := by decide +kernel
theorem dX0_mostServed_11 : decode cX0_mostServed 11 = .ok (.istore_n 2, 1) := by decide +kernel
theorem dX0_mostServed_12 : decode cX0_mostServed 12 = .ok (.aload_n 0, 1) := by decide +kernel
theorem dX0_mostServed_13 : decode cX0_mostServed 13 = .ok (.iconst 0, 1) := by decide +kernel
theorem dX0_mostServed_14 : decode cX0_mostServed 14 = .ok (.iload_n 2, 1) := by decide +kernel
theorem dX0_mostServed_15 : decode cX0_mostServed 15 = .ok (.invokevirtual 45, 3) := by decide +kernel
theorem dX0_mostServed_18 : decode cX0_mostServed 18 = .ok (.istore_n 3, 1) := by decide +kernel
theorem dX0_mostServed_19 : decode cX0_mostServed 19 = .ok (.iload_n 1, 1) := by decide +kernel
theorem dX0_mostServed_20 : decode cX0_mostServed 20 = .ok (.ifCond .ne 5, 3) := by decide +kernel
theorem dX0_mostServed_23 : decode cX0_mostServed 23 = .ok (.iload_n 3, 1) := by decide +kernel
theorem dX0_mostServed_24 : decode cX0_mostServed 24 = .ok (.ireturn, 1) := by decide +kernel
theorem dX0_mostServed_25 : decode cX0_mostServed 25 = .ok (.iconst 0, 1) := by decide +kernel
theorem dX0_mostServed_26 : decode cX0_mostServed 26 = .ok (.istore 4, 2) := by decide +kernel
theorem dX0_mostServed_28 : decode cX0_mostServed 28 = .ok (.iload 4, 2) := by decide +kernel
theorem dX0_mostServed_30 : decode cX0_mostServed 30 = .ok (.aload_n 0, 1) := by decide +kernel
theorem dX0_mostServed_31 : decode cX0_mostServed 31 = .ok (.getfield 35, 3) := by decide +kernel
theorem dX0_mostServed_34 : decode cX0_mostServed 34 = .ok (.getfield 49, 3) := by decide +kernel
theorem dX0_mostServed_37 : decode cX0_mostServed 37 = .ok (.if_icmp .ge 49, 3) := by decide +kernel
theorem dX0_mostServed_40 : decode cX0_mostServed 40 = .ok (.aload_n 0, 1) := by decide +kernel
theorem dX0_mostServed_41 : decode cX0_mostServed 41 = .ok (.iload 4, 2) := by decide +kernel
theorem dX0_mostServed_43 : decode cX0_mostServed 43 = .ok (.iload_n 2, 1) := by decide +kernel
theorem dX0_mostServed_44 : decode cX0_mostServed 44 = .ok (.iload_n 3, 1) := by decide +kernel
theorem dX0_mostServed_45 : decode cX0_mostServed 45 = .ok (.invokevirtual 52, 3) := by decide +kernel
theorem dX0_mostServed_48 : decode cX0_mostServed 48 = .ok (.istore 5, 2) := by decide +kernel
theorem dX0_mostServed_50 : decode cX0_mostServed 50 = .ok (.iload 4, 2) := by decide +kernel
theorem dX0_mostServed_52 : decode cX0_mostServed 52 = .ok (.iload_n 1, 1) := by decide +kernel
theorem dX0_mostServed_53 : decode cX0_mostServed 53 = .ok (.iconst 1, 1) := by decide +kernel
theorem dX0_mostServed_54 : decode cX0_mostServed 54 = .ok (.isub, 1) := by decide +kernel
theorem dX0_mostServed_55 : decode cX0_mostServed 55 = .ok (.if_icmp .ne 6, 3) := by decide +kernel
theorem dX0_mostServed_58 : decode cX0_mostServed 58 = .ok (.iload 5, 2) := by decide +kernel
theorem dX0_mostServed_60 : decode cX0_mostServed 60 = .ok (.ireturn, 1) := by decide +kernel
theorem dX0_mostServed_61 : decode cX0_mostServed 61 = .ok (.iload 5, 2) := by decide +kernel
theorem dX0_mostServed_63 : decode cX0_mostServed 63 = .ok (.bipush 100, 2) := by decide +kernel
theorem dX0_mostServed_65 : decode cX0_mostServed 65 = .ok (.if_icmp .eq 15, 3) := by decide +kernel
theorem dX0_mostServed_68 : decode cX0_mostServed 68 = .ok (.iload_n 2, 1) := by decide +kernel
theorem dX0_mostServed_69 : decode cX0_mostServed 69 = .ok (.iconst 1, 1) := by decide +kernel
theorem dX0_mostServed_70 : decode cX0_mostServed 70 = .ok (.iload 5, 2) := by decide +kernel
theorem dX0_mostServed_72 : decode cX0_mostServed 72 = .ok (.ishl, 1) := by decide +kernel
theorem dX0_mostServed_73 : decode cX0_mostServed 73 = .ok (.iconst (-1), 1) := by decide +kernel
theorem dX0_mostServed_74 : decode cX0_mostServed 74 = .ok (.ixor, 1) := by decide +kernel
theorem dX0_mostServed_75 : decode cX0_mostServed 75 = .ok (.iand, 1) := by decide +kernel
theorem dX0_mostServed_76 : decode cX0_mostServed 76 = .ok (.istore_n 2, 1) := by decide +kernel
theorem dX0_mostServed_77 : decode cX0_mostServed 77 = .ok (.iinc 3 (-1), 3) := by decide +kernel
theorem dX0_mostServed_80 : decode cX0_mostServed 80 = .ok (.iinc 4 1, 3) := by decide +kernel
theorem dX0_mostServed_83 : decode cX0_mostServed 83 = .ok (.goto (-55), 3) := by decide +kernel
theorem dX0_mostServed_86 : decode cX0_mostServed 86 = .ok (.iconst (-1), 1) := by decide +kernel
theorem dX0_mostServed_87 : decode cX0_mostServed 87 = .ok (.ireturn, 1) := by decide +kernel
theorem dX0_fillNear_0 : decode cX0_fillNear 0 = .ok (.aload_n 0, 1) := by decide +kernel
theorem dX0_fillNear_1 : decode cX0_fillNear 1 = .ok (.getfield 11, 3) := by decide +kernel
theorem dX0_fillNear_4 : decode cX0_fillNear 4 = .ok (.iconst 0, 1) := by decide +kernel
theorem dX0_fillNear_5 : decode cX0_fillNear 5 = .ok (.iconst 0, 1) := by decide +kernel
theorem dX0_fillNear_6 : decode cX0_fillNear 6 = .ok (.iastore, 1) := by decide +kernel
theorem dX0_fillNear_7 : decode cX0_fillNear 7 = .ok (.iconst 0, 1) := by decide +kernel
theorem dX0_fillNear_8 : decode cX0_fillNear 8 = .ok (.istore_n 1, 1) := by decide +kernel
theorem dX0_fillNear_9 : decode cX0_fillNear 9 = .ok (.iload_n 1, 1) := by decide +kernel
theorem dX0_fillNear_10 : decode cX0_fillNear 10 = .ok (.aload_n 0, 1) := by decide +kernel
theorem dX0_fillNear_11 : decode cX0_fillNear 11 = .ok (.getfield 35, 3) := by decide +kernel
theorem dX0_fillNear_14 : decode cX0_fillNear 14 = .ok (.getfield 49, 3) := by decide +kernel
theorem dX0_fillNear_17 : decode cX0_fillNear 17 = .ok (.if_icmp .ge 87, 3) := by decide +kernel
theorem dX0_fillNear_20 : decode cX0_fillNear 20 = .ok (.iconst 0, 1) := by decide +kernel
theorem dX0_fillNear_21 : decode cX0_fillNear 21 = .ok (.istore_n 2, 1) := by decide +kernel
theorem dX0_fillNear_22 : decode cX0_fillNear 22 = .ok (.iconst 0, 1) := by decide +kernel
theorem dX0_fillNear_23 : decode cX0_fillNear 23 = .ok (.istore_n 3, 1) := by decide +kernel
theorem dX0_fillNear_24 : decode cX0_fillNear 24 = .ok (.iload_n 3, 1) := by decide +kernel
theorem dX0_fillNear_25 : decode cX0_fillNear 25 = .ok (.aload_n 0, 1) := by decide +kernel
theorem dX0_fillNear_26 : decode cX0_fillNear 26 = .ok (.getfield 35, 3) := by decide +kernel
theorem dX0_fillNear_29 : decode cX0_fillNear 29 = .ok (.getfield 39, 3) := by decide +kernel
theorem dX0_fillNear_32 : decode cX0_fillNear 32 = .ok (.if_icmp .ge 27, 3) := by decide +kernel
theorem dX0_fillNear_35 : decode cX0_fillNear 35 = .ok (.aload_n 0, 1) := by decide +kernel
theorem dX0_fillNear_36 : decode cX0_fillNear 36 = .ok (.getfield 35, 3) := by decide +kernel
theorem dX0_fillNear_39 : decode cX0_fillNear 39 = .ok (.iload_n 3, 1) := by decide +kernel
theorem dX0_fillNear_40 : decode cX0_fillNear 40 = .ok (.iload_n 1, 1) := by decide +kernel
theorem dX0_fillNear_41 : decode cX0_fillNear 41 = .ok (.invokevirtual 56, 3) := by decide +kernel
theorem dX0_fillNear_44 : decode cX0_fillNear 44 = .ok (.ifCond .eq 9, 3) := by decide +kernel
theorem dX0_fillNear_47 : decode cX0_fillNear 47 = .ok (.iload_n 2, 1) := by decide +kernel
theorem dX0_fillNear_48 : decode cX0_fillNear 48 = .ok (.iconst 1, 1) := by decide +kernel
theorem dX0_fillNear_49 : decode cX0_fillNear 49 = .ok (.iload_n 3, 1) := by decide +kernel
theorem dX0_fillNear_50 : decode cX0_fillNear 50 = .ok (.ishl, 1) := by decide +kernel
theorem dX0_fillNear_51 : decode cX0_fillNear 51 = .ok (.ior, 1) := by decide +kernel
theorem dX0_fillNear_52 : decode cX0_fillNear 52 = .ok (.istore_n 2, 1) := by decide +kernel
theorem dX0_fillNear_53 : decode cX0_fillNear 53 = .ok (.iinc 3 1, 3) := by decide +kernel
theorem dX0_fillNear_56 : decode cX0_fillNear 56 = .ok (.goto (-32), 3) := by decide +kernel
theorem dX0_fillNear_59 : decode cX0_fillNear 59 = .ok (.iconst 1, 1) := by decide +kernel
theorem dX0_fillNear_60 : decode cX0_fillNear 60 = .ok (.iload_n 1, 1) := by decide +kernel
theorem dX0_fillNear_61 : decode cX0_fillNear 61 = .ok (.ishl, 1) := by decide +kernel
theorem dX0_fillNear_62 : decode cX0_fillNear 62 = .ok (.istore_n 3, 1) := by decide +kernel
theorem dX0_fillNear_63 : decode cX0_fillNear 63 = .ok (.iload_n 3, 1) := by decide +kernel
theorem dX0_fillNear_64 : decode cX0_fillNear 64 = .ok (.istore 4, 2) := by decide +kernel
theorem dX0_fillNear_66 : decode cX0_fillNear 66 = .ok (.iload 4, 2) := by decide +kernel
theorem dX0_fillNear_68 : decode cX0_fillNear 68 = .ok (.iconst 2, 1) := by decide +kernel
theorem dX0_fillNear_69 : decode cX0_fillNear 69 = .ok (.iload_n 3, 1) := by decide +kernel
theorem dX0_fillNear_70 : decode cX0_fillNear 70 = .ok (.imul, 1) := by decide +kernel
theorem dX0_fillNear_71 : decode cX0_fillNear 71 = .ok (.if_icmp .ge 27, 3) := by decide +kernel
theorem dX0_fillNear_74 : decode cX0_fillNear 74 = .ok (.aload_n 0, 1) := by decide +kernel
theorem dX0_fillNear_75 : decode cX0_fillNear 75 = .ok (.getfield 11, 3) := by decide +kernel
theorem dX0_fillNear_78 : decode cX0_fillNear 78 = .ok (.iload 4, 2) := by decide +kernel
theorem dX0_fillNear_80 : decode cX0_fillNear 80 = .ok (.aload_n 0, 1) := by decide +kernel
theorem dX0_fillNear_81 : decode cX0_fillNear 81 = .ok (.getfield 11, 3) := by decide +kernel
theorem dX0_fillNear_84 : decode cX0_fillNear 84 = .ok (.iload 4, 2) := by decide +kernel
theorem dX0_fillNear_86 : decode cX0_fillNear 86 = .ok (.iload_n 3, 1) := by decide +kernel
theorem dX0_fillNear_87 : decode cX0_fillNear 87 = .ok (.isub, 1) := by decide +kernel
theorem dX0_fillNear_88 : decode cX0_fillNear 88 = .ok (.iaload, 1) := by decide +kernel
theorem dX0_fillNear_89 : decode cX0_fillNear 89 = .ok (.iload_n 2, 1) := by decide +kernel
theorem dX0_fillNear_90 : decode cX0_fillNear 90 = .ok (.ior, 1) := by decide +kernel
theorem dX0_fillNear_91 : decode cX0_fillNear 91 = .ok (.iastore, 1) := by decide +kernel
theorem dX0_fillNear_92 : decode cX0_fillNear 92 = .ok (.iinc 4 1, 3) := by decide +kernel
theorem dX0_fillNear_95 : decode cX0_fillNear 95 = .ok (.goto (-29), 3) := by decide +kernel
theorem dX0_fillNear_98 : decode cX0_fillNear 98 = .ok (.iinc 1 1, 3) := by decide +kernel
theorem dX0_fillNear_101 : decode cX0_fillNear 101 = .ok (.goto (-92), 3) := by decide +kernel
theorem dX0_fillNear_104 : decode cX0_fillNear 104 = .ok (.return_, 1) := by decide +kernel
theorem dX0_mostPairs_0 : decode cX0_mostPairs 0 = .ok (.aload_n 0, 1) := by decide +kernel
theorem dX0_mostPairs_1 : decode cX0_mostPairs 1 = .ok (.getfield 35, 3) := by decide +kernel
theorem dX0_mostPairs_4 : decode cX0_mostPairs 4 = .ok (.getfield 49, 3) := by decide +kernel
theorem dX0_mostPairs_7 : decode cX0_mostPairs 7 = .ok (.iload_n 1, 1) := by decide +kernel
theorem dX0_mostPairs_8 : decode cX0_mostPairs 8 = .ok (.isub, 1) := by decide +kernel
theorem dX0_mostPairs_9 : decode cX0_mostPairs 9 = .ok (.istore_n 3, 1) := by decide +kernel
theorem dX0_mostPairs_10 : decode cX0_mostPairs 10 = .ok (.iload_n 3, 1) := by decide +kernel
theorem dX0_mostPairs_11 : decode cX0_mostPairs 11 = .ok (.istore 4, 2) := by decide +kernel
theorem dX0_mostPairs_13 : decode cX0_mostPairs 13 = .ok (.iconst 0, 1) := by decide +kernel
theorem dX0_mostPairs_14 : decode cX0_mostPairs 14 = .ok (.istore 5, 2) := by decide +kernel
theorem dX0_mostPairs_16 : decode cX0_mostPairs 16 = .ok (.iload 5, 2) := by decide +kernel
theorem dX0_mostPairs_18 : decode cX0_mostPairs 18 = .ok (.iconst 1, 1) := by decide +kernel
theorem dX0_mostPairs_19 : decode cX0_mostPairs 19 = .ok (.aload_n 0, 1) := by decide +kernel
theorem dX0_mostPairs_20 : decode cX0_mostPairs 20 = .ok (.getfield 35, 3) := by decide +kernel
theorem dX0_mostPairs_23 : decode cX0_mostPairs 23 = .ok (.getfield 49, 3) := by decide +kernel
theorem dX0_mostPairs_26 : decode cX0_mostPairs 26 = .ok (.ishl, 1) := by decide +kernel
theorem dX0_mostPairs_27 : decode cX0_mostPairs 27 = .ok (.if_icmp .ge 45, 3) := by decide +kernel
theorem dX0_mostPairs_30 : decode cX0_mostPairs 30 = .ok (.iload_n 3, 1) := by decide +kernel
theorem dX0_mostPairs_31 : decode cX0_mostPairs 31 = .ok (.iload 5, 2) := by decide +kernel
theorem dX0_mostPairs_33 : decode cX0_mostPairs 33 = .ok (.invokestatic 60, 3) := by decide +kernel
theorem dX0_mostPairs_36 : decode cX0_mostPairs 36 = .ok (.isub, 1) := by decide +kernel
theorem dX0_mostPairs_37 : decode cX0_mostPairs 37 = .ok (.aload_n 0, 1) := by decide +kernel
theorem dX0_mostPairs_38 : decode cX0_mostPairs 38 = .ok (.getfield 11, 3) := by decide +kernel
theorem dX0_mostPairs_41 : decode cX0_mostPairs 41 = .ok (.iload 5, 2) := by decide +kernel
theorem dX0_mostPairs_43 : decode cX0_mostPairs 43 = .ok (.iaload, 1) := by decide +kernel
theorem dX0_mostPairs_44 : decode cX0_mostPairs 44 = .ok (.iload_n 2, 1) := by decide +kernel
theorem dX0_mostPairs_45 : decode cX0_mostPairs 45 = .ok (.iand, 1) := by decide +kernel
theorem dX0_mostPairs_46 : decode cX0_mostPairs 46 = .ok (.invokestatic 60, 3) := by decide +kernel
theorem dX0_mostPairs_49 : decode cX0_mostPairs 49 = .ok (.iadd, 1) := by decide +kernel
theorem dX0_mostPairs_50 : decode cX0_mostPairs 50 = .ok (.istore 6, 2) := by decide +kernel
theorem dX0_mostPairs_52 : decode cX0_mostPairs 52 = .ok (.iload 4, 2) := by decide +kernel
theorem dX0_mostPairs_54 : decode cX0_mostPairs 54 = .ok (.iload 6, 2) := by decide +kernel
theorem dX0_mostPairs_56 : decode cX0_mostPairs 56 = .ok (.invokestatic 66, 3) := by decide +kernel
theorem dX0_mostPairs_59 : decode cX0_mostPairs 59 = .ok (.istore 4, 2) := by decide +kernel
theorem dX0_mostPairs_61 : decode cX0_mostPairs 61 = .ok (.iload 5, 2) := by decide +kernel
theorem dX0_mostPairs_63 : decode cX0_mostPairs 63 = .ok (.iconst 1, 1) := by decide +kernel
theorem dX0_mostPairs_64 : decode cX0_mostPairs 64 = .ok (.iload_n 1, 1) := by decide +kernel
theorem dX0_mostPairs_65 : decode cX0_mostPairs 65 = .ok (.ishl, 1) := by decide +kernel
theorem dX0_mostPairs_66 : decode cX0_mostPairs 66 = .ok (.iadd, 1) := by decide +kernel
theorem dX0_mostPairs_67 : decode cX0_mostPairs 67 = .ok (.istore 5, 2) := by decide +kernel
theorem dX0_mostPairs_69 : decode cX0_mostPairs 69 = .ok (.goto (-53), 3) := by decide +kernel
theorem dX0_mostPairs_72 : decode cX0_mostPairs 72 = .ok (.iload 4, 2) := by decide +kernel
theorem dX0_mostPairs_74 : decode cX0_mostPairs 74 = .ok (.ireturn, 1) := by decide +kernel
theorem dX0_firstServed_0 : decode cX0_firstServed 0 = .ok (.iconst 0, 1) := by decide +kernel
theorem dX0_firstServed_1 : decode cX0_firstServed 1 = .ok (.istore 4, 2) := by decide +kernel
theorem dX0_firstServed_3 : decode cX0_firstServed 3 = .ok (.iload 4, 2) := by decide +kernel
theorem dX0_firstServed_5 : decode cX0_firstServed 5 = .ok (.aload_n 0, 1) := by decide +kernel
theorem dX0_firstServed_6 : decode cX0_firstServed 6 = .ok (.getfield 35, 3) := by decide +kernel
theorem dX0_firstServed_9 : decode cX0_firstServed 9 = .ok (.getfield 39, 3) := by decide +kernel
theorem dX0_firstServed_12 : decode cX0_firstServed 12 = .ok (.if_icmp .ge 65, 3) := by decide +kernel
theorem dX0_firstServed_15 : decode cX0_firstServed 15 = .ok (.iconst 1, 1) := by decide +kernel
theorem dX0_firstServed_16 : decode cX0_firstServed 16 = .ok (.iload 4, 2) := by decide +kernel
theorem dX0_firstServed_18 : decode cX0_firstServed 18 = .ok (.ishl, 1) := by decide +kernel
theorem dX0_firstServed_19 : decode cX0_firstServed 19 = .ok (.istore 5, 2) := by decide +kernel
theorem dX0_firstServed_21 : decode cX0_firstServed 21 = .ok (.aload_n 0, 1) := by decide +kernel
theorem dX0_firstServed_22 : decode cX0_firstServed 22 = .ok (.getfield 11, 3) := by decide +kernel
theorem dX0_firstServed_25 : decode cX0_firstServed 25 = .ok (.iconst 1, 1) := by decide +kernel
theorem dX0_firstServed_26 : decode cX0_firstServed 26 = .ok (.iload_n 1, 1) := by decide +kernel
theorem dX0_firstServed_27 : decode cX0_firstServed 27 = .ok (.ishl, 1) := by decide +kernel
theorem dX0_firstServed_28 : decode cX0_firstServed 28 = .ok (.iaload, 1) := by decide +kernel
theorem dX0_firstServed_29 : decode cX0_firstServed 29 = .ok (.iload_n 2, 1) := by decide +kernel
theorem dX0_firstServed_30 : decode cX0_firstServed 30 = .ok (.iand, 1) := by decide +kernel
theorem dX0_firstServed_31 : decode cX0_firstServed 31 = .ok (.iload 5, 2) := by decide +kernel
theorem dX0_firstServed_33 : decode cX0_firstServed 33 = .ok (.iand, 1) := by decide +kernel
theorem dX0_firstServed_34 : decode cX0_firstServed 34 = .ok (.ifCond .eq 7, 3) := by decide +kernel
theorem dX0_firstServed_37 : decode cX0_firstServed 37 = .ok (.iconst 1, 1) := by decide +kernel
theorem dX0_firstServed_38 : decode cX0_firstServed 38 = .ok (.goto 4, 3) := by decide +kernel
theorem dX0_firstServed_41 : decode cX0_firstServed 41 = .ok (.iconst 0, 1) := by decide +kernel
theorem dX0_firstServed_42 : decode cX0_firstServed 42 = .ok (.istore 6, 2) := by decide +kernel
theorem dX0_firstServed_44 : decode cX0_firstServed 44 = .ok (.iload 6, 2) := by decide +kernel
theorem dX0_firstServed_46 : decode cX0_firstServed 46 = .ok (.ifCond .eq 25, 3) := by decide +kernel
theorem dX0_firstServed_49 : decode cX0_firstServed 49 = .ok (.aload_n 0, 1) := by decide +kernel
theorem dX0_firstServed_50 : decode cX0_firstServed 50 = .ok (.iload_n 1, 1) := by decide +kernel
theorem dX0_firstServed_51 : decode cX0_firstServed 51 = .ok (.iconst 1, 1) := by decide +kernel
theorem dX0_firstServed_52 : decode cX0_firstServed 52 = .ok (.iadd, 1) := by decide +kernel
theorem dX0_firstServed_53 : decode cX0_firstServed 53 = .ok (.iload_n 2, 1) := by decide +kernel
theorem dX0_firstServed_54 : decode cX0_firstServed 54 = .ok (.iload 5, 2) := by decide +kernel
theorem dX0_firstServed_56 : decode cX0_firstServed 56 = .ok (.iconst (-1), 1) := by decide +kernel
theorem dX0_firstServed_57 : decode cX0_firstServed 57 = .ok (.ixor, 1) := by decide +kernel
theorem dX0_firstServed_58 : decode cX0_firstServed 58 = .ok (.iand, 1) := by decide +kernel
theorem dX0_firstServed_59 : decode cX0_firstServed 59 = .ok (.invokevirtual 45, 3) := by decide +kernel
theorem dX0_firstServed_62 : decode cX0_firstServed 62 = .ok (.iload_n 3, 1) := by decide +kernel
theorem dX0_firstServed_63 : decode cX0_firstServed 63 = .ok (.iconst 1, 1) := by decide +kernel
theorem dX0_firstServed_64 : decode cX0_firstServed 64 = .ok (.isub, 1) := by decide +kernel
theorem dX0_firstServed_65 : decode cX0_firstServed 65 = .ok (.if_icmp .ne 6, 3) := by decide +kernel
theorem dX0_firstServed_68 : decode cX0_firstServed 68 = .ok (.iload 4, 2) := by decide +kernel
theorem dX0_firstServed_70 : decode cX0_firstServed 70 = .ok (.ireturn, 1) := by decide +kernel
theorem dX0_firstServed_71 : decode cX0_firstServed 71 = .ok (.iinc 4 1, 3) := by decide +kernel
theorem dX0_firstServed_74 : decode cX0_firstServed 74 = .ok (.goto (-71), 3) := by decide +kernel
theorem dX0_firstServed_77 : decode cX0_firstServed 77 = .ok (.bipush 100, 2) := by decide +kernel
theorem dX0_firstServed_79 : decode cX0_firstServed 79 = .ok (.ireturn, 1) := by decide +kernel
theorem dX0_quickest_0 : decode cX0_quickest 0 = .ok (.aload_n 0, 1) := by decide +kernel
theorem dX0_quickest_1 : decode cX0_quickest 1 = .ok (.iload_n 2, 1) := by decide +kernel
theorem dX0_quickest_2 : decode cX0_quickest 2 = .ok (.invokevirtual 71, 3) := by decide +kernel
theorem dX0_quickest_5 : decode cX0_quickest 5 = .ok (.aload_n 0, 1) := by decide +kernel
theorem dX0_quickest_6 : decode cX0_quickest 6 = .ok (.getfield 15, 3) := by decide +kernel
theorem dX0_quickest_9 : decode cX0_quickest 9 = .ok (.iload_n 1, 1) := by decide +kernel
theorem dX0_quickest_10 : decode cX0_quickest 10 = .ok (.iaload, 1) := by decide +kernel
theorem dX0_quickest_11 : decode cX0_quickest 11 = .ok (.ldc 75, 2) := by decide +kernel
theorem dX0_quickest_13 : decode cX0_quickest 13 = .ok (.if_icmp .lt 5, 3) := by decide +kernel
theorem dX0_quickest_16 : decode cX0_quickest 16 = .ok (.iconst (-1), 1) := by decide +kernel
theorem dX0_quickest_17 : decode cX0_quickest 17 = .ok (.ireturn, 1) := by decide +kernel
theorem dX0_quickest_18 : decode cX0_quickest 18 = .ok (.iload_n 3, 1) := by decide +kernel
theorem dX0_quickest_19 : decode cX0_quickest 19 = .ok (.iconst (-1), 1) := by decide +kernel
theorem dX0_quickest_20 : decode cX0_quickest 20 = .ok (.if_icmp .ne 13, 3) := by decide +kernel
theorem dX0_quickest_23 : decode cX0_quickest 23 = .ok (.aload_n 0, 1) := by decide +kernel
theorem dX0_quickest_24 : decode cX0_quickest 24 = .ok (.getfield 15, 3) := by decide +kernel
theorem dX0_quickest_27 : decode cX0_quickest 27 = .ok (.iload_n 1, 1) := by decide +kernel
theorem dX0_quickest_28 : decode cX0_quickest 28 = .ok (.iaload, 1) := by decide +kernel
theorem dX0_quickest_29 : decode cX0_quickest 29 = .ok (.bipush 16, 2) := by decide +kernel
theorem dX0_quickest_31 : decode cX0_quickest 31 = .ok (.idiv, 1) := by decide +kernel
theorem dX0_quickest_32 : decode cX0_quickest 32 = .ok (.ireturn, 1) := by decide +kernel
theorem dX0_quickest_33 : decode cX0_quickest 33 = .ok (.iload_n 1, 1) := by decide +kernel
theorem dX0_quickest_34 : decode cX0_quickest 34 = .ok (.istore 4, 2) := by decide +kernel
theorem dX0_quickest_36 : decode cX0_quickest 36 = .ok (.iconst 0, 1) := by decide +kernel
theorem dX0_quickest_37 : decode cX0_quickest 37 = .ok (.istore 5, 2) := by decide +kernel
theorem dX0_quickest_39 : decode cX0_quickest 39 = .ok (.iload 5, 2) := by decide +kernel
theorem dX0_quickest_41 : decode cX0_quickest 41 = .ok (.bipush 8, 2) := by decide +kernel
theorem dX0_quickest_43 : decode cX0_quickest 43 = .ok (.if_icmp .ge 47, 3) := by decide +kernel
theorem dX0_quickest_46 : decode cX0_quickest 46 = .ok (.aload_n 0, 1) := by decide +kernel
theorem dX0_quickest_47 : decode cX0_quickest 47 = .ok (.iload 4, 2) := by decide +kernel
theorem dX0_quickest_49 : decode cX0_quickest 49 = .ok (.invokevirtual 76, 3) := by decide +kernel
theorem dX0_quickest_52 : decode cX0_quickest 52 = .ok (.istore 6, 2) := by decide +kernel
theorem dX0_quickest_54 : decode cX0_quickest 54 = .ok (.iload 6, 2) := by decide +kernel
theorem dX0_quickest_56 : decode cX0_quickest 56 = .ok (.iconst (-1), 1) := by decide +kernel
theorem dX0_quickest_57 : decode cX0_quickest 57 = .ok (.if_icmp .eq 9, 3) := by decide +kernel
theorem dX0_quickest_60 : decode cX0_quickest 60 = .ok (.iload 5, 2) := by decide +kernel
theorem dX0_quickest_62 : decode cX0_quickest 62 = .ok (.iload_n 3, 1) := by decide +kernel
theorem dX0_quickest_63 : decode cX0_quickest 63 = .ok (.if_icmp .ne 6, 3) := by decide +kernel
theorem dX0_quickest_66 : decode cX0_quickest 66 = .ok (.iload 6, 2) := by decide +kernel
theorem dX0_quickest_68 : decode cX0_quickest 68 = .ok (.ireturn, 1) := by decide +kernel
theorem dX0_quickest_69 : decode cX0_quickest 69 = .ok (.iload 4, 2) := by decide +kernel
theorem dX0_quickest_71 : decode cX0_quickest 71 = .ok (.aload_n 0, 1) := by decide +kernel
theorem dX0_quickest_72 : decode cX0_quickest 72 = .ok (.getfield 35, 3) := by decide +kernel
theorem dX0_quickest_75 : decode cX0_quickest 75 = .ok (.getfield 79, 3) := by decide +kernel
theorem dX0_quickest_78 : decode cX0_quickest 78 = .ok (.iload 6, 2) := by decide +kernel
theorem dX0_quickest_80 : decode cX0_quickest 80 = .ok (.iaload, 1) := by decide +kernel
theorem dX0_quickest_81 : decode cX0_quickest 81 = .ok (.ior, 1) := by decide +kernel
theorem dX0_quickest_82 : decode cX0_quickest 82 = .ok (.istore 4, 2) := by decide +kernel
theorem dX0_quickest_84 : decode cX0_quickest 84 = .ok (.iinc 5 1, 3) := by decide +kernel
theorem dX0_quickest_87 : decode cX0_quickest 87 = .ok (.goto (-48), 3) := by decide +kernel
theorem dX0_quickest_90 : decode cX0_quickest 90 = .ok (.iconst (-1), 1) := by decide +kernel
theorem dX0_quickest_91 : decode cX0_quickest 91 = .ok (.ireturn, 1) := by decide +kernel
theorem dX0_costOf_0 : decode cX0_costOf 0 = .ok (.aload_n 0, 1) := by decide +kernel
theorem dX0_costOf_1 : decode cX0_costOf 1 = .ok (.getfield 35, 3) := by decide +kernel
theorem dX0_costOf_4 : decode cX0_costOf 4 = .ok (.getfield 82, 3) := by decide +kernel
theorem dX0_costOf_7 : decode cX0_costOf 7 = .ok (.iload_n 1, 1) := by decide +kernel
theorem dX0_costOf_8 : decode cX0_costOf 8 = .ok (.iaload, 1) := by decide +kernel
theorem dX0_costOf_9 : decode cX0_costOf 9 = .ok (.bipush 16, 2) := by decide +kernel
theorem dX0_costOf_11 : decode cX0_costOf 11 = .ok (.imul, 1) := by decide +kernel
theorem dX0_costOf_12 : decode cX0_costOf 12 = .ok (.iconst 1, 1) := by decide +kernel
theorem dX0_costOf_13 : decode cX0_costOf 13 = .ok (.iadd, 1) := by decide +kernel
theorem dX0_costOf_14 : decode cX0_costOf 14 = .ok (.ireturn, 1) := by decide +kernel
theorem dX0_fillCost_0 : decode cX0_fillCost 0 = .ok (.bipush 63, 2) := by decide +kernel
theorem dX0_fillCost_2 : decode cX0_fillCost 2 = .ok (.istore_n 2, 1) := by decide +kernel
theorem dX0_fillCost_3 : decode cX0_fillCost 3 = .ok (.iload_n 2, 1) := by decide +kernel
theorem dX0_fillCost_4 : decode cX0_fillCost 4 = .ok (.ifCond .lt 100, 3) := by decide +kernel
theorem dX0_fillCost_7 : decode cX0_fillCost 7 = .ok (.aload_n 0, 1) := by decide +kernel
theorem dX0_fillCost_8 : decode cX0_fillCost 8 = .ok (.getfield 15, 3) := by decide +kernel
theorem dX0_fillCost_11 : decode cX0_fillCost 11 = .ok (.iload_n 2, 1) := by decide +kernel
theorem dX0_fillCost_12 : decode cX0_fillCost 12 = .ok (.iload_n 2, 1) := by decide +kernel
theorem dX0_fillCost_13 : decode cX0_fillCost 13 = .ok (.iload_n 1, 1) := by decide +kernel
theorem dX0_fillCost_14 : decode cX0_fillCost 14 = .ok (.iand, 1) := by decide +kernel
theorem dX0_fillCost_15 : decode cX0_fillCost 15 = .ok (.iload_n 1, 1) := by decide +kernel
theorem dX0_fillCost_16 : decode cX0_fillCost 16 = .ok (.if_icmp .ne 7, 3) := by decide +kernel
theorem dX0_fillCost_19 : decode cX0_fillCost 19 = .ok (.iconst 0, 1) := by decide +kernel
theorem dX0_fillCost_20 : decode cX0_fillCost 20 = .ok (.goto 5, 3) := by decide +kernel
theorem dX0_fillCost_23 : decode cX0_fillCost 23 = .ok (.ldc 75, 2) := by decide +kernel
theorem dX0_fillCost_25 : decode cX0_fillCost 25 = .ok (.iastore, 1) := by decide +kernel
theorem dX0_fillCost_26 : decode cX0_fillCost 26 = .ok (.iconst 0, 1) := by decide +kernel
theorem dX0_fillCost_27 : decode cX0_fillCost 27 = .ok (.istore_n 3, 1) := by decide +kernel
theorem dX0_fillCost_28 : decode cX0_fillCost 28 = .ok (.iload_n 3, 1) := by decide +kernel
theorem dX0_fillCost_29 : decode cX0_fillCost 29 = .ok (.aload_n 0, 1) := by decide +kernel
theorem dX0_fillCost_30 : decode cX0_fillCost 30 = .ok (.getfield 35, 3) := by decide +kernel
theorem dX0_fillCost_33 : decode cX0_fillCost 33 = .ok (.getfield 39, 3) := by decide +kernel
theorem dX0_fillCost_36 : decode cX0_fillCost 36 = .ok (.if_icmp .ge 62, 3) := by decide +kernel
theorem dX0_fillCost_39 : decode cX0_fillCost 39 = .ok (.aload_n 0, 1) := by decide +kernel
theorem dX0_fillCost_40 : decode cX0_fillCost 40 = .ok (.getfield 35, 3) := by decide +kernel
theorem dX0_fillCost_43 : decode cX0_fillCost 43 = .ok (.iload_n 2, 1) := by decide +kernel
theorem dX0_fillCost_44 : decode cX0_fillCost 44 = .ok (.iload_n 3, 1) := by decide +kernel
theorem dX0_fillCost_45 : decode cX0_fillCost 45 = .ok (.invokevirtual 85, 3) := by decide +kernel
theorem dX0_fillCost_48 : decode cX0_fillCost 48 = .ok (.ifCond .eq 44, 3) := by decide +kernel
theorem dX0_fillCost_51 : decode cX0_fillCost 51 = .ok (.aload_n 0, 1) := by decide +kernel
theorem dX0_fillCost_52 : decode cX0_fillCost 52 = .ok (.getfield 15, 3) := by decide +kernel
theorem dX0_fillCost_55 : decode cX0_fillCost 55 = .ok (.iload_n 2, 1) := by decide +kernel
theorem dX0_fillCost_56 : decode cX0_fillCost 56 = .ok (.aload_n 0, 1) := by decide +kernel
theorem dX0_fillCost_57 : decode cX0_fillCost 57 = .ok (.getfield 35, 3) := by decide +kernel
theorem dX0_fillCost_60 : decode cX0_fillCost 60 = .ok (.getfield 79, 3) := by decide +kernel
theorem dX0_fillCost_63 : decode cX0_fillCost 63 = .ok (.iload_n 3, 1) := by decide +kernel
theorem dX0_fillCost_64 : decode cX0_fillCost 64 = .ok (.iaload, 1) := by decide +kernel
theorem dX0_fillCost_65 : decode cX0_fillCost 65 = .ok (.ior, 1) := by decide +kernel
theorem dX0_fillCost_66 : decode cX0_fillCost 66 = .ok (.iaload, 1) := by decide +kernel
theorem dX0_fillCost_67 : decode cX0_fillCost 67 = .ok (.aload_n 0, 1) := by decide +kernel
theorem dX0_fillCost_68 : decode cX0_fillCost 68 = .ok (.iload_n 3, 1) := by decide +kernel
theorem dX0_fillCost_69 : decode cX0_fillCost 69 = .ok (.invokevirtual 88, 3) := by decide +kernel
theorem dX0_fillCost_72 : decode cX0_fillCost 72 = .ok (.iadd, 1) := by decide +kernel
theorem dX0_fillCost_73 : decode cX0_fillCost 73 = .ok (.istore 4, 2) := by decide +kernel
theorem dX0_fillCost_75 : decode cX0_fillCost 75 = .ok (.aload_n 0, 1) := by decide +kernel
theorem dX0_fillCost_76 : decode cX0_fillCost 76 = .ok (.getfield 15, 3) := by decide +kernel
theorem dX0_fillCost_79 : decode cX0_fillCost 79 = .ok (.iload_n 2, 1) := by decide +kernel
theorem dX0_fillCost_80 : decode cX0_fillCost 80 = .ok (.aload_n 0, 1) := by decide +kernel
theorem dX0_fillCost_81 : decode cX0_fillCost 81 = .ok (.getfield 15, 3) := by decide +kernel
theorem dX0_fillCost_84 : decode cX0_fillCost 84 = .ok (.iload_n 2, 1) := by decide +kernel
theorem dX0_fillCost_85 : decode cX0_fillCost 85 = .ok (.iaload, 1) := by decide +kernel
theorem dX0_fillCost_86 : decode cX0_fillCost 86 = .ok (.iload 4, 2) := by decide +kernel
theorem dX0_fillCost_88 : decode cX0_fillCost 88 = .ok (.invokestatic 66, 3) := by decide +kernel
theorem dX0_fillCost_91 : decode cX0_fillCost 91 = .ok (.iastore, 1) := by decide +kernel
theorem dX0_fillCost_92 : decode cX0_fillCost 92 = .ok (.iinc 3 1, 3) := by decide +kernel
theorem dX0_fillCost_95 : decode cX0_fillCost 95 = .ok (.goto (-67), 3) := by decide +kernel
theorem dX0_fillCost_98 : decode cX0_fillCost 98 = .ok (.iinc 2 (-1), 3) := by decide +kernel
theorem dX0_fillCost_101 : decode cX0_fillCost 101 = .ok (.goto (-98), 3) := by decide +kernel
theorem dX0_fillCost_104 : decode cX0_fillCost 104 = .ok (.return_, 1) := by decide +kernel
theorem dX0_nextOnWay_0 : decode cX0_nextOnWay 0 = .ok (.aload_n 0, 1) := by decide +kernel
theorem dX0_nextOnWay_1 : decode cX0_nextOnWay 1 = .ok (.getfield 15, 3) := by decide +kernel
theorem dX0_nextOnWay_4 : decode cX0_nextOnWay 4 = .ok (.iload_n 1, 1) := by decide +kernel
theorem dX0_nextOnWay_5 : decode cX0_nextOnWay 5 = .ok (.iaload, 1) := by decide +kernel
theorem dX0_nextOnWay_6 : decode cX0_nextOnWay 6 = .ok (.ifCond .ne 5, 3) := by decide +kernel
theorem dX0_nextOnWay_9 : decode cX0_nextOnWay 9 = .ok (.iconst (-1), 1) := by decide +kernel
theorem dX0_nextOnWay_10 : decode cX0_nextOnWay 10 = .ok (.ireturn, 1) := by decide +kernel
theorem dX0_nextOnWay_11 : decode cX0_nextOnWay 11 = .ok (.iconst 0, 1) := by decide +kernel
theorem dX0_nextOnWay_12 : decode cX0_nextOnWay 12 = .ok (.istore_n 2, 1) := by decide +kernel
theorem dX0_nextOnWay_13 : decode cX0_nextOnWay 13 = .ok (.iload_n 2, 1) := by decide +kernel
theorem dX0_nextOnWay_14 : decode cX0_nextOnWay 14 = .ok (.aload_n 0, 1) := by decide +kernel
theorem dX0_nextOnWay_15 : decode cX0_nextOnWay 15 = .ok (.getfield 35, 3) := by decide +kernel
theorem dX0_nextOnWay_18 : decode cX0_nextOnWay 18 = .ok (.getfield 39, 3) := by decide +kernel
theorem dX0_nextOnWay_21 : decode cX0_nextOnWay 21 = .ok (.if_icmp .ge 54, 3) := by decide +kernel
theorem dX0_nextOnWay_24 : decode cX0_nextOnWay 24 = .ok (.aload_n 0, 1) := by decide +kernel
theorem dX0_nextOnWay_25 : decode cX0_nextOnWay 25 = .ok (.getfield 35, 3) := by decide +kernel
theorem dX0_nextOnWay_28 : decode cX0_nextOnWay 28 = .ok (.iload_n 1, 1) := by decide +kernel
theorem dX0_nextOnWay_29 : decode cX0_nextOnWay 29 = .ok (.iload_n 2, 1) := by decide +kernel
theorem dX0_nextOnWay_30 : decode cX0_nextOnWay 30 = .ok (.invokevirtual 85, 3) := by decide +kernel
theorem dX0_nextOnWay_33 : decode cX0_nextOnWay 33 = .ok (.ifCond .eq 36, 3) := by decide +kernel
theorem dX0_nextOnWay_36 : decode cX0_nextOnWay 36 = .ok (.aload_n 0, 1) := by decide +kernel
theorem dX0_nextOnWay_37 : decode cX0_nextOnWay 37 = .ok (.getfield 15, 3) := by decide +kernel
theorem dX0_nextOnWay_40 : decode cX0_nextOnWay 40 = .ok (.iload_n 1, 1) := by decide +kernel
theorem dX0_nextOnWay_41 : decode cX0_nextOnWay 41 = .ok (.aload_n 0, 1) := by decide +kernel
theorem dX0_nextOnWay_42 : decode cX0_nextOnWay 42 = .ok (.getfield 35, 3) := by decide +kernel
theorem dX0_nextOnWay_45 : decode cX0_nextOnWay 45 = .ok (.getfield 79, 3) := by decide +kernel
theorem dX0_nextOnWay_48 : decode cX0_nextOnWay 48 = .ok (.iload_n 2, 1) := by decide +kernel
theorem dX0_nextOnWay_49 : decode cX0_nextOnWay 49 = .ok (.iaload, 1) := by decide +kernel
theorem dX0_nextOnWay_50 : decode cX0_nextOnWay 50 = .ok (.ior, 1) := by decide +kernel
theorem dX0_nextOnWay_51 : decode cX0_nextOnWay 51 = .ok (.iaload, 1) := by decide +kernel
theorem dX0_nextOnWay_52 : decode cX0_nextOnWay 52 = .ok (.aload_n 0, 1) := by decide +kernel
theorem dX0_nextOnWay_53 : decode cX0_nextOnWay 53 = .ok (.iload_n 2, 1) := by decide +kernel
theorem dX0_nextOnWay_54 : decode cX0_nextOnWay 54 = .ok (.invokevirtual 88, 3) := by decide +kernel
theorem dX0_nextOnWay_57 : decode cX0_nextOnWay 57 = .ok (.iadd, 1) := by decide +kernel
theorem dX0_nextOnWay_58 : decode cX0_nextOnWay 58 = .ok (.aload_n 0, 1) := by decide +kernel
theorem dX0_nextOnWay_59 : decode cX0_nextOnWay 59 = .ok (.getfield 15, 3) := by decide +kernel
theorem dX0_nextOnWay_62 : decode cX0_nextOnWay 62 = .ok (.iload_n 1, 1) := by decide +kernel
theorem dX0_nextOnWay_63 : decode cX0_nextOnWay 63 = .ok (.iaload, 1) := by decide +kernel
theorem dX0_nextOnWay_64 : decode cX0_nextOnWay 64 = .ok (.if_icmp .ne 5, 3) := by decide +kernel
theorem dX0_nextOnWay_67 : decode cX0_nextOnWay 67 = .ok (.iload_n 2, 1) := by decide +kernel
theorem dX0_nextOnWay_68 : decode cX0_nextOnWay 68 = .ok (.ireturn, 1) := by decide +kernel
theorem dX0_nextOnWay_69 : decode cX0_nextOnWay 69 = .ok (.iinc 2 1, 3) := by decide +kernel
theorem dX0_nextOnWay_72 : decode cX0_nextOnWay 72 = .ok (.goto (-59), 3) := by decide +kernel
theorem dX0_nextOnWay_75 : decode cX0_nextOnWay 75 = .ok (.iconst (-1), 1) := by decide +kernel
theorem dX0_nextOnWay_76 : decode cX0_nextOnWay 76 = .ok (.ireturn, 1) := by decide +kernel
theorem dX0_findSets_0 : decode cX0_findSets 0 = .ok (.iconst 0, 1) := by decide +kernel
theorem dX0_findSets_1 : decode cX0_findSets 1 = .ok (.istore_n 3, 1) := by decide +kernel
theorem dX0_findSets_2 : decode cX0_findSets 2 = .ok (.iconst 0, 1) := by decide +kernel
theorem dX0_findSets_3 : decode cX0_findSets 3 = .ok (.istore 4, 2) := by decide +kernel
theorem dX0_findSets_5 : decode cX0_findSets 5 = .ok (.iload 4, 2) := by decide +kernel
theorem dX0_findSets_7 : decode cX0_findSets 7 = .ok (.iconst 1, 1) := by decide +kernel
theorem dX0_findSets_8 : decode cX0_findSets 8 = .ok (.aload_n 0, 1) := by decide +kernel
theorem dX0_findSets_9 : decode cX0_findSets 9 = .ok (.getfield 35, 3) := by decide +kernel
theorem dX0_findSets_12 : decode cX0_findSets 12 = .ok (.getfield 39, 3) := by decide +kernel
theorem dX0_findSets_15 : decode cX0_findSets 15 = .ok (.ishl, 1) := by decide +kernel
theorem dX0_findSets_16 : decode cX0_findSets 16 = .ok (.if_icmp .ge 140, 3) := by decide +kernel
theorem dX0_findSets_19 : decode cX0_findSets 19 = .ok (.aload_n 0, 1) := by decide +kernel
theorem dX0_findSets_20 : decode cX0_findSets 20 = .ok (.getfield 25, 3) := by decide +kernel
theorem dX0_findSets_23 : decode cX0_findSets 23 = .ok (.iload 4, 2) := by decide +kernel
theorem dX0_findSets_25 : decode cX0_findSets 25 = .ok (.iload_n 1, 1) := by decide +kernel
theorem dX0_findSets_26 : decode cX0_findSets 26 = .ok (.iastore, 1) := by decide +kernel
theorem dX0_findSets_27 : decode cX0_findSets 27 = .ok (.iconst 0, 1) := by decide +kernel
theorem dX0_findSets_28 : decode cX0_findSets 28 = .ok (.istore 5, 2) := by decide +kernel
theorem dX0_findSets_30 : decode cX0_findSets 30 = .ok (.iload 5, 2) := by decide +kernel
theorem dX0_findSets_32 : decode cX0_findSets 32 = .ok (.aload_n 0, 1) := by decide +kernel
theorem dX0_findSets_33 : decode cX0_findSets 33 = .ok (.getfield 35, 3) := by decide +kernel
theorem dX0_findSets_36 : decode cX0_findSets 36 = .ok (.getfield 39, 3) := by decide +kernel
theorem dX0_findSets_39 : decode cX0_findSets 39 = .ok (.if_icmp .ge 39, 3) := by decide +kernel
theorem dX0_findSets_42 : decode cX0_findSets 42 = .ok (.iload 4, 2) := by decide +kernel
theorem dX0_findSets_44 : decode cX0_findSets 44 = .ok (.iconst 1, 1) := by decide +kernel
theorem dX0_findSets_45 : decode cX0_findSets 45 = .ok (.iload 5, 2) := by decide +kernel
theorem dX0_findSets_47 : decode cX0_findSets 47 = .ok (.ishl, 1) := by decide +kernel
theorem dX0_findSets_48 : decode cX0_findSets 48 = .ok (.iand, 1) := by decide +kernel
theorem dX0_findSets_49 : decode cX0_findSets 49 = .ok (.ifCond .eq 23, 3) := by decide +kernel
theorem dX0_findSets_52 : decode cX0_findSets 52 = .ok (.aload_n 0, 1) := by decide +kernel
theorem dX0_findSets_53 : decode cX0_findSets 53 = .ok (.getfield 25, 3) := by decide +kernel
theorem dX0_findSets_56 : decode cX0_findSets 56 = .ok (.iload 4, 2) := by decide +kernel
theorem dX0_findSets_58 : decode cX0_findSets 58 = .ok (.dup2, 1) := by decide +kernel
theorem dX0_findSets_59 : decode cX0_findSets 59 = .ok (.iaload, 1) := by decide +kernel
theorem dX0_findSets_60 : decode cX0_findSets 60 = .ok (.aload_n 0, 1) := by decide +kernel
theorem dX0_findSets_61 : decode cX0_findSets 61 = .ok (.getfield 35, 3) := by decide +kernel
theorem dX0_findSets_64 : decode cX0_findSets 64 = .ok (.getfield 79, 3) := by decide +kernel
theorem dX0_findSets_67 : decode cX0_findSets 67 = .ok (.iload 5, 2) := by decide +kernel
theorem dX0_findSets_69 : decode cX0_findSets 69 = .ok (.iaload, 1) := by decide +kernel
theorem dX0_findSets_70 : decode cX0_findSets 70 = .ok (.ior, 1) := by decide +kernel
theorem dX0_findSets_71 : decode cX0_findSets 71 = .ok (.iastore, 1) := by decide +kernel
theorem dX0_findSets_72 : decode cX0_findSets 72 = .ok (.iinc 5 1, 3) := by decide +kernel
theorem dX0_findSets_75 : decode cX0_findSets 75 = .ok (.goto (-45), 3) := by decide +kernel
theorem dX0_findSets_78 : decode cX0_findSets 78 = .ok (.aload_n 0, 1) := by decide +kernel
theorem dX0_findSets_79 : decode cX0_findSets 79 = .ok (.getfield 18, 3) := by decide +kernel
theorem dX0_findSets_82 : decode cX0_findSets 82 = .ok (.iload 4, 2) := by decide +kernel
theorem dX0_findSets_84 : decode cX0_findSets 84 = .ok (.iload 4, 2) := by decide +kernel
theorem dX0_findSets_86 : decode cX0_findSets 86 = .ok (.ifCond .eq 12, 3) := by decide +kernel
theorem dX0_findSets_89 : decode cX0_findSets 89 = .ok (.aload_n 0, 1) := by decide +kernel
theorem dX0_findSets_90 : decode cX0_findSets 90 = .ok (.iload 4, 2) := by decide +kernel
theorem dX0_findSets_92 : decode cX0_findSets 92 = .ok (.invokevirtual 91, 3) := by decide +kernel
theorem dX0_findSets_95 : decode cX0_findSets 95 = .ok (.ifCond .eq 7, 3) := by decide +kernel
theorem dX0_findSets_98 : decode cX0_findSets 98 = .ok (.iconst 1, 1) := by decide +kernel
theorem dX0_findSets_99 : decode cX0_findSets 99 = .ok (.goto 4, 3) := by decide +kernel
theorem dX0_findSets_102 : decode cX0_findSets 102 = .ok (.iconst 0, 1) := by decide +kernel
theorem dX0_findSets_103 : decode cX0_findSets 103 = .ok (.bastore, 1) := by decide +kernel
theorem dX0_findSets_104 : decode cX0_findSets 104 = .ok (.aload_n 0, 1) := by decide +kernel
theorem dX0_findSets_105 : decode cX0_findSets 105 = .ok (.getfield 22, 3) := by decide +kernel
theorem dX0_findSets_108 : decode cX0_findSets 108 = .ok (.iload 4, 2) := by decide +kernel
theorem dX0_findSets_110 : decode cX0_findSets 110 = .ok (.aload_n 0, 1) := by decide +kernel
theorem dX0_findSets_111 : decode cX0_findSets 111 = .ok (.getfield 18, 3) := by decide +kernel
theorem dX0_findSets_114 : decode cX0_findSets 114 = .ok (.iload 4, 2) := by decide +kernel
theorem dX0_findSets_116 : decode cX0_findSets 116 = .ok (.baload, 1) := by decide +kernel
theorem dX0_findSets_117 : decode cX0_findSets 117 = .ok (.ifCond .eq 18, 3) := by decide +kernel
theorem dX0_findSets_120 : decode cX0_findSets 120 = .ok (.aload_n 0, 1) := by decide +kernel
theorem dX0_findSets_121 : decode cX0_findSets 121 = .ok (.getfield 25, 3) := by decide +kernel
theorem dX0_findSets_124 : decode cX0_findSets 124 = .ok (.iload 4, 2) := by decide +kernel
theorem dX0_findSets_126 : decode cX0_findSets 126 = .ok (.iaload, 1) := by decide +kernel
theorem dX0_findSets_127 : decode cX0_findSets 127 = .ok (.iload_n 2, 1) := by decide +kernel
theorem dX0_findSets_128 : decode cX0_findSets 128 = .ok (.if_icmp .ne 7, 3) := by decide +kernel
theorem dX0_findSets_131 : decode cX0_findSets 131 = .ok (.iconst 1, 1) := by decide +kernel
theorem dX0_findSets_132 : decode cX0_findSets 132 = .ok (.goto 4, 3) := by decide +kernel
theorem dX0_findSets_135 : decode cX0_findSets 135 = .ok (.iconst 0, 1) := by decide +kernel
theorem dX0_findSets_136 : decode cX0_findSets 136 = .ok (.bastore, 1) := by decide +kernel
theorem dX0_findSets_137 : decode cX0_findSets 137 = .ok (.aload_n 0, 1) := by decide +kernel
theorem dX0_findSets_138 : decode cX0_findSets 138 = .ok (.getfield 22, 3) := by decide +kernel
theorem dX0_findSets_141 : decode cX0_findSets 141 = .ok (.iload 4, 2) := by decide +kernel
theorem dX0_findSets_143 : decode cX0_findSets 143 = .ok (.baload, 1) := by decide +kernel
theorem dX0_findSets_144 : decode cX0_findSets 144 = .ok (.ifCond .eq 6, 3) := by decide +kernel
theorem dX0_findSets_147 : decode cX0_findSets 147 = .ok (.iinc 3 1, 3) := by decide +kernel
theorem dX0_findSets_150 : decode cX0_findSets 150 = .ok (.iinc 4 1, 3) := by decide +kernel
theorem dX0_findSets_153 : decode cX0_findSets 153 = .ok (.goto (-148), 3) := by decide +kernel
theorem dX0_findSets_156 : decode cX0_findSets 156 = .ok (.iload_n 3, 1) := by decide +kernel
theorem dX0_findSets_157 : decode cX0_findSets 157 = .ok (.ireturn, 1) := by decide +kernel
theorem dX0_lastIn_0 : decode cX0_lastIn 0 = .ok (.iconst 0, 1) := by decide +kernel
theorem dX0_lastIn_1 : decode cX0_lastIn 1 = .ok (.istore_n 2, 1) := by decide +kernel
theorem dX0_lastIn_2 : decode cX0_lastIn 2 = .ok (.iconst 0, 1) := by decide +kernel
theorem dX0_lastIn_3 : decode cX0_lastIn 3 = .ok (.istore_n 3, 1) := by decide +kernel
theorem dX0_lastIn_4 : decode cX0_lastIn 4 = .ok (.iload_n 3, 1) := by decide +kernel
theorem dX0_lastIn_5 : decode cX0_lastIn 5 = .ok (.aload_n 0, 1) := by decide +kernel
theorem dX0_lastIn_6 : decode cX0_lastIn 6 = .ok (.getfield 35, 3) := by decide +kernel
theorem dX0_lastIn_9 : decode cX0_lastIn 9 = .ok (.getfield 39, 3) := by decide +kernel
theorem dX0_lastIn_12 : decode cX0_lastIn 12 = .ok (.if_icmp .ge 58, 3) := by decide +kernel
theorem dX0_lastIn_15 : decode cX0_lastIn 15 = .ok (.iconst 1, 1) := by decide +kernel
theorem dX0_lastIn_16 : decode cX0_lastIn 16 = .ok (.iload_n 3, 1) := by decide +kernel
theorem dX0_lastIn_17 : decode cX0_lastIn 17 = .ok (.ishl, 1) := by decide +kernel
theorem dX0_lastIn_18 : decode cX0_lastIn 18 = .ok (.istore 4, 2) := by decide +kernel
theorem dX0_lastIn_20 : decode cX0_lastIn 20 = .ok (.iload_n 1, 1) := by decide +kernel
theorem dX0_lastIn_21 : decode cX0_lastIn 21 = .ok (.iload 4, 2) := by decide +kernel
theorem dX0_lastIn_23 : decode cX0_lastIn 23 = .ok (.iand, 1) := by decide +kernel
theorem dX0_lastIn_24 : decode cX0_lastIn 24 = .ok (.ifCond .eq 40, 3) := by decide +kernel
theorem dX0_lastIn_27 : decode cX0_lastIn 27 = .ok (.aload_n 0, 1) := by decide +kernel
theorem dX0_lastIn_28 : decode cX0_lastIn 28 = .ok (.getfield 18, 3) := by decide +kernel
theorem dX0_lastIn_31 : decode cX0_lastIn 31 = .ok (.iload_n 1, 1) := by decide +kernel
theorem dX0_lastIn_32 : decode cX0_lastIn 32 = .ok (.iload 4, 2) := by decide +kernel
theorem dX0_lastIn_34 : decode cX0_lastIn 34 = .ok (.isub, 1) := by decide +kernel
theorem dX0_lastIn_35 : decode cX0_lastIn 35 = .ok (.baload, 1) := by decide +kernel
theorem dX0_lastIn_36 : decode cX0_lastIn 36 = .ok (.ifCond .eq 28, 3) := by decide +kernel
theorem dX0_lastIn_39 : decode cX0_lastIn 39 = .ok (.aload_n 0, 1) := by decide +kernel
theorem dX0_lastIn_40 : decode cX0_lastIn 40 = .ok (.getfield 35, 3) := by decide +kernel
theorem dX0_lastIn_43 : decode cX0_lastIn 43 = .ok (.aload_n 0, 1) := by decide +kernel
theorem dX0_lastIn_44 : decode cX0_lastIn 44 = .ok (.getfield 25, 3) := by decide +kernel
theorem dX0_lastIn_47 : decode cX0_lastIn 47 = .ok (.iload_n 1, 1) := by decide +kernel
theorem dX0_lastIn_48 : decode cX0_lastIn 48 = .ok (.iload 4, 2) := by decide +kernel
theorem dX0_lastIn_50 : decode cX0_lastIn 50 = .ok (.isub, 1) := by decide +kernel
theorem dX0_lastIn_51 : decode cX0_lastIn 51 = .ok (.iaload, 1) := by decide +kernel
theorem dX0_lastIn_52 : decode cX0_lastIn 52 = .ok (.iload_n 3, 1) := by decide +kernel
theorem dX0_lastIn_53 : decode cX0_lastIn 53 = .ok (.invokevirtual 85, 3) := by decide +kernel
theorem dX0_lastIn_56 : decode cX0_lastIn 56 = .ok (.ifCond .eq 8, 3) := by decide +kernel
theorem dX0_lastIn_59 : decode cX0_lastIn 59 = .ok (.iload_n 2, 1) := by decide +kernel
theorem dX0_lastIn_60 : decode cX0_lastIn 60 = .ok (.iload 4, 2) := by decide +kernel
theorem dX0_lastIn_62 : decode cX0_lastIn 62 = .ok (.ior, 1) := by decide +kernel
theorem dX0_lastIn_63 : decode cX0_lastIn 63 = .ok (.istore_n 2, 1) := by decide +kernel
theorem dX0_lastIn_64 : decode cX0_lastIn 64 = .ok (.iinc 3 1, 3) := by decide +kernel
theorem dX0_lastIn_67 : decode cX0_lastIn 67 = .ok (.goto (-63), 3) := by decide +kernel
theorem dX0_lastIn_70 : decode cX0_lastIn 70 = .ok (.iload_n 2, 1) := by decide +kernel
theorem dX0_lastIn_71 : decode cX0_lastIn 71 = .ok (.ireturn, 1) := by decide +kernel
theorem dX0_setNumbered_0 : decode cX0_setNumbered 0 = .ok (.iconst 0, 1) := by decide +kernel
theorem dX0_setNumbered_1 : decode cX0_setNumbered 1 = .ok (.istore_n 2, 1) := by decide +kernel
theorem dX0_setNumbered_2 : decode cX0_setNumbered 2 = .ok (.iconst 0, 1) := by decide +kernel
theorem dX0_setNumbered_3 : decode cX0_setNumbered 3 = .ok (.istore_n 3, 1) := by decide +kernel
theorem dX0_setNumbered_4 : decode cX0_setNumbered 4 = .ok (.iload_n 3, 1) := by decide +kernel
theorem dX0_setNumbered_5 : decode cX0_setNumbered 5 = .ok (.iconst 1, 1) := by decide +kernel
theorem dX0_setNumbered_6 : decode cX0_setNumbered 6 = .ok (.aload_n 0, 1) := by decide +kernel
theorem dX0_setNumbered_7 : decode cX0_setNumbered 7 = .ok (.getfield 35, 3) := by decide +kernel
theorem dX0_setNumbered_10 : decode cX0_setNumbered 10 = .ok (.getfield 39, 3) := by decide +kernel
theorem dX0_setNumbered_13 : decode cX0_setNumbered 13 = .ok (.ishl, 1) := by decide +kernel
theorem dX0_setNumbered_14 : decode cX0_setNumbered 14 = .ok (.if_icmp .ge 28, 3) := by decide +kernel
theorem dX0_setNumbered_17 : decode cX0_setNumbered 17 = .ok (.aload_n 0, 1) := by decide +kernel
theorem dX0_setNumbered_18 : decode cX0_setNumbered 18 = .ok (.getfield 22, 3) := by decide +kernel
theorem dX0_setNumbered_21 : decode cX0_setNumbered 21 = .ok (.iload_n 3, 1) := by decide +kernel
theorem dX0_setNumbered_22 : decode cX0_setNumbered 22 = .ok (.baload, 1) := by decide +kernel
theorem dX0_setNumbered_23 : decode cX0_setNumbered 23 = .ok (.ifCond .eq 13, 3) := by decide +kernel
theorem dX0_setNumbered_26 : decode cX0_setNumbered 26 = .ok (.iload_n 2, 1) := by decide +kernel
theorem dX0_setNumbered_27 : decode cX0_setNumbered 27 = .ok (.iload_n 1, 1) := by decide +kernel
theorem dX0_setNumbered_28 : decode cX0_setNumbered 28 = .ok (.if_icmp .ne 5, 3) := by decide +kernel
theorem dX0_setNumbered_31 : decode cX0_setNumbered 31 = .ok (.iload_n 3, 1) := by decide +kernel
theorem dX0_setNumbered_32 : decode cX0_setNumbered 32 = .ok (.ireturn, 1) := by decide +kernel
theorem dX0_setNumbered_33 : decode cX0_setNumbered 33 = .ok (.iinc 2 1, 3) := by decide +kernel
theorem dX0_setNumbered_36 : decode cX0_setNumbered 36 = .ok (.iinc 3 1, 3) := by decide +kernel
theorem dX0_setNumbered_39 : decode cX0_setNumbered 39 = .ok (.goto (-35), 3) := by decide +kernel
theorem dX0_setNumbered_42 : decode cX0_setNumbered 42 = .ok (.iconst (-1), 1) := by decide +kernel
theorem dX0_setNumbered_43 : decode cX0_setNumbered 43 = .ok (.ireturn, 1) := by decide +kernel
theorem dX0_bestToAsk_0 : decode cX0_bestToAsk 0 = .ok (.iconst (-1), 1) := by decide +kernel
theorem dX0_bestToAsk_1 : decode cX0_bestToAsk 1 = .ok (.istore_n 3, 1) := by decide +kernel
theorem dX0_bestToAsk_2 : decode cX0_bestToAsk 2 = .ok (.iload_n 1, 1) := by decide +kernel
theorem dX0_bestToAsk_3 : decode cX0_bestToAsk 3 = .ok (.iconst 1, 1) := by decide +kernel
theorem dX0_bestToAsk_4 : decode cX0_bestToAsk 4 = .ok (.iadd, 1) := by decide +kernel
theorem dX0_bestToAsk_5 : decode cX0_bestToAsk 5 = .ok (.istore 4, 2) := by decide +kernel
theorem dX0_bestToAsk_7 : decode cX0_bestToAsk 7 = .ok (.iconst 0, 1) := by decide +kernel
theorem dX0_bestToAsk_8 : decode cX0_bestToAsk 8 = .ok (.istore 5, 2) := by decide +kernel
theorem dX0_bestToAsk_10 : decode cX0_bestToAsk 10 = .ok (.iload 5, 2) := by decide +kernel
theorem dX0_bestToAsk_12 : decode cX0_bestToAsk 12 = .ok (.aload_n 0, 1) := by decide +kernel
theorem dX0_bestToAsk_13 : decode cX0_bestToAsk 13 = .ok (.getfield 35, 3) := by decide +kernel
theorem dX0_bestToAsk_16 : decode cX0_bestToAsk 16 = .ok (.getfield 39, 3) := by decide +kernel
theorem dX0_bestToAsk_19 : decode cX0_bestToAsk 19 = .ok (.if_icmp .ge 42, 3) := by decide +kernel
theorem dX0_bestToAsk_22 : decode cX0_bestToAsk 22 = .ok (.aload_n 0, 1) := by decide +kernel
theorem dX0_bestToAsk_23 : decode cX0_bestToAsk 23 = .ok (.iload 5, 2) := by decide +kernel
theorem dX0_bestToAsk_25 : decode cX0_bestToAsk 25 = .ok (.invokevirtual 94, 3) := by decide +kernel
theorem dX0_bestToAsk_28 : decode cX0_bestToAsk 28 = .ok (.istore 6, 2) := by decide +kernel
theorem dX0_bestToAsk_30 : decode cX0_bestToAsk 30 = .ok (.iload 6, 2) := by decide +kernel
theorem dX0_bestToAsk_32 : decode cX0_bestToAsk 32 = .ok (.iload_n 1, 1) := by decide +kernel
theorem dX0_bestToAsk_33 : decode cX0_bestToAsk 33 = .ok (.iload 6, 2) := by decide +kernel
theorem dX0_bestToAsk_35 : decode cX0_bestToAsk 35 = .ok (.isub, 1) := by decide +kernel
theorem dX0_bestToAsk_36 : decode cX0_bestToAsk 36 = .ok (.invokestatic 97, 3) := by decide +kernel
theorem dX0_bestToAsk_39 : decode cX0_bestToAsk 39 = .ok (.istore 7, 2) := by decide +kernel
theorem dX0_bestToAsk_41 : decode cX0_bestToAsk 41 = .ok (.iload 7, 2) := by decide +kernel
theorem dX0_bestToAsk_43 : decode cX0_bestToAsk 43 = .ok (.iload 4, 2) := by decide +kernel
theorem dX0_bestToAsk_45 : decode cX0_bestToAsk 45 = .ok (.if_icmp .ge 10, 3) := by decide +kernel
theorem dX0_bestToAsk_48 : decode cX0_bestToAsk 48 = .ok (.iload 7, 2) := by decide +kernel
theorem dX0_bestToAsk_50 : decode cX0_bestToAsk 50 = .ok (.istore 4, 2) := by decide +kernel
theorem dX0_bestToAsk_52 : decode cX0_bestToAsk 52 = .ok (.iload 5, 2) := by decide +kernel
theorem dX0_bestToAsk_54 : decode cX0_bestToAsk 54 = .ok (.istore_n 3, 1) := by decide +kernel
theorem dX0_bestToAsk_55 : decode cX0_bestToAsk 55 = .ok (.iinc 5 1, 3) := by decide +kernel
theorem dX0_bestToAsk_58 : decode cX0_bestToAsk 58 = .ok (.goto (-48), 3) := by decide +kernel
theorem dX0_bestToAsk_61 : decode cX0_bestToAsk 61 = .ok (.iload_n 2, 1) := by decide +kernel
theorem dX0_bestToAsk_62 : decode cX0_bestToAsk 62 = .ok (.ifCond .eq 8, 3) := by decide +kernel
theorem dX0_bestToAsk_65 : decode cX0_bestToAsk 65 = .ok (.iload_n 3, 1) := by decide +kernel
theorem dX0_bestToAsk_66 : decode cX0_bestToAsk 66 = .ok (.iconst (-1), 1) := by decide +kernel
theorem dX0_bestToAsk_67 : decode cX0_bestToAsk 67 = .ok (.if_icmp .ne 7, 3) := by decide +kernel
theorem dX0_bestToAsk_70 : decode cX0_bestToAsk 70 = .ok (.iload_n 3, 1) := by decide +kernel
theorem dX0_bestToAsk_71 : decode cX0_bestToAsk 71 = .ok (.goto 5, 3) := by decide +kernel
theorem dX0_bestToAsk_74 : decode cX0_bestToAsk 74 = .ok (.iload 4, 2) := by decide +kernel
theorem dX0_bestToAsk_76 : decode cX0_bestToAsk 76 = .ok (.ireturn, 1) := by decide +kernel
theorem dX0_setsWith_0 : decode cX0_setsWith 0 = .ok (.iconst 0, 1) := by decide +kernel
theorem dX0_setsWith_1 : decode cX0_setsWith 1 = .ok (.istore_n 2, 1) := by decide +kernel
theorem dX0_setsWith_2 : decode cX0_setsWith 2 = .ok (.iconst 0, 1) := by decide +kernel
theorem dX0_setsWith_3 : decode cX0_setsWith 3 = .ok (.istore_n 3, 1) := by decide +kernel
theorem dX0_setsWith_4 : decode cX0_setsWith 4 = .ok (.iload_n 3, 1) := by decide +kernel
theorem dX0_setsWith_5 : decode cX0_setsWith 5 = .ok (.iconst 1, 1) := by decide +kernel
theorem dX0_setsWith_6 : decode cX0_setsWith 6 = .ok (.aload_n 0, 1) := by decide +kernel
theorem dX0_setsWith_7 : decode cX0_setsWith 7 = .ok (.getfield 35, 3) := by decide +kernel
theorem dX0_setsWith_10 : decode cX0_setsWith 10 = .ok (.getfield 39, 3) := by decide +kernel
theorem dX0_setsWith_13 : decode cX0_setsWith 13 = .ok (.ishl, 1) := by decide +kernel
theorem dX0_setsWith_14 : decode cX0_setsWith 14 = .ok (.if_icmp .ge 29, 3) := by decide +kernel
theorem dX0_setsWith_17 : decode cX0_setsWith 17 = .ok (.aload_n 0, 1) := by decide +kernel
theorem dX0_setsWith_18 : decode cX0_setsWith 18 = .ok (.getfield 22, 3) := by decide +kernel
theorem dX0_setsWith_21 : decode cX0_setsWith 21 = .ok (.iload_n 3, 1) := by decide +kernel
theorem dX0_setsWith_22 : decode cX0_setsWith 22 = .ok (.baload, 1) := by decide +kernel
theorem dX0_setsWith_23 : decode cX0_setsWith 23 = .ok (.ifCond .eq 14, 3) := by decide +kernel
theorem dX0_setsWith_26 : decode cX0_setsWith 26 = .ok (.iload_n 3, 1) := by decide +kernel
theorem dX0_setsWith_27 : decode cX0_setsWith 27 = .ok (.iconst 1, 1) := by decide +kernel
theorem dX0_setsWith_28 : decode cX0_setsWith 28 = .ok (.iload_n 1, 1) := by decide +kernel
theorem dX0_setsWith_29 : decode cX0_setsWith 29 = .ok (.ishl, 1) := by decide +kernel
theorem dX0_setsWith_30 : decode cX0_setsWith 30 = .ok (.iand, 1) := by decide +kernel
theorem dX0_setsWith_31 : decode cX0_setsWith 31 = .ok (.ifCond .eq 6, 3) := by decide +kernel
theorem dX0_setsWith_34 : decode cX0_setsWith 34 = .ok (.iinc 2 1, 3) := by decide +kernel
theorem dX0_setsWith_37 : decode cX0_setsWith 37 = .ok (.iinc 3 1, 3) := by decide +kernel
theorem dX0_setsWith_40 : decode cX0_setsWith 40 = .ok (.goto (-36), 3) := by decide +kernel
theorem dX0_setsWith_43 : decode cX0_setsWith 43 = .ok (.iload_n 2, 1) := by decide +kernel
theorem dX0_setsWith_44 : decode cX0_setsWith 44 = .ok (.ireturn, 1) := by decide +kernel
theorem dX0_lastOnes_0 : decode cX0_lastOnes 0 = .ok (.iconst 0, 1) := by decide +kernel
theorem dX0_lastOnes_1 : decode cX0_lastOnes 1 = .ok (.istore_n 1, 1) := by decide +kernel
theorem dX0_lastOnes_2 : decode cX0_lastOnes 2 = .ok (.iconst 0, 1) := by decide +kernel
theorem dX0_lastOnes_3 : decode cX0_lastOnes 3 = .ok (.istore_n 2, 1) := by decide +kernel
theorem dX0_lastOnes_4 : decode cX0_lastOnes 4 = .ok (.iload_n 2, 1) := by decide +kernel
theorem dX0_lastOnes_5 : decode cX0_lastOnes 5 = .ok (.iconst 1, 1) := by decide +kernel
theorem dX0_lastOnes_6 : decode cX0_lastOnes 6 = .ok (.aload_n 0, 1) := by decide +kernel
theorem dX0_lastOnes_7 : decode cX0_lastOnes 7 = .ok (.getfield 35, 3) := by decide +kernel
theorem dX0_lastOnes_10 : decode cX0_lastOnes 10 = .ok (.getfield 39, 3) := by decide +kernel
theorem dX0_lastOnes_13 : decode cX0_lastOnes 13 = .ok (.ishl, 1) := by decide +kernel
theorem dX0_lastOnes_14 : decode cX0_lastOnes 14 = .ok (.if_icmp .ge 26, 3) := by decide +kernel
theorem dX0_lastOnes_17 : decode cX0_lastOnes 17 = .ok (.aload_n 0, 1) := by decide +kernel
theorem dX0_lastOnes_18 : decode cX0_lastOnes 18 = .ok (.getfield 22, 3) := by decide +kernel
theorem dX0_lastOnes_21 : decode cX0_lastOnes 21 = .ok (.iload_n 2, 1) := by decide +kernel
theorem dX0_lastOnes_22 : decode cX0_lastOnes 22 = .ok (.baload, 1) := by decide +kernel
theorem dX0_lastOnes_23 : decode cX0_lastOnes 23 = .ok (.ifCond .eq 11, 3) := by decide +kernel
theorem dX0_lastOnes_26 : decode cX0_lastOnes 26 = .ok (.iload_n 1, 1) := by decide +kernel
theorem dX0_lastOnes_27 : decode cX0_lastOnes 27 = .ok (.aload_n 0, 1) := by decide +kernel
theorem dX0_lastOnes_28 : decode cX0_lastOnes 28 = .ok (.iload_n 2, 1) := by decide +kernel
theorem dX0_lastOnes_29 : decode cX0_lastOnes 29 = .ok (.invokevirtual 91, 3) := by decide +kernel
theorem dX0_lastOnes_32 : decode cX0_lastOnes 32 = .ok (.ior, 1) := by decide +kernel
theorem dX0_lastOnes_33 : decode cX0_lastOnes 33 = .ok (.istore_n 1, 1) := by decide +kernel
theorem dX0_lastOnes_34 : decode cX0_lastOnes 34 = .ok (.iinc 2 1, 3) := by decide +kernel
theorem dX0_lastOnes_37 : decode cX0_lastOnes 37 = .ok (.goto (-33), 3) := by decide +kernel
theorem dX0_lastOnes_40 : decode cX0_lastOnes 40 = .ok (.iload_n 1, 1) := by decide +kernel
theorem dX0_lastOnes_41 : decode cX0_lastOnes 41 = .ok (.ireturn, 1) := by decide +kernel
theorem dX0_longestNest_0 : decode cX0_longestNest 0 = .ok (.aload_n 0, 1) := by decide +kernel
theorem dX0_longestNest_1 : decode cX0_longestNest 1 = .ok (.invokevirtual 100, 3) := by decide +kernel
theorem dX0_longestNest_4 : decode cX0_longestNest 4 = .ok (.iconst 0, 1) := by decide +kernel
theorem dX0_longestNest_5 : decode cX0_longestNest 5 = .ok (.istore_n 2, 1) := by decide +kernel
theorem dX0_longestNest_6 : decode cX0_longestNest 6 = .ok (.iconst 0, 1) := by decide +kernel
theorem dX0_longestNest_7 : decode cX0_longestNest 7 = .ok (.istore_n 3, 1) := by decide +kernel
theorem dX0_longestNest_8 : decode cX0_longestNest 8 = .ok (.iload_n 3, 1) := by decide +kernel
theorem dX0_longestNest_9 : decode cX0_longestNest 9 = .ok (.aload_n 0, 1) := by decide +kernel
theorem dX0_longestNest_10 : decode cX0_longestNest 10 = .ok (.getfield 35, 3) := by decide +kernel
theorem dX0_longestNest_13 : decode cX0_longestNest 13 = .ok (.getfield 39, 3) := by decide +kernel
theorem dX0_longestNest_16 : decode cX0_longestNest 16 = .ok (.if_icmp .ge 20, 3) := by decide +kernel
theorem dX0_longestNest_19 : decode cX0_longestNest 19 = .ok (.iload_n 2, 1) := by decide +kernel
theorem dX0_longestNest_20 : decode cX0_longestNest 20 = .ok (.aload_n 0, 1) := by decide +kernel
theorem dX0_longestNest_21 : decode cX0_longestNest 21 = .ok (.getfield 28, 3) := by decide +kernel
theorem dX0_longestNest_24 : decode cX0_longestNest 24 = .ok (.iload_n 3, 1) := by decide +kernel
theorem dX0_longestNest_25 : decode cX0_longestNest 25 = .ok (.iaload, 1) := by decide +kernel
theorem dX0_longestNest_26 : decode cX0_longestNest 26 = .ok (.invokestatic 97, 3) := by decide +kernel
theorem dX0_longestNest_29 : decode cX0_longestNest 29 = .ok (.istore_n 2, 1) := by decide +kernel
theorem dX0_longestNest_30 : decode cX0_longestNest 30 = .ok (.iinc 3 1, 3) := by decide +kernel
theorem dX0_longestNest_33 : decode cX0_longestNest 33 = .ok (.goto (-25), 3) := by decide +kernel
theorem dX0_longestNest_36 : decode cX0_longestNest 36 = .ok (.iload_n 1, 1) := by decide +kernel
theorem dX0_longestNest_37 : decode cX0_longestNest 37 = .ok (.iconst (-1), 1) := by decide +kernel
theorem dX0_longestNest_38 : decode cX0_longestNest 38 = .ok (.if_icmp .ne 5, 3) := by decide +kernel
theorem dX0_longestNest_41 : decode cX0_longestNest 41 = .ok (.iload_n 2, 1) := by decide +kernel
theorem dX0_longestNest_42 : decode cX0_longestNest 42 = .ok (.ireturn, 1) := by decide +kernel
theorem dX0_longestNest_43 : decode cX0_longestNest 43 = .ok (.iconst (-1), 1) := by decide +kernel
theorem dX0_longestNest_44 : decode cX0_longestNest 44 = .ok (.istore_n 3, 1) := by decide +kernel
theorem dX0_longestNest_45 : decode cX0_longestNest 45 = .ok (.iconst 0, 1) := by decide +kernel
theorem dX0_longestNest_46 : decode cX0_longestNest 46 = .ok (.istore 4, 2) := by decide +kernel
theorem dX0_longestNest_48 : decode cX0_longestNest 48 = .ok (.iload 4, 2) := by decide +kernel
theorem dX0_longestNest_50 : decode cX0_longestNest 50 = .ok (.iload_n 2, 1) := by decide +kernel
theorem dX0_longestNest_51 : decode cX0_longestNest 51 = .ok (.if_icmp .ge 32, 3) := by decide +kernel
theorem dX0_longestNest_54 : decode cX0_longestNest 54 = .ok (.aload_n 0, 1) := by decide +kernel
theorem dX0_longestNest_55 : decode cX0_longestNest 55 = .ok (.iload_n 3, 1) := by decide +kernel
theorem dX0_longestNest_56 : decode cX0_longestNest 56 = .ok (.iload_n 2, 1) := by decide +kernel
theorem dX0_longestNest_57 : decode cX0_longestNest 57 = .ok (.iload 4, 2) := by decide +kernel
theorem dX0_longestNest_59 : decode cX0_longestNest 59 = .ok (.isub, 1) := by decide +kernel
theorem dX0_longestNest_60 : decode cX0_longestNest 60 = .ok (.invokevirtual 103, 3) := by decide +kernel
theorem dX0_longestNest_63 : decode cX0_longestNest 63 = .ok (.istore_n 3, 1) := by decide +kernel
theorem dX0_longestNest_64 : decode cX0_longestNest 64 = .ok (.iload 4, 2) := by decide +kernel
theorem dX0_longestNest_66 : decode cX0_longestNest 66 = .ok (.iload_n 1, 1) := by decide +kernel
theorem dX0_longestNest_67 : decode cX0_longestNest 67 = .ok (.if_icmp .eq 8, 3) := by decide +kernel
theorem dX0_longestNest_70 : decode cX0_longestNest 70 = .ok (.iload_n 3, 1) := by decide +kernel
theorem dX0_longestNest_71 : decode cX0_longestNest 71 = .ok (.iconst (-1), 1) := by decide +kernel
theorem dX0_longestNest_72 : decode cX0_longestNest 72 = .ok (.if_icmp .ne 5, 3) := by decide +kernel
theorem dX0_longestNest_75 : decode cX0_longestNest 75 = .ok (.iload_n 3, 1) := by decide +kernel
theorem dX0_longestNest_76 : decode cX0_longestNest 76 = .ok (.ireturn, 1) := by decide +kernel
theorem dX0_longestNest_77 : decode cX0_longestNest 77 = .ok (.iinc 4 1, 3) := by decide +kernel
theorem dX0_longestNest_80 : decode cX0_longestNest 80 = .ok (.goto (-32), 3) := by decide +kernel
theorem dX0_longestNest_83 : decode cX0_longestNest 83 = .ok (.iconst (-1), 1) := by decide +kernel
theorem dX0_longestNest_84 : decode cX0_longestNest 84 = .ok (.ireturn, 1) := by decide +kernel
theorem dX0_wantsMore_0 : decode cX0_wantsMore 0 = .ok (.aload_n 0, 1) := by decide +kernel
theorem dX0_wantsMore_1 : decode cX0_wantsMore 1 = .ok (.getfield 35, 3) := by decide +kernel
theorem dX0_wantsMore_4 : decode cX0_wantsMore 4 = .ok (.getfield 106, 3) := by decide +kernel
theorem dX0_wantsMore_7 : decode cX0_wantsMore 7 = .ok (.iload_n 2, 1) := by decide +kernel
theorem dX0_wantsMore_8 : decode cX0_wantsMore 8 = .ok (.iaload, 1) := by decide +kernel
theorem dX0_wantsMore_9 : decode cX0_wantsMore 9 = .ok (.istore_n 3, 1) := by decide +kernel
theorem dX0_wantsMore_10 : decode cX0_wantsMore 10 = .ok (.aload_n 0, 1) := by decide +kernel
theorem dX0_wantsMore_11 : decode cX0_wantsMore 11 = .ok (.getfield 35, 3) := by decide +kernel
theorem dX0_wantsMore_14 : decode cX0_wantsMore 14 = .ok (.getfield 106, 3) := by decide +kernel
theorem dX0_wantsMore_17 : decode cX0_wantsMore 17 = .ok (.iload_n 1, 1) := by decide +kernel
theorem dX0_wantsMore_18 : decode cX0_wantsMore 18 = .ok (.iaload, 1) := by decide +kernel
theorem dX0_wantsMore_19 : decode cX0_wantsMore 19 = .ok (.iload_n 3, 1) := by decide +kernel
theorem dX0_wantsMore_20 : decode cX0_wantsMore 20 = .ok (.if_icmp .eq 23, 3) := by decide +kernel
theorem dX0_wantsMore_23 : decode cX0_wantsMore 23 = .ok (.iload_n 3, 1) := by decide +kernel
theorem dX0_wantsMore_24 : decode cX0_wantsMore 24 = .ok (.aload_n 0, 1) := by decide +kernel
theorem dX0_wantsMore_25 : decode cX0_wantsMore 25 = .ok (.getfield 35, 3) := by decide +kernel
theorem dX0_wantsMore_28 : decode cX0_wantsMore 28 = .ok (.getfield 106, 3) := by decide +kernel
theorem dX0_wantsMore_31 : decode cX0_wantsMore 31 = .ok (.iload_n 1, 1) := by decide +kernel
theorem dX0_wantsMore_32 : decode cX0_wantsMore 32 = .ok (.iaload, 1) := by decide +kernel
theorem dX0_wantsMore_33 : decode cX0_wantsMore 33 = .ok (.iconst (-1), 1) := by decide +kernel
theorem dX0_wantsMore_34 : decode cX0_wantsMore 34 = .ok (.ixor, 1) := by decide +kernel
theorem dX0_wantsMore_35 : decode cX0_wantsMore 35 = .ok (.iand, 1) := by decide +kernel
theorem dX0_wantsMore_36 : decode cX0_wantsMore 36 = .ok (.ifCond .ne 7, 3) := by decide +kernel
theorem dX0_wantsMore_39 : decode cX0_wantsMore 39 = .ok (.iconst 1, 1) := by decide +kernel
theorem dX0_wantsMore_40 : decode cX0_wantsMore 40 = .ok (.goto 4, 3) := by decide +kernel
theorem dX0_wantsMore_43 : decode cX0_wantsMore 43 = .ok (.iconst 0, 1) := by decide +kernel
theorem dX0_wantsMore_44 : decode cX0_wantsMore 44 = .ok (.ireturn, 1) := by decide +kernel
theorem dX0_fillLongest_0 : decode cX0_fillLongest 0 = .ok (.bipush 63, 2) := by decide +kernel
theorem dX0_fillLongest_2 : decode cX0_fillLongest 2 = .ok (.istore_n 1, 1) := by decide +kernel
theorem dX0_fillLongest_3 : decode cX0_fillLongest 3 = .ok (.iload_n 1, 1) := by decide +kernel
theorem dX0_fillLongest_4 : decode cX0_fillLongest 4 = .ok (.ifCond .lt 54, 3) := by decide +kernel
theorem dX0_fillLongest_7 : decode cX0_fillLongest 7 = .ok (.iconst 0, 1) := by decide +kernel
theorem dX0_fillLongest_8 : decode cX0_fillLongest 8 = .ok (.istore_n 2, 1) := by decide +kernel
theorem dX0_fillLongest_9 : decode cX0_fillLongest 9 = .ok (.iload_n 2, 1) := by decide +kernel
theorem dX0_fillLongest_10 : decode cX0_fillLongest 10 = .ok (.aload_n 0, 1) := by decide +kernel
theorem dX0_fillLongest_11 : decode cX0_fillLongest 11 = .ok (.getfield 35, 3) := by decide +kernel
theorem dX0_fillLongest_14 : decode cX0_fillLongest 14 = .ok (.getfield 39, 3) := by decide +kernel
theorem dX0_fillLongest_17 : decode cX0_fillLongest 17 = .ok (.if_icmp .ge 35, 3) := by decide +kernel
theorem dX0_fillLongest_20 : decode cX0_fillLongest 20 = .ok (.aload_n 0, 1) := by decide +kernel
theorem dX0_fillLongest_21 : decode cX0_fillLongest 21 = .ok (.getfield 35, 3) := by decide +kernel
theorem dX0_fillLongest_24 : decode cX0_fillLongest 24 = .ok (.getfield 106, 3) := by decide +kernel
theorem dX0_fillLongest_27 : decode cX0_fillLongest 27 = .ok (.iload_n 2, 1) := by decide +kernel
theorem dX0_fillLongest_28 : decode cX0_fillLongest 28 = .ok (.iaload, 1) := by decide +kernel
theorem dX0_fillLongest_29 : decode cX0_fillLongest 29 = .ok (.iload_n 1, 1) := by decide +kernel
theorem dX0_fillLongest_30 : decode cX0_fillLongest 30 = .ok (.if_icmp .ne 16, 3) := by decide +kernel
theorem dX0_fillLongest_33 : decode cX0_fillLongest 33 = .ok (.aload_n 0, 1) := by decide +kernel
theorem dX0_fillLongest_34 : decode cX0_fillLongest 34 = .ok (.getfield 28, 3) := by decide +kernel
theorem dX0_fillLongest_37 : decode cX0_fillLongest 37 = .ok (.iload_n 2, 1) := by decide +kernel
theorem dX0_fillLongest_38 : decode cX0_fillLongest 38 = .ok (.iconst 1, 1) := by decide +kernel
theorem dX0_fillLongest_39 : decode cX0_fillLongest 39 = .ok (.aload_n 0, 1) := by decide +kernel
theorem dX0_fillLongest_40 : decode cX0_fillLongest 40 = .ok (.iload_n 2, 1) := by decide +kernel
theorem dX0_fillLongest_41 : decode cX0_fillLongest 41 = .ok (.invokevirtual 109, 3) := by decide +kernel
theorem dX0_fillLongest_44 : decode cX0_fillLongest 44 = .ok (.iadd, 1) := by decide +kernel
theorem dX0_fillLongest_45 : decode cX0_fillLongest 45 = .ok (.iastore, 1) := by decide +kernel
theorem dX0_fillLongest_46 : decode cX0_fillLongest 46 = .ok (.iinc 2 1, 3) := by decide +kernel
theorem dX0_fillLongest_49 : decode cX0_fillLongest 49 = .ok (.goto (-40), 3) := by decide +kernel
theorem dX0_fillLongest_52 : decode cX0_fillLongest 52 = .ok (.iinc 1 (-1), 3) := by decide +kernel
theorem dX0_fillLongest_55 : decode cX0_fillLongest 55 = .ok (.goto (-52), 3) := by decide +kernel
theorem dX0_fillLongest_58 : decode cX0_fillLongest 58 = .ok (.return_, 1) := by decide +kernel
theorem dX0_longestBehind_0 : decode cX0_longestBehind 0 = .ok (.iconst 0, 1) := by decide +kernel
theorem dX0_longestBehind_1 : decode cX0_longestBehind 1 = .ok (.istore_n 2, 1) := by decide +kernel
theorem dX0_longestBehind_2 : decode cX0_longestBehind 2 = .ok (.iconst 0, 1) := by decide +kernel
theorem dX0_longestBehind_3 : decode cX0_longestBehind 3 = .ok (.istore_n 3, 1) := by decide +kernel
theorem dX0_longestBehind_4 : decode cX0_longestBehind 4 = .ok (.iload_n 3, 1) := by decide +kernel
theorem dX0_longestBehind_5 : decode cX0_longestBehind 5 = .ok (.aload_n 0, 1) := by decide +kernel
theorem dX0_longestBehind_6 : decode cX0_longestBehind 6 = .ok (.getfield 35, 3) := by decide +kernel
theorem dX0_longestBehind_9 : decode cX0_longestBehind 9 = .ok (.getfield 39, 3) := by decide +kernel
theorem dX0_longestBehind_12 : decode cX0_longestBehind 12 = .ok (.if_icmp .ge 29, 3) := by decide +kernel
theorem dX0_longestBehind_15 : decode cX0_longestBehind 15 = .ok (.aload_n 0, 1) := by decide +kernel
theorem dX0_longestBehind_16 : decode cX0_longestBehind 16 = .ok (.iload_n 3, 1) := by decide +kernel
theorem dX0_longestBehind_17 : decode cX0_longestBehind 17 = .ok (.iload_n 1, 1) := by decide +kernel
theorem dX0_longestBehind_18 : decode cX0_longestBehind 18 = .ok (.invokevirtual 112, 3) := by decide +kernel
theorem dX0_longestBehind_21 : decode cX0_longestBehind 21 = .ok (.ifCond .eq 14, 3) := by decide +kernel
theorem dX0_longestBehind_24 : decode cX0_longestBehind 24 = .ok (.iload_n 2, 1) := by decide +kernel
theorem dX0_longestBehind_25 : decode cX0_longestBehind 25 = .ok (.aload_n 0, 1) := by decide +kernel
theorem dX0_longestBehind_26 : decode cX0_longestBehind 26 = .ok (.getfield 28, 3) := by decide +kernel
theorem dX0_longestBehind_29 : decode cX0_longestBehind 29 = .ok (.iload_n 3, 1) := by decide +kernel
theorem dX0_longestBehind_30 : decode cX0_longestBehind 30 = .ok (.iaload, 1) := by decide +kernel
theorem dX0_longestBehind_31 : decode cX0_longestBehind 31 = .ok (.invokestatic 97, 3) := by decide +kernel
theorem dX0_longestBehind_34 : decode cX0_longestBehind 34 = .ok (.istore_n 2, 1) := by decide +kernel
theorem dX0_longestBehind_35 : decode cX0_longestBehind 35 = .ok (.iinc 3 1, 3) := by decide +kernel
theorem dX0_longestBehind_38 : decode cX0_longestBehind 38 = .ok (.goto (-34), 3) := by decide +kernel
theorem dX0_longestBehind_41 : decode cX0_longestBehind 41 = .ok (.iload_n 2, 1) := by decide +kernel
theorem dX0_longestBehind_42 : decode cX0_longestBehind 42 = .ok (.ireturn, 1) := by decide +kernel
theorem dX0_nextInNest_0 : decode cX0_nextInNest 0 = .ok (.iconst 0, 1) := by decide +kernel
theorem dX0_nextInNest_1 : decode cX0_nextInNest 1 = .ok (.istore_n 3, 1) := by decide +kernel
theorem dX0_nextInNest_2 : decode cX0_nextInNest 2 = .ok (.iload_n 3, 1) := by decide +kernel
theorem dX0_nextInNest_3 : decode cX0_nextInNest 3 = .ok (.aload_n 0, 1) := by decide +kernel
theorem dX0_nextInNest_4 : decode cX0_nextInNest 4 = .ok (.getfield 35, 3) := by decide +kernel
theorem dX0_nextInNest_7 : decode cX0_nextInNest 7 = .ok (.getfield 39, 3) := by decide +kernel
theorem dX0_nextInNest_10 : decode cX0_nextInNest 10 = .ok (.if_icmp .ge 35, 3) := by decide +kernel
theorem dX0_nextInNest_13 : decode cX0_nextInNest 13 = .ok (.aload_n 0, 1) := by decide +kernel
theorem dX0_nextInNest_14 : decode cX0_nextInNest 14 = .ok (.getfield 28, 3) := by decide +kernel
theorem dX0_nextInNest_17 : decode cX0_nextInNest 17 = .ok (.iload_n 3, 1) := by decide +kernel
theorem dX0_nextInNest_18 : decode cX0_nextInNest 18 = .ok (.iaload, 1) := by decide +kernel
theorem dX0_nextInNest_19 : decode cX0_nextInNest 19 = .ok (.iload_n 2, 1) := by decide +kernel
theorem dX0_nextInNest_20 : decode cX0_nextInNest 20 = .ok (.if_icmp .ne 19, 3) := by decide +kernel
theorem dX0_nextInNest_23 : decode cX0_nextInNest 23 = .ok (.iload_n 1, 1) := by decide +kernel
theorem dX0_nextInNest_24 : decode cX0_nextInNest 24 = .ok (.iconst (-1), 1) := by decide +kernel
theorem dX0_nextInNest_25 : decode cX0_nextInNest 25 = .ok (.if_icmp .eq 12, 3) := by decide +kernel
theorem dX0_nextInNest_28 : decode cX0_nextInNest 28 = .ok (.aload_n 0, 1) := by decide +kernel
theorem dX0_nextInNest_29 : decode cX0_nextInNest 29 = .ok (.iload_n 3, 1) := by decide +kernel
theorem dX0_nextInNest_30 : decode cX0_nextInNest 30 = .ok (.iload_n 1, 1) := by decide +kernel
theorem dX0_nextInNest_31 : decode cX0_nextInNest 31 = .ok (.invokevirtual 112, 3) := by decide +kernel
theorem dX0_nextInNest_34 : decode cX0_nextInNest 34 = .ok (.ifCond .eq 5, 3) := by decide +kernel
theorem dX0_nextInNest_37 : decode cX0_nextInNest 37 = .ok (.iload_n 3, 1) := by decide +kernel
theorem dX0_nextInNest_38 : decode cX0_nextInNest 38 = .ok (.ireturn, 1) := by decide +kernel
theorem dX0_nextInNest_39 : decode cX0_nextInNest 39 = .ok (.iinc 3 1, 3) := by decide +kernel
theorem dX0_nextInNest_42 : decode cX0_nextInNest 42 = .ok (.goto (-40), 3) := by decide +kernel
theorem dX0_nextInNest_45 : decode cX0_nextInNest 45 = .ok (.iconst (-1), 1) := by decide +kernel
theorem dX0_nextInNest_46 : decode cX0_nextInNest 46 = .ok (.ireturn, 1) := by decide +kernel
theorem dX0_fewestReaders_0 : decode cX0_fewestReaders 0 = .ok (.aload_n 0, 1) := by decide +kernel
theorem dX0_fewestReaders_1 : decode cX0_fewestReaders 1 = .ok (.iconst 1, 1) := by decide +kernel
theorem dX0_fewestReaders_2 : decode cX0_fewestReaders 2 = .ok (.aload_n 0, 1) := by decide +kernel
theorem dX0_fewestReaders_3 : decode cX0_fewestReaders 3 = .ok (.getfield 35, 3) := by decide +kernel
theorem dX0_fewestReaders_6 : decode cX0_fewestReaders 6 = .ok (.getfield 49, 3) := by decide +kernel
theorem dX0_fewestReaders_9 : decode cX0_fewestReaders 9 = .ok (.ishl, 1) := by decide +kernel
theorem dX0_fewestReaders_10 : decode cX0_fewestReaders 10 = .ok (.iconst 1, 1) := by decide +kernel
theorem dX0_fewestReaders_11 : decode cX0_fewestReaders 11 = .ok (.isub, 1) := by decide +kernel
theorem dX0_fewestReaders_12 : decode cX0_fewestReaders 12 = .ok (.invokevirtual 115, 3) := by decide +kernel
theorem dX0_fewestReaders_15 : decode cX0_fewestReaders 15 = .ok (.istore_n 1, 1) := by decide +kernel
theorem dX0_fewestReaders_16 : decode cX0_fewestReaders 16 = .ok (.iconst 1, 1) := by decide +kernel
theorem dX0_fewestReaders_17 : decode cX0_fewestReaders 17 = .ok (.aload_n 0, 1) := by decide +kernel
theorem dX0_fewestReaders_18 : decode cX0_fewestReaders 18 = .ok (.getfield 35, 3) := by decide +kernel
theorem dX0_fewestReaders_21 : decode cX0_fewestReaders 21 = .ok (.getfield 49, 3) := by decide +kernel
theorem dX0_fewestReaders_24 : decode cX0_fewestReaders 24 = .ok (.ishl, 1) := by decide +kernel
theorem dX0_fewestReaders_25 : decode cX0_fewestReaders 25 = .ok (.iconst 1, 1) := by decide +kernel
theorem dX0_fewestReaders_26 : decode cX0_fewestReaders 26 = .ok (.isub, 1) := by decide +kernel
theorem dX0_fewestReaders_27 : decode cX0_fewestReaders 27 = .ok (.istore_n 2, 1) := by decide +kernel
theorem dX0_fewestReaders_28 : decode cX0_fewestReaders 28 = .ok (.iload_n 2, 1) := by decide +kernel
theorem dX0_fewestReaders_29 : decode cX0_fewestReaders 29 = .ok (.istore_n 3, 1) := by decide +kernel
theorem dX0_fewestReaders_30 : decode cX0_fewestReaders 30 = .ok (.iload_n 3, 1) := by decide +kernel
theorem dX0_fewestReaders_31 : decode cX0_fewestReaders 31 = .ok (.ifCond .lt 31, 3) := by decide +kernel
theorem dX0_fewestReaders_34 : decode cX0_fewestReaders 34 = .ok (.iload_n 3, 1) := by decide +kernel
theorem dX0_fewestReaders_35 : decode cX0_fewestReaders 35 = .ok (.invokestatic 60, 3) := by decide +kernel
theorem dX0_fewestReaders_38 : decode cX0_fewestReaders 38 = .ok (.iload_n 2, 1) := by decide +kernel
theorem dX0_fewestReaders_39 : decode cX0_fewestReaders 39 = .ok (.invokestatic 60, 3) := by decide +kernel
theorem dX0_fewestReaders_42 : decode cX0_fewestReaders 42 = .ok (.if_icmp .gt 14, 3) := by decide +kernel
theorem dX0_fewestReaders_45 : decode cX0_fewestReaders 45 = .ok (.aload_n 0, 1) := by decide +kernel
theorem dX0_fewestReaders_46 : decode cX0_fewestReaders 46 = .ok (.iload_n 3, 1) := by decide +kernel
theorem dX0_fewestReaders_47 : decode cX0_fewestReaders 47 = .ok (.invokevirtual 115, 3) := by decide +kernel
theorem dX0_fewestReaders_50 : decode cX0_fewestReaders 50 = .ok (.iload_n 1, 1) := by decide +kernel
theorem dX0_fewestReaders_51 : decode cX0_fewestReaders 51 = .ok (.if_icmp .ne 5, 3) := by decide +kernel
theorem dX0_fewestReaders_54 : decode cX0_fewestReaders 54 = .ok (.iload_n 3, 1) := by decide +kernel
theorem dX0_fewestReaders_55 : decode cX0_fewestReaders 55 = .ok (.istore_n 2, 1) := by decide +kernel
theorem dX0_fewestReaders_56 : decode cX0_fewestReaders 56 = .ok (.iinc 3 (-1), 3) := by decide +kernel
theorem dX0_fewestReaders_59 : decode cX0_fewestReaders 59 = .ok (.goto (-29), 3) := by decide +kernel
theorem dX0_fewestReaders_62 : decode cX0_fewestReaders 62 = .ok (.iload_n 2, 1) := by decide +kernel
theorem dX0_fewestReaders_63 : decode cX0_fewestReaders 63 = .ok (.ireturn, 1) := by decide +kernel
theorem dX0_fittedBy_0 : decode cX0_fittedBy 0 = .ok (.iconst 0, 1) := by decide +kernel
theorem dX0_fittedBy_1 : decode cX0_fittedBy 1 = .ok (.istore_n 2, 1) := by decide +kernel
theorem dX0_fittedBy_2 : decode cX0_fittedBy 2 = .ok (.iconst 0, 1) := by decide +kernel
theorem dX0_fittedBy_3 : decode cX0_fittedBy 3 = .ok (.istore_n 3, 1) := by decide +kernel
theorem dX0_fittedBy_4 : decode cX0_fittedBy 4 = .ok (.iload_n 3, 1) := by decide +kernel
theorem dX0_fittedBy_5 : decode cX0_fittedBy 5 = .ok (.aload_n 0, 1) := by decide +kernel
theorem dX0_fittedBy_6 : decode cX0_fittedBy 6 = .ok (.getfield 35, 3) := by decide +kernel
theorem dX0_fittedBy_9 : decode cX0_fittedBy 9 = .ok (.getfield 49, 3) := by decide +kernel
theorem dX0_fittedBy_12 : decode cX0_fittedBy 12 = .ok (.if_icmp .ge 66, 3) := by decide +kernel
theorem dX0_fittedBy_15 : decode cX0_fittedBy 15 = .ok (.iconst 0, 1) := by decide +kernel
theorem dX0_fittedBy_16 : decode cX0_fittedBy 16 = .ok (.istore 4, 2) := by decide +kernel
theorem dX0_fittedBy_18 : decode cX0_fittedBy 18 = .ok (.iload 4, 2) := by decide +kernel
theorem dX0_fittedBy_20 : decode cX0_fittedBy 20 = .ok (.aload_n 0, 1) := by decide +kernel
theorem dX0_fittedBy_21 : decode cX0_fittedBy 21 = .ok (.getfield 35, 3) := by decide +kernel
theorem dX0_fittedBy_24 : decode cX0_fittedBy 24 = .ok (.getfield 39, 3) := by decide +kernel
theorem dX0_fittedBy_27 : decode cX0_fittedBy 27 = .ok (.if_icmp .ge 45, 3) := by decide +kernel
theorem dX0_fittedBy_30 : decode cX0_fittedBy 30 = .ok (.iload_n 1, 1) := by decide +kernel
theorem dX0_fittedBy_31 : decode cX0_fittedBy 31 = .ok (.iconst 1, 1) := by decide +kernel
theorem dX0_fittedBy_32 : decode cX0_fittedBy 32 = .ok (.iload_n 3, 1) := by decide +kernel
theorem dX0_fittedBy_33 : decode cX0_fittedBy 33 = .ok (.ishl, 1) := by decide +kernel
theorem dX0_fittedBy_34 : decode cX0_fittedBy 34 = .ok (.iand, 1) := by decide +kernel
theorem dX0_fittedBy_35 : decode cX0_fittedBy 35 = .ok (.ifCond .eq 31, 3) := by decide +kernel
theorem dX0_fittedBy_38 : decode cX0_fittedBy 38 = .ok (.aload_n 0, 1) := by decide +kernel
theorem dX0_fittedBy_39 : decode cX0_fittedBy 39 = .ok (.getfield 35, 3) := by decide +kernel
theorem dX0_fittedBy_42 : decode cX0_fittedBy 42 = .ok (.aload_n 0, 1) := by decide +kernel
theorem dX0_fittedBy_43 : decode cX0_fittedBy 43 = .ok (.getfield 35, 3) := by decide +kernel
theorem dX0_fittedBy_46 : decode cX0_fittedBy 46 = .ok (.getfield 118, 3) := by decide +kernel
theorem dX0_fittedBy_49 : decode cX0_fittedBy 49 = .ok (.iload_n 3, 1) := by decide +kernel
theorem dX0_fittedBy_50 : decode cX0_fittedBy 50 = .ok (.iaload, 1) := by decide +kernel
theorem dX0_fittedBy_51 : decode cX0_fittedBy 51 = .ok (.iload 4, 2) := by decide +kernel
theorem dX0_fittedBy_53 : decode cX0_fittedBy 53 = .ok (.invokevirtual 85, 3) := by decide +kernel
theorem dX0_fittedBy_56 : decode cX0_fittedBy 56 = .ok (.ifCond .eq 10, 3) := by decide +kernel
theorem dX0_fittedBy_59 : decode cX0_fittedBy 59 = .ok (.iload_n 2, 1) := by decide +kernel
theorem dX0_fittedBy_60 : decode cX0_fittedBy 60 = .ok (.iconst 1, 1) := by decide +kernel
theorem dX0_fittedBy_61 : decode cX0_fittedBy 61 = .ok (.iload 4, 2) := by decide +kernel
theorem dX0_fittedBy_63 : decode cX0_fittedBy 63 = .ok (.ishl, 1) := by decide +kernel
theorem dX0_fittedBy_64 : decode cX0_fittedBy 64 = .ok (.ior, 1) := by decide +kernel
theorem dX0_fittedBy_65 : decode cX0_fittedBy 65 = .ok (.istore_n 2, 1) := by decide +kernel
theorem dX0_fittedBy_66 : decode cX0_fittedBy 66 = .ok (.iinc 4 1, 3) := by decide +kernel
theorem dX0_fittedBy_69 : decode cX0_fittedBy 69 = .ok (.goto (-51), 3) := by decide +kernel
theorem dX0_fittedBy_72 : decode cX0_fittedBy 72 = .ok (.iinc 3 1, 3) := by decide +kernel
theorem dX0_fittedBy_75 : decode cX0_fittedBy 75 = .ok (.goto (-71), 3) := by decide +kernel
theorem dX0_fittedBy_78 : decode cX0_fittedBy 78 = .ok (.iload_n 2, 1) := by decide +kernel
theorem dX0_fittedBy_79 : decode cX0_fittedBy 79 = .ok (.ireturn, 1) := by decide +kernel
theorem dX0_chanceWhole_0 : decode cX0_chanceWhole 0 = .ok (.aload_n 0, 1) := by decide +kernel
theorem dX0_chanceWhole_1 : decode cX0_chanceWhole 1 = .ok (.getfield 35, 3) := by decide +kernel
theorem dX0_chanceWhole_4 : decode cX0_chanceWhole 4 = .ok (.getfield 121, 3) := by decide +kernel
theorem dX0_chanceWhole_7 : decode cX0_chanceWhole 7 = .ok (.iconst 2, 1) := by decide +kernel
theorem dX0_chanceWhole_8 : decode cX0_chanceWhole 8 = .ok (.iaload, 1) := by decide +kernel
theorem dX0_chanceWhole_9 : decode cX0_chanceWhole 9 = .ok (.istore_n 3, 1) := by decide +kernel
theorem dX0_chanceWhole_10 : decode cX0_chanceWhole 10 = .ok (.iload_n 1, 1) := by decide +kernel
theorem dX0_chanceWhole_11 : decode cX0_chanceWhole 11 = .ok (.bipush 20, 2) := by decide +kernel
theorem dX0_chanceWhole_13 : decode cX0_chanceWhole 13 = .ok (.invokestatic 66, 3) := by decide +kernel
theorem dX0_chanceWhole_16 : decode cX0_chanceWhole 16 = .ok (.istore 4, 2) := by decide +kernel
theorem dX0_chanceWhole_18 : decode cX0_chanceWhole 18 = .ok (.iconst 0, 1) := by decide +kernel
theorem dX0_chanceWhole_19 : decode cX0_chanceWhole 19 = .ok (.istore 5, 2) := by decide +kernel
theorem dX0_chanceWhole_21 : decode cX0_chanceWhole 21 = .ok (.iload 5, 2) := by decide +kernel
theorem dX0_chanceWhole_23 : decode cX0_chanceWhole 23 = .ok (.iload 4, 2) := by decide +kernel
theorem dX0_chanceWhole_25 : decode cX0_chanceWhole 25 = .ok (.if_icmp .ge 28, 3) := by decide +kernel
theorem dX0_chanceWhole_28 : decode cX0_chanceWhole 28 = .ok (.aload_n 0, 1) := by decide +kernel
theorem dX0_chanceWhole_29 : decode cX0_chanceWhole 29 = .ok (.getfield 31, 3) := by decide +kernel
theorem dX0_chanceWhole_32 : decode cX0_chanceWhole 32 = .ok (.iload 5, 2) := by decide +kernel
theorem dX0_chanceWhole_34 : decode cX0_chanceWhole 34 = .ok (.iload 5, 2) := by decide +kernel
theorem dX0_chanceWhole_36 : decode cX0_chanceWhole 36 = .ok (.ifCond .ne 9, 3) := by decide +kernel
theorem dX0_chanceWhole_39 : decode cX0_chanceWhole 39 = .ok (.ldc2_w 124, 3) := by decide +kernel
theorem dX0_chanceWhole_42 : decode cX0_chanceWhole 42 = .ok (.goto 4, 3) := by decide +kernel
theorem dX0_chanceWhole_45 : decode cX0_chanceWhole 45 = .ok (.lconst 0, 1) := by decide +kernel
theorem dX0_chanceWhole_46 : decode cX0_chanceWhole 46 = .ok (.lastore, 1) := by decide +kernel
theorem dX0_chanceWhole_47 : decode cX0_chanceWhole 47 = .ok (.iinc 5 1, 3) := by decide +kernel
theorem dX0_chanceWhole_50 : decode cX0_chanceWhole 50 = .ok (.goto (-29), 3) := by decide +kernel
theorem dX0_chanceWhole_53 : decode cX0_chanceWhole 53 = .ok (.iconst 0, 1) := by decide +kernel
theorem dX0_chanceWhole_54 : decode cX0_chanceWhole 54 = .ok (.istore 5, 2) := by decide +kernel
theorem dX0_chanceWhole_56 : decode cX0_chanceWhole 56 = .ok (.iload 5, 2) := by decide +kernel
theorem dX0_chanceWhole_58 : decode cX0_chanceWhole 58 = .ok (.iload_n 2, 1) := by decide +kernel
theorem dX0_chanceWhole_59 : decode cX0_chanceWhole 59 = .ok (.if_icmp .ge 80, 3) := by decide +kernel
theorem dX0_chanceWhole_62 : decode cX0_chanceWhole 62 = .ok (.iload 4, 2) := by decide +kernel
theorem dX0_chanceWhole_64 : decode cX0_chanceWhole 64 = .ok (.iconst 1, 1) := by decide +kernel
theorem dX0_chanceWhole_65 : decode cX0_chanceWhole 65 = .ok (.isub, 1) := by decide +kernel
theorem dX0_chanceWhole_66 : decode cX0_chanceWhole 66 = .ok (.istore 6, 2) := by decide +kernel
theorem dX0_chanceWhole_68 : decode cX0_chanceWhole 68 = .ok (.iload 6, 2) := by decide +kernel
theorem dX0_chanceWhole_70 : decode cX0_chanceWhole 70 = .ok (.ifCond .lt 63, 3) := by decide +kernel
theorem dX0_chanceWhole_73 : decode cX0_chanceWhole 73 = .ok (.iload 6, 2) := by decide +kernel
theorem dX0_chanceWhole_75 : decode cX0_chanceWhole 75 = .ok (.ifCond .ne 7, 3) := by decide +kernel
theorem dX0_chanceWhole_78 : decode cX0_chanceWhole 78 = .ok (.lconst 0, 1) := by decide +kernel
theorem dX0_chanceWhole_79 : decode cX0_chanceWhole 79 = .ok (.goto 19, 3) := by decide +kernel
theorem dX0_chanceWhole_82 : decode cX0_chanceWhole 82 = .ok (.aload_n 0, 1) := by decide +kernel
theorem dX0_chanceWhole_83 : decode cX0_chanceWhole 83 = .ok (.getfield 31, 3) := by decide +kernel
theorem dX0_chanceWhole_86 : decode cX0_chanceWhole 86 = .ok (.iload 6, 2) := by decide +kernel
theorem dX0_chanceWhole_88 : decode cX0_chanceWhole 88 = .ok (.iconst 1, 1) := by decide +kernel
theorem dX0_chanceWhole_89 : decode cX0_chanceWhole 89 = .ok (.isub, 1) := by decide +kernel
theorem dX0_chanceWhole_90 : decode cX0_chanceWhole 90 = .ok (.laload, 1) := by decide +kernel
theorem dX0_chanceWhole_91 : decode cX0_chanceWhole 91 = .ok (.iload_n 3, 1) := by decide +kernel
theorem dX0_chanceWhole_92 : decode cX0_chanceWhole 92 = .ok (.i2l, 1) := by decide +kernel
theorem dX0_chanceWhole_93 : decode cX0_chanceWhole 93 = .ok (.lmul, 1) := by decide +kernel
theorem dX0_chanceWhole_94 : decode cX0_chanceWhole 94 = .ok (.ldc2_w 126, 3) := by decide +kernel
theorem dX0_chanceWhole_97 : decode cX0_chanceWhole 97 = .ok (.ldiv, 1) := by decide +kernel
theorem dX0_chanceWhole_98 : decode cX0_chanceWhole 98 = .ok (.lstore 7, 2) := by decide +kernel
theorem dX0_chanceWhole_100 : decode cX0_chanceWhole 100 = .ok (.aload_n 0, 1) := by decide +kernel
theorem dX0_chanceWhole_101 : decode cX0_chanceWhole 101 = .ok (.getfield 31, 3) := by decide +kernel
theorem dX0_chanceWhole_104 : decode cX0_chanceWhole 104 = .ok (.iload 6, 2) := by decide +kernel
theorem dX0_chanceWhole_106 : decode cX0_chanceWhole 106 = .ok (.aload_n 0, 1) := by decide +kernel
theorem dX0_chanceWhole_107 : decode cX0_chanceWhole 107 = .ok (.getfield 31, 3) := by decide +kernel
theorem dX0_chanceWhole_110 : decode cX0_chanceWhole 110 = .ok (.iload 6, 2) := by decide +kernel
theorem dX0_chanceWhole_112 : decode cX0_chanceWhole 112 = .ok (.laload, 1) := by decide +kernel
theorem dX0_chanceWhole_113 : decode cX0_chanceWhole 113 = .ok (.bipush 10, 2) := by decide +kernel
theorem dX0_chanceWhole_115 : decode cX0_chanceWhole 115 = .ok (.iload_n 3, 1) := by decide +kernel
theorem dX0_chanceWhole_116 : decode cX0_chanceWhole 116 = .ok (.isub, 1) := by decide +kernel
theorem dX0_chanceWhole_117 : decode cX0_chanceWhole 117 = .ok (.i2l, 1) := by decide +kernel
theorem dX0_chanceWhole_118 : decode cX0_chanceWhole 118 = .ok (.lmul, 1) := by decide +kernel
theorem dX0_chanceWhole_119 : decode cX0_chanceWhole 119 = .ok (.ldc2_w 126, 3) := by decide +kernel
theorem dX0_chanceWhole_122 : decode cX0_chanceWhole 122 = .ok (.ldiv, 1) := by decide +kernel
theorem dX0_chanceWhole_123 : decode cX0_chanceWhole 123 = .ok (.lload 7, 2) := by decide +kernel
theorem dX0_chanceWhole_125 : decode cX0_chanceWhole 125 = .ok (.ladd, 1) := by decide +kernel
theorem dX0_chanceWhole_126 : decode cX0_chanceWhole 126 = .ok (.lastore, 1) := by decide +kernel
theorem dX0_chanceWhole_127 : decode cX0_chanceWhole 127 = .ok (.iinc 6 (-1), 3) := by decide +kernel
theorem dX0_chanceWhole_130 : decode cX0_chanceWhole 130 = .ok (.goto (-62), 3) := by decide +kernel
theorem dX0_chanceWhole_133 : decode cX0_chanceWhole 133 = .ok (.iinc 5 1, 3) := by decide +kernel
theorem dX0_chanceWhole_136 : decode cX0_chanceWhole 136 = .ok (.goto (-80), 3) := by decide +kernel
theorem dX0_chanceWhole_139 : decode cX0_chanceWhole 139 = .ok (.lconst 0, 1) := by decide +kernel
theorem dX0_chanceWhole_140 : decode cX0_chanceWhole 140 = .ok (.lstore 5, 2) := by decide +kernel
theorem dX0_chanceWhole_142 : decode cX0_chanceWhole 142 = .ok (.iconst 0, 1) := by decide +kernel
theorem dX0_chanceWhole_143 : decode cX0_chanceWhole 143 = .ok (.istore 7, 2) := by decide +kernel
theorem dX0_chanceWhole_145 : decode cX0_chanceWhole 145 = .ok (.iload 7, 2) := by decide +kernel
theorem dX0_chanceWhole_147 : decode cX0_chanceWhole 147 = .ok (.iload 4, 2) := by decide +kernel
theorem dX0_chanceWhole_149 : decode cX0_chanceWhole 149 = .ok (.if_icmp .ge 21, 3) := by decide +kernel
theorem dX0_chanceWhole_152 : decode cX0_chanceWhole 152 = .ok (.lload 5, 2) := by decide +kernel
theorem dX0_chanceWhole_154 : decode cX0_chanceWhole 154 = .ok (.aload_n 0, 1) := by decide +kernel
theorem dX0_chanceWhole_155 : decode cX0_chanceWhole 155 = .ok (.getfield 31, 3) := by decide +kernel
theorem dX0_chanceWhole_158 : decode cX0_chanceWhole 158 = .ok (.iload 7, 2) := by decide +kernel
theorem dX0_chanceWhole_160 : decode cX0_chanceWhole 160 = .ok (.laload, 1) := by decide +kernel
theorem dX0_chanceWhole_161 : decode cX0_chanceWhole 161 = .ok (.ladd, 1) := by decide +kernel
theorem dX0_chanceWhole_162 : decode cX0_chanceWhole 162 = .ok (.lstore 5, 2) := by decide +kernel
theorem dX0_chanceWhole_164 : decode cX0_chanceWhole 164 = .ok (.iinc 7 1, 3) := by decide +kernel
theorem dX0_chanceWhole_167 : decode cX0_chanceWhole 167 = .ok (.goto (-22), 3) := by decide +kernel
theorem dX0_chanceWhole_170 : decode cX0_chanceWhole 170 = .ok (.lload 5, 2) := by decide +kernel
theorem dX0_chanceWhole_172 : decode cX0_chanceWhole 172 = .ok (.lreturn, 1) := by decide +kernel
theorem dX1_init_0 : decode cX1_init 0 = .ok (.aload_n 0, 1) := by decide +kernel
theorem dX1_init_1 : decode cX1_init 1 = .ok (.invokespecial 3, 3) := by decide +kernel
theorem dX1_init_4 : decode cX1_init 4 = .ok (.aload_n 0, 1) := by decide +kernel
theorem dX1_init_5 : decode cX1_init 5 = .ok (.bipush 8, 2) := by decide +kernel
theorem dX1_init_7 : decode cX1_init 7 = .ok (.newarray .int, 2) := by decide +kernel
theorem dX1_init_9 : decode cX1_init 9 = .ok (.putfield 9, 3) := by decide +kernel
theorem dX1_init_12 : decode cX1_init 12 = .ok (.aload_n 0, 1) := by decide +kernel
theorem dX1_init_13 : decode cX1_init 13 = .ok (.bipush 8, 2) := by decide +kernel
theorem dX1_init_15 : decode cX1_init 15 = .ok (.newarray .int, 2) := by decide +kernel
theorem dX1_init_17 : decode cX1_init 17 = .ok (.putfield 15, 3) := by decide +kernel
theorem dX1_init_20 : decode cX1_init 20 = .ok (.aload_n 0, 1) := by decide +kernel
theorem dX1_init_21 : decode cX1_init 21 = .ok (.bipush 8, 2) := by decide +kernel
theorem dX1_init_23 : decode cX1_init 23 = .ok (.newarray .int, 2) := by decide +kernel
theorem dX1_init_25 : decode cX1_init 25 = .ok (.putfield 18, 3) := by decide +kernel
theorem dX1_init_28 : decode cX1_init 28 = .ok (.aload_n 0, 1) := by decide +kernel
theorem dX1_init_29 : decode cX1_init 29 = .ok (.bipush 8, 2) := by decide +kernel
theorem dX1_init_31 : decode cX1_init 31 = .ok (.newarray .int, 2) := by decide +kernel
theorem dX1_init_33 : decode cX1_init 33 = .ok (.putfield 21, 3) := by decide +kernel
theorem dX1_init_36 : decode cX1_init 36 = .ok (.aload_n 0, 1) := by decide +kernel
theorem dX1_init_37 : decode cX1_init 37 = .ok (.bipush 6, 2) := by decide +kernel
theorem dX1_init_39 : decode cX1_init 39 = .ok (.newarray .int, 2) := by decide +kernel
theorem dX1_init_41 : decode cX1_init 41 = .ok (.putfield 24, 3) := by decide +kernel
theorem dX1_init_44 : decode cX1_init 44 = .ok (.aload_n 0, 1) := by decide +kernel
theorem dX1_init_45 : decode cX1_init 45 = .ok (.bipush 6, 2) := by decide +kernel
theorem dX1_init_47 : decode cX1_init 47 = .ok (.newarray .int, 2) := by decide +kernel
theorem dX1_init_49 : decode cX1_init 49 = .ok (.putfield 27, 3) := by decide +kernel
theorem dX1_init_52 : decode cX1_init 52 = .ok (.aload_n 0, 1) := by decide +kernel
theorem dX1_init_53 : decode cX1_init 53 = .ok (.bipush 6, 2) := by decide +kernel
theorem dX1_init_55 : decode cX1_init 55 = .ok (.newarray .int, 2) := by decide +kernel
theorem dX1_init_57 : decode cX1_init 57 = .ok (.putfield 30, 3) := by decide +kernel
theorem dX1_init_60 : decode cX1_init 60 = .ok (.aload_n 0, 1) := by decide +kernel
theorem dX1_init_61 : decode cX1_init 61 = .ok (.bipush 6, 2) := by decide +kernel
theorem dX1_init_63 : decode cX1_init 63 = .ok (.newarray .int, 2) := by decide +kernel
theorem dX1_init_65 : decode cX1_init 65 = .ok (.putfield 33, 3) := by decide +kernel
theorem dX1_init_68 : decode cX1_init 68 = .ok (.aload_n 0, 1) := by decide +kernel
theorem dX1_init_69 : decode cX1_init 69 = .ok (.bipush 6, 2) := by decide +kernel
theorem dX1_init_71 : decode cX1_init 71 = .ok (.newarray .int, 2) := by decide +kernel
theorem dX1_init_73 : decode cX1_init 73 = .ok (.putfield 36, 3) := by decide +kernel
theorem dX1_init_76 : decode cX1_init 76 = .ok (.aload_n 0, 1) := by decide +kernel
theorem dX1_init_77 : decode cX1_init 77 = .ok (.bipush 6, 2) := by decide +kernel
theorem dX1_init_79 : decode cX1_init 79 = .ok (.newarray .int, 2) := by decide +kernel
theorem dX1_init_81 : decode cX1_init 81 = .ok (.putfield 39, 3) := by decide +kernel
theorem dX1_init_84 : decode cX1_init 84 = .ok (.aload_n 0, 1) := by decide +kernel
theorem dX1_init_85 : decode cX1_init 85 = .ok (.bipush 12, 2) := by decide +kernel
theorem dX1_init_87 : decode cX1_init 87 = .ok (.newarray .int, 2) := by decide +kernel
theorem dX1_init_89 : decode cX1_init 89 = .ok (.putfield 42, 3) := by decide +kernel
theorem dX1_init_92 : decode cX1_init 92 = .ok (.aload_n 0, 1) := by decide +kernel
theorem dX1_init_93 : decode cX1_init 93 = .ok (.bipush 12, 2) := by decide +kernel
theorem dX1_init_95 : decode cX1_init 95 = .ok (.newarray .int, 2) := by decide +kernel
theorem dX1_init_97 : decode cX1_init 97 = .ok (.putfield 45, 3) := by decide +kernel
theorem dX1_init_100 : decode cX1_init 100 = .ok (.aload_n 0, 1) := by decide +kernel
theorem dX1_init_101 : decode cX1_init 101 = .ok (.iconst 4, 1) := by decide +kernel
theorem dX1_init_102 : decode cX1_init 102 = .ok (.newarray .int, 2) := by decide +kernel
theorem dX1_init_104 : decode cX1_init 104 = .ok (.dup, 1) := by decide +kernel
theorem dX1_init_105 : decode cX1_init 105 = .ok (.iconst 0, 1) := by decide +kernel
theorem dX1_init_106 : decode cX1_init 106 = .ok (.iconst 0, 1) := by decide +kernel
theorem dX1_init_107 : decode cX1_init 107 = .ok (.iastore, 1) := by decide +kernel
theorem dX1_init_108 : decode cX1_init 108 = .ok (.dup, 1) := by decide +kernel
theorem dX1_init_109 : decode cX1_init 109 = .ok (.iconst 1, 1) := by decide +kernel
theorem dX1_init_110 : decode cX1_init 110 = .ok (.iconst 3, 1) := by decide +kernel
theorem dX1_init_111 : decode cX1_init 111 = .ok (.iastore, 1) := by decide +kernel
theorem dX1_init_112 : decode cX1_init 112 = .ok (.dup, 1) := by decide +kernel
theorem dX1_init_113 : decode cX1_init 113 = .ok (.iconst 2, 1) := by decide +kernel
theorem dX1_init_114 : decode cX1_init 114 = .ok (.iconst 1, 1) := by decide +kernel
theorem dX1_init_115 : decode cX1_init 115 = .ok (.iastore, 1) := by decide +kernel
theorem dX1_init_116 : decode cX1_init 116 = .ok (.dup, 1) := by decide +kernel
theorem dX1_init_117 : decode cX1_init 117 = .ok (.iconst 3, 1) := by decide +kernel
theorem dX1_init_118 : decode cX1_init 118 = .ok (.iconst 0, 1) := by decide +kernel
theorem dX1_init_119 : decode cX1_init 119 = .ok (.iastore, 1) := by decide +kernel
theorem dX1_init_120 : decode cX1_init 120 = .ok (.putfield 48, 3) := by decide +kernel
theorem dX1_init_123 : decode cX1_init 123 = .ok (.aload_n 0, 1) := by decide +kernel
theorem dX1_init_124 : decode cX1_init 124 = .ok (.aload_n 1, 1) := by decide +kernel
theorem dX1_init_125 : decode cX1_init 125 = .ok (.putfield 51, 3) := by decide +kernel
theorem dX1_init_128 : decode cX1_init 128 = .ok (.return_, 1) := by decide +kernel
theorem dX1_copyFrom_0 : decode cX1_copyFrom 0 = .ok (.aload_n 0, 1) := by decide +kernel
theorem dX1_copyFrom_1 : decode cX1_copyFrom 1 = .ok (.aload_n 1, 1) := by decide +kernel
theorem dX1_copyFrom_2 : decode cX1_copyFrom 2 = .ok (.getfield 55, 3) := by decide +kernel
theorem dX1_copyFrom_5 : decode cX1_copyFrom 5 = .ok (.putfield 55, 3) := by decide +kernel
theorem dX1_copyFrom_8 : decode cX1_copyFrom 8 = .ok (.aload_n 0, 1) := by decide +kernel
theorem dX1_copyFrom_9 : decode cX1_copyFrom 9 = .ok (.aload_n 1, 1) := by decide +kernel
theorem dX1_copyFrom_10 : decode cX1_copyFrom 10 = .ok (.getfield 59, 3) := by decide +kernel
theorem dX1_copyFrom_13 : decode cX1_copyFrom 13 = .ok (.putfield 59, 3) := by decide +kernel
theorem dX1_copyFrom_16 : decode cX1_copyFrom 16 = .ok (.aload_n 0, 1) := by decide +kernel
theorem dX1_copyFrom_17 : decode cX1_copyFrom 17 = .ok (.aload_n 1, 1) := by decide +kernel
theorem dX1_copyFrom_18 : decode cX1_copyFrom 18 = .ok (.getfield 62, 3) := by decide +kernel
theorem dX1_copyFrom_21 : decode cX1_copyFrom 21 = .ok (.putfield 62, 3) := by decide +kernel
theorem dX1_copyFrom_24 : decode cX1_copyFrom 24 = .ok (.aload_n 1, 1) := by decide +kernel
theorem dX1_copyFrom_25 : decode cX1_copyFrom 25 = .ok (.getfield 9, 3) := by decide +kernel
theorem dX1_copyFrom_28 : decode cX1_copyFrom 28 = .ok (.iconst 0, 1) := by decide +kernel
theorem dX1_copyFrom_29 : decode cX1_copyFrom 29 = .ok (.aload_n 0, 1) := by decide +kernel
theorem dX1_copyFrom_30 : decode cX1_copyFrom 30 = .ok (.getfield 9, 3) := by decide +kernel
theorem dX1_copyFrom_33 : decode cX1_copyFrom 33 = .ok (.iconst 0, 1) := by decide +kernel
theorem dX1_copyFrom_34 : decode cX1_copyFrom 34 = .ok (.bipush 8, 2) := by decide +kernel
theorem dX1_copyFrom_36 : decode cX1_copyFrom 36 = .ok (.invokestatic 65, 3) := by decide +kernel
theorem dX1_copyFrom_39 : decode cX1_copyFrom 39 = .ok (.aload_n 1, 1) := by decide +kernel
theorem dX1_copyFrom_40 : decode cX1_copyFrom 40 = .ok (.getfield 15, 3) := by decide +kernel
theorem dX1_copyFrom_43 : decode cX1_copyFrom 43 = .ok (.iconst 0, 1) := by decide +kernel
theorem dX1_copyFrom_44 : decode cX1_copyFrom 44 = .ok (.aload_n 0, 1) := by decide +kernel
theorem dX1_copyFrom_45 : decode cX1_copyFrom 45 = .ok (.getfield 15, 3) := by decide +kernel
theorem dX1_copyFrom_48 : decode cX1_copyFrom 48 = .ok (.iconst 0, 1) := by decide +kernel
theorem dX1_copyFrom_49 : decode cX1_copyFrom 49 = .ok (.bipush 8, 2) := by decide +kernel
theorem dX1_copyFrom_51 : decode cX1_copyFrom 51 = .ok (.invokestatic 65, 3) := by decide +kernel
theorem dX1_copyFrom_54 : decode cX1_copyFrom 54 = .ok (.aload_n 1, 1) := by decide +kernel
theorem dX1_copyFrom_55 : decode cX1_copyFrom 55 = .ok (.getfield 18, 3) := by decide +kernel
theorem dX1_copyFrom_58 : decode cX1_copyFrom 58 = .ok (.iconst 0, 1) := by decide +kernel
theorem dX1_copyFrom_59 : decode cX1_copyFrom 59 = .ok (.aload_n 0, 1) := by decide +kernel
theorem dX1_copyFrom_60 : decode cX1_copyFrom 60 = .ok (.getfield 18, 3) := by decide +kernel
theorem dX1_copyFrom_63 : decode cX1_copyFrom 63 = .ok (.iconst 0, 1) := by decide +kernel
theorem dX1_copyFrom_64 : decode cX1_copyFrom 64 = .ok (.bipush 8, 2) := by decide +kernel
theorem dX1_copyFrom_66 : decode cX1_copyFrom 66 = .ok (.invokestatic 65, 3) := by decide +kernel
theorem dX1_copyFrom_69 : decode cX1_copyFrom 69 = .ok (.aload_n 1, 1) := by decide +kernel
theorem dX1_copyFrom_70 : decode cX1_copyFrom 70 = .ok (.getfield 21, 3) := by decide +kernel
theorem dX1_copyFrom_73 : decode cX1_copyFrom 73 = .ok (.iconst 0, 1) := by decide +kernel
theorem dX1_copyFrom_74 : decode cX1_copyFrom 74 = .ok (.aload_n 0, 1) := by decide +kernel
theorem dX1_copyFrom_75 : decode cX1_copyFrom 75 = .ok (.getfield 21, 3) := by decide +kernel
theorem dX1_copyFrom_78 : decode cX1_copyFrom 78 = .ok (.iconst 0, 1) := by decide +kernel
theorem dX1_copyFrom_79 : decode cX1_copyFrom 79 = .ok (.bipush 8, 2) := by decide +kernel
theorem dX1_copyFrom_81 : decode cX1_copyFrom 81 = .ok (.invokestatic 65, 3) := by decide +kernel
theorem dX1_copyFrom_84 : decode cX1_copyFrom 84 = .ok (.aload_n 1, 1) := by decide +kernel
theorem dX1_copyFrom_85 : decode cX1_copyFrom 85 = .ok (.getfield 24, 3) := by decide +kernel
theorem dX1_copyFrom_88 : decode cX1_copyFrom 88 = .ok (.iconst 0, 1) := by decide +kernel
theorem dX1_copyFrom_89 : decode cX1_copyFrom 89 = .ok (.aload_n 0, 1) := by decide +kernel
theorem dX1_copyFrom_90 : decode cX1_copyFrom 90 = .ok (.getfield 24, 3) := by decide +kernel
theorem dX1_copyFrom_93 : decode cX1_copyFrom 93 = .ok (.iconst 0, 1) := by decide +kernel
theorem dX1_copyFrom_94 : decode cX1_copyFrom 94 = .ok (.bipush 6, 2) := by decide +kernel
theorem dX1_copyFrom_96 : decode cX1_copyFrom 96 = .ok (.invokestatic 65, 3) := by decide +kernel
theorem dX1_copyFrom_99 : decode cX1_copyFrom 99 = .ok (.aload_n 1, 1) := by decide +kernel
theorem dX1_copyFrom_100 : decode cX1_copyFrom 100 = .ok (.getfield 27, 3) := by decide +kernel
theorem dX1_copyFrom_103 : decode cX1_copyFrom 103 = .ok (.iconst 0, 1) := by decide +kernel
theorem dX1_copyFrom_104 : decode cX1_copyFrom 104 = .ok (.aload_n 0, 1) := by decide +kernel
theorem dX1_copyFrom_105 : decode cX1_copyFrom 105 = .ok (.getfield 27, 3) := by decide +kernel
theorem dX1_copyFrom_108 : decode cX1_copyFrom 108 = .ok (.iconst 0, 1) := by decide +kernel
theorem dX1_copyFrom_109 : decode cX1_copyFrom 109 = .ok (.bipush 6, 2) := by decide +kernel
theorem dX1_copyFrom_111 : decode cX1_copyFrom 111 = .ok (.invokestatic 65, 3) := by decide +kernel
theorem dX1_copyFrom_114 : decode cX1_copyFrom 114 = .ok (.aload_n 1, 1) := by decide +kernel
theorem dX1_copyFrom_115 : decode cX1_copyFrom 115 = .ok (.getfield 30, 3) := by decide +kernel
theorem dX1_copyFrom_118 : decode cX1_copyFrom 118 = .ok (.iconst 0, 1) := by decide +kernel
theorem dX1_copyFrom_119 : decode cX1_copyFrom 119 = .ok (.aload_n 0, 1) := by decide +kernel
theorem dX1_copyFrom_120 : decode cX1_copyFrom 120 = .ok (.getfield 30, 3) := by decide +kernel
theorem dX1_copyFrom_123 : decode cX1_copyFrom 123 = .ok (.iconst 0, 1) := by decide +kernel
theorem dX1_copyFrom_124 : decode cX1_copyFrom 124 = .ok (.bipush 6, 2) := by decide +kernel
theorem dX1_copyFrom_126 : decode cX1_copyFrom 126 = .ok (.invokestatic 65, 3) := by decide +kernel
theorem dX1_copyFrom_129 : decode cX1_copyFrom 129 = .ok (.aload_n 1, 1) := by decide +kernel
theorem dX1_copyFrom_130 : decode cX1_copyFrom 130 = .ok (.getfield 33, 3) := by decide +kernel
theorem dX1_copyFrom_133 : decode cX1_copyFrom 133 = .ok (.iconst 0, 1) := by decide +kernel
theorem dX1_copyFrom_134 : decode cX1_copyFrom 134 = .ok (.aload_n 0, 1) := by decide +kernel
theorem dX1_copyFrom_135 : decode cX1_copyFrom 135 = .ok (.getfield 33, 3) := by decide +kernel
theorem dX1_copyFrom_138 : decode cX1_copyFrom 138 = .ok (.iconst 0, 1) := by decide +kernel
theorem dX1_copyFrom_139 : decode cX1_copyFrom 139 = .ok (.bipush 6, 2) := by decide +kernel
theorem dX1_copyFrom_141 : decode cX1_copyFrom 141 = .ok (.invokestatic 65, 3) := by decide +kernel
theorem dX1_copyFrom_144 : decode cX1_copyFrom 144 = .ok (.aload_n 1, 1) := by decide +kernel
theorem dX1_copyFrom_145 : decode cX1_copyFrom 145 = .ok (.getfield 36, 3) := by decide +kernel
theorem dX1_copyFrom_148 : decode cX1_copyFrom 148 = .ok (.iconst 0, 1) := by decide +kernel
theorem dX1_copyFrom_149 : decode cX1_copyFrom 149 = .ok (.aload_n 0, 1) := by decide +kernel
theorem dX1_copyFrom_150 : decode cX1_copyFrom 150 = .ok (.getfield 36, 3) := by decide +kernel
theorem dX1_copyFrom_153 : decode cX1_copyFrom 153 = .ok (.iconst 0, 1) := by decide +kernel
theorem dX1_copyFrom_154 : decode cX1_copyFrom 154 = .ok (.bipush 6, 2) := by decide +kernel
theorem dX1_copyFrom_156 : decode cX1_copyFrom 156 = .ok (.invokestatic 65, 3) := by decide +kernel
theorem dX1_copyFrom_159 : decode cX1_copyFrom 159 = .ok (.aload_n 1, 1) := by decide +kernel
theorem dX1_copyFrom_160 : decode cX1_copyFrom 160 = .ok (.getfield 39, 3) := by decide +kernel
theorem dX1_copyFrom_163 : decode cX1_copyFrom 163 = .ok (.iconst 0, 1) := by decide +kernel
theorem dX1_copyFrom_164 : decode cX1_copyFrom 164 = .ok (.aload_n 0, 1) := by decide +kernel
theorem dX1_copyFrom_165 : decode cX1_copyFrom 165 = .ok (.getfield 39, 3) := by decide +kernel
theorem dX1_copyFrom_168 : decode cX1_copyFrom 168 = .ok (.iconst 0, 1) := by decide +kernel
theorem dX1_copyFrom_169 : decode cX1_copyFrom 169 = .ok (.bipush 6, 2) := by decide +kernel
theorem dX1_copyFrom_171 : decode cX1_copyFrom 171 = .ok (.invokestatic 65, 3) := by decide +kernel
theorem dX1_copyFrom_174 : decode cX1_copyFrom 174 = .ok (.aload_n 1, 1) := by decide +kernel
theorem dX1_copyFrom_175 : decode cX1_copyFrom 175 = .ok (.getfield 42, 3) := by decide +kernel
theorem dX1_copyFrom_178 : decode cX1_copyFrom 178 = .ok (.iconst 0, 1) := by decide +kernel
theorem dX1_copyFrom_179 : decode cX1_copyFrom 179 = .ok (.aload_n 0, 1) := by decide +kernel
theorem dX1_copyFrom_180 : decode cX1_copyFrom 180 = .ok (.getfield 42, 3) := by decide +kernel
theorem dX1_copyFrom_183 : decode cX1_copyFrom 183 = .ok (.iconst 0, 1) := by decide +kernel
theorem dX1_copyFrom_184 : decode cX1_copyFrom 184 = .ok (.bipush 12, 2) := by decide +kernel
theorem dX1_copyFrom_186 : decode cX1_copyFrom 186 = .ok (.invokestatic 65, 3) := by decide +kernel
theorem dX1_copyFrom_189 : decode cX1_copyFrom 189 = .ok (.aload_n 1, 1) := by decide +kernel
theorem dX1_copyFrom_190 : decode cX1_copyFrom 190 = .ok (.getfield 45, 3) := by decide +kernel
theorem dX1_copyFrom_193 : decode cX1_copyFrom 193 = .ok (.iconst 0, 1) := by decide +kernel
theorem dX1_copyFrom_194 : decode cX1_copyFrom 194 = .ok (.aload_n 0, 1) := by decide +kernel
theorem dX1_copyFrom_195 : decode cX1_copyFrom 195 = .ok (.getfield 45, 3) := by decide +kernel
theorem dX1_copyFrom_198 : decode cX1_copyFrom 198 = .ok (.iconst 0, 1) := by decide +kernel
theorem dX1_copyFrom_199 : decode cX1_copyFrom 199 = .ok (.bipush 12, 2) := by decide +kernel
theorem dX1_copyFrom_201 : decode cX1_copyFrom 201 = .ok (.invokestatic 65, 3) := by decide +kernel
theorem dX1_copyFrom_204 : decode cX1_copyFrom 204 = .ok (.aload_n 1, 1) := by decide +kernel
theorem dX1_copyFrom_205 : decode cX1_copyFrom 205 = .ok (.getfield 48, 3) := by decide +kernel
theorem dX1_copyFrom_208 : decode cX1_copyFrom 208 = .ok (.iconst 0, 1) := by decide +kernel
theorem dX1_copyFrom_209 : decode cX1_copyFrom 209 = .ok (.aload_n 0, 1) := by decide +kernel
theorem dX1_copyFrom_210 : decode cX1_copyFrom 210 = .ok (.getfield 48, 3) := by decide +kernel
theorem dX1_copyFrom_213 : decode cX1_copyFrom 213 = .ok (.iconst 0, 1) := by decide +kernel
theorem dX1_copyFrom_214 : decode cX1_copyFrom 214 = .ok (.iconst 4, 1) := by decide +kernel
theorem dX1_copyFrom_215 : decode cX1_copyFrom 215 = .ok (.invokestatic 65, 3) := by decide +kernel
theorem dX1_copyFrom_218 : decode cX1_copyFrom 218 = .ok (.return_, 1) := by decide +kernel
theorem dX1_hasBook_0 : decode cX1_hasBook 0 = .ok (.iload_n 1, 1) := by decide +kernel
theorem dX1_hasBook_1 : decode cX1_hasBook 1 = .ok (.ifCond .lt 15, 3) := by decide +kernel
theorem dX1_hasBook_4 : decode cX1_hasBook 4 = .ok (.iload_n 1, 1) := by decide +kernel
theorem dX1_hasBook_5 : decode cX1_hasBook 5 = .ok (.aload_n 0, 1) := by decide +kernel
theorem dX1_hasBook_6 : decode cX1_hasBook 6 = .ok (.getfield 55, 3) := by decide +kernel
theorem dX1_hasBook_9 : decode cX1_hasBook 9 = .ok (.if_icmp .ge 7, 3) := by decide +kernel
theorem dX1_hasBook_12 : decode cX1_hasBook 12 = .ok (.iconst 1, 1) := by decide +kernel
theorem dX1_hasBook_13 : decode cX1_hasBook 13 = .ok (.goto 4, 3) := by decide +kernel
theorem dX1_hasBook_16 : decode cX1_hasBook 16 = .ok (.iconst 0, 1) := by decide +kernel
theorem dX1_hasBook_17 : decode cX1_hasBook 17 = .ok (.ireturn, 1) := by decide +kernel
theorem dX1_hasReader_0 : decode cX1_hasReader 0 = .ok (.iload_n 1, 1) := by decide +kernel
theorem dX1_hasReader_1 : decode cX1_hasReader 1 = .ok (.ifCond .lt 15, 3) := by decide +kernel
theorem dX1_hasReader_4 : decode cX1_hasReader 4 = .ok (.iload_n 1, 1) := by decide +kernel
theorem dX1_hasReader_5 : decode cX1_hasReader 5 = .ok (.aload_n 0, 1) := by decide +kernel
theorem dX1_hasReader_6 : decode cX1_hasReader 6 = .ok (.getfield 59, 3) := by decide +kernel
theorem dX1_hasReader_9 : decode cX1_hasReader 9 = .ok (.if_icmp .ge 7, 3) := by decide +kernel
theorem dX1_hasReader_12 : decode cX1_hasReader 12 = .ok (.iconst 1, 1) := by decide +kernel
theorem dX1_hasReader_13 : decode cX1_hasReader 13 = .ok (.goto 4, 3) := by decide +kernel
theorem dX1_hasReader_16 : decode cX1_hasReader 16 = .ok (.iconst 0, 1) := by decide +kernel
theorem dX1_hasReader_17 : decode cX1_hasReader 17 = .ok (.ireturn, 1) := by decide +kernel
theorem dX1_addBook_0 : decode cX1_addBook 0 = .ok (.aload_n 0, 1) := by decide +kernel
theorem dX1_addBook_1 : decode cX1_addBook 1 = .ok (.getfield 55, 3) := by decide +kernel
theorem dX1_addBook_4 : decode cX1_addBook 4 = .ok (.bipush 8, 2) := by decide +kernel
theorem dX1_addBook_6 : decode cX1_addBook 6 = .ok (.if_icmp .lt 5, 3) := by decide +kernel
theorem dX1_addBook_9 : decode cX1_addBook 9 = .ok (.iconst (-1), 1) := by decide +kernel
theorem dX1_addBook_10 : decode cX1_addBook 10 = .ok (.ireturn, 1) := by decide +kernel
theorem dX1_addBook_11 : decode cX1_addBook 11 = .ok (.aload_n 0, 1) := by decide +kernel
theorem dX1_addBook_12 : decode cX1_addBook 12 = .ok (.getfield 9, 3) := by decide +kernel
theorem dX1_addBook_15 : decode cX1_addBook 15 = .ok (.aload_n 0, 1) := by decide +kernel
theorem dX1_addBook_16 : decode cX1_addBook 16 = .ok (.getfield 55, 3) := by decide +kernel
theorem dX1_addBook_19 : decode cX1_addBook 19 = .ok (.iload_n 1, 1) := by decide +kernel
theorem dX1_addBook_20 : decode cX1_addBook 20 = .ok (.iastore, 1) := by decide +kernel
theorem dX1_addBook_21 : decode cX1_addBook 21 = .ok (.aload_n 0, 1) := by decide +kernel
theorem dX1_addBook_22 : decode cX1_addBook 22 = .ok (.getfield 15, 3) := by decide +kernel
theorem dX1_addBook_25 : decode cX1_addBook 25 = .ok (.aload_n 0, 1) := by decide +kernel
theorem dX1_addBook_26 : decode cX1_addBook 26 = .ok (.getfield 55, 3) := by decide +kernel
theorem dX1_addBook_29 : decode cX1_addBook 29 = .ok (.iload_n 2, 1) := by decide +kernel
theorem dX1_addBook_30 : decode cX1_addBook 30 = .ok (.iastore, 1) := by decide +kernel
theorem dX1_addBook_31 : decode cX1_addBook 31 = .ok (.aload_n 0, 1) := by decide +kernel
theorem dX1_addBook_32 : decode cX1_addBook 32 = .ok (.getfield 18, 3) := by decide +kernel
theorem dX1_addBook_35 : decode cX1_addBook 35 = .ok (.aload_n 0, 1) := by decide +kernel
theorem dX1_addBook_36 : decode cX1_addBook 36 = .ok (.getfield 55, 3) := by decide +kernel
theorem dX1_addBook_39 : decode cX1_addBook 39 = .ok (.iload_n 3, 1) := by decide +kernel
theorem dX1_addBook_40 : decode cX1_addBook 40 = .ok (.iastore, 1) := by decide +kernel
theorem dX1_addBook_41 : decode cX1_addBook 41 = .ok (.aload_n 0, 1) := by decide +kernel
theorem dX1_addBook_42 : decode cX1_addBook 42 = .ok (.getfield 21, 3) := by decide +kernel
theorem dX1_addBook_45 : decode cX1_addBook 45 = .ok (.aload_n 0, 1) := by decide +kernel
theorem dX1_addBook_46 : decode cX1_addBook 46 = .ok (.getfield 55, 3) := by decide +kernel
theorem dX1_addBook_49 : decode cX1_addBook 49 = .ok (.iload 4, 2) := by decide +kernel
theorem dX1_addBook_51 : decode cX1_addBook 51 = .ok (.iastore, 1) := by decide +kernel
theorem dX1_addBook_52 : decode cX1_addBook 52 = .ok (.aload_n 0, 1) := by decide +kernel
theorem dX1_addBook_53 : decode cX1_addBook 53 = .ok (.dup, 1) := by decide +kernel
theorem dX1_addBook_54 : decode cX1_addBook 54 = .ok (.getfield 55, 3) := by decide +kernel
theorem dX1_addBook_57 : decode cX1_addBook 57 = .ok (.iconst 1, 1) := by decide +kernel
theorem dX1_addBook_58 : decode cX1_addBook 58 = .ok (.iadd, 1) := by decide +kernel
theorem dX1_addBook_59 : decode cX1_addBook 59 = .ok (.putfield 55, 3) := by decide +kernel
theorem dX1_addBook_62 : decode cX1_addBook 62 = .ok (.aload_n 0, 1) := by decide +kernel
theorem dX1_addBook_63 : decode cX1_addBook 63 = .ok (.getfield 55, 3) := by decide +kernel
theorem dX1_addBook_66 : decode cX1_addBook 66 = .ok (.iconst 1, 1) := by decide +kernel
theorem dX1_addBook_67 : decode cX1_addBook 67 = .ok (.isub, 1) := by decide +kernel
theorem dX1_addBook_68 : decode cX1_addBook 68 = .ok (.ireturn, 1) := by decide +kernel
theorem dX1_addReader_0 : decode cX1_addReader 0 = .ok (.aload_n 0, 1) := by decide +kernel
theorem dX1_addReader_1 : decode cX1_addReader 1 = .ok (.getfield 59, 3) := by decide +kernel
theorem dX1_addReader_4 : decode cX1_addReader 4 = .ok (.bipush 6, 2) := by decide +kernel
theorem dX1_addReader_6 : decode cX1_addReader 6 = .ok (.if_icmp .lt 5, 3) := by decide +kernel
theorem dX1_addReader_9 : decode cX1_addReader 9 = .ok (.iconst (-1), 1) := by decide +kernel
theorem dX1_addReader_10 : decode cX1_addReader 10 = .ok (.ireturn, 1) := by decide +kernel
theorem dX1_addReader_11 : decode cX1_addReader 11 = .ok (.aload_n 0, 1) := by decide +kernel
theorem dX1_addReader_12 : decode cX1_addReader 12 = .ok (.getfield 24, 3) := by decide +kernel
theorem dX1_addReader_15 : decode cX1_addReader 15 = .ok (.aload_n 0, 1) := by decide +kernel
theorem dX1_addReader_16 : decode cX1_addReader 16 = .ok (.getfield 59, 3) := by decide +kernel
theorem dX1_addReader_19 : decode cX1_addReader 19 = .ok (.iload_n 1, 1) := by decide +kernel
theorem dX1_addReader_20 : decode cX1_addReader 20 = .ok (.iastore, 1) := by decide +kernel
theorem dX1_addReader_21 : decode cX1_addReader 21 = .ok (.aload_n 0, 1) := by decide +kernel
theorem dX1_addReader_22 : decode cX1_addReader 22 = .ok (.getfield 27, 3) := by decide +kernel
theorem dX1_addReader_25 : decode cX1_addReader 25 = .ok (.aload_n 0, 1) := by decide +kernel
theorem dX1_addReader_26 : decode cX1_addReader 26 = .ok (.getfield 59, 3) := by decide +kernel
theorem dX1_addReader_29 : decode cX1_addReader 29 = .ok (.iload_n 2, 1) := by decide +kernel
theorem dX1_addReader_30 : decode cX1_addReader 30 = .ok (.iastore, 1) := by decide +kernel
theorem dX1_addReader_31 : decode cX1_addReader 31 = .ok (.aload_n 0, 1) := by decide +kernel
theorem dX1_addReader_32 : decode cX1_addReader 32 = .ok (.getfield 30, 3) := by decide +kernel
theorem dX1_addReader_35 : decode cX1_addReader 35 = .ok (.aload_n 0, 1) := by decide +kernel
theorem dX1_addReader_36 : decode cX1_addReader 36 = .ok (.getfield 59, 3) := by decide +kernel
theorem dX1_addReader_39 : decode cX1_addReader 39 = .ok (.iconst 0, 1) := by decide +kernel
theorem dX1_addReader_40 : decode cX1_addReader 40 = .ok (.iastore, 1) := by decide +kernel
theorem dX1_addReader_41 : decode cX1_addReader 41 = .ok (.aload_n 0, 1) := by decide +kernel
theorem dX1_addReader_42 : decode cX1_addReader 42 = .ok (.getfield 33, 3) := by decide +kernel
theorem dX1_addReader_45 : decode cX1_addReader 45 = .ok (.aload_n 0, 1) := by decide +kernel
theorem dX1_addReader_46 : decode cX1_addReader 46 = .ok (.getfield 59, 3) := by decide +kernel
theorem dX1_addReader_49 : decode cX1_addReader 49 = .ok (.iconst (-1), 1) := by decide +kernel
theorem dX1_addReader_50 : decode cX1_addReader 50 = .ok (.iastore, 1) := by decide +kernel
theorem dX1_addReader_51 : decode cX1_addReader 51 = .ok (.aload_n 0, 1) := by decide +kernel
theorem dX1_addReader_52 : decode cX1_addReader 52 = .ok (.getfield 36, 3) := by decide +kernel
theorem dX1_addReader_55 : decode cX1_addReader 55 = .ok (.aload_n 0, 1) := by decide +kernel
theorem dX1_addReader_56 : decode cX1_addReader 56 = .ok (.getfield 59, 3) := by decide +kernel
theorem dX1_addReader_59 : decode cX1_addReader 59 = .ok (.iconst 0, 1) := by decide +kernel
theorem dX1_addReader_60 : decode cX1_addReader 60 = .ok (.iastore, 1) := by decide +kernel
theorem dX1_addReader_61 : decode cX1_addReader 61 = .ok (.aload_n 0, 1) := by decide +kernel
theorem dX1_addReader_62 : decode cX1_addReader 62 = .ok (.getfield 39, 3) := by decide +kernel
theorem dX1_addReader_65 : decode cX1_addReader 65 = .ok (.aload_n 0, 1) := by decide +kernel
theorem dX1_addReader_66 : decode cX1_addReader 66 = .ok (.getfield 59, 3) := by decide +kernel
theorem dX1_addReader_69 : decode cX1_addReader 69 = .ok (.iconst 0, 1) := by decide +kernel
theorem dX1_addReader_70 : decode cX1_addReader 70 = .ok (.iastore, 1) := by decide +kernel
theorem dX1_addReader_71 : decode cX1_addReader 71 = .ok (.aload_n 0, 1) := by decide +kernel
theorem dX1_addReader_72 : decode cX1_addReader 72 = .ok (.dup, 1) := by decide +kernel
theorem dX1_addReader_73 : decode cX1_addReader 73 = .ok (.getfield 59, 3) := by decide +kernel
theorem dX1_addReader_76 : decode cX1_addReader 76 = .ok (.iconst 1, 1) := by decide +kernel
theorem dX1_addReader_77 : decode cX1_addReader 77 = .ok (.iadd, 1) := by decide +kernel
theorem dX1_addReader_78 : decode cX1_addReader 78 = .ok (.putfield 59, 3) := by decide +kernel
theorem dX1_addReader_81 : decode cX1_addReader 81 = .ok (.aload_n 0, 1) := by decide +kernel
theorem dX1_addReader_82 : decode cX1_addReader 82 = .ok (.getfield 59, 3) := by decide +kernel
theorem dX1_addReader_85 : decode cX1_addReader 85 = .ok (.iconst 1, 1) := by decide +kernel
theorem dX1_addReader_86 : decode cX1_addReader 86 = .ok (.isub, 1) := by decide +kernel
theorem dX1_addReader_87 : decode cX1_addReader 87 = .ok (.ireturn, 1) := by decide +kernel
theorem dX1_readerWith_0 : decode cX1_readerWith 0 = .ok (.iconst 0, 1) := by decide +kernel
theorem dX1_readerWith_1 : decode cX1_readerWith 1 = .ok (.istore_n 2, 1) := by decide +kernel
theorem dX1_readerWith_2 : decode cX1_readerWith 2 = .ok (.iload_n 2, 1) := by decide +kernel
theorem dX1_readerWith_3 : decode cX1_readerWith 3 = .ok (.aload_n 0, 1) := by decide +kernel
theorem dX1_readerWith_4 : decode cX1_readerWith 4 = .ok (.getfield 59, 3) := by decide +kernel
theorem dX1_readerWith_7 : decode cX1_readerWith 7 = .ok (.if_icmp .ge 21, 3) := by decide +kernel
theorem dX1_readerWith_10 : decode cX1_readerWith 10 = .ok (.aload_n 0, 1) := by decide +kernel
theorem dX1_readerWith_11 : decode cX1_readerWith 11 = .ok (.getfield 33, 3) := by decide +kernel
theorem dX1_readerWith_14 : decode cX1_readerWith 14 = .ok (.iload_n 2, 1) := by decide +kernel
theorem dX1_readerWith_15 : decode cX1_readerWith 15 = .ok (.iaload, 1) := by decide +kernel
theorem dX1_readerWith_16 : decode cX1_readerWith 16 = .ok (.iload_n 1, 1) := by decide +kernel
theorem dX1_readerWith_17 : decode cX1_readerWith 17 = .ok (.if_icmp .ne 5, 3) := by decide +kernel
theorem dX1_readerWith_20 : decode cX1_readerWith 20 = .ok (.iload_n 2, 1) := by decide +kernel
theorem dX1_readerWith_21 : decode cX1_readerWith 21 = .ok (.ireturn, 1) := by decide +kernel
theorem dX1_readerWith_22 : decode cX1_readerWith 22 = .ok (.iinc 2 1, 3) := by decide +kernel
theorem dX1_readerWith_25 : decode cX1_readerWith 25 = .ok (.goto (-23), 3) := by decide +kernel
theorem dX1_readerWith_28 : decode cX1_readerWith 28 = .ok (.iconst (-1), 1) := by decide +kernel
theorem dX1_readerWith_29 : decode cX1_readerWith 29 = .ok (.ireturn, 1) := by decide +kernel
theorem dX1_lentOut_0 : decode cX1_lentOut 0 = .ok (.iconst 0, 1) := by decide +kernel
theorem dX1_lentOut_1 : decode cX1_lentOut 1 = .ok (.istore_n 1, 1) := by decide +kernel
theorem dX1_lentOut_2 : decode cX1_lentOut 2 = .ok (.iconst 0, 1) := by decide +kernel
theorem dX1_lentOut_3 : decode cX1_lentOut 3 = .ok (.istore_n 2, 1) := by decide +kernel
theorem dX1_lentOut_4 : decode cX1_lentOut 4 = .ok (.iload_n 2, 1) := by decide +kernel
theorem dX1_lentOut_5 : decode cX1_lentOut 5 = .ok (.aload_n 0, 1) := by decide +kernel
theorem dX1_lentOut_6 : decode cX1_lentOut 6 = .ok (.getfield 59, 3) := by decide +kernel
theorem dX1_lentOut_9 : decode cX1_lentOut 9 = .ok (.if_icmp .ge 22, 3) := by decide +kernel
theorem dX1_lentOut_12 : decode cX1_lentOut 12 = .ok (.aload_n 0, 1) := by decide +kernel
theorem dX1_lentOut_13 : decode cX1_lentOut 13 = .ok (.getfield 33, 3) := by decide +kernel
theorem dX1_lentOut_16 : decode cX1_lentOut 16 = .ok (.iload_n 2, 1) := by decide +kernel
theorem dX1_lentOut_17 : decode cX1_lentOut 17 = .ok (.iaload, 1) := by decide +kernel
theorem dX1_lentOut_18 : decode cX1_lentOut 18 = .ok (.iconst (-1), 1) := by decide +kernel
theorem dX1_lentOut_19 : decode cX1_lentOut 19 = .ok (.if_icmp .eq 6, 3) := by decide +kernel
theorem dX1_lentOut_22 : decode cX1_lentOut 22 = .ok (.iinc 1 1, 3) := by decide +kernel
theorem dX1_lentOut_25 : decode cX1_lentOut 25 = .ok (.iinc 2 1, 3) := by decide +kernel
theorem dX1_lentOut_28 : decode cX1_lentOut 28 = .ok (.goto (-24), 3) := by decide +kernel
theorem dX1_lentOut_31 : decode cX1_lentOut 31 = .ok (.iload_n 1, 1) := by decide +kernel
theorem dX1_lentOut_32 : decode cX1_lentOut 32 = .ok (.ireturn, 1) := by decide +kernel
theorem dX1_fits_0 : decode cX1_fits 0 = .ok (.aload_n 0, 1) := by decide +kernel
theorem dX1_fits_1 : decode cX1_fits 1 = .ok (.getfield 15, 3) := by decide +kernel
theorem dX1_fits_4 : decode cX1_fits 4 = .ok (.iload_n 2, 1) := by decide +kernel
theorem dX1_fits_5 : decode cX1_fits 5 = .ok (.iaload, 1) := by decide +kernel
theorem dX1_fits_6 : decode cX1_fits 6 = .ok (.iload_n 1, 1) := by decide +kernel
theorem dX1_fits_7 : decode cX1_fits 7 = .ok (.iconst (-1), 1) := by decide +kernel
theorem dX1_fits_8 : decode cX1_fits 8 = .ok (.ixor, 1) := by decide +kernel
theorem dX1_fits_9 : decode cX1_fits 9 = .ok (.iand, 1) := by decide +kernel
theorem dX1_fits_10 : decode cX1_fits 10 = .ok (.ifCond .ne 7, 3) := by decide +kernel
theorem dX1_fits_13 : decode cX1_fits 13 = .ok (.iconst 1, 1) := by decide +kernel
theorem dX1_fits_14 : decode cX1_fits 14 = .ok (.goto 4, 3) := by decide +kernel
theorem dX1_fits_17 : decode cX1_fits 17 = .ok (.iconst 0, 1) := by decide +kernel
theorem dX1_fits_18 : decode cX1_fits 18 = .ok (.ireturn, 1) := by decide +kernel
theorem dX1_keptWeeks_0 : decode cX1_keptWeeks 0 = .ok (.aload_n 0, 1) := by decide +kernel
theorem dX1_keptWeeks_1 : decode cX1_keptWeeks 1 = .ok (.getfield 33, 3) := by decide +kernel
theorem dX1_keptWeeks_4 : decode cX1_keptWeeks 4 = .ok (.iload_n 2, 1) := by decide +kernel
theorem dX1_keptWeeks_5 : decode cX1_keptWeeks 5 = .ok (.iaload, 1) := by decide +kernel
theorem dX1_keptWeeks_6 : decode cX1_keptWeeks 6 = .ok (.iload_n 1, 1) := by decide +kernel
theorem dX1_keptWeeks_7 : decode cX1_keptWeeks 7 = .ok (.if_icmp .ne 19, 3) := by decide +kernel
theorem dX1_keptWeeks_10 : decode cX1_keptWeeks 10 = .ok (.aload_n 0, 1) := by decide +kernel
theorem dX1_keptWeeks_11 : decode cX1_keptWeeks 11 = .ok (.getfield 48, 3) := by decide +kernel
theorem dX1_keptWeeks_14 : decode cX1_keptWeeks 14 = .ok (.iconst 0, 1) := by decide +kernel
theorem dX1_keptWeeks_15 : decode cX1_keptWeeks 15 = .ok (.iaload, 1) := by decide +kernel
theorem dX1_keptWeeks_16 : decode cX1_keptWeeks 16 = .ok (.aload_n 0, 1) := by decide +kernel
theorem dX1_keptWeeks_17 : decode cX1_keptWeeks 17 = .ok (.getfield 36, 3) := by decide +kernel
theorem dX1_keptWeeks_20 : decode cX1_keptWeeks 20 = .ok (.iload_n 2, 1) := by decide +kernel
theorem dX1_keptWeeks_21 : decode cX1_keptWeeks 21 = .ok (.iaload, 1) := by decide +kernel
theorem dX1_keptWeeks_22 : decode cX1_keptWeeks 22 = .ok (.isub, 1) := by decide +kernel
theorem dX1_keptWeeks_23 : decode cX1_keptWeeks 23 = .ok (.goto 4, 3) := by decide +kernel
theorem dX1_keptWeeks_26 : decode cX1_keptWeeks 26 = .ok (.iconst (-1), 1) := by decide +kernel
theorem dX1_keptWeeks_27 : decode cX1_keptWeeks 27 = .ok (.ireturn, 1) := by decide +kernel
theorem dX1_toldWithout_0 : decode cX1_toldWithout 0 = .ok (.iload_n 1, 1) := by decide +kernel
theorem dX1_toldWithout_1 : decode cX1_toldWithout 1 = .ok (.tableswitch 38 0 2 #[27, 29, 31], 27) := by decide +kernel
theorem dX1_toldWithout_28 : decode cX1_toldWithout 28 = .ok (.iconst 2, 1) := by decide +kernel
theorem dX1_toldWithout_29 : decode cX1_toldWithout 29 = .ok (.ireturn, 1) := by decide +kernel
theorem dX1_toldWithout_30 : decode cX1_toldWithout 30 = .ok (.iconst 1, 1) := by decide +kernel
theorem dX1_toldWithout_31 : decode cX1_toldWithout 31 = .ok (.ireturn, 1) := by decide +kernel
theorem dX1_toldWithout_32 : decode cX1_toldWithout 32 = .ok (.aload_n 0, 1) := by decide +kernel
theorem dX1_toldWithout_33 : decode cX1_toldWithout 33 = .ok (.getfield 9, 3) := by decide +kernel
theorem dX1_toldWithout_36 : decode cX1_toldWithout 36 = .ok (.iload_n 2, 1) := by decide +kernel
theorem dX1_toldWithout_37 : decode cX1_toldWithout 37 = .ok (.iaload, 1) := by decide +kernel
theorem dX1_toldWithout_38 : decode cX1_toldWithout 38 = .ok (.ireturn, 1) := by decide +kernel
theorem dX1_toldWithout_39 : decode cX1_toldWithout 39 = .ok (.iconst 0, 1) := by decide +kernel
theorem dX1_toldWithout_40 : decode cX1_toldWithout 40 = .ok (.ireturn, 1) := by decide +kernel
theorem dX1_tellLawWords_0 : decode cX1_tellLawWords 0 = .ok (.aload_n 0, 1) := by decide +kernel
theorem dX1_tellLawWords_1 : decode cX1_tellLawWords 1 = .ok (.getfield 51, 3) := by decide +kernel
theorem dX1_tellLawWords_4 : decode cX1_tellLawWords 4 = .ok (.getfield 71, 3) := by decide +kernel
theorem dX1_tellLawWords_7 : decode cX1_tellLawWords 7 = .ok (.astore 4, 2) := by decide +kernel
theorem dX1_tellLawWords_9 : decode cX1_tellLawWords 9 = .ok (.aload 4, 2) := by decide +kernel
theorem dX1_tellLawWords_11 : decode cX1_tellLawWords 11 = .ok (.iconst 0, 1) := by decide +kernel
theorem dX1_tellLawWords_12 : decode cX1_tellLawWords 12 = .ok (.iload_n 1, 1) := by decide +kernel
theorem dX1_tellLawWords_13 : decode cX1_tellLawWords 13 = .ok (.iastore, 1) := by decide +kernel
theorem dX1_tellLawWords_14 : decode cX1_tellLawWords 14 = .ok (.aload 4, 2) := by decide +kernel
theorem dX1_tellLawWords_16 : decode cX1_tellLawWords 16 = .ok (.iconst 1, 1) := by decide +kernel
theorem dX1_tellLawWords_17 : decode cX1_tellLawWords 17 = .ok (.aload_n 0, 1) := by decide +kernel
theorem dX1_tellLawWords_18 : decode cX1_tellLawWords 18 = .ok (.getfield 9, 3) := by decide +kernel
theorem dX1_tellLawWords_21 : decode cX1_tellLawWords 21 = .ok (.iload_n 1, 1) := by decide +kernel
theorem dX1_tellLawWords_22 : decode cX1_tellLawWords 22 = .ok (.iaload, 1) := by decide +kernel
theorem dX1_tellLawWords_23 : decode cX1_tellLawWords 23 = .ok (.iastore, 1) := by decide +kernel
theorem dX1_tellLawWords_24 : decode cX1_tellLawWords 24 = .ok (.aload 4, 2) := by decide +kernel
theorem dX1_tellLawWords_26 : decode cX1_tellLawWords 26 = .ok (.iconst 2, 1) := by decide +kernel
theorem dX1_tellLawWords_27 : decode cX1_tellLawWords 27 = .ok (.aload_n 0, 1) := by decide +kernel
theorem dX1_tellLawWords_28 : decode cX1_tellLawWords 28 = .ok (.getfield 21, 3) := by decide +kernel
theorem dX1_tellLawWords_31 : decode cX1_tellLawWords 31 = .ok (.iload_n 1, 1) := by decide +kernel
theorem dX1_tellLawWords_32 : decode cX1_tellLawWords 32 = .ok (.iaload, 1) := by decide +kernel
theorem dX1_tellLawWords_33 : decode cX1_tellLawWords 33 = .ok (.iastore, 1) := by decide +kernel
theorem dX1_tellLawWords_34 : decode cX1_tellLawWords 34 = .ok (.aload 4, 2) := by decide +kernel
theorem dX1_tellLawWords_36 : decode cX1_tellLawWords 36 = .ok (.iconst 3, 1) := by decide +kernel
theorem dX1_tellLawWords_37 : decode cX1_tellLawWords 37 = .ok (.iload_n 2, 1) := by decide +kernel
theorem dX1_tellLawWords_38 : decode cX1_tellLawWords 38 = .ok (.iastore, 1) := by decide +kernel
theorem dX1_tellLawWords_39 : decode cX1_tellLawWords 39 = .ok (.aload 4, 2) := by decide +kernel
theorem dX1_tellLawWords_41 : decode cX1_tellLawWords 41 = .ok (.iconst 4, 1) := by decide +kernel
theorem dX1_tellLawWords_42 : decode cX1_tellLawWords 42 = .ok (.iload_n 3, 1) := by decide +kernel
theorem dX1_tellLawWords_43 : decode cX1_tellLawWords 43 = .ok (.iastore, 1) := by decide +kernel
theorem dX1_tellLawWords_44 : decode cX1_tellLawWords 44 = .ok (.aload 4, 2) := by decide +kernel
theorem dX1_tellLawWords_46 : decode cX1_tellLawWords 46 = .ok (.iconst 5, 1) := by decide +kernel
theorem dX1_tellLawWords_47 : decode cX1_tellLawWords 47 = .ok (.aload_n 0, 1) := by decide +kernel
theorem dX1_tellLawWords_48 : decode cX1_tellLawWords 48 = .ok (.getfield 30, 3) := by decide +kernel
theorem dX1_tellLawWords_51 : decode cX1_tellLawWords 51 = .ok (.iload_n 2, 1) := by decide +kernel
theorem dX1_tellLawWords_52 : decode cX1_tellLawWords 52 = .ok (.iaload, 1) := by decide +kernel
theorem dX1_tellLawWords_53 : decode cX1_tellLawWords 53 = .ok (.iastore, 1) := by decide +kernel
theorem dX1_tellLawWords_54 : decode cX1_tellLawWords 54 = .ok (.aload 4, 2) := by decide +kernel
theorem dX1_tellLawWords_56 : decode cX1_tellLawWords 56 = .ok (.bipush 6, 2) := by decide +kernel
theorem dX1_tellLawWords_58 : decode cX1_tellLawWords 58 = .ok (.aload_n 0, 1) := by decide +kernel
theorem dX1_tellLawWords_59 : decode cX1_tellLawWords 59 = .ok (.iload_n 1, 1) := by decide +kernel
theorem dX1_tellLawWords_60 : decode cX1_tellLawWords 60 = .ok (.iload_n 2, 1) := by decide +kernel
theorem dX1_tellLawWords_61 : decode cX1_tellLawWords 61 = .ok (.invokevirtual 76, 3) := by decide +kernel
theorem dX1_tellLawWords_64 : decode cX1_tellLawWords 64 = .ok (.iastore, 1) := by decide +kernel
theorem dX1_tellLawWords_65 : decode cX1_tellLawWords 65 = .ok (.aload 4, 2) := by decide +kernel
theorem dX1_tellLawWords_67 : decode cX1_tellLawWords 67 = .ok (.bipush 7, 2) := by decide +kernel
theorem dX1_tellLawWords_69 : decode cX1_tellLawWords 69 = .ok (.aload_n 0, 1) := by decide +kernel
theorem dX1_tellLawWords_70 : decode cX1_tellLawWords 70 = .ok (.getfield 48, 3) := by decide +kernel
theorem dX1_tellLawWords_73 : decode cX1_tellLawWords 73 = .ok (.iconst 0, 1) := by decide +kernel
theorem dX1_tellLawWords_74 : decode cX1_tellLawWords 74 = .ok (.iaload, 1) := by decide +kernel
theorem dX1_tellLawWords_75 : decode cX1_tellLawWords 75 = .ok (.iastore, 1) := by decide +kernel
theorem dX1_tellLawWords_76 : decode cX1_tellLawWords 76 = .ok (.aload 4, 2) := by decide +kernel
theorem dX1_tellLawWords_78 : decode cX1_tellLawWords 78 = .ok (.bipush 8, 2) := by decide +kernel
theorem dX1_tellLawWords_80 : decode cX1_tellLawWords 80 = .ok (.aload_n 0, 1) := by decide +kernel
theorem dX1_tellLawWords_81 : decode cX1_tellLawWords 81 = .ok (.getfield 48, 3) := by decide +kernel
theorem dX1_tellLawWords_84 : decode cX1_tellLawWords 84 = .ok (.iconst 3, 1) := by decide +kernel
theorem dX1_tellLawWords_85 : decode cX1_tellLawWords 85 = .ok (.iaload, 1) := by decide +kernel
theorem dX1_tellLawWords_86 : decode cX1_tellLawWords 86 = .ok (.iastore, 1) := by decide +kernel
theorem dX1_tellLawWords_87 : decode cX1_tellLawWords 87 = .ok (.return_, 1) := by decide +kernel
theorem dX1_asked_0 : decode cX1_asked 0 = .ok (.aload_n 0, 1) := by decide +kernel
theorem dX1_asked_1 : decode cX1_asked 1 = .ok (.iload_n 3, 1) := by decide +kernel
theorem dX1_asked_2 : decode cX1_asked 2 = .ok (.iload 4, 2) := by decide +kernel
theorem dX1_asked_4 : decode cX1_asked 4 = .ok (.iload 5, 2) := by decide +kernel
theorem dX1_asked_6 : decode cX1_asked 6 = .ok (.invokevirtual 80, 3) := by decide +kernel
theorem dX1_asked_9 : decode cX1_asked 9 = .ok (.aload_n 0, 1) := by decide +kernel
theorem dX1_asked_10 : decode cX1_asked 10 = .ok (.getfield 51, 3) := by decide +kernel
theorem dX1_asked_13 : decode cX1_asked 13 = .ok (.iload_n 2, 1) := by decide +kernel
theorem dX1_asked_14 : decode cX1_asked 14 = .ok (.invokevirtual 84, 3) := by decide +kernel
theorem dX1_asked_17 : decode cX1_asked 17 = .ok (.astore 6, 2) := by decide +kernel
theorem dX1_asked_19 : decode cX1_asked 19 = .ok (.aload 6, 2) := by decide +kernel
theorem dX1_asked_21 : decode cX1_asked 21 = .ok (.getfield 88, 3) := by decide +kernel
theorem dX1_asked_24 : decode cX1_asked 24 = .ok (.iconst 1, 1) := by decide +kernel
theorem dX1_asked_25 : decode cX1_asked 25 = .ok (.isub, 1) := by decide +kernel
theorem dX1_asked_26 : decode cX1_asked 26 = .ok (.istore 7, 2) := by decide +kernel
theorem dX1_asked_28 : decode cX1_asked 28 = .ok (.iload 7, 2) := by decide +kernel
theorem dX1_asked_30 : decode cX1_asked 30 = .ok (.ifCond .lt 141, 3) := by decide +kernel
theorem dX1_asked_33 : decode cX1_asked 33 = .ok (.aload 6, 2) := by decide +kernel
theorem dX1_asked_35 : decode cX1_asked 35 = .ok (.getfield 93, 3) := by decide +kernel
theorem dX1_asked_38 : decode cX1_asked 38 = .ok (.iload 7, 2) := by decide +kernel
theorem dX1_asked_40 : decode cX1_asked 40 = .ok (.iaload, 1) := by decide +kernel
theorem dX1_asked_41 : decode cX1_asked 41 = .ok (.iload_n 1, 1) := by decide +kernel
theorem dX1_asked_42 : decode cX1_asked 42 = .ok (.if_icmp .eq 6, 3) := by decide +kernel
theorem dX1_asked_45 : decode cX1_asked 45 = .ok (.goto 120, 3) := by decide +kernel
theorem dX1_asked_48 : decode cX1_asked 48 = .ok (.aload 6, 2) := by decide +kernel
theorem dX1_asked_50 : decode cX1_asked 50 = .ok (.getfield 96, 3) := by decide +kernel
theorem dX1_asked_53 : decode cX1_asked 53 = .ok (.iload 7, 2) := by decide +kernel
theorem dX1_asked_55 : decode cX1_asked 55 = .ok (.iaload, 1) := by decide +kernel
theorem dX1_asked_56 : decode cX1_asked 56 = .ok (.iconst (-1), 1) := by decide +kernel
theorem dX1_asked_57 : decode cX1_asked 57 = .ok (.if_icmp .eq 37, 3) := by decide +kernel
theorem dX1_asked_60 : decode cX1_asked 60 = .ok (.aload_n 0, 1) := by decide +kernel
theorem dX1_asked_61 : decode cX1_asked 61 = .ok (.getfield 51, 3) := by decide +kernel
theorem dX1_asked_64 : decode cX1_asked 64 = .ok (.getfield 99, 3) := by decide +kernel
theorem dX1_asked_67 : decode cX1_asked 67 = .ok (.aload 6, 2) := by decide +kernel
theorem dX1_asked_69 : decode cX1_asked 69 = .ok (.aload 6, 2) := by decide +kernel
theorem dX1_asked_71 : decode cX1_asked 71 = .ok (.getfield 96, 3) := by decide +kernel
theorem dX1_asked_74 : decode cX1_asked 74 = .ok (.iload 7, 2) := by decide +kernel
theorem dX1_asked_76 : decode cX1_asked 76 = .ok (.iaload, 1) := by decide +kernel
theorem dX1_asked_77 : decode cX1_asked 77 = .ok (.aload_n 0, 1) := by decide +kernel
theorem dX1_asked_78 : decode cX1_asked 78 = .ok (.getfield 51, 3) := by decide +kernel
theorem dX1_asked_81 : decode cX1_asked 81 = .ok (.getfield 71, 3) := by decide +kernel
theorem dX1_asked_84 : decode cX1_asked 84 = .ok (.invokevirtual 103, 3) := by decide +kernel
theorem dX1_asked_87 : decode cX1_asked 87 = .ok (.iconst 1, 1) := by decide +kernel
theorem dX1_asked_88 : decode cX1_asked 88 = .ok (.if_icmp .eq 6, 3) := by decide +kernel
theorem dX1_asked_91 : decode cX1_asked 91 = .ok (.goto 74, 3) := by decide +kernel
theorem dX1_asked_94 : decode cX1_asked 94 = .ok (.aload 6, 2) := by decide +kernel
theorem dX1_asked_96 : decode cX1_asked 96 = .ok (.getfield 109, 3) := by decide +kernel
theorem dX1_asked_99 : decode cX1_asked 99 = .ok (.iload 7, 2) := by decide +kernel
theorem dX1_asked_101 : decode cX1_asked 101 = .ok (.iaload, 1) := by decide +kernel
theorem dX1_asked_102 : decode cX1_asked 102 = .ok (.iconst (-1), 1) := by decide +kernel
theorem dX1_asked_103 : decode cX1_asked 103 = .ok (.if_icmp .ne 7, 3) := by decide +kernel
theorem dX1_asked_106 : decode cX1_asked 106 = .ok (.iconst 1, 1) := by decide +kernel
theorem dX1_asked_107 : decode cX1_asked 107 = .ok (.goto 30, 3) := by decide +kernel
theorem dX1_asked_110 : decode cX1_asked 110 = .ok (.aload_n 0, 1) := by decide +kernel
theorem dX1_asked_111 : decode cX1_asked 111 = .ok (.getfield 51, 3) := by decide +kernel
theorem dX1_asked_114 : decode cX1_asked 114 = .ok (.getfield 99, 3) := by decide +kernel
theorem dX1_asked_117 : decode cX1_asked 117 = .ok (.aload 6, 2) := by decide +kernel
theorem dX1_asked_119 : decode cX1_asked 119 = .ok (.aload 6, 2) := by decide +kernel
theorem dX1_asked_121 : decode cX1_asked 121 = .ok (.getfield 109, 3) := by decide +kernel
theorem dX1_asked_124 : decode cX1_asked 124 = .ok (.iload 7, 2) := by decide +kernel
theorem dX1_asked_126 : decode cX1_asked 126 = .ok (.iaload, 1) := by decide +kernel
theorem dX1_asked_127 : decode cX1_asked 127 = .ok (.aload_n 0, 1) := by decide +kernel
theorem dX1_asked_128 : decode cX1_asked 128 = .ok (.getfield 51, 3) := by decide +kernel
theorem dX1_asked_131 : decode cX1_asked 131 = .ok (.getfield 71, 3) := by decide +kernel
theorem dX1_asked_134 : decode cX1_asked 134 = .ok (.invokevirtual 103, 3) := by decide +kernel
theorem dX1_asked_137 : decode cX1_asked 137 = .ok (.istore 8, 2) := by decide +kernel
theorem dX1_asked_139 : decode cX1_asked 139 = .ok (.iload 8, 2) := by decide +kernel
theorem dX1_asked_141 : decode cX1_asked 141 = .ok (.ldc 112, 2) := by decide +kernel
theorem dX1_asked_143 : decode cX1_asked 143 = .ok (.if_icmp .eq 22, 3) := by decide +kernel
theorem dX1_asked_146 : decode cX1_asked 146 = .ok (.getstatic 113, 3) := by decide +kernel
theorem dX1_asked_149 : decode cX1_asked 149 = .ok (.iload_n 1, 1) := by decide +kernel
theorem dX1_asked_150 : decode cX1_asked 150 = .ok (.iaload, 1) := by decide +kernel
theorem dX1_asked_151 : decode cX1_asked 151 = .ok (.getstatic 116, 3) := by decide +kernel
theorem dX1_asked_154 : decode cX1_asked 154 = .ok (.iload_n 1, 1) := by decide +kernel
theorem dX1_asked_155 : decode cX1_asked 155 = .ok (.iaload, 1) := by decide +kernel
theorem dX1_asked_156 : decode cX1_asked 156 = .ok (.iload 8, 2) := by decide +kernel
theorem dX1_asked_158 : decode cX1_asked 158 = .ok (.invokestatic 119, 3) := by decide +kernel
theorem dX1_asked_161 : decode cX1_asked 161 = .ok (.invokestatic 124, 3) := by decide +kernel
theorem dX1_asked_164 : decode cX1_asked 164 = .ok (.ireturn, 1) := by decide +kernel
theorem dX1_asked_165 : decode cX1_asked 165 = .ok (.iinc 7 (-1), 3) := by decide +kernel
theorem dX1_asked_168 : decode cX1_asked 168 = .ok (.goto (-140), 3) := by decide +kernel
theorem dX1_asked_171 : decode cX1_asked 171 = .ok (.aload_n 0, 1) := by decide +kernel
theorem dX1_asked_172 : decode cX1_asked 172 = .ok (.iload_n 1, 1) := by decide +kernel
theorem dX1_asked_173 : decode cX1_asked 173 = .ok (.iload_n 3, 1) := by decide +kernel
theorem dX1_asked_174 : decode cX1_asked 174 = .ok (.invokevirtual 127, 3) := by decide +kernel
theorem dX1_asked_177 : decode cX1_asked 177 = .ok (.ireturn, 1) := by decide +kernel
theorem dX1_readsThrough_0 : decode cX1_readsThrough 0 = .ok (.aload_n 0, 1) := by decide +kernel
theorem dX1_readsThrough_1 : decode cX1_readsThrough 1 = .ok (.aload_n 0, 1) := by decide +kernel
theorem dX1_readsThrough_2 : decode cX1_readsThrough 2 = .ok (.getfield 33, 3) := by decide +kernel
theorem dX1_readsThrough_5 : decode cX1_readsThrough 5 = .ok (.iload_n 1, 1) := by decide +kernel
theorem dX1_readsThrough_6 : decode cX1_readsThrough 6 = .ok (.iaload, 1) := by decide +kernel
theorem dX1_readsThrough_7 : decode cX1_readsThrough 7 = .ok (.iload_n 1, 1) := by decide +kernel
theorem dX1_readsThrough_8 : decode cX1_readsThrough 8 = .ok (.invokevirtual 76, 3) := by decide +kernel
theorem dX1_readsThrough_11 : decode cX1_readsThrough 11 = .ok (.iload_n 2, 1) := by decide +kernel
theorem dX1_readsThrough_12 : decode cX1_readsThrough 12 = .ok (.if_icmp .lt 7, 3) := by decide +kernel
theorem dX1_readsThrough_15 : decode cX1_readsThrough 15 = .ok (.iconst 1, 1) := by decide +kernel
theorem dX1_readsThrough_16 : decode cX1_readsThrough 16 = .ok (.goto 4, 3) := by decide +kernel
theorem dX1_readsThrough_19 : decode cX1_readsThrough 19 = .ok (.iconst 0, 1) := by decide +kernel
theorem dX1_readsThrough_20 : decode cX1_readsThrough 20 = .ok (.ireturn, 1) := by decide +kernel
theorem dX1_dues_0 : decode cX1_dues 0 = .ok (.aload_n 0, 1) := by decide +kernel
theorem dX1_dues_1 : decode cX1_dues 1 = .ok (.getfield 33, 3) := by decide +kernel
theorem dX1_dues_4 : decode cX1_dues 4 = .ok (.iload_n 1, 1) := by decide +kernel
theorem dX1_dues_5 : decode cX1_dues 5 = .ok (.iaload, 1) := by decide +kernel
theorem dX1_dues_6 : decode cX1_dues 6 = .ok (.istore_n 3, 1) := by decide +kernel
theorem dX1_dues_7 : decode cX1_dues 7 = .ok (.aload_n 0, 1) := by decide +kernel
theorem dX1_dues_8 : decode cX1_dues 8 = .ok (.iload_n 3, 1) := by decide +kernel
theorem dX1_dues_9 : decode cX1_dues 9 = .ok (.invokevirtual 130, 3) := by decide +kernel
theorem dX1_dues_12 : decode cX1_dues 12 = .ok (.ifCond .ne 5, 3) := by decide +kernel
theorem dX1_dues_15 : decode cX1_dues 15 = .ok (.iconst 0, 1) := by decide +kernel
theorem dX1_dues_16 : decode cX1_dues 16 = .ok (.ireturn, 1) := by decide +kernel
theorem dX1_dues_17 : decode cX1_dues 17 = .ok (.iconst 0, 1) := by decide +kernel
theorem dX1_dues_18 : decode cX1_dues 18 = .ok (.aload_n 0, 1) := by decide +kernel
theorem dX1_dues_19 : decode cX1_dues 19 = .ok (.iload_n 3, 1) := by decide +kernel
theorem dX1_dues_20 : decode cX1_dues 20 = .ok (.iload_n 1, 1) := by decide +kernel
theorem dX1_dues_21 : decode cX1_dues 21 = .ok (.invokevirtual 76, 3) := by decide +kernel
theorem dX1_dues_24 : decode cX1_dues 24 = .ok (.aload_n 0, 1) := by decide +kernel
theorem dX1_dues_25 : decode cX1_dues 25 = .ok (.getfield 48, 3) := by decide +kernel
theorem dX1_dues_28 : decode cX1_dues 28 = .ok (.iconst 1, 1) := by decide +kernel
theorem dX1_dues_29 : decode cX1_dues 29 = .ok (.iaload, 1) := by decide +kernel
theorem dX1_dues_30 : decode cX1_dues 30 = .ok (.isub, 1) := by decide +kernel
theorem dX1_dues_31 : decode cX1_dues 31 = .ok (.invokestatic 124, 3) := by decide +kernel
theorem dX1_dues_34 : decode cX1_dues 34 = .ok (.istore 4, 2) := by decide +kernel
theorem dX1_dues_36 : decode cX1_dues 36 = .ok (.aload_n 0, 1) := by decide +kernel
theorem dX1_dues_37 : decode cX1_dues 37 = .ok (.getfield 21, 3) := by decide +kernel
theorem dX1_dues_40 : decode cX1_dues 40 = .ok (.iload_n 3, 1) := by decide +kernel
theorem dX1_dues_41 : decode cX1_dues 41 = .ok (.iaload, 1) := by decide +kernel
theorem dX1_dues_42 : decode cX1_dues 42 = .ok (.iload 4, 2) := by decide +kernel
theorem dX1_dues_44 : decode cX1_dues 44 = .ok (.iload_n 2, 1) := by decide +kernel
theorem dX1_dues_45 : decode cX1_dues 45 = .ok (.imul, 1) := by decide +kernel
theorem dX1_dues_46 : decode cX1_dues 46 = .ok (.invokestatic 119, 3) := by decide +kernel
theorem dX1_dues_49 : decode cX1_dues 49 = .ok (.ireturn, 1) := by decide +kernel
theorem dX1_traitsBehind_0 : decode cX1_traitsBehind 0 = .ok (.aload_n 0, 1) := by decide +kernel
theorem dX1_traitsBehind_1 : decode cX1_traitsBehind 1 = .ok (.getfield 33, 3) := by decide +kernel
theorem dX1_traitsBehind_4 : decode cX1_traitsBehind 4 = .ok (.iload_n 1, 1) := by decide +kernel
theorem dX1_traitsBehind_5 : decode cX1_traitsBehind 5 = .ok (.iaload, 1) := by decide +kernel
theorem dX1_traitsBehind_6 : decode cX1_traitsBehind 6 = .ok (.istore_n 2, 1) := by decide +kernel
theorem dX1_traitsBehind_7 : decode cX1_traitsBehind 7 = .ok (.aload_n 0, 1) := by decide +kernel
theorem dX1_traitsBehind_8 : decode cX1_traitsBehind 8 = .ok (.iload_n 2, 1) := by decide +kernel
theorem dX1_traitsBehind_9 : decode cX1_traitsBehind 9 = .ok (.invokevirtual 130, 3) := by decide +kernel
theorem dX1_traitsBehind_12 : decode cX1_traitsBehind 12 = .ok (.ifCond .ne 10, 3) := by decide +kernel
theorem dX1_traitsBehind_15 : decode cX1_traitsBehind 15 = .ok (.aload_n 0, 1) := by decide +kernel
theorem dX1_traitsBehind_16 : decode cX1_traitsBehind 16 = .ok (.getfield 24, 3) := by decide +kernel
theorem dX1_traitsBehind_19 : decode cX1_traitsBehind 19 = .ok (.iload_n 1, 1) := by decide +kernel
theorem dX1_traitsBehind_20 : decode cX1_traitsBehind 20 = .ok (.iaload, 1) := by decide +kernel
theorem dX1_traitsBehind_21 : decode cX1_traitsBehind 21 = .ok (.ireturn, 1) := by decide +kernel
theorem dX1_traitsBehind_22 : decode cX1_traitsBehind 22 = .ok (.aload_n 0, 1) := by decide +kernel
theorem dX1_traitsBehind_23 : decode cX1_traitsBehind 23 = .ok (.iconst 2, 1) := by decide +kernel
theorem dX1_traitsBehind_24 : decode cX1_traitsBehind 24 = .ok (.aload_n 0, 1) := by decide +kernel
theorem dX1_traitsBehind_25 : decode cX1_traitsBehind 25 = .ok (.getfield 51, 3) := by decide +kernel
theorem dX1_traitsBehind_28 : decode cX1_traitsBehind 28 = .ok (.getfield 134, 3) := by decide +kernel
theorem dX1_traitsBehind_31 : decode cX1_traitsBehind 31 = .ok (.iload_n 2, 1) := by decide +kernel
theorem dX1_traitsBehind_32 : decode cX1_traitsBehind 32 = .ok (.iload_n 1, 1) := by decide +kernel
theorem dX1_traitsBehind_33 : decode cX1_traitsBehind 33 = .ok (.aload_n 0, 1) := by decide +kernel
theorem dX1_traitsBehind_34 : decode cX1_traitsBehind 34 = .ok (.getfield 24, 3) := by decide +kernel
theorem dX1_traitsBehind_37 : decode cX1_traitsBehind 37 = .ok (.iload_n 1, 1) := by decide +kernel
theorem dX1_traitsBehind_38 : decode cX1_traitsBehind 38 = .ok (.iaload, 1) := by decide +kernel
theorem dX1_traitsBehind_39 : decode cX1_traitsBehind 39 = .ok (.invokevirtual 137, 3) := by decide +kernel
theorem dX1_traitsBehind_42 : decode cX1_traitsBehind 42 = .ok (.istore_n 3, 1) := by decide +kernel
theorem dX1_traitsBehind_43 : decode cX1_traitsBehind 43 = .ok (.aload_n 0, 1) := by decide +kernel
theorem dX1_traitsBehind_44 : decode cX1_traitsBehind 44 = .ok (.iload_n 1, 1) := by decide +kernel
theorem dX1_traitsBehind_45 : decode cX1_traitsBehind 45 = .ok (.iload_n 3, 1) := by decide +kernel
theorem dX1_traitsBehind_46 : decode cX1_traitsBehind 46 = .ok (.invokevirtual 141, 3) := by decide +kernel
theorem dX1_traitsBehind_49 : decode cX1_traitsBehind 49 = .ok (.ifCond .eq 19, 3) := by decide +kernel
theorem dX1_traitsBehind_52 : decode cX1_traitsBehind 52 = .ok (.aload_n 0, 1) := by decide +kernel
theorem dX1_traitsBehind_53 : decode cX1_traitsBehind 53 = .ok (.getfield 24, 3) := by decide +kernel
theorem dX1_traitsBehind_56 : decode cX1_traitsBehind 56 = .ok (.iload_n 1, 1) := by decide +kernel
theorem dX1_traitsBehind_57 : decode cX1_traitsBehind 57 = .ok (.iaload, 1) := by decide +kernel
theorem dX1_traitsBehind_58 : decode cX1_traitsBehind 58 = .ok (.aload_n 0, 1) := by decide +kernel
theorem dX1_traitsBehind_59 : decode cX1_traitsBehind 59 = .ok (.getfield 18, 3) := by decide +kernel
theorem dX1_traitsBehind_62 : decode cX1_traitsBehind 62 = .ok (.iload_n 2, 1) := by decide +kernel
theorem dX1_traitsBehind_63 : decode cX1_traitsBehind 63 = .ok (.iaload, 1) := by decide +kernel
theorem dX1_traitsBehind_64 : decode cX1_traitsBehind 64 = .ok (.ior, 1) := by decide +kernel
theorem dX1_traitsBehind_65 : decode cX1_traitsBehind 65 = .ok (.goto 9, 3) := by decide +kernel
theorem dX1_traitsBehind_68 : decode cX1_traitsBehind 68 = .ok (.aload_n 0, 1) := by decide +kernel
theorem dX1_traitsBehind_69 : decode cX1_traitsBehind 69 = .ok (.getfield 24, 3) := by decide +kernel
theorem dX1_traitsBehind_72 : decode cX1_traitsBehind 72 = .ok (.iload_n 1, 1) := by decide +kernel
theorem dX1_traitsBehind_73 : decode cX1_traitsBehind 73 = .ok (.iaload, 1) := by decide +kernel
theorem dX1_traitsBehind_74 : decode cX1_traitsBehind 74 = .ok (.ireturn, 1) := by decide +kernel
theorem dX1_lendRefusal_0 : decode cX1_lendRefusal 0 = .ok (.aload_n 0, 1) := by decide +kernel
theorem dX1_lendRefusal_1 : decode cX1_lendRefusal 1 = .ok (.iload_n 1, 1) := by decide +kernel
theorem dX1_lendRefusal_2 : decode cX1_lendRefusal 2 = .ok (.invokevirtual 145, 3) := by decide +kernel
theorem dX1_lendRefusal_5 : decode cX1_lendRefusal 5 = .ok (.ifCond .eq 11, 3) := by decide +kernel
theorem dX1_lendRefusal_8 : decode cX1_lendRefusal 8 = .ok (.aload_n 0, 1) := by decide +kernel
theorem dX1_lendRefusal_9 : decode cX1_lendRefusal 9 = .ok (.iload_n 2, 1) := by decide +kernel
theorem dX1_lendRefusal_10 : decode cX1_lendRefusal 10 = .ok (.invokevirtual 130, 3) := by decide +kernel
theorem dX1_lendRefusal_13 : decode cX1_lendRefusal 13 = .ok (.ifCond .ne 6, 3) := by decide +kernel
theorem dX1_lendRefusal_16 : decode cX1_lendRefusal 16 = .ok (.bipush (-2), 2) := by decide +kernel
theorem dX1_lendRefusal_18 : decode cX1_lendRefusal 18 = .ok (.ireturn, 1) := by decide +kernel
theorem dX1_lendRefusal_19 : decode cX1_lendRefusal 19 = .ok (.aload_n 0, 1) := by decide +kernel
theorem dX1_lendRefusal_20 : decode cX1_lendRefusal 20 = .ok (.iload_n 2, 1) := by decide +kernel
theorem dX1_lendRefusal_21 : decode cX1_lendRefusal 21 = .ok (.invokevirtual 148, 3) := by decide +kernel
theorem dX1_lendRefusal_24 : decode cX1_lendRefusal 24 = .ok (.iconst (-1), 1) := by decide +kernel
theorem dX1_lendRefusal_25 : decode cX1_lendRefusal 25 = .ok (.if_icmp .ne 23, 3) := by decide +kernel
theorem dX1_lendRefusal_28 : decode cX1_lendRefusal 28 = .ok (.aload_n 0, 1) := by decide +kernel
theorem dX1_lendRefusal_29 : decode cX1_lendRefusal 29 = .ok (.getfield 27, 3) := by decide +kernel
theorem dX1_lendRefusal_32 : decode cX1_lendRefusal 32 = .ok (.iload_n 1, 1) := by decide +kernel
theorem dX1_lendRefusal_33 : decode cX1_lendRefusal 33 = .ok (.iaload, 1) := by decide +kernel
theorem dX1_lendRefusal_34 : decode cX1_lendRefusal 34 = .ok (.ifCond .ne 14, 3) := by decide +kernel
theorem dX1_lendRefusal_37 : decode cX1_lendRefusal 37 = .ok (.aload_n 0, 1) := by decide +kernel
theorem dX1_lendRefusal_38 : decode cX1_lendRefusal 38 = .ok (.getfield 30, 3) := by decide +kernel
theorem dX1_lendRefusal_41 : decode cX1_lendRefusal 41 = .ok (.iload_n 1, 1) := by decide +kernel
theorem dX1_lendRefusal_42 : decode cX1_lendRefusal 42 = .ok (.iaload, 1) := by decide +kernel
theorem dX1_lendRefusal_43 : decode cX1_lendRefusal 43 = .ok (.bipush 99, 2) := by decide +kernel
theorem dX1_lendRefusal_45 : decode cX1_lendRefusal 45 = .ok (.if_icmp .lt 6, 3) := by decide +kernel
theorem dX1_lendRefusal_48 : decode cX1_lendRefusal 48 = .ok (.bipush (-3), 2) := by decide +kernel
theorem dX1_lendRefusal_50 : decode cX1_lendRefusal 50 = .ok (.ireturn, 1) := by decide +kernel
theorem dX1_lendRefusal_51 : decode cX1_lendRefusal 51 = .ok (.aload_n 0, 1) := by decide +kernel
theorem dX1_lendRefusal_52 : decode cX1_lendRefusal 52 = .ok (.iload_n 1, 1) := by decide +kernel
theorem dX1_lendRefusal_53 : decode cX1_lendRefusal 53 = .ok (.invokevirtual 152, 3) := by decide +kernel
theorem dX1_lendRefusal_56 : decode cX1_lendRefusal 56 = .ok (.istore_n 3, 1) := by decide +kernel
theorem dX1_lendRefusal_57 : decode cX1_lendRefusal 57 = .ok (.aload_n 0, 1) := by decide +kernel
theorem dX1_lendRefusal_58 : decode cX1_lendRefusal 58 = .ok (.iload_n 3, 1) := by decide +kernel
theorem dX1_lendRefusal_59 : decode cX1_lendRefusal 59 = .ok (.iload_n 2, 1) := by decide +kernel
theorem dX1_lendRefusal_60 : decode cX1_lendRefusal 60 = .ok (.invokevirtual 155, 3) := by decide +kernel
theorem dX1_lendRefusal_63 : decode cX1_lendRefusal 63 = .ok (.ifCond .eq 25, 3) := by decide +kernel
theorem dX1_lendRefusal_66 : decode cX1_lendRefusal 66 = .ok (.aload_n 0, 1) := by decide +kernel
theorem dX1_lendRefusal_67 : decode cX1_lendRefusal 67 = .ok (.iconst 3, 1) := by decide +kernel
theorem dX1_lendRefusal_68 : decode cX1_lendRefusal 68 = .ok (.aload_n 0, 1) := by decide +kernel
theorem dX1_lendRefusal_69 : decode cX1_lendRefusal 69 = .ok (.getfield 51, 3) := by decide +kernel
theorem dX1_lendRefusal_72 : decode cX1_lendRefusal 72 = .ok (.getfield 134, 3) := by decide +kernel
theorem dX1_lendRefusal_75 : decode cX1_lendRefusal 75 = .ok (.iload_n 2, 1) := by decide +kernel
theorem dX1_lendRefusal_76 : decode cX1_lendRefusal 76 = .ok (.iload_n 1, 1) := by decide +kernel
theorem dX1_lendRefusal_77 : decode cX1_lendRefusal 77 = .ok (.iload_n 3, 1) := by decide +kernel
theorem dX1_lendRefusal_78 : decode cX1_lendRefusal 78 = .ok (.invokevirtual 137, 3) := by decide +kernel
theorem dX1_lendRefusal_81 : decode cX1_lendRefusal 81 = .ok (.ifCond .ne 7, 3) := by decide +kernel
theorem dX1_lendRefusal_84 : decode cX1_lendRefusal 84 = .ok (.iconst 1, 1) := by decide +kernel
theorem dX1_lendRefusal_85 : decode cX1_lendRefusal 85 = .ok (.goto 4, 3) := by decide +kernel
theorem dX1_lendRefusal_88 : decode cX1_lendRefusal 88 = .ok (.iconst 0, 1) := by decide +kernel
theorem dX1_lendRefusal_89 : decode cX1_lendRefusal 89 = .ok (.istore 4, 2) := by decide +kernel
theorem dX1_lendRefusal_91 : decode cX1_lendRefusal 91 = .ok (.iload 4, 2) := by decide +kernel
theorem dX1_lendRefusal_93 : decode cX1_lendRefusal 93 = .ok (.ifCond .eq 7, 3) := by decide +kernel
theorem dX1_lendRefusal_96 : decode cX1_lendRefusal 96 = .ok (.iconst 0, 1) := by decide +kernel
theorem dX1_lendRefusal_97 : decode cX1_lendRefusal 97 = .ok (.goto 5, 3) := by decide +kernel
theorem dX1_lendRefusal_100 : decode cX1_lendRefusal 100 = .ok (.bipush (-3), 2) := by decide +kernel
theorem dX1_lendRefusal_102 : decode cX1_lendRefusal 102 = .ok (.ireturn, 1) := by decide +kernel
theorem dX1_canHave_0 : decode cX1_canHave 0 = .ok (.aload_n 0, 1) := by decide +kernel
theorem dX1_canHave_1 : decode cX1_canHave 1 = .ok (.getfield 33, 3) := by decide +kernel
theorem dX1_canHave_4 : decode cX1_canHave 4 = .ok (.iload_n 2, 1) := by decide +kernel
theorem dX1_canHave_5 : decode cX1_canHave 5 = .ok (.iaload, 1) := by decide +kernel
theorem dX1_canHave_6 : decode cX1_canHave 6 = .ok (.iconst (-1), 1) := by decide +kernel
theorem dX1_canHave_7 : decode cX1_canHave 7 = .ok (.if_icmp .ne 16, 3) := by decide +kernel
theorem dX1_canHave_10 : decode cX1_canHave 10 = .ok (.aload_n 0, 1) := by decide +kernel
theorem dX1_canHave_11 : decode cX1_canHave 11 = .ok (.iload_n 2, 1) := by decide +kernel
theorem dX1_canHave_12 : decode cX1_canHave 12 = .ok (.iload_n 1, 1) := by decide +kernel
theorem dX1_canHave_13 : decode cX1_canHave 13 = .ok (.invokevirtual 158, 3) := by decide +kernel
theorem dX1_canHave_16 : decode cX1_canHave 16 = .ok (.ifCond .ne 7, 3) := by decide +kernel
theorem dX1_canHave_19 : decode cX1_canHave 19 = .ok (.iconst 1, 1) := by decide +kernel
theorem dX1_canHave_20 : decode cX1_canHave 20 = .ok (.goto 4, 3) := by decide +kernel
theorem dX1_canHave_23 : decode cX1_canHave 23 = .ok (.iconst 0, 1) := by decide +kernel
theorem dX1_canHave_24 : decode cX1_canHave 24 = .ok (.ireturn, 1) := by decide +kernel
theorem dX1_bringRefusal_0 : decode cX1_bringRefusal 0 = .ok (.aload_n 0, 1) := by decide +kernel
theorem dX1_bringRefusal_1 : decode cX1_bringRefusal 1 = .ok (.iload_n 1, 1) := by decide +kernel
theorem dX1_bringRefusal_2 : decode cX1_bringRefusal 2 = .ok (.invokevirtual 145, 3) := by decide +kernel
theorem dX1_bringRefusal_5 : decode cX1_bringRefusal 5 = .ok (.ifCond .ne 6, 3) := by decide +kernel
theorem dX1_bringRefusal_8 : decode cX1_bringRefusal 8 = .ok (.bipush (-2), 2) := by decide +kernel
theorem dX1_bringRefusal_10 : decode cX1_bringRefusal 10 = .ok (.ireturn, 1) := by decide +kernel
theorem dX1_bringRefusal_11 : decode cX1_bringRefusal 11 = .ok (.aload_n 0, 1) := by decide +kernel
theorem dX1_bringRefusal_12 : decode cX1_bringRefusal 12 = .ok (.getfield 33, 3) := by decide +kernel
theorem dX1_bringRefusal_15 : decode cX1_bringRefusal 15 = .ok (.iload_n 1, 1) := by decide +kernel
theorem dX1_bringRefusal_16 : decode cX1_bringRefusal 16 = .ok (.iaload, 1) := by decide +kernel
theorem dX1_bringRefusal_17 : decode cX1_bringRefusal 17 = .ok (.iconst (-1), 1) := by decide +kernel
theorem dX1_bringRefusal_18 : decode cX1_bringRefusal 18 = .ok (.if_icmp .ne 8, 3) := by decide +kernel
theorem dX1_bringRefusal_21 : decode cX1_bringRefusal 21 = .ok (.bipush (-3), 2) := by decide +kernel
theorem dX1_bringRefusal_23 : decode cX1_bringRefusal 23 = .ok (.goto 4, 3) := by decide +kernel
theorem dX1_bringRefusal_26 : decode cX1_bringRefusal 26 = .ok (.iconst 0, 1) := by decide +kernel
