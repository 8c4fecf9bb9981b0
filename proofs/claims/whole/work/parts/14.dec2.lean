theorem dX5_joined_239 : decode cX5_joined 239 = .ok (.lload_n 3, 1) := by decide +kernel
theorem dX5_joined_240 : decode cX5_joined 240 = .ok (.l2i, 1) := by decide +kernel
theorem dX5_joined_241 : decode cX5_joined 241 = .ok (.ireturn, 1) := by decide +kernel
theorem dX6_init_0 : decode cX6_init 0 = .ok (.aload_n 0, 1) := by decide +kernel
theorem dX6_init_1 : decode cX6_init 1 = .ok (.invokespecial 3, 3) := by decide +kernel
theorem dX6_init_4 : decode cX6_init 4 = .ok (.aload_n 0, 1) := by decide +kernel
theorem dX6_init_5 : decode cX6_init 5 = .ok (.sipush 400, 3) := by decide +kernel
theorem dX6_init_8 : decode cX6_init 8 = .ok (.newarray .int, 2) := by decide +kernel
theorem dX6_init_10 : decode cX6_init 10 = .ok (.putfield 9, 3) := by decide +kernel
theorem dX6_init_13 : decode cX6_init 13 = .ok (.aload_n 0, 1) := by decide +kernel
theorem dX6_init_14 : decode cX6_init 14 = .ok (.iconst 0, 1) := by decide +kernel
theorem dX6_init_15 : decode cX6_init 15 = .ok (.putfield 15, 3) := by decide +kernel
theorem dX6_init_18 : decode cX6_init 18 = .ok (.return_, 1) := by decide +kernel
theorem dX6_add_0 : decode cX6_add 0 = .ok (.bipush 24, 2) := by decide +kernel
theorem dX6_add_2 : decode cX6_add 2 = .ok (.istore_n 2, 1) := by decide +kernel
theorem dX6_add_3 : decode cX6_add 3 = .ok (.iload_n 2, 1) := by decide +kernel
theorem dX6_add_4 : decode cX6_add 4 = .ok (.ifCond .lt 45, 3) := by decide +kernel
theorem dX6_add_7 : decode cX6_add 7 = .ok (.aload_n 0, 1) := by decide +kernel
theorem dX6_add_8 : decode cX6_add 8 = .ok (.getfield 15, 3) := by decide +kernel
theorem dX6_add_11 : decode cX6_add 11 = .ok (.sipush 400, 3) := by decide +kernel
theorem dX6_add_14 : decode cX6_add 14 = .ok (.if_icmp .ge 29, 3) := by decide +kernel
theorem dX6_add_17 : decode cX6_add 17 = .ok (.aload_n 0, 1) := by decide +kernel
theorem dX6_add_18 : decode cX6_add 18 = .ok (.getfield 9, 3) := by decide +kernel
theorem dX6_add_21 : decode cX6_add 21 = .ok (.aload_n 0, 1) := by decide +kernel
theorem dX6_add_22 : decode cX6_add 22 = .ok (.getfield 15, 3) := by decide +kernel
theorem dX6_add_25 : decode cX6_add 25 = .ok (.iload_n 1, 1) := by decide +kernel
theorem dX6_add_26 : decode cX6_add 26 = .ok (.iload_n 2, 1) := by decide +kernel
theorem dX6_add_27 : decode cX6_add 27 = .ok (.iushr, 1) := by decide +kernel
theorem dX6_add_28 : decode cX6_add 28 = .ok (.sipush 255, 3) := by decide +kernel
theorem dX6_add_31 : decode cX6_add 31 = .ok (.iand, 1) := by decide +kernel
theorem dX6_add_32 : decode cX6_add 32 = .ok (.iastore, 1) := by decide +kernel
theorem dX6_add_33 : decode cX6_add 33 = .ok (.aload_n 0, 1) := by decide +kernel
theorem dX6_add_34 : decode cX6_add 34 = .ok (.dup, 1) := by decide +kernel
theorem dX6_add_35 : decode cX6_add 35 = .ok (.getfield 15, 3) := by decide +kernel
theorem dX6_add_38 : decode cX6_add 38 = .ok (.iconst 1, 1) := by decide +kernel
theorem dX6_add_39 : decode cX6_add 39 = .ok (.iadd, 1) := by decide +kernel
theorem dX6_add_40 : decode cX6_add 40 = .ok (.putfield 15, 3) := by decide +kernel
theorem dX6_add_43 : decode cX6_add 43 = .ok (.iinc 2 (-8), 3) := by decide +kernel
theorem dX6_add_46 : decode cX6_add 46 = .ok (.goto (-43), 3) := by decide +kernel
theorem dX6_add_49 : decode cX6_add 49 = .ok (.return_, 1) := by decide +kernel
theorem dX7_init_0 : decode cX7_init 0 = .ok (.aload_n 0, 1) := by decide +kernel
theorem dX7_init_1 : decode cX7_init 1 = .ok (.invokespecial 3, 3) := by decide +kernel
theorem dX7_init_4 : decode cX7_init 4 = .ok (.aload_n 0, 1) := by decide +kernel
theorem dX7_init_5 : decode cX7_init 5 = .ok (.iconst 0, 1) := by decide +kernel
theorem dX7_init_6 : decode cX7_init 6 = .ok (.putfield 9, 3) := by decide +kernel
theorem dX7_init_9 : decode cX7_init 9 = .ok (.aload_n 0, 1) := by decide +kernel
theorem dX7_init_10 : decode cX7_init 10 = .ok (.iconst 0, 1) := by decide +kernel
theorem dX7_init_11 : decode cX7_init 11 = .ok (.putfield 15, 3) := by decide +kernel
theorem dX7_init_14 : decode cX7_init 14 = .ok (.iconst 0, 1) := by decide +kernel
theorem dX7_init_15 : decode cX7_init 15 = .ok (.iload_n 1, 1) := by decide +kernel
theorem dX7_init_16 : decode cX7_init 16 = .ok (.invokestatic 18, 3) := by decide +kernel
theorem dX7_init_19 : decode cX7_init 19 = .ok (.istore_n 3, 1) := by decide +kernel
theorem dX7_init_20 : decode cX7_init 20 = .ok (.aload_n 0, 1) := by decide +kernel
theorem dX7_init_21 : decode cX7_init 21 = .ok (.iload_n 3, 1) := by decide +kernel
theorem dX7_init_22 : decode cX7_init 22 = .ok (.newarray .int, 2) := by decide +kernel
theorem dX7_init_24 : decode cX7_init 24 = .ok (.putfield 24, 3) := by decide +kernel
theorem dX7_init_27 : decode cX7_init 27 = .ok (.aload_n 0, 1) := by decide +kernel
theorem dX7_init_28 : decode cX7_init 28 = .ok (.iload_n 3, 1) := by decide +kernel
theorem dX7_init_29 : decode cX7_init 29 = .ok (.newarray .int, 2) := by decide +kernel
theorem dX7_init_31 : decode cX7_init 31 = .ok (.putfield 28, 3) := by decide +kernel
theorem dX7_init_34 : decode cX7_init 34 = .ok (.aload_n 0, 1) := by decide +kernel
theorem dX7_init_35 : decode cX7_init 35 = .ok (.iload_n 3, 1) := by decide +kernel
theorem dX7_init_36 : decode cX7_init 36 = .ok (.newarray .int, 2) := by decide +kernel
theorem dX7_init_38 : decode cX7_init 38 = .ok (.putfield 31, 3) := by decide +kernel
theorem dX7_init_41 : decode cX7_init 41 = .ok (.aload_n 0, 1) := by decide +kernel
theorem dX7_init_42 : decode cX7_init 42 = .ok (.iload_n 3, 1) := by decide +kernel
theorem dX7_init_43 : decode cX7_init 43 = .ok (.newarray .int, 2) := by decide +kernel
theorem dX7_init_45 : decode cX7_init 45 = .ok (.putfield 34, 3) := by decide +kernel
theorem dX7_init_48 : decode cX7_init 48 = .ok (.aload_n 0, 1) := by decide +kernel
theorem dX7_init_49 : decode cX7_init 49 = .ok (.iload_n 3, 1) := by decide +kernel
theorem dX7_init_50 : decode cX7_init 50 = .ok (.newarray .int, 2) := by decide +kernel
theorem dX7_init_52 : decode cX7_init 52 = .ok (.putfield 37, 3) := by decide +kernel
theorem dX7_init_55 : decode cX7_init 55 = .ok (.aload_n 0, 1) := by decide +kernel
theorem dX7_init_56 : decode cX7_init 56 = .ok (.iconst 0, 1) := by decide +kernel
theorem dX7_init_57 : decode cX7_init 57 = .ok (.iload_n 2, 1) := by decide +kernel
theorem dX7_init_58 : decode cX7_init 58 = .ok (.invokestatic 18, 3) := by decide +kernel
theorem dX7_init_61 : decode cX7_init 61 = .ok (.newarray .int, 2) := by decide +kernel
theorem dX7_init_63 : decode cX7_init 63 = .ok (.putfield 40, 3) := by decide +kernel
theorem dX7_init_66 : decode cX7_init 66 = .ok (.return_, 1) := by decide +kernel
theorem dX7_clear_0 : decode cX7_clear 0 = .ok (.aload_n 0, 1) := by decide +kernel
theorem dX7_clear_1 : decode cX7_clear 1 = .ok (.iconst 0, 1) := by decide +kernel
theorem dX7_clear_2 : decode cX7_clear 2 = .ok (.putfield 9, 3) := by decide +kernel
theorem dX7_clear_5 : decode cX7_clear 5 = .ok (.aload_n 0, 1) := by decide +kernel
theorem dX7_clear_6 : decode cX7_clear 6 = .ok (.iconst 0, 1) := by decide +kernel
theorem dX7_clear_7 : decode cX7_clear 7 = .ok (.putfield 15, 3) := by decide +kernel
theorem dX7_clear_10 : decode cX7_clear 10 = .ok (.return_, 1) := by decide +kernel
theorem dX7_open_0 : decode cX7_open 0 = .ok (.aload_n 0, 1) := by decide +kernel
theorem dX7_open_1 : decode cX7_open 1 = .ok (.getfield 9, 3) := by decide +kernel
theorem dX7_open_4 : decode cX7_open 4 = .ok (.aload_n 0, 1) := by decide +kernel
theorem dX7_open_5 : decode cX7_open 5 = .ok (.getfield 24, 3) := by decide +kernel
theorem dX7_open_8 : decode cX7_open 8 = .ok (.arraylength, 1) := by decide +kernel
theorem dX7_open_9 : decode cX7_open 9 = .ok (.if_icmp .ge 63, 3) := by decide +kernel
theorem dX7_open_12 : decode cX7_open 12 = .ok (.aload_n 0, 1) := by decide +kernel
theorem dX7_open_13 : decode cX7_open 13 = .ok (.getfield 24, 3) := by decide +kernel
theorem dX7_open_16 : decode cX7_open 16 = .ok (.aload_n 0, 1) := by decide +kernel
theorem dX7_open_17 : decode cX7_open 17 = .ok (.getfield 9, 3) := by decide +kernel
theorem dX7_open_20 : decode cX7_open 20 = .ok (.iload_n 1, 1) := by decide +kernel
theorem dX7_open_21 : decode cX7_open 21 = .ok (.iastore, 1) := by decide +kernel
theorem dX7_open_22 : decode cX7_open 22 = .ok (.aload_n 0, 1) := by decide +kernel
theorem dX7_open_23 : decode cX7_open 23 = .ok (.getfield 28, 3) := by decide +kernel
theorem dX7_open_26 : decode cX7_open 26 = .ok (.aload_n 0, 1) := by decide +kernel
theorem dX7_open_27 : decode cX7_open 27 = .ok (.getfield 9, 3) := by decide +kernel
theorem dX7_open_30 : decode cX7_open 30 = .ok (.iconst (-1), 1) := by decide +kernel
theorem dX7_open_31 : decode cX7_open 31 = .ok (.iastore, 1) := by decide +kernel
theorem dX7_open_32 : decode cX7_open 32 = .ok (.aload_n 0, 1) := by decide +kernel
theorem dX7_open_33 : decode cX7_open 33 = .ok (.getfield 31, 3) := by decide +kernel
theorem dX7_open_36 : decode cX7_open 36 = .ok (.aload_n 0, 1) := by decide +kernel
theorem dX7_open_37 : decode cX7_open 37 = .ok (.getfield 9, 3) := by decide +kernel
theorem dX7_open_40 : decode cX7_open 40 = .ok (.iconst (-1), 1) := by decide +kernel
theorem dX7_open_41 : decode cX7_open 41 = .ok (.iastore, 1) := by decide +kernel
theorem dX7_open_42 : decode cX7_open 42 = .ok (.aload_n 0, 1) := by decide +kernel
theorem dX7_open_43 : decode cX7_open 43 = .ok (.getfield 34, 3) := by decide +kernel
theorem dX7_open_46 : decode cX7_open 46 = .ok (.aload_n 0, 1) := by decide +kernel
theorem dX7_open_47 : decode cX7_open 47 = .ok (.getfield 9, 3) := by decide +kernel
theorem dX7_open_50 : decode cX7_open 50 = .ok (.iconst (-1), 1) := by decide +kernel
theorem dX7_open_51 : decode cX7_open 51 = .ok (.iastore, 1) := by decide +kernel
theorem dX7_open_52 : decode cX7_open 52 = .ok (.aload_n 0, 1) := by decide +kernel
theorem dX7_open_53 : decode cX7_open 53 = .ok (.getfield 37, 3) := by decide +kernel
theorem dX7_open_56 : decode cX7_open 56 = .ok (.aload_n 0, 1) := by decide +kernel
theorem dX7_open_57 : decode cX7_open 57 = .ok (.getfield 9, 3) := by decide +kernel
theorem dX7_open_60 : decode cX7_open 60 = .ok (.iconst 1, 1) := by decide +kernel
theorem dX7_open_61 : decode cX7_open 61 = .ok (.iastore, 1) := by decide +kernel
theorem dX7_open_62 : decode cX7_open 62 = .ok (.aload_n 0, 1) := by decide +kernel
theorem dX7_open_63 : decode cX7_open 63 = .ok (.dup, 1) := by decide +kernel
theorem dX7_open_64 : decode cX7_open 64 = .ok (.getfield 9, 3) := by decide +kernel
theorem dX7_open_67 : decode cX7_open 67 = .ok (.iconst 1, 1) := by decide +kernel
theorem dX7_open_68 : decode cX7_open 68 = .ok (.iadd, 1) := by decide +kernel
theorem dX7_open_69 : decode cX7_open 69 = .ok (.putfield 9, 3) := by decide +kernel
theorem dX7_open_72 : decode cX7_open 72 = .ok (.return_, 1) := by decide +kernel
theorem dX7_add_0 : decode cX7_add 0 = .ok (.aload_n 0, 1) := by decide +kernel
theorem dX7_add_1 : decode cX7_add 1 = .ok (.getfield 15, 3) := by decide +kernel
theorem dX7_add_4 : decode cX7_add 4 = .ok (.aload_n 0, 1) := by decide +kernel
theorem dX7_add_5 : decode cX7_add 5 = .ok (.getfield 40, 3) := by decide +kernel
theorem dX7_add_8 : decode cX7_add 8 = .ok (.arraylength, 1) := by decide +kernel
theorem dX7_add_9 : decode cX7_add 9 = .ok (.if_icmp .ge 23, 3) := by decide +kernel
theorem dX7_add_12 : decode cX7_add 12 = .ok (.aload_n 0, 1) := by decide +kernel
theorem dX7_add_13 : decode cX7_add 13 = .ok (.getfield 40, 3) := by decide +kernel
theorem dX7_add_16 : decode cX7_add 16 = .ok (.aload_n 0, 1) := by decide +kernel
theorem dX7_add_17 : decode cX7_add 17 = .ok (.getfield 15, 3) := by decide +kernel
theorem dX7_add_20 : decode cX7_add 20 = .ok (.iload_n 1, 1) := by decide +kernel
theorem dX7_add_21 : decode cX7_add 21 = .ok (.iastore, 1) := by decide +kernel
theorem dX7_add_22 : decode cX7_add 22 = .ok (.aload_n 0, 1) := by decide +kernel
theorem dX7_add_23 : decode cX7_add 23 = .ok (.dup, 1) := by decide +kernel
theorem dX7_add_24 : decode cX7_add 24 = .ok (.getfield 15, 3) := by decide +kernel
theorem dX7_add_27 : decode cX7_add 27 = .ok (.iconst 1, 1) := by decide +kernel
theorem dX7_add_28 : decode cX7_add 28 = .ok (.iadd, 1) := by decide +kernel
theorem dX7_add_29 : decode cX7_add 29 = .ok (.putfield 15, 3) := by decide +kernel
theorem dX7_add_32 : decode cX7_add 32 = .ok (.return_, 1) := by decide +kernel
theorem dX7_copied_0 : decode cX7_copied 0 = .ok (.new 10, 3) := by decide +kernel
theorem dX7_copied_3 : decode cX7_copied 3 = .ok (.dup, 1) := by decide +kernel
theorem dX7_copied_4 : decode cX7_copied 4 = .ok (.aload_n 0, 1) := by decide +kernel
theorem dX7_copied_5 : decode cX7_copied 5 = .ok (.getfield 9, 3) := by decide +kernel
theorem dX7_copied_8 : decode cX7_copied 8 = .ok (.aload_n 0, 1) := by decide +kernel
theorem dX7_copied_9 : decode cX7_copied 9 = .ok (.getfield 15, 3) := by decide +kernel
theorem dX7_copied_12 : decode cX7_copied 12 = .ok (.invokespecial 43, 3) := by decide +kernel
theorem dX7_copied_15 : decode cX7_copied 15 = .ok (.astore_n 1, 1) := by decide +kernel
theorem dX7_copied_16 : decode cX7_copied 16 = .ok (.aload_n 1, 1) := by decide +kernel
theorem dX7_copied_17 : decode cX7_copied 17 = .ok (.aload_n 0, 1) := by decide +kernel
theorem dX7_copied_18 : decode cX7_copied 18 = .ok (.getfield 9, 3) := by decide +kernel
theorem dX7_copied_21 : decode cX7_copied 21 = .ok (.putfield 9, 3) := by decide +kernel
theorem dX7_copied_24 : decode cX7_copied 24 = .ok (.aload_n 1, 1) := by decide +kernel
theorem dX7_copied_25 : decode cX7_copied 25 = .ok (.aload_n 0, 1) := by decide +kernel
theorem dX7_copied_26 : decode cX7_copied 26 = .ok (.getfield 15, 3) := by decide +kernel
theorem dX7_copied_29 : decode cX7_copied 29 = .ok (.putfield 15, 3) := by decide +kernel
theorem dX7_copied_32 : decode cX7_copied 32 = .ok (.aload_n 0, 1) := by decide +kernel
theorem dX7_copied_33 : decode cX7_copied 33 = .ok (.getfield 24, 3) := by decide +kernel
theorem dX7_copied_36 : decode cX7_copied 36 = .ok (.iconst 0, 1) := by decide +kernel
theorem dX7_copied_37 : decode cX7_copied 37 = .ok (.aload_n 1, 1) := by decide +kernel
theorem dX7_copied_38 : decode cX7_copied 38 = .ok (.getfield 24, 3) := by decide +kernel
theorem dX7_copied_41 : decode cX7_copied 41 = .ok (.iconst 0, 1) := by decide +kernel
theorem dX7_copied_42 : decode cX7_copied 42 = .ok (.aload_n 0, 1) := by decide +kernel
theorem dX7_copied_43 : decode cX7_copied 43 = .ok (.getfield 9, 3) := by decide +kernel
theorem dX7_copied_46 : decode cX7_copied 46 = .ok (.invokestatic 46, 3) := by decide +kernel
theorem dX7_copied_49 : decode cX7_copied 49 = .ok (.aload_n 0, 1) := by decide +kernel
theorem dX7_copied_50 : decode cX7_copied 50 = .ok (.getfield 28, 3) := by decide +kernel
theorem dX7_copied_53 : decode cX7_copied 53 = .ok (.iconst 0, 1) := by decide +kernel
theorem dX7_copied_54 : decode cX7_copied 54 = .ok (.aload_n 1, 1) := by decide +kernel
theorem dX7_copied_55 : decode cX7_copied 55 = .ok (.getfield 28, 3) := by decide +kernel
theorem dX7_copied_58 : decode cX7_copied 58 = .ok (.iconst 0, 1) := by decide +kernel
theorem dX7_copied_59 : decode cX7_copied 59 = .ok (.aload_n 0, 1) := by decide +kernel
theorem dX7_copied_60 : decode cX7_copied 60 = .ok (.getfield 9, 3) := by decide +kernel
theorem dX7_copied_63 : decode cX7_copied 63 = .ok (.invokestatic 46, 3) := by decide +kernel
theorem dX7_copied_66 : decode cX7_copied 66 = .ok (.aload_n 0, 1) := by decide +kernel
theorem dX7_copied_67 : decode cX7_copied 67 = .ok (.getfield 31, 3) := by decide +kernel
theorem dX7_copied_70 : decode cX7_copied 70 = .ok (.iconst 0, 1) := by decide +kernel
theorem dX7_copied_71 : decode cX7_copied 71 = .ok (.aload_n 1, 1) := by decide +kernel
theorem dX7_copied_72 : decode cX7_copied 72 = .ok (.getfield 31, 3) := by decide +kernel
theorem dX7_copied_75 : decode cX7_copied 75 = .ok (.iconst 0, 1) := by decide +kernel
theorem dX7_copied_76 : decode cX7_copied 76 = .ok (.aload_n 0, 1) := by decide +kernel
theorem dX7_copied_77 : decode cX7_copied 77 = .ok (.getfield 9, 3) := by decide +kernel
theorem dX7_copied_80 : decode cX7_copied 80 = .ok (.invokestatic 46, 3) := by decide +kernel
theorem dX7_copied_83 : decode cX7_copied 83 = .ok (.aload_n 0, 1) := by decide +kernel
theorem dX7_copied_84 : decode cX7_copied 84 = .ok (.getfield 34, 3) := by decide +kernel
theorem dX7_copied_87 : decode cX7_copied 87 = .ok (.iconst 0, 1) := by decide +kernel
theorem dX7_copied_88 : decode cX7_copied 88 = .ok (.aload_n 1, 1) := by decide +kernel
theorem dX7_copied_89 : decode cX7_copied 89 = .ok (.getfield 34, 3) := by decide +kernel
theorem dX7_copied_92 : decode cX7_copied 92 = .ok (.iconst 0, 1) := by decide +kernel
theorem dX7_copied_93 : decode cX7_copied 93 = .ok (.aload_n 0, 1) := by decide +kernel
theorem dX7_copied_94 : decode cX7_copied 94 = .ok (.getfield 9, 3) := by decide +kernel
theorem dX7_copied_97 : decode cX7_copied 97 = .ok (.invokestatic 46, 3) := by decide +kernel
theorem dX7_copied_100 : decode cX7_copied 100 = .ok (.aload_n 0, 1) := by decide +kernel
theorem dX7_copied_101 : decode cX7_copied 101 = .ok (.getfield 37, 3) := by decide +kernel
theorem dX7_copied_104 : decode cX7_copied 104 = .ok (.iconst 0, 1) := by decide +kernel
theorem dX7_copied_105 : decode cX7_copied 105 = .ok (.aload_n 1, 1) := by decide +kernel
theorem dX7_copied_106 : decode cX7_copied 106 = .ok (.getfield 37, 3) := by decide +kernel
theorem dX7_copied_109 : decode cX7_copied 109 = .ok (.iconst 0, 1) := by decide +kernel
theorem dX7_copied_110 : decode cX7_copied 110 = .ok (.aload_n 0, 1) := by decide +kernel
theorem dX7_copied_111 : decode cX7_copied 111 = .ok (.getfield 9, 3) := by decide +kernel
theorem dX7_copied_114 : decode cX7_copied 114 = .ok (.invokestatic 46, 3) := by decide +kernel
theorem dX7_copied_117 : decode cX7_copied 117 = .ok (.aload_n 0, 1) := by decide +kernel
theorem dX7_copied_118 : decode cX7_copied 118 = .ok (.getfield 40, 3) := by decide +kernel
theorem dX7_copied_121 : decode cX7_copied 121 = .ok (.iconst 0, 1) := by decide +kernel
theorem dX7_copied_122 : decode cX7_copied 122 = .ok (.aload_n 1, 1) := by decide +kernel
theorem dX7_copied_123 : decode cX7_copied 123 = .ok (.getfield 40, 3) := by decide +kernel
theorem dX7_copied_126 : decode cX7_copied 126 = .ok (.iconst 0, 1) := by decide +kernel
theorem dX7_copied_127 : decode cX7_copied 127 = .ok (.aload_n 0, 1) := by decide +kernel
theorem dX7_copied_128 : decode cX7_copied 128 = .ok (.getfield 15, 3) := by decide +kernel
theorem dX7_copied_131 : decode cX7_copied 131 = .ok (.invokestatic 46, 3) := by decide +kernel
theorem dX7_copied_134 : decode cX7_copied 134 = .ok (.aload_n 1, 1) := by decide +kernel
theorem dX7_copied_135 : decode cX7_copied 135 = .ok (.areturn, 1) := by decide +kernel
theorem dX8_init_0 : decode cX8_init 0 = .ok (.aload_n 0, 1) := by decide +kernel
theorem dX8_init_1 : decode cX8_init 1 = .ok (.invokespecial 3, 3) := by decide +kernel
theorem dX8_init_4 : decode cX8_init 4 = .ok (.aload_n 0, 1) := by decide +kernel
theorem dX8_init_5 : decode cX8_init 5 = .ok (.bipush 16, 2) := by decide +kernel
theorem dX8_init_7 : decode cX8_init 7 = .ok (.anewarray 9, 3) := by decide +kernel
theorem dX8_init_10 : decode cX8_init 10 = .ok (.putfield 11, 3) := by decide +kernel
theorem dX8_init_13 : decode cX8_init 13 = .ok (.aload_n 0, 1) := by decide +kernel
theorem dX8_init_14 : decode cX8_init 14 = .ok (.bipush 16, 2) := by decide +kernel
theorem dX8_init_16 : decode cX8_init 16 = .ok (.newarray .int, 2) := by decide +kernel
theorem dX8_init_18 : decode cX8_init 18 = .ok (.putfield 17, 3) := by decide +kernel
theorem dX8_init_21 : decode cX8_init 21 = .ok (.aload_n 0, 1) := by decide +kernel
theorem dX8_init_22 : decode cX8_init 22 = .ok (.iconst 0, 1) := by decide +kernel
theorem dX8_init_23 : decode cX8_init 23 = .ok (.putfield 21, 3) := by decide +kernel
theorem dX8_init_26 : decode cX8_init 26 = .ok (.aload_n 0, 1) := by decide +kernel
theorem dX8_init_27 : decode cX8_init 27 = .ok (.iconst 0, 1) := by decide +kernel
theorem dX8_init_28 : decode cX8_init 28 = .ok (.putfield 25, 3) := by decide +kernel
theorem dX8_init_31 : decode cX8_init 31 = .ok (.return_, 1) := by decide +kernel
theorem dX8_forget_0 : decode cX8_forget 0 = .ok (.aload_n 0, 1) := by decide +kernel
theorem dX8_forget_1 : decode cX8_forget 1 = .ok (.iconst 0, 1) := by decide +kernel
theorem dX8_forget_2 : decode cX8_forget 2 = .ok (.putfield 21, 3) := by decide +kernel
theorem dX8_forget_5 : decode cX8_forget 5 = .ok (.aload_n 0, 1) := by decide +kernel
theorem dX8_forget_6 : decode cX8_forget 6 = .ok (.iconst 0, 1) := by decide +kernel
theorem dX8_forget_7 : decode cX8_forget 7 = .ok (.putfield 25, 3) := by decide +kernel
theorem dX8_forget_10 : decode cX8_forget 10 = .ok (.return_, 1) := by decide +kernel
theorem dX8_keep_0 : decode cX8_keep 0 = .ok (.aload_n 0, 1) := by decide +kernel
theorem dX8_keep_1 : decode cX8_keep 1 = .ok (.getfield 21, 3) := by decide +kernel
theorem dX8_keep_4 : decode cX8_keep 4 = .ok (.aload_n 0, 1) := by decide +kernel
theorem dX8_keep_5 : decode cX8_keep 5 = .ok (.getfield 25, 3) := by decide +kernel
theorem dX8_keep_8 : decode cX8_keep 8 = .ok (.iadd, 1) := by decide +kernel
theorem dX8_keep_9 : decode cX8_keep 9 = .ok (.bipush 16, 2) := by decide +kernel
theorem dX8_keep_11 : decode cX8_keep 11 = .ok (.irem, 1) := by decide +kernel
theorem dX8_keep_12 : decode cX8_keep 12 = .ok (.istore_n 3, 1) := by decide +kernel
theorem dX8_keep_13 : decode cX8_keep 13 = .ok (.aload_n 0, 1) := by decide +kernel
theorem dX8_keep_14 : decode cX8_keep 14 = .ok (.getfield 11, 3) := by decide +kernel
theorem dX8_keep_17 : decode cX8_keep 17 = .ok (.iload_n 3, 1) := by decide +kernel
theorem dX8_keep_18 : decode cX8_keep 18 = .ok (.aaload, 1) := by decide +kernel
theorem dX8_keep_19 : decode cX8_keep 19 = .ok (.ifnonnull 20, 3) := by decide +kernel
theorem dX8_keep_22 : decode cX8_keep 22 = .ok (.aload_n 0, 1) := by decide +kernel
theorem dX8_keep_23 : decode cX8_keep 23 = .ok (.getfield 11, 3) := by decide +kernel
theorem dX8_keep_26 : decode cX8_keep 26 = .ok (.iload_n 3, 1) := by decide +kernel
theorem dX8_keep_27 : decode cX8_keep 27 = .ok (.new 9, 3) := by decide +kernel
theorem dX8_keep_30 : decode cX8_keep 30 = .ok (.dup, 1) := by decide +kernel
theorem dX8_keep_31 : decode cX8_keep 31 = .ok (.aload_n 1, 1) := by decide +kernel
theorem dX8_keep_32 : decode cX8_keep 32 = .ok (.getfield 28, 3) := by decide +kernel
theorem dX8_keep_35 : decode cX8_keep 35 = .ok (.invokespecial 32, 3) := by decide +kernel
theorem dX8_keep_38 : decode cX8_keep 38 = .ok (.aastore, 1) := by decide +kernel
theorem dX8_keep_39 : decode cX8_keep 39 = .ok (.aload_n 0, 1) := by decide +kernel
theorem dX8_keep_40 : decode cX8_keep 40 = .ok (.getfield 11, 3) := by decide +kernel
theorem dX8_keep_43 : decode cX8_keep 43 = .ok (.iload_n 3, 1) := by decide +kernel
theorem dX8_keep_44 : decode cX8_keep 44 = .ok (.aaload, 1) := by decide +kernel
theorem dX8_keep_45 : decode cX8_keep 45 = .ok (.aload_n 1, 1) := by decide +kernel
theorem dX8_keep_46 : decode cX8_keep 46 = .ok (.invokevirtual 35, 3) := by decide +kernel
theorem dX8_keep_49 : decode cX8_keep 49 = .ok (.aload_n 0, 1) := by decide +kernel
theorem dX8_keep_50 : decode cX8_keep 50 = .ok (.getfield 17, 3) := by decide +kernel
theorem dX8_keep_53 : decode cX8_keep 53 = .ok (.iload_n 3, 1) := by decide +kernel
theorem dX8_keep_54 : decode cX8_keep 54 = .ok (.iload_n 2, 1) := by decide +kernel
theorem dX8_keep_55 : decode cX8_keep 55 = .ok (.iastore, 1) := by decide +kernel
theorem dX8_keep_56 : decode cX8_keep 56 = .ok (.aload_n 0, 1) := by decide +kernel
theorem dX8_keep_57 : decode cX8_keep 57 = .ok (.getfield 25, 3) := by decide +kernel
theorem dX8_keep_60 : decode cX8_keep 60 = .ok (.bipush 16, 2) := by decide +kernel
theorem dX8_keep_62 : decode cX8_keep 62 = .ok (.if_icmp .ge 16, 3) := by decide +kernel
theorem dX8_keep_65 : decode cX8_keep 65 = .ok (.aload_n 0, 1) := by decide +kernel
theorem dX8_keep_66 : decode cX8_keep 66 = .ok (.dup, 1) := by decide +kernel
theorem dX8_keep_67 : decode cX8_keep 67 = .ok (.getfield 25, 3) := by decide +kernel
theorem dX8_keep_70 : decode cX8_keep 70 = .ok (.iconst 1, 1) := by decide +kernel
theorem dX8_keep_71 : decode cX8_keep 71 = .ok (.iadd, 1) := by decide +kernel
theorem dX8_keep_72 : decode cX8_keep 72 = .ok (.putfield 25, 3) := by decide +kernel
theorem dX8_keep_75 : decode cX8_keep 75 = .ok (.goto 16, 3) := by decide +kernel
theorem dX8_keep_78 : decode cX8_keep 78 = .ok (.aload_n 0, 1) := by decide +kernel
theorem dX8_keep_79 : decode cX8_keep 79 = .ok (.aload_n 0, 1) := by decide +kernel
theorem dX8_keep_80 : decode cX8_keep 80 = .ok (.getfield 21, 3) := by decide +kernel
theorem dX8_keep_83 : decode cX8_keep 83 = .ok (.iconst 1, 1) := by decide +kernel
theorem dX8_keep_84 : decode cX8_keep 84 = .ok (.iadd, 1) := by decide +kernel
theorem dX8_keep_85 : decode cX8_keep 85 = .ok (.bipush 16, 2) := by decide +kernel
theorem dX8_keep_87 : decode cX8_keep 87 = .ok (.irem, 1) := by decide +kernel
theorem dX8_keep_88 : decode cX8_keep 88 = .ok (.putfield 21, 3) := by decide +kernel
theorem dX8_keep_91 : decode cX8_keep 91 = .ok (.return_, 1) := by decide +kernel
theorem dX8_addAll_0 : decode cX8_addAll 0 = .ok (.iconst 0, 1) := by decide +kernel
theorem dX8_addAll_1 : decode cX8_addAll 1 = .ok (.istore_n 2, 1) := by decide +kernel
theorem dX8_addAll_2 : decode cX8_addAll 2 = .ok (.iload_n 2, 1) := by decide +kernel
theorem dX8_addAll_3 : decode cX8_addAll 3 = .ok (.aload_n 1, 1) := by decide +kernel
theorem dX8_addAll_4 : decode cX8_addAll 4 = .ok (.getfield 25, 3) := by decide +kernel
theorem dX8_addAll_7 : decode cX8_addAll 7 = .ok (.if_icmp .ge 44, 3) := by decide +kernel
theorem dX8_addAll_10 : decode cX8_addAll 10 = .ok (.aload_n 1, 1) := by decide +kernel
theorem dX8_addAll_11 : decode cX8_addAll 11 = .ok (.getfield 21, 3) := by decide +kernel
theorem dX8_addAll_14 : decode cX8_addAll 14 = .ok (.iload_n 2, 1) := by decide +kernel
theorem dX8_addAll_15 : decode cX8_addAll 15 = .ok (.iadd, 1) := by decide +kernel
theorem dX8_addAll_16 : decode cX8_addAll 16 = .ok (.bipush 16, 2) := by decide +kernel
theorem dX8_addAll_18 : decode cX8_addAll 18 = .ok (.irem, 1) := by decide +kernel
theorem dX8_addAll_19 : decode cX8_addAll 19 = .ok (.istore_n 3, 1) := by decide +kernel
theorem dX8_addAll_20 : decode cX8_addAll 20 = .ok (.aload_n 1, 1) := by decide +kernel
theorem dX8_addAll_21 : decode cX8_addAll 21 = .ok (.getfield 11, 3) := by decide +kernel
theorem dX8_addAll_24 : decode cX8_addAll 24 = .ok (.iload_n 3, 1) := by decide +kernel
theorem dX8_addAll_25 : decode cX8_addAll 25 = .ok (.aaload, 1) := by decide +kernel
theorem dX8_addAll_26 : decode cX8_addAll 26 = .ok (.ifnull 19, 3) := by decide +kernel
theorem dX8_addAll_29 : decode cX8_addAll 29 = .ok (.aload_n 0, 1) := by decide +kernel
theorem dX8_addAll_30 : decode cX8_addAll 30 = .ok (.aload_n 1, 1) := by decide +kernel
theorem dX8_addAll_31 : decode cX8_addAll 31 = .ok (.getfield 11, 3) := by decide +kernel
theorem dX8_addAll_34 : decode cX8_addAll 34 = .ok (.iload_n 3, 1) := by decide +kernel
theorem dX8_addAll_35 : decode cX8_addAll 35 = .ok (.aaload, 1) := by decide +kernel
theorem dX8_addAll_36 : decode cX8_addAll 36 = .ok (.aload_n 1, 1) := by decide +kernel
theorem dX8_addAll_37 : decode cX8_addAll 37 = .ok (.getfield 17, 3) := by decide +kernel
theorem dX8_addAll_40 : decode cX8_addAll 40 = .ok (.iload_n 3, 1) := by decide +kernel
theorem dX8_addAll_41 : decode cX8_addAll 41 = .ok (.iaload, 1) := by decide +kernel
theorem dX8_addAll_42 : decode cX8_addAll 42 = .ok (.invokevirtual 39, 3) := by decide +kernel
theorem dX8_addAll_45 : decode cX8_addAll 45 = .ok (.iinc 2 1, 3) := by decide +kernel
theorem dX8_addAll_48 : decode cX8_addAll 48 = .ok (.goto (-46), 3) := by decide +kernel
theorem dX8_addAll_51 : decode cX8_addAll 51 = .ok (.return_, 1) := by decide +kernel
theorem dX8_takeBack_0 : decode cX8_takeBack 0 = .ok (.aload_n 0, 1) := by decide +kernel
theorem dX8_takeBack_1 : decode cX8_takeBack 1 = .ok (.getfield 25, 3) := by decide +kernel
theorem dX8_takeBack_4 : decode cX8_takeBack 4 = .ok (.ifCond .gt 5, 3) := by decide +kernel
theorem dX8_takeBack_7 : decode cX8_takeBack 7 = .ok (.iconst (-1), 1) := by decide +kernel
theorem dX8_takeBack_8 : decode cX8_takeBack 8 = .ok (.ireturn, 1) := by decide +kernel
theorem dX8_takeBack_9 : decode cX8_takeBack 9 = .ok (.aload_n 0, 1) := by decide +kernel
theorem dX8_takeBack_10 : decode cX8_takeBack 10 = .ok (.dup, 1) := by decide +kernel
theorem dX8_takeBack_11 : decode cX8_takeBack 11 = .ok (.getfield 25, 3) := by decide +kernel
theorem dX8_takeBack_14 : decode cX8_takeBack 14 = .ok (.iconst 1, 1) := by decide +kernel
theorem dX8_takeBack_15 : decode cX8_takeBack 15 = .ok (.isub, 1) := by decide +kernel
theorem dX8_takeBack_16 : decode cX8_takeBack 16 = .ok (.putfield 25, 3) := by decide +kernel
theorem dX8_takeBack_19 : decode cX8_takeBack 19 = .ok (.aload_n 0, 1) := by decide +kernel
theorem dX8_takeBack_20 : decode cX8_takeBack 20 = .ok (.getfield 21, 3) := by decide +kernel
theorem dX8_takeBack_23 : decode cX8_takeBack 23 = .ok (.aload_n 0, 1) := by decide +kernel
theorem dX8_takeBack_24 : decode cX8_takeBack 24 = .ok (.getfield 25, 3) := by decide +kernel
theorem dX8_takeBack_27 : decode cX8_takeBack 27 = .ok (.iadd, 1) := by decide +kernel
theorem dX8_takeBack_28 : decode cX8_takeBack 28 = .ok (.bipush 16, 2) := by decide +kernel
theorem dX8_takeBack_30 : decode cX8_takeBack 30 = .ok (.irem, 1) := by decide +kernel
theorem dX8_takeBack_31 : decode cX8_takeBack 31 = .ok (.istore_n 2, 1) := by decide +kernel
theorem dX8_takeBack_32 : decode cX8_takeBack 32 = .ok (.aload_n 0, 1) := by decide +kernel
theorem dX8_takeBack_33 : decode cX8_takeBack 33 = .ok (.getfield 11, 3) := by decide +kernel
theorem dX8_takeBack_36 : decode cX8_takeBack 36 = .ok (.iload_n 2, 1) := by decide +kernel
theorem dX8_takeBack_37 : decode cX8_takeBack 37 = .ok (.aaload, 1) := by decide +kernel
theorem dX8_takeBack_38 : decode cX8_takeBack 38 = .ok (.ifnull 13, 3) := by decide +kernel
theorem dX8_takeBack_41 : decode cX8_takeBack 41 = .ok (.aload_n 1, 1) := by decide +kernel
theorem dX8_takeBack_42 : decode cX8_takeBack 42 = .ok (.aload_n 0, 1) := by decide +kernel
theorem dX8_takeBack_43 : decode cX8_takeBack 43 = .ok (.getfield 11, 3) := by decide +kernel
theorem dX8_takeBack_46 : decode cX8_takeBack 46 = .ok (.iload_n 2, 1) := by decide +kernel
theorem dX8_takeBack_47 : decode cX8_takeBack 47 = .ok (.aaload, 1) := by decide +kernel
theorem dX8_takeBack_48 : decode cX8_takeBack 48 = .ok (.invokevirtual 35, 3) := by decide +kernel
theorem dX8_takeBack_51 : decode cX8_takeBack 51 = .ok (.aload_n 0, 1) := by decide +kernel
theorem dX8_takeBack_52 : decode cX8_takeBack 52 = .ok (.getfield 17, 3) := by decide +kernel
theorem dX8_takeBack_55 : decode cX8_takeBack 55 = .ok (.iload_n 2, 1) := by decide +kernel
theorem dX8_takeBack_56 : decode cX8_takeBack 56 = .ok (.iaload, 1) := by decide +kernel
theorem dX8_takeBack_57 : decode cX8_takeBack 57 = .ok (.ireturn, 1) := by decide +kernel
theorem dX9_init_0 : decode cX9_init 0 = .ok (.aload_n 0, 1) := by decide +kernel
theorem dX9_init_1 : decode cX9_init 1 = .ok (.invokespecial 3, 3) := by decide +kernel
theorem dX9_init_4 : decode cX9_init 4 = .ok (.aload_n 0, 1) := by decide +kernel
theorem dX9_init_5 : decode cX9_init 5 = .ok (.new 9, 3) := by decide +kernel
theorem dX9_init_8 : decode cX9_init 8 = .ok (.dup, 1) := by decide +kernel
theorem dX9_init_9 : decode cX9_init 9 = .ok (.invokespecial 11, 3) := by decide +kernel
theorem dX9_init_12 : decode cX9_init 12 = .ok (.putfield 12, 3) := by decide +kernel
theorem dX9_init_15 : decode cX9_init 15 = .ok (.aload_n 0, 1) := by decide +kernel
theorem dX9_init_16 : decode cX9_init 16 = .ok (.new 16, 3) := by decide +kernel
theorem dX9_init_19 : decode cX9_init 19 = .ok (.dup, 1) := by decide +kernel
theorem dX9_init_20 : decode cX9_init 20 = .ok (.aload_n 0, 1) := by decide +kernel
theorem dX9_init_21 : decode cX9_init 21 = .ok (.getfield 12, 3) := by decide +kernel
theorem dX9_init_24 : decode cX9_init 24 = .ok (.invokespecial 18, 3) := by decide +kernel
theorem dX9_init_27 : decode cX9_init 27 = .ok (.putfield 21, 3) := by decide +kernel
theorem dX9_init_30 : decode cX9_init 30 = .ok (.aload_n 0, 1) := by decide +kernel
theorem dX9_init_31 : decode cX9_init 31 = .ok (.new 25, 3) := by decide +kernel
theorem dX9_init_34 : decode cX9_init 34 = .ok (.dup, 1) := by decide +kernel
theorem dX9_init_35 : decode cX9_init 35 = .ok (.invokespecial 27, 3) := by decide +kernel
theorem dX9_init_38 : decode cX9_init 38 = .ok (.putfield 28, 3) := by decide +kernel
theorem dX9_init_41 : decode cX9_init 41 = .ok (.aload_n 0, 1) := by decide +kernel
theorem dX9_init_42 : decode cX9_init 42 = .ok (.new 25, 3) := by decide +kernel
theorem dX9_init_45 : decode cX9_init 45 = .ok (.dup, 1) := by decide +kernel
theorem dX9_init_46 : decode cX9_init 46 = .ok (.invokespecial 27, 3) := by decide +kernel
theorem dX9_init_49 : decode cX9_init 49 = .ok (.putfield 32, 3) := by decide +kernel
theorem dX9_init_52 : decode cX9_init 52 = .ok (.aload_n 0, 1) := by decide +kernel
theorem dX9_init_53 : decode cX9_init 53 = .ok (.new 16, 3) := by decide +kernel
theorem dX9_init_56 : decode cX9_init 56 = .ok (.dup, 1) := by decide +kernel
theorem dX9_init_57 : decode cX9_init 57 = .ok (.aload_n 0, 1) := by decide +kernel
theorem dX9_init_58 : decode cX9_init 58 = .ok (.getfield 12, 3) := by decide +kernel
theorem dX9_init_61 : decode cX9_init 61 = .ok (.invokespecial 18, 3) := by decide +kernel
theorem dX9_init_64 : decode cX9_init 64 = .ok (.putfield 35, 3) := by decide +kernel
theorem dX9_init_67 : decode cX9_init 67 = .ok (.aload_n 0, 1) := by decide +kernel
theorem dX9_init_68 : decode cX9_init 68 = .ok (.new 16, 3) := by decide +kernel
theorem dX9_init_71 : decode cX9_init 71 = .ok (.dup, 1) := by decide +kernel
theorem dX9_init_72 : decode cX9_init 72 = .ok (.aload_n 0, 1) := by decide +kernel
theorem dX9_init_73 : decode cX9_init 73 = .ok (.getfield 12, 3) := by decide +kernel
theorem dX9_init_76 : decode cX9_init 76 = .ok (.invokespecial 18, 3) := by decide +kernel
theorem dX9_init_79 : decode cX9_init 79 = .ok (.putfield 38, 3) := by decide +kernel
theorem dX9_init_82 : decode cX9_init 82 = .ok (.aload_n 0, 1) := by decide +kernel
theorem dX9_init_83 : decode cX9_init 83 = .ok (.new 41, 3) := by decide +kernel
theorem dX9_init_86 : decode cX9_init 86 = .ok (.dup, 1) := by decide +kernel
theorem dX9_init_87 : decode cX9_init 87 = .ok (.invokespecial 43, 3) := by decide +kernel
theorem dX9_init_90 : decode cX9_init 90 = .ok (.putfield 44, 3) := by decide +kernel
theorem dX9_init_93 : decode cX9_init 93 = .ok (.aload_n 0, 1) := by decide +kernel
theorem dX9_init_94 : decode cX9_init 94 = .ok (.new 48, 3) := by decide +kernel
theorem dX9_init_97 : decode cX9_init 97 = .ok (.dup, 1) := by decide +kernel
theorem dX9_init_98 : decode cX9_init 98 = .ok (.aload_n 0, 1) := by decide +kernel
theorem dX9_init_99 : decode cX9_init 99 = .ok (.getfield 44, 3) := by decide +kernel
theorem dX9_init_102 : decode cX9_init 102 = .ok (.invokespecial 50, 3) := by decide +kernel
theorem dX9_init_105 : decode cX9_init 105 = .ok (.putfield 53, 3) := by decide +kernel
theorem dX9_init_108 : decode cX9_init 108 = .ok (.aload_n 0, 1) := by decide +kernel
theorem dX9_init_109 : decode cX9_init 109 = .ok (.new 57, 3) := by decide +kernel
theorem dX9_init_112 : decode cX9_init 112 = .ok (.dup, 1) := by decide +kernel
theorem dX9_init_113 : decode cX9_init 113 = .ok (.aload_n 0, 1) := by decide +kernel
theorem dX9_init_114 : decode cX9_init 114 = .ok (.getfield 21, 3) := by decide +kernel
theorem dX9_init_117 : decode cX9_init 117 = .ok (.invokespecial 59, 3) := by decide +kernel
theorem dX9_init_120 : decode cX9_init 120 = .ok (.putfield 62, 3) := by decide +kernel
theorem dX9_init_123 : decode cX9_init 123 = .ok (.aload_n 0, 1) := by decide +kernel
theorem dX9_init_124 : decode cX9_init 124 = .ok (.iconst 2, 1) := by decide +kernel
theorem dX9_init_125 : decode cX9_init 125 = .ok (.anewarray 66, 3) := by decide +kernel
theorem dX9_init_128 : decode cX9_init 128 = .ok (.putfield 68, 3) := by decide +kernel
theorem dX9_init_131 : decode cX9_init 131 = .ok (.aload_n 0, 1) := by decide +kernel
theorem dX9_init_132 : decode cX9_init 132 = .ok (.bipush 24, 2) := by decide +kernel
theorem dX9_init_134 : decode cX9_init 134 = .ok (.newarray .int, 2) := by decide +kernel
theorem dX9_init_136 : decode cX9_init 136 = .ok (.putfield 72, 3) := by decide +kernel
theorem dX9_init_139 : decode cX9_init 139 = .ok (.aload_n 0, 1) := by decide +kernel
theorem dX9_init_140 : decode cX9_init 140 = .ok (.bipush 7, 2) := by decide +kernel
theorem dX9_init_142 : decode cX9_init 142 = .ok (.newarray .int, 2) := by decide +kernel
theorem dX9_init_144 : decode cX9_init 144 = .ok (.putfield 76, 3) := by decide +kernel
theorem dX9_init_147 : decode cX9_init 147 = .ok (.aload_n 0, 1) := by decide +kernel
theorem dX9_init_148 : decode cX9_init 148 = .ok (.iconst 0, 1) := by decide +kernel
theorem dX9_init_149 : decode cX9_init 149 = .ok (.putfield 79, 3) := by decide +kernel
theorem dX9_init_152 : decode cX9_init 152 = .ok (.aload_n 0, 1) := by decide +kernel
theorem dX9_init_153 : decode cX9_init 153 = .ok (.iconst (-1), 1) := by decide +kernel
theorem dX9_init_154 : decode cX9_init 154 = .ok (.putfield 83, 3) := by decide +kernel
theorem dX9_init_157 : decode cX9_init 157 = .ok (.aload_n 0, 1) := by decide +kernel
theorem dX9_init_158 : decode cX9_init 158 = .ok (.iconst 0, 1) := by decide +kernel
theorem dX9_init_159 : decode cX9_init 159 = .ok (.putfield 86, 3) := by decide +kernel
theorem dX9_init_162 : decode cX9_init 162 = .ok (.return_, 1) := by decide +kernel
theorem dX9_refuse_0 : decode cX9_refuse 0 = .ok (.aload_n 0, 1) := by decide +kernel
theorem dX9_refuse_1 : decode cX9_refuse 1 = .ok (.iload_n 1, 1) := by decide +kernel
theorem dX9_refuse_2 : decode cX9_refuse 2 = .ok (.putfield 86, 3) := by decide +kernel
theorem dX9_refuse_5 : decode cX9_refuse 5 = .ok (.iload_n 1, 1) := by decide +kernel
theorem dX9_refuse_6 : decode cX9_refuse 6 = .ok (.ifCond .ge 20, 3) := by decide +kernel
theorem dX9_refuse_9 : decode cX9_refuse 9 = .ok (.iload_n 1, 1) := by decide +kernel
theorem dX9_refuse_10 : decode cX9_refuse 10 = .ok (.bipush (-6), 2) := by decide +kernel
theorem dX9_refuse_12 : decode cX9_refuse 12 = .ok (.if_icmp .lt 14, 3) := by decide +kernel
theorem dX9_refuse_15 : decode cX9_refuse 15 = .ok (.aload_n 0, 1) := by decide +kernel
theorem dX9_refuse_16 : decode cX9_refuse 16 = .ok (.getfield 76, 3) := by decide +kernel
theorem dX9_refuse_19 : decode cX9_refuse 19 = .ok (.iload_n 1, 1) := by decide +kernel
theorem dX9_refuse_20 : decode cX9_refuse 20 = .ok (.ineg, 1) := by decide +kernel
theorem dX9_refuse_21 : decode cX9_refuse 21 = .ok (.dup2, 1) := by decide +kernel
theorem dX9_refuse_22 : decode cX9_refuse 22 = .ok (.iaload, 1) := by decide +kernel
theorem dX9_refuse_23 : decode cX9_refuse 23 = .ok (.iconst 1, 1) := by decide +kernel
theorem dX9_refuse_24 : decode cX9_refuse 24 = .ok (.iadd, 1) := by decide +kernel
theorem dX9_refuse_25 : decode cX9_refuse 25 = .ok (.iastore, 1) := by decide +kernel
theorem dX9_refuse_26 : decode cX9_refuse 26 = .ok (.iload_n 1, 1) := by decide +kernel
theorem dX9_refuse_27 : decode cX9_refuse 27 = .ok (.ireturn, 1) := by decide +kernel
theorem dX9_grant_0 : decode cX9_grant 0 = .ok (.aload_n 0, 1) := by decide +kernel
theorem dX9_grant_1 : decode cX9_grant 1 = .ok (.iconst 0, 1) := by decide +kernel
theorem dX9_grant_2 : decode cX9_grant 2 = .ok (.putfield 86, 3) := by decide +kernel
theorem dX9_grant_5 : decode cX9_grant 5 = .ok (.iload_n 1, 1) := by decide +kernel
theorem dX9_grant_6 : decode cX9_grant 6 = .ok (.ireturn, 1) := by decide +kernel
theorem dX9_answered_0 : decode cX9_answered 0 = .ok (.iload_n 1, 1) := by decide +kernel
theorem dX9_answered_1 : decode cX9_answered 1 = .ok (.ifCond .ge 11, 3) := by decide +kernel
theorem dX9_answered_4 : decode cX9_answered 4 = .ok (.aload_n 0, 1) := by decide +kernel
theorem dX9_answered_5 : decode cX9_answered 5 = .ok (.iload_n 1, 1) := by decide +kernel
theorem dX9_answered_6 : decode cX9_answered 6 = .ok (.invokevirtual 89, 3) := by decide +kernel
theorem dX9_answered_9 : decode cX9_answered 9 = .ok (.goto 8, 3) := by decide +kernel
theorem dX9_answered_12 : decode cX9_answered 12 = .ok (.aload_n 0, 1) := by decide +kernel
theorem dX9_answered_13 : decode cX9_answered 13 = .ok (.iload_n 1, 1) := by decide +kernel
theorem dX9_answered_14 : decode cX9_answered 14 = .ok (.invokevirtual 93, 3) := by decide +kernel
theorem dX9_answered_17 : decode cX9_answered 17 = .ok (.ireturn, 1) := by decide +kernel
theorem dX9_within_0 : decode cX9_within 0 = .ok (.iload_n 0, 1) := by decide +kernel
theorem dX9_within_1 : decode cX9_within 1 = .ok (.iload_n 1, 1) := by decide +kernel
theorem dX9_within_2 : decode cX9_within 2 = .ok (.if_icmp .lt 12, 3) := by decide +kernel
theorem dX9_within_5 : decode cX9_within 5 = .ok (.iload_n 0, 1) := by decide +kernel
theorem dX9_within_6 : decode cX9_within 6 = .ok (.iload_n 2, 1) := by decide +kernel
theorem dX9_within_7 : decode cX9_within 7 = .ok (.if_icmp .gt 7, 3) := by decide +kernel
theorem dX9_within_10 : decode cX9_within 10 = .ok (.iconst 1, 1) := by decide +kernel
theorem dX9_within_11 : decode cX9_within 11 = .ok (.goto 4, 3) := by decide +kernel
theorem dX9_within_14 : decode cX9_within 14 = .ok (.iconst 0, 1) := by decide +kernel
theorem dX9_within_15 : decode cX9_within 15 = .ok (.ireturn, 1) := by decide +kernel
theorem dX9_bookCanBe_0 : decode cX9_bookCanBe 0 = .ok (.iload_n 0, 1) := by decide +kernel
theorem dX9_bookCanBe_1 : decode cX9_bookCanBe 1 = .ok (.iconst 1, 1) := by decide +kernel
theorem dX9_bookCanBe_2 : decode cX9_bookCanBe 2 = .ok (.bipush 9, 2) := by decide +kernel
theorem dX9_bookCanBe_4 : decode cX9_bookCanBe 4 = .ok (.invokestatic 96, 3) := by decide +kernel
theorem dX9_bookCanBe_7 : decode cX9_bookCanBe 7 = .ok (.ifCond .eq 38, 3) := by decide +kernel
theorem dX9_bookCanBe_10 : decode cX9_bookCanBe 10 = .ok (.iload_n 1, 1) := by decide +kernel
theorem dX9_bookCanBe_11 : decode cX9_bookCanBe 11 = .ok (.iconst 0, 1) := by decide +kernel
theorem dX9_bookCanBe_12 : decode cX9_bookCanBe 12 = .ok (.bipush 63, 2) := by decide +kernel
theorem dX9_bookCanBe_14 : decode cX9_bookCanBe 14 = .ok (.invokestatic 96, 3) := by decide +kernel
theorem dX9_bookCanBe_17 : decode cX9_bookCanBe 17 = .ok (.ifCond .eq 28, 3) := by decide +kernel
theorem dX9_bookCanBe_20 : decode cX9_bookCanBe 20 = .ok (.iload_n 2, 1) := by decide +kernel
theorem dX9_bookCanBe_21 : decode cX9_bookCanBe 21 = .ok (.iconst 0, 1) := by decide +kernel
theorem dX9_bookCanBe_22 : decode cX9_bookCanBe 22 = .ok (.bipush 63, 2) := by decide +kernel
theorem dX9_bookCanBe_24 : decode cX9_bookCanBe 24 = .ok (.invokestatic 96, 3) := by decide +kernel
theorem dX9_bookCanBe_27 : decode cX9_bookCanBe 27 = .ok (.ifCond .eq 18, 3) := by decide +kernel
theorem dX9_bookCanBe_30 : decode cX9_bookCanBe 30 = .ok (.iload_n 3, 1) := by decide +kernel
theorem dX9_bookCanBe_31 : decode cX9_bookCanBe 31 = .ok (.iconst 0, 1) := by decide +kernel
theorem dX9_bookCanBe_32 : decode cX9_bookCanBe 32 = .ok (.sipush 999, 3) := by decide +kernel
theorem dX9_bookCanBe_35 : decode cX9_bookCanBe 35 = .ok (.invokestatic 96, 3) := by decide +kernel
theorem dX9_bookCanBe_38 : decode cX9_bookCanBe 38 = .ok (.ifCond .eq 7, 3) := by decide +kernel
theorem dX9_bookCanBe_41 : decode cX9_bookCanBe 41 = .ok (.iconst 1, 1) := by decide +kernel
theorem dX9_bookCanBe_42 : decode cX9_bookCanBe 42 = .ok (.goto 4, 3) := by decide +kernel
theorem dX9_bookCanBe_45 : decode cX9_bookCanBe 45 = .ok (.iconst 0, 1) := by decide +kernel
theorem dX9_bookCanBe_46 : decode cX9_bookCanBe 46 = .ok (.ireturn, 1) := by decide +kernel
theorem dX9_book_0 : decode cX9_book 0 = .ok (.iload_n 1, 1) := by decide +kernel
theorem dX9_book_1 : decode cX9_book 1 = .ok (.iload_n 2, 1) := by decide +kernel
theorem dX9_book_2 : decode cX9_book 2 = .ok (.iload_n 3, 1) := by decide +kernel
theorem dX9_book_3 : decode cX9_book 3 = .ok (.iload 4, 2) := by decide +kernel
theorem dX9_book_5 : decode cX9_book 5 = .ok (.invokestatic 100, 3) := by decide +kernel
theorem dX9_book_8 : decode cX9_book 8 = .ok (.ifCond .ne 9, 3) := by decide +kernel
theorem dX9_book_11 : decode cX9_book 11 = .ok (.aload_n 0, 1) := by decide +kernel
theorem dX9_book_12 : decode cX9_book 12 = .ok (.iconst (-1), 1) := by decide +kernel
theorem dX9_book_13 : decode cX9_book 13 = .ok (.invokevirtual 89, 3) := by decide +kernel
theorem dX9_book_16 : decode cX9_book 16 = .ok (.ireturn, 1) := by decide +kernel
theorem dX9_book_17 : decode cX9_book 17 = .ok (.aload_n 0, 1) := by decide +kernel
theorem dX9_book_18 : decode cX9_book 18 = .ok (.getfield 21, 3) := by decide +kernel
theorem dX9_book_21 : decode cX9_book 21 = .ok (.getfield 104, 3) := by decide +kernel
theorem dX9_book_24 : decode cX9_book 24 = .ok (.bipush 8, 2) := by decide +kernel
theorem dX9_book_26 : decode cX9_book 26 = .ok (.if_icmp .lt 10, 3) := by decide +kernel
theorem dX9_book_29 : decode cX9_book 29 = .ok (.aload_n 0, 1) := by decide +kernel
theorem dX9_book_30 : decode cX9_book 30 = .ok (.bipush (-5), 2) := by decide +kernel
theorem dX9_book_32 : decode cX9_book 32 = .ok (.invokevirtual 89, 3) := by decide +kernel
theorem dX9_book_35 : decode cX9_book 35 = .ok (.ireturn, 1) := by decide +kernel
theorem dX9_book_36 : decode cX9_book 36 = .ok (.aload_n 0, 1) := by decide +kernel
theorem dX9_book_37 : decode cX9_book 37 = .ok (.getfield 28, 3) := by decide +kernel
theorem dX9_book_40 : decode cX9_book 40 = .ok (.invokevirtual 107, 3) := by decide +kernel
theorem dX9_book_43 : decode cX9_book 43 = .ok (.aload_n 0, 1) := by decide +kernel
theorem dX9_book_44 : decode cX9_book 44 = .ok (.aload_n 0, 1) := by decide +kernel
theorem dX9_book_45 : decode cX9_book 45 = .ok (.getfield 21, 3) := by decide +kernel
theorem dX9_book_48 : decode cX9_book 48 = .ok (.iload_n 1, 1) := by decide +kernel
theorem dX9_book_49 : decode cX9_book 49 = .ok (.iload_n 2, 1) := by decide +kernel
theorem dX9_book_50 : decode cX9_book 50 = .ok (.iload_n 3, 1) := by decide +kernel
theorem dX9_book_51 : decode cX9_book 51 = .ok (.iload 4, 2) := by decide +kernel
theorem dX9_book_53 : decode cX9_book 53 = .ok (.invokevirtual 110, 3) := by decide +kernel
theorem dX9_book_56 : decode cX9_book 56 = .ok (.invokevirtual 93, 3) := by decide +kernel
theorem dX9_book_59 : decode cX9_book 59 = .ok (.ireturn, 1) := by decide +kernel
theorem dX9_of_0 : decode cX9_of 0 = .ok (.aload_n 0, 1) := by decide +kernel
theorem dX9_of_1 : decode cX9_of 1 = .ok (.getfield 21, 3) := by decide +kernel
theorem dX9_of_4 : decode cX9_of 4 = .ok (.iload_n 1, 1) := by decide +kernel
theorem dX9_of_5 : decode cX9_of 5 = .ok (.invokevirtual 114, 3) := by decide +kernel
theorem dX9_of_8 : decode cX9_of 8 = .ok (.ifCond .ne 5, 3) := by decide +kernel
theorem dX9_of_11 : decode cX9_of 11 = .ok (.iconst (-1), 1) := by decide +kernel
theorem dX9_of_12 : decode cX9_of 12 = .ok (.ireturn, 1) := by decide +kernel
theorem dX9_of_13 : decode cX9_of 13 = .ok (.iload_n 2, 1) := by decide +kernel
theorem dX9_of_14 : decode cX9_of 14 = .ok (.tableswitch 83 0 4 #[34, 44, 54, 64, 74], 34) := by decide +kernel
theorem dX9_of_48 : decode cX9_of 48 = .ok (.aload_n 0, 1) := by decide +kernel
theorem dX9_of_49 : decode cX9_of 49 = .ok (.getfield 21, 3) := by decide +kernel
theorem dX9_of_52 : decode cX9_of 52 = .ok (.getfield 118, 3) := by decide +kernel
theorem dX9_of_55 : decode cX9_of 55 = .ok (.iload_n 1, 1) := by decide +kernel
theorem dX9_of_56 : decode cX9_of 56 = .ok (.iaload, 1) := by decide +kernel
theorem dX9_of_57 : decode cX9_of 57 = .ok (.ireturn, 1) := by decide +kernel
theorem dX9_of_58 : decode cX9_of 58 = .ok (.aload_n 0, 1) := by decide +kernel
theorem dX9_of_59 : decode cX9_of 59 = .ok (.getfield 21, 3) := by decide +kernel
theorem dX9_of_62 : decode cX9_of 62 = .ok (.getfield 121, 3) := by decide +kernel
theorem dX9_of_65 : decode cX9_of 65 = .ok (.iload_n 1, 1) := by decide +kernel
theorem dX9_of_66 : decode cX9_of 66 = .ok (.iaload, 1) := by decide +kernel
theorem dX9_of_67 : decode cX9_of 67 = .ok (.ireturn, 1) := by decide +kernel
theorem dX9_of_68 : decode cX9_of 68 = .ok (.aload_n 0, 1) := by decide +kernel
theorem dX9_of_69 : decode cX9_of 69 = .ok (.getfield 21, 3) := by decide +kernel
theorem dX9_of_72 : decode cX9_of 72 = .ok (.getfield 124, 3) := by decide +kernel
theorem dX9_of_75 : decode cX9_of 75 = .ok (.iload_n 1, 1) := by decide +kernel
theorem dX9_of_76 : decode cX9_of 76 = .ok (.iaload, 1) := by decide +kernel
theorem dX9_of_77 : decode cX9_of 77 = .ok (.ireturn, 1) := by decide +kernel
theorem dX9_of_78 : decode cX9_of 78 = .ok (.aload_n 0, 1) := by decide +kernel
theorem dX9_of_79 : decode cX9_of 79 = .ok (.getfield 21, 3) := by decide +kernel
theorem dX9_of_82 : decode cX9_of 82 = .ok (.getfield 127, 3) := by decide +kernel
theorem dX9_of_85 : decode cX9_of 85 = .ok (.iload_n 1, 1) := by decide +kernel
theorem dX9_of_86 : decode cX9_of 86 = .ok (.iaload, 1) := by decide +kernel
theorem dX9_of_87 : decode cX9_of 87 = .ok (.ireturn, 1) := by decide +kernel
theorem dX9_of_88 : decode cX9_of 88 = .ok (.aload_n 0, 1) := by decide +kernel
theorem dX9_of_89 : decode cX9_of 89 = .ok (.getfield 21, 3) := by decide +kernel
theorem dX9_of_92 : decode cX9_of 92 = .ok (.iload_n 1, 1) := by decide +kernel
theorem dX9_of_93 : decode cX9_of 93 = .ok (.invokevirtual 130, 3) := by decide +kernel
theorem dX9_of_96 : decode cX9_of 96 = .ok (.ireturn, 1) := by decide +kernel
theorem dX9_of_97 : decode cX9_of 97 = .ok (.iconst (-1), 1) := by decide +kernel
theorem dX9_of_98 : decode cX9_of 98 = .ok (.ireturn, 1) := by decide +kernel
theorem dX9_reader_0 : decode cX9_reader 0 = .ok (.iload_n 1, 1) := by decide +kernel
theorem dX9_reader_1 : decode cX9_reader 1 = .ok (.iconst 0, 1) := by decide +kernel
theorem dX9_reader_2 : decode cX9_reader 2 = .ok (.bipush 63, 2) := by decide +kernel
theorem dX9_reader_4 : decode cX9_reader 4 = .ok (.invokestatic 96, 3) := by decide +kernel
theorem dX9_reader_7 : decode cX9_reader 7 = .ok (.ifCond .eq 12, 3) := by decide +kernel
theorem dX9_reader_10 : decode cX9_reader 10 = .ok (.iload_n 2, 1) := by decide +kernel
theorem dX9_reader_11 : decode cX9_reader 11 = .ok (.iconst 0, 1) := by decide +kernel
theorem dX9_reader_12 : decode cX9_reader 12 = .ok (.iconst 1, 1) := by decide +kernel
theorem dX9_reader_13 : decode cX9_reader 13 = .ok (.invokestatic 96, 3) := by decide +kernel
theorem dX9_reader_16 : decode cX9_reader 16 = .ok (.ifCond .ne 9, 3) := by decide +kernel
theorem dX9_reader_19 : decode cX9_reader 19 = .ok (.aload_n 0, 1) := by decide +kernel
theorem dX9_reader_20 : decode cX9_reader 20 = .ok (.iconst (-1), 1) := by decide +kernel
theorem dX9_reader_21 : decode cX9_reader 21 = .ok (.invokevirtual 89, 3) := by decide +kernel
theorem dX9_reader_24 : decode cX9_reader 24 = .ok (.ireturn, 1) := by decide +kernel
theorem dX9_reader_25 : decode cX9_reader 25 = .ok (.aload_n 0, 1) := by decide +kernel
theorem dX9_reader_26 : decode cX9_reader 26 = .ok (.getfield 21, 3) := by decide +kernel
theorem dX9_reader_29 : decode cX9_reader 29 = .ok (.getfield 133, 3) := by decide +kernel
theorem dX9_reader_32 : decode cX9_reader 32 = .ok (.bipush 6, 2) := by decide +kernel
theorem dX9_reader_34 : decode cX9_reader 34 = .ok (.if_icmp .lt 10, 3) := by decide +kernel
theorem dX9_reader_37 : decode cX9_reader 37 = .ok (.aload_n 0, 1) := by decide +kernel
theorem dX9_reader_38 : decode cX9_reader 38 = .ok (.bipush (-5), 2) := by decide +kernel
theorem dX9_reader_40 : decode cX9_reader 40 = .ok (.invokevirtual 89, 3) := by decide +kernel
theorem dX9_reader_43 : decode cX9_reader 43 = .ok (.ireturn, 1) := by decide +kernel
theorem dX9_reader_44 : decode cX9_reader 44 = .ok (.aload_n 0, 1) := by decide +kernel
theorem dX9_reader_45 : decode cX9_reader 45 = .ok (.getfield 28, 3) := by decide +kernel
theorem dX9_reader_48 : decode cX9_reader 48 = .ok (.invokevirtual 107, 3) := by decide +kernel
theorem dX9_reader_51 : decode cX9_reader 51 = .ok (.aload_n 0, 1) := by decide +kernel
theorem dX9_reader_52 : decode cX9_reader 52 = .ok (.aload_n 0, 1) := by decide +kernel
theorem dX9_reader_53 : decode cX9_reader 53 = .ok (.getfield 21, 3) := by decide +kernel
theorem dX9_reader_56 : decode cX9_reader 56 = .ok (.iload_n 1, 1) := by decide +kernel
theorem dX9_reader_57 : decode cX9_reader 57 = .ok (.iload_n 2, 1) := by decide +kernel
theorem dX9_reader_58 : decode cX9_reader 58 = .ok (.invokevirtual 136, 3) := by decide +kernel
theorem dX9_reader_61 : decode cX9_reader 61 = .ok (.invokevirtual 93, 3) := by decide +kernel
theorem dX9_reader_64 : decode cX9_reader 64 = .ok (.ireturn, 1) := by decide +kernel
theorem dX9_at_0 : decode cX9_at 0 = .ok (.aload_n 0, 1) := by decide +kernel
theorem dX9_at_1 : decode cX9_at 1 = .ok (.getfield 21, 3) := by decide +kernel
theorem dX9_at_4 : decode cX9_at 4 = .ok (.iload_n 1, 1) := by decide +kernel
theorem dX9_at_5 : decode cX9_at 5 = .ok (.invokevirtual 140, 3) := by decide +kernel
theorem dX9_at_8 : decode cX9_at 8 = .ok (.ifCond .ne 5, 3) := by decide +kernel
theorem dX9_at_11 : decode cX9_at 11 = .ok (.iconst (-1), 1) := by decide +kernel
theorem dX9_at_12 : decode cX9_at 12 = .ok (.ireturn, 1) := by decide +kernel
theorem dX9_at_13 : decode cX9_at 13 = .ok (.iload_n 2, 1) := by decide +kernel
theorem dX9_at_14 : decode cX9_at 14 = .ok (.tableswitch 115 0 5 #[38, 48, 58, 68, 78, 105], 38) := by decide +kernel
theorem dX9_at_52 : decode cX9_at 52 = .ok (.aload_n 0, 1) := by decide +kernel
theorem dX9_at_53 : decode cX9_at 53 = .ok (.getfield 21, 3) := by decide +kernel
theorem dX9_at_56 : decode cX9_at 56 = .ok (.getfield 143, 3) := by decide +kernel
theorem dX9_at_59 : decode cX9_at 59 = .ok (.iload_n 1, 1) := by decide +kernel
theorem dX9_at_60 : decode cX9_at 60 = .ok (.iaload, 1) := by decide +kernel
theorem dX9_at_61 : decode cX9_at 61 = .ok (.ireturn, 1) := by decide +kernel
theorem dX9_at_62 : decode cX9_at 62 = .ok (.aload_n 0, 1) := by decide +kernel
theorem dX9_at_63 : decode cX9_at 63 = .ok (.getfield 21, 3) := by decide +kernel
theorem dX9_at_66 : decode cX9_at 66 = .ok (.getfield 146, 3) := by decide +kernel
theorem dX9_at_69 : decode cX9_at 69 = .ok (.iload_n 1, 1) := by decide +kernel
theorem dX9_at_70 : decode cX9_at 70 = .ok (.iaload, 1) := by decide +kernel
theorem dX9_at_71 : decode cX9_at 71 = .ok (.ireturn, 1) := by decide +kernel
theorem dX9_at_72 : decode cX9_at 72 = .ok (.aload_n 0, 1) := by decide +kernel
theorem dX9_at_73 : decode cX9_at 73 = .ok (.getfield 21, 3) := by decide +kernel
theorem dX9_at_76 : decode cX9_at 76 = .ok (.getfield 149, 3) := by decide +kernel
theorem dX9_at_79 : decode cX9_at 79 = .ok (.iload_n 1, 1) := by decide +kernel
theorem dX9_at_80 : decode cX9_at 80 = .ok (.iaload, 1) := by decide +kernel
theorem dX9_at_81 : decode cX9_at 81 = .ok (.ireturn, 1) := by decide +kernel
theorem dX9_at_82 : decode cX9_at 82 = .ok (.aload_n 0, 1) := by decide +kernel
theorem dX9_at_83 : decode cX9_at 83 = .ok (.getfield 21, 3) := by decide +kernel
theorem dX9_at_86 : decode cX9_at 86 = .ok (.getfield 152, 3) := by decide +kernel
theorem dX9_at_89 : decode cX9_at 89 = .ok (.iload_n 1, 1) := by decide +kernel
theorem dX9_at_90 : decode cX9_at 90 = .ok (.iaload, 1) := by decide +kernel
theorem dX9_at_91 : decode cX9_at 91 = .ok (.ireturn, 1) := by decide +kernel
theorem dX9_at_92 : decode cX9_at 92 = .ok (.aload_n 0, 1) := by decide +kernel
theorem dX9_at_93 : decode cX9_at 93 = .ok (.getfield 21, 3) := by decide +kernel
theorem dX9_at_96 : decode cX9_at 96 = .ok (.getfield 152, 3) := by decide +kernel
theorem dX9_at_99 : decode cX9_at 99 = .ok (.iload_n 1, 1) := by decide +kernel
theorem dX9_at_100 : decode cX9_at 100 = .ok (.iaload, 1) := by decide +kernel
theorem dX9_at_101 : decode cX9_at 101 = .ok (.iconst (-1), 1) := by decide +kernel
theorem dX9_at_102 : decode cX9_at 102 = .ok (.if_icmp .ne 7, 3) := by decide +kernel
theorem dX9_at_105 : decode cX9_at 105 = .ok (.iconst (-1), 1) := by decide +kernel
theorem dX9_at_106 : decode cX9_at 106 = .ok (.goto 12, 3) := by decide +kernel
theorem dX9_at_109 : decode cX9_at 109 = .ok (.aload_n 0, 1) := by decide +kernel
theorem dX9_at_110 : decode cX9_at 110 = .ok (.getfield 21, 3) := by decide +kernel
theorem dX9_at_113 : decode cX9_at 113 = .ok (.getfield 155, 3) := by decide +kernel
theorem dX9_at_116 : decode cX9_at 116 = .ok (.iload_n 1, 1) := by decide +kernel
theorem dX9_at_117 : decode cX9_at 117 = .ok (.iaload, 1) := by decide +kernel
theorem dX9_at_118 : decode cX9_at 118 = .ok (.ireturn, 1) := by decide +kernel
theorem dX9_at_119 : decode cX9_at 119 = .ok (.aload_n 0, 1) := by decide +kernel
theorem dX9_at_120 : decode cX9_at 120 = .ok (.getfield 21, 3) := by decide +kernel
theorem dX9_at_123 : decode cX9_at 123 = .ok (.getfield 158, 3) := by decide +kernel
theorem dX9_at_126 : decode cX9_at 126 = .ok (.iload_n 1, 1) := by decide +kernel
theorem dX9_at_127 : decode cX9_at 127 = .ok (.iaload, 1) := by decide +kernel
theorem dX9_at_128 : decode cX9_at 128 = .ok (.ireturn, 1) := by decide +kernel
theorem dX9_at_129 : decode cX9_at 129 = .ok (.iconst (-1), 1) := by decide +kernel
theorem dX9_at_130 : decode cX9_at 130 = .ok (.ireturn, 1) := by decide +kernel
theorem dX9_asks_0 : decode cX9_asks 0 = .ok (.aload_n 0, 1) := by decide +kernel
theorem dX9_asks_1 : decode cX9_asks 1 = .ok (.getfield 21, 3) := by decide +kernel
theorem dX9_asks_4 : decode cX9_asks 4 = .ok (.iload_n 1, 1) := by decide +kernel
theorem dX9_asks_5 : decode cX9_asks 5 = .ok (.invokevirtual 114, 3) := by decide +kernel
theorem dX9_asks_8 : decode cX9_asks 8 = .ok (.ifCond .eq 14, 3) := by decide +kernel
theorem dX9_asks_11 : decode cX9_asks 11 = .ok (.aload_n 0, 1) := by decide +kernel
theorem dX9_asks_12 : decode cX9_asks 12 = .ok (.getfield 21, 3) := by decide +kernel
theorem dX9_asks_15 : decode cX9_asks 15 = .ok (.iload_n 2, 1) := by decide +kernel
theorem dX9_asks_16 : decode cX9_asks 16 = .ok (.invokevirtual 140, 3) := by decide +kernel
theorem dX9_asks_19 : decode cX9_asks 19 = .ok (.ifCond .ne 5, 3) := by decide +kernel
theorem dX9_asks_22 : decode cX9_asks 22 = .ok (.iconst (-1), 1) := by decide +kernel
theorem dX9_asks_23 : decode cX9_asks 23 = .ok (.ireturn, 1) := by decide +kernel
theorem dX9_asks_24 : decode cX9_asks 24 = .ok (.aload_n 0, 1) := by decide +kernel
theorem dX9_asks_25 : decode cX9_asks 25 = .ok (.getfield 21, 3) := by decide +kernel
theorem dX9_asks_28 : decode cX9_asks 28 = .ok (.getfield 143, 3) := by decide +kernel
theorem dX9_asks_31 : decode cX9_asks 31 = .ok (.iload_n 2, 1) := by decide +kernel
theorem dX9_asks_32 : decode cX9_asks 32 = .ok (.iaload, 1) := by decide +kernel
theorem dX9_asks_33 : decode cX9_asks 33 = .ok (.istore 4, 2) := by decide +kernel
theorem dX9_asks_35 : decode cX9_asks 35 = .ok (.iload_n 3, 1) := by decide +kernel
theorem dX9_asks_36 : decode cX9_asks 36 = .ok (.tableswitch 97 0 5 #[40, 40, 40, 40, 60, 79], 40) := by decide +kernel
theorem dX9_asks_76 : decode cX9_asks 76 = .ok (.aload_n 0, 1) := by decide +kernel
theorem dX9_asks_77 : decode cX9_asks 77 = .ok (.getfield 21, 3) := by decide +kernel
theorem dX9_asks_80 : decode cX9_asks 80 = .ok (.iload_n 3, 1) := by decide +kernel
theorem dX9_asks_81 : decode cX9_asks 81 = .ok (.aload_n 0, 1) := by decide +kernel
theorem dX9_asks_82 : decode cX9_asks 82 = .ok (.getfield 12, 3) := by decide +kernel
theorem dX9_asks_85 : decode cX9_asks 85 = .ok (.getfield 161, 3) := by decide +kernel
theorem dX9_asks_88 : decode cX9_asks 88 = .ok (.iload_n 1, 1) := by decide +kernel
theorem dX9_asks_89 : decode cX9_asks 89 = .ok (.iload_n 2, 1) := by decide +kernel
theorem dX9_asks_90 : decode cX9_asks 90 = .ok (.iload 4, 2) := by decide +kernel
theorem dX9_asks_92 : decode cX9_asks 92 = .ok (.invokevirtual 164, 3) := by decide +kernel
theorem dX9_asks_95 : decode cX9_asks 95 = .ok (.ireturn, 1) := by decide +kernel
theorem dX9_asks_96 : decode cX9_asks 96 = .ok (.aload_n 0, 1) := by decide +kernel
theorem dX9_asks_97 : decode cX9_asks 97 = .ok (.getfield 21, 3) := by decide +kernel
theorem dX9_asks_100 : decode cX9_asks 100 = .ok (.iload 4, 2) := by decide +kernel
theorem dX9_asks_102 : decode cX9_asks 102 = .ok (.iload_n 1, 1) := by decide +kernel
theorem dX9_asks_103 : decode cX9_asks 103 = .ok (.invokevirtual 168, 3) := by decide +kernel
theorem dX9_asks_106 : decode cX9_asks 106 = .ok (.ifCond .eq 7, 3) := by decide +kernel
theorem dX9_asks_109 : decode cX9_asks 109 = .ok (.iconst 1, 1) := by decide +kernel
theorem dX9_asks_110 : decode cX9_asks 110 = .ok (.goto 4, 3) := by decide +kernel
theorem dX9_asks_113 : decode cX9_asks 113 = .ok (.iconst 0, 1) := by decide +kernel
theorem dX9_asks_114 : decode cX9_asks 114 = .ok (.ireturn, 1) := by decide +kernel
theorem dX9_asks_115 : decode cX9_asks 115 = .ok (.aload_n 0, 1) := by decide +kernel
theorem dX9_asks_116 : decode cX9_asks 116 = .ok (.getfield 21, 3) := by decide +kernel
theorem dX9_asks_119 : decode cX9_asks 119 = .ok (.iload_n 1, 1) := by decide +kernel
theorem dX9_asks_120 : decode cX9_asks 120 = .ok (.iload_n 2, 1) := by decide +kernel
theorem dX9_asks_121 : decode cX9_asks 121 = .ok (.invokevirtual 172, 3) := by decide +kernel
theorem dX9_asks_124 : decode cX9_asks 124 = .ok (.ifCond .eq 7, 3) := by decide +kernel
theorem dX9_asks_127 : decode cX9_asks 127 = .ok (.iconst 1, 1) := by decide +kernel
theorem dX9_asks_128 : decode cX9_asks 128 = .ok (.goto 4, 3) := by decide +kernel
theorem dX9_asks_131 : decode cX9_asks 131 = .ok (.iconst 0, 1) := by decide +kernel
theorem dX9_asks_132 : decode cX9_asks 132 = .ok (.ireturn, 1) := by decide +kernel
theorem dX9_asks_133 : decode cX9_asks 133 = .ok (.iconst (-1), 1) := by decide +kernel
theorem dX9_asks_134 : decode cX9_asks 134 = .ok (.ireturn, 1) := by decide +kernel
theorem dX9_terms_0 : decode cX9_terms 0 = .ok (.iload_n 1, 1) := by decide +kernel
theorem dX9_terms_1 : decode cX9_terms 1 = .ok (.iconst 0, 1) := by decide +kernel
theorem dX9_terms_2 : decode cX9_terms 2 = .ok (.iconst 3, 1) := by decide +kernel
theorem dX9_terms_3 : decode cX9_terms 3 = .ok (.invokestatic 96, 3) := by decide +kernel
theorem dX9_terms_6 : decode cX9_terms 6 = .ok (.ifCond .eq 20, 3) := by decide +kernel
theorem dX9_terms_9 : decode cX9_terms 9 = .ok (.iload_n 2, 1) := by decide +kernel
theorem dX9_terms_10 : decode cX9_terms 10 = .ok (.getstatic 175, 3) := by decide +kernel
theorem dX9_terms_13 : decode cX9_terms 13 = .ok (.iload_n 1, 1) := by decide +kernel
theorem dX9_terms_14 : decode cX9_terms 14 = .ok (.iaload, 1) := by decide +kernel
theorem dX9_terms_15 : decode cX9_terms 15 = .ok (.getstatic 178, 3) := by decide +kernel
theorem dX9_terms_18 : decode cX9_terms 18 = .ok (.iload_n 1, 1) := by decide +kernel
theorem dX9_terms_19 : decode cX9_terms 19 = .ok (.iaload, 1) := by decide +kernel
theorem dX9_terms_20 : decode cX9_terms 20 = .ok (.invokestatic 96, 3) := by decide +kernel
theorem dX9_terms_23 : decode cX9_terms 23 = .ok (.ifCond .ne 9, 3) := by decide +kernel
theorem dX9_terms_26 : decode cX9_terms 26 = .ok (.aload_n 0, 1) := by decide +kernel
theorem dX9_terms_27 : decode cX9_terms 27 = .ok (.iconst (-1), 1) := by decide +kernel
theorem dX9_terms_28 : decode cX9_terms 28 = .ok (.invokevirtual 89, 3) := by decide +kernel
theorem dX9_terms_31 : decode cX9_terms 31 = .ok (.ireturn, 1) := by decide +kernel
theorem dX9_terms_32 : decode cX9_terms 32 = .ok (.aload_n 0, 1) := by decide +kernel
theorem dX9_terms_33 : decode cX9_terms 33 = .ok (.getfield 21, 3) := by decide +kernel
theorem dX9_terms_36 : decode cX9_terms 36 = .ok (.getfield 181, 3) := by decide +kernel
theorem dX9_terms_39 : decode cX9_terms 39 = .ok (.iload_n 1, 1) := by decide +kernel
theorem dX9_terms_40 : decode cX9_terms 40 = .ok (.iaload, 1) := by decide +kernel
theorem dX9_terms_41 : decode cX9_terms 41 = .ok (.istore_n 3, 1) := by decide +kernel
theorem dX9_terms_42 : decode cX9_terms 42 = .ok (.aload_n 0, 1) := by decide +kernel
theorem dX9_terms_43 : decode cX9_terms 43 = .ok (.getfield 28, 3) := by decide +kernel
theorem dX9_terms_46 : decode cX9_terms 46 = .ok (.invokevirtual 107, 3) := by decide +kernel
theorem dX9_terms_49 : decode cX9_terms 49 = .ok (.aload_n 0, 1) := by decide +kernel
theorem dX9_terms_50 : decode cX9_terms 50 = .ok (.getfield 21, 3) := by decide +kernel
theorem dX9_terms_53 : decode cX9_terms 53 = .ok (.getfield 181, 3) := by decide +kernel
theorem dX9_terms_56 : decode cX9_terms 56 = .ok (.iload_n 1, 1) := by decide +kernel
theorem dX9_terms_57 : decode cX9_terms 57 = .ok (.iload_n 2, 1) := by decide +kernel
theorem dX9_terms_58 : decode cX9_terms 58 = .ok (.iastore, 1) := by decide +kernel
theorem dX9_terms_59 : decode cX9_terms 59 = .ok (.aload_n 0, 1) := by decide +kernel
theorem dX9_terms_60 : decode cX9_terms 60 = .ok (.iload_n 3, 1) := by decide +kernel
theorem dX9_terms_61 : decode cX9_terms 61 = .ok (.invokevirtual 93, 3) := by decide +kernel
theorem dX9_terms_64 : decode cX9_terms 64 = .ok (.ireturn, 1) := by decide +kernel
theorem dX9_feed_0 : decode cX9_feed 0 = .ok (.aload_n 0, 1) := by decide +kernel
theorem dX9_feed_1 : decode cX9_feed 1 = .ok (.getfield 44, 3) := by decide +kernel
theorem dX9_feed_4 : decode cX9_feed 4 = .ok (.getfield 184, 3) := by decide +kernel
theorem dX9_feed_7 : decode cX9_feed 7 = .ok (.bipush 20, 2) := by decide +kernel
theorem dX9_feed_9 : decode cX9_feed 9 = .ok (.iadd, 1) := by decide +kernel
theorem dX9_feed_10 : decode cX9_feed 10 = .ok (.sipush 400, 3) := by decide +kernel
theorem dX9_feed_13 : decode cX9_feed 13 = .ok (.if_icmp .le 5, 3) := by decide +kernel
theorem dX9_feed_16 : decode cX9_feed 16 = .ok (.iconst (-1), 1) := by decide +kernel
theorem dX9_feed_17 : decode cX9_feed 17 = .ok (.ireturn, 1) := by decide +kernel
theorem dX9_feed_18 : decode cX9_feed 18 = .ok (.aload_n 0, 1) := by decide +kernel
theorem dX9_feed_19 : decode cX9_feed 19 = .ok (.getfield 44, 3) := by decide +kernel
theorem dX9_feed_22 : decode cX9_feed 22 = .ok (.iload_n 1, 1) := by decide +kernel
theorem dX9_feed_23 : decode cX9_feed 23 = .ok (.invokevirtual 187, 3) := by decide +kernel
theorem dX9_feed_26 : decode cX9_feed 26 = .ok (.aload_n 0, 1) := by decide +kernel
theorem dX9_feed_27 : decode cX9_feed 27 = .ok (.getfield 44, 3) := by decide +kernel
theorem dX9_feed_30 : decode cX9_feed 30 = .ok (.iload_n 2, 1) := by decide +kernel
theorem dX9_feed_31 : decode cX9_feed 31 = .ok (.invokevirtual 187, 3) := by decide +kernel
theorem dX9_feed_34 : decode cX9_feed 34 = .ok (.aload_n 0, 1) := by decide +kernel
theorem dX9_feed_35 : decode cX9_feed 35 = .ok (.getfield 44, 3) := by decide +kernel
theorem dX9_feed_38 : decode cX9_feed 38 = .ok (.iload_n 3, 1) := by decide +kernel
theorem dX9_feed_39 : decode cX9_feed 39 = .ok (.invokevirtual 187, 3) := by decide +kernel
theorem dX9_feed_42 : decode cX9_feed 42 = .ok (.aload_n 0, 1) := by decide +kernel
theorem dX9_feed_43 : decode cX9_feed 43 = .ok (.getfield 44, 3) := by decide +kernel
theorem dX9_feed_46 : decode cX9_feed 46 = .ok (.iload 4, 2) := by decide +kernel
theorem dX9_feed_48 : decode cX9_feed 48 = .ok (.invokevirtual 187, 3) := by decide +kernel
theorem dX9_feed_51 : decode cX9_feed 51 = .ok (.aload_n 0, 1) := by decide +kernel
theorem dX9_feed_52 : decode cX9_feed 52 = .ok (.getfield 44, 3) := by decide +kernel
theorem dX9_feed_55 : decode cX9_feed 55 = .ok (.iload 5, 2) := by decide +kernel
theorem dX9_feed_57 : decode cX9_feed 57 = .ok (.invokevirtual 187, 3) := by decide +kernel
theorem dX9_feed_60 : decode cX9_feed 60 = .ok (.aload_n 0, 1) := by decide +kernel
theorem dX9_feed_61 : decode cX9_feed 61 = .ok (.getfield 44, 3) := by decide +kernel
theorem dX9_feed_64 : decode cX9_feed 64 = .ok (.getfield 184, 3) := by decide +kernel
theorem dX9_feed_67 : decode cX9_feed 67 = .ok (.ireturn, 1) := by decide +kernel
theorem dX9_end_0 : decode cX9_end 0 = .ok (.iload_n 1, 1) := by decide +kernel
theorem dX9_end_1 : decode cX9_end 1 = .ok (.iconst 0, 1) := by decide +kernel
theorem dX9_end_2 : decode cX9_end 2 = .ok (.aload_n 0, 1) := by decide +kernel
theorem dX9_end_3 : decode cX9_end 3 = .ok (.getfield 44, 3) := by decide +kernel
theorem dX9_end_6 : decode cX9_end 6 = .ok (.getfield 184, 3) := by decide +kernel
theorem dX9_end_9 : decode cX9_end 9 = .ok (.invokestatic 96, 3) := by decide +kernel
theorem dX9_end_12 : decode cX9_end 12 = .ok (.ifCond .ne 5, 3) := by decide +kernel
theorem dX9_end_15 : decode cX9_end 15 = .ok (.iconst (-1), 1) := by decide +kernel
theorem dX9_end_16 : decode cX9_end 16 = .ok (.ireturn, 1) := by decide +kernel
theorem dX9_end_17 : decode cX9_end 17 = .ok (.aload_n 0, 1) := by decide +kernel
theorem dX9_end_18 : decode cX9_end 18 = .ok (.getfield 44, 3) := by decide +kernel
theorem dX9_end_21 : decode cX9_end 21 = .ok (.iload_n 1, 1) := by decide +kernel
theorem dX9_end_22 : decode cX9_end 22 = .ok (.putfield 184, 3) := by decide +kernel
theorem dX9_end_25 : decode cX9_end 25 = .ok (.iload_n 1, 1) := by decide +kernel
theorem dX9_end_26 : decode cX9_end 26 = .ok (.ireturn, 1) := by decide +kernel
theorem dX9_row_0 : decode cX9_row 0 = .ok (.aload_n 0, 1) := by decide +kernel
theorem dX9_row_1 : decode cX9_row 1 = .ok (.getfield 44, 3) := by decide +kernel
theorem dX9_row_4 : decode cX9_row 4 = .ok (.getfield 184, 3) := by decide +kernel
theorem dX9_row_7 : decode cX9_row 7 = .ok (.ifCond .ne 10, 3) := by decide +kernel
theorem dX9_row_10 : decode cX9_row 10 = .ok (.aload_n 0, 1) := by decide +kernel
theorem dX9_row_11 : decode cX9_row 11 = .ok (.bipush (-6), 2) := by decide +kernel
theorem dX9_row_13 : decode cX9_row 13 = .ok (.invokevirtual 89, 3) := by decide +kernel
theorem dX9_row_16 : decode cX9_row 16 = .ok (.ireturn, 1) := by decide +kernel
theorem dX9_row_17 : decode cX9_row 17 = .ok (.aload_n 0, 1) := by decide +kernel
theorem dX9_row_18 : decode cX9_row 18 = .ok (.getfield 28, 3) := by decide +kernel
theorem dX9_row_21 : decode cX9_row 21 = .ok (.invokevirtual 107, 3) := by decide +kernel
theorem dX9_row_24 : decode cX9_row 24 = .ok (.iconst 0, 1) := by decide +kernel
theorem dX9_row_25 : decode cX9_row 25 = .ok (.istore_n 1, 1) := by decide +kernel
theorem dX9_row_26 : decode cX9_row 26 = .ok (.aload_n 0, 1) := by decide +kernel
theorem dX9_row_27 : decode cX9_row 27 = .ok (.iconst 0, 1) := by decide +kernel
theorem dX9_row_28 : decode cX9_row 28 = .ok (.putfield 79, 3) := by decide +kernel
theorem dX9_row_31 : decode cX9_row 31 = .ok (.iconst 0, 1) := by decide +kernel
theorem dX9_row_32 : decode cX9_row 32 = .ok (.istore_n 2, 1) := by decide +kernel
theorem dX9_row_33 : decode cX9_row 33 = .ok (.iload_n 2, 1) := by decide +kernel
theorem dX9_row_34 : decode cX9_row 34 = .ok (.aload_n 0, 1) := by decide +kernel
theorem dX9_row_35 : decode cX9_row 35 = .ok (.getfield 44, 3) := by decide +kernel
theorem dX9_row_38 : decode cX9_row 38 = .ok (.getfield 184, 3) := by decide +kernel
theorem dX9_row_41 : decode cX9_row 41 = .ok (.if_icmp .ge 33, 3) := by decide +kernel
theorem dX9_row_44 : decode cX9_row 44 = .ok (.aload_n 0, 1) := by decide +kernel
theorem dX9_row_45 : decode cX9_row 45 = .ok (.iload_n 2, 1) := by decide +kernel
theorem dX9_row_46 : decode cX9_row 46 = .ok (.invokevirtual 191, 3) := by decide +kernel
theorem dX9_row_49 : decode cX9_row 49 = .ok (.ifCond .eq 9, 3) := by decide +kernel
theorem dX9_row_52 : decode cX9_row 52 = .ok (.iinc 1 1, 3) := by decide +kernel
theorem dX9_row_55 : decode cX9_row 55 = .ok (.goto 13, 3) := by decide +kernel
theorem dX9_row_58 : decode cX9_row 58 = .ok (.aload_n 0, 1) := by decide +kernel
theorem dX9_row_59 : decode cX9_row 59 = .ok (.dup, 1) := by decide +kernel
theorem dX9_row_60 : decode cX9_row 60 = .ok (.getfield 79, 3) := by decide +kernel
theorem dX9_row_63 : decode cX9_row 63 = .ok (.iconst 1, 1) := by decide +kernel
theorem dX9_row_64 : decode cX9_row 64 = .ok (.iadd, 1) := by decide +kernel
theorem dX9_row_65 : decode cX9_row 65 = .ok (.putfield 79, 3) := by decide +kernel
theorem dX9_row_68 : decode cX9_row 68 = .ok (.iinc 2 4, 3) := by decide +kernel
theorem dX9_row_71 : decode cX9_row 71 = .ok (.goto (-38), 3) := by decide +kernel
theorem dX9_row_74 : decode cX9_row 74 = .ok (.aload_n 0, 1) := by decide +kernel
theorem dX9_row_75 : decode cX9_row 75 = .ok (.getfield 44, 3) := by decide +kernel
theorem dX9_row_78 : decode cX9_row 78 = .ok (.iconst 0, 1) := by decide +kernel
theorem dX9_row_79 : decode cX9_row 79 = .ok (.putfield 184, 3) := by decide +kernel
theorem dX9_row_82 : decode cX9_row 82 = .ok (.aload_n 0, 1) := by decide +kernel
theorem dX9_row_83 : decode cX9_row 83 = .ok (.iload_n 1, 1) := by decide +kernel
theorem dX9_row_84 : decode cX9_row 84 = .ok (.invokevirtual 93, 3) := by decide +kernel
theorem dX9_row_87 : decode cX9_row 87 = .ok (.ireturn, 1) := by decide +kernel
theorem dX9_bookFromTape_0 : decode cX9_bookFromTape 0 = .ok (.iload_n 1, 1) := by decide +kernel
theorem dX9_bookFromTape_1 : decode cX9_bookFromTape 1 = .ok (.iconst 4, 1) := by decide +kernel
theorem dX9_bookFromTape_2 : decode cX9_bookFromTape 2 = .ok (.iadd, 1) := by decide +kernel
theorem dX9_bookFromTape_3 : decode cX9_bookFromTape 3 = .ok (.aload_n 0, 1) := by decide +kernel
theorem dX9_bookFromTape_4 : decode cX9_bookFromTape 4 = .ok (.getfield 44, 3) := by decide +kernel
theorem dX9_bookFromTape_7 : decode cX9_bookFromTape 7 = .ok (.getfield 184, 3) := by decide +kernel
theorem dX9_bookFromTape_10 : decode cX9_bookFromTape 10 = .ok (.if_icmp .gt 15, 3) := by decide +kernel
theorem dX9_bookFromTape_13 : decode cX9_bookFromTape 13 = .ok (.aload_n 0, 1) := by decide +kernel
theorem dX9_bookFromTape_14 : decode cX9_bookFromTape 14 = .ok (.getfield 21, 3) := by decide +kernel
theorem dX9_bookFromTape_17 : decode cX9_bookFromTape 17 = .ok (.getfield 104, 3) := by decide +kernel
theorem dX9_bookFromTape_20 : decode cX9_bookFromTape 20 = .ok (.bipush 8, 2) := by decide +kernel
theorem dX9_bookFromTape_22 : decode cX9_bookFromTape 22 = .ok (.if_icmp .lt 5, 3) := by decide +kernel
theorem dX9_bookFromTape_25 : decode cX9_bookFromTape 25 = .ok (.iconst 0, 1) := by decide +kernel
theorem dX9_bookFromTape_26 : decode cX9_bookFromTape 26 = .ok (.ireturn, 1) := by decide +kernel
theorem dX9_bookFromTape_27 : decode cX9_bookFromTape 27 = .ok (.aload_n 0, 1) := by decide +kernel
theorem dX9_bookFromTape_28 : decode cX9_bookFromTape 28 = .ok (.getfield 44, 3) := by decide +kernel
theorem dX9_bookFromTape_31 : decode cX9_bookFromTape 31 = .ok (.getfield 194, 3) := by decide +kernel
theorem dX9_bookFromTape_34 : decode cX9_bookFromTape 34 = .ok (.iload_n 1, 1) := by decide +kernel
theorem dX9_bookFromTape_35 : decode cX9_bookFromTape 35 = .ok (.iaload, 1) := by decide +kernel
theorem dX9_bookFromTape_36 : decode cX9_bookFromTape 36 = .ok (.istore_n 2, 1) := by decide +kernel
theorem dX9_bookFromTape_37 : decode cX9_bookFromTape 37 = .ok (.aload_n 0, 1) := by decide +kernel
theorem dX9_bookFromTape_38 : decode cX9_bookFromTape 38 = .ok (.getfield 44, 3) := by decide +kernel
theorem dX9_bookFromTape_41 : decode cX9_bookFromTape 41 = .ok (.getfield 194, 3) := by decide +kernel
theorem dX9_bookFromTape_44 : decode cX9_bookFromTape 44 = .ok (.iload_n 1, 1) := by decide +kernel
theorem dX9_bookFromTape_45 : decode cX9_bookFromTape 45 = .ok (.iconst 1, 1) := by decide +kernel
theorem dX9_bookFromTape_46 : decode cX9_bookFromTape 46 = .ok (.iadd, 1) := by decide +kernel
theorem dX9_bookFromTape_47 : decode cX9_bookFromTape 47 = .ok (.iaload, 1) := by decide +kernel
theorem dX9_bookFromTape_48 : decode cX9_bookFromTape 48 = .ok (.istore_n 3, 1) := by decide +kernel
theorem dX9_bookFromTape_49 : decode cX9_bookFromTape 49 = .ok (.aload_n 0, 1) := by decide +kernel
theorem dX9_bookFromTape_50 : decode cX9_bookFromTape 50 = .ok (.getfield 44, 3) := by decide +kernel
theorem dX9_bookFromTape_53 : decode cX9_bookFromTape 53 = .ok (.getfield 194, 3) := by decide +kernel
theorem dX9_bookFromTape_56 : decode cX9_bookFromTape 56 = .ok (.iload_n 1, 1) := by decide +kernel
theorem dX9_bookFromTape_57 : decode cX9_bookFromTape 57 = .ok (.iconst 2, 1) := by decide +kernel
theorem dX9_bookFromTape_58 : decode cX9_bookFromTape 58 = .ok (.iadd, 1) := by decide +kernel
theorem dX9_bookFromTape_59 : decode cX9_bookFromTape 59 = .ok (.iaload, 1) := by decide +kernel
theorem dX9_bookFromTape_60 : decode cX9_bookFromTape 60 = .ok (.istore 4, 2) := by decide +kernel
theorem dX9_bookFromTape_62 : decode cX9_bookFromTape 62 = .ok (.aload_n 0, 1) := by decide +kernel
theorem dX9_bookFromTape_63 : decode cX9_bookFromTape 63 = .ok (.getfield 44, 3) := by decide +kernel
theorem dX9_bookFromTape_66 : decode cX9_bookFromTape 66 = .ok (.getfield 194, 3) := by decide +kernel
theorem dX9_bookFromTape_69 : decode cX9_bookFromTape 69 = .ok (.iload_n 1, 1) := by decide +kernel
theorem dX9_bookFromTape_70 : decode cX9_bookFromTape 70 = .ok (.iconst 3, 1) := by decide +kernel
theorem dX9_bookFromTape_71 : decode cX9_bookFromTape 71 = .ok (.iadd, 1) := by decide +kernel
theorem dX9_bookFromTape_72 : decode cX9_bookFromTape 72 = .ok (.iaload, 1) := by decide +kernel
theorem dX9_bookFromTape_73 : decode cX9_bookFromTape 73 = .ok (.bipush 10, 2) := by decide +kernel
theorem dX9_bookFromTape_75 : decode cX9_bookFromTape 75 = .ok (.imul, 1) := by decide +kernel
theorem dX9_bookFromTape_76 : decode cX9_bookFromTape 76 = .ok (.istore 5, 2) := by decide +kernel
theorem dX9_bookFromTape_78 : decode cX9_bookFromTape 78 = .ok (.iload_n 2, 1) := by decide +kernel
theorem dX9_bookFromTape_79 : decode cX9_bookFromTape 79 = .ok (.iload_n 3, 1) := by decide +kernel
theorem dX9_bookFromTape_80 : decode cX9_bookFromTape 80 = .ok (.iload 4, 2) := by decide +kernel
theorem dX9_bookFromTape_82 : decode cX9_bookFromTape 82 = .ok (.iload 5, 2) := by decide +kernel
theorem dX9_bookFromTape_84 : decode cX9_bookFromTape 84 = .ok (.invokestatic 100, 3) := by decide +kernel
theorem dX9_bookFromTape_87 : decode cX9_bookFromTape 87 = .ok (.ifCond .ne 5, 3) := by decide +kernel
theorem dX9_bookFromTape_90 : decode cX9_bookFromTape 90 = .ok (.iconst 0, 1) := by decide +kernel
theorem dX9_bookFromTape_91 : decode cX9_bookFromTape 91 = .ok (.ireturn, 1) := by decide +kernel
theorem dX9_bookFromTape_92 : decode cX9_bookFromTape 92 = .ok (.aload_n 0, 1) := by decide +kernel
theorem dX9_bookFromTape_93 : decode cX9_bookFromTape 93 = .ok (.getfield 21, 3) := by decide +kernel
theorem dX9_bookFromTape_96 : decode cX9_bookFromTape 96 = .ok (.iload_n 2, 1) := by decide +kernel
theorem dX9_bookFromTape_97 : decode cX9_bookFromTape 97 = .ok (.iload_n 3, 1) := by decide +kernel
theorem dX9_bookFromTape_98 : decode cX9_bookFromTape 98 = .ok (.iload 4, 2) := by decide +kernel
theorem dX9_bookFromTape_100 : decode cX9_bookFromTape 100 = .ok (.iload 5, 2) := by decide +kernel
theorem dX9_bookFromTape_102 : decode cX9_bookFromTape 102 = .ok (.invokevirtual 110, 3) := by decide +kernel
theorem dX9_bookFromTape_105 : decode cX9_bookFromTape 105 = .ok (.pop, 1) := by decide +kernel
theorem dX9_bookFromTape_106 : decode cX9_bookFromTape 106 = .ok (.iconst 1, 1) := by decide +kernel
theorem dX9_bookFromTape_107 : decode cX9_bookFromTape 107 = .ok (.ireturn, 1) := by decide +kernel
theorem dX9_slips_0 : decode cX9_slips 0 = .ok (.aload_n 0, 1) := by decide +kernel
theorem dX9_slips_1 : decode cX9_slips 1 = .ok (.getfield 79, 3) := by decide +kernel
theorem dX9_slips_4 : decode cX9_slips 4 = .ok (.ireturn, 1) := by decide +kernel
theorem dX9_law_0 : decode cX9_law 0 = .ok (.aload_n 0, 1) := by decide +kernel
theorem dX9_law_1 : decode cX9_law 1 = .ok (.getfield 12, 3) := by decide +kernel
theorem dX9_law_4 : decode cX9_law 4 = .ok (.getfield 197, 3) := by decide +kernel
theorem dX9_law_7 : decode cX9_law 7 = .ok (.bipush 6, 2) := by decide +kernel
theorem dX9_law_9 : decode cX9_law 9 = .ok (.if_icmp .lt 18, 3) := by decide +kernel
theorem dX9_law_12 : decode cX9_law 12 = .ok (.aload_n 0, 1) := by decide +kernel
theorem dX9_law_13 : decode cX9_law 13 = .ok (.getfield 44, 3) := by decide +kernel
theorem dX9_law_16 : decode cX9_law 16 = .ok (.iconst 0, 1) := by decide +kernel
theorem dX9_law_17 : decode cX9_law 17 = .ok (.putfield 184, 3) := by decide +kernel
theorem dX9_law_20 : decode cX9_law 20 = .ok (.aload_n 0, 1) := by decide +kernel
theorem dX9_law_21 : decode cX9_law 21 = .ok (.bipush (-5), 2) := by decide +kernel
theorem dX9_law_23 : decode cX9_law 23 = .ok (.invokevirtual 89, 3) := by decide +kernel
theorem dX9_law_26 : decode cX9_law 26 = .ok (.ireturn, 1) := by decide +kernel
theorem dX9_law_27 : decode cX9_law 27 = .ok (.aload_n 0, 1) := by decide +kernel
theorem dX9_law_28 : decode cX9_law 28 = .ok (.getfield 53, 3) := by decide +kernel
theorem dX9_law_31 : decode cX9_law 31 = .ok (.iconst 1, 1) := by decide +kernel
theorem dX9_law_32 : decode cX9_law 32 = .ok (.invokevirtual 198, 3) := by decide +kernel
theorem dX9_law_35 : decode cX9_law 35 = .ok (.istore_n 1, 1) := by decide +kernel
theorem dX9_law_36 : decode cX9_law 36 = .ok (.aload_n 0, 1) := by decide +kernel
theorem dX9_law_37 : decode cX9_law 37 = .ok (.getfield 44, 3) := by decide +kernel
theorem dX9_law_40 : decode cX9_law 40 = .ok (.iconst 0, 1) := by decide +kernel
theorem dX9_law_41 : decode cX9_law 41 = .ok (.putfield 184, 3) := by decide +kernel
theorem dX9_law_44 : decode cX9_law 44 = .ok (.iload_n 1, 1) := by decide +kernel
theorem dX9_law_45 : decode cX9_law 45 = .ok (.ifCond .eq 27, 3) := by decide +kernel
theorem dX9_law_48 : decode cX9_law 48 = .ok (.aload_n 0, 1) := by decide +kernel
theorem dX9_law_49 : decode cX9_law 49 = .ok (.aload_n 0, 1) := by decide +kernel
theorem dX9_law_50 : decode cX9_law 50 = .ok (.getfield 12, 3) := by decide +kernel
theorem dX9_law_53 : decode cX9_law 53 = .ok (.aload_n 0, 1) := by decide +kernel
theorem dX9_law_54 : decode cX9_law 54 = .ok (.getfield 53, 3) := by decide +kernel
theorem dX9_law_57 : decode cX9_law 57 = .ok (.getfield 202, 3) := by decide +kernel
theorem dX9_law_60 : decode cX9_law 60 = .ok (.invokevirtual 206, 3) := by decide +kernel
theorem dX9_law_63 : decode cX9_law 63 = .ok (.invokevirtual 212, 3) := by decide +kernel
theorem dX9_law_66 : decode cX9_law 66 = .ok (.invokevirtual 93, 3) := by decide +kernel
theorem dX9_law_69 : decode cX9_law 69 = .ok (.goto 9, 3) := by decide +kernel
theorem dX9_law_72 : decode cX9_law 72 = .ok (.aload_n 0, 1) := by decide +kernel
theorem dX9_law_73 : decode cX9_law 73 = .ok (.bipush (-6), 2) := by decide +kernel
theorem dX9_law_75 : decode cX9_law 75 = .ok (.invokevirtual 89, 3) := by decide +kernel
theorem dX9_law_78 : decode cX9_law 78 = .ok (.ireturn, 1) := by decide +kernel
theorem dX9_orders_0 : decode cX9_orders 0 = .ok (.aload_n 0, 1) := by decide +kernel
theorem dX9_orders_1 : decode cX9_orders 1 = .ok (.getfield 53, 3) := by decide +kernel
theorem dX9_orders_4 : decode cX9_orders 4 = .ok (.iconst 0, 1) := by decide +kernel
theorem dX9_orders_5 : decode cX9_orders 5 = .ok (.invokevirtual 198, 3) := by decide +kernel
theorem dX9_orders_8 : decode cX9_orders 8 = .ok (.istore_n 1, 1) := by decide +kernel
theorem dX9_orders_9 : decode cX9_orders 9 = .ok (.aload_n 0, 1) := by decide +kernel
theorem dX9_orders_10 : decode cX9_orders 10 = .ok (.getfield 44, 3) := by decide +kernel
theorem dX9_orders_13 : decode cX9_orders 13 = .ok (.iconst 0, 1) := by decide +kernel
theorem dX9_orders_14 : decode cX9_orders 14 = .ok (.putfield 184, 3) := by decide +kernel
theorem dX9_orders_17 : decode cX9_orders 17 = .ok (.aload_n 0, 1) := by decide +kernel
theorem dX9_orders_18 : decode cX9_orders 18 = .ok (.iconst (-1), 1) := by decide +kernel
theorem dX9_orders_19 : decode cX9_orders 19 = .ok (.putfield 83, 3) := by decide +kernel
theorem dX9_orders_22 : decode cX9_orders 22 = .ok (.iload_n 1, 1) := by decide +kernel
theorem dX9_orders_23 : decode cX9_orders 23 = .ok (.ifCond .ne 10, 3) := by decide +kernel
theorem dX9_orders_26 : decode cX9_orders 26 = .ok (.aload_n 0, 1) := by decide +kernel
theorem dX9_orders_27 : decode cX9_orders 27 = .ok (.bipush (-6), 2) := by decide +kernel
theorem dX9_orders_29 : decode cX9_orders 29 = .ok (.invokevirtual 89, 3) := by decide +kernel
theorem dX9_orders_32 : decode cX9_orders 32 = .ok (.ireturn, 1) := by decide +kernel
theorem dX9_orders_33 : decode cX9_orders 33 = .ok (.aload_n 0, 1) := by decide +kernel
theorem dX9_orders_34 : decode cX9_orders 34 = .ok (.getfield 35, 3) := by decide +kernel
theorem dX9_orders_37 : decode cX9_orders 37 = .ok (.aload_n 0, 1) := by decide +kernel
theorem dX9_orders_38 : decode cX9_orders 38 = .ok (.getfield 21, 3) := by decide +kernel
theorem dX9_orders_41 : decode cX9_orders 41 = .ok (.invokevirtual 215, 3) := by decide +kernel
theorem dX9_orders_44 : decode cX9_orders 44 = .ok (.aload_n 0, 1) := by decide +kernel
theorem dX9_orders_45 : decode cX9_orders 45 = .ok (.getfield 32, 3) := by decide +kernel
theorem dX9_orders_48 : decode cX9_orders 48 = .ok (.invokevirtual 107, 3) := by decide +kernel
theorem dX9_orders_51 : decode cX9_orders 51 = .ok (.aload_n 0, 1) := by decide +kernel
theorem dX9_orders_52 : decode cX9_orders 52 = .ok (.getfield 72, 3) := by decide +kernel
theorem dX9_orders_55 : decode cX9_orders 55 = .ok (.iconst 1, 1) := by decide +kernel
theorem dX9_orders_56 : decode cX9_orders 56 = .ok (.iconst 0, 1) := by decide +kernel
theorem dX9_orders_57 : decode cX9_orders 57 = .ok (.iastore, 1) := by decide +kernel
theorem dX9_orders_58 : decode cX9_orders 58 = .ok (.aload_n 0, 1) := by decide +kernel
theorem dX9_orders_59 : decode cX9_orders 59 = .ok (.getfield 72, 3) := by decide +kernel
theorem dX9_orders_62 : decode cX9_orders 62 = .ok (.iconst 2, 1) := by decide +kernel
theorem dX9_orders_63 : decode cX9_orders 63 = .ok (.iconst (-1), 1) := by decide +kernel
theorem dX9_orders_64 : decode cX9_orders 64 = .ok (.iastore, 1) := by decide +kernel
theorem dX9_orders_65 : decode cX9_orders 65 = .ok (.iconst 0, 1) := by decide +kernel
theorem dX9_orders_66 : decode cX9_orders 66 = .ok (.istore_n 2, 1) := by decide +kernel
theorem dX9_orders_67 : decode cX9_orders 67 = .ok (.iload_n 2, 1) := by decide +kernel
theorem dX9_orders_68 : decode cX9_orders 68 = .ok (.aload_n 0, 1) := by decide +kernel
theorem dX9_orders_69 : decode cX9_orders 69 = .ok (.getfield 53, 3) := by decide +kernel
theorem dX9_orders_72 : decode cX9_orders 72 = .ok (.getfield 202, 3) := by decide +kernel
theorem dX9_orders_75 : decode cX9_orders 75 = .ok (.getfield 218, 3) := by decide +kernel
theorem dX9_orders_78 : decode cX9_orders 78 = .ok (.if_icmp .ge 71, 3) := by decide +kernel
theorem dX9_orders_81 : decode cX9_orders 81 = .ok (.iconst 0, 1) := by decide +kernel
theorem dX9_orders_82 : decode cX9_orders 82 = .ok (.istore_n 3, 1) := by decide +kernel
theorem dX9_orders_83 : decode cX9_orders 83 = .ok (.iload_n 3, 1) := by decide +kernel
theorem dX9_orders_84 : decode cX9_orders 84 = .ok (.aload_n 0, 1) := by decide +kernel
theorem dX9_orders_85 : decode cX9_orders 85 = .ok (.getfield 53, 3) := by decide +kernel
theorem dX9_orders_88 : decode cX9_orders 88 = .ok (.getfield 202, 3) := by decide +kernel
theorem dX9_orders_91 : decode cX9_orders 91 = .ok (.getfield 221, 3) := by decide +kernel
theorem dX9_orders_94 : decode cX9_orders 94 = .ok (.iload_n 2, 1) := by decide +kernel
theorem dX9_orders_95 : decode cX9_orders 95 = .ok (.iaload, 1) := by decide +kernel
theorem dX9_orders_96 : decode cX9_orders 96 = .ok (.if_icmp .ge 47, 3) := by decide +kernel
theorem dX9_orders_99 : decode cX9_orders 99 = .ok (.aload_n 0, 1) := by decide +kernel
theorem dX9_orders_100 : decode cX9_orders 100 = .ok (.aload_n 0, 1) := by decide +kernel
theorem dX9_orders_101 : decode cX9_orders 101 = .ok (.getfield 53, 3) := by decide +kernel
theorem dX9_orders_104 : decode cX9_orders 104 = .ok (.getfield 202, 3) := by decide +kernel
theorem dX9_orders_107 : decode cX9_orders 107 = .ok (.iload_n 2, 1) := by decide +kernel
theorem dX9_orders_108 : decode cX9_orders 108 = .ok (.invokevirtual 224, 3) := by decide +kernel
theorem dX9_orders_111 : decode cX9_orders 111 = .ok (.ifCond .ne 26, 3) := by decide +kernel
theorem dX9_orders_114 : decode cX9_orders 114 = .ok (.aload_n 0, 1) := by decide +kernel
theorem dX9_orders_115 : decode cX9_orders 115 = .ok (.getfield 21, 3) := by decide +kernel
theorem dX9_orders_118 : decode cX9_orders 118 = .ok (.aload_n 0, 1) := by decide +kernel
theorem dX9_orders_119 : decode cX9_orders 119 = .ok (.getfield 35, 3) := by decide +kernel
theorem dX9_orders_122 : decode cX9_orders 122 = .ok (.invokevirtual 215, 3) := by decide +kernel
theorem dX9_orders_125 : decode cX9_orders 125 = .ok (.aload_n 0, 1) := by decide +kernel
theorem dX9_orders_126 : decode cX9_orders 126 = .ok (.iload_n 2, 1) := by decide +kernel
theorem dX9_orders_127 : decode cX9_orders 127 = .ok (.putfield 83, 3) := by decide +kernel
theorem dX9_orders_130 : decode cX9_orders 130 = .ok (.aload_n 0, 1) := by decide +kernel
theorem dX9_orders_131 : decode cX9_orders 131 = .ok (.bipush (-3), 2) := by decide +kernel
theorem dX9_orders_133 : decode cX9_orders 133 = .ok (.invokevirtual 89, 3) := by decide +kernel
theorem dX9_orders_136 : decode cX9_orders 136 = .ok (.ireturn, 1) := by decide +kernel
theorem dX9_orders_137 : decode cX9_orders 137 = .ok (.iinc 3 1, 3) := by decide +kernel
theorem dX9_orders_140 : decode cX9_orders 140 = .ok (.goto (-57), 3) := by decide +kernel
theorem dX9_orders_143 : decode cX9_orders 143 = .ok (.iinc 2 1, 3) := by decide +kernel
theorem dX9_orders_146 : decode cX9_orders 146 = .ok (.goto (-79), 3) := by decide +kernel
theorem dX9_orders_149 : decode cX9_orders 149 = .ok (.aload_n 0, 1) := by decide +kernel
theorem dX9_orders_150 : decode cX9_orders 150 = .ok (.getfield 28, 3) := by decide +kernel
theorem dX9_orders_153 : decode cX9_orders 153 = .ok (.aload_n 0, 1) := by decide +kernel
theorem dX9_orders_154 : decode cX9_orders 154 = .ok (.getfield 32, 3) := by decide +kernel
theorem dX9_orders_157 : decode cX9_orders 157 = .ok (.invokevirtual 228, 3) := by decide +kernel
theorem dX9_orders_160 : decode cX9_orders 160 = .ok (.aload_n 0, 1) := by decide +kernel
theorem dX9_orders_161 : decode cX9_orders 161 = .ok (.aload_n 0, 1) := by decide +kernel
theorem dX9_orders_162 : decode cX9_orders 162 = .ok (.getfield 72, 3) := by decide +kernel
theorem dX9_orders_165 : decode cX9_orders 165 = .ok (.iconst 1, 1) := by decide +kernel
theorem dX9_orders_166 : decode cX9_orders 166 = .ok (.iaload, 1) := by decide +kernel
theorem dX9_orders_167 : decode cX9_orders 167 = .ok (.invokevirtual 93, 3) := by decide +kernel
theorem dX9_orders_170 : decode cX9_orders 170 = .ok (.ireturn, 1) := by decide +kernel
theorem dX9_runs_0 : decode cX9_runs 0 = .ok (.aload_n 0, 1) := by decide +kernel
theorem dX9_runs_1 : decode cX9_runs 1 = .ok (.invokevirtual 232, 3) := by decide +kernel
theorem dX9_runs_4 : decode cX9_runs 4 = .ok (.aload_n 1, 1) := by decide +kernel
theorem dX9_runs_5 : decode cX9_runs 5 = .ok (.getfield 235, 3) := by decide +kernel
theorem dX9_runs_8 : decode cX9_runs 8 = .ok (.iload_n 2, 1) := by decide +kernel
theorem dX9_runs_9 : decode cX9_runs 9 = .ok (.iaload, 1) := by decide +kernel
theorem dX9_runs_10 : decode cX9_runs 10 = .ok (.iconst (-1), 1) := by decide +kernel
theorem dX9_runs_11 : decode cX9_runs 11 = .ok (.if_icmp .eq 20, 3) := by decide +kernel
theorem dX9_runs_14 : decode cX9_runs 14 = .ok (.aload_n 0, 1) := by decide +kernel
theorem dX9_runs_15 : decode cX9_runs 15 = .ok (.aload_n 1, 1) := by decide +kernel
theorem dX9_runs_16 : decode cX9_runs 16 = .ok (.aload_n 1, 1) := by decide +kernel
theorem dX9_runs_17 : decode cX9_runs 17 = .ok (.getfield 235, 3) := by decide +kernel
theorem dX9_runs_20 : decode cX9_runs 20 = .ok (.iload_n 2, 1) := by decide +kernel
theorem dX9_runs_21 : decode cX9_runs 21 = .ok (.iaload, 1) := by decide +kernel
theorem dX9_runs_22 : decode cX9_runs 22 = .ok (.invokevirtual 238, 3) := by decide +kernel
theorem dX9_runs_25 : decode cX9_runs 25 = .ok (.iconst 1, 1) := by decide +kernel
theorem dX9_runs_26 : decode cX9_runs 26 = .ok (.if_icmp .eq 5, 3) := by decide +kernel
theorem dX9_runs_29 : decode cX9_runs 29 = .ok (.iconst 1, 1) := by decide +kernel
theorem dX9_runs_30 : decode cX9_runs 30 = .ok (.ireturn, 1) := by decide +kernel
theorem dX9_runs_31 : decode cX9_runs 31 = .ok (.aload_n 1, 1) := by decide +kernel
theorem dX9_runs_32 : decode cX9_runs 32 = .ok (.getfield 242, 3) := by decide +kernel
theorem dX9_runs_35 : decode cX9_runs 35 = .ok (.iload_n 2, 1) := by decide +kernel
theorem dX9_runs_36 : decode cX9_runs 36 = .ok (.iaload, 1) := by decide +kernel
theorem dX9_runs_37 : decode cX9_runs 37 = .ok (.iconst (-1), 1) := by decide +kernel
theorem dX9_runs_38 : decode cX9_runs 38 = .ok (.if_icmp .ne 7, 3) := by decide +kernel
theorem dX9_runs_41 : decode cX9_runs 41 = .ok (.iconst 0, 1) := by decide +kernel
theorem dX9_runs_42 : decode cX9_runs 42 = .ok (.goto 14, 3) := by decide +kernel
theorem dX9_runs_45 : decode cX9_runs 45 = .ok (.aload_n 0, 1) := by decide +kernel
theorem dX9_runs_46 : decode cX9_runs 46 = .ok (.aload_n 1, 1) := by decide +kernel
theorem dX9_runs_47 : decode cX9_runs 47 = .ok (.aload_n 1, 1) := by decide +kernel
theorem dX9_runs_48 : decode cX9_runs 48 = .ok (.getfield 242, 3) := by decide +kernel
theorem dX9_runs_51 : decode cX9_runs 51 = .ok (.iload_n 2, 1) := by decide +kernel
theorem dX9_runs_52 : decode cX9_runs 52 = .ok (.iaload, 1) := by decide +kernel
theorem dX9_runs_53 : decode cX9_runs 53 = .ok (.invokevirtual 238, 3) := by decide +kernel
theorem dX9_runs_56 : decode cX9_runs 56 = .ok (.istore_n 3, 1) := by decide +kernel
theorem dX9_runs_57 : decode cX9_runs 57 = .ok (.aload_n 1, 1) := by decide +kernel
theorem dX9_runs_58 : decode cX9_runs 58 = .ok (.getfield 245, 3) := by decide +kernel
theorem dX9_runs_61 : decode cX9_runs 61 = .ok (.iload_n 2, 1) := by decide +kernel
theorem dX9_runs_62 : decode cX9_runs 62 = .ok (.iaload, 1) := by decide +kernel
theorem dX9_runs_63 : decode cX9_runs 63 = .ok (.iconst (-1), 1) := by decide +kernel
theorem dX9_runs_64 : decode cX9_runs 64 = .ok (.if_icmp .ne 7, 3) := by decide +kernel
theorem dX9_runs_67 : decode cX9_runs 67 = .ok (.iconst 0, 1) := by decide +kernel
theorem dX9_runs_68 : decode cX9_runs 68 = .ok (.goto 14, 3) := by decide +kernel
theorem dX9_runs_71 : decode cX9_runs 71 = .ok (.aload_n 0, 1) := by decide +kernel
theorem dX9_runs_72 : decode cX9_runs 72 = .ok (.aload_n 1, 1) := by decide +kernel
theorem dX9_runs_73 : decode cX9_runs 73 = .ok (.aload_n 1, 1) := by decide +kernel
theorem dX9_runs_74 : decode cX9_runs 74 = .ok (.getfield 245, 3) := by decide +kernel
theorem dX9_runs_77 : decode cX9_runs 77 = .ok (.iload_n 2, 1) := by decide +kernel
theorem dX9_runs_78 : decode cX9_runs 78 = .ok (.iaload, 1) := by decide +kernel
theorem dX9_runs_79 : decode cX9_runs 79 = .ok (.invokevirtual 238, 3) := by decide +kernel
theorem dX9_runs_82 : decode cX9_runs 82 = .ok (.istore 4, 2) := by decide +kernel
theorem dX9_runs_84 : decode cX9_runs 84 = .ok (.iload_n 3, 1) := by decide +kernel
theorem dX9_runs_85 : decode cX9_runs 85 = .ok (.ldc 248, 2) := by decide +kernel
theorem dX9_runs_87 : decode cX9_runs 87 = .ok (.if_icmp .eq 10, 3) := by decide +kernel
theorem dX9_runs_90 : decode cX9_runs 90 = .ok (.iload 4, 2) := by decide +kernel
theorem dX9_runs_92 : decode cX9_runs 92 = .ok (.ldc 248, 2) := by decide +kernel
theorem dX9_runs_94 : decode cX9_runs 94 = .ok (.if_icmp .ne 5, 3) := by decide +kernel
theorem dX9_runs_97 : decode cX9_runs 97 = .ok (.iconst 0, 1) := by decide +kernel
theorem dX9_runs_98 : decode cX9_runs 98 = .ok (.ireturn, 1) := by decide +kernel
theorem dX9_runs_99 : decode cX9_runs 99 = .ok (.aload_n 1, 1) := by decide +kernel
theorem dX9_runs_100 : decode cX9_runs 100 = .ok (.getfield 249, 3) := by decide +kernel
theorem dX9_runs_103 : decode cX9_runs 103 = .ok (.iload_n 2, 1) := by decide +kernel
theorem dX9_runs_104 : decode cX9_runs 104 = .ok (.iaload, 1) := by decide +kernel
theorem dX9_runs_105 : decode cX9_runs 105 = .ok (.istore 5, 2) := by decide +kernel
theorem dX9_runs_107 : decode cX9_runs 107 = .ok (.aload_n 0, 1) := by decide +kernel
theorem dX9_runs_108 : decode cX9_runs 108 = .ok (.iload 5, 2) := by decide +kernel
theorem dX9_runs_110 : decode cX9_runs 110 = .ok (.iload_n 3, 1) := by decide +kernel
theorem dX9_runs_111 : decode cX9_runs 111 = .ok (.iload 4, 2) := by decide +kernel
theorem dX9_runs_113 : decode cX9_runs 113 = .ok (.aload_n 0, 1) := by decide +kernel
theorem dX9_runs_114 : decode cX9_runs 114 = .ok (.getfield 32, 3) := by decide +kernel
theorem dX9_runs_117 : decode cX9_runs 117 = .ok (.invokevirtual 252, 3) := by decide +kernel
theorem dX9_runs_120 : decode cX9_runs 120 = .ok (.istore 6, 2) := by decide +kernel
theorem dX9_runs_122 : decode cX9_runs 122 = .ok (.iload 6, 2) := by decide +kernel
theorem dX9_runs_124 : decode cX9_runs 124 = .ok (.ifCond .ge 5, 3) := by decide +kernel
theorem dX9_runs_127 : decode cX9_runs 127 = .ok (.iconst 0, 1) := by decide +kernel
theorem dX9_runs_128 : decode cX9_runs 128 = .ok (.ireturn, 1) := by decide +kernel
theorem dX9_runs_129 : decode cX9_runs 129 = .ok (.aload_n 0, 1) := by decide +kernel
theorem dX9_runs_130 : decode cX9_runs 130 = .ok (.getfield 72, 3) := by decide +kernel
theorem dX9_runs_133 : decode cX9_runs 133 = .ok (.iconst 1, 1) := by decide +kernel
theorem dX9_runs_134 : decode cX9_runs 134 = .ok (.dup2, 1) := by decide +kernel
theorem dX9_runs_135 : decode cX9_runs 135 = .ok (.iaload, 1) := by decide +kernel
theorem dX9_runs_136 : decode cX9_runs 136 = .ok (.iconst 1, 1) := by decide +kernel
theorem dX9_runs_137 : decode cX9_runs 137 = .ok (.iadd, 1) := by decide +kernel
theorem dX9_runs_138 : decode cX9_runs 138 = .ok (.iastore, 1) := by decide +kernel
theorem dX9_runs_139 : decode cX9_runs 139 = .ok (.iload 5, 2) := by decide +kernel
theorem dX9_runs_141 : decode cX9_runs 141 = .ok (.ifCond .eq 9, 3) := by decide +kernel
theorem dX9_runs_144 : decode cX9_runs 144 = .ok (.iload 5, 2) := by decide +kernel
theorem dX9_runs_146 : decode cX9_runs 146 = .ok (.iconst 1, 1) := by decide +kernel
theorem dX9_runs_147 : decode cX9_runs 147 = .ok (.if_icmp .ne 11, 3) := by decide +kernel
theorem dX9_runs_150 : decode cX9_runs 150 = .ok (.aload_n 0, 1) := by decide +kernel
theorem dX9_runs_151 : decode cX9_runs 151 = .ok (.getfield 72, 3) := by decide +kernel
theorem dX9_runs_154 : decode cX9_runs 154 = .ok (.iconst 2, 1) := by decide +kernel
theorem dX9_runs_155 : decode cX9_runs 155 = .ok (.iload 6, 2) := by decide +kernel
theorem dX9_runs_157 : decode cX9_runs 157 = .ok (.iastore, 1) := by decide +kernel
theorem dX9_runs_158 : decode cX9_runs 158 = .ok (.iconst 1, 1) := by decide +kernel
theorem dX9_runs_159 : decode cX9_runs 159 = .ok (.ireturn, 1) := by decide +kernel
theorem dX9_valueOf_0 : decode cX9_valueOf 0 = .ok (.aload_n 0, 1) := by decide +kernel
theorem dX9_valueOf_1 : decode cX9_valueOf 1 = .ok (.getfield 12, 3) := by decide +kernel
theorem dX9_valueOf_4 : decode cX9_valueOf 4 = .ok (.getfield 256, 3) := by decide +kernel
theorem dX9_valueOf_7 : decode cX9_valueOf 7 = .ok (.aload_n 1, 1) := by decide +kernel
theorem dX9_valueOf_8 : decode cX9_valueOf 8 = .ok (.iload_n 2, 1) := by decide +kernel
theorem dX9_valueOf_9 : decode cX9_valueOf 9 = .ok (.aload_n 0, 1) := by decide +kernel
theorem dX9_valueOf_10 : decode cX9_valueOf 10 = .ok (.getfield 72, 3) := by decide +kernel
theorem dX9_valueOf_13 : decode cX9_valueOf 13 = .ok (.invokevirtual 260, 3) := by decide +kernel
theorem dX9_valueOf_16 : decode cX9_valueOf 16 = .ok (.ireturn, 1) := by decide +kernel
theorem dX9_tellOrderWords_0 : decode cX9_tellOrderWords 0 = .ok (.aload_n 0, 1) := by decide +kernel
theorem dX9_tellOrderWords_1 : decode cX9_tellOrderWords 1 = .ok (.getfield 72, 3) := by decide +kernel
theorem dX9_tellOrderWords_4 : decode cX9_tellOrderWords 4 = .ok (.iconst 0, 1) := by decide +kernel
theorem dX9_tellOrderWords_5 : decode cX9_tellOrderWords 5 = .ok (.aload_n 0, 1) := by decide +kernel
theorem dX9_tellOrderWords_6 : decode cX9_tellOrderWords 6 = .ok (.getfield 21, 3) := by decide +kernel
theorem dX9_tellOrderWords_9 : decode cX9_tellOrderWords 9 = .ok (.getfield 181, 3) := by decide +kernel
theorem dX9_tellOrderWords_12 : decode cX9_tellOrderWords 12 = .ok (.iconst 0, 1) := by decide +kernel
theorem dX9_tellOrderWords_13 : decode cX9_tellOrderWords 13 = .ok (.iaload, 1) := by decide +kernel
theorem dX9_tellOrderWords_14 : decode cX9_tellOrderWords 14 = .ok (.iastore, 1) := by decide +kernel
theorem dX9_tellOrderWords_15 : decode cX9_tellOrderWords 15 = .ok (.aload_n 0, 1) := by decide +kernel
theorem dX9_tellOrderWords_16 : decode cX9_tellOrderWords 16 = .ok (.getfield 72, 3) := by decide +kernel
theorem dX9_tellOrderWords_19 : decode cX9_tellOrderWords 19 = .ok (.iconst 3, 1) := by decide +kernel
theorem dX9_tellOrderWords_20 : decode cX9_tellOrderWords 20 = .ok (.aload_n 0, 1) := by decide +kernel
theorem dX9_tellOrderWords_21 : decode cX9_tellOrderWords 21 = .ok (.getfield 21, 3) := by decide +kernel
theorem dX9_tellOrderWords_24 : decode cX9_tellOrderWords 24 = .ok (.getfield 266, 3) := by decide +kernel
theorem dX9_tellOrderWords_27 : decode cX9_tellOrderWords 27 = .ok (.iastore, 1) := by decide +kernel
theorem dX9_tellOrderWords_28 : decode cX9_tellOrderWords 28 = .ok (.iconst 0, 1) := by decide +kernel
theorem dX9_tellOrderWords_29 : decode cX9_tellOrderWords 29 = .ok (.istore_n 1, 1) := by decide +kernel
theorem dX9_tellOrderWords_30 : decode cX9_tellOrderWords 30 = .ok (.iload_n 1, 1) := by decide +kernel
theorem dX9_tellOrderWords_31 : decode cX9_tellOrderWords 31 = .ok (.bipush 6, 2) := by decide +kernel
theorem dX9_tellOrderWords_33 : decode cX9_tellOrderWords 33 = .ok (.if_icmp .ge 74, 3) := by decide +kernel
theorem dX9_tellOrderWords_36 : decode cX9_tellOrderWords 36 = .ok (.aload_n 0, 1) := by decide +kernel
theorem dX9_tellOrderWords_37 : decode cX9_tellOrderWords 37 = .ok (.getfield 72, 3) := by decide +kernel
theorem dX9_tellOrderWords_40 : decode cX9_tellOrderWords 40 = .ok (.iconst 4, 1) := by decide +kernel
theorem dX9_tellOrderWords_41 : decode cX9_tellOrderWords 41 = .ok (.iload_n 1, 1) := by decide +kernel
theorem dX9_tellOrderWords_42 : decode cX9_tellOrderWords 42 = .ok (.iadd, 1) := by decide +kernel
theorem dX9_tellOrderWords_43 : decode cX9_tellOrderWords 43 = .ok (.aload_n 0, 1) := by decide +kernel
theorem dX9_tellOrderWords_44 : decode cX9_tellOrderWords 44 = .ok (.getfield 21, 3) := by decide +kernel
theorem dX9_tellOrderWords_47 : decode cX9_tellOrderWords 47 = .ok (.iload_n 1, 1) := by decide +kernel
theorem dX9_tellOrderWords_48 : decode cX9_tellOrderWords 48 = .ok (.invokevirtual 140, 3) := by decide +kernel
theorem dX9_tellOrderWords_51 : decode cX9_tellOrderWords 51 = .ok (.ifCond .eq 15, 3) := by decide +kernel
theorem dX9_tellOrderWords_54 : decode cX9_tellOrderWords 54 = .ok (.aload_n 0, 1) := by decide +kernel
theorem dX9_tellOrderWords_55 : decode cX9_tellOrderWords 55 = .ok (.getfield 21, 3) := by decide +kernel
theorem dX9_tellOrderWords_58 : decode cX9_tellOrderWords 58 = .ok (.getfield 152, 3) := by decide +kernel
theorem dX9_tellOrderWords_61 : decode cX9_tellOrderWords 61 = .ok (.iload_n 1, 1) := by decide +kernel
theorem dX9_tellOrderWords_62 : decode cX9_tellOrderWords 62 = .ok (.iaload, 1) := by decide +kernel
theorem dX9_tellOrderWords_63 : decode cX9_tellOrderWords 63 = .ok (.goto 4, 3) := by decide +kernel
theorem dX9_tellOrderWords_66 : decode cX9_tellOrderWords 66 = .ok (.iconst (-1), 1) := by decide +kernel
theorem dX9_tellOrderWords_67 : decode cX9_tellOrderWords 67 = .ok (.iastore, 1) := by decide +kernel
theorem dX9_tellOrderWords_68 : decode cX9_tellOrderWords 68 = .ok (.aload_n 0, 1) := by decide +kernel
theorem dX9_tellOrderWords_69 : decode cX9_tellOrderWords 69 = .ok (.getfield 72, 3) := by decide +kernel
theorem dX9_tellOrderWords_72 : decode cX9_tellOrderWords 72 = .ok (.bipush 10, 2) := by decide +kernel
theorem dX9_tellOrderWords_74 : decode cX9_tellOrderWords 74 = .ok (.iload_n 1, 1) := by decide +kernel
theorem dX9_tellOrderWords_75 : decode cX9_tellOrderWords 75 = .ok (.iadd, 1) := by decide +kernel
theorem dX9_tellOrderWords_76 : decode cX9_tellOrderWords 76 = .ok (.aload_n 0, 1) := by decide +kernel
theorem dX9_tellOrderWords_77 : decode cX9_tellOrderWords 77 = .ok (.getfield 21, 3) := by decide +kernel
theorem dX9_tellOrderWords_80 : decode cX9_tellOrderWords 80 = .ok (.iload_n 1, 1) := by decide +kernel
theorem dX9_tellOrderWords_81 : decode cX9_tellOrderWords 81 = .ok (.invokevirtual 140, 3) := by decide +kernel
theorem dX9_tellOrderWords_84 : decode cX9_tellOrderWords 84 = .ok (.ifCond .eq 15, 3) := by decide +kernel
theorem dX9_tellOrderWords_87 : decode cX9_tellOrderWords 87 = .ok (.aload_n 0, 1) := by decide +kernel
theorem dX9_tellOrderWords_88 : decode cX9_tellOrderWords 88 = .ok (.getfield 21, 3) := by decide +kernel
theorem dX9_tellOrderWords_91 : decode cX9_tellOrderWords 91 = .ok (.getfield 149, 3) := by decide +kernel
theorem dX9_tellOrderWords_94 : decode cX9_tellOrderWords 94 = .ok (.iload_n 1, 1) := by decide +kernel
theorem dX9_tellOrderWords_95 : decode cX9_tellOrderWords 95 = .ok (.iaload, 1) := by decide +kernel
theorem dX9_tellOrderWords_96 : decode cX9_tellOrderWords 96 = .ok (.goto 4, 3) := by decide +kernel
theorem dX9_tellOrderWords_99 : decode cX9_tellOrderWords 99 = .ok (.iconst (-1), 1) := by decide +kernel
theorem dX9_tellOrderWords_100 : decode cX9_tellOrderWords 100 = .ok (.iastore, 1) := by decide +kernel
theorem dX9_tellOrderWords_101 : decode cX9_tellOrderWords 101 = .ok (.iinc 1 1, 3) := by decide +kernel
theorem dX9_tellOrderWords_104 : decode cX9_tellOrderWords 104 = .ok (.goto (-74), 3) := by decide +kernel
theorem dX9_tellOrderWords_107 : decode cX9_tellOrderWords 107 = .ok (.iconst 0, 1) := by decide +kernel
theorem dX9_tellOrderWords_108 : decode cX9_tellOrderWords 108 = .ok (.istore_n 1, 1) := by decide +kernel
theorem dX9_tellOrderWords_109 : decode cX9_tellOrderWords 109 = .ok (.iload_n 1, 1) := by decide +kernel
theorem dX9_tellOrderWords_110 : decode cX9_tellOrderWords 110 = .ok (.bipush 8, 2) := by decide +kernel
theorem dX9_tellOrderWords_112 : decode cX9_tellOrderWords 112 = .ok (.if_icmp .ge 42, 3) := by decide +kernel
theorem dX9_tellOrderWords_115 : decode cX9_tellOrderWords 115 = .ok (.aload_n 0, 1) := by decide +kernel
theorem dX9_tellOrderWords_116 : decode cX9_tellOrderWords 116 = .ok (.getfield 72, 3) := by decide +kernel
theorem dX9_tellOrderWords_119 : decode cX9_tellOrderWords 119 = .ok (.bipush 16, 2) := by decide +kernel
theorem dX9_tellOrderWords_121 : decode cX9_tellOrderWords 121 = .ok (.iload_n 1, 1) := by decide +kernel
theorem dX9_tellOrderWords_122 : decode cX9_tellOrderWords 122 = .ok (.iadd, 1) := by decide +kernel
theorem dX9_tellOrderWords_123 : decode cX9_tellOrderWords 123 = .ok (.aload_n 0, 1) := by decide +kernel
theorem dX9_tellOrderWords_124 : decode cX9_tellOrderWords 124 = .ok (.getfield 21, 3) := by decide +kernel
theorem dX9_tellOrderWords_127 : decode cX9_tellOrderWords 127 = .ok (.iload_n 1, 1) := by decide +kernel
theorem dX9_tellOrderWords_128 : decode cX9_tellOrderWords 128 = .ok (.invokevirtual 114, 3) := by decide +kernel
theorem dX9_tellOrderWords_131 : decode cX9_tellOrderWords 131 = .ok (.ifCond .eq 15, 3) := by decide +kernel
theorem dX9_tellOrderWords_134 : decode cX9_tellOrderWords 134 = .ok (.aload_n 0, 1) := by decide +kernel
theorem dX9_tellOrderWords_135 : decode cX9_tellOrderWords 135 = .ok (.getfield 21, 3) := by decide +kernel
theorem dX9_tellOrderWords_138 : decode cX9_tellOrderWords 138 = .ok (.getfield 127, 3) := by decide +kernel
theorem dX9_tellOrderWords_141 : decode cX9_tellOrderWords 141 = .ok (.iload_n 1, 1) := by decide +kernel
theorem dX9_tellOrderWords_142 : decode cX9_tellOrderWords 142 = .ok (.iaload, 1) := by decide +kernel
theorem dX9_tellOrderWords_143 : decode cX9_tellOrderWords 143 = .ok (.goto 4, 3) := by decide +kernel
theorem dX9_tellOrderWords_146 : decode cX9_tellOrderWords 146 = .ok (.iconst (-1), 1) := by decide +kernel
theorem dX9_tellOrderWords_147 : decode cX9_tellOrderWords 147 = .ok (.iastore, 1) := by decide +kernel
theorem dX9_tellOrderWords_148 : decode cX9_tellOrderWords 148 = .ok (.iinc 1 1, 3) := by decide +kernel
theorem dX9_tellOrderWords_151 : decode cX9_tellOrderWords 151 = .ok (.goto (-42), 3) := by decide +kernel
theorem dX9_tellOrderWords_154 : decode cX9_tellOrderWords 154 = .ok (.return_, 1) := by decide +kernel
theorem dX9_act_0 : decode cX9_act 0 = .ok (.iload_n 1, 1) := by decide +kernel
theorem dX9_act_1 : decode cX9_act 1 = .ok (.tableswitch 68 0 2 #[27, 41, 54], 27) := by decide +kernel
theorem dX9_act_28 : decode cX9_act 28 = .ok (.aload_n 0, 1) := by decide +kernel
theorem dX9_act_29 : decode cX9_act 29 = .ok (.getfield 21, 3) := by decide +kernel
theorem dX9_act_32 : decode cX9_act 32 = .ok (.iload_n 2, 1) := by decide +kernel
theorem dX9_act_33 : decode cX9_act 33 = .ok (.iload_n 3, 1) := by decide +kernel
theorem dX9_act_34 : decode cX9_act 34 = .ok (.invokevirtual 269, 3) := by decide +kernel
theorem dX9_act_37 : decode cX9_act 37 = .ok (.istore 5, 2) := by decide +kernel
theorem dX9_act_39 : decode cX9_act 39 = .ok (.goto 39, 3) := by decide +kernel
theorem dX9_act_42 : decode cX9_act 42 = .ok (.aload_n 0, 1) := by decide +kernel
theorem dX9_act_43 : decode cX9_act 43 = .ok (.getfield 21, 3) := by decide +kernel
theorem dX9_act_46 : decode cX9_act 46 = .ok (.iload_n 2, 1) := by decide +kernel
theorem dX9_act_47 : decode cX9_act 47 = .ok (.invokevirtual 272, 3) := by decide +kernel
theorem dX9_act_50 : decode cX9_act 50 = .ok (.istore 5, 2) := by decide +kernel
theorem dX9_act_52 : decode cX9_act 52 = .ok (.goto 26, 3) := by decide +kernel
theorem dX9_act_55 : decode cX9_act 55 = .ok (.aload_n 0, 1) := by decide +kernel
theorem dX9_act_56 : decode cX9_act 56 = .ok (.getfield 21, 3) := by decide +kernel
theorem dX9_act_59 : decode cX9_act 59 = .ok (.iload_n 2, 1) := by decide +kernel
theorem dX9_act_60 : decode cX9_act 60 = .ok (.iload_n 3, 1) := by decide +kernel
theorem dX9_act_61 : decode cX9_act 61 = .ok (.invokevirtual 275, 3) := by decide +kernel
theorem dX9_act_64 : decode cX9_act 64 = .ok (.istore 5, 2) := by decide +kernel
theorem dX9_act_66 : decode cX9_act 66 = .ok (.goto 12, 3) := by decide +kernel
theorem dX9_act_69 : decode cX9_act 69 = .ok (.aload_n 0, 1) := by decide +kernel
theorem dX9_act_70 : decode cX9_act 70 = .ok (.getfield 21, 3) := by decide +kernel
theorem dX9_act_73 : decode cX9_act 73 = .ok (.invokevirtual 278, 3) := by decide +kernel
theorem dX9_act_76 : decode cX9_act 76 = .ok (.istore 5, 2) := by decide +kernel
theorem dX9_act_78 : decode cX9_act 78 = .ok (.iload 5, 2) := by decide +kernel
theorem dX9_act_80 : decode cX9_act 80 = .ok (.ifCond .eq 6, 3) := by decide +kernel
theorem dX9_act_83 : decode cX9_act 83 = .ok (.iload 5, 2) := by decide +kernel
theorem dX9_act_85 : decode cX9_act 85 = .ok (.ireturn, 1) := by decide +kernel
theorem dX9_act_86 : decode cX9_act 86 = .ok (.aload 4, 2) := by decide +kernel
theorem dX9_act_88 : decode cX9_act 88 = .ok (.aload_n 0, 1) := by decide +kernel
theorem dX9_act_89 : decode cX9_act 89 = .ok (.getfield 21, 3) := by decide +kernel
theorem dX9_act_92 : decode cX9_act 92 = .ok (.iload_n 1, 1) := by decide +kernel
theorem dX9_act_93 : decode cX9_act 93 = .ok (.invokevirtual 282, 3) := by decide +kernel
theorem dX9_act_96 : decode cX9_act 96 = .ok (.iload_n 1, 1) := by decide +kernel
theorem dX9_act_97 : decode cX9_act 97 = .ok (.tableswitch 56 0 2 #[27, 37, 46], 27) := by decide +kernel
theorem dX9_act_124 : decode cX9_act 124 = .ok (.aload_n 0, 1) := by decide +kernel
theorem dX9_act_125 : decode cX9_act 125 = .ok (.getfield 21, 3) := by decide +kernel
theorem dX9_act_128 : decode cX9_act 128 = .ok (.iload_n 2, 1) := by decide +kernel
theorem dX9_act_129 : decode cX9_act 129 = .ok (.iload_n 3, 1) := by decide +kernel
theorem dX9_act_130 : decode cX9_act 130 = .ok (.invokevirtual 286, 3) := by decide +kernel
theorem dX9_act_133 : decode cX9_act 133 = .ok (.ireturn, 1) := by decide +kernel
theorem dX9_act_134 : decode cX9_act 134 = .ok (.aload_n 0, 1) := by decide +kernel
theorem dX9_act_135 : decode cX9_act 135 = .ok (.getfield 21, 3) := by decide +kernel
theorem dX9_act_138 : decode cX9_act 138 = .ok (.iload_n 2, 1) := by decide +kernel
theorem dX9_act_139 : decode cX9_act 139 = .ok (.invokevirtual 289, 3) := by decide +kernel
theorem dX9_act_142 : decode cX9_act 142 = .ok (.ireturn, 1) := by decide +kernel
theorem dX9_act_143 : decode cX9_act 143 = .ok (.aload_n 0, 1) := by decide +kernel
theorem dX9_act_144 : decode cX9_act 144 = .ok (.getfield 21, 3) := by decide +kernel
theorem dX9_act_147 : decode cX9_act 147 = .ok (.iload_n 2, 1) := by decide +kernel
theorem dX9_act_148 : decode cX9_act 148 = .ok (.iload_n 3, 1) := by decide +kernel
theorem dX9_act_149 : decode cX9_act 149 = .ok (.invokevirtual 292, 3) := by decide +kernel
theorem dX9_act_152 : decode cX9_act 152 = .ok (.ireturn, 1) := by decide +kernel
theorem dX9_act_153 : decode cX9_act 153 = .ok (.aload_n 0, 1) := by decide +kernel
theorem dX9_act_154 : decode cX9_act 154 = .ok (.getfield 21, 3) := by decide +kernel
theorem dX9_act_157 : decode cX9_act 157 = .ok (.invokevirtual 295, 3) := by decide +kernel
theorem dX9_act_160 : decode cX9_act 160 = .ok (.ireturn, 1) := by decide +kernel
theorem dX9_fault_0 : decode cX9_fault 0 = .ok (.aload_n 0, 1) := by decide +kernel
theorem dX9_fault_1 : decode cX9_fault 1 = .ok (.getfield 53, 3) := by decide +kernel
theorem dX9_fault_4 : decode cX9_fault 4 = .ok (.getfield 298, 3) := by decide +kernel
theorem dX9_fault_7 : decode cX9_fault 7 = .ok (.ireturn, 1) := by decide +kernel
theorem dX9_stopped_0 : decode cX9_stopped 0 = .ok (.aload_n 0, 1) := by decide +kernel
theorem dX9_stopped_1 : decode cX9_stopped 1 = .ok (.getfield 83, 3) := by decide +kernel
theorem dX9_stopped_4 : decode cX9_stopped 4 = .ok (.ireturn, 1) := by decide +kernel
theorem dX9_force_0 : decode cX9_force 0 = .ok (.iload_n 1, 1) := by decide +kernel
theorem dX9_force_1 : decode cX9_force 1 = .ok (.iconst (-1), 1) := by decide +kernel
theorem dX9_force_2 : decode cX9_force 2 = .ok (.if_icmp .eq 21, 3) := by decide +kernel
theorem dX9_force_5 : decode cX9_force 5 = .ok (.aload_n 0, 1) := by decide +kernel
theorem dX9_force_6 : decode cX9_force 6 = .ok (.getfield 12, 3) := by decide +kernel
theorem dX9_force_9 : decode cX9_force 9 = .ok (.iload_n 1, 1) := by decide +kernel
theorem dX9_force_10 : decode cX9_force 10 = .ok (.invokevirtual 301, 3) := by decide +kernel
theorem dX9_force_13 : decode cX9_force 13 = .ok (.ifCond .ne 10, 3) := by decide +kernel
theorem dX9_force_16 : decode cX9_force 16 = .ok (.aload_n 0, 1) := by decide +kernel
theorem dX9_force_17 : decode cX9_force 17 = .ok (.bipush (-2), 2) := by decide +kernel
theorem dX9_force_19 : decode cX9_force 19 = .ok (.invokevirtual 89, 3) := by decide +kernel
theorem dX9_force_22 : decode cX9_force 22 = .ok (.ireturn, 1) := by decide +kernel
theorem dX9_force_23 : decode cX9_force 23 = .ok (.aload_n 0, 1) := by decide +kernel
theorem dX9_force_24 : decode cX9_force 24 = .ok (.getfield 12, 3) := by decide +kernel
theorem dX9_force_27 : decode cX9_force 27 = .ok (.getfield 161, 3) := by decide +kernel
theorem dX9_force_30 : decode cX9_force 30 = .ok (.istore_n 2, 1) := by decide +kernel
theorem dX9_force_31 : decode cX9_force 31 = .ok (.aload_n 0, 1) := by decide +kernel
theorem dX9_force_32 : decode cX9_force 32 = .ok (.getfield 12, 3) := by decide +kernel
theorem dX9_force_35 : decode cX9_force 35 = .ok (.iload_n 1, 1) := by decide +kernel
theorem dX9_force_36 : decode cX9_force 36 = .ok (.putfield 161, 3) := by decide +kernel
theorem dX9_force_39 : decode cX9_force 39 = .ok (.aload_n 0, 1) := by decide +kernel
theorem dX9_force_40 : decode cX9_force 40 = .ok (.iload_n 2, 1) := by decide +kernel
theorem dX9_force_41 : decode cX9_force 41 = .ok (.invokevirtual 93, 3) := by decide +kernel
theorem dX9_force_44 : decode cX9_force 44 = .ok (.ireturn, 1) := by decide +kernel
theorem dX9_lend_0 : decode cX9_lend 0 = .ok (.aload_n 0, 1) := by decide +kernel
theorem dX9_lend_1 : decode cX9_lend 1 = .ok (.aload_n 0, 1) := by decide +kernel
theorem dX9_lend_2 : decode cX9_lend 2 = .ok (.iconst 0, 1) := by decide +kernel
theorem dX9_lend_3 : decode cX9_lend 3 = .ok (.iload_n 1, 1) := by decide +kernel
theorem dX9_lend_4 : decode cX9_lend 4 = .ok (.iload_n 2, 1) := by decide +kernel
theorem dX9_lend_5 : decode cX9_lend 5 = .ok (.aload_n 0, 1) := by decide +kernel
theorem dX9_lend_6 : decode cX9_lend 6 = .ok (.getfield 28, 3) := by decide +kernel
theorem dX9_lend_9 : decode cX9_lend 9 = .ok (.invokevirtual 252, 3) := by decide +kernel
theorem dX9_lend_12 : decode cX9_lend 12 = .ok (.invokevirtual 304, 3) := by decide +kernel
theorem dX9_lend_15 : decode cX9_lend 15 = .ok (.ireturn, 1) := by decide +kernel
theorem dX9_bring_0 : decode cX9_bring 0 = .ok (.aload_n 0, 1) := by decide +kernel
theorem dX9_bring_1 : decode cX9_bring 1 = .ok (.aload_n 0, 1) := by decide +kernel
theorem dX9_bring_2 : decode cX9_bring 2 = .ok (.iconst 1, 1) := by decide +kernel
theorem dX9_bring_3 : decode cX9_bring 3 = .ok (.iload_n 1, 1) := by decide +kernel
theorem dX9_bring_4 : decode cX9_bring 4 = .ok (.iconst 0, 1) := by decide +kernel
theorem dX9_bring_5 : decode cX9_bring 5 = .ok (.aload_n 0, 1) := by decide +kernel
theorem dX9_bring_6 : decode cX9_bring 6 = .ok (.getfield 28, 3) := by decide +kernel
theorem dX9_bring_9 : decode cX9_bring 9 = .ok (.invokevirtual 252, 3) := by decide +kernel
theorem dX9_bring_12 : decode cX9_bring 12 = .ok (.invokevirtual 304, 3) := by decide +kernel
theorem dX9_bring_15 : decode cX9_bring 15 = .ok (.ireturn, 1) := by decide +kernel
theorem dX9_waits_0 : decode cX9_waits 0 = .ok (.aload_n 0, 1) := by decide +kernel
theorem dX9_waits_1 : decode cX9_waits 1 = .ok (.aload_n 0, 1) := by decide +kernel
theorem dX9_waits_2 : decode cX9_waits 2 = .ok (.iconst 2, 1) := by decide +kernel
theorem dX9_waits_3 : decode cX9_waits 3 = .ok (.iload_n 1, 1) := by decide +kernel
theorem dX9_waits_4 : decode cX9_waits 4 = .ok (.iload_n 2, 1) := by decide +kernel
theorem dX9_waits_5 : decode cX9_waits 5 = .ok (.aload_n 0, 1) := by decide +kernel
theorem dX9_waits_6 : decode cX9_waits 6 = .ok (.getfield 28, 3) := by decide +kernel
theorem dX9_waits_9 : decode cX9_waits 9 = .ok (.invokevirtual 252, 3) := by decide +kernel
theorem dX9_waits_12 : decode cX9_waits 12 = .ok (.invokevirtual 304, 3) := by decide +kernel
theorem dX9_waits_15 : decode cX9_waits 15 = .ok (.ireturn, 1) := by decide +kernel
theorem dX9_pass_0 : decode cX9_pass 0 = .ok (.aload_n 0, 1) := by decide +kernel
theorem dX9_pass_1 : decode cX9_pass 1 = .ok (.aload_n 0, 1) := by decide +kernel
theorem dX9_pass_2 : decode cX9_pass 2 = .ok (.iconst 3, 1) := by decide +kernel
theorem dX9_pass_3 : decode cX9_pass 3 = .ok (.iconst 0, 1) := by decide +kernel
theorem dX9_pass_4 : decode cX9_pass 4 = .ok (.iconst 0, 1) := by decide +kernel
theorem dX9_pass_5 : decode cX9_pass 5 = .ok (.aload_n 0, 1) := by decide +kernel
theorem dX9_pass_6 : decode cX9_pass 6 = .ok (.getfield 28, 3) := by decide +kernel
theorem dX9_pass_9 : decode cX9_pass 9 = .ok (.invokevirtual 252, 3) := by decide +kernel
theorem dX9_pass_12 : decode cX9_pass 12 = .ok (.invokevirtual 304, 3) := by decide +kernel
theorem dX9_pass_15 : decode cX9_pass 15 = .ok (.ireturn, 1) := by decide +kernel
theorem dX9_undo_0 : decode cX9_undo 0 = .ok (.aload_n 0, 1) := by decide +kernel
theorem dX9_undo_1 : decode cX9_undo 1 = .ok (.getfield 28, 3) := by decide +kernel
theorem dX9_undo_4 : decode cX9_undo 4 = .ok (.getfield 307, 3) := by decide +kernel
theorem dX9_undo_7 : decode cX9_undo 7 = .ok (.ifCond .ne 10, 3) := by decide +kernel
theorem dX9_undo_10 : decode cX9_undo 10 = .ok (.aload_n 0, 1) := by decide +kernel
theorem dX9_undo_11 : decode cX9_undo 11 = .ok (.bipush (-3), 2) := by decide +kernel
theorem dX9_undo_13 : decode cX9_undo 13 = .ok (.invokevirtual 89, 3) := by decide +kernel
theorem dX9_undo_16 : decode cX9_undo 16 = .ok (.ireturn, 1) := by decide +kernel
theorem dX9_undo_17 : decode cX9_undo 17 = .ok (.aload_n 0, 1) := by decide +kernel
theorem dX9_undo_18 : decode cX9_undo 18 = .ok (.aload_n 0, 1) := by decide +kernel
theorem dX9_undo_19 : decode cX9_undo 19 = .ok (.getfield 28, 3) := by decide +kernel
theorem dX9_undo_22 : decode cX9_undo 22 = .ok (.aload_n 0, 1) := by decide +kernel
theorem dX9_undo_23 : decode cX9_undo 23 = .ok (.getfield 21, 3) := by decide +kernel
theorem dX9_undo_26 : decode cX9_undo 26 = .ok (.invokevirtual 308, 3) := by decide +kernel
theorem dX9_undo_29 : decode cX9_undo 29 = .ok (.invokevirtual 93, 3) := by decide +kernel
theorem dX9_undo_32 : decode cX9_undo 32 = .ok (.ireturn, 1) := by decide +kernel
theorem dX9_served_0 : decode cX9_served 0 = .ok (.iload_n 1, 1) := by decide +kernel
theorem dX9_served_1 : decode cX9_served 1 = .ok (.iconst 0, 1) := by decide +kernel
theorem dX9_served_2 : decode cX9_served 2 = .ok (.aload_n 0, 1) := by decide +kernel
theorem dX9_served_3 : decode cX9_served 3 = .ok (.getfield 21, 3) := by decide +kernel
theorem dX9_served_6 : decode cX9_served 6 = .ok (.getfield 133, 3) := by decide +kernel
theorem dX9_served_9 : decode cX9_served 9 = .ok (.invokestatic 96, 3) := by decide +kernel
theorem dX9_served_12 : decode cX9_served 12 = .ok (.ifCond .ne 5, 3) := by decide +kernel
theorem dX9_served_15 : decode cX9_served 15 = .ok (.iconst (-1), 1) := by decide +kernel
theorem dX9_served_16 : decode cX9_served 16 = .ok (.ireturn, 1) := by decide +kernel
theorem dX9_served_17 : decode cX9_served 17 = .ok (.aload_n 0, 1) := by decide +kernel
theorem dX9_served_18 : decode cX9_served 18 = .ok (.getfield 62, 3) := by decide +kernel
theorem dX9_served_21 : decode cX9_served 21 = .ok (.invokevirtual 312, 3) := by decide +kernel
theorem dX9_served_24 : decode cX9_served 24 = .ok (.aload_n 0, 1) := by decide +kernel
theorem dX9_served_25 : decode cX9_served 25 = .ok (.getfield 62, 3) := by decide +kernel
theorem dX9_served_28 : decode cX9_served 28 = .ok (.iload_n 1, 1) := by decide +kernel
theorem dX9_served_29 : decode cX9_served 29 = .ok (.invokevirtual 315, 3) := by decide +kernel
theorem dX9_served_32 : decode cX9_served 32 = .ok (.ireturn, 1) := by decide +kernel
theorem dX9_turn_0 : decode cX9_turn 0 = .ok (.aload_n 0, 1) := by decide +kernel
theorem dX9_turn_1 : decode cX9_turn 1 = .ok (.getfield 21, 3) := by decide +kernel
theorem dX9_turn_4 : decode cX9_turn 4 = .ok (.iload_n 1, 1) := by decide +kernel
theorem dX9_turn_5 : decode cX9_turn 5 = .ok (.invokevirtual 140, 3) := by decide +kernel
theorem dX9_turn_8 : decode cX9_turn 8 = .ok (.ifCond .eq 14, 3) := by decide +kernel
theorem dX9_turn_11 : decode cX9_turn 11 = .ok (.aload_n 0, 1) := by decide +kernel
theorem dX9_turn_12 : decode cX9_turn 12 = .ok (.getfield 21, 3) := by decide +kernel
theorem dX9_turn_15 : decode cX9_turn 15 = .ok (.iload_n 1, 1) := by decide +kernel
theorem dX9_turn_16 : decode cX9_turn 16 = .ok (.invokevirtual 318, 3) := by decide +kernel
theorem dX9_turn_19 : decode cX9_turn 19 = .ok (.goto 4, 3) := by decide +kernel
theorem dX9_turn_22 : decode cX9_turn 22 = .ok (.iconst (-1), 1) := by decide +kernel
theorem dX9_turn_23 : decode cX9_turn 23 = .ok (.ireturn, 1) := by decide +kernel
theorem dX9_way_0 : decode cX9_way 0 = .ok (.iload_n 1, 1) := by decide +kernel
theorem dX9_way_1 : decode cX9_way 1 = .ok (.iconst 0, 1) := by decide +kernel
theorem dX9_way_2 : decode cX9_way 2 = .ok (.bipush 63, 2) := by decide +kernel
theorem dX9_way_4 : decode cX9_way 4 = .ok (.invokestatic 96, 3) := by decide +kernel
theorem dX9_way_7 : decode cX9_way 7 = .ok (.ifCond .eq 13, 3) := by decide +kernel
theorem dX9_way_10 : decode cX9_way 10 = .ok (.iload_n 2, 1) := by decide +kernel
theorem dX9_way_11 : decode cX9_way 11 = .ok (.iconst 0, 1) := by decide +kernel
theorem dX9_way_12 : decode cX9_way 12 = .ok (.bipush 63, 2) := by decide +kernel
theorem dX9_way_14 : decode cX9_way 14 = .ok (.invokestatic 96, 3) := by decide +kernel
theorem dX9_way_17 : decode cX9_way 17 = .ok (.ifCond .ne 5, 3) := by decide +kernel
theorem dX9_way_20 : decode cX9_way 20 = .ok (.iconst (-1), 1) := by decide +kernel
theorem dX9_way_21 : decode cX9_way 21 = .ok (.ireturn, 1) := by decide +kernel
theorem dX9_way_22 : decode cX9_way 22 = .ok (.aload_n 0, 1) := by decide +kernel
theorem dX9_way_23 : decode cX9_way 23 = .ok (.getfield 62, 3) := by decide +kernel
theorem dX9_way_26 : decode cX9_way 26 = .ok (.iload_n 1, 1) := by decide +kernel
theorem dX9_way_27 : decode cX9_way 27 = .ok (.iload_n 2, 1) := by decide +kernel
theorem dX9_way_28 : decode cX9_way 28 = .ok (.iload_n 3, 1) := by decide +kernel
theorem dX9_way_29 : decode cX9_way 29 = .ok (.invokevirtual 321, 3) := by decide +kernel
theorem dX9_way_32 : decode cX9_way 32 = .ok (.ireturn, 1) := by decide +kernel
theorem dX9_sets_0 : decode cX9_sets 0 = .ok (.aload_n 0, 1) := by decide +kernel
theorem dX9_sets_1 : decode cX9_sets 1 = .ok (.getfield 21, 3) := by decide +kernel
theorem dX9_sets_4 : decode cX9_sets 4 = .ok (.iload_n 1, 1) := by decide +kernel
theorem dX9_sets_5 : decode cX9_sets 5 = .ok (.invokevirtual 140, 3) := by decide +kernel
theorem dX9_sets_8 : decode cX9_sets 8 = .ok (.ifCond .eq 13, 3) := by decide +kernel
theorem dX9_sets_11 : decode cX9_sets 11 = .ok (.iload_n 2, 1) := by decide +kernel
theorem dX9_sets_12 : decode cX9_sets 12 = .ok (.iconst 0, 1) := by decide +kernel
theorem dX9_sets_13 : decode cX9_sets 13 = .ok (.bipush 63, 2) := by decide +kernel
theorem dX9_sets_15 : decode cX9_sets 15 = .ok (.invokestatic 96, 3) := by decide +kernel
theorem dX9_sets_18 : decode cX9_sets 18 = .ok (.ifCond .ne 5, 3) := by decide +kernel
theorem dX9_sets_21 : decode cX9_sets 21 = .ok (.iconst (-1), 1) := by decide +kernel
theorem dX9_sets_22 : decode cX9_sets 22 = .ok (.ireturn, 1) := by decide +kernel
theorem dX9_sets_23 : decode cX9_sets 23 = .ok (.aload_n 0, 1) := by decide +kernel
theorem dX9_sets_24 : decode cX9_sets 24 = .ok (.getfield 62, 3) := by decide +kernel
theorem dX9_sets_27 : decode cX9_sets 27 = .ok (.iload_n 2, 1) := by decide +kernel
theorem dX9_sets_28 : decode cX9_sets 28 = .ok (.aload_n 0, 1) := by decide +kernel
theorem dX9_sets_29 : decode cX9_sets 29 = .ok (.getfield 21, 3) := by decide +kernel
theorem dX9_sets_32 : decode cX9_sets 32 = .ok (.getfield 143, 3) := by decide +kernel
theorem dX9_sets_35 : decode cX9_sets 35 = .ok (.iload_n 1, 1) := by decide +kernel
theorem dX9_sets_36 : decode cX9_sets 36 = .ok (.iaload, 1) := by decide +kernel
theorem dX9_sets_37 : decode cX9_sets 37 = .ok (.invokevirtual 325, 3) := by decide +kernel
theorem dX9_sets_40 : decode cX9_sets 40 = .ok (.istore 4, 2) := by decide +kernel
theorem dX9_sets_42 : decode cX9_sets 42 = .ok (.iload_n 3, 1) := by decide +kernel
theorem dX9_sets_43 : decode cX9_sets 43 = .ok (.iconst (-1), 1) := by decide +kernel
theorem dX9_sets_44 : decode cX9_sets 44 = .ok (.if_icmp .ne 8, 3) := by decide +kernel
theorem dX9_sets_47 : decode cX9_sets 47 = .ok (.iload 4, 2) := by decide +kernel
theorem dX9_sets_49 : decode cX9_sets 49 = .ok (.goto 11, 3) := by decide +kernel
theorem dX9_sets_52 : decode cX9_sets 52 = .ok (.aload_n 0, 1) := by decide +kernel
theorem dX9_sets_53 : decode cX9_sets 53 = .ok (.getfield 62, 3) := by decide +kernel
theorem dX9_sets_56 : decode cX9_sets 56 = .ok (.iload_n 3, 1) := by decide +kernel
theorem dX9_sets_57 : decode cX9_sets 57 = .ok (.invokevirtual 328, 3) := by decide +kernel
theorem dX9_sets_60 : decode cX9_sets 60 = .ok (.ireturn, 1) := by decide +kernel
theorem dX9_ask_0 : decode cX9_ask 0 = .ok (.aload_n 0, 1) := by decide +kernel
theorem dX9_ask_1 : decode cX9_ask 1 = .ok (.getfield 21, 3) := by decide +kernel
theorem dX9_ask_4 : decode cX9_ask 4 = .ok (.iload_n 1, 1) := by decide +kernel
theorem dX9_ask_5 : decode cX9_ask 5 = .ok (.invokevirtual 140, 3) := by decide +kernel
theorem dX9_ask_8 : decode cX9_ask 8 = .ok (.ifCond .eq 22, 3) := by decide +kernel
theorem dX9_ask_11 : decode cX9_ask 11 = .ok (.iload_n 2, 1) := by decide +kernel
theorem dX9_ask_12 : decode cX9_ask 12 = .ok (.iconst 0, 1) := by decide +kernel
theorem dX9_ask_13 : decode cX9_ask 13 = .ok (.bipush 63, 2) := by decide +kernel
theorem dX9_ask_15 : decode cX9_ask 15 = .ok (.invokestatic 96, 3) := by decide +kernel
theorem dX9_ask_18 : decode cX9_ask 18 = .ok (.ifCond .eq 12, 3) := by decide +kernel
theorem dX9_ask_21 : decode cX9_ask 21 = .ok (.iload_n 3, 1) := by decide +kernel
theorem dX9_ask_22 : decode cX9_ask 22 = .ok (.iconst 0, 1) := by decide +kernel
theorem dX9_ask_23 : decode cX9_ask 23 = .ok (.iconst 1, 1) := by decide +kernel
theorem dX9_ask_24 : decode cX9_ask 24 = .ok (.invokestatic 96, 3) := by decide +kernel
theorem dX9_ask_27 : decode cX9_ask 27 = .ok (.ifCond .ne 5, 3) := by decide +kernel
theorem dX9_ask_30 : decode cX9_ask 30 = .ok (.iconst (-1), 1) := by decide +kernel
theorem dX9_ask_31 : decode cX9_ask 31 = .ok (.ireturn, 1) := by decide +kernel
theorem dX9_ask_32 : decode cX9_ask 32 = .ok (.aload_n 0, 1) := by decide +kernel
theorem dX9_ask_33 : decode cX9_ask 33 = .ok (.getfield 62, 3) := by decide +kernel
theorem dX9_ask_36 : decode cX9_ask 36 = .ok (.iload_n 2, 1) := by decide +kernel
theorem dX9_ask_37 : decode cX9_ask 37 = .ok (.aload_n 0, 1) := by decide +kernel
theorem dX9_ask_38 : decode cX9_ask 38 = .ok (.getfield 21, 3) := by decide +kernel
theorem dX9_ask_41 : decode cX9_ask 41 = .ok (.getfield 143, 3) := by decide +kernel
theorem dX9_ask_44 : decode cX9_ask 44 = .ok (.iload_n 1, 1) := by decide +kernel
theorem dX9_ask_45 : decode cX9_ask 45 = .ok (.iaload, 1) := by decide +kernel
theorem dX9_ask_46 : decode cX9_ask 46 = .ok (.invokevirtual 325, 3) := by decide +kernel
theorem dX9_ask_49 : decode cX9_ask 49 = .ok (.istore 4, 2) := by decide +kernel
theorem dX9_ask_51 : decode cX9_ask 51 = .ok (.iload 4, 2) := by decide +kernel
theorem dX9_ask_53 : decode cX9_ask 53 = .ok (.ifCond .ne 7, 3) := by decide +kernel
theorem dX9_ask_56 : decode cX9_ask 56 = .ok (.iconst (-1), 1) := by decide +kernel
theorem dX9_ask_57 : decode cX9_ask 57 = .ok (.goto 13, 3) := by decide +kernel
theorem dX9_ask_60 : decode cX9_ask 60 = .ok (.aload_n 0, 1) := by decide +kernel
theorem dX9_ask_61 : decode cX9_ask 61 = .ok (.getfield 62, 3) := by decide +kernel
theorem dX9_ask_64 : decode cX9_ask 64 = .ok (.iload 4, 2) := by decide +kernel
theorem dX9_ask_66 : decode cX9_ask 66 = .ok (.iload_n 3, 1) := by decide +kernel
theorem dX9_ask_67 : decode cX9_ask 67 = .ok (.invokevirtual 331, 3) := by decide +kernel
theorem dX9_ask_70 : decode cX9_ask 70 = .ok (.ireturn, 1) := by decide +kernel
theorem dX9_last_0 : decode cX9_last 0 = .ok (.aload_n 0, 1) := by decide +kernel
theorem dX9_last_1 : decode cX9_last 1 = .ok (.getfield 21, 3) := by decide +kernel
theorem dX9_last_4 : decode cX9_last 4 = .ok (.iload_n 1, 1) := by decide +kernel
theorem dX9_last_5 : decode cX9_last 5 = .ok (.invokevirtual 140, 3) := by decide +kernel
theorem dX9_last_8 : decode cX9_last 8 = .ok (.ifCond .eq 13, 3) := by decide +kernel
theorem dX9_last_11 : decode cX9_last 11 = .ok (.iload_n 2, 1) := by decide +kernel
theorem dX9_last_12 : decode cX9_last 12 = .ok (.iconst 0, 1) := by decide +kernel
theorem dX9_last_13 : decode cX9_last 13 = .ok (.bipush 63, 2) := by decide +kernel
theorem dX9_last_15 : decode cX9_last 15 = .ok (.invokestatic 96, 3) := by decide +kernel
theorem dX9_last_18 : decode cX9_last 18 = .ok (.ifCond .ne 5, 3) := by decide +kernel
theorem dX9_last_21 : decode cX9_last 21 = .ok (.iconst (-1), 1) := by decide +kernel
theorem dX9_last_22 : decode cX9_last 22 = .ok (.ireturn, 1) := by decide +kernel
theorem dX9_last_23 : decode cX9_last 23 = .ok (.aload_n 0, 1) := by decide +kernel
theorem dX9_last_24 : decode cX9_last 24 = .ok (.getfield 62, 3) := by decide +kernel
theorem dX9_last_27 : decode cX9_last 27 = .ok (.iload_n 2, 1) := by decide +kernel
theorem dX9_last_28 : decode cX9_last 28 = .ok (.aload_n 0, 1) := by decide +kernel
theorem dX9_last_29 : decode cX9_last 29 = .ok (.getfield 21, 3) := by decide +kernel
theorem dX9_last_32 : decode cX9_last 32 = .ok (.getfield 143, 3) := by decide +kernel
theorem dX9_last_35 : decode cX9_last 35 = .ok (.iload_n 1, 1) := by decide +kernel
theorem dX9_last_36 : decode cX9_last 36 = .ok (.iaload, 1) := by decide +kernel
theorem dX9_last_37 : decode cX9_last 37 = .ok (.invokevirtual 325, 3) := by decide +kernel
theorem dX9_last_40 : decode cX9_last 40 = .ok (.pop, 1) := by decide +kernel
theorem dX9_last_41 : decode cX9_last 41 = .ok (.aload_n 0, 1) := by decide +kernel
theorem dX9_last_42 : decode cX9_last 42 = .ok (.getfield 62, 3) := by decide +kernel
theorem dX9_last_45 : decode cX9_last 45 = .ok (.invokevirtual 334, 3) := by decide +kernel
theorem dX9_last_48 : decode cX9_last 48 = .ok (.ireturn, 1) := by decide +kernel
theorem dX9_nest_0 : decode cX9_nest 0 = .ok (.aload_n 0, 1) := by decide +kernel
theorem dX9_nest_1 : decode cX9_nest 1 = .ok (.getfield 62, 3) := by decide +kernel
theorem dX9_nest_4 : decode cX9_nest 4 = .ok (.iload_n 1, 1) := by decide +kernel
theorem dX9_nest_5 : decode cX9_nest 5 = .ok (.invokevirtual 337, 3) := by decide +kernel
theorem dX9_nest_8 : decode cX9_nest 8 = .ok (.ireturn, 1) := by decide +kernel
theorem dX9_all_0 : decode cX9_all 0 = .ok (.iload_n 1, 1) := by decide +kernel
theorem dX9_all_1 : decode cX9_all 1 = .ok (.iconst 0, 1) := by decide +kernel
theorem dX9_all_2 : decode cX9_all 2 = .ok (.iconst 1, 1) := by decide +kernel
theorem dX9_all_3 : decode cX9_all 3 = .ok (.invokestatic 96, 3) := by decide +kernel
theorem dX9_all_6 : decode cX9_all 6 = .ok (.ifCond .ne 5, 3) := by decide +kernel
theorem dX9_all_9 : decode cX9_all 9 = .ok (.iconst (-1), 1) := by decide +kernel
theorem dX9_all_10 : decode cX9_all 10 = .ok (.ireturn, 1) := by decide +kernel
theorem dX9_all_11 : decode cX9_all 11 = .ok (.aload_n 0, 1) := by decide +kernel
theorem dX9_all_12 : decode cX9_all 12 = .ok (.getfield 62, 3) := by decide +kernel
theorem dX9_all_15 : decode cX9_all 15 = .ok (.invokevirtual 340, 3) := by decide +kernel
theorem dX9_all_18 : decode cX9_all 18 = .ok (.istore_n 2, 1) := by decide +kernel
theorem dX9_all_19 : decode cX9_all 19 = .ok (.iload_n 1, 1) := by decide +kernel
theorem dX9_all_20 : decode cX9_all 20 = .ok (.ifCond .ne 10, 3) := by decide +kernel
theorem dX9_all_23 : decode cX9_all 23 = .ok (.iload_n 2, 1) := by decide +kernel
theorem dX9_all_24 : decode cX9_all 24 = .ok (.invokestatic 343, 3) := by decide +kernel
theorem dX9_all_27 : decode cX9_all 27 = .ok (.goto 4, 3) := by decide +kernel
theorem dX9_all_30 : decode cX9_all 30 = .ok (.iload_n 2, 1) := by decide +kernel
theorem dX9_all_31 : decode cX9_all 31 = .ok (.ireturn, 1) := by decide +kernel
theorem dX9_owed_0 : decode cX9_owed 0 = .ok (.iload_n 1, 1) := by decide +kernel
theorem dX9_owed_1 : decode cX9_owed 1 = .ok (.iconst (-1), 1) := by decide +kernel
theorem dX9_owed_2 : decode cX9_owed 2 = .ok (.if_icmp .eq 16, 3) := by decide +kernel
theorem dX9_owed_5 : decode cX9_owed 5 = .ok (.aload_n 0, 1) := by decide +kernel
theorem dX9_owed_6 : decode cX9_owed 6 = .ok (.getfield 12, 3) := by decide +kernel
theorem dX9_owed_9 : decode cX9_owed 9 = .ok (.iload_n 1, 1) := by decide +kernel
theorem dX9_owed_10 : decode cX9_owed 10 = .ok (.invokevirtual 301, 3) := by decide +kernel
theorem dX9_owed_13 : decode cX9_owed 13 = .ok (.ifCond .ne 5, 3) := by decide +kernel
theorem dX9_owed_16 : decode cX9_owed 16 = .ok (.iconst (-1), 1) := by decide +kernel
theorem dX9_owed_17 : decode cX9_owed 17 = .ok (.ireturn, 1) := by decide +kernel
theorem dX9_owed_18 : decode cX9_owed 18 = .ok (.iconst 0, 1) := by decide +kernel
theorem dX9_owed_19 : decode cX9_owed 19 = .ok (.istore_n 2, 1) := by decide +kernel
theorem dX9_owed_20 : decode cX9_owed 20 = .ok (.iconst 0, 1) := by decide +kernel
theorem dX9_owed_21 : decode cX9_owed 21 = .ok (.istore_n 3, 1) := by decide +kernel
theorem dX9_owed_22 : decode cX9_owed 22 = .ok (.iload_n 3, 1) := by decide +kernel
theorem dX9_owed_23 : decode cX9_owed 23 = .ok (.aload_n 0, 1) := by decide +kernel
theorem dX9_owed_24 : decode cX9_owed 24 = .ok (.getfield 21, 3) := by decide +kernel
theorem dX9_owed_27 : decode cX9_owed 27 = .ok (.getfield 133, 3) := by decide +kernel
theorem dX9_owed_30 : decode cX9_owed 30 = .ok (.if_icmp .ge 58, 3) := by decide +kernel
theorem dX9_owed_33 : decode cX9_owed 33 = .ok (.aload_n 0, 1) := by decide +kernel
theorem dX9_owed_34 : decode cX9_owed 34 = .ok (.getfield 21, 3) := by decide +kernel
theorem dX9_owed_37 : decode cX9_owed 37 = .ok (.getfield 152, 3) := by decide +kernel
theorem dX9_owed_40 : decode cX9_owed 40 = .ok (.iload_n 3, 1) := by decide +kernel
theorem dX9_owed_41 : decode cX9_owed 41 = .ok (.iaload, 1) := by decide +kernel
theorem dX9_owed_42 : decode cX9_owed 42 = .ok (.istore 4, 2) := by decide +kernel
theorem dX9_owed_44 : decode cX9_owed 44 = .ok (.iload 4, 2) := by decide +kernel
theorem dX9_owed_46 : decode cX9_owed 46 = .ok (.iconst (-1), 1) := by decide +kernel
theorem dX9_owed_47 : decode cX9_owed 47 = .ok (.if_icmp .eq 35, 3) := by decide +kernel
theorem dX9_owed_50 : decode cX9_owed 50 = .ok (.iload_n 2, 1) := by decide +kernel
theorem dX9_owed_51 : decode cX9_owed 51 = .ok (.aload_n 0, 1) := by decide +kernel
theorem dX9_owed_52 : decode cX9_owed 52 = .ok (.getfield 21, 3) := by decide +kernel
theorem dX9_owed_55 : decode cX9_owed 55 = .ok (.iload_n 3, 1) := by decide +kernel
theorem dX9_owed_56 : decode cX9_owed 56 = .ok (.aload_n 0, 1) := by decide +kernel
theorem dX9_owed_57 : decode cX9_owed 57 = .ok (.getfield 21, 3) := by decide +kernel
theorem dX9_owed_60 : decode cX9_owed 60 = .ok (.iconst 0, 1) := by decide +kernel
theorem dX9_owed_61 : decode cX9_owed 61 = .ok (.iload_n 1, 1) := by decide +kernel
theorem dX9_owed_62 : decode cX9_owed 62 = .ok (.iload 4, 2) := by decide +kernel
theorem dX9_owed_64 : decode cX9_owed 64 = .ok (.iload_n 3, 1) := by decide +kernel
theorem dX9_owed_65 : decode cX9_owed 65 = .ok (.aload_n 0, 1) := by decide +kernel
theorem dX9_owed_66 : decode cX9_owed 66 = .ok (.getfield 21, 3) := by decide +kernel
theorem dX9_owed_69 : decode cX9_owed 69 = .ok (.getfield 143, 3) := by decide +kernel
theorem dX9_owed_72 : decode cX9_owed 72 = .ok (.iload_n 3, 1) := by decide +kernel
theorem dX9_owed_73 : decode cX9_owed 73 = .ok (.iaload, 1) := by decide +kernel
theorem dX9_owed_74 : decode cX9_owed 74 = .ok (.invokevirtual 164, 3) := by decide +kernel
theorem dX9_owed_77 : decode cX9_owed 77 = .ok (.invokevirtual 348, 3) := by decide +kernel
theorem dX9_owed_80 : decode cX9_owed 80 = .ok (.iadd, 1) := by decide +kernel
theorem dX9_owed_81 : decode cX9_owed 81 = .ok (.istore_n 2, 1) := by decide +kernel
theorem dX9_owed_82 : decode cX9_owed 82 = .ok (.iinc 3 1, 3) := by decide +kernel
theorem dX9_owed_85 : decode cX9_owed 85 = .ok (.goto (-63), 3) := by decide +kernel
theorem dX9_owed_88 : decode cX9_owed 88 = .ok (.iload_n 2, 1) := by decide +kernel
theorem dX9_owed_89 : decode cX9_owed 89 = .ok (.ireturn, 1) := by decide +kernel
theorem dX9_whole_0 : decode cX9_whole 0 = .ok (.iload_n 1, 1) := by decide +kernel
theorem dX9_whole_1 : decode cX9_whole 1 = .ok (.iconst 1, 1) := by decide +kernel
theorem dX9_whole_2 : decode cX9_whole 2 = .ok (.bipush 20, 2) := by decide +kernel
theorem dX9_whole_4 : decode cX9_whole 4 = .ok (.invokestatic 96, 3) := by decide +kernel
theorem dX9_whole_7 : decode cX9_whole 7 = .ok (.ifCond .eq 13, 3) := by decide +kernel
theorem dX9_whole_10 : decode cX9_whole 10 = .ok (.iload_n 2, 1) := by decide +kernel
theorem dX9_whole_11 : decode cX9_whole 11 = .ok (.iconst 0, 1) := by decide +kernel
theorem dX9_whole_12 : decode cX9_whole 12 = .ok (.bipush 99, 2) := by decide +kernel
theorem dX9_whole_14 : decode cX9_whole 14 = .ok (.invokestatic 96, 3) := by decide +kernel
theorem dX9_whole_17 : decode cX9_whole 17 = .ok (.ifCond .ne 7, 3) := by decide +kernel
theorem dX9_whole_20 : decode cX9_whole 20 = .ok (.ldc2_w 351, 3) := by decide +kernel
theorem dX9_whole_23 : decode cX9_whole 23 = .ok (.lreturn, 1) := by decide +kernel
theorem dX9_whole_24 : decode cX9_whole 24 = .ok (.aload_n 0, 1) := by decide +kernel
theorem dX9_whole_25 : decode cX9_whole 25 = .ok (.getfield 62, 3) := by decide +kernel
theorem dX9_whole_28 : decode cX9_whole 28 = .ok (.iload_n 1, 1) := by decide +kernel
theorem dX9_whole_29 : decode cX9_whole 29 = .ok (.iload_n 2, 1) := by decide +kernel
theorem dX9_whole_30 : decode cX9_whole 30 = .ok (.invokevirtual 353, 3) := by decide +kernel
theorem dX9_whole_33 : decode cX9_whole 33 = .ok (.lreturn, 1) := by decide +kernel
theorem dX9_years_0 : decode cX9_years 0 = .ok (.iload_n 1, 1) := by decide +kernel
theorem dX9_years_1 : decode cX9_years 1 = .ok (.iconst 0, 1) := by decide +kernel
theorem dX9_years_2 : decode cX9_years 2 = .ok (.ldc_w 357, 3) := by decide +kernel
theorem dX9_years_5 : decode cX9_years 5 = .ok (.invokestatic 96, 3) := by decide +kernel
theorem dX9_years_8 : decode cX9_years 8 = .ok (.ifCond .eq 13, 3) := by decide +kernel
theorem dX9_years_11 : decode cX9_years 11 = .ok (.iload_n 2, 1) := by decide +kernel
theorem dX9_years_12 : decode cX9_years 12 = .ok (.iconst 1, 1) := by decide +kernel
theorem dX9_years_13 : decode cX9_years 13 = .ok (.bipush 60, 2) := by decide +kernel
theorem dX9_years_15 : decode cX9_years 15 = .ok (.invokestatic 96, 3) := by decide +kernel
theorem dX9_years_18 : decode cX9_years 18 = .ok (.ifCond .ne 9, 3) := by decide +kernel
theorem dX9_years_21 : decode cX9_years 21 = .ok (.aload_n 0, 1) := by decide +kernel
theorem dX9_years_22 : decode cX9_years 22 = .ok (.iconst (-1), 1) := by decide +kernel
theorem dX9_years_23 : decode cX9_years 23 = .ok (.invokevirtual 89, 3) := by decide +kernel
theorem dX9_years_26 : decode cX9_years 26 = .ok (.ireturn, 1) := by decide +kernel
theorem dX9_years_27 : decode cX9_years 27 = .ok (.aload_n 0, 1) := by decide +kernel
theorem dX9_years_28 : decode cX9_years 28 = .ok (.getfield 21, 3) := by decide +kernel
theorem dX9_years_31 : decode cX9_years 31 = .ok (.getfield 104, 3) := by decide +kernel
theorem dX9_years_34 : decode cX9_years 34 = .ok (.istore_n 3, 1) := by decide +kernel
theorem dX9_years_35 : decode cX9_years 35 = .ok (.aload_n 0, 1) := by decide +kernel
theorem dX9_years_36 : decode cX9_years 36 = .ok (.getfield 21, 3) := by decide +kernel
theorem dX9_years_39 : decode cX9_years 39 = .ok (.getfield 133, 3) := by decide +kernel
theorem dX9_years_42 : decode cX9_years 42 = .ok (.istore 4, 2) := by decide +kernel
theorem dX9_years_44 : decode cX9_years 44 = .ok (.iload_n 3, 1) := by decide +kernel
theorem dX9_years_45 : decode cX9_years 45 = .ok (.ifCond .le 8, 3) := by decide +kernel
theorem dX9_years_48 : decode cX9_years 48 = .ok (.iload 4, 2) := by decide +kernel
theorem dX9_years_50 : decode cX9_years 50 = .ok (.ifCond .gt 10, 3) := by decide +kernel
theorem dX9_years_53 : decode cX9_years 53 = .ok (.aload_n 0, 1) := by decide +kernel
theorem dX9_years_54 : decode cX9_years 54 = .ok (.bipush (-3), 2) := by decide +kernel
theorem dX9_years_56 : decode cX9_years 56 = .ok (.invokevirtual 89, 3) := by decide +kernel
theorem dX9_years_59 : decode cX9_years 59 = .ok (.ireturn, 1) := by decide +kernel
theorem dX9_years_60 : decode cX9_years 60 = .ok (.aload_n 0, 1) := by decide +kernel
theorem dX9_years_61 : decode cX9_years 61 = .ok (.getfield 38, 3) := by decide +kernel
theorem dX9_years_64 : decode cX9_years 64 = .ok (.aload_n 0, 1) := by decide +kernel
theorem dX9_years_65 : decode cX9_years 65 = .ok (.getfield 21, 3) := by decide +kernel
theorem dX9_years_68 : decode cX9_years 68 = .ok (.invokevirtual 215, 3) := by decide +kernel
theorem dX9_years_71 : decode cX9_years 71 = .ok (.iload_n 1, 1) := by decide +kernel
theorem dX9_years_72 : decode cX9_years 72 = .ok (.istore 5, 2) := by decide +kernel
theorem dX9_years_74 : decode cX9_years 74 = .ok (.iconst 0, 1) := by decide +kernel
theorem dX9_years_75 : decode cX9_years 75 = .ok (.istore 6, 2) := by decide +kernel
theorem dX9_years_77 : decode cX9_years 77 = .ok (.iconst 0, 1) := by decide +kernel
theorem dX9_years_78 : decode cX9_years 78 = .ok (.istore 7, 2) := by decide +kernel
theorem dX9_years_80 : decode cX9_years 80 = .ok (.iload 7, 2) := by decide +kernel
theorem dX9_years_82 : decode cX9_years 82 = .ok (.iload_n 2, 1) := by decide +kernel
theorem dX9_years_83 : decode cX9_years 83 = .ok (.if_icmp .ge 83, 3) := by decide +kernel
theorem dX9_years_86 : decode cX9_years 86 = .ok (.aload_n 0, 1) := by decide +kernel
theorem dX9_years_87 : decode cX9_years 87 = .ok (.getfield 38, 3) := by decide +kernel
theorem dX9_years_90 : decode cX9_years 90 = .ok (.getfield 181, 3) := by decide +kernel
theorem dX9_years_93 : decode cX9_years 93 = .ok (.iconst 0, 1) := by decide +kernel
theorem dX9_years_94 : decode cX9_years 94 = .ok (.iaload, 1) := by decide +kernel
theorem dX9_years_95 : decode cX9_years 95 = .ok (.sipush 999, 3) := by decide +kernel
theorem dX9_years_98 : decode cX9_years 98 = .ok (.if_icmp .ge 68, 3) := by decide +kernel
theorem dX9_years_101 : decode cX9_years 101 = .ok (.iload 5, 2) := by decide +kernel
theorem dX9_years_103 : decode cX9_years 103 = .ok (.invokestatic 358, 3) := by decide +kernel
theorem dX9_years_106 : decode cX9_years 106 = .ok (.istore 5, 2) := by decide +kernel
theorem dX9_years_108 : decode cX9_years 108 = .ok (.iload 5, 2) := by decide +kernel
theorem dX9_years_110 : decode cX9_years 110 = .ok (.iload 4, 2) := by decide +kernel
theorem dX9_years_112 : decode cX9_years 112 = .ok (.irem, 1) := by decide +kernel
theorem dX9_years_113 : decode cX9_years 113 = .ok (.istore 8, 2) := by decide +kernel
theorem dX9_years_115 : decode cX9_years 115 = .ok (.iload 5, 2) := by decide +kernel
theorem dX9_years_117 : decode cX9_years 117 = .ok (.invokestatic 358, 3) := by decide +kernel
theorem dX9_years_120 : decode cX9_years 120 = .ok (.istore 5, 2) := by decide +kernel
theorem dX9_years_122 : decode cX9_years 122 = .ok (.iload 5, 2) := by decide +kernel
theorem dX9_years_124 : decode cX9_years 124 = .ok (.iload_n 3, 1) := by decide +kernel
theorem dX9_years_125 : decode cX9_years 125 = .ok (.irem, 1) := by decide +kernel
theorem dX9_years_126 : decode cX9_years 126 = .ok (.istore 9, 2) := by decide +kernel
theorem dX9_years_128 : decode cX9_years 128 = .ok (.iload 5, 2) := by decide +kernel
theorem dX9_years_130 : decode cX9_years 130 = .ok (.invokestatic 358, 3) := by decide +kernel
theorem dX9_years_133 : decode cX9_years 133 = .ok (.istore 5, 2) := by decide +kernel
theorem dX9_years_135 : decode cX9_years 135 = .ok (.iload 6, 2) := by decide +kernel
theorem dX9_years_137 : decode cX9_years 137 = .ok (.aload_n 0, 1) := by decide +kernel
theorem dX9_years_138 : decode cX9_years 138 = .ok (.iload 8, 2) := by decide +kernel
theorem dX9_years_140 : decode cX9_years 140 = .ok (.iload 9, 2) := by decide +kernel
theorem dX9_years_142 : decode cX9_years 142 = .ok (.iload 5, 2) := by decide +kernel
theorem dX9_years_144 : decode cX9_years 144 = .ok (.iconst 3, 1) := by decide +kernel
theorem dX9_years_145 : decode cX9_years 145 = .ok (.irem, 1) := by decide +kernel
theorem dX9_years_146 : decode cX9_years 146 = .ok (.invokevirtual 361, 3) := by decide +kernel
theorem dX9_years_149 : decode cX9_years 149 = .ok (.iadd, 1) := by decide +kernel
theorem dX9_years_150 : decode cX9_years 150 = .ok (.istore 6, 2) := by decide +kernel
theorem dX9_years_152 : decode cX9_years 152 = .ok (.aload_n 0, 1) := by decide +kernel
theorem dX9_years_153 : decode cX9_years 153 = .ok (.getfield 38, 3) := by decide +kernel
theorem dX9_years_156 : decode cX9_years 156 = .ok (.invokevirtual 295, 3) := by decide +kernel
