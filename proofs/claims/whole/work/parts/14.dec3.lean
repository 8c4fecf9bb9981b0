theorem dX9_years_159 : decode cX9_years 159 = .ok (.pop, 1) := by decide +kernel
theorem dX9_years_160 : decode cX9_years 160 = .ok (.iinc 7 1, 3) := by decide +kernel
theorem dX9_years_163 : decode cX9_years 163 = .ok (.goto (-83), 3) := by decide +kernel
theorem dX9_years_166 : decode cX9_years 166 = .ok (.aload_n 0, 1) := by decide +kernel
theorem dX9_years_167 : decode cX9_years 167 = .ok (.iload 6, 2) := by decide +kernel
theorem dX9_years_169 : decode cX9_years 169 = .ok (.invokevirtual 93, 3) := by decide +kernel
theorem dX9_years_172 : decode cX9_years 172 = .ok (.ireturn, 1) := by decide +kernel
theorem dX9_nextDrawn_0 : decode cX9_nextDrawn 0 = .ok (.iload_n 0, 1) := by decide +kernel
theorem dX9_nextDrawn_1 : decode cX9_nextDrawn 1 = .ok (.sipush 1103, 3) := by decide +kernel
theorem dX9_nextDrawn_4 : decode cX9_nextDrawn 4 = .ok (.imul, 1) := by decide +kernel
theorem dX9_nextDrawn_5 : decode cX9_nextDrawn 5 = .ok (.sipush 12345, 3) := by decide +kernel
theorem dX9_nextDrawn_8 : decode cX9_nextDrawn 8 = .ok (.iadd, 1) := by decide +kernel
theorem dX9_nextDrawn_9 : decode cX9_nextDrawn 9 = .ok (.ldc_w 364, 3) := by decide +kernel
theorem dX9_nextDrawn_12 : decode cX9_nextDrawn 12 = .ok (.irem, 1) := by decide +kernel
theorem dX9_nextDrawn_13 : decode cX9_nextDrawn 13 = .ok (.ireturn, 1) := by decide +kernel
theorem dX9_paperMove_0 : decode cX9_paperMove 0 = .ok (.iload_n 3, 1) := by decide +kernel
theorem dX9_paperMove_1 : decode cX9_paperMove 1 = .ok (.ifCond .ne 25, 3) := by decide +kernel
theorem dX9_paperMove_4 : decode cX9_paperMove 4 = .ok (.aload_n 0, 1) := by decide +kernel
theorem dX9_paperMove_5 : decode cX9_paperMove 5 = .ok (.getfield 38, 3) := by decide +kernel
theorem dX9_paperMove_8 : decode cX9_paperMove 8 = .ok (.getfield 152, 3) := by decide +kernel
theorem dX9_paperMove_11 : decode cX9_paperMove 11 = .ok (.iload_n 1, 1) := by decide +kernel
theorem dX9_paperMove_12 : decode cX9_paperMove 12 = .ok (.iaload, 1) := by decide +kernel
theorem dX9_paperMove_13 : decode cX9_paperMove 13 = .ok (.iconst (-1), 1) := by decide +kernel
theorem dX9_paperMove_14 : decode cX9_paperMove 14 = .ok (.if_icmp .eq 12, 3) := by decide +kernel
theorem dX9_paperMove_17 : decode cX9_paperMove 17 = .ok (.aload_n 0, 1) := by decide +kernel
theorem dX9_paperMove_18 : decode cX9_paperMove 18 = .ok (.getfield 38, 3) := by decide +kernel
theorem dX9_paperMove_21 : decode cX9_paperMove 21 = .ok (.iload_n 1, 1) := by decide +kernel
theorem dX9_paperMove_22 : decode cX9_paperMove 22 = .ok (.invokevirtual 289, 3) := by decide +kernel
theorem dX9_paperMove_25 : decode cX9_paperMove 25 = .ok (.ireturn, 1) := by decide +kernel
theorem dX9_paperMove_26 : decode cX9_paperMove 26 = .ok (.aload_n 0, 1) := by decide +kernel
theorem dX9_paperMove_27 : decode cX9_paperMove 27 = .ok (.getfield 38, 3) := by decide +kernel
theorem dX9_paperMove_30 : decode cX9_paperMove 30 = .ok (.iload_n 1, 1) := by decide +kernel
theorem dX9_paperMove_31 : decode cX9_paperMove 31 = .ok (.iload_n 2, 1) := by decide +kernel
theorem dX9_paperMove_32 : decode cX9_paperMove 32 = .ok (.invokevirtual 269, 3) := by decide +kernel
theorem dX9_paperMove_35 : decode cX9_paperMove 35 = .ok (.ifCond .ne 15, 3) := by decide +kernel
theorem dX9_paperMove_38 : decode cX9_paperMove 38 = .ok (.aload_n 0, 1) := by decide +kernel
theorem dX9_paperMove_39 : decode cX9_paperMove 39 = .ok (.getfield 38, 3) := by decide +kernel
theorem dX9_paperMove_42 : decode cX9_paperMove 42 = .ok (.iload_n 1, 1) := by decide +kernel
theorem dX9_paperMove_43 : decode cX9_paperMove 43 = .ok (.iload_n 2, 1) := by decide +kernel
theorem dX9_paperMove_44 : decode cX9_paperMove 44 = .ok (.invokevirtual 286, 3) := by decide +kernel
theorem dX9_paperMove_47 : decode cX9_paperMove 47 = .ok (.goto 4, 3) := by decide +kernel
theorem dX9_paperMove_50 : decode cX9_paperMove 50 = .ok (.iconst 0, 1) := by decide +kernel
theorem dX9_paperMove_51 : decode cX9_paperMove 51 = .ok (.ireturn, 1) := by decide +kernel
theorem dX9_drawn_0 : decode cX9_drawn 0 = .ok (.iload_n 2, 1) := by decide +kernel
theorem dX9_drawn_1 : decode cX9_drawn 1 = .ok (.iconst 3, 1) := by decide +kernel
theorem dX9_drawn_2 : decode cX9_drawn 2 = .ok (.if_icmp .ne 28, 3) := by decide +kernel
theorem dX9_drawn_5 : decode cX9_drawn 5 = .ok (.aload_n 0, 1) := by decide +kernel
theorem dX9_drawn_6 : decode cX9_drawn 6 = .ok (.getfield 38, 3) := by decide +kernel
theorem dX9_drawn_9 : decode cX9_drawn 9 = .ok (.iload_n 1, 1) := by decide +kernel
theorem dX9_drawn_10 : decode cX9_drawn 10 = .ok (.invokevirtual 114, 3) := by decide +kernel
theorem dX9_drawn_13 : decode cX9_drawn 13 = .ok (.ifCond .eq 15, 3) := by decide +kernel
theorem dX9_drawn_16 : decode cX9_drawn 16 = .ok (.aload_n 0, 1) := by decide +kernel
theorem dX9_drawn_17 : decode cX9_drawn 17 = .ok (.getfield 38, 3) := by decide +kernel
theorem dX9_drawn_20 : decode cX9_drawn 20 = .ok (.getfield 127, 3) := by decide +kernel
theorem dX9_drawn_23 : decode cX9_drawn 23 = .ok (.iload_n 1, 1) := by decide +kernel
theorem dX9_drawn_24 : decode cX9_drawn 24 = .ok (.iaload, 1) := by decide +kernel
theorem dX9_drawn_25 : decode cX9_drawn 25 = .ok (.goto 4, 3) := by decide +kernel
theorem dX9_drawn_28 : decode cX9_drawn 28 = .ok (.iconst (-1), 1) := by decide +kernel
theorem dX9_drawn_29 : decode cX9_drawn 29 = .ok (.ireturn, 1) := by decide +kernel
theorem dX9_drawn_30 : decode cX9_drawn 30 = .ok (.aload_n 0, 1) := by decide +kernel
theorem dX9_drawn_31 : decode cX9_drawn 31 = .ok (.getfield 38, 3) := by decide +kernel
theorem dX9_drawn_34 : decode cX9_drawn 34 = .ok (.iload_n 1, 1) := by decide +kernel
theorem dX9_drawn_35 : decode cX9_drawn 35 = .ok (.invokevirtual 140, 3) := by decide +kernel
theorem dX9_drawn_38 : decode cX9_drawn 38 = .ok (.ifCond .ne 5, 3) := by decide +kernel
theorem dX9_drawn_41 : decode cX9_drawn 41 = .ok (.iconst (-1), 1) := by decide +kernel
theorem dX9_drawn_42 : decode cX9_drawn 42 = .ok (.ireturn, 1) := by decide +kernel
theorem dX9_drawn_43 : decode cX9_drawn 43 = .ok (.iload_n 2, 1) := by decide +kernel
theorem dX9_drawn_44 : decode cX9_drawn 44 = .ok (.tableswitch 58 0 2 #[28, 38, 48], 28) := by decide +kernel
theorem dX9_drawn_72 : decode cX9_drawn 72 = .ok (.aload_n 0, 1) := by decide +kernel
theorem dX9_drawn_73 : decode cX9_drawn 73 = .ok (.getfield 38, 3) := by decide +kernel
theorem dX9_drawn_76 : decode cX9_drawn 76 = .ok (.getfield 143, 3) := by decide +kernel
theorem dX9_drawn_79 : decode cX9_drawn 79 = .ok (.iload_n 1, 1) := by decide +kernel
theorem dX9_drawn_80 : decode cX9_drawn 80 = .ok (.iaload, 1) := by decide +kernel
theorem dX9_drawn_81 : decode cX9_drawn 81 = .ok (.ireturn, 1) := by decide +kernel
theorem dX9_drawn_82 : decode cX9_drawn 82 = .ok (.aload_n 0, 1) := by decide +kernel
theorem dX9_drawn_83 : decode cX9_drawn 83 = .ok (.getfield 38, 3) := by decide +kernel
theorem dX9_drawn_86 : decode cX9_drawn 86 = .ok (.getfield 149, 3) := by decide +kernel
theorem dX9_drawn_89 : decode cX9_drawn 89 = .ok (.iload_n 1, 1) := by decide +kernel
theorem dX9_drawn_90 : decode cX9_drawn 90 = .ok (.iaload, 1) := by decide +kernel
theorem dX9_drawn_91 : decode cX9_drawn 91 = .ok (.ireturn, 1) := by decide +kernel
theorem dX9_drawn_92 : decode cX9_drawn 92 = .ok (.aload_n 0, 1) := by decide +kernel
theorem dX9_drawn_93 : decode cX9_drawn 93 = .ok (.getfield 38, 3) := by decide +kernel
theorem dX9_drawn_96 : decode cX9_drawn 96 = .ok (.getfield 152, 3) := by decide +kernel
theorem dX9_drawn_99 : decode cX9_drawn 99 = .ok (.iload_n 1, 1) := by decide +kernel
theorem dX9_drawn_100 : decode cX9_drawn 100 = .ok (.iaload, 1) := by decide +kernel
theorem dX9_drawn_101 : decode cX9_drawn 101 = .ok (.ireturn, 1) := by decide +kernel
theorem dX9_drawn_102 : decode cX9_drawn 102 = .ok (.iconst (-1), 1) := by decide +kernel
theorem dX9_drawn_103 : decode cX9_drawn 103 = .ok (.ireturn, 1) := by decide +kernel
theorem dX9_image_0 : decode cX9_image 0 = .ok (.iload_n 1, 1) := by decide +kernel
theorem dX9_image_1 : decode cX9_image 1 = .ok (.iconst 0, 1) := by decide +kernel
theorem dX9_image_2 : decode cX9_image 2 = .ok (.iconst 1, 1) := by decide +kernel
theorem dX9_image_3 : decode cX9_image 3 = .ok (.invokestatic 96, 3) := by decide +kernel
theorem dX9_image_6 : decode cX9_image 6 = .ok (.ifCond .ne 9, 3) := by decide +kernel
theorem dX9_image_9 : decode cX9_image 9 = .ok (.aload_n 0, 1) := by decide +kernel
theorem dX9_image_10 : decode cX9_image 10 = .ok (.iconst (-1), 1) := by decide +kernel
theorem dX9_image_11 : decode cX9_image 11 = .ok (.invokevirtual 89, 3) := by decide +kernel
theorem dX9_image_14 : decode cX9_image 14 = .ok (.ireturn, 1) := by decide +kernel
theorem dX9_image_15 : decode cX9_image 15 = .ok (.aload_n 0, 1) := by decide +kernel
theorem dX9_image_16 : decode cX9_image 16 = .ok (.getfield 68, 3) := by decide +kernel
theorem dX9_image_19 : decode cX9_image 19 = .ok (.iload_n 1, 1) := by decide +kernel
theorem dX9_image_20 : decode cX9_image 20 = .ok (.aaload, 1) := by decide +kernel
theorem dX9_image_21 : decode cX9_image 21 = .ok (.ifnonnull 16, 3) := by decide +kernel
theorem dX9_image_24 : decode cX9_image 24 = .ok (.aload_n 0, 1) := by decide +kernel
theorem dX9_image_25 : decode cX9_image 25 = .ok (.getfield 68, 3) := by decide +kernel
theorem dX9_image_28 : decode cX9_image 28 = .ok (.iload_n 1, 1) := by decide +kernel
theorem dX9_image_29 : decode cX9_image 29 = .ok (.new 66, 3) := by decide +kernel
theorem dX9_image_32 : decode cX9_image 32 = .ok (.dup, 1) := by decide +kernel
theorem dX9_image_33 : decode cX9_image 33 = .ok (.invokespecial 365, 3) := by decide +kernel
theorem dX9_image_36 : decode cX9_image 36 = .ok (.aastore, 1) := by decide +kernel
theorem dX9_image_37 : decode cX9_image 37 = .ok (.aload_n 0, 1) := by decide +kernel
theorem dX9_image_38 : decode cX9_image 38 = .ok (.getfield 68, 3) := by decide +kernel
theorem dX9_image_41 : decode cX9_image 41 = .ok (.iload_n 1, 1) := by decide +kernel
theorem dX9_image_42 : decode cX9_image 42 = .ok (.aaload, 1) := by decide +kernel
theorem dX9_image_43 : decode cX9_image 43 = .ok (.getfield 366, 3) := by decide +kernel
theorem dX9_image_46 : decode cX9_image 46 = .ok (.aload_n 0, 1) := by decide +kernel
theorem dX9_image_47 : decode cX9_image 47 = .ok (.getfield 21, 3) := by decide +kernel
theorem dX9_image_50 : decode cX9_image 50 = .ok (.invokevirtual 215, 3) := by decide +kernel
theorem dX9_image_53 : decode cX9_image 53 = .ok (.aload_n 0, 1) := by decide +kernel
theorem dX9_image_54 : decode cX9_image 54 = .ok (.getfield 68, 3) := by decide +kernel
theorem dX9_image_57 : decode cX9_image 57 = .ok (.iload_n 1, 1) := by decide +kernel
theorem dX9_image_58 : decode cX9_image 58 = .ok (.aaload, 1) := by decide +kernel
theorem dX9_image_59 : decode cX9_image 59 = .ok (.getfield 367, 3) := by decide +kernel
theorem dX9_image_62 : decode cX9_image 62 = .ok (.aload_n 0, 1) := by decide +kernel
theorem dX9_image_63 : decode cX9_image 63 = .ok (.getfield 12, 3) := by decide +kernel
theorem dX9_image_66 : decode cX9_image 66 = .ok (.invokevirtual 368, 3) := by decide +kernel
theorem dX9_image_69 : decode cX9_image 69 = .ok (.aload_n 0, 1) := by decide +kernel
theorem dX9_image_70 : decode cX9_image 70 = .ok (.iconst 0, 1) := by decide +kernel
theorem dX9_image_71 : decode cX9_image 71 = .ok (.invokevirtual 93, 3) := by decide +kernel
theorem dX9_image_74 : decode cX9_image 74 = .ok (.ireturn, 1) := by decide +kernel
theorem dX9_back_0 : decode cX9_back 0 = .ok (.iload_n 1, 1) := by decide +kernel
theorem dX9_back_1 : decode cX9_back 1 = .ok (.iconst 0, 1) := by decide +kernel
theorem dX9_back_2 : decode cX9_back 2 = .ok (.iconst 1, 1) := by decide +kernel
theorem dX9_back_3 : decode cX9_back 3 = .ok (.invokestatic 96, 3) := by decide +kernel
theorem dX9_back_6 : decode cX9_back 6 = .ok (.ifCond .ne 9, 3) := by decide +kernel
theorem dX9_back_9 : decode cX9_back 9 = .ok (.aload_n 0, 1) := by decide +kernel
theorem dX9_back_10 : decode cX9_back 10 = .ok (.iconst (-1), 1) := by decide +kernel
theorem dX9_back_11 : decode cX9_back 11 = .ok (.invokevirtual 89, 3) := by decide +kernel
theorem dX9_back_14 : decode cX9_back 14 = .ok (.ireturn, 1) := by decide +kernel
theorem dX9_back_15 : decode cX9_back 15 = .ok (.aload_n 0, 1) := by decide +kernel
theorem dX9_back_16 : decode cX9_back 16 = .ok (.getfield 68, 3) := by decide +kernel
theorem dX9_back_19 : decode cX9_back 19 = .ok (.iload_n 1, 1) := by decide +kernel
theorem dX9_back_20 : decode cX9_back 20 = .ok (.aaload, 1) := by decide +kernel
theorem dX9_back_21 : decode cX9_back 21 = .ok (.ifnonnull 10, 3) := by decide +kernel
theorem dX9_back_24 : decode cX9_back 24 = .ok (.aload_n 0, 1) := by decide +kernel
theorem dX9_back_25 : decode cX9_back 25 = .ok (.bipush (-2), 2) := by decide +kernel
theorem dX9_back_27 : decode cX9_back 27 = .ok (.invokevirtual 89, 3) := by decide +kernel
theorem dX9_back_30 : decode cX9_back 30 = .ok (.ireturn, 1) := by decide +kernel
theorem dX9_back_31 : decode cX9_back 31 = .ok (.aload_n 0, 1) := by decide +kernel
theorem dX9_back_32 : decode cX9_back 32 = .ok (.getfield 21, 3) := by decide +kernel
theorem dX9_back_35 : decode cX9_back 35 = .ok (.aload_n 0, 1) := by decide +kernel
theorem dX9_back_36 : decode cX9_back 36 = .ok (.getfield 68, 3) := by decide +kernel
theorem dX9_back_39 : decode cX9_back 39 = .ok (.iload_n 1, 1) := by decide +kernel
theorem dX9_back_40 : decode cX9_back 40 = .ok (.aaload, 1) := by decide +kernel
theorem dX9_back_41 : decode cX9_back 41 = .ok (.getfield 366, 3) := by decide +kernel
theorem dX9_back_44 : decode cX9_back 44 = .ok (.invokevirtual 215, 3) := by decide +kernel
theorem dX9_back_47 : decode cX9_back 47 = .ok (.aload_n 0, 1) := by decide +kernel
theorem dX9_back_48 : decode cX9_back 48 = .ok (.getfield 12, 3) := by decide +kernel
theorem dX9_back_51 : decode cX9_back 51 = .ok (.aload_n 0, 1) := by decide +kernel
theorem dX9_back_52 : decode cX9_back 52 = .ok (.getfield 68, 3) := by decide +kernel
theorem dX9_back_55 : decode cX9_back 55 = .ok (.iload_n 1, 1) := by decide +kernel
theorem dX9_back_56 : decode cX9_back 56 = .ok (.aaload, 1) := by decide +kernel
theorem dX9_back_57 : decode cX9_back 57 = .ok (.getfield 367, 3) := by decide +kernel
theorem dX9_back_60 : decode cX9_back 60 = .ok (.invokevirtual 368, 3) := by decide +kernel
theorem dX9_back_63 : decode cX9_back 63 = .ok (.aload_n 0, 1) := by decide +kernel
theorem dX9_back_64 : decode cX9_back 64 = .ok (.getfield 28, 3) := by decide +kernel
theorem dX9_back_67 : decode cX9_back 67 = .ok (.invokevirtual 107, 3) := by decide +kernel
theorem dX9_back_70 : decode cX9_back 70 = .ok (.aload_n 0, 1) := by decide +kernel
theorem dX9_back_71 : decode cX9_back 71 = .ok (.iconst 0, 1) := by decide +kernel
theorem dX9_back_72 : decode cX9_back 72 = .ok (.invokevirtual 93, 3) := by decide +kernel
theorem dX9_back_75 : decode cX9_back 75 = .ok (.ireturn, 1) := by decide +kernel
theorem dX9_count_0 : decode cX9_count 0 = .ok (.iload_n 1, 1) := by decide +kernel
theorem dX9_count_1 : decode cX9_count 1 = .ok (.bipush 13, 2) := by decide +kernel
theorem dX9_count_3 : decode cX9_count 3 = .ok (.bipush 16, 2) := by decide +kernel
theorem dX9_count_5 : decode cX9_count 5 = .ok (.invokestatic 96, 3) := by decide +kernel
theorem dX9_count_8 : decode cX9_count 8 = .ok (.ifCond .eq 16, 3) := by decide +kernel
theorem dX9_count_11 : decode cX9_count 11 = .ok (.aload_n 0, 1) := by decide +kernel
theorem dX9_count_12 : decode cX9_count 12 = .ok (.getfield 21, 3) := by decide +kernel
theorem dX9_count_15 : decode cX9_count 15 = .ok (.getfield 181, 3) := by decide +kernel
theorem dX9_count_18 : decode cX9_count 18 = .ok (.iload_n 1, 1) := by decide +kernel
theorem dX9_count_19 : decode cX9_count 19 = .ok (.bipush 13, 2) := by decide +kernel
theorem dX9_count_21 : decode cX9_count 21 = .ok (.isub, 1) := by decide +kernel
theorem dX9_count_22 : decode cX9_count 22 = .ok (.iaload, 1) := by decide +kernel
theorem dX9_count_23 : decode cX9_count 23 = .ok (.ireturn, 1) := by decide +kernel
theorem dX9_count_24 : decode cX9_count 24 = .ok (.iload_n 1, 1) := by decide +kernel
theorem dX9_count_25 : decode cX9_count 25 = .ok (.tableswitch 167 0 12 #[67, 75, 83, 91, 99, 107, 115, 123, 130, 137, 144, 151, 159], 67) := by decide +kernel
theorem dX9_count_92 : decode cX9_count 92 = .ok (.aload_n 0, 1) := by decide +kernel
theorem dX9_count_93 : decode cX9_count 93 = .ok (.getfield 21, 3) := by decide +kernel
theorem dX9_count_96 : decode cX9_count 96 = .ok (.getfield 104, 3) := by decide +kernel
theorem dX9_count_99 : decode cX9_count 99 = .ok (.ireturn, 1) := by decide +kernel
theorem dX9_count_100 : decode cX9_count 100 = .ok (.aload_n 0, 1) := by decide +kernel
theorem dX9_count_101 : decode cX9_count 101 = .ok (.getfield 21, 3) := by decide +kernel
theorem dX9_count_104 : decode cX9_count 104 = .ok (.getfield 133, 3) := by decide +kernel
theorem dX9_count_107 : decode cX9_count 107 = .ok (.ireturn, 1) := by decide +kernel
theorem dX9_count_108 : decode cX9_count 108 = .ok (.aload_n 0, 1) := by decide +kernel
theorem dX9_count_109 : decode cX9_count 109 = .ok (.getfield 21, 3) := by decide +kernel
theorem dX9_count_112 : decode cX9_count 112 = .ok (.invokevirtual 370, 3) := by decide +kernel
theorem dX9_count_115 : decode cX9_count 115 = .ok (.ireturn, 1) := by decide +kernel
theorem dX9_count_116 : decode cX9_count 116 = .ok (.aload_n 0, 1) := by decide +kernel
theorem dX9_count_117 : decode cX9_count 117 = .ok (.getfield 21, 3) := by decide +kernel
theorem dX9_count_120 : decode cX9_count 120 = .ok (.getfield 266, 3) := by decide +kernel
theorem dX9_count_123 : decode cX9_count 123 = .ok (.ireturn, 1) := by decide +kernel
theorem dX9_count_124 : decode cX9_count 124 = .ok (.aload_n 0, 1) := by decide +kernel
theorem dX9_count_125 : decode cX9_count 125 = .ok (.getfield 12, 3) := by decide +kernel
theorem dX9_count_128 : decode cX9_count 128 = .ok (.getfield 197, 3) := by decide +kernel
theorem dX9_count_131 : decode cX9_count 131 = .ok (.ireturn, 1) := by decide +kernel
theorem dX9_count_132 : decode cX9_count 132 = .ok (.aload_n 0, 1) := by decide +kernel
theorem dX9_count_133 : decode cX9_count 133 = .ok (.getfield 28, 3) := by decide +kernel
theorem dX9_count_136 : decode cX9_count 136 = .ok (.getfield 307, 3) := by decide +kernel
theorem dX9_count_139 : decode cX9_count 139 = .ok (.ireturn, 1) := by decide +kernel
theorem dX9_count_140 : decode cX9_count 140 = .ok (.aload_n 0, 1) := by decide +kernel
theorem dX9_count_141 : decode cX9_count 141 = .ok (.getfield 44, 3) := by decide +kernel
theorem dX9_count_144 : decode cX9_count 144 = .ok (.getfield 184, 3) := by decide +kernel
theorem dX9_count_147 : decode cX9_count 147 = .ok (.ireturn, 1) := by decide +kernel
theorem dX9_count_148 : decode cX9_count 148 = .ok (.aload_n 0, 1) := by decide +kernel
theorem dX9_count_149 : decode cX9_count 149 = .ok (.getfield 76, 3) := by decide +kernel
theorem dX9_count_152 : decode cX9_count 152 = .ok (.iconst 1, 1) := by decide +kernel
theorem dX9_count_153 : decode cX9_count 153 = .ok (.iaload, 1) := by decide +kernel
theorem dX9_count_154 : decode cX9_count 154 = .ok (.ireturn, 1) := by decide +kernel
theorem dX9_count_155 : decode cX9_count 155 = .ok (.aload_n 0, 1) := by decide +kernel
theorem dX9_count_156 : decode cX9_count 156 = .ok (.getfield 76, 3) := by decide +kernel
theorem dX9_count_159 : decode cX9_count 159 = .ok (.iconst 2, 1) := by decide +kernel
theorem dX9_count_160 : decode cX9_count 160 = .ok (.iaload, 1) := by decide +kernel
theorem dX9_count_161 : decode cX9_count 161 = .ok (.ireturn, 1) := by decide +kernel
theorem dX9_count_162 : decode cX9_count 162 = .ok (.aload_n 0, 1) := by decide +kernel
theorem dX9_count_163 : decode cX9_count 163 = .ok (.getfield 76, 3) := by decide +kernel
theorem dX9_count_166 : decode cX9_count 166 = .ok (.iconst 3, 1) := by decide +kernel
theorem dX9_count_167 : decode cX9_count 167 = .ok (.iaload, 1) := by decide +kernel
theorem dX9_count_168 : decode cX9_count 168 = .ok (.ireturn, 1) := by decide +kernel
theorem dX9_count_169 : decode cX9_count 169 = .ok (.aload_n 0, 1) := by decide +kernel
theorem dX9_count_170 : decode cX9_count 170 = .ok (.getfield 76, 3) := by decide +kernel
theorem dX9_count_173 : decode cX9_count 173 = .ok (.iconst 5, 1) := by decide +kernel
theorem dX9_count_174 : decode cX9_count 174 = .ok (.iaload, 1) := by decide +kernel
theorem dX9_count_175 : decode cX9_count 175 = .ok (.ireturn, 1) := by decide +kernel
theorem dX9_count_176 : decode cX9_count 176 = .ok (.aload_n 0, 1) := by decide +kernel
theorem dX9_count_177 : decode cX9_count 177 = .ok (.getfield 76, 3) := by decide +kernel
theorem dX9_count_180 : decode cX9_count 180 = .ok (.bipush 6, 2) := by decide +kernel
theorem dX9_count_182 : decode cX9_count 182 = .ok (.iaload, 1) := by decide +kernel
theorem dX9_count_183 : decode cX9_count 183 = .ok (.ireturn, 1) := by decide +kernel
theorem dX9_count_184 : decode cX9_count 184 = .ok (.aload_n 0, 1) := by decide +kernel
theorem dX9_count_185 : decode cX9_count 185 = .ok (.getfield 12, 3) := by decide +kernel
theorem dX9_count_188 : decode cX9_count 188 = .ok (.getfield 161, 3) := by decide +kernel
theorem dX9_count_191 : decode cX9_count 191 = .ok (.ireturn, 1) := by decide +kernel
theorem dX9_count_192 : decode cX9_count 192 = .ok (.iconst (-1), 1) := by decide +kernel
theorem dX9_count_193 : decode cX9_count 193 = .ok (.ireturn, 1) := by decide +kernel
theorem dX9_status_0 : decode cX9_status 0 = .ok (.aload_n 0, 1) := by decide +kernel
theorem dX9_status_1 : decode cX9_status 1 = .ok (.getfield 86, 3) := by decide +kernel
theorem dX9_status_4 : decode cX9_status 4 = .ok (.ireturn, 1) := by decide +kernel
theorem dX10_init_0 : decode cX10_init 0 = .ok (.aload_n 0, 1) := by decide +kernel
theorem dX10_init_1 : decode cX10_init 1 = .ok (.invokespecial 1, 3) := by decide +kernel
theorem dX10_init_4 : decode cX10_init 4 = .ok (.aload_n 0, 1) := by decide +kernel
theorem dX10_init_5 : decode cX10_init 5 = .ok (.bipush 7, 2) := by decide +kernel
theorem dX10_init_7 : decode cX10_init 7 = .ok (.newarray .int, 2) := by decide +kernel
theorem dX10_init_9 : decode cX10_init 9 = .ok (.putfield 7, 3) := by decide +kernel
theorem dX10_init_12 : decode cX10_init 12 = .ok (.aload_n 0, 1) := by decide +kernel
theorem dX10_init_13 : decode cX10_init 13 = .ok (.sipush 5505, 3) := by decide +kernel
theorem dX10_init_16 : decode cX10_init 16 = .ok (.newarray .int, 2) := by decide +kernel
theorem dX10_init_18 : decode cX10_init 18 = .ok (.putfield 13, 3) := by decide +kernel
theorem dX10_init_21 : decode cX10_init 21 = .ok (.aload_n 0, 1) := by decide +kernel
theorem dX10_init_22 : decode cX10_init 22 = .ok (.sipush 11010, 3) := by decide +kernel
theorem dX10_init_25 : decode cX10_init 25 = .ok (.newarray .int, 2) := by decide +kernel
theorem dX10_init_27 : decode cX10_init 27 = .ok (.putfield 16, 3) := by decide +kernel
theorem dX10_init_30 : decode cX10_init 30 = .ok (.aload_n 0, 1) := by decide +kernel
theorem dX10_init_31 : decode cX10_init 31 = .ok (.iconst 2, 1) := by decide +kernel
theorem dX10_init_32 : decode cX10_init 32 = .ok (.newarray .boolean, 2) := by decide +kernel
theorem dX10_init_34 : decode cX10_init 34 = .ok (.putfield 19, 3) := by decide +kernel
theorem dX10_init_37 : decode cX10_init 37 = .ok (.aload_n 0, 1) := by decide +kernel
theorem dX10_init_38 : decode cX10_init 38 = .ok (.sipush 1273, 3) := by decide +kernel
theorem dX10_init_41 : decode cX10_init 41 = .ok (.newarray .int, 2) := by decide +kernel
theorem dX10_init_43 : decode cX10_init 43 = .ok (.putfield 23, 3) := by decide +kernel
theorem dX10_init_46 : decode cX10_init 46 = .ok (.aload_n 0, 1) := by decide +kernel
theorem dX10_init_47 : decode cX10_init 47 = .ok (.bipush 16, 2) := by decide +kernel
theorem dX10_init_49 : decode cX10_init 49 = .ok (.newarray .int, 2) := by decide +kernel
theorem dX10_init_51 : decode cX10_init 51 = .ok (.putfield 26, 3) := by decide +kernel
theorem dX10_init_54 : decode cX10_init 54 = .ok (.aload_n 0, 1) := by decide +kernel
theorem dX10_init_55 : decode cX10_init 55 = .ok (.sipush 1072, 3) := by decide +kernel
theorem dX10_init_58 : decode cX10_init 58 = .ok (.newarray .int, 2) := by decide +kernel
theorem dX10_init_60 : decode cX10_init 60 = .ok (.putfield 29, 3) := by decide +kernel
theorem dX10_init_63 : decode cX10_init 63 = .ok (.aload_n 0, 1) := by decide +kernel
theorem dX10_init_64 : decode cX10_init 64 = .ok (.bipush 16, 2) := by decide +kernel
theorem dX10_init_66 : decode cX10_init 66 = .ok (.newarray .int, 2) := by decide +kernel
theorem dX10_init_68 : decode cX10_init 68 = .ok (.putfield 32, 3) := by decide +kernel
theorem dX10_init_71 : decode cX10_init 71 = .ok (.aload_n 0, 1) := by decide +kernel
theorem dX10_init_72 : decode cX10_init 72 = .ok (.sipush 400, 3) := by decide +kernel
theorem dX10_init_75 : decode cX10_init 75 = .ok (.newarray .int, 2) := by decide +kernel
theorem dX10_init_77 : decode cX10_init 77 = .ok (.putfield 35, 3) := by decide +kernel
theorem dX10_init_80 : decode cX10_init 80 = .ok (.aload_n 0, 1) := by decide +kernel
theorem dX10_init_81 : decode cX10_init 81 = .ok (.iconst (-1), 1) := by decide +kernel
theorem dX10_init_82 : decode cX10_init 82 = .ok (.putfield 38, 3) := by decide +kernel
theorem dX10_init_85 : decode cX10_init 85 = .ok (.aload_n 0, 1) := by decide +kernel
theorem dX10_init_86 : decode cX10_init 86 = .ok (.bipush 96, 2) := by decide +kernel
theorem dX10_init_88 : decode cX10_init 88 = .ok (.newarray .int, 2) := by decide +kernel
theorem dX10_init_90 : decode cX10_init 90 = .ok (.putfield 42, 3) := by decide +kernel
theorem dX10_init_93 : decode cX10_init 93 = .ok (.aload_n 0, 1) := by decide +kernel
theorem dX10_init_94 : decode cX10_init 94 = .ok (.sipush 400, 3) := by decide +kernel
theorem dX10_init_97 : decode cX10_init 97 = .ok (.newarray .int, 2) := by decide +kernel
theorem dX10_init_99 : decode cX10_init 99 = .ok (.putfield 45, 3) := by decide +kernel
theorem dX10_init_102 : decode cX10_init 102 = .ok (.aload_n 0, 1) := by decide +kernel
theorem dX10_init_103 : decode cX10_init 103 = .ok (.sipush 400, 3) := by decide +kernel
theorem dX10_init_106 : decode cX10_init 106 = .ok (.newarray .int, 2) := by decide +kernel
theorem dX10_init_108 : decode cX10_init 108 = .ok (.putfield 48, 3) := by decide +kernel
theorem dX10_init_111 : decode cX10_init 111 = .ok (.aload_n 0, 1) := by decide +kernel
theorem dX10_init_112 : decode cX10_init 112 = .ok (.sipush 400, 3) := by decide +kernel
theorem dX10_init_115 : decode cX10_init 115 = .ok (.newarray .int, 2) := by decide +kernel
theorem dX10_init_117 : decode cX10_init 117 = .ok (.putfield 51, 3) := by decide +kernel
theorem dX10_init_120 : decode cX10_init 120 = .ok (.aload_n 0, 1) := by decide +kernel
theorem dX10_init_121 : decode cX10_init 121 = .ok (.sipush 400, 3) := by decide +kernel
theorem dX10_init_124 : decode cX10_init 124 = .ok (.newarray .int, 2) := by decide +kernel
theorem dX10_init_126 : decode cX10_init 126 = .ok (.putfield 54, 3) := by decide +kernel
theorem dX10_init_129 : decode cX10_init 129 = .ok (.aload_n 0, 1) := by decide +kernel
theorem dX10_init_130 : decode cX10_init 130 = .ok (.bipush 9, 2) := by decide +kernel
theorem dX10_init_132 : decode cX10_init 132 = .ok (.newarray .long, 2) := by decide +kernel
theorem dX10_init_134 : decode cX10_init 134 = .ok (.dup, 1) := by decide +kernel
theorem dX10_init_135 : decode cX10_init 135 = .ok (.iconst 0, 1) := by decide +kernel
theorem dX10_init_136 : decode cX10_init 136 = .ok (.ldc2_w 57, 3) := by decide +kernel
theorem dX10_init_139 : decode cX10_init 139 = .ok (.lastore, 1) := by decide +kernel
theorem dX10_init_140 : decode cX10_init 140 = .ok (.dup, 1) := by decide +kernel
theorem dX10_init_141 : decode cX10_init 141 = .ok (.iconst 1, 1) := by decide +kernel
theorem dX10_init_142 : decode cX10_init 142 = .ok (.ldc2_w 59, 3) := by decide +kernel
theorem dX10_init_145 : decode cX10_init 145 = .ok (.lastore, 1) := by decide +kernel
theorem dX10_init_146 : decode cX10_init 146 = .ok (.dup, 1) := by decide +kernel
theorem dX10_init_147 : decode cX10_init 147 = .ok (.iconst 2, 1) := by decide +kernel
theorem dX10_init_148 : decode cX10_init 148 = .ok (.ldc2_w 61, 3) := by decide +kernel
theorem dX10_init_151 : decode cX10_init 151 = .ok (.lastore, 1) := by decide +kernel
theorem dX10_init_152 : decode cX10_init 152 = .ok (.dup, 1) := by decide +kernel
theorem dX10_init_153 : decode cX10_init 153 = .ok (.iconst 3, 1) := by decide +kernel
theorem dX10_init_154 : decode cX10_init 154 = .ok (.ldc2_w 63, 3) := by decide +kernel
theorem dX10_init_157 : decode cX10_init 157 = .ok (.lastore, 1) := by decide +kernel
theorem dX10_init_158 : decode cX10_init 158 = .ok (.dup, 1) := by decide +kernel
theorem dX10_init_159 : decode cX10_init 159 = .ok (.iconst 4, 1) := by decide +kernel
theorem dX10_init_160 : decode cX10_init 160 = .ok (.ldc2_w 65, 3) := by decide +kernel
theorem dX10_init_163 : decode cX10_init 163 = .ok (.lastore, 1) := by decide +kernel
theorem dX10_init_164 : decode cX10_init 164 = .ok (.dup, 1) := by decide +kernel
theorem dX10_init_165 : decode cX10_init 165 = .ok (.iconst 5, 1) := by decide +kernel
theorem dX10_init_166 : decode cX10_init 166 = .ok (.ldc2_w 67, 3) := by decide +kernel
theorem dX10_init_169 : decode cX10_init 169 = .ok (.lastore, 1) := by decide +kernel
theorem dX10_init_170 : decode cX10_init 170 = .ok (.dup, 1) := by decide +kernel
theorem dX10_init_171 : decode cX10_init 171 = .ok (.bipush 6, 2) := by decide +kernel
theorem dX10_init_173 : decode cX10_init 173 = .ok (.ldc2_w 69, 3) := by decide +kernel
theorem dX10_init_176 : decode cX10_init 176 = .ok (.lastore, 1) := by decide +kernel
theorem dX10_init_177 : decode cX10_init 177 = .ok (.dup, 1) := by decide +kernel
theorem dX10_init_178 : decode cX10_init 178 = .ok (.bipush 7, 2) := by decide +kernel
theorem dX10_init_180 : decode cX10_init 180 = .ok (.ldc2_w 71, 3) := by decide +kernel
theorem dX10_init_183 : decode cX10_init 183 = .ok (.lastore, 1) := by decide +kernel
theorem dX10_init_184 : decode cX10_init 184 = .ok (.dup, 1) := by decide +kernel
theorem dX10_init_185 : decode cX10_init 185 = .ok (.bipush 8, 2) := by decide +kernel
theorem dX10_init_187 : decode cX10_init 187 = .ok (.ldc2_w 73, 3) := by decide +kernel
theorem dX10_init_190 : decode cX10_init 190 = .ok (.lastore, 1) := by decide +kernel
theorem dX10_init_191 : decode cX10_init 191 = .ok (.putfield 75, 3) := by decide +kernel
theorem dX10_init_194 : decode cX10_init 194 = .ok (.aload_n 0, 1) := by decide +kernel
theorem dX10_init_195 : decode cX10_init 195 = .ok (.bipush 7, 2) := by decide +kernel
theorem dX10_init_197 : decode cX10_init 197 = .ok (.newarray .long, 2) := by decide +kernel
theorem dX10_init_199 : decode cX10_init 199 = .ok (.dup, 1) := by decide +kernel
theorem dX10_init_200 : decode cX10_init 200 = .ok (.iconst 0, 1) := by decide +kernel
theorem dX10_init_201 : decode cX10_init 201 = .ok (.ldc2_w 71, 3) := by decide +kernel
theorem dX10_init_204 : decode cX10_init 204 = .ok (.lastore, 1) := by decide +kernel
theorem dX10_init_205 : decode cX10_init 205 = .ok (.dup, 1) := by decide +kernel
theorem dX10_init_206 : decode cX10_init 206 = .ok (.iconst 1, 1) := by decide +kernel
theorem dX10_init_207 : decode cX10_init 207 = .ok (.ldc2_w 79, 3) := by decide +kernel
theorem dX10_init_210 : decode cX10_init 210 = .ok (.lastore, 1) := by decide +kernel
theorem dX10_init_211 : decode cX10_init 211 = .ok (.dup, 1) := by decide +kernel
theorem dX10_init_212 : decode cX10_init 212 = .ok (.iconst 2, 1) := by decide +kernel
theorem dX10_init_213 : decode cX10_init 213 = .ok (.ldc2_w 81, 3) := by decide +kernel
theorem dX10_init_216 : decode cX10_init 216 = .ok (.lastore, 1) := by decide +kernel
theorem dX10_init_217 : decode cX10_init 217 = .ok (.dup, 1) := by decide +kernel
theorem dX10_init_218 : decode cX10_init 218 = .ok (.iconst 3, 1) := by decide +kernel
theorem dX10_init_219 : decode cX10_init 219 = .ok (.ldc2_w 83, 3) := by decide +kernel
theorem dX10_init_222 : decode cX10_init 222 = .ok (.lastore, 1) := by decide +kernel
theorem dX10_init_223 : decode cX10_init 223 = .ok (.dup, 1) := by decide +kernel
theorem dX10_init_224 : decode cX10_init 224 = .ok (.iconst 4, 1) := by decide +kernel
theorem dX10_init_225 : decode cX10_init 225 = .ok (.ldc2_w 85, 3) := by decide +kernel
theorem dX10_init_228 : decode cX10_init 228 = .ok (.lastore, 1) := by decide +kernel
theorem dX10_init_229 : decode cX10_init 229 = .ok (.dup, 1) := by decide +kernel
theorem dX10_init_230 : decode cX10_init 230 = .ok (.iconst 5, 1) := by decide +kernel
theorem dX10_init_231 : decode cX10_init 231 = .ok (.ldc2_w 67, 3) := by decide +kernel
theorem dX10_init_234 : decode cX10_init 234 = .ok (.lastore, 1) := by decide +kernel
theorem dX10_init_235 : decode cX10_init 235 = .ok (.dup, 1) := by decide +kernel
theorem dX10_init_236 : decode cX10_init 236 = .ok (.bipush 6, 2) := by decide +kernel
theorem dX10_init_238 : decode cX10_init 238 = .ok (.ldc2_w 61, 3) := by decide +kernel
theorem dX10_init_241 : decode cX10_init 241 = .ok (.lastore, 1) := by decide +kernel
theorem dX10_init_242 : decode cX10_init 242 = .ok (.putfield 87, 3) := by decide +kernel
theorem dX10_init_245 : decode cX10_init 245 = .ok (.aload_n 0, 1) := by decide +kernel
theorem dX10_init_246 : decode cX10_init 246 = .ok (.iconst 4, 1) := by decide +kernel
theorem dX10_init_247 : decode cX10_init 247 = .ok (.newarray .long, 2) := by decide +kernel
theorem dX10_init_249 : decode cX10_init 249 = .ok (.dup, 1) := by decide +kernel
theorem dX10_init_250 : decode cX10_init 250 = .ok (.iconst 0, 1) := by decide +kernel
theorem dX10_init_251 : decode cX10_init 251 = .ok (.ldc2_w 90, 3) := by decide +kernel
theorem dX10_init_254 : decode cX10_init 254 = .ok (.lastore, 1) := by decide +kernel
theorem dX10_init_255 : decode cX10_init 255 = .ok (.dup, 1) := by decide +kernel
theorem dX10_init_256 : decode cX10_init 256 = .ok (.iconst 1, 1) := by decide +kernel
theorem dX10_init_257 : decode cX10_init 257 = .ok (.ldc2_w 92, 3) := by decide +kernel
theorem dX10_init_260 : decode cX10_init 260 = .ok (.lastore, 1) := by decide +kernel
theorem dX10_init_261 : decode cX10_init 261 = .ok (.dup, 1) := by decide +kernel
theorem dX10_init_262 : decode cX10_init 262 = .ok (.iconst 2, 1) := by decide +kernel
theorem dX10_init_263 : decode cX10_init 263 = .ok (.ldc2_w 94, 3) := by decide +kernel
theorem dX10_init_266 : decode cX10_init 266 = .ok (.lastore, 1) := by decide +kernel
theorem dX10_init_267 : decode cX10_init 267 = .ok (.dup, 1) := by decide +kernel
theorem dX10_init_268 : decode cX10_init 268 = .ok (.iconst 3, 1) := by decide +kernel
theorem dX10_init_269 : decode cX10_init 269 = .ok (.ldc2_w 96, 3) := by decide +kernel
theorem dX10_init_272 : decode cX10_init 272 = .ok (.lastore, 1) := by decide +kernel
theorem dX10_init_273 : decode cX10_init 273 = .ok (.putfield 98, 3) := by decide +kernel
theorem dX10_init_276 : decode cX10_init 276 = .ok (.aload_n 0, 1) := by decide +kernel
theorem dX10_init_277 : decode cX10_init 277 = .ok (.bipush 13, 2) := by decide +kernel
theorem dX10_init_279 : decode cX10_init 279 = .ok (.newarray .long, 2) := by decide +kernel
theorem dX10_init_281 : decode cX10_init 281 = .ok (.putfield 101, 3) := by decide +kernel
theorem dX10_init_284 : decode cX10_init 284 = .ok (.aload_n 0, 1) := by decide +kernel
theorem dX10_init_285 : decode cX10_init 285 = .ok (.bipush 13, 2) := by decide +kernel
theorem dX10_init_287 : decode cX10_init 287 = .ok (.newarray .long, 2) := by decide +kernel
theorem dX10_init_289 : decode cX10_init 289 = .ok (.putfield 104, 3) := by decide +kernel
theorem dX10_init_292 : decode cX10_init 292 = .ok (.aload_n 0, 1) := by decide +kernel
theorem dX10_init_293 : decode cX10_init 293 = .ok (.sipush 400, 3) := by decide +kernel
theorem dX10_init_296 : decode cX10_init 296 = .ok (.newarray .long, 2) := by decide +kernel
theorem dX10_init_298 : decode cX10_init 298 = .ok (.putfield 107, 3) := by decide +kernel
theorem dX10_init_301 : decode cX10_init 301 = .ok (.aload_n 0, 1) := by decide +kernel
theorem dX10_init_302 : decode cX10_init 302 = .ok (.bipush 7, 2) := by decide +kernel
theorem dX10_init_304 : decode cX10_init 304 = .ok (.newarray .int, 2) := by decide +kernel
theorem dX10_init_306 : decode cX10_init 306 = .ok (.putfield 110, 3) := by decide +kernel
theorem dX10_init_309 : decode cX10_init 309 = .ok (.aload_n 0, 1) := by decide +kernel
theorem dX10_init_310 : decode cX10_init 310 = .ok (.bipush 6, 2) := by decide +kernel
theorem dX10_init_312 : decode cX10_init 312 = .ok (.newarray .int, 2) := by decide +kernel
theorem dX10_init_314 : decode cX10_init 314 = .ok (.putfield 113, 3) := by decide +kernel
theorem dX10_init_317 : decode cX10_init 317 = .ok (.aload_n 0, 1) := by decide +kernel
theorem dX10_init_318 : decode cX10_init 318 = .ok (.bipush 64, 2) := by decide +kernel
theorem dX10_init_320 : decode cX10_init 320 = .ok (.newarray .int, 2) := by decide +kernel
theorem dX10_init_322 : decode cX10_init 322 = .ok (.putfield 116, 3) := by decide +kernel
theorem dX10_init_325 : decode cX10_init 325 = .ok (.aload_n 0, 1) := by decide +kernel
theorem dX10_init_326 : decode cX10_init 326 = .ok (.sipush 256, 3) := by decide +kernel
theorem dX10_init_329 : decode cX10_init 329 = .ok (.newarray .boolean, 2) := by decide +kernel
theorem dX10_init_331 : decode cX10_init 331 = .ok (.putfield 119, 3) := by decide +kernel
theorem dX10_init_334 : decode cX10_init 334 = .ok (.aload_n 0, 1) := by decide +kernel
theorem dX10_init_335 : decode cX10_init 335 = .ok (.sipush 256, 3) := by decide +kernel
theorem dX10_init_338 : decode cX10_init 338 = .ok (.newarray .int, 2) := by decide +kernel
theorem dX10_init_340 : decode cX10_init 340 = .ok (.putfield 122, 3) := by decide +kernel
theorem dX10_init_343 : decode cX10_init 343 = .ok (.aload_n 0, 1) := by decide +kernel
theorem dX10_init_344 : decode cX10_init 344 = .ok (.bipush 8, 2) := by decide +kernel
theorem dX10_init_346 : decode cX10_init 346 = .ok (.newarray .int, 2) := by decide +kernel
theorem dX10_init_348 : decode cX10_init 348 = .ok (.putfield 125, 3) := by decide +kernel
theorem dX10_init_351 : decode cX10_init 351 = .ok (.aload_n 0, 1) := by decide +kernel
theorem dX10_init_352 : decode cX10_init 352 = .ok (.bipush 21, 2) := by decide +kernel
theorem dX10_init_354 : decode cX10_init 354 = .ok (.newarray .long, 2) := by decide +kernel
theorem dX10_init_356 : decode cX10_init 356 = .ok (.putfield 128, 3) := by decide +kernel
theorem dX10_init_359 : decode cX10_init 359 = .ok (.aload_n 0, 1) := by decide +kernel
theorem dX10_init_360 : decode cX10_init 360 = .ok (.iconst 4, 1) := by decide +kernel
theorem dX10_init_361 : decode cX10_init 361 = .ok (.newarray .long, 2) := by decide +kernel
theorem dX10_init_363 : decode cX10_init 363 = .ok (.dup, 1) := by decide +kernel
theorem dX10_init_364 : decode cX10_init 364 = .ok (.iconst 0, 1) := by decide +kernel
theorem dX10_init_365 : decode cX10_init 365 = .ok (.ldc2_w 131, 3) := by decide +kernel
theorem dX10_init_368 : decode cX10_init 368 = .ok (.lastore, 1) := by decide +kernel
theorem dX10_init_369 : decode cX10_init 369 = .ok (.dup, 1) := by decide +kernel
theorem dX10_init_370 : decode cX10_init 370 = .ok (.iconst 1, 1) := by decide +kernel
theorem dX10_init_371 : decode cX10_init 371 = .ok (.ldc2_w 133, 3) := by decide +kernel
theorem dX10_init_374 : decode cX10_init 374 = .ok (.lastore, 1) := by decide +kernel
theorem dX10_init_375 : decode cX10_init 375 = .ok (.dup, 1) := by decide +kernel
theorem dX10_init_376 : decode cX10_init 376 = .ok (.iconst 2, 1) := by decide +kernel
theorem dX10_init_377 : decode cX10_init 377 = .ok (.ldc2_w 135, 3) := by decide +kernel
theorem dX10_init_380 : decode cX10_init 380 = .ok (.lastore, 1) := by decide +kernel
theorem dX10_init_381 : decode cX10_init 381 = .ok (.dup, 1) := by decide +kernel
theorem dX10_init_382 : decode cX10_init 382 = .ok (.iconst 3, 1) := by decide +kernel
theorem dX10_init_383 : decode cX10_init 383 = .ok (.ldc2_w 137, 3) := by decide +kernel
theorem dX10_init_386 : decode cX10_init 386 = .ok (.lastore, 1) := by decide +kernel
theorem dX10_init_387 : decode cX10_init 387 = .ok (.putfield 139, 3) := by decide +kernel
theorem dX10_init_390 : decode cX10_init 390 = .ok (.aload_n 0, 1) := by decide +kernel
theorem dX10_init_391 : decode cX10_init 391 = .ok (.bipush 96, 2) := by decide +kernel
theorem dX10_init_393 : decode cX10_init 393 = .ok (.newarray .int, 2) := by decide +kernel
theorem dX10_init_395 : decode cX10_init 395 = .ok (.putfield 142, 3) := by decide +kernel
theorem dX10_init_398 : decode cX10_init 398 = .ok (.aload_n 0, 1) := by decide +kernel
theorem dX10_init_399 : decode cX10_init 399 = .ok (.iconst (-1), 1) := by decide +kernel
theorem dX10_init_400 : decode cX10_init 400 = .ok (.putfield 145, 3) := by decide +kernel
theorem dX10_init_403 : decode cX10_init 403 = .ok (.aload_n 0, 1) := by decide +kernel
theorem dX10_init_404 : decode cX10_init 404 = .ok (.bipush 26, 2) := by decide +kernel
theorem dX10_init_406 : decode cX10_init 406 = .ok (.newarray .int, 2) := by decide +kernel
theorem dX10_init_408 : decode cX10_init 408 = .ok (.putfield 148, 3) := by decide +kernel
theorem dX10_init_411 : decode cX10_init 411 = .ok (.aload_n 0, 1) := by decide +kernel
theorem dX10_init_412 : decode cX10_init 412 = .ok (.iconst (-1), 1) := by decide +kernel
theorem dX10_init_413 : decode cX10_init 413 = .ok (.putfield 151, 3) := by decide +kernel
theorem dX10_init_416 : decode cX10_init 416 = .ok (.aload_n 0, 1) := by decide +kernel
theorem dX10_init_417 : decode cX10_init 417 = .ok (.iconst (-1), 1) := by decide +kernel
theorem dX10_init_418 : decode cX10_init 418 = .ok (.putfield 154, 3) := by decide +kernel
theorem dX10_init_421 : decode cX10_init 421 = .ok (.aload_n 0, 1) := by decide +kernel
theorem dX10_init_422 : decode cX10_init 422 = .ok (.getfield 13, 3) := by decide +kernel
theorem dX10_init_425 : decode cX10_init 425 = .ok (.iconst 3, 1) := by decide +kernel
theorem dX10_init_426 : decode cX10_init 426 = .ok (.iconst (-1), 1) := by decide +kernel
theorem dX10_init_427 : decode cX10_init 427 = .ok (.iastore, 1) := by decide +kernel
theorem dX10_init_428 : decode cX10_init 428 = .ok (.aload_n 0, 1) := by decide +kernel
theorem dX10_init_429 : decode cX10_init 429 = .ok (.getfield 13, 3) := by decide +kernel
theorem dX10_init_432 : decode cX10_init 432 = .ok (.iconst 5, 1) := by decide +kernel
theorem dX10_init_433 : decode cX10_init 433 = .ok (.iconst 3, 1) := by decide +kernel
theorem dX10_init_434 : decode cX10_init 434 = .ok (.iastore, 1) := by decide +kernel
theorem dX10_init_435 : decode cX10_init 435 = .ok (.aload_n 0, 1) := by decide +kernel
theorem dX10_init_436 : decode cX10_init 436 = .ok (.getfield 13, 3) := by decide +kernel
theorem dX10_init_439 : decode cX10_init 439 = .ok (.bipush 6, 2) := by decide +kernel
theorem dX10_init_441 : decode cX10_init 441 = .ok (.iconst 1, 1) := by decide +kernel
theorem dX10_init_442 : decode cX10_init 442 = .ok (.iastore, 1) := by decide +kernel
theorem dX10_init_443 : decode cX10_init 443 = .ok (.return_, 1) := by decide +kernel
theorem dX10_in_0 : decode cX10_in 0 = .ok (.lload_n 0, 1) := by decide +kernel
theorem dX10_in_1 : decode cX10_in 1 = .ok (.lload_n 2, 1) := by decide +kernel
theorem dX10_in_2 : decode cX10_in 2 = .ok (.lcmp, 1) := by decide +kernel
theorem dX10_in_3 : decode cX10_in 3 = .ok (.ifCond .lt 14, 3) := by decide +kernel
theorem dX10_in_6 : decode cX10_in 6 = .ok (.lload_n 0, 1) := by decide +kernel
theorem dX10_in_7 : decode cX10_in 7 = .ok (.lload 4, 2) := by decide +kernel
theorem dX10_in_9 : decode cX10_in 9 = .ok (.lcmp, 1) := by decide +kernel
theorem dX10_in_10 : decode cX10_in 10 = .ok (.ifCond .gt 7, 3) := by decide +kernel
theorem dX10_in_13 : decode cX10_in 13 = .ok (.iconst 1, 1) := by decide +kernel
theorem dX10_in_14 : decode cX10_in 14 = .ok (.goto 4, 3) := by decide +kernel
theorem dX10_in_17 : decode cX10_in 17 = .ok (.iconst 0, 1) := by decide +kernel
theorem dX10_in_18 : decode cX10_in 18 = .ok (.ireturn, 1) := by decide +kernel
theorem dX10_is_0 : decode cX10_is 0 = .ok (.iload_n 0, 1) := by decide +kernel
theorem dX10_is_1 : decode cX10_is 1 = .ok (.iload_n 1, 1) := by decide +kernel
theorem dX10_is_2 : decode cX10_is 2 = .ok (.ishr, 1) := by decide +kernel
theorem dX10_is_3 : decode cX10_is 3 = .ok (.iconst 1, 1) := by decide +kernel
theorem dX10_is_4 : decode cX10_is 4 = .ok (.iand, 1) := by decide +kernel
theorem dX10_is_5 : decode cX10_is 5 = .ok (.iconst 1, 1) := by decide +kernel
theorem dX10_is_6 : decode cX10_is 6 = .ok (.if_icmp .ne 7, 3) := by decide +kernel
theorem dX10_is_9 : decode cX10_is 9 = .ok (.iconst 1, 1) := by decide +kernel
theorem dX10_is_10 : decode cX10_is 10 = .ok (.goto 4, 3) := by decide +kernel
theorem dX10_is_13 : decode cX10_is 13 = .ok (.iconst 0, 1) := by decide +kernel
theorem dX10_is_14 : decode cX10_is 14 = .ok (.ireturn, 1) := by decide +kernel
theorem dX10_isIn_0 : decode cX10_isIn 0 = .ok (.iload_n 0, 1) := by decide +kernel
theorem dX10_isIn_1 : decode cX10_isIn 1 = .ok (.iload_n 1, 1) := by decide +kernel
theorem dX10_isIn_2 : decode cX10_isIn 2 = .ok (.iconst (-1), 1) := by decide +kernel
theorem dX10_isIn_3 : decode cX10_isIn 3 = .ok (.ixor, 1) := by decide +kernel
theorem dX10_isIn_4 : decode cX10_isIn 4 = .ok (.iand, 1) := by decide +kernel
theorem dX10_isIn_5 : decode cX10_isIn 5 = .ok (.ifCond .ne 7, 3) := by decide +kernel
theorem dX10_isIn_8 : decode cX10_isIn 8 = .ok (.iconst 1, 1) := by decide +kernel
theorem dX10_isIn_9 : decode cX10_isIn 9 = .ok (.goto 4, 3) := by decide +kernel
theorem dX10_isIn_12 : decode cX10_isIn 12 = .ok (.iconst 0, 1) := by decide +kernel
theorem dX10_isIn_13 : decode cX10_isIn 13 = .ok (.ireturn, 1) := by decide +kernel
theorem dX10_ones_0 : decode cX10_ones 0 = .ok (.iconst 0, 1) := by decide +kernel
theorem dX10_ones_1 : decode cX10_ones 1 = .ok (.istore_n 1, 1) := by decide +kernel
theorem dX10_ones_2 : decode cX10_ones 2 = .ok (.iconst 0, 1) := by decide +kernel
theorem dX10_ones_3 : decode cX10_ones 3 = .ok (.istore_n 2, 1) := by decide +kernel
theorem dX10_ones_4 : decode cX10_ones 4 = .ok (.iload_n 2, 1) := by decide +kernel
theorem dX10_ones_5 : decode cX10_ones 5 = .ok (.bipush 8, 2) := by decide +kernel
theorem dX10_ones_7 : decode cX10_ones 7 = .ok (.if_icmp .ge 17, 3) := by decide +kernel
theorem dX10_ones_10 : decode cX10_ones 10 = .ok (.iload_n 1, 1) := by decide +kernel
theorem dX10_ones_11 : decode cX10_ones 11 = .ok (.iload_n 0, 1) := by decide +kernel
theorem dX10_ones_12 : decode cX10_ones 12 = .ok (.iload_n 2, 1) := by decide +kernel
theorem dX10_ones_13 : decode cX10_ones 13 = .ok (.ishr, 1) := by decide +kernel
theorem dX10_ones_14 : decode cX10_ones 14 = .ok (.iconst 1, 1) := by decide +kernel
theorem dX10_ones_15 : decode cX10_ones 15 = .ok (.iand, 1) := by decide +kernel
theorem dX10_ones_16 : decode cX10_ones 16 = .ok (.iadd, 1) := by decide +kernel
theorem dX10_ones_17 : decode cX10_ones 17 = .ok (.istore_n 1, 1) := by decide +kernel
theorem dX10_ones_18 : decode cX10_ones 18 = .ok (.iinc 2 1, 3) := by decide +kernel
theorem dX10_ones_21 : decode cX10_ones 21 = .ok (.goto (-17), 3) := by decide +kernel
theorem dX10_ones_24 : decode cX10_ones 24 = .ok (.iload_n 1, 1) := by decide +kernel
theorem dX10_ones_25 : decode cX10_ones 25 = .ok (.ireturn, 1) := by decide +kernel
theorem dX10_within_0 : decode cX10_within 0 = .ok (.lload_n 0, 1) := by decide +kernel
theorem dX10_within_1 : decode cX10_within 1 = .ok (.iload_n 2, 1) := by decide +kernel
theorem dX10_within_2 : decode cX10_within 2 = .ok (.i2l, 1) := by decide +kernel
theorem dX10_within_3 : decode cX10_within 3 = .ok (.lcmp, 1) := by decide +kernel
theorem dX10_within_4 : decode cX10_within 4 = .ok (.ifCond .ge 7, 3) := by decide +kernel
theorem dX10_within_7 : decode cX10_within 7 = .ok (.iload_n 2, 1) := by decide +kernel
theorem dX10_within_8 : decode cX10_within 8 = .ok (.goto 16, 3) := by decide +kernel
theorem dX10_within_11 : decode cX10_within 11 = .ok (.lload_n 0, 1) := by decide +kernel
theorem dX10_within_12 : decode cX10_within 12 = .ok (.iload_n 3, 1) := by decide +kernel
theorem dX10_within_13 : decode cX10_within 13 = .ok (.i2l, 1) := by decide +kernel
theorem dX10_within_14 : decode cX10_within 14 = .ok (.lcmp, 1) := by decide +kernel
theorem dX10_within_15 : decode cX10_within 15 = .ok (.ifCond .le 7, 3) := by decide +kernel
theorem dX10_within_18 : decode cX10_within 18 = .ok (.iload_n 3, 1) := by decide +kernel
theorem dX10_within_19 : decode cX10_within 19 = .ok (.goto 5, 3) := by decide +kernel
theorem dX10_within_22 : decode cX10_within 22 = .ok (.lload_n 0, 1) := by decide +kernel
theorem dX10_within_23 : decode cX10_within 23 = .ok (.l2i, 1) := by decide +kernel
theorem dX10_within_24 : decode cX10_within 24 = .ok (.ireturn, 1) := by decide +kernel
theorem dX10_tell_0 : decode cX10_tell 0 = .ok (.aload_n 0, 1) := by decide +kernel
theorem dX10_tell_1 : decode cX10_tell 1 = .ok (.iload_n 1, 1) := by decide +kernel
theorem dX10_tell_2 : decode cX10_tell 2 = .ok (.ifCond .ge 7, 3) := by decide +kernel
theorem dX10_tell_5 : decode cX10_tell 5 = .ok (.iload_n 1, 1) := by decide +kernel
theorem dX10_tell_6 : decode cX10_tell 6 = .ok (.goto 4, 3) := by decide +kernel
theorem dX10_tell_9 : decode cX10_tell 9 = .ok (.iconst 0, 1) := by decide +kernel
theorem dX10_tell_10 : decode cX10_tell 10 = .ok (.putfield 160, 3) := by decide +kernel
theorem dX10_tell_13 : decode cX10_tell 13 = .ok (.iload_n 1, 1) := by decide +kernel
theorem dX10_tell_14 : decode cX10_tell 14 = .ok (.ifCond .ge 14, 3) := by decide +kernel
theorem dX10_tell_17 : decode cX10_tell 17 = .ok (.aload_n 0, 1) := by decide +kernel
theorem dX10_tell_18 : decode cX10_tell 18 = .ok (.getfield 7, 3) := by decide +kernel
theorem dX10_tell_21 : decode cX10_tell 21 = .ok (.iload_n 1, 1) := by decide +kernel
theorem dX10_tell_22 : decode cX10_tell 22 = .ok (.ineg, 1) := by decide +kernel
theorem dX10_tell_23 : decode cX10_tell 23 = .ok (.dup2, 1) := by decide +kernel
theorem dX10_tell_24 : decode cX10_tell 24 = .ok (.iaload, 1) := by decide +kernel
theorem dX10_tell_25 : decode cX10_tell 25 = .ok (.iconst 1, 1) := by decide +kernel
theorem dX10_tell_26 : decode cX10_tell 26 = .ok (.iadd, 1) := by decide +kernel
theorem dX10_tell_27 : decode cX10_tell 27 = .ok (.iastore, 1) := by decide +kernel
theorem dX10_tell_28 : decode cX10_tell 28 = .ok (.iload_n 1, 1) := by decide +kernel
theorem dX10_tell_29 : decode cX10_tell 29 = .ok (.ireturn, 1) := by decide +kernel
theorem dX10_change_0 : decode cX10_change 0 = .ok (.aload_n 0, 1) := by decide +kernel
theorem dX10_change_1 : decode cX10_change 1 = .ok (.getfield 13, 3) := by decide +kernel
theorem dX10_change_4 : decode cX10_change 4 = .ok (.iload_n 1, 1) := by decide +kernel
theorem dX10_change_5 : decode cX10_change 5 = .ok (.iaload, 1) := by decide +kernel
theorem dX10_change_6 : decode cX10_change 6 = .ok (.istore_n 3, 1) := by decide +kernel
theorem dX10_change_7 : decode cX10_change 7 = .ok (.aload_n 0, 1) := by decide +kernel
theorem dX10_change_8 : decode cX10_change 8 = .ok (.getfield 13, 3) := by decide +kernel
theorem dX10_change_11 : decode cX10_change 11 = .ok (.iload_n 1, 1) := by decide +kernel
theorem dX10_change_12 : decode cX10_change 12 = .ok (.iload_n 2, 1) := by decide +kernel
theorem dX10_change_13 : decode cX10_change 13 = .ok (.iastore, 1) := by decide +kernel
theorem dX10_change_14 : decode cX10_change 14 = .ok (.aload_n 0, 1) := by decide +kernel
theorem dX10_change_15 : decode cX10_change 15 = .ok (.iconst 0, 1) := by decide +kernel
theorem dX10_change_16 : decode cX10_change 16 = .ok (.putfield 160, 3) := by decide +kernel
theorem dX10_change_19 : decode cX10_change 19 = .ok (.iload_n 3, 1) := by decide +kernel
theorem dX10_change_20 : decode cX10_change 20 = .ok (.ireturn, 1) := by decide +kernel
theorem dX10_settled_0 : decode cX10_settled 0 = .ok (.aload_n 0, 1) := by decide +kernel
theorem dX10_settled_1 : decode cX10_settled 1 = .ok (.iload_n 1, 1) := by decide +kernel
theorem dX10_settled_2 : decode cX10_settled 2 = .ok (.ifCond .ge 10, 3) := by decide +kernel
theorem dX10_settled_5 : decode cX10_settled 5 = .ok (.aload_n 0, 1) := by decide +kernel
theorem dX10_settled_6 : decode cX10_settled 6 = .ok (.getfield 163, 3) := by decide +kernel
theorem dX10_settled_9 : decode cX10_settled 9 = .ok (.goto 4, 3) := by decide +kernel
theorem dX10_settled_12 : decode cX10_settled 12 = .ok (.iconst 0, 1) := by decide +kernel
theorem dX10_settled_13 : decode cX10_settled 13 = .ok (.putfield 163, 3) := by decide +kernel
theorem dX10_settled_16 : decode cX10_settled 16 = .ok (.aload_n 0, 1) := by decide +kernel
theorem dX10_settled_17 : decode cX10_settled 17 = .ok (.iload_n 1, 1) := by decide +kernel
theorem dX10_settled_18 : decode cX10_settled 18 = .ok (.invokevirtual 166, 3) := by decide +kernel
theorem dX10_settled_21 : decode cX10_settled 21 = .ok (.ireturn, 1) := by decide +kernel
theorem dX10_keepAll_0 : decode cX10_keepAll 0 = .ok (.iconst 0, 1) := by decide +kernel
theorem dX10_keepAll_1 : decode cX10_keepAll 1 = .ok (.istore_n 2, 1) := by decide +kernel
theorem dX10_keepAll_2 : decode cX10_keepAll 2 = .ok (.iload_n 2, 1) := by decide +kernel
theorem dX10_keepAll_3 : decode cX10_keepAll 3 = .ok (.bipush 67, 2) := by decide +kernel
theorem dX10_keepAll_5 : decode cX10_keepAll 5 = .ok (.if_icmp .ge 28, 3) := by decide +kernel
theorem dX10_keepAll_8 : decode cX10_keepAll 8 = .ok (.aload_n 0, 1) := by decide +kernel
theorem dX10_keepAll_9 : decode cX10_keepAll 9 = .ok (.getfield 23, 3) := by decide +kernel
theorem dX10_keepAll_12 : decode cX10_keepAll 12 = .ok (.bipush 67, 2) := by decide +kernel
theorem dX10_keepAll_14 : decode cX10_keepAll 14 = .ok (.iload_n 1, 1) := by decide +kernel
theorem dX10_keepAll_15 : decode cX10_keepAll 15 = .ok (.imul, 1) := by decide +kernel
theorem dX10_keepAll_16 : decode cX10_keepAll 16 = .ok (.iload_n 2, 1) := by decide +kernel
theorem dX10_keepAll_17 : decode cX10_keepAll 17 = .ok (.iadd, 1) := by decide +kernel
theorem dX10_keepAll_18 : decode cX10_keepAll 18 = .ok (.aload_n 0, 1) := by decide +kernel
theorem dX10_keepAll_19 : decode cX10_keepAll 19 = .ok (.getfield 13, 3) := by decide +kernel
theorem dX10_keepAll_22 : decode cX10_keepAll 22 = .ok (.iconst 4, 1) := by decide +kernel
theorem dX10_keepAll_23 : decode cX10_keepAll 23 = .ok (.iload_n 2, 1) := by decide +kernel
theorem dX10_keepAll_24 : decode cX10_keepAll 24 = .ok (.iadd, 1) := by decide +kernel
theorem dX10_keepAll_25 : decode cX10_keepAll 25 = .ok (.iaload, 1) := by decide +kernel
theorem dX10_keepAll_26 : decode cX10_keepAll 26 = .ok (.iastore, 1) := by decide +kernel
theorem dX10_keepAll_27 : decode cX10_keepAll 27 = .ok (.iinc 2 1, 3) := by decide +kernel
theorem dX10_keepAll_30 : decode cX10_keepAll 30 = .ok (.goto (-28), 3) := by decide +kernel
theorem dX10_keepAll_33 : decode cX10_keepAll 33 = .ok (.return_, 1) := by decide +kernel
theorem dX10_putBack_0 : decode cX10_putBack 0 = .ok (.iconst 0, 1) := by decide +kernel
theorem dX10_putBack_1 : decode cX10_putBack 1 = .ok (.istore_n 2, 1) := by decide +kernel
theorem dX10_putBack_2 : decode cX10_putBack 2 = .ok (.iload_n 2, 1) := by decide +kernel
theorem dX10_putBack_3 : decode cX10_putBack 3 = .ok (.bipush 67, 2) := by decide +kernel
theorem dX10_putBack_5 : decode cX10_putBack 5 = .ok (.if_icmp .ge 28, 3) := by decide +kernel
theorem dX10_putBack_8 : decode cX10_putBack 8 = .ok (.aload_n 0, 1) := by decide +kernel
theorem dX10_putBack_9 : decode cX10_putBack 9 = .ok (.getfield 13, 3) := by decide +kernel
theorem dX10_putBack_12 : decode cX10_putBack 12 = .ok (.iconst 4, 1) := by decide +kernel
theorem dX10_putBack_13 : decode cX10_putBack 13 = .ok (.iload_n 2, 1) := by decide +kernel
theorem dX10_putBack_14 : decode cX10_putBack 14 = .ok (.iadd, 1) := by decide +kernel
theorem dX10_putBack_15 : decode cX10_putBack 15 = .ok (.aload_n 0, 1) := by decide +kernel
theorem dX10_putBack_16 : decode cX10_putBack 16 = .ok (.getfield 23, 3) := by decide +kernel
theorem dX10_putBack_19 : decode cX10_putBack 19 = .ok (.bipush 67, 2) := by decide +kernel
theorem dX10_putBack_21 : decode cX10_putBack 21 = .ok (.iload_n 1, 1) := by decide +kernel
theorem dX10_putBack_22 : decode cX10_putBack 22 = .ok (.imul, 1) := by decide +kernel
theorem dX10_putBack_23 : decode cX10_putBack 23 = .ok (.iload_n 2, 1) := by decide +kernel
theorem dX10_putBack_24 : decode cX10_putBack 24 = .ok (.iadd, 1) := by decide +kernel
theorem dX10_putBack_25 : decode cX10_putBack 25 = .ok (.iaload, 1) := by decide +kernel
theorem dX10_putBack_26 : decode cX10_putBack 26 = .ok (.iastore, 1) := by decide +kernel
theorem dX10_putBack_27 : decode cX10_putBack 27 = .ok (.iinc 2 1, 3) := by decide +kernel
theorem dX10_putBack_30 : decode cX10_putBack 30 = .ok (.goto (-28), 3) := by decide +kernel
theorem dX10_putBack_33 : decode cX10_putBack 33 = .ok (.return_, 1) := by decide +kernel
theorem dX10_remember_0 : decode cX10_remember 0 = .ok (.aload_n 0, 1) := by decide +kernel
theorem dX10_remember_1 : decode cX10_remember 1 = .ok (.getfield 163, 3) := by decide +kernel
theorem dX10_remember_4 : decode cX10_remember 4 = .ok (.bipush 16, 2) := by decide +kernel
theorem dX10_remember_6 : decode cX10_remember 6 = .ok (.if_icmp .ne 71, 3) := by decide +kernel
theorem dX10_remember_9 : decode cX10_remember 9 = .ok (.iconst 0, 1) := by decide +kernel
theorem dX10_remember_10 : decode cX10_remember 10 = .ok (.istore_n 2, 1) := by decide +kernel
theorem dX10_remember_11 : decode cX10_remember 11 = .ok (.iload_n 2, 1) := by decide +kernel
theorem dX10_remember_12 : decode cX10_remember 12 = .ok (.sipush 1005, 3) := by decide +kernel
theorem dX10_remember_15 : decode cX10_remember 15 = .ok (.if_icmp .ge 24, 3) := by decide +kernel
theorem dX10_remember_18 : decode cX10_remember 18 = .ok (.aload_n 0, 1) := by decide +kernel
theorem dX10_remember_19 : decode cX10_remember 19 = .ok (.getfield 23, 3) := by decide +kernel
theorem dX10_remember_22 : decode cX10_remember 22 = .ok (.iload_n 2, 1) := by decide +kernel
theorem dX10_remember_23 : decode cX10_remember 23 = .ok (.aload_n 0, 1) := by decide +kernel
theorem dX10_remember_24 : decode cX10_remember 24 = .ok (.getfield 23, 3) := by decide +kernel
theorem dX10_remember_27 : decode cX10_remember 27 = .ok (.iload_n 2, 1) := by decide +kernel
theorem dX10_remember_28 : decode cX10_remember 28 = .ok (.bipush 67, 2) := by decide +kernel
theorem dX10_remember_30 : decode cX10_remember 30 = .ok (.iadd, 1) := by decide +kernel
theorem dX10_remember_31 : decode cX10_remember 31 = .ok (.iaload, 1) := by decide +kernel
theorem dX10_remember_32 : decode cX10_remember 32 = .ok (.iastore, 1) := by decide +kernel
theorem dX10_remember_33 : decode cX10_remember 33 = .ok (.iinc 2 1, 3) := by decide +kernel
theorem dX10_remember_36 : decode cX10_remember 36 = .ok (.goto (-25), 3) := by decide +kernel
theorem dX10_remember_39 : decode cX10_remember 39 = .ok (.iconst 0, 1) := by decide +kernel
theorem dX10_remember_40 : decode cX10_remember 40 = .ok (.istore_n 2, 1) := by decide +kernel
theorem dX10_remember_41 : decode cX10_remember 41 = .ok (.iload_n 2, 1) := by decide +kernel
theorem dX10_remember_42 : decode cX10_remember 42 = .ok (.bipush 15, 2) := by decide +kernel
theorem dX10_remember_44 : decode cX10_remember 44 = .ok (.if_icmp .ge 23, 3) := by decide +kernel
theorem dX10_remember_47 : decode cX10_remember 47 = .ok (.aload_n 0, 1) := by decide +kernel
theorem dX10_remember_48 : decode cX10_remember 48 = .ok (.getfield 26, 3) := by decide +kernel
theorem dX10_remember_51 : decode cX10_remember 51 = .ok (.iload_n 2, 1) := by decide +kernel
theorem dX10_remember_52 : decode cX10_remember 52 = .ok (.aload_n 0, 1) := by decide +kernel
theorem dX10_remember_53 : decode cX10_remember 53 = .ok (.getfield 26, 3) := by decide +kernel
theorem dX10_remember_56 : decode cX10_remember 56 = .ok (.iload_n 2, 1) := by decide +kernel
theorem dX10_remember_57 : decode cX10_remember 57 = .ok (.iconst 1, 1) := by decide +kernel
theorem dX10_remember_58 : decode cX10_remember 58 = .ok (.iadd, 1) := by decide +kernel
theorem dX10_remember_59 : decode cX10_remember 59 = .ok (.iaload, 1) := by decide +kernel
theorem dX10_remember_60 : decode cX10_remember 60 = .ok (.iastore, 1) := by decide +kernel
theorem dX10_remember_61 : decode cX10_remember 61 = .ok (.iinc 2 1, 3) := by decide +kernel
theorem dX10_remember_64 : decode cX10_remember 64 = .ok (.goto (-23), 3) := by decide +kernel
theorem dX10_remember_67 : decode cX10_remember 67 = .ok (.aload_n 0, 1) := by decide +kernel
theorem dX10_remember_68 : decode cX10_remember 68 = .ok (.dup, 1) := by decide +kernel
theorem dX10_remember_69 : decode cX10_remember 69 = .ok (.getfield 163, 3) := by decide +kernel
theorem dX10_remember_72 : decode cX10_remember 72 = .ok (.iconst 1, 1) := by decide +kernel
theorem dX10_remember_73 : decode cX10_remember 73 = .ok (.isub, 1) := by decide +kernel
theorem dX10_remember_74 : decode cX10_remember 74 = .ok (.putfield 163, 3) := by decide +kernel
theorem dX10_remember_77 : decode cX10_remember 77 = .ok (.aload_n 0, 1) := by decide +kernel
theorem dX10_remember_78 : decode cX10_remember 78 = .ok (.aload_n 0, 1) := by decide +kernel
theorem dX10_remember_79 : decode cX10_remember 79 = .ok (.getfield 163, 3) := by decide +kernel
theorem dX10_remember_82 : decode cX10_remember 82 = .ok (.invokevirtual 170, 3) := by decide +kernel
theorem dX10_remember_85 : decode cX10_remember 85 = .ok (.aload_n 0, 1) := by decide +kernel
theorem dX10_remember_86 : decode cX10_remember 86 = .ok (.getfield 26, 3) := by decide +kernel
theorem dX10_remember_89 : decode cX10_remember 89 = .ok (.aload_n 0, 1) := by decide +kernel
theorem dX10_remember_90 : decode cX10_remember 90 = .ok (.getfield 163, 3) := by decide +kernel
theorem dX10_remember_93 : decode cX10_remember 93 = .ok (.iload_n 1, 1) := by decide +kernel
theorem dX10_remember_94 : decode cX10_remember 94 = .ok (.iastore, 1) := by decide +kernel
theorem dX10_remember_95 : decode cX10_remember 95 = .ok (.aload_n 0, 1) := by decide +kernel
theorem dX10_remember_96 : decode cX10_remember 96 = .ok (.dup, 1) := by decide +kernel
theorem dX10_remember_97 : decode cX10_remember 97 = .ok (.getfield 163, 3) := by decide +kernel
theorem dX10_remember_100 : decode cX10_remember 100 = .ok (.iconst 1, 1) := by decide +kernel
theorem dX10_remember_101 : decode cX10_remember 101 = .ok (.iadd, 1) := by decide +kernel
theorem dX10_remember_102 : decode cX10_remember 102 = .ok (.putfield 163, 3) := by decide +kernel
theorem dX10_remember_105 : decode cX10_remember 105 = .ok (.return_, 1) := by decide +kernel
theorem dX10_undo_0 : decode cX10_undo 0 = .ok (.aload_n 0, 1) := by decide +kernel
theorem dX10_undo_1 : decode cX10_undo 1 = .ok (.iconst 0, 1) := by decide +kernel
theorem dX10_undo_2 : decode cX10_undo 2 = .ok (.putfield 157, 3) := by decide +kernel
theorem dX10_undo_5 : decode cX10_undo 5 = .ok (.aload_n 0, 1) := by decide +kernel
theorem dX10_undo_6 : decode cX10_undo 6 = .ok (.getfield 163, 3) := by decide +kernel
theorem dX10_undo_9 : decode cX10_undo 9 = .ok (.ifCond .ne 10, 3) := by decide +kernel
theorem dX10_undo_12 : decode cX10_undo 12 = .ok (.aload_n 0, 1) := by decide +kernel
theorem dX10_undo_13 : decode cX10_undo 13 = .ok (.bipush (-3), 2) := by decide +kernel
theorem dX10_undo_15 : decode cX10_undo 15 = .ok (.invokevirtual 166, 3) := by decide +kernel
theorem dX10_undo_18 : decode cX10_undo 18 = .ok (.ireturn, 1) := by decide +kernel
theorem dX10_undo_19 : decode cX10_undo 19 = .ok (.aload_n 0, 1) := by decide +kernel
theorem dX10_undo_20 : decode cX10_undo 20 = .ok (.dup, 1) := by decide +kernel
theorem dX10_undo_21 : decode cX10_undo 21 = .ok (.getfield 163, 3) := by decide +kernel
theorem dX10_undo_24 : decode cX10_undo 24 = .ok (.iconst 1, 1) := by decide +kernel
theorem dX10_undo_25 : decode cX10_undo 25 = .ok (.isub, 1) := by decide +kernel
theorem dX10_undo_26 : decode cX10_undo 26 = .ok (.putfield 163, 3) := by decide +kernel
theorem dX10_undo_29 : decode cX10_undo 29 = .ok (.aload_n 0, 1) := by decide +kernel
theorem dX10_undo_30 : decode cX10_undo 30 = .ok (.aload_n 0, 1) := by decide +kernel
theorem dX10_undo_31 : decode cX10_undo 31 = .ok (.getfield 163, 3) := by decide +kernel
theorem dX10_undo_34 : decode cX10_undo 34 = .ok (.invokevirtual 174, 3) := by decide +kernel
theorem dX10_undo_37 : decode cX10_undo 37 = .ok (.aload_n 0, 1) := by decide +kernel
theorem dX10_undo_38 : decode cX10_undo 38 = .ok (.aload_n 0, 1) := by decide +kernel
theorem dX10_undo_39 : decode cX10_undo 39 = .ok (.getfield 26, 3) := by decide +kernel
theorem dX10_undo_42 : decode cX10_undo 42 = .ok (.aload_n 0, 1) := by decide +kernel
theorem dX10_undo_43 : decode cX10_undo 43 = .ok (.getfield 163, 3) := by decide +kernel
theorem dX10_undo_46 : decode cX10_undo 46 = .ok (.iaload, 1) := by decide +kernel
theorem dX10_undo_47 : decode cX10_undo 47 = .ok (.invokevirtual 166, 3) := by decide +kernel
theorem dX10_undo_50 : decode cX10_undo 50 = .ok (.ireturn, 1) := by decide +kernel
theorem dX10_image_0 : decode cX10_image 0 = .ok (.aload_n 0, 1) := by decide +kernel
theorem dX10_image_1 : decode cX10_image 1 = .ok (.iconst 0, 1) := by decide +kernel
theorem dX10_image_2 : decode cX10_image 2 = .ok (.putfield 157, 3) := by decide +kernel
theorem dX10_image_5 : decode cX10_image 5 = .ok (.iload_n 1, 1) := by decide +kernel
theorem dX10_image_6 : decode cX10_image 6 = .ok (.i2l, 1) := by decide +kernel
theorem dX10_image_7 : decode cX10_image 7 = .ok (.lconst 0, 1) := by decide +kernel
theorem dX10_image_8 : decode cX10_image 8 = .ok (.lconst 1, 1) := by decide +kernel
theorem dX10_image_9 : decode cX10_image 9 = .ok (.invokestatic 177, 3) := by decide +kernel
theorem dX10_image_12 : decode cX10_image 12 = .ok (.ifCond .ne 9, 3) := by decide +kernel
theorem dX10_image_15 : decode cX10_image 15 = .ok (.aload_n 0, 1) := by decide +kernel
theorem dX10_image_16 : decode cX10_image 16 = .ok (.iconst (-1), 1) := by decide +kernel
theorem dX10_image_17 : decode cX10_image 17 = .ok (.invokevirtual 166, 3) := by decide +kernel
theorem dX10_image_20 : decode cX10_image 20 = .ok (.ireturn, 1) := by decide +kernel
theorem dX10_image_21 : decode cX10_image 21 = .ok (.iconst 0, 1) := by decide +kernel
theorem dX10_image_22 : decode cX10_image 22 = .ok (.istore_n 2, 1) := by decide +kernel
theorem dX10_image_23 : decode cX10_image 23 = .ok (.iload_n 2, 1) := by decide +kernel
theorem dX10_image_24 : decode cX10_image 24 = .ok (.sipush 5505, 3) := by decide +kernel
theorem dX10_image_27 : decode cX10_image 27 = .ok (.if_icmp .ge 27, 3) := by decide +kernel
theorem dX10_image_30 : decode cX10_image 30 = .ok (.aload_n 0, 1) := by decide +kernel
theorem dX10_image_31 : decode cX10_image 31 = .ok (.getfield 16, 3) := by decide +kernel
theorem dX10_image_34 : decode cX10_image 34 = .ok (.sipush 5505, 3) := by decide +kernel
theorem dX10_image_37 : decode cX10_image 37 = .ok (.iload_n 1, 1) := by decide +kernel
theorem dX10_image_38 : decode cX10_image 38 = .ok (.imul, 1) := by decide +kernel
theorem dX10_image_39 : decode cX10_image 39 = .ok (.iload_n 2, 1) := by decide +kernel
theorem dX10_image_40 : decode cX10_image 40 = .ok (.iadd, 1) := by decide +kernel
theorem dX10_image_41 : decode cX10_image 41 = .ok (.aload_n 0, 1) := by decide +kernel
theorem dX10_image_42 : decode cX10_image 42 = .ok (.getfield 13, 3) := by decide +kernel
theorem dX10_image_45 : decode cX10_image 45 = .ok (.iload_n 2, 1) := by decide +kernel
theorem dX10_image_46 : decode cX10_image 46 = .ok (.iaload, 1) := by decide +kernel
theorem dX10_image_47 : decode cX10_image 47 = .ok (.iastore, 1) := by decide +kernel
theorem dX10_image_48 : decode cX10_image 48 = .ok (.iinc 2 1, 3) := by decide +kernel
theorem dX10_image_51 : decode cX10_image 51 = .ok (.goto (-28), 3) := by decide +kernel
theorem dX10_image_54 : decode cX10_image 54 = .ok (.aload_n 0, 1) := by decide +kernel
theorem dX10_image_55 : decode cX10_image 55 = .ok (.getfield 19, 3) := by decide +kernel
theorem dX10_image_58 : decode cX10_image 58 = .ok (.iload_n 1, 1) := by decide +kernel
theorem dX10_image_59 : decode cX10_image 59 = .ok (.iconst 1, 1) := by decide +kernel
theorem dX10_image_60 : decode cX10_image 60 = .ok (.bastore, 1) := by decide +kernel
theorem dX10_image_61 : decode cX10_image 61 = .ok (.aload_n 0, 1) := by decide +kernel
theorem dX10_image_62 : decode cX10_image 62 = .ok (.iconst 0, 1) := by decide +kernel
theorem dX10_image_63 : decode cX10_image 63 = .ok (.invokevirtual 166, 3) := by decide +kernel
theorem dX10_image_66 : decode cX10_image 66 = .ok (.ireturn, 1) := by decide +kernel
theorem dX10_back_0 : decode cX10_back 0 = .ok (.aload_n 0, 1) := by decide +kernel
theorem dX10_back_1 : decode cX10_back 1 = .ok (.iconst 0, 1) := by decide +kernel
theorem dX10_back_2 : decode cX10_back 2 = .ok (.putfield 157, 3) := by decide +kernel
theorem dX10_back_5 : decode cX10_back 5 = .ok (.iload_n 1, 1) := by decide +kernel
theorem dX10_back_6 : decode cX10_back 6 = .ok (.i2l, 1) := by decide +kernel
theorem dX10_back_7 : decode cX10_back 7 = .ok (.lconst 0, 1) := by decide +kernel
theorem dX10_back_8 : decode cX10_back 8 = .ok (.lconst 1, 1) := by decide +kernel
theorem dX10_back_9 : decode cX10_back 9 = .ok (.invokestatic 177, 3) := by decide +kernel
theorem dX10_back_12 : decode cX10_back 12 = .ok (.ifCond .ne 9, 3) := by decide +kernel
theorem dX10_back_15 : decode cX10_back 15 = .ok (.aload_n 0, 1) := by decide +kernel
theorem dX10_back_16 : decode cX10_back 16 = .ok (.iconst (-1), 1) := by decide +kernel
theorem dX10_back_17 : decode cX10_back 17 = .ok (.invokevirtual 166, 3) := by decide +kernel
theorem dX10_back_20 : decode cX10_back 20 = .ok (.ireturn, 1) := by decide +kernel
theorem dX10_back_21 : decode cX10_back 21 = .ok (.aload_n 0, 1) := by decide +kernel
theorem dX10_back_22 : decode cX10_back 22 = .ok (.getfield 19, 3) := by decide +kernel
theorem dX10_back_25 : decode cX10_back 25 = .ok (.iload_n 1, 1) := by decide +kernel
theorem dX10_back_26 : decode cX10_back 26 = .ok (.baload, 1) := by decide +kernel
theorem dX10_back_27 : decode cX10_back 27 = .ok (.ifCond .ne 10, 3) := by decide +kernel
theorem dX10_back_30 : decode cX10_back 30 = .ok (.aload_n 0, 1) := by decide +kernel
theorem dX10_back_31 : decode cX10_back 31 = .ok (.bipush (-2), 2) := by decide +kernel
theorem dX10_back_33 : decode cX10_back 33 = .ok (.invokevirtual 166, 3) := by decide +kernel
theorem dX10_back_36 : decode cX10_back 36 = .ok (.ireturn, 1) := by decide +kernel
theorem dX10_back_37 : decode cX10_back 37 = .ok (.iconst 0, 1) := by decide +kernel
theorem dX10_back_38 : decode cX10_back 38 = .ok (.istore_n 2, 1) := by decide +kernel
theorem dX10_back_39 : decode cX10_back 39 = .ok (.iload_n 2, 1) := by decide +kernel
theorem dX10_back_40 : decode cX10_back 40 = .ok (.sipush 5505, 3) := by decide +kernel
theorem dX10_back_43 : decode cX10_back 43 = .ok (.if_icmp .ge 27, 3) := by decide +kernel
theorem dX10_back_46 : decode cX10_back 46 = .ok (.aload_n 0, 1) := by decide +kernel
theorem dX10_back_47 : decode cX10_back 47 = .ok (.getfield 13, 3) := by decide +kernel
theorem dX10_back_50 : decode cX10_back 50 = .ok (.iload_n 2, 1) := by decide +kernel
theorem dX10_back_51 : decode cX10_back 51 = .ok (.aload_n 0, 1) := by decide +kernel
theorem dX10_back_52 : decode cX10_back 52 = .ok (.getfield 16, 3) := by decide +kernel
theorem dX10_back_55 : decode cX10_back 55 = .ok (.sipush 5505, 3) := by decide +kernel
theorem dX10_back_58 : decode cX10_back 58 = .ok (.iload_n 1, 1) := by decide +kernel
theorem dX10_back_59 : decode cX10_back 59 = .ok (.imul, 1) := by decide +kernel
theorem dX10_back_60 : decode cX10_back 60 = .ok (.iload_n 2, 1) := by decide +kernel
theorem dX10_back_61 : decode cX10_back 61 = .ok (.iadd, 1) := by decide +kernel
theorem dX10_back_62 : decode cX10_back 62 = .ok (.iaload, 1) := by decide +kernel
theorem dX10_back_63 : decode cX10_back 63 = .ok (.iastore, 1) := by decide +kernel
theorem dX10_back_64 : decode cX10_back 64 = .ok (.iinc 2 1, 3) := by decide +kernel
theorem dX10_back_67 : decode cX10_back 67 = .ok (.goto (-28), 3) := by decide +kernel
theorem dX10_back_70 : decode cX10_back 70 = .ok (.aload_n 0, 1) := by decide +kernel
theorem dX10_back_71 : decode cX10_back 71 = .ok (.iconst 0, 1) := by decide +kernel
theorem dX10_back_72 : decode cX10_back 72 = .ok (.invokevirtual 181, 3) := by decide +kernel
theorem dX10_back_75 : decode cX10_back 75 = .ok (.ireturn, 1) := by decide +kernel
theorem dX10_term_0 : decode cX10_term 0 = .ok (.aload_n 0, 1) := by decide +kernel
theorem dX10_term_1 : decode cX10_term 1 = .ok (.getfield 13, 3) := by decide +kernel
theorem dX10_term_4 : decode cX10_term 4 = .ok (.iconst 4, 1) := by decide +kernel
theorem dX10_term_5 : decode cX10_term 5 = .ok (.iload_n 1, 1) := by decide +kernel
theorem dX10_term_6 : decode cX10_term 6 = .ok (.iadd, 1) := by decide +kernel
theorem dX10_term_7 : decode cX10_term 7 = .ok (.iaload, 1) := by decide +kernel
theorem dX10_term_8 : decode cX10_term 8 = .ok (.ireturn, 1) := by decide +kernel
theorem dX10_isBook_0 : decode cX10_isBook 0 = .ok (.iload_n 1, 1) := by decide +kernel
theorem dX10_isBook_1 : decode cX10_isBook 1 = .ok (.i2l, 1) := by decide +kernel
theorem dX10_isBook_2 : decode cX10_isBook 2 = .ok (.lconst 0, 1) := by decide +kernel
theorem dX10_isBook_3 : decode cX10_isBook 3 = .ok (.aload_n 0, 1) := by decide +kernel
theorem dX10_isBook_4 : decode cX10_isBook 4 = .ok (.getfield 13, 3) := by decide +kernel
theorem dX10_isBook_7 : decode cX10_isBook 7 = .ok (.iconst 0, 1) := by decide +kernel
theorem dX10_isBook_8 : decode cX10_isBook 8 = .ok (.iaload, 1) := by decide +kernel
theorem dX10_isBook_9 : decode cX10_isBook 9 = .ok (.i2l, 1) := by decide +kernel
theorem dX10_isBook_10 : decode cX10_isBook 10 = .ok (.lconst 1, 1) := by decide +kernel
theorem dX10_isBook_11 : decode cX10_isBook 11 = .ok (.lsub, 1) := by decide +kernel
theorem dX10_isBook_12 : decode cX10_isBook 12 = .ok (.invokestatic 177, 3) := by decide +kernel
theorem dX10_isBook_15 : decode cX10_isBook 15 = .ok (.ireturn, 1) := by decide +kernel
theorem dX10_isReader_0 : decode cX10_isReader 0 = .ok (.iload_n 1, 1) := by decide +kernel
theorem dX10_isReader_1 : decode cX10_isReader 1 = .ok (.i2l, 1) := by decide +kernel
theorem dX10_isReader_2 : decode cX10_isReader 2 = .ok (.lconst 0, 1) := by decide +kernel
theorem dX10_isReader_3 : decode cX10_isReader 3 = .ok (.aload_n 0, 1) := by decide +kernel
theorem dX10_isReader_4 : decode cX10_isReader 4 = .ok (.getfield 13, 3) := by decide +kernel
theorem dX10_isReader_7 : decode cX10_isReader 7 = .ok (.iconst 1, 1) := by decide +kernel
theorem dX10_isReader_8 : decode cX10_isReader 8 = .ok (.iaload, 1) := by decide +kernel
theorem dX10_isReader_9 : decode cX10_isReader 9 = .ok (.i2l, 1) := by decide +kernel
theorem dX10_isReader_10 : decode cX10_isReader 10 = .ok (.lconst 1, 1) := by decide +kernel
theorem dX10_isReader_11 : decode cX10_isReader 11 = .ok (.lsub, 1) := by decide +kernel
theorem dX10_isReader_12 : decode cX10_isReader 12 = .ok (.invokestatic 177, 3) := by decide +kernel
theorem dX10_isReader_15 : decode cX10_isReader 15 = .ok (.ireturn, 1) := by decide +kernel
theorem dX10_readerWith_0 : decode cX10_readerWith 0 = .ok (.iconst (-1), 1) := by decide +kernel
theorem dX10_readerWith_1 : decode cX10_readerWith 1 = .ok (.istore_n 2, 1) := by decide +kernel
theorem dX10_readerWith_2 : decode cX10_readerWith 2 = .ok (.iconst 0, 1) := by decide +kernel
theorem dX10_readerWith_3 : decode cX10_readerWith 3 = .ok (.istore_n 3, 1) := by decide +kernel
theorem dX10_readerWith_4 : decode cX10_readerWith 4 = .ok (.iload_n 3, 1) := by decide +kernel
theorem dX10_readerWith_5 : decode cX10_readerWith 5 = .ok (.aload_n 0, 1) := by decide +kernel
theorem dX10_readerWith_6 : decode cX10_readerWith 6 = .ok (.getfield 13, 3) := by decide +kernel
theorem dX10_readerWith_9 : decode cX10_readerWith 9 = .ok (.iconst 1, 1) := by decide +kernel
theorem dX10_readerWith_10 : decode cX10_readerWith 10 = .ok (.iaload, 1) := by decide +kernel
theorem dX10_readerWith_11 : decode cX10_readerWith 11 = .ok (.if_icmp .ge 28, 3) := by decide +kernel
theorem dX10_readerWith_14 : decode cX10_readerWith 14 = .ok (.aload_n 0, 1) := by decide +kernel
theorem dX10_readerWith_15 : decode cX10_readerWith 15 = .ok (.getfield 13, 3) := by decide +kernel
theorem dX10_readerWith_18 : decode cX10_readerWith 18 = .ok (.bipush 29, 2) := by decide +kernel
theorem dX10_readerWith_20 : decode cX10_readerWith 20 = .ok (.iload_n 3, 1) := by decide +kernel
theorem dX10_readerWith_21 : decode cX10_readerWith 21 = .ok (.iadd, 1) := by decide +kernel
theorem dX10_readerWith_22 : decode cX10_readerWith 22 = .ok (.iaload, 1) := by decide +kernel
theorem dX10_readerWith_23 : decode cX10_readerWith 23 = .ok (.iload_n 1, 1) := by decide +kernel
theorem dX10_readerWith_24 : decode cX10_readerWith 24 = .ok (.if_icmp .ne 7, 3) := by decide +kernel
theorem dX10_readerWith_27 : decode cX10_readerWith 27 = .ok (.iload_n 3, 1) := by decide +kernel
theorem dX10_readerWith_28 : decode cX10_readerWith 28 = .ok (.goto 4, 3) := by decide +kernel
theorem dX10_readerWith_31 : decode cX10_readerWith 31 = .ok (.iload_n 2, 1) := by decide +kernel
theorem dX10_readerWith_32 : decode cX10_readerWith 32 = .ok (.istore_n 2, 1) := by decide +kernel
theorem dX10_readerWith_33 : decode cX10_readerWith 33 = .ok (.iinc 3 1, 3) := by decide +kernel
theorem dX10_readerWith_36 : decode cX10_readerWith 36 = .ok (.goto (-32), 3) := by decide +kernel
theorem dX10_readerWith_39 : decode cX10_readerWith 39 = .ok (.iload_n 2, 1) := by decide +kernel
theorem dX10_readerWith_40 : decode cX10_readerWith 40 = .ok (.ireturn, 1) := by decide +kernel
theorem dX10_come_0 : decode cX10_come 0 = .ok (.iload_n 1, 1) := by decide +kernel
theorem dX10_come_1 : decode cX10_come 1 = .ok (.i2l, 1) := by decide +kernel
theorem dX10_come_2 : decode cX10_come 2 = .ok (.lconst 1, 1) := by decide +kernel
theorem dX10_come_3 : decode cX10_come 3 = .ok (.ldc2_w 184, 3) := by decide +kernel
theorem dX10_come_6 : decode cX10_come 6 = .ok (.invokestatic 177, 3) := by decide +kernel
theorem dX10_come_9 : decode cX10_come 9 = .ok (.ifCond .eq 40, 3) := by decide +kernel
theorem dX10_come_12 : decode cX10_come 12 = .ok (.iload_n 2, 1) := by decide +kernel
theorem dX10_come_13 : decode cX10_come 13 = .ok (.i2l, 1) := by decide +kernel
theorem dX10_come_14 : decode cX10_come 14 = .ok (.lconst 0, 1) := by decide +kernel
theorem dX10_come_15 : decode cX10_come 15 = .ok (.ldc2_w 186, 3) := by decide +kernel
theorem dX10_come_18 : decode cX10_come 18 = .ok (.invokestatic 177, 3) := by decide +kernel
theorem dX10_come_21 : decode cX10_come 21 = .ok (.ifCond .eq 28, 3) := by decide +kernel
theorem dX10_come_24 : decode cX10_come 24 = .ok (.iload_n 3, 1) := by decide +kernel
theorem dX10_come_25 : decode cX10_come 25 = .ok (.i2l, 1) := by decide +kernel
theorem dX10_come_26 : decode cX10_come 26 = .ok (.lconst 0, 1) := by decide +kernel
theorem dX10_come_27 : decode cX10_come 27 = .ok (.ldc2_w 186, 3) := by decide +kernel
theorem dX10_come_30 : decode cX10_come 30 = .ok (.invokestatic 177, 3) := by decide +kernel
theorem dX10_come_33 : decode cX10_come 33 = .ok (.ifCond .eq 16, 3) := by decide +kernel
theorem dX10_come_36 : decode cX10_come 36 = .ok (.iload 4, 2) := by decide +kernel
theorem dX10_come_38 : decode cX10_come 38 = .ok (.i2l, 1) := by decide +kernel
theorem dX10_come_39 : decode cX10_come 39 = .ok (.lconst 0, 1) := by decide +kernel
theorem dX10_come_40 : decode cX10_come 40 = .ok (.ldc2_w 188, 3) := by decide +kernel
theorem dX10_come_43 : decode cX10_come 43 = .ok (.invokestatic 177, 3) := by decide +kernel
theorem dX10_come_46 : decode cX10_come 46 = .ok (.ifCond .ne 5, 3) := by decide +kernel
theorem dX10_come_49 : decode cX10_come 49 = .ok (.iconst (-1), 1) := by decide +kernel
theorem dX10_come_50 : decode cX10_come 50 = .ok (.ireturn, 1) := by decide +kernel
theorem dX10_come_51 : decode cX10_come 51 = .ok (.aload_n 0, 1) := by decide +kernel
theorem dX10_come_52 : decode cX10_come 52 = .ok (.getfield 13, 3) := by decide +kernel
theorem dX10_come_55 : decode cX10_come 55 = .ok (.iconst 0, 1) := by decide +kernel
theorem dX10_come_56 : decode cX10_come 56 = .ok (.iaload, 1) := by decide +kernel
theorem dX10_come_57 : decode cX10_come 57 = .ok (.istore 5, 2) := by decide +kernel
theorem dX10_come_59 : decode cX10_come 59 = .ok (.iload 5, 2) := by decide +kernel
theorem dX10_come_61 : decode cX10_come 61 = .ok (.bipush 8, 2) := by decide +kernel
theorem dX10_come_63 : decode cX10_come 63 = .ok (.if_icmp .ne 6, 3) := by decide +kernel
theorem dX10_come_66 : decode cX10_come 66 = .ok (.bipush (-5), 2) := by decide +kernel
theorem dX10_come_68 : decode cX10_come 68 = .ok (.ireturn, 1) := by decide +kernel
theorem dX10_come_69 : decode cX10_come 69 = .ok (.aload_n 0, 1) := by decide +kernel
theorem dX10_come_70 : decode cX10_come 70 = .ok (.getfield 13, 3) := by decide +kernel
theorem dX10_come_73 : decode cX10_come 73 = .ok (.bipush 71, 2) := by decide +kernel
theorem dX10_come_75 : decode cX10_come 75 = .ok (.iload 5, 2) := by decide +kernel
theorem dX10_come_77 : decode cX10_come 77 = .ok (.iadd, 1) := by decide +kernel
theorem dX10_come_78 : decode cX10_come 78 = .ok (.iload_n 1, 1) := by decide +kernel
theorem dX10_come_79 : decode cX10_come 79 = .ok (.iastore, 1) := by decide +kernel
theorem dX10_come_80 : decode cX10_come 80 = .ok (.aload_n 0, 1) := by decide +kernel
theorem dX10_come_81 : decode cX10_come 81 = .ok (.getfield 13, 3) := by decide +kernel
theorem dX10_come_84 : decode cX10_come 84 = .ok (.bipush 79, 2) := by decide +kernel
theorem dX10_come_86 : decode cX10_come 86 = .ok (.iload 5, 2) := by decide +kernel
theorem dX10_come_88 : decode cX10_come 88 = .ok (.iadd, 1) := by decide +kernel
theorem dX10_come_89 : decode cX10_come 89 = .ok (.iload_n 2, 1) := by decide +kernel
theorem dX10_come_90 : decode cX10_come 90 = .ok (.iastore, 1) := by decide +kernel
theorem dX10_come_91 : decode cX10_come 91 = .ok (.aload_n 0, 1) := by decide +kernel
theorem dX10_come_92 : decode cX10_come 92 = .ok (.getfield 13, 3) := by decide +kernel
theorem dX10_come_95 : decode cX10_come 95 = .ok (.bipush 87, 2) := by decide +kernel
theorem dX10_come_97 : decode cX10_come 97 = .ok (.iload 5, 2) := by decide +kernel
theorem dX10_come_99 : decode cX10_come 99 = .ok (.iadd, 1) := by decide +kernel
theorem dX10_come_100 : decode cX10_come 100 = .ok (.iload_n 3, 1) := by decide +kernel
theorem dX10_come_101 : decode cX10_come 101 = .ok (.iastore, 1) := by decide +kernel
theorem dX10_come_102 : decode cX10_come 102 = .ok (.aload_n 0, 1) := by decide +kernel
theorem dX10_come_103 : decode cX10_come 103 = .ok (.getfield 13, 3) := by decide +kernel
theorem dX10_come_106 : decode cX10_come 106 = .ok (.bipush 9, 2) := by decide +kernel
theorem dX10_come_108 : decode cX10_come 108 = .ok (.iload 5, 2) := by decide +kernel
theorem dX10_come_110 : decode cX10_come 110 = .ok (.iadd, 1) := by decide +kernel
theorem dX10_come_111 : decode cX10_come 111 = .ok (.iload 4, 2) := by decide +kernel
theorem dX10_come_113 : decode cX10_come 113 = .ok (.iastore, 1) := by decide +kernel
theorem dX10_come_114 : decode cX10_come 114 = .ok (.aload_n 0, 1) := by decide +kernel
theorem dX10_come_115 : decode cX10_come 115 = .ok (.getfield 13, 3) := by decide +kernel
theorem dX10_come_118 : decode cX10_come 118 = .ok (.iconst 0, 1) := by decide +kernel
theorem dX10_come_119 : decode cX10_come 119 = .ok (.dup2, 1) := by decide +kernel
theorem dX10_come_120 : decode cX10_come 120 = .ok (.iaload, 1) := by decide +kernel
theorem dX10_come_121 : decode cX10_come 121 = .ok (.iconst 1, 1) := by decide +kernel
theorem dX10_come_122 : decode cX10_come 122 = .ok (.iadd, 1) := by decide +kernel
theorem dX10_come_123 : decode cX10_come 123 = .ok (.iastore, 1) := by decide +kernel
theorem dX10_come_124 : decode cX10_come 124 = .ok (.iload 5, 2) := by decide +kernel
theorem dX10_come_126 : decode cX10_come 126 = .ok (.ireturn, 1) := by decide +kernel
theorem dX10_book_0 : decode cX10_book 0 = .ok (.aload_n 0, 1) := by decide +kernel
theorem dX10_book_1 : decode cX10_book 1 = .ok (.iconst 0, 1) := by decide +kernel
theorem dX10_book_2 : decode cX10_book 2 = .ok (.putfield 157, 3) := by decide +kernel
theorem dX10_book_5 : decode cX10_book 5 = .ok (.aload_n 0, 1) := by decide +kernel
theorem dX10_book_6 : decode cX10_book 6 = .ok (.aload_n 0, 1) := by decide +kernel
theorem dX10_book_7 : decode cX10_book 7 = .ok (.iload_n 1, 1) := by decide +kernel
theorem dX10_book_8 : decode cX10_book 8 = .ok (.iload_n 2, 1) := by decide +kernel
theorem dX10_book_9 : decode cX10_book 9 = .ok (.iload_n 3, 1) := by decide +kernel
theorem dX10_book_10 : decode cX10_book 10 = .ok (.iload 4, 2) := by decide +kernel
theorem dX10_book_12 : decode cX10_book 12 = .ok (.invokevirtual 190, 3) := by decide +kernel
theorem dX10_book_15 : decode cX10_book 15 = .ok (.invokevirtual 181, 3) := by decide +kernel
theorem dX10_book_18 : decode cX10_book 18 = .ok (.ireturn, 1) := by decide +kernel
theorem dX10_of_0 : decode cX10_of 0 = .ok (.aload_n 0, 1) := by decide +kernel
theorem dX10_of_1 : decode cX10_of 1 = .ok (.iconst 0, 1) := by decide +kernel
theorem dX10_of_2 : decode cX10_of 2 = .ok (.putfield 157, 3) := by decide +kernel
theorem dX10_of_5 : decode cX10_of 5 = .ok (.aload_n 0, 1) := by decide +kernel
theorem dX10_of_6 : decode cX10_of 6 = .ok (.iload_n 1, 1) := by decide +kernel
theorem dX10_of_7 : decode cX10_of 7 = .ok (.invokevirtual 194, 3) := by decide +kernel
theorem dX10_of_10 : decode cX10_of 10 = .ok (.ifCond .ne 5, 3) := by decide +kernel
theorem dX10_of_13 : decode cX10_of 13 = .ok (.iconst (-1), 1) := by decide +kernel
theorem dX10_of_14 : decode cX10_of 14 = .ok (.ireturn, 1) := by decide +kernel
theorem dX10_of_15 : decode cX10_of 15 = .ok (.iload_n 2, 1) := by decide +kernel
theorem dX10_of_16 : decode cX10_of 16 = .ok (.tableswitch 82 0 4 #[36, 46, 56, 66, 76], 36) := by decide +kernel
theorem dX10_of_52 : decode cX10_of 52 = .ok (.aload_n 0, 1) := by decide +kernel
theorem dX10_of_53 : decode cX10_of 53 = .ok (.getfield 13, 3) := by decide +kernel
theorem dX10_of_56 : decode cX10_of 56 = .ok (.bipush 71, 2) := by decide +kernel
theorem dX10_of_58 : decode cX10_of 58 = .ok (.iload_n 1, 1) := by decide +kernel
theorem dX10_of_59 : decode cX10_of 59 = .ok (.iadd, 1) := by decide +kernel
theorem dX10_of_60 : decode cX10_of 60 = .ok (.iaload, 1) := by decide +kernel
theorem dX10_of_61 : decode cX10_of 61 = .ok (.ireturn, 1) := by decide +kernel
theorem dX10_of_62 : decode cX10_of 62 = .ok (.aload_n 0, 1) := by decide +kernel
theorem dX10_of_63 : decode cX10_of 63 = .ok (.getfield 13, 3) := by decide +kernel
theorem dX10_of_66 : decode cX10_of 66 = .ok (.bipush 79, 2) := by decide +kernel
theorem dX10_of_68 : decode cX10_of 68 = .ok (.iload_n 1, 1) := by decide +kernel
theorem dX10_of_69 : decode cX10_of 69 = .ok (.iadd, 1) := by decide +kernel
theorem dX10_of_70 : decode cX10_of 70 = .ok (.iaload, 1) := by decide +kernel
theorem dX10_of_71 : decode cX10_of 71 = .ok (.ireturn, 1) := by decide +kernel
theorem dX10_of_72 : decode cX10_of 72 = .ok (.aload_n 0, 1) := by decide +kernel
theorem dX10_of_73 : decode cX10_of 73 = .ok (.getfield 13, 3) := by decide +kernel
theorem dX10_of_76 : decode cX10_of 76 = .ok (.bipush 87, 2) := by decide +kernel
theorem dX10_of_78 : decode cX10_of 78 = .ok (.iload_n 1, 1) := by decide +kernel
theorem dX10_of_79 : decode cX10_of 79 = .ok (.iadd, 1) := by decide +kernel
theorem dX10_of_80 : decode cX10_of 80 = .ok (.iaload, 1) := by decide +kernel
theorem dX10_of_81 : decode cX10_of 81 = .ok (.ireturn, 1) := by decide +kernel
theorem dX10_of_82 : decode cX10_of 82 = .ok (.aload_n 0, 1) := by decide +kernel
theorem dX10_of_83 : decode cX10_of 83 = .ok (.getfield 13, 3) := by decide +kernel
theorem dX10_of_86 : decode cX10_of 86 = .ok (.bipush 9, 2) := by decide +kernel
theorem dX10_of_88 : decode cX10_of 88 = .ok (.iload_n 1, 1) := by decide +kernel
theorem dX10_of_89 : decode cX10_of 89 = .ok (.iadd, 1) := by decide +kernel
theorem dX10_of_90 : decode cX10_of 90 = .ok (.iaload, 1) := by decide +kernel
theorem dX10_of_91 : decode cX10_of 91 = .ok (.ireturn, 1) := by decide +kernel
theorem dX10_of_92 : decode cX10_of 92 = .ok (.aload_n 0, 1) := by decide +kernel
theorem dX10_of_93 : decode cX10_of 93 = .ok (.iload_n 1, 1) := by decide +kernel
theorem dX10_of_94 : decode cX10_of 94 = .ok (.invokevirtual 198, 3) := by decide +kernel
theorem dX10_of_97 : decode cX10_of 97 = .ok (.ireturn, 1) := by decide +kernel
theorem dX10_of_98 : decode cX10_of 98 = .ok (.iconst (-1), 1) := by decide +kernel
theorem dX10_of_99 : decode cX10_of 99 = .ok (.ireturn, 1) := by decide +kernel
theorem dX10_reader_0 : decode cX10_reader 0 = .ok (.aload_n 0, 1) := by decide +kernel
theorem dX10_reader_1 : decode cX10_reader 1 = .ok (.iconst 0, 1) := by decide +kernel
theorem dX10_reader_2 : decode cX10_reader 2 = .ok (.putfield 157, 3) := by decide +kernel
theorem dX10_reader_5 : decode cX10_reader 5 = .ok (.iload_n 1, 1) := by decide +kernel
theorem dX10_reader_6 : decode cX10_reader 6 = .ok (.i2l, 1) := by decide +kernel
theorem dX10_reader_7 : decode cX10_reader 7 = .ok (.lconst 0, 1) := by decide +kernel
theorem dX10_reader_8 : decode cX10_reader 8 = .ok (.ldc2_w 186, 3) := by decide +kernel
theorem dX10_reader_11 : decode cX10_reader 11 = .ok (.invokestatic 177, 3) := by decide +kernel
theorem dX10_reader_14 : decode cX10_reader 14 = .ok (.ifCond .eq 13, 3) := by decide +kernel
theorem dX10_reader_17 : decode cX10_reader 17 = .ok (.iload_n 2, 1) := by decide +kernel
theorem dX10_reader_18 : decode cX10_reader 18 = .ok (.i2l, 1) := by decide +kernel
theorem dX10_reader_19 : decode cX10_reader 19 = .ok (.lconst 0, 1) := by decide +kernel
theorem dX10_reader_20 : decode cX10_reader 20 = .ok (.lconst 1, 1) := by decide +kernel
theorem dX10_reader_21 : decode cX10_reader 21 = .ok (.invokestatic 177, 3) := by decide +kernel
theorem dX10_reader_24 : decode cX10_reader 24 = .ok (.ifCond .ne 9, 3) := by decide +kernel
theorem dX10_reader_27 : decode cX10_reader 27 = .ok (.aload_n 0, 1) := by decide +kernel
theorem dX10_reader_28 : decode cX10_reader 28 = .ok (.iconst (-1), 1) := by decide +kernel
theorem dX10_reader_29 : decode cX10_reader 29 = .ok (.invokevirtual 166, 3) := by decide +kernel
theorem dX10_reader_32 : decode cX10_reader 32 = .ok (.ireturn, 1) := by decide +kernel
theorem dX10_reader_33 : decode cX10_reader 33 = .ok (.aload_n 0, 1) := by decide +kernel
theorem dX10_reader_34 : decode cX10_reader 34 = .ok (.getfield 13, 3) := by decide +kernel
theorem dX10_reader_37 : decode cX10_reader 37 = .ok (.iconst 1, 1) := by decide +kernel
theorem dX10_reader_38 : decode cX10_reader 38 = .ok (.iaload, 1) := by decide +kernel
theorem dX10_reader_39 : decode cX10_reader 39 = .ok (.istore_n 3, 1) := by decide +kernel
theorem dX10_reader_40 : decode cX10_reader 40 = .ok (.iload_n 3, 1) := by decide +kernel
theorem dX10_reader_41 : decode cX10_reader 41 = .ok (.bipush 6, 2) := by decide +kernel
theorem dX10_reader_43 : decode cX10_reader 43 = .ok (.if_icmp .ne 10, 3) := by decide +kernel
theorem dX10_reader_46 : decode cX10_reader 46 = .ok (.aload_n 0, 1) := by decide +kernel
theorem dX10_reader_47 : decode cX10_reader 47 = .ok (.bipush (-5), 2) := by decide +kernel
theorem dX10_reader_49 : decode cX10_reader 49 = .ok (.invokevirtual 166, 3) := by decide +kernel
theorem dX10_reader_52 : decode cX10_reader 52 = .ok (.ireturn, 1) := by decide +kernel
theorem dX10_reader_53 : decode cX10_reader 53 = .ok (.aload_n 0, 1) := by decide +kernel
theorem dX10_reader_54 : decode cX10_reader 54 = .ok (.getfield 13, 3) := by decide +kernel
theorem dX10_reader_57 : decode cX10_reader 57 = .ok (.bipush 17, 2) := by decide +kernel
theorem dX10_reader_59 : decode cX10_reader 59 = .ok (.iload_n 3, 1) := by decide +kernel
theorem dX10_reader_60 : decode cX10_reader 60 = .ok (.iadd, 1) := by decide +kernel
theorem dX10_reader_61 : decode cX10_reader 61 = .ok (.iload_n 1, 1) := by decide +kernel
theorem dX10_reader_62 : decode cX10_reader 62 = .ok (.iastore, 1) := by decide +kernel
theorem dX10_reader_63 : decode cX10_reader 63 = .ok (.aload_n 0, 1) := by decide +kernel
theorem dX10_reader_64 : decode cX10_reader 64 = .ok (.getfield 13, 3) := by decide +kernel
theorem dX10_reader_67 : decode cX10_reader 67 = .ok (.bipush 95, 2) := by decide +kernel
theorem dX10_reader_69 : decode cX10_reader 69 = .ok (.iload_n 3, 1) := by decide +kernel
theorem dX10_reader_70 : decode cX10_reader 70 = .ok (.iadd, 1) := by decide +kernel
theorem dX10_reader_71 : decode cX10_reader 71 = .ok (.iload_n 2, 1) := by decide +kernel
theorem dX10_reader_72 : decode cX10_reader 72 = .ok (.iastore, 1) := by decide +kernel
theorem dX10_reader_73 : decode cX10_reader 73 = .ok (.aload_n 0, 1) := by decide +kernel
theorem dX10_reader_74 : decode cX10_reader 74 = .ok (.getfield 13, 3) := by decide +kernel
theorem dX10_reader_77 : decode cX10_reader 77 = .ok (.bipush 23, 2) := by decide +kernel
theorem dX10_reader_79 : decode cX10_reader 79 = .ok (.iload_n 3, 1) := by decide +kernel
theorem dX10_reader_80 : decode cX10_reader 80 = .ok (.iadd, 1) := by decide +kernel
theorem dX10_reader_81 : decode cX10_reader 81 = .ok (.iconst 0, 1) := by decide +kernel
theorem dX10_reader_82 : decode cX10_reader 82 = .ok (.iastore, 1) := by decide +kernel
theorem dX10_reader_83 : decode cX10_reader 83 = .ok (.aload_n 0, 1) := by decide +kernel
theorem dX10_reader_84 : decode cX10_reader 84 = .ok (.getfield 13, 3) := by decide +kernel
theorem dX10_reader_87 : decode cX10_reader 87 = .ok (.bipush 29, 2) := by decide +kernel
theorem dX10_reader_89 : decode cX10_reader 89 = .ok (.iload_n 3, 1) := by decide +kernel
theorem dX10_reader_90 : decode cX10_reader 90 = .ok (.iadd, 1) := by decide +kernel
theorem dX10_reader_91 : decode cX10_reader 91 = .ok (.iconst (-1), 1) := by decide +kernel
theorem dX10_reader_92 : decode cX10_reader 92 = .ok (.iastore, 1) := by decide +kernel
theorem dX10_reader_93 : decode cX10_reader 93 = .ok (.aload_n 0, 1) := by decide +kernel
theorem dX10_reader_94 : decode cX10_reader 94 = .ok (.getfield 13, 3) := by decide +kernel
theorem dX10_reader_97 : decode cX10_reader 97 = .ok (.bipush 35, 2) := by decide +kernel
theorem dX10_reader_99 : decode cX10_reader 99 = .ok (.iload_n 3, 1) := by decide +kernel
theorem dX10_reader_100 : decode cX10_reader 100 = .ok (.iadd, 1) := by decide +kernel
theorem dX10_reader_101 : decode cX10_reader 101 = .ok (.iconst (-1), 1) := by decide +kernel
theorem dX10_reader_102 : decode cX10_reader 102 = .ok (.iastore, 1) := by decide +kernel
theorem dX10_reader_103 : decode cX10_reader 103 = .ok (.aload_n 0, 1) := by decide +kernel
theorem dX10_reader_104 : decode cX10_reader 104 = .ok (.getfield 13, 3) := by decide +kernel
theorem dX10_reader_107 : decode cX10_reader 107 = .ok (.bipush 41, 2) := by decide +kernel
theorem dX10_reader_109 : decode cX10_reader 109 = .ok (.iload_n 3, 1) := by decide +kernel
theorem dX10_reader_110 : decode cX10_reader 110 = .ok (.iadd, 1) := by decide +kernel
theorem dX10_reader_111 : decode cX10_reader 111 = .ok (.iconst 0, 1) := by decide +kernel
theorem dX10_reader_112 : decode cX10_reader 112 = .ok (.iastore, 1) := by decide +kernel
theorem dX10_reader_113 : decode cX10_reader 113 = .ok (.aload_n 0, 1) := by decide +kernel
theorem dX10_reader_114 : decode cX10_reader 114 = .ok (.getfield 13, 3) := by decide +kernel
theorem dX10_reader_117 : decode cX10_reader 117 = .ok (.iconst 1, 1) := by decide +kernel
theorem dX10_reader_118 : decode cX10_reader 118 = .ok (.dup2, 1) := by decide +kernel
theorem dX10_reader_119 : decode cX10_reader 119 = .ok (.iaload, 1) := by decide +kernel
theorem dX10_reader_120 : decode cX10_reader 120 = .ok (.iconst 1, 1) := by decide +kernel
theorem dX10_reader_121 : decode cX10_reader 121 = .ok (.iadd, 1) := by decide +kernel
theorem dX10_reader_122 : decode cX10_reader 122 = .ok (.iastore, 1) := by decide +kernel
theorem dX10_reader_123 : decode cX10_reader 123 = .ok (.aload_n 0, 1) := by decide +kernel
theorem dX10_reader_124 : decode cX10_reader 124 = .ok (.iload_n 3, 1) := by decide +kernel
theorem dX10_reader_125 : decode cX10_reader 125 = .ok (.invokevirtual 181, 3) := by decide +kernel
theorem dX10_reader_128 : decode cX10_reader 128 = .ok (.ireturn, 1) := by decide +kernel
theorem dX10_at_0 : decode cX10_at 0 = .ok (.aload_n 0, 1) := by decide +kernel
theorem dX10_at_1 : decode cX10_at 1 = .ok (.iconst 0, 1) := by decide +kernel
theorem dX10_at_2 : decode cX10_at 2 = .ok (.putfield 157, 3) := by decide +kernel
theorem dX10_at_5 : decode cX10_at 5 = .ok (.aload_n 0, 1) := by decide +kernel
theorem dX10_at_6 : decode cX10_at 6 = .ok (.iload_n 1, 1) := by decide +kernel
theorem dX10_at_7 : decode cX10_at 7 = .ok (.invokevirtual 201, 3) := by decide +kernel
theorem dX10_at_10 : decode cX10_at 10 = .ok (.ifCond .ne 5, 3) := by decide +kernel
theorem dX10_at_13 : decode cX10_at 13 = .ok (.iconst (-1), 1) := by decide +kernel
theorem dX10_at_14 : decode cX10_at 14 = .ok (.ireturn, 1) := by decide +kernel
theorem dX10_at_15 : decode cX10_at 15 = .ok (.iload_n 2, 1) := by decide +kernel
theorem dX10_at_16 : decode cX10_at 16 = .ok (.tableswitch 100 0 5 #[40, 50, 60, 70, 80, 90], 40) := by decide +kernel
theorem dX10_at_56 : decode cX10_at 56 = .ok (.aload_n 0, 1) := by decide +kernel
theorem dX10_at_57 : decode cX10_at 57 = .ok (.getfield 13, 3) := by decide +kernel
theorem dX10_at_60 : decode cX10_at 60 = .ok (.bipush 17, 2) := by decide +kernel
theorem dX10_at_62 : decode cX10_at 62 = .ok (.iload_n 1, 1) := by decide +kernel
theorem dX10_at_63 : decode cX10_at 63 = .ok (.iadd, 1) := by decide +kernel
theorem dX10_at_64 : decode cX10_at 64 = .ok (.iaload, 1) := by decide +kernel
theorem dX10_at_65 : decode cX10_at 65 = .ok (.ireturn, 1) := by decide +kernel
theorem dX10_at_66 : decode cX10_at 66 = .ok (.aload_n 0, 1) := by decide +kernel
theorem dX10_at_67 : decode cX10_at 67 = .ok (.getfield 13, 3) := by decide +kernel
theorem dX10_at_70 : decode cX10_at 70 = .ok (.bipush 95, 2) := by decide +kernel
theorem dX10_at_72 : decode cX10_at 72 = .ok (.iload_n 1, 1) := by decide +kernel
theorem dX10_at_73 : decode cX10_at 73 = .ok (.iadd, 1) := by decide +kernel
theorem dX10_at_74 : decode cX10_at 74 = .ok (.iaload, 1) := by decide +kernel
theorem dX10_at_75 : decode cX10_at 75 = .ok (.ireturn, 1) := by decide +kernel
theorem dX10_at_76 : decode cX10_at 76 = .ok (.aload_n 0, 1) := by decide +kernel
theorem dX10_at_77 : decode cX10_at 77 = .ok (.getfield 13, 3) := by decide +kernel
theorem dX10_at_80 : decode cX10_at 80 = .ok (.bipush 23, 2) := by decide +kernel
theorem dX10_at_82 : decode cX10_at 82 = .ok (.iload_n 1, 1) := by decide +kernel
theorem dX10_at_83 : decode cX10_at 83 = .ok (.iadd, 1) := by decide +kernel
theorem dX10_at_84 : decode cX10_at 84 = .ok (.iaload, 1) := by decide +kernel
theorem dX10_at_85 : decode cX10_at 85 = .ok (.ireturn, 1) := by decide +kernel
theorem dX10_at_86 : decode cX10_at 86 = .ok (.aload_n 0, 1) := by decide +kernel
theorem dX10_at_87 : decode cX10_at 87 = .ok (.getfield 13, 3) := by decide +kernel
theorem dX10_at_90 : decode cX10_at 90 = .ok (.bipush 29, 2) := by decide +kernel
theorem dX10_at_92 : decode cX10_at 92 = .ok (.iload_n 1, 1) := by decide +kernel
theorem dX10_at_93 : decode cX10_at 93 = .ok (.iadd, 1) := by decide +kernel
theorem dX10_at_94 : decode cX10_at 94 = .ok (.iaload, 1) := by decide +kernel
theorem dX10_at_95 : decode cX10_at 95 = .ok (.ireturn, 1) := by decide +kernel
theorem dX10_at_96 : decode cX10_at 96 = .ok (.aload_n 0, 1) := by decide +kernel
theorem dX10_at_97 : decode cX10_at 97 = .ok (.getfield 13, 3) := by decide +kernel
theorem dX10_at_100 : decode cX10_at 100 = .ok (.bipush 35, 2) := by decide +kernel
theorem dX10_at_102 : decode cX10_at 102 = .ok (.iload_n 1, 1) := by decide +kernel
theorem dX10_at_103 : decode cX10_at 103 = .ok (.iadd, 1) := by decide +kernel
theorem dX10_at_104 : decode cX10_at 104 = .ok (.iaload, 1) := by decide +kernel
theorem dX10_at_105 : decode cX10_at 105 = .ok (.ireturn, 1) := by decide +kernel
theorem dX10_at_106 : decode cX10_at 106 = .ok (.aload_n 0, 1) := by decide +kernel
theorem dX10_at_107 : decode cX10_at 107 = .ok (.getfield 13, 3) := by decide +kernel
theorem dX10_at_110 : decode cX10_at 110 = .ok (.bipush 41, 2) := by decide +kernel
theorem dX10_at_112 : decode cX10_at 112 = .ok (.iload_n 1, 1) := by decide +kernel
theorem dX10_at_113 : decode cX10_at 113 = .ok (.iadd, 1) := by decide +kernel
theorem dX10_at_114 : decode cX10_at 114 = .ok (.iaload, 1) := by decide +kernel
theorem dX10_at_115 : decode cX10_at 115 = .ok (.ireturn, 1) := by decide +kernel
theorem dX10_at_116 : decode cX10_at 116 = .ok (.iconst (-1), 1) := by decide +kernel
theorem dX10_at_117 : decode cX10_at 117 = .ok (.ireturn, 1) := by decide +kernel
theorem dX10_terms_0 : decode cX10_terms 0 = .ok (.aload_n 0, 1) := by decide +kernel
theorem dX10_terms_1 : decode cX10_terms 1 = .ok (.iconst 0, 1) := by decide +kernel
theorem dX10_terms_2 : decode cX10_terms 2 = .ok (.putfield 157, 3) := by decide +kernel
theorem dX10_terms_5 : decode cX10_terms 5 = .ok (.iload_n 1, 1) := by decide +kernel
theorem dX10_terms_6 : decode cX10_terms 6 = .ok (.ifCond .ne 15, 3) := by decide +kernel
theorem dX10_terms_9 : decode cX10_terms 9 = .ok (.iload_n 2, 1) := by decide +kernel
theorem dX10_terms_10 : decode cX10_terms 10 = .ok (.i2l, 1) := by decide +kernel
theorem dX10_terms_11 : decode cX10_terms 11 = .ok (.lconst 0, 1) := by decide +kernel
theorem dX10_terms_12 : decode cX10_terms 12 = .ok (.ldc2_w 188, 3) := by decide +kernel
theorem dX10_terms_15 : decode cX10_terms 15 = .ok (.invokestatic 177, 3) := by decide +kernel
theorem dX10_terms_18 : decode cX10_terms 18 = .ok (.goto 59, 3) := by decide +kernel
theorem dX10_terms_21 : decode cX10_terms 21 = .ok (.iload_n 1, 1) := by decide +kernel
theorem dX10_terms_22 : decode cX10_terms 22 = .ok (.iconst 1, 1) := by decide +kernel
theorem dX10_terms_23 : decode cX10_terms 23 = .ok (.if_icmp .ne 15, 3) := by decide +kernel
theorem dX10_terms_26 : decode cX10_terms 26 = .ok (.iload_n 2, 1) := by decide +kernel
theorem dX10_terms_27 : decode cX10_terms 27 = .ok (.i2l, 1) := by decide +kernel
theorem dX10_terms_28 : decode cX10_terms 28 = .ok (.lconst 1, 1) := by decide +kernel
theorem dX10_terms_29 : decode cX10_terms 29 = .ok (.ldc2_w 204, 3) := by decide +kernel
theorem dX10_terms_32 : decode cX10_terms 32 = .ok (.invokestatic 177, 3) := by decide +kernel
theorem dX10_terms_35 : decode cX10_terms 35 = .ok (.goto 42, 3) := by decide +kernel
theorem dX10_terms_38 : decode cX10_terms 38 = .ok (.iload_n 1, 1) := by decide +kernel
theorem dX10_terms_39 : decode cX10_terms 39 = .ok (.iconst 2, 1) := by decide +kernel
theorem dX10_terms_40 : decode cX10_terms 40 = .ok (.if_icmp .ne 15, 3) := by decide +kernel
theorem dX10_terms_43 : decode cX10_terms 43 = .ok (.iload_n 2, 1) := by decide +kernel
theorem dX10_terms_44 : decode cX10_terms 44 = .ok (.i2l, 1) := by decide +kernel
theorem dX10_terms_45 : decode cX10_terms 45 = .ok (.lconst 0, 1) := by decide +kernel
theorem dX10_terms_46 : decode cX10_terms 46 = .ok (.ldc2_w 206, 3) := by decide +kernel
theorem dX10_terms_49 : decode cX10_terms 49 = .ok (.invokestatic 177, 3) := by decide +kernel
theorem dX10_terms_52 : decode cX10_terms 52 = .ok (.goto 25, 3) := by decide +kernel
theorem dX10_terms_55 : decode cX10_terms 55 = .ok (.iload_n 1, 1) := by decide +kernel
theorem dX10_terms_56 : decode cX10_terms 56 = .ok (.iconst 3, 1) := by decide +kernel
theorem dX10_terms_57 : decode cX10_terms 57 = .ok (.if_icmp .ne 19, 3) := by decide +kernel
theorem dX10_terms_60 : decode cX10_terms 60 = .ok (.iload_n 2, 1) := by decide +kernel
theorem dX10_terms_61 : decode cX10_terms 61 = .ok (.i2l, 1) := by decide +kernel
theorem dX10_terms_62 : decode cX10_terms 62 = .ok (.lconst 0, 1) := by decide +kernel
theorem dX10_terms_63 : decode cX10_terms 63 = .ok (.ldc2_w 184, 3) := by decide +kernel
theorem dX10_terms_66 : decode cX10_terms 66 = .ok (.invokestatic 177, 3) := by decide +kernel
theorem dX10_terms_69 : decode cX10_terms 69 = .ok (.ifCond .eq 7, 3) := by decide +kernel
theorem dX10_terms_72 : decode cX10_terms 72 = .ok (.iconst 1, 1) := by decide +kernel
theorem dX10_terms_73 : decode cX10_terms 73 = .ok (.goto 4, 3) := by decide +kernel
theorem dX10_terms_76 : decode cX10_terms 76 = .ok (.iconst 0, 1) := by decide +kernel
theorem dX10_terms_77 : decode cX10_terms 77 = .ok (.istore_n 3, 1) := by decide +kernel
theorem dX10_terms_78 : decode cX10_terms 78 = .ok (.iload_n 3, 1) := by decide +kernel
theorem dX10_terms_79 : decode cX10_terms 79 = .ok (.ifCond .ne 9, 3) := by decide +kernel
theorem dX10_terms_82 : decode cX10_terms 82 = .ok (.aload_n 0, 1) := by decide +kernel
theorem dX10_terms_83 : decode cX10_terms 83 = .ok (.iconst (-1), 1) := by decide +kernel
theorem dX10_terms_84 : decode cX10_terms 84 = .ok (.invokevirtual 166, 3) := by decide +kernel
theorem dX10_terms_87 : decode cX10_terms 87 = .ok (.ireturn, 1) := by decide +kernel
theorem dX10_terms_88 : decode cX10_terms 88 = .ok (.aload_n 0, 1) := by decide +kernel
theorem dX10_terms_89 : decode cX10_terms 89 = .ok (.iconst 0, 1) := by decide +kernel
theorem dX10_terms_90 : decode cX10_terms 90 = .ok (.putfield 163, 3) := by decide +kernel
theorem dX10_terms_93 : decode cX10_terms 93 = .ok (.aload_n 0, 1) := by decide +kernel
theorem dX10_terms_94 : decode cX10_terms 94 = .ok (.iconst 4, 1) := by decide +kernel
theorem dX10_terms_95 : decode cX10_terms 95 = .ok (.iload_n 1, 1) := by decide +kernel
theorem dX10_terms_96 : decode cX10_terms 96 = .ok (.iadd, 1) := by decide +kernel
theorem dX10_terms_97 : decode cX10_terms 97 = .ok (.iload_n 2, 1) := by decide +kernel
theorem dX10_terms_98 : decode cX10_terms 98 = .ok (.invokevirtual 208, 3) := by decide +kernel
theorem dX10_terms_101 : decode cX10_terms 101 = .ok (.ireturn, 1) := by decide +kernel
theorem dX10_row_0 : decode cX10_row 0 = .ok (.aload_n 0, 1) := by decide +kernel
theorem dX10_row_1 : decode cX10_row 1 = .ok (.iconst 0, 1) := by decide +kernel
theorem dX10_row_2 : decode cX10_row 2 = .ok (.putfield 157, 3) := by decide +kernel
theorem dX10_row_5 : decode cX10_row 5 = .ok (.aload_n 0, 1) := by decide +kernel
theorem dX10_row_6 : decode cX10_row 6 = .ok (.getfield 212, 3) := by decide +kernel
theorem dX10_row_9 : decode cX10_row 9 = .ok (.istore_n 1, 1) := by decide +kernel
theorem dX10_row_10 : decode cX10_row 10 = .ok (.aload_n 0, 1) := by decide +kernel
theorem dX10_row_11 : decode cX10_row 11 = .ok (.iconst 0, 1) := by decide +kernel
theorem dX10_row_12 : decode cX10_row 12 = .ok (.putfield 212, 3) := by decide +kernel
theorem dX10_row_15 : decode cX10_row 15 = .ok (.iload_n 1, 1) := by decide +kernel
theorem dX10_row_16 : decode cX10_row 16 = .ok (.ifCond .ne 10, 3) := by decide +kernel
theorem dX10_row_19 : decode cX10_row 19 = .ok (.aload_n 0, 1) := by decide +kernel
theorem dX10_row_20 : decode cX10_row 20 = .ok (.bipush (-6), 2) := by decide +kernel
theorem dX10_row_22 : decode cX10_row 22 = .ok (.invokevirtual 166, 3) := by decide +kernel
theorem dX10_row_25 : decode cX10_row 25 = .ok (.ireturn, 1) := by decide +kernel
theorem dX10_row_26 : decode cX10_row 26 = .ok (.aload_n 0, 1) := by decide +kernel
theorem dX10_row_27 : decode cX10_row 27 = .ok (.iconst 0, 1) := by decide +kernel
theorem dX10_row_28 : decode cX10_row 28 = .ok (.putfield 215, 3) := by decide +kernel
theorem dX10_row_31 : decode cX10_row 31 = .ok (.iconst 0, 1) := by decide +kernel
theorem dX10_row_32 : decode cX10_row 32 = .ok (.istore_n 2, 1) := by decide +kernel
theorem dX10_row_33 : decode cX10_row 33 = .ok (.iconst 0, 1) := by decide +kernel
theorem dX10_row_34 : decode cX10_row 34 = .ok (.istore_n 3, 1) := by decide +kernel
theorem dX10_row_35 : decode cX10_row 35 = .ok (.iload_n 3, 1) := by decide +kernel
theorem dX10_row_36 : decode cX10_row 36 = .ok (.iload_n 1, 1) := by decide +kernel
theorem dX10_row_37 : decode cX10_row 37 = .ok (.if_icmp .ge 72, 3) := by decide +kernel
theorem dX10_row_40 : decode cX10_row 40 = .ok (.iload_n 3, 1) := by decide +kernel
theorem dX10_row_41 : decode cX10_row 41 = .ok (.iconst 3, 1) := by decide +kernel
theorem dX10_row_42 : decode cX10_row 42 = .ok (.iadd, 1) := by decide +kernel
theorem dX10_row_43 : decode cX10_row 43 = .ok (.iload_n 1, 1) := by decide +kernel
theorem dX10_row_44 : decode cX10_row 44 = .ok (.if_icmp .ge 49, 3) := by decide +kernel
theorem dX10_row_47 : decode cX10_row 47 = .ok (.aload_n 0, 1) := by decide +kernel
theorem dX10_row_48 : decode cX10_row 48 = .ok (.aload_n 0, 1) := by decide +kernel
theorem dX10_row_49 : decode cX10_row 49 = .ok (.getfield 35, 3) := by decide +kernel
theorem dX10_row_52 : decode cX10_row 52 = .ok (.iload_n 3, 1) := by decide +kernel
theorem dX10_row_53 : decode cX10_row 53 = .ok (.iaload, 1) := by decide +kernel
theorem dX10_row_54 : decode cX10_row 54 = .ok (.aload_n 0, 1) := by decide +kernel
theorem dX10_row_55 : decode cX10_row 55 = .ok (.getfield 35, 3) := by decide +kernel
theorem dX10_row_58 : decode cX10_row 58 = .ok (.iload_n 3, 1) := by decide +kernel
theorem dX10_row_59 : decode cX10_row 59 = .ok (.iconst 1, 1) := by decide +kernel
theorem dX10_row_60 : decode cX10_row 60 = .ok (.iadd, 1) := by decide +kernel
theorem dX10_row_61 : decode cX10_row 61 = .ok (.iaload, 1) := by decide +kernel
theorem dX10_row_62 : decode cX10_row 62 = .ok (.aload_n 0, 1) := by decide +kernel
theorem dX10_row_63 : decode cX10_row 63 = .ok (.getfield 35, 3) := by decide +kernel
theorem dX10_row_66 : decode cX10_row 66 = .ok (.iload_n 3, 1) := by decide +kernel
theorem dX10_row_67 : decode cX10_row 67 = .ok (.iconst 2, 1) := by decide +kernel
theorem dX10_row_68 : decode cX10_row 68 = .ok (.iadd, 1) := by decide +kernel
theorem dX10_row_69 : decode cX10_row 69 = .ok (.iaload, 1) := by decide +kernel
theorem dX10_row_70 : decode cX10_row 70 = .ok (.bipush 10, 2) := by decide +kernel
theorem dX10_row_72 : decode cX10_row 72 = .ok (.aload_n 0, 1) := by decide +kernel
theorem dX10_row_73 : decode cX10_row 73 = .ok (.getfield 35, 3) := by decide +kernel
theorem dX10_row_76 : decode cX10_row 76 = .ok (.iload_n 3, 1) := by decide +kernel
theorem dX10_row_77 : decode cX10_row 77 = .ok (.iconst 3, 1) := by decide +kernel
theorem dX10_row_78 : decode cX10_row 78 = .ok (.iadd, 1) := by decide +kernel
theorem dX10_row_79 : decode cX10_row 79 = .ok (.iaload, 1) := by decide +kernel
theorem dX10_row_80 : decode cX10_row 80 = .ok (.imul, 1) := by decide +kernel
theorem dX10_row_81 : decode cX10_row 81 = .ok (.invokevirtual 190, 3) := by decide +kernel
theorem dX10_row_84 : decode cX10_row 84 = .ok (.ifCond .lt 9, 3) := by decide +kernel
theorem dX10_row_87 : decode cX10_row 87 = .ok (.iinc 2 1, 3) := by decide +kernel
theorem dX10_row_90 : decode cX10_row 90 = .ok (.goto 13, 3) := by decide +kernel
theorem dX10_row_93 : decode cX10_row 93 = .ok (.aload_n 0, 1) := by decide +kernel
theorem dX10_row_94 : decode cX10_row 94 = .ok (.dup, 1) := by decide +kernel
theorem dX10_row_95 : decode cX10_row 95 = .ok (.getfield 215, 3) := by decide +kernel
theorem dX10_row_98 : decode cX10_row 98 = .ok (.iconst 1, 1) := by decide +kernel
theorem dX10_row_99 : decode cX10_row 99 = .ok (.iadd, 1) := by decide +kernel
theorem dX10_row_100 : decode cX10_row 100 = .ok (.putfield 215, 3) := by decide +kernel
theorem dX10_row_103 : decode cX10_row 103 = .ok (.iinc 3 4, 3) := by decide +kernel
theorem dX10_row_106 : decode cX10_row 106 = .ok (.goto (-71), 3) := by decide +kernel
theorem dX10_row_109 : decode cX10_row 109 = .ok (.aload_n 0, 1) := by decide +kernel
theorem dX10_row_110 : decode cX10_row 110 = .ok (.iload_n 2, 1) := by decide +kernel
theorem dX10_row_111 : decode cX10_row 111 = .ok (.invokevirtual 181, 3) := by decide +kernel
theorem dX10_row_114 : decode cX10_row 114 = .ok (.ireturn, 1) := by decide +kernel
theorem dX10_slips_0 : decode cX10_slips 0 = .ok (.aload_n 0, 1) := by decide +kernel
theorem dX10_slips_1 : decode cX10_slips 1 = .ok (.iconst 0, 1) := by decide +kernel
theorem dX10_slips_2 : decode cX10_slips 2 = .ok (.putfield 157, 3) := by decide +kernel
theorem dX10_slips_5 : decode cX10_slips 5 = .ok (.aload_n 0, 1) := by decide +kernel
theorem dX10_slips_6 : decode cX10_slips 6 = .ok (.getfield 215, 3) := by decide +kernel
theorem dX10_slips_9 : decode cX10_slips 9 = .ok (.ireturn, 1) := by decide +kernel
theorem dX10_four_0 : decode cX10_four 0 = .ok (.bipush 24, 2) := by decide +kernel
theorem dX10_four_2 : decode cX10_four 2 = .ok (.istore_n 2, 1) := by decide +kernel
theorem dX10_four_3 : decode cX10_four 3 = .ok (.iload_n 2, 1) := by decide +kernel
theorem dX10_four_4 : decode cX10_four 4 = .ok (.ifCond .lt 35, 3) := by decide +kernel
theorem dX10_four_7 : decode cX10_four 7 = .ok (.aload_n 0, 1) := by decide +kernel
theorem dX10_four_8 : decode cX10_four 8 = .ok (.getfield 35, 3) := by decide +kernel
theorem dX10_four_11 : decode cX10_four 11 = .ok (.aload_n 0, 1) := by decide +kernel
theorem dX10_four_12 : decode cX10_four 12 = .ok (.getfield 212, 3) := by decide +kernel
theorem dX10_four_15 : decode cX10_four 15 = .ok (.iload_n 1, 1) := by decide +kernel
theorem dX10_four_16 : decode cX10_four 16 = .ok (.iload_n 2, 1) := by decide +kernel
theorem dX10_four_17 : decode cX10_four 17 = .ok (.ishr, 1) := by decide +kernel
theorem dX10_four_18 : decode cX10_four 18 = .ok (.sipush 255, 3) := by decide +kernel
theorem dX10_four_21 : decode cX10_four 21 = .ok (.iand, 1) := by decide +kernel
theorem dX10_four_22 : decode cX10_four 22 = .ok (.iastore, 1) := by decide +kernel
theorem dX10_four_23 : decode cX10_four 23 = .ok (.aload_n 0, 1) := by decide +kernel
theorem dX10_four_24 : decode cX10_four 24 = .ok (.dup, 1) := by decide +kernel
theorem dX10_four_25 : decode cX10_four 25 = .ok (.getfield 212, 3) := by decide +kernel
theorem dX10_four_28 : decode cX10_four 28 = .ok (.iconst 1, 1) := by decide +kernel
theorem dX10_four_29 : decode cX10_four 29 = .ok (.iadd, 1) := by decide +kernel
theorem dX10_four_30 : decode cX10_four 30 = .ok (.putfield 212, 3) := by decide +kernel
theorem dX10_four_33 : decode cX10_four 33 = .ok (.iinc 2 (-8), 3) := by decide +kernel
theorem dX10_four_36 : decode cX10_four 36 = .ok (.goto (-33), 3) := by decide +kernel
theorem dX10_four_39 : decode cX10_four 39 = .ok (.return_, 1) := by decide +kernel
theorem dX10_feed_0 : decode cX10_feed 0 = .ok (.aload_n 0, 1) := by decide +kernel
theorem dX10_feed_1 : decode cX10_feed 1 = .ok (.iconst 0, 1) := by decide +kernel
theorem dX10_feed_2 : decode cX10_feed 2 = .ok (.putfield 157, 3) := by decide +kernel
theorem dX10_feed_5 : decode cX10_feed 5 = .ok (.aload_n 0, 1) := by decide +kernel
theorem dX10_feed_6 : decode cX10_feed 6 = .ok (.getfield 212, 3) := by decide +kernel
theorem dX10_feed_9 : decode cX10_feed 9 = .ok (.bipush 20, 2) := by decide +kernel
theorem dX10_feed_11 : decode cX10_feed 11 = .ok (.iadd, 1) := by decide +kernel
theorem dX10_feed_12 : decode cX10_feed 12 = .ok (.sipush 400, 3) := by decide +kernel
theorem dX10_feed_15 : decode cX10_feed 15 = .ok (.if_icmp .le 5, 3) := by decide +kernel
theorem dX10_feed_18 : decode cX10_feed 18 = .ok (.iconst (-1), 1) := by decide +kernel
theorem dX10_feed_19 : decode cX10_feed 19 = .ok (.ireturn, 1) := by decide +kernel
theorem dX10_feed_20 : decode cX10_feed 20 = .ok (.aload_n 0, 1) := by decide +kernel
theorem dX10_feed_21 : decode cX10_feed 21 = .ok (.iload_n 1, 1) := by decide +kernel
theorem dX10_feed_22 : decode cX10_feed 22 = .ok (.invokevirtual 218, 3) := by decide +kernel
theorem dX10_feed_25 : decode cX10_feed 25 = .ok (.aload_n 0, 1) := by decide +kernel
theorem dX10_feed_26 : decode cX10_feed 26 = .ok (.iload_n 2, 1) := by decide +kernel
theorem dX10_feed_27 : decode cX10_feed 27 = .ok (.invokevirtual 218, 3) := by decide +kernel
theorem dX10_feed_30 : decode cX10_feed 30 = .ok (.aload_n 0, 1) := by decide +kernel
theorem dX10_feed_31 : decode cX10_feed 31 = .ok (.iload_n 3, 1) := by decide +kernel
theorem dX10_feed_32 : decode cX10_feed 32 = .ok (.invokevirtual 218, 3) := by decide +kernel
theorem dX10_feed_35 : decode cX10_feed 35 = .ok (.aload_n 0, 1) := by decide +kernel
theorem dX10_feed_36 : decode cX10_feed 36 = .ok (.iload 4, 2) := by decide +kernel
theorem dX10_feed_38 : decode cX10_feed 38 = .ok (.invokevirtual 218, 3) := by decide +kernel
theorem dX10_feed_41 : decode cX10_feed 41 = .ok (.aload_n 0, 1) := by decide +kernel
theorem dX10_feed_42 : decode cX10_feed 42 = .ok (.iload 5, 2) := by decide +kernel
theorem dX10_feed_44 : decode cX10_feed 44 = .ok (.invokevirtual 218, 3) := by decide +kernel
theorem dX10_feed_47 : decode cX10_feed 47 = .ok (.aload_n 0, 1) := by decide +kernel
theorem dX10_feed_48 : decode cX10_feed 48 = .ok (.getfield 212, 3) := by decide +kernel
theorem dX10_feed_51 : decode cX10_feed 51 = .ok (.ireturn, 1) := by decide +kernel
theorem dX10_end_0 : decode cX10_end 0 = .ok (.aload_n 0, 1) := by decide +kernel
theorem dX10_end_1 : decode cX10_end 1 = .ok (.iconst 0, 1) := by decide +kernel
theorem dX10_end_2 : decode cX10_end 2 = .ok (.putfield 157, 3) := by decide +kernel
theorem dX10_end_5 : decode cX10_end 5 = .ok (.iload_n 1, 1) := by decide +kernel
theorem dX10_end_6 : decode cX10_end 6 = .ok (.ifCond .lt 11, 3) := by decide +kernel
theorem dX10_end_9 : decode cX10_end 9 = .ok (.iload_n 1, 1) := by decide +kernel
theorem dX10_end_10 : decode cX10_end 10 = .ok (.aload_n 0, 1) := by decide +kernel
theorem dX10_end_11 : decode cX10_end 11 = .ok (.getfield 212, 3) := by decide +kernel
theorem dX10_end_14 : decode cX10_end 14 = .ok (.if_icmp .le 5, 3) := by decide +kernel
theorem dX10_end_17 : decode cX10_end 17 = .ok (.iconst (-1), 1) := by decide +kernel
theorem dX10_end_18 : decode cX10_end 18 = .ok (.ireturn, 1) := by decide +kernel
theorem dX10_end_19 : decode cX10_end 19 = .ok (.aload_n 0, 1) := by decide +kernel
theorem dX10_end_20 : decode cX10_end 20 = .ok (.iload_n 1, 1) := by decide +kernel
theorem dX10_end_21 : decode cX10_end 21 = .ok (.putfield 212, 3) := by decide +kernel
theorem dX10_end_24 : decode cX10_end 24 = .ok (.iload_n 1, 1) := by decide +kernel
theorem dX10_end_25 : decode cX10_end 25 = .ok (.ireturn, 1) := by decide +kernel
theorem dX10_isSmall_0 : decode cX10_isSmall 0 = .ok (.iload_n 0, 1) := by decide +kernel
theorem dX10_isSmall_1 : decode cX10_isSmall 1 = .ok (.bipush 97, 2) := by decide +kernel
theorem dX10_isSmall_3 : decode cX10_isSmall 3 = .ok (.if_icmp .lt 13, 3) := by decide +kernel
theorem dX10_isSmall_6 : decode cX10_isSmall 6 = .ok (.iload_n 0, 1) := by decide +kernel
theorem dX10_isSmall_7 : decode cX10_isSmall 7 = .ok (.bipush 122, 2) := by decide +kernel
theorem dX10_isSmall_9 : decode cX10_isSmall 9 = .ok (.if_icmp .gt 7, 3) := by decide +kernel
theorem dX10_isSmall_12 : decode cX10_isSmall 12 = .ok (.iconst 1, 1) := by decide +kernel
theorem dX10_isSmall_13 : decode cX10_isSmall 13 = .ok (.goto 4, 3) := by decide +kernel
theorem dX10_isSmall_16 : decode cX10_isSmall 16 = .ok (.iconst 0, 1) := by decide +kernel
theorem dX10_isSmall_17 : decode cX10_isSmall 17 = .ok (.ireturn, 1) := by decide +kernel
theorem dX10_isDigit_0 : decode cX10_isDigit 0 = .ok (.iload_n 0, 1) := by decide +kernel
theorem dX10_isDigit_1 : decode cX10_isDigit 1 = .ok (.bipush 48, 2) := by decide +kernel
theorem dX10_isDigit_3 : decode cX10_isDigit 3 = .ok (.if_icmp .lt 13, 3) := by decide +kernel
theorem dX10_isDigit_6 : decode cX10_isDigit 6 = .ok (.iload_n 0, 1) := by decide +kernel
theorem dX10_isDigit_7 : decode cX10_isDigit 7 = .ok (.bipush 57, 2) := by decide +kernel
theorem dX10_isDigit_9 : decode cX10_isDigit 9 = .ok (.if_icmp .gt 7, 3) := by decide +kernel
theorem dX10_isDigit_12 : decode cX10_isDigit 12 = .ok (.iconst 1, 1) := by decide +kernel
theorem dX10_isDigit_13 : decode cX10_isDigit 13 = .ok (.goto 4, 3) := by decide +kernel
theorem dX10_isDigit_16 : decode cX10_isDigit 16 = .ok (.iconst 0, 1) := by decide +kernel
theorem dX10_isDigit_17 : decode cX10_isDigit 17 = .ok (.ireturn, 1) := by decide +kernel
theorem dX10_begin_0 : decode cX10_begin 0 = .ok (.aload_n 0, 1) := by decide +kernel
theorem dX10_begin_1 : decode cX10_begin 1 = .ok (.iconst 0, 1) := by decide +kernel
theorem dX10_begin_2 : decode cX10_begin 2 = .ok (.putfield 221, 3) := by decide +kernel
theorem dX10_begin_5 : decode cX10_begin 5 = .ok (.aload_n 0, 1) := by decide +kernel
theorem dX10_begin_6 : decode cX10_begin 6 = .ok (.iconst 0, 1) := by decide +kernel
theorem dX10_begin_7 : decode cX10_begin 7 = .ok (.putfield 224, 3) := by decide +kernel
theorem dX10_begin_10 : decode cX10_begin 10 = .ok (.aload_n 0, 1) := by decide +kernel
theorem dX10_begin_11 : decode cX10_begin 11 = .ok (.iconst (-1), 1) := by decide +kernel
theorem dX10_begin_12 : decode cX10_begin 12 = .ok (.putfield 38, 3) := by decide +kernel
theorem dX10_begin_15 : decode cX10_begin 15 = .ok (.aload_n 0, 1) := by decide +kernel
theorem dX10_begin_16 : decode cX10_begin 16 = .ok (.invokevirtual 228, 3) := by decide +kernel
theorem dX10_begin_19 : decode cX10_begin 19 = .ok (.return_, 1) := by decide +kernel
theorem dX10_next_0 : decode cX10_next 0 = .ok (.aload_n 0, 1) := by decide +kernel
theorem dX10_next_1 : decode cX10_next 1 = .ok (.aload_n 0, 1) := by decide +kernel
theorem dX10_next_2 : decode cX10_next 2 = .ok (.getfield 221, 3) := by decide +kernel
theorem dX10_next_5 : decode cX10_next 5 = .ok (.putfield 231, 3) := by decide +kernel
theorem dX10_next_8 : decode cX10_next 8 = .ok (.aload_n 0, 1) := by decide +kernel
theorem dX10_next_9 : decode cX10_next 9 = .ok (.getfield 231, 3) := by decide +kernel
theorem dX10_next_12 : decode cX10_next 12 = .ok (.aload_n 0, 1) := by decide +kernel
theorem dX10_next_13 : decode cX10_next 13 = .ok (.getfield 212, 3) := by decide +kernel
theorem dX10_next_16 : decode cX10_next 16 = .ok (.if_icmp .ge 30, 3) := by decide +kernel
theorem dX10_next_19 : decode cX10_next 19 = .ok (.aload_n 0, 1) := by decide +kernel
theorem dX10_next_20 : decode cX10_next 20 = .ok (.getfield 35, 3) := by decide +kernel
theorem dX10_next_23 : decode cX10_next 23 = .ok (.aload_n 0, 1) := by decide +kernel
theorem dX10_next_24 : decode cX10_next 24 = .ok (.getfield 231, 3) := by decide +kernel
theorem dX10_next_27 : decode cX10_next 27 = .ok (.iaload, 1) := by decide +kernel
theorem dX10_next_28 : decode cX10_next 28 = .ok (.bipush 32, 2) := by decide +kernel
theorem dX10_next_30 : decode cX10_next 30 = .ok (.if_icmp .ne 16, 3) := by decide +kernel
theorem dX10_next_33 : decode cX10_next 33 = .ok (.aload_n 0, 1) := by decide +kernel
theorem dX10_next_34 : decode cX10_next 34 = .ok (.dup, 1) := by decide +kernel
theorem dX10_next_35 : decode cX10_next 35 = .ok (.getfield 231, 3) := by decide +kernel
theorem dX10_next_38 : decode cX10_next 38 = .ok (.iconst 1, 1) := by decide +kernel
theorem dX10_next_39 : decode cX10_next 39 = .ok (.iadd, 1) := by decide +kernel
theorem dX10_next_40 : decode cX10_next 40 = .ok (.putfield 231, 3) := by decide +kernel
theorem dX10_next_43 : decode cX10_next 43 = .ok (.goto (-35), 3) := by decide +kernel
theorem dX10_next_46 : decode cX10_next 46 = .ok (.aload_n 0, 1) := by decide +kernel
theorem dX10_next_47 : decode cX10_next 47 = .ok (.aload_n 0, 1) := by decide +kernel
theorem dX10_next_48 : decode cX10_next 48 = .ok (.getfield 231, 3) := by decide +kernel
theorem dX10_next_51 : decode cX10_next 51 = .ok (.putfield 221, 3) := by decide +kernel
theorem dX10_next_54 : decode cX10_next 54 = .ok (.aload_n 0, 1) := by decide +kernel
theorem dX10_next_55 : decode cX10_next 55 = .ok (.lconst 0, 1) := by decide +kernel
theorem dX10_next_56 : decode cX10_next 56 = .ok (.putfield 234, 3) := by decide +kernel
theorem dX10_next_59 : decode cX10_next 59 = .ok (.aload_n 0, 1) := by decide +kernel
theorem dX10_next_60 : decode cX10_next 60 = .ok (.aload_n 0, 1) := by decide +kernel
theorem dX10_next_61 : decode cX10_next 61 = .ok (.getfield 231, 3) := by decide +kernel
theorem dX10_next_64 : decode cX10_next 64 = .ok (.aload_n 0, 1) := by decide +kernel
theorem dX10_next_65 : decode cX10_next 65 = .ok (.getfield 212, 3) := by decide +kernel
theorem dX10_next_68 : decode cX10_next 68 = .ok (.if_icmp .ne 7, 3) := by decide +kernel
theorem dX10_next_71 : decode cX10_next 71 = .ok (.iconst 0, 1) := by decide +kernel
theorem dX10_next_72 : decode cX10_next 72 = .ok (.goto 42, 3) := by decide +kernel
theorem dX10_next_75 : decode cX10_next 75 = .ok (.aload_n 0, 1) := by decide +kernel
theorem dX10_next_76 : decode cX10_next 76 = .ok (.getfield 35, 3) := by decide +kernel
theorem dX10_next_79 : decode cX10_next 79 = .ok (.aload_n 0, 1) := by decide +kernel
theorem dX10_next_80 : decode cX10_next 80 = .ok (.getfield 231, 3) := by decide +kernel
theorem dX10_next_83 : decode cX10_next 83 = .ok (.iaload, 1) := by decide +kernel
theorem dX10_next_84 : decode cX10_next 84 = .ok (.invokestatic 238, 3) := by decide +kernel
theorem dX10_next_87 : decode cX10_next 87 = .ok (.ifCond .eq 7, 3) := by decide +kernel
theorem dX10_next_90 : decode cX10_next 90 = .ok (.iconst 1, 1) := by decide +kernel
theorem dX10_next_91 : decode cX10_next 91 = .ok (.goto 23, 3) := by decide +kernel
theorem dX10_next_94 : decode cX10_next 94 = .ok (.aload_n 0, 1) := by decide +kernel
theorem dX10_next_95 : decode cX10_next 95 = .ok (.getfield 35, 3) := by decide +kernel
theorem dX10_next_98 : decode cX10_next 98 = .ok (.aload_n 0, 1) := by decide +kernel
theorem dX10_next_99 : decode cX10_next 99 = .ok (.getfield 231, 3) := by decide +kernel
theorem dX10_next_102 : decode cX10_next 102 = .ok (.iaload, 1) := by decide +kernel
theorem dX10_next_103 : decode cX10_next 103 = .ok (.invokestatic 241, 3) := by decide +kernel
theorem dX10_next_106 : decode cX10_next 106 = .ok (.ifCond .eq 7, 3) := by decide +kernel
theorem dX10_next_109 : decode cX10_next 109 = .ok (.iconst 2, 1) := by decide +kernel
theorem dX10_next_110 : decode cX10_next 110 = .ok (.goto 4, 3) := by decide +kernel
theorem dX10_next_113 : decode cX10_next 113 = .ok (.iconst 3, 1) := by decide +kernel
theorem dX10_next_114 : decode cX10_next 114 = .ok (.putfield 244, 3) := by decide +kernel
theorem dX10_next_117 : decode cX10_next 117 = .ok (.aload_n 0, 1) := by decide +kernel
theorem dX10_next_118 : decode cX10_next 118 = .ok (.getfield 244, 3) := by decide +kernel
theorem dX10_next_121 : decode cX10_next 121 = .ok (.iconst 3, 1) := by decide +kernel
theorem dX10_next_122 : decode cX10_next 122 = .ok (.if_icmp .ne 27, 3) := by decide +kernel
theorem dX10_next_125 : decode cX10_next 125 = .ok (.aload_n 0, 1) := by decide +kernel
theorem dX10_next_126 : decode cX10_next 126 = .ok (.aload_n 0, 1) := by decide +kernel
theorem dX10_next_127 : decode cX10_next 127 = .ok (.getfield 35, 3) := by decide +kernel
theorem dX10_next_130 : decode cX10_next 130 = .ok (.aload_n 0, 1) := by decide +kernel
theorem dX10_next_131 : decode cX10_next 131 = .ok (.getfield 231, 3) := by decide +kernel
theorem dX10_next_134 : decode cX10_next 134 = .ok (.iaload, 1) := by decide +kernel
theorem dX10_next_135 : decode cX10_next 135 = .ok (.i2l, 1) := by decide +kernel
theorem dX10_next_136 : decode cX10_next 136 = .ok (.putfield 234, 3) := by decide +kernel
theorem dX10_next_139 : decode cX10_next 139 = .ok (.aload_n 0, 1) := by decide +kernel
theorem dX10_next_140 : decode cX10_next 140 = .ok (.dup, 1) := by decide +kernel
theorem dX10_next_141 : decode cX10_next 141 = .ok (.getfield 221, 3) := by decide +kernel
theorem dX10_next_144 : decode cX10_next 144 = .ok (.iconst 1, 1) := by decide +kernel
theorem dX10_next_145 : decode cX10_next 145 = .ok (.iadd, 1) := by decide +kernel
theorem dX10_next_146 : decode cX10_next 146 = .ok (.putfield 221, 3) := by decide +kernel
theorem dX10_next_149 : decode cX10_next 149 = .ok (.aload_n 0, 1) := by decide +kernel
theorem dX10_next_150 : decode cX10_next 150 = .ok (.getfield 244, 3) := by decide +kernel
theorem dX10_next_153 : decode cX10_next 153 = .ok (.iconst 1, 1) := by decide +kernel
theorem dX10_next_154 : decode cX10_next 154 = .ok (.if_icmp .ne 89, 3) := by decide +kernel
theorem dX10_next_157 : decode cX10_next 157 = .ok (.aload_n 0, 1) := by decide +kernel
theorem dX10_next_158 : decode cX10_next 158 = .ok (.getfield 221, 3) := by decide +kernel
theorem dX10_next_161 : decode cX10_next 161 = .ok (.aload_n 0, 1) := by decide +kernel
theorem dX10_next_162 : decode cX10_next 162 = .ok (.getfield 212, 3) := by decide +kernel
theorem dX10_next_165 : decode cX10_next 165 = .ok (.if_icmp .ge 78, 3) := by decide +kernel
theorem dX10_next_168 : decode cX10_next 168 = .ok (.aload_n 0, 1) := by decide +kernel
theorem dX10_next_169 : decode cX10_next 169 = .ok (.getfield 35, 3) := by decide +kernel
theorem dX10_next_172 : decode cX10_next 172 = .ok (.aload_n 0, 1) := by decide +kernel
theorem dX10_next_173 : decode cX10_next 173 = .ok (.getfield 221, 3) := by decide +kernel
theorem dX10_next_176 : decode cX10_next 176 = .ok (.iaload, 1) := by decide +kernel
theorem dX10_next_177 : decode cX10_next 177 = .ok (.invokestatic 238, 3) := by decide +kernel
theorem dX10_next_180 : decode cX10_next 180 = .ok (.ifCond .eq 63, 3) := by decide +kernel
theorem dX10_next_183 : decode cX10_next 183 = .ok (.aload_n 0, 1) := by decide +kernel
theorem dX10_next_184 : decode cX10_next 184 = .ok (.aload_n 0, 1) := by decide +kernel
theorem dX10_next_185 : decode cX10_next 185 = .ok (.getfield 221, 3) := by decide +kernel
theorem dX10_next_188 : decode cX10_next 188 = .ok (.aload_n 0, 1) := by decide +kernel
theorem dX10_next_189 : decode cX10_next 189 = .ok (.getfield 231, 3) := by decide +kernel
theorem dX10_next_192 : decode cX10_next 192 = .ok (.isub, 1) := by decide +kernel
theorem dX10_next_193 : decode cX10_next 193 = .ok (.bipush 10, 2) := by decide +kernel
theorem dX10_next_195 : decode cX10_next 195 = .ok (.if_icmp .ge 29, 3) := by decide +kernel
theorem dX10_next_198 : decode cX10_next 198 = .ok (.aload_n 0, 1) := by decide +kernel
theorem dX10_next_199 : decode cX10_next 199 = .ok (.getfield 234, 3) := by decide +kernel
theorem dX10_next_202 : decode cX10_next 202 = .ok (.ldc2_w 247, 3) := by decide +kernel
theorem dX10_next_205 : decode cX10_next 205 = .ok (.lmul, 1) := by decide +kernel
theorem dX10_next_206 : decode cX10_next 206 = .ok (.aload_n 0, 1) := by decide +kernel
theorem dX10_next_207 : decode cX10_next 207 = .ok (.getfield 35, 3) := by decide +kernel
theorem dX10_next_210 : decode cX10_next 210 = .ok (.aload_n 0, 1) := by decide +kernel
theorem dX10_next_211 : decode cX10_next 211 = .ok (.getfield 221, 3) := by decide +kernel
theorem dX10_next_214 : decode cX10_next 214 = .ok (.iaload, 1) := by decide +kernel
theorem dX10_next_215 : decode cX10_next 215 = .ok (.i2l, 1) := by decide +kernel
theorem dX10_next_216 : decode cX10_next 216 = .ok (.ladd, 1) := by decide +kernel
theorem dX10_next_217 : decode cX10_next 217 = .ok (.ldc2_w 249, 3) := by decide +kernel
theorem dX10_next_220 : decode cX10_next 220 = .ok (.lsub, 1) := by decide +kernel
theorem dX10_next_221 : decode cX10_next 221 = .ok (.goto 6, 3) := by decide +kernel
theorem dX10_next_224 : decode cX10_next 224 = .ok (.ldc2_w 251, 3) := by decide +kernel
theorem dX10_next_227 : decode cX10_next 227 = .ok (.putfield 234, 3) := by decide +kernel
theorem dX10_next_230 : decode cX10_next 230 = .ok (.aload_n 0, 1) := by decide +kernel
theorem dX10_next_231 : decode cX10_next 231 = .ok (.dup, 1) := by decide +kernel
theorem dX10_next_232 : decode cX10_next 232 = .ok (.getfield 221, 3) := by decide +kernel
theorem dX10_next_235 : decode cX10_next 235 = .ok (.iconst 1, 1) := by decide +kernel
theorem dX10_next_236 : decode cX10_next 236 = .ok (.iadd, 1) := by decide +kernel
theorem dX10_next_237 : decode cX10_next 237 = .ok (.putfield 221, 3) := by decide +kernel
theorem dX10_next_240 : decode cX10_next 240 = .ok (.goto (-91), 3) := by decide +kernel
theorem dX10_next_243 : decode cX10_next 243 = .ok (.aload_n 0, 1) := by decide +kernel
theorem dX10_next_244 : decode cX10_next 244 = .ok (.getfield 244, 3) := by decide +kernel
theorem dX10_next_247 : decode cX10_next 247 = .ok (.iconst 2, 1) := by decide +kernel
theorem dX10_next_248 : decode cX10_next 248 = .ok (.if_icmp .ne 87, 3) := by decide +kernel
theorem dX10_next_251 : decode cX10_next 251 = .ok (.aload_n 0, 1) := by decide +kernel
theorem dX10_next_252 : decode cX10_next 252 = .ok (.getfield 221, 3) := by decide +kernel
theorem dX10_next_255 : decode cX10_next 255 = .ok (.aload_n 0, 1) := by decide +kernel
theorem dX10_next_256 : decode cX10_next 256 = .ok (.getfield 212, 3) := by decide +kernel
theorem dX10_next_259 : decode cX10_next 259 = .ok (.if_icmp .ge 76, 3) := by decide +kernel
theorem dX10_next_262 : decode cX10_next 262 = .ok (.aload_n 0, 1) := by decide +kernel
theorem dX10_next_263 : decode cX10_next 263 = .ok (.getfield 35, 3) := by decide +kernel
theorem dX10_next_266 : decode cX10_next 266 = .ok (.aload_n 0, 1) := by decide +kernel
theorem dX10_next_267 : decode cX10_next 267 = .ok (.getfield 221, 3) := by decide +kernel
theorem dX10_next_270 : decode cX10_next 270 = .ok (.iaload, 1) := by decide +kernel
theorem dX10_next_271 : decode cX10_next 271 = .ok (.invokestatic 241, 3) := by decide +kernel
theorem dX10_next_274 : decode cX10_next 274 = .ok (.ifCond .eq 61, 3) := by decide +kernel
theorem dX10_next_277 : decode cX10_next 277 = .ok (.aload_n 0, 1) := by decide +kernel
theorem dX10_next_278 : decode cX10_next 278 = .ok (.aload_n 0, 1) := by decide +kernel
theorem dX10_next_279 : decode cX10_next 279 = .ok (.getfield 234, 3) := by decide +kernel
theorem dX10_next_282 : decode cX10_next 282 = .ok (.ldc2_w 253, 3) := by decide +kernel
theorem dX10_next_285 : decode cX10_next 285 = .ok (.lcmp, 1) := by decide +kernel
theorem dX10_next_286 : decode cX10_next 286 = .ok (.ifCond .le 10, 3) := by decide +kernel
theorem dX10_next_289 : decode cX10_next 289 = .ok (.aload_n 0, 1) := by decide +kernel
theorem dX10_next_290 : decode cX10_next 290 = .ok (.getfield 234, 3) := by decide +kernel
theorem dX10_next_293 : decode cX10_next 293 = .ok (.goto 26, 3) := by decide +kernel
theorem dX10_next_296 : decode cX10_next 296 = .ok (.aload_n 0, 1) := by decide +kernel
theorem dX10_next_297 : decode cX10_next 297 = .ok (.getfield 234, 3) := by decide +kernel
theorem dX10_next_300 : decode cX10_next 300 = .ok (.ldc2_w 206, 3) := by decide +kernel
theorem dX10_next_303 : decode cX10_next 303 = .ok (.lmul, 1) := by decide +kernel
theorem dX10_next_304 : decode cX10_next 304 = .ok (.aload_n 0, 1) := by decide +kernel
theorem dX10_next_305 : decode cX10_next 305 = .ok (.getfield 35, 3) := by decide +kernel
theorem dX10_next_308 : decode cX10_next 308 = .ok (.aload_n 0, 1) := by decide +kernel
theorem dX10_next_309 : decode cX10_next 309 = .ok (.getfield 221, 3) := by decide +kernel
theorem dX10_next_312 : decode cX10_next 312 = .ok (.iaload, 1) := by decide +kernel
theorem dX10_next_313 : decode cX10_next 313 = .ok (.i2l, 1) := by decide +kernel
theorem dX10_next_314 : decode cX10_next 314 = .ok (.ladd, 1) := by decide +kernel
theorem dX10_next_315 : decode cX10_next 315 = .ok (.ldc2_w 255, 3) := by decide +kernel
theorem dX10_next_318 : decode cX10_next 318 = .ok (.lsub, 1) := by decide +kernel
theorem dX10_next_319 : decode cX10_next 319 = .ok (.putfield 234, 3) := by decide +kernel
theorem dX10_next_322 : decode cX10_next 322 = .ok (.aload_n 0, 1) := by decide +kernel
theorem dX10_next_323 : decode cX10_next 323 = .ok (.dup, 1) := by decide +kernel
theorem dX10_next_324 : decode cX10_next 324 = .ok (.getfield 221, 3) := by decide +kernel
theorem dX10_next_327 : decode cX10_next 327 = .ok (.iconst 1, 1) := by decide +kernel
theorem dX10_next_328 : decode cX10_next 328 = .ok (.iadd, 1) := by decide +kernel
theorem dX10_next_329 : decode cX10_next 329 = .ok (.putfield 221, 3) := by decide +kernel
theorem dX10_next_332 : decode cX10_next 332 = .ok (.goto (-89), 3) := by decide +kernel
theorem dX10_next_335 : decode cX10_next 335 = .ok (.return_, 1) := by decide +kernel
theorem dX10_isWord_0 : decode cX10_isWord 0 = .ok (.aload_n 0, 1) := by decide +kernel
theorem dX10_isWord_1 : decode cX10_isWord 1 = .ok (.getfield 244, 3) := by decide +kernel
theorem dX10_isWord_4 : decode cX10_isWord 4 = .ok (.iconst 1, 1) := by decide +kernel
theorem dX10_isWord_5 : decode cX10_isWord 5 = .ok (.if_icmp .ne 16, 3) := by decide +kernel
theorem dX10_isWord_8 : decode cX10_isWord 8 = .ok (.aload_n 0, 1) := by decide +kernel
theorem dX10_isWord_9 : decode cX10_isWord 9 = .ok (.getfield 234, 3) := by decide +kernel
theorem dX10_isWord_12 : decode cX10_isWord 12 = .ok (.lload_n 1, 1) := by decide +kernel
theorem dX10_isWord_13 : decode cX10_isWord 13 = .ok (.lcmp, 1) := by decide +kernel
theorem dX10_isWord_14 : decode cX10_isWord 14 = .ok (.ifCond .ne 7, 3) := by decide +kernel
theorem dX10_isWord_17 : decode cX10_isWord 17 = .ok (.iconst 1, 1) := by decide +kernel
theorem dX10_isWord_18 : decode cX10_isWord 18 = .ok (.goto 4, 3) := by decide +kernel
theorem dX10_isWord_21 : decode cX10_isWord 21 = .ok (.iconst 0, 1) := by decide +kernel
theorem dX10_isWord_22 : decode cX10_isWord 22 = .ok (.ireturn, 1) := by decide +kernel
theorem dX10_isSign_0 : decode cX10_isSign 0 = .ok (.aload_n 0, 1) := by decide +kernel
theorem dX10_isSign_1 : decode cX10_isSign 1 = .ok (.getfield 244, 3) := by decide +kernel
theorem dX10_isSign_4 : decode cX10_isSign 4 = .ok (.iconst 3, 1) := by decide +kernel
theorem dX10_isSign_5 : decode cX10_isSign 5 = .ok (.if_icmp .ne 17, 3) := by decide +kernel
theorem dX10_isSign_8 : decode cX10_isSign 8 = .ok (.aload_n 0, 1) := by decide +kernel
theorem dX10_isSign_9 : decode cX10_isSign 9 = .ok (.getfield 234, 3) := by decide +kernel
theorem dX10_isSign_12 : decode cX10_isSign 12 = .ok (.iload_n 1, 1) := by decide +kernel
theorem dX10_isSign_13 : decode cX10_isSign 13 = .ok (.i2l, 1) := by decide +kernel
theorem dX10_isSign_14 : decode cX10_isSign 14 = .ok (.lcmp, 1) := by decide +kernel
theorem dX10_isSign_15 : decode cX10_isSign 15 = .ok (.ifCond .ne 7, 3) := by decide +kernel
theorem dX10_isSign_18 : decode cX10_isSign 18 = .ok (.iconst 1, 1) := by decide +kernel
theorem dX10_isSign_19 : decode cX10_isSign 19 = .ok (.goto 4, 3) := by decide +kernel
theorem dX10_isSign_22 : decode cX10_isSign 22 = .ok (.iconst 0, 1) := by decide +kernel
theorem dX10_isSign_23 : decode cX10_isSign 23 = .ok (.ireturn, 1) := by decide +kernel
theorem dX10_must_0 : decode cX10_must 0 = .ok (.aload_n 0, 1) := by decide +kernel
theorem dX10_must_1 : decode cX10_must 1 = .ok (.getfield 224, 3) := by decide +kernel
theorem dX10_must_4 : decode cX10_must 4 = .ok (.ifCond .ne 20, 3) := by decide +kernel
theorem dX10_must_7 : decode cX10_must 7 = .ok (.iload_n 1, 1) := by decide +kernel
theorem dX10_must_8 : decode cX10_must 8 = .ok (.ifCond .ne 16, 3) := by decide +kernel
theorem dX10_must_11 : decode cX10_must 11 = .ok (.aload_n 0, 1) := by decide +kernel
theorem dX10_must_12 : decode cX10_must 12 = .ok (.iconst 1, 1) := by decide +kernel
theorem dX10_must_13 : decode cX10_must 13 = .ok (.putfield 224, 3) := by decide +kernel
theorem dX10_must_16 : decode cX10_must 16 = .ok (.aload_n 0, 1) := by decide +kernel
theorem dX10_must_17 : decode cX10_must 17 = .ok (.aload_n 0, 1) := by decide +kernel
theorem dX10_must_18 : decode cX10_must 18 = .ok (.getfield 231, 3) := by decide +kernel
theorem dX10_must_21 : decode cX10_must 21 = .ok (.putfield 38, 3) := by decide +kernel
theorem dX10_must_24 : decode cX10_must 24 = .ok (.aload_n 0, 1) := by decide +kernel
theorem dX10_must_25 : decode cX10_must 25 = .ok (.getfield 224, 3) := by decide +kernel
theorem dX10_must_28 : decode cX10_must 28 = .ok (.ifCond .ne 7, 3) := by decide +kernel
theorem dX10_must_31 : decode cX10_must 31 = .ok (.aload_n 0, 1) := by decide +kernel
theorem dX10_must_32 : decode cX10_must 32 = .ok (.invokevirtual 228, 3) := by decide +kernel
theorem dX10_must_35 : decode cX10_must 35 = .ok (.return_, 1) := by decide +kernel
theorem dX10_number_0 : decode cX10_number 0 = .ok (.aload_n 0, 1) := by decide +kernel
theorem dX10_number_1 : decode cX10_number 1 = .ok (.getfield 234, 3) := by decide +kernel
theorem dX10_number_4 : decode cX10_number 4 = .ok (.l2i, 1) := by decide +kernel
theorem dX10_number_5 : decode cX10_number 5 = .ok (.istore 5, 2) := by decide +kernel
theorem dX10_number_7 : decode cX10_number 7 = .ok (.aload_n 0, 1) := by decide +kernel
theorem dX10_number_8 : decode cX10_number 8 = .ok (.aload_n 0, 1) := by decide +kernel
theorem dX10_number_9 : decode cX10_number 9 = .ok (.getfield 244, 3) := by decide +kernel
theorem dX10_number_12 : decode cX10_number 12 = .ok (.iconst 2, 1) := by decide +kernel
theorem dX10_number_13 : decode cX10_number 13 = .ok (.if_icmp .ne 19, 3) := by decide +kernel
theorem dX10_number_16 : decode cX10_number 16 = .ok (.aload_n 0, 1) := by decide +kernel
theorem dX10_number_17 : decode cX10_number 17 = .ok (.getfield 234, 3) := by decide +kernel
theorem dX10_number_20 : decode cX10_number 20 = .ok (.lload_n 1, 1) := by decide +kernel
theorem dX10_number_21 : decode cX10_number 21 = .ok (.lload_n 3, 1) := by decide +kernel
theorem dX10_number_22 : decode cX10_number 22 = .ok (.invokestatic 177, 3) := by decide +kernel
theorem dX10_number_25 : decode cX10_number 25 = .ok (.ifCond .eq 7, 3) := by decide +kernel
theorem dX10_number_28 : decode cX10_number 28 = .ok (.iconst 1, 1) := by decide +kernel
theorem dX10_number_29 : decode cX10_number 29 = .ok (.goto 4, 3) := by decide +kernel
theorem dX10_number_32 : decode cX10_number 32 = .ok (.iconst 0, 1) := by decide +kernel
theorem dX10_number_33 : decode cX10_number 33 = .ok (.invokevirtual 257, 3) := by decide +kernel
theorem dX10_number_36 : decode cX10_number 36 = .ok (.iload 5, 2) := by decide +kernel
theorem dX10_number_38 : decode cX10_number 38 = .ok (.ireturn, 1) := by decide +kernel
theorem dX10_fault_0 : decode cX10_fault 0 = .ok (.aload_n 0, 1) := by decide +kernel
theorem dX10_fault_1 : decode cX10_fault 1 = .ok (.iconst 0, 1) := by decide +kernel
theorem dX10_fault_2 : decode cX10_fault 2 = .ok (.putfield 157, 3) := by decide +kernel
theorem dX10_fault_5 : decode cX10_fault 5 = .ok (.aload_n 0, 1) := by decide +kernel
theorem dX10_fault_6 : decode cX10_fault 6 = .ok (.getfield 38, 3) := by decide +kernel
theorem dX10_fault_9 : decode cX10_fault 9 = .ok (.ireturn, 1) := by decide +kernel
theorem dX10_emit_0 : decode cX10_emit 0 = .ok (.aload_n 0, 1) := by decide +kernel
theorem dX10_emit_1 : decode cX10_emit 1 = .ok (.getfield 45, 3) := by decide +kernel
theorem dX10_emit_4 : decode cX10_emit 4 = .ok (.aload_n 0, 1) := by decide +kernel
theorem dX10_emit_5 : decode cX10_emit 5 = .ok (.getfield 261, 3) := by decide +kernel
theorem dX10_emit_8 : decode cX10_emit 8 = .ok (.iload_n 1, 1) := by decide +kernel
theorem dX10_emit_9 : decode cX10_emit 9 = .ok (.iastore, 1) := by decide +kernel
theorem dX10_emit_10 : decode cX10_emit 10 = .ok (.aload_n 0, 1) := by decide +kernel
theorem dX10_emit_11 : decode cX10_emit 11 = .ok (.getfield 48, 3) := by decide +kernel
theorem dX10_emit_14 : decode cX10_emit 14 = .ok (.aload_n 0, 1) := by decide +kernel
theorem dX10_emit_15 : decode cX10_emit 15 = .ok (.getfield 261, 3) := by decide +kernel
theorem dX10_emit_18 : decode cX10_emit 18 = .ok (.iload_n 2, 1) := by decide +kernel
theorem dX10_emit_19 : decode cX10_emit 19 = .ok (.iastore, 1) := by decide +kernel
theorem dX10_emit_20 : decode cX10_emit 20 = .ok (.aload_n 0, 1) := by decide +kernel
theorem dX10_emit_21 : decode cX10_emit 21 = .ok (.dup, 1) := by decide +kernel
theorem dX10_emit_22 : decode cX10_emit 22 = .ok (.getfield 261, 3) := by decide +kernel
theorem dX10_emit_25 : decode cX10_emit 25 = .ok (.iconst 1, 1) := by decide +kernel
theorem dX10_emit_26 : decode cX10_emit 26 = .ok (.iadd, 1) := by decide +kernel
theorem dX10_emit_27 : decode cX10_emit 27 = .ok (.putfield 261, 3) := by decide +kernel
theorem dX10_emit_30 : decode cX10_emit 30 = .ok (.return_, 1) := by decide +kernel
theorem dX10_push_0 : decode cX10_push 0 = .ok (.aload_n 0, 1) := by decide +kernel
theorem dX10_push_1 : decode cX10_push 1 = .ok (.getfield 51, 3) := by decide +kernel
theorem dX10_push_4 : decode cX10_push 4 = .ok (.aload_n 0, 1) := by decide +kernel
theorem dX10_push_5 : decode cX10_push 5 = .ok (.getfield 264, 3) := by decide +kernel
theorem dX10_push_8 : decode cX10_push 8 = .ok (.iload_n 1, 1) := by decide +kernel
theorem dX10_push_9 : decode cX10_push 9 = .ok (.iastore, 1) := by decide +kernel
theorem dX10_push_10 : decode cX10_push 10 = .ok (.aload_n 0, 1) := by decide +kernel
theorem dX10_push_11 : decode cX10_push 11 = .ok (.getfield 54, 3) := by decide +kernel
theorem dX10_push_14 : decode cX10_push 14 = .ok (.aload_n 0, 1) := by decide +kernel
theorem dX10_push_15 : decode cX10_push 15 = .ok (.getfield 264, 3) := by decide +kernel
theorem dX10_push_18 : decode cX10_push 18 = .ok (.iload_n 2, 1) := by decide +kernel
theorem dX10_push_19 : decode cX10_push 19 = .ok (.iastore, 1) := by decide +kernel
theorem dX10_push_20 : decode cX10_push 20 = .ok (.aload_n 0, 1) := by decide +kernel
theorem dX10_push_21 : decode cX10_push 21 = .ok (.dup, 1) := by decide +kernel
theorem dX10_push_22 : decode cX10_push 22 = .ok (.getfield 264, 3) := by decide +kernel
theorem dX10_push_25 : decode cX10_push 25 = .ok (.iconst 1, 1) := by decide +kernel
theorem dX10_push_26 : decode cX10_push 26 = .ok (.iadd, 1) := by decide +kernel
theorem dX10_push_27 : decode cX10_push 27 = .ok (.putfield 264, 3) := by decide +kernel
theorem dX10_push_30 : decode cX10_push 30 = .ok (.return_, 1) := by decide +kernel
theorem dX10_binds_0 : decode cX10_binds 0 = .ok (.iload_n 0, 1) := by decide +kernel
theorem dX10_binds_1 : decode cX10_binds 1 = .ok (.bipush 31, 2) := by decide +kernel
theorem dX10_binds_3 : decode cX10_binds 3 = .ok (.if_icmp .lt 7, 3) := by decide +kernel
theorem dX10_binds_6 : decode cX10_binds 6 = .ok (.iconst 0, 1) := by decide +kernel
theorem dX10_binds_7 : decode cX10_binds 7 = .ok (.goto 55, 3) := by decide +kernel
theorem dX10_binds_10 : decode cX10_binds 10 = .ok (.iload_n 0, 1) := by decide +kernel
theorem dX10_binds_11 : decode cX10_binds 11 = .ok (.bipush 30, 2) := by decide +kernel
theorem dX10_binds_13 : decode cX10_binds 13 = .ok (.if_icmp .ne 7, 3) := by decide +kernel
theorem dX10_binds_16 : decode cX10_binds 16 = .ok (.iconst 1, 1) := by decide +kernel
theorem dX10_binds_17 : decode cX10_binds 17 = .ok (.goto 45, 3) := by decide +kernel
theorem dX10_binds_20 : decode cX10_binds 20 = .ok (.iload_n 0, 1) := by decide +kernel
theorem dX10_binds_21 : decode cX10_binds 21 = .ok (.bipush 29, 2) := by decide +kernel
theorem dX10_binds_23 : decode cX10_binds 23 = .ok (.if_icmp .ne 7, 3) := by decide +kernel
theorem dX10_binds_26 : decode cX10_binds 26 = .ok (.iconst 2, 1) := by decide +kernel
theorem dX10_binds_27 : decode cX10_binds 27 = .ok (.goto 35, 3) := by decide +kernel
theorem dX10_binds_30 : decode cX10_binds 30 = .ok (.iload_n 0, 1) := by decide +kernel
theorem dX10_binds_31 : decode cX10_binds 31 = .ok (.bipush 28, 2) := by decide +kernel
theorem dX10_binds_33 : decode cX10_binds 33 = .ok (.if_icmp .ne 7, 3) := by decide +kernel
theorem dX10_binds_36 : decode cX10_binds 36 = .ok (.iconst 3, 1) := by decide +kernel
theorem dX10_binds_37 : decode cX10_binds 37 = .ok (.goto 25, 3) := by decide +kernel
theorem dX10_binds_40 : decode cX10_binds 40 = .ok (.iload_n 0, 1) := by decide +kernel
theorem dX10_binds_41 : decode cX10_binds 41 = .ok (.bipush 25, 2) := by decide +kernel
theorem dX10_binds_43 : decode cX10_binds 43 = .ok (.if_icmp .lt 7, 3) := by decide +kernel
theorem dX10_binds_46 : decode cX10_binds 46 = .ok (.iconst 4, 1) := by decide +kernel
theorem dX10_binds_47 : decode cX10_binds 47 = .ok (.goto 15, 3) := by decide +kernel
theorem dX10_binds_50 : decode cX10_binds 50 = .ok (.iload_n 0, 1) := by decide +kernel
theorem dX10_binds_51 : decode cX10_binds 51 = .ok (.bipush 22, 2) := by decide +kernel
theorem dX10_binds_53 : decode cX10_binds 53 = .ok (.if_icmp .lt 8, 3) := by decide +kernel
theorem dX10_binds_56 : decode cX10_binds 56 = .ok (.bipush 6, 2) := by decide +kernel
