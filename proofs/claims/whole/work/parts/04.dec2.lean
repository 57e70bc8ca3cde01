theorem dX9_init_0 : decode cX9_init 0 = .ok (.aload_n 0, 1) := by decide +kernel
theorem dX9_init_1 : decode cX9_init 1 = .ok (.invokespecial 1, 3) := by decide +kernel
theorem dX9_init_4 : decode cX9_init 4 = .ok (.aload_n 0, 1) := by decide +kernel
theorem dX9_init_5 : decode cX9_init 5 = .ok (.sipush 500, 3) := by decide +kernel
theorem dX9_init_8 : decode cX9_init 8 = .ok (.newarray .int, 2) := by decide +kernel
theorem dX9_init_10 : decode cX9_init 10 = .ok (.putfield 7, 3) := by decide +kernel
theorem dX9_init_13 : decode cX9_init 13 = .ok (.aload_n 0, 1) := by decide +kernel
theorem dX9_init_14 : decode cX9_init 14 = .ok (.bipush 20, 2) := by decide +kernel
theorem dX9_init_16 : decode cX9_init 16 = .ok (.putfield 13, 3) := by decide +kernel
theorem dX9_init_19 : decode cX9_init 19 = .ok (.aload_n 0, 1) := by decide +kernel
theorem dX9_init_20 : decode cX9_init 20 = .ok (.bipush 20, 2) := by decide +kernel
theorem dX9_init_22 : decode cX9_init 22 = .ok (.putfield 17, 3) := by decide +kernel
theorem dX9_init_25 : decode cX9_init 25 = .ok (.aload_n 0, 1) := by decide +kernel
theorem dX9_init_26 : decode cX9_init 26 = .ok (.iconst 1, 1) := by decide +kernel
theorem dX9_init_27 : decode cX9_init 27 = .ok (.putfield 20, 3) := by decide +kernel
theorem dX9_init_30 : decode cX9_init 30 = .ok (.aload_n 0, 1) := by decide +kernel
theorem dX9_init_31 : decode cX9_init 31 = .ok (.sipush 1020, 3) := by decide +kernel
theorem dX9_init_34 : decode cX9_init 34 = .ok (.newarray .boolean, 2) := by decide +kernel
theorem dX9_init_36 : decode cX9_init 36 = .ok (.putfield 23, 3) := by decide +kernel
theorem dX9_init_39 : decode cX9_init 39 = .ok (.aload_n 0, 1) := by decide +kernel
theorem dX9_init_40 : decode cX9_init 40 = .ok (.bipush 6, 2) := by decide +kernel
theorem dX9_init_42 : decode cX9_init 42 = .ok (.newarray .int, 2) := by decide +kernel
theorem dX9_init_44 : decode cX9_init 44 = .ok (.putfield 27, 3) := by decide +kernel
theorem dX9_init_47 : decode cX9_init 47 = .ok (.aload_n 0, 1) := by decide +kernel
theorem dX9_init_48 : decode cX9_init 48 = .ok (.bipush 6, 2) := by decide +kernel
theorem dX9_init_50 : decode cX9_init 50 = .ok (.newarray .int, 2) := by decide +kernel
theorem dX9_init_52 : decode cX9_init 52 = .ok (.putfield 30, 3) := by decide +kernel
theorem dX9_init_55 : decode cX9_init 55 = .ok (.aload_n 0, 1) := by decide +kernel
theorem dX9_init_56 : decode cX9_init 56 = .ok (.bipush 6, 2) := by decide +kernel
theorem dX9_init_58 : decode cX9_init 58 = .ok (.newarray .int, 2) := by decide +kernel
theorem dX9_init_60 : decode cX9_init 60 = .ok (.putfield 33, 3) := by decide +kernel
theorem dX9_init_63 : decode cX9_init 63 = .ok (.aload_n 0, 1) := by decide +kernel
theorem dX9_init_64 : decode cX9_init 64 = .ok (.bipush 6, 2) := by decide +kernel
theorem dX9_init_66 : decode cX9_init 66 = .ok (.newarray .int, 2) := by decide +kernel
theorem dX9_init_68 : decode cX9_init 68 = .ok (.putfield 36, 3) := by decide +kernel
theorem dX9_init_71 : decode cX9_init 71 = .ok (.aload_n 0, 1) := by decide +kernel
theorem dX9_init_72 : decode cX9_init 72 = .ok (.bipush 6, 2) := by decide +kernel
theorem dX9_init_74 : decode cX9_init 74 = .ok (.newarray .boolean, 2) := by decide +kernel
theorem dX9_init_76 : decode cX9_init 76 = .ok (.putfield 39, 3) := by decide +kernel
theorem dX9_init_79 : decode cX9_init 79 = .ok (.aload_n 0, 1) := by decide +kernel
theorem dX9_init_80 : decode cX9_init 80 = .ok (.iconst 4, 1) := by decide +kernel
theorem dX9_init_81 : decode cX9_init 81 = .ok (.newarray .int, 2) := by decide +kernel
theorem dX9_init_83 : decode cX9_init 83 = .ok (.putfield 42, 3) := by decide +kernel
theorem dX9_init_86 : decode cX9_init 86 = .ok (.aload_n 0, 1) := by decide +kernel
theorem dX9_init_87 : decode cX9_init 87 = .ok (.iconst 4, 1) := by decide +kernel
theorem dX9_init_88 : decode cX9_init 88 = .ok (.newarray .int, 2) := by decide +kernel
theorem dX9_init_90 : decode cX9_init 90 = .ok (.putfield 45, 3) := by decide +kernel
theorem dX9_init_93 : decode cX9_init 93 = .ok (.aload_n 0, 1) := by decide +kernel
theorem dX9_init_94 : decode cX9_init 94 = .ok (.bipush 61, 2) := by decide +kernel
theorem dX9_init_96 : decode cX9_init 96 = .ok (.newarray .int, 2) := by decide +kernel
theorem dX9_init_98 : decode cX9_init 98 = .ok (.putfield 48, 3) := by decide +kernel
theorem dX9_init_101 : decode cX9_init 101 = .ok (.aload_n 0, 1) := by decide +kernel
theorem dX9_init_102 : decode cX9_init 102 = .ok (.sipush 600, 3) := by decide +kernel
theorem dX9_init_105 : decode cX9_init 105 = .ok (.newarray .int, 2) := by decide +kernel
theorem dX9_init_107 : decode cX9_init 107 = .ok (.putfield 51, 3) := by decide +kernel
theorem dX9_init_110 : decode cX9_init 110 = .ok (.aload_n 0, 1) := by decide +kernel
theorem dX9_init_111 : decode cX9_init 111 = .ok (.sipush 18000, 3) := by decide +kernel
theorem dX9_init_114 : decode cX9_init 114 = .ok (.newarray .boolean, 2) := by decide +kernel
theorem dX9_init_116 : decode cX9_init 116 = .ok (.putfield 54, 3) := by decide +kernel
theorem dX9_init_119 : decode cX9_init 119 = .ok (.aload_n 0, 1) := by decide +kernel
theorem dX9_init_120 : decode cX9_init 120 = .ok (.bipush 60, 2) := by decide +kernel
theorem dX9_init_122 : decode cX9_init 122 = .ok (.newarray .int, 2) := by decide +kernel
theorem dX9_init_124 : decode cX9_init 124 = .ok (.putfield 57, 3) := by decide +kernel
theorem dX9_init_127 : decode cX9_init 127 = .ok (.aload_n 0, 1) := by decide +kernel
theorem dX9_init_128 : decode cX9_init 128 = .ok (.bipush 61, 2) := by decide +kernel
theorem dX9_init_130 : decode cX9_init 130 = .ok (.newarray .int, 2) := by decide +kernel
theorem dX9_init_132 : decode cX9_init 132 = .ok (.putfield 60, 3) := by decide +kernel
theorem dX9_init_135 : decode cX9_init 135 = .ok (.aload_n 0, 1) := by decide +kernel
theorem dX9_init_136 : decode cX9_init 136 = .ok (.bipush 62, 2) := by decide +kernel
theorem dX9_init_138 : decode cX9_init 138 = .ok (.newarray .int, 2) := by decide +kernel
theorem dX9_init_140 : decode cX9_init 140 = .ok (.putfield 63, 3) := by decide +kernel
theorem dX9_init_143 : decode cX9_init 143 = .ok (.aload_n 0, 1) := by decide +kernel
theorem dX9_init_144 : decode cX9_init 144 = .ok (.sipush 3700, 3) := by decide +kernel
theorem dX9_init_147 : decode cX9_init 147 = .ok (.newarray .int, 2) := by decide +kernel
theorem dX9_init_149 : decode cX9_init 149 = .ok (.putfield 66, 3) := by decide +kernel
theorem dX9_init_152 : decode cX9_init 152 = .ok (.aload_n 0, 1) := by decide +kernel
theorem dX9_init_153 : decode cX9_init 153 = .ok (.bipush 60, 2) := by decide +kernel
theorem dX9_init_155 : decode cX9_init 155 = .ok (.newarray .boolean, 2) := by decide +kernel
theorem dX9_init_157 : decode cX9_init 157 = .ok (.putfield 69, 3) := by decide +kernel
theorem dX9_init_160 : decode cX9_init 160 = .ok (.return_, 1) := by decide +kernel
theorem dX9_thrown_0 : decode cX9_thrown 0 = .ok (.aload_n 0, 1) := by decide +kernel
theorem dX9_thrown_1 : decode cX9_thrown 1 = .ok (.getfield 72, 3) := by decide +kernel
theorem dX9_thrown_4 : decode cX9_thrown 4 = .ok (.ireturn, 1) := by decide +kernel
theorem dX9_refuse_0 : decode cX9_refuse 0 = .ok (.aload_n 0, 1) := by decide +kernel
theorem dX9_refuse_1 : decode cX9_refuse 1 = .ok (.iload_n 1, 1) := by decide +kernel
theorem dX9_refuse_2 : decode cX9_refuse 2 = .ok (.putfield 72, 3) := by decide +kernel
theorem dX9_refuse_5 : decode cX9_refuse 5 = .ok (.iconst 0, 1) := by decide +kernel
theorem dX9_refuse_6 : decode cX9_refuse 6 = .ok (.ireturn, 1) := by decide +kernel
theorem dX9_come_0 : decode cX9_come 0 = .ok (.bipush 24, 2) := by decide +kernel
theorem dX9_come_2 : decode cX9_come 2 = .ok (.istore_n 2, 1) := by decide +kernel
theorem dX9_come_3 : decode cX9_come 3 = .ok (.iload_n 2, 1) := by decide +kernel
theorem dX9_come_4 : decode cX9_come 4 = .ok (.ifCond .lt 35, 3) := by decide +kernel
theorem dX9_come_7 : decode cX9_come 7 = .ok (.aload_n 0, 1) := by decide +kernel
theorem dX9_come_8 : decode cX9_come 8 = .ok (.getfield 7, 3) := by decide +kernel
theorem dX9_come_11 : decode cX9_come 11 = .ok (.aload_n 0, 1) := by decide +kernel
theorem dX9_come_12 : decode cX9_come 12 = .ok (.getfield 75, 3) := by decide +kernel
theorem dX9_come_15 : decode cX9_come 15 = .ok (.iload_n 1, 1) := by decide +kernel
theorem dX9_come_16 : decode cX9_come 16 = .ok (.iload_n 2, 1) := by decide +kernel
theorem dX9_come_17 : decode cX9_come 17 = .ok (.iushr, 1) := by decide +kernel
theorem dX9_come_18 : decode cX9_come 18 = .ok (.sipush 255, 3) := by decide +kernel
theorem dX9_come_21 : decode cX9_come 21 = .ok (.iand, 1) := by decide +kernel
theorem dX9_come_22 : decode cX9_come 22 = .ok (.iastore, 1) := by decide +kernel
theorem dX9_come_23 : decode cX9_come 23 = .ok (.aload_n 0, 1) := by decide +kernel
theorem dX9_come_24 : decode cX9_come 24 = .ok (.dup, 1) := by decide +kernel
theorem dX9_come_25 : decode cX9_come 25 = .ok (.getfield 75, 3) := by decide +kernel
theorem dX9_come_28 : decode cX9_come 28 = .ok (.iconst 1, 1) := by decide +kernel
theorem dX9_come_29 : decode cX9_come 29 = .ok (.iadd, 1) := by decide +kernel
theorem dX9_come_30 : decode cX9_come 30 = .ok (.putfield 75, 3) := by decide +kernel
theorem dX9_come_33 : decode cX9_come 33 = .ok (.iinc 2 (-8), 3) := by decide +kernel
theorem dX9_come_36 : decode cX9_come 36 = .ok (.goto (-33), 3) := by decide +kernel
theorem dX9_come_39 : decode cX9_come 39 = .ok (.return_, 1) := by decide +kernel
theorem dX9_feed_0 : decode cX9_feed 0 = .ok (.aload_n 0, 1) := by decide +kernel
theorem dX9_feed_1 : decode cX9_feed 1 = .ok (.iconst 0, 1) := by decide +kernel
theorem dX9_feed_2 : decode cX9_feed 2 = .ok (.putfield 72, 3) := by decide +kernel
theorem dX9_feed_5 : decode cX9_feed 5 = .ok (.aload_n 0, 1) := by decide +kernel
theorem dX9_feed_6 : decode cX9_feed 6 = .ok (.getfield 75, 3) := by decide +kernel
theorem dX9_feed_9 : decode cX9_feed 9 = .ok (.bipush 20, 2) := by decide +kernel
theorem dX9_feed_11 : decode cX9_feed 11 = .ok (.iadd, 1) := by decide +kernel
theorem dX9_feed_12 : decode cX9_feed 12 = .ok (.sipush 500, 3) := by decide +kernel
theorem dX9_feed_15 : decode cX9_feed 15 = .ok (.if_icmp .le 5, 3) := by decide +kernel
theorem dX9_feed_18 : decode cX9_feed 18 = .ok (.iconst (-1), 1) := by decide +kernel
theorem dX9_feed_19 : decode cX9_feed 19 = .ok (.ireturn, 1) := by decide +kernel
theorem dX9_feed_20 : decode cX9_feed 20 = .ok (.aload_n 0, 1) := by decide +kernel
theorem dX9_feed_21 : decode cX9_feed 21 = .ok (.iload_n 1, 1) := by decide +kernel
theorem dX9_feed_22 : decode cX9_feed 22 = .ok (.invokevirtual 78, 3) := by decide +kernel
theorem dX9_feed_25 : decode cX9_feed 25 = .ok (.aload_n 0, 1) := by decide +kernel
theorem dX9_feed_26 : decode cX9_feed 26 = .ok (.iload_n 2, 1) := by decide +kernel
theorem dX9_feed_27 : decode cX9_feed 27 = .ok (.invokevirtual 78, 3) := by decide +kernel
theorem dX9_feed_30 : decode cX9_feed 30 = .ok (.aload_n 0, 1) := by decide +kernel
theorem dX9_feed_31 : decode cX9_feed 31 = .ok (.iload_n 3, 1) := by decide +kernel
theorem dX9_feed_32 : decode cX9_feed 32 = .ok (.invokevirtual 78, 3) := by decide +kernel
theorem dX9_feed_35 : decode cX9_feed 35 = .ok (.aload_n 0, 1) := by decide +kernel
theorem dX9_feed_36 : decode cX9_feed 36 = .ok (.iload 4, 2) := by decide +kernel
theorem dX9_feed_38 : decode cX9_feed 38 = .ok (.invokevirtual 78, 3) := by decide +kernel
theorem dX9_feed_41 : decode cX9_feed 41 = .ok (.aload_n 0, 1) := by decide +kernel
theorem dX9_feed_42 : decode cX9_feed 42 = .ok (.iload 5, 2) := by decide +kernel
theorem dX9_feed_44 : decode cX9_feed 44 = .ok (.invokevirtual 78, 3) := by decide +kernel
theorem dX9_feed_47 : decode cX9_feed 47 = .ok (.aload_n 0, 1) := by decide +kernel
theorem dX9_feed_48 : decode cX9_feed 48 = .ok (.getfield 75, 3) := by decide +kernel
theorem dX9_feed_51 : decode cX9_feed 51 = .ok (.ireturn, 1) := by decide +kernel
theorem dX9_end_0 : decode cX9_end 0 = .ok (.aload_n 0, 1) := by decide +kernel
theorem dX9_end_1 : decode cX9_end 1 = .ok (.iconst 0, 1) := by decide +kernel
theorem dX9_end_2 : decode cX9_end 2 = .ok (.putfield 72, 3) := by decide +kernel
theorem dX9_end_5 : decode cX9_end 5 = .ok (.iload_n 1, 1) := by decide +kernel
theorem dX9_end_6 : decode cX9_end 6 = .ok (.ifCond .lt 11, 3) := by decide +kernel
theorem dX9_end_9 : decode cX9_end 9 = .ok (.iload_n 1, 1) := by decide +kernel
theorem dX9_end_10 : decode cX9_end 10 = .ok (.aload_n 0, 1) := by decide +kernel
theorem dX9_end_11 : decode cX9_end 11 = .ok (.getfield 75, 3) := by decide +kernel
theorem dX9_end_14 : decode cX9_end 14 = .ok (.if_icmp .le 5, 3) := by decide +kernel
theorem dX9_end_17 : decode cX9_end 17 = .ok (.iconst 0, 1) := by decide +kernel
theorem dX9_end_18 : decode cX9_end 18 = .ok (.ireturn, 1) := by decide +kernel
theorem dX9_end_19 : decode cX9_end 19 = .ok (.aload_n 0, 1) := by decide +kernel
theorem dX9_end_20 : decode cX9_end 20 = .ok (.iload_n 1, 1) := by decide +kernel
theorem dX9_end_21 : decode cX9_end 21 = .ok (.putfield 75, 3) := by decide +kernel
theorem dX9_end_24 : decode cX9_end 24 = .ok (.iconst 1, 1) := by decide +kernel
theorem dX9_end_25 : decode cX9_end 25 = .ok (.ireturn, 1) := by decide +kernel
theorem dX9_isIn_0 : decode cX9_isIn 0 = .ok (.lload_n 1, 1) := by decide +kernel
theorem dX9_isIn_1 : decode cX9_isIn 1 = .ok (.aload_n 0, 1) := by decide +kernel
theorem dX9_isIn_2 : decode cX9_isIn 2 = .ok (.getfield 20, 3) := by decide +kernel
theorem dX9_isIn_5 : decode cX9_isIn 5 = .ok (.i2l, 1) := by decide +kernel
theorem dX9_isIn_6 : decode cX9_isIn 6 = .ok (.lcmp, 1) := by decide +kernel
theorem dX9_isIn_7 : decode cX9_isIn 7 = .ok (.ifCond .lt 22, 3) := by decide +kernel
theorem dX9_isIn_10 : decode cX9_isIn 10 = .ok (.lload_n 1, 1) := by decide +kernel
theorem dX9_isIn_11 : decode cX9_isIn 11 = .ok (.aload_n 0, 1) := by decide +kernel
theorem dX9_isIn_12 : decode cX9_isIn 12 = .ok (.getfield 20, 3) := by decide +kernel
theorem dX9_isIn_15 : decode cX9_isIn 15 = .ok (.aload_n 0, 1) := by decide +kernel
theorem dX9_isIn_16 : decode cX9_isIn 16 = .ok (.getfield 17, 3) := by decide +kernel
theorem dX9_isIn_19 : decode cX9_isIn 19 = .ok (.iadd, 1) := by decide +kernel
theorem dX9_isIn_20 : decode cX9_isIn 20 = .ok (.i2l, 1) := by decide +kernel
theorem dX9_isIn_21 : decode cX9_isIn 21 = .ok (.lcmp, 1) := by decide +kernel
theorem dX9_isIn_22 : decode cX9_isIn 22 = .ok (.ifCond .ge 7, 3) := by decide +kernel
theorem dX9_isIn_25 : decode cX9_isIn 25 = .ok (.iconst 1, 1) := by decide +kernel
theorem dX9_isIn_26 : decode cX9_isIn 26 = .ok (.goto 4, 3) := by decide +kernel
theorem dX9_isIn_29 : decode cX9_isIn 29 = .ok (.iconst 0, 1) := by decide +kernel
theorem dX9_isIn_30 : decode cX9_isIn 30 = .ok (.ireturn, 1) := by decide +kernel
theorem dX9_rest_0 : decode cX9_rest 0 = .ok (.lload_n 1, 1) := by decide +kernel
theorem dX9_rest_1 : decode cX9_rest 1 = .ok (.aload_n 0, 1) := by decide +kernel
theorem dX9_rest_2 : decode cX9_rest 2 = .ok (.getfield 13, 3) := by decide +kernel
theorem dX9_rest_5 : decode cX9_rest 5 = .ok (.i2l, 1) := by decide +kernel
theorem dX9_rest_6 : decode cX9_rest 6 = .ok (.lrem, 1) := by decide +kernel
theorem dX9_rest_7 : decode cX9_rest 7 = .ok (.lstore_n 3, 1) := by decide +kernel
theorem dX9_rest_8 : decode cX9_rest 8 = .ok (.lload_n 3, 1) := by decide +kernel
theorem dX9_rest_9 : decode cX9_rest 9 = .ok (.lconst 0, 1) := by decide +kernel
theorem dX9_rest_10 : decode cX9_rest 10 = .ok (.lcmp, 1) := by decide +kernel
theorem dX9_rest_11 : decode cX9_rest 11 = .ok (.ifCond .ge 13, 3) := by decide +kernel
theorem dX9_rest_14 : decode cX9_rest 14 = .ok (.lload_n 3, 1) := by decide +kernel
theorem dX9_rest_15 : decode cX9_rest 15 = .ok (.aload_n 0, 1) := by decide +kernel
theorem dX9_rest_16 : decode cX9_rest 16 = .ok (.getfield 13, 3) := by decide +kernel
theorem dX9_rest_19 : decode cX9_rest 19 = .ok (.i2l, 1) := by decide +kernel
theorem dX9_rest_20 : decode cX9_rest 20 = .ok (.ladd, 1) := by decide +kernel
theorem dX9_rest_21 : decode cX9_rest 21 = .ok (.goto 4, 3) := by decide +kernel
theorem dX9_rest_24 : decode cX9_rest 24 = .ok (.lload_n 3, 1) := by decide +kernel
theorem dX9_rest_25 : decode cX9_rest 25 = .ok (.l2i, 1) := by decide +kernel
theorem dX9_rest_26 : decode cX9_rest 26 = .ok (.ireturn, 1) := by decide +kernel
theorem dX9_threes_0 : decode cX9_threes 0 = .ok (.iconst 0, 1) := by decide +kernel
theorem dX9_threes_1 : decode cX9_threes 1 = .ok (.istore 5, 2) := by decide +kernel
theorem dX9_threes_3 : decode cX9_threes 3 = .ok (.iconst 1, 1) := by decide +kernel
theorem dX9_threes_4 : decode cX9_threes 4 = .ok (.istore 6, 2) := by decide +kernel
theorem dX9_threes_6 : decode cX9_threes 6 = .ok (.iconst 0, 1) := by decide +kernel
theorem dX9_threes_7 : decode cX9_threes 7 = .ok (.istore 7, 2) := by decide +kernel
theorem dX9_threes_9 : decode cX9_threes 9 = .ok (.iload 7, 2) := by decide +kernel
theorem dX9_threes_11 : decode cX9_threes 11 = .ok (.iconst 3, 1) := by decide +kernel
theorem dX9_threes_12 : decode cX9_threes 12 = .ok (.if_icmp .ge 59, 3) := by decide +kernel
theorem dX9_threes_15 : decode cX9_threes 15 = .ok (.iload_n 1, 1) := by decide +kernel
theorem dX9_threes_16 : decode cX9_threes 16 = .ok (.iload_n 2, 1) := by decide +kernel
theorem dX9_threes_17 : decode cX9_threes 17 = .ok (.iload 6, 2) := by decide +kernel
theorem dX9_threes_19 : decode cX9_threes 19 = .ok (.idiv, 1) := by decide +kernel
theorem dX9_threes_20 : decode cX9_threes 20 = .ok (.iconst 3, 1) := by decide +kernel
theorem dX9_threes_21 : decode cX9_threes 21 = .ok (.irem, 1) := by decide +kernel
theorem dX9_threes_22 : decode cX9_threes 22 = .ok (.imul, 1) := by decide +kernel
theorem dX9_threes_23 : decode cX9_threes 23 = .ok (.iload_n 3, 1) := by decide +kernel
theorem dX9_threes_24 : decode cX9_threes 24 = .ok (.iload 4, 2) := by decide +kernel
theorem dX9_threes_26 : decode cX9_threes 26 = .ok (.iload 6, 2) := by decide +kernel
theorem dX9_threes_28 : decode cX9_threes 28 = .ok (.idiv, 1) := by decide +kernel
theorem dX9_threes_29 : decode cX9_threes 29 = .ok (.iconst 3, 1) := by decide +kernel
theorem dX9_threes_30 : decode cX9_threes 30 = .ok (.irem, 1) := by decide +kernel
theorem dX9_threes_31 : decode cX9_threes 31 = .ok (.imul, 1) := by decide +kernel
theorem dX9_threes_32 : decode cX9_threes 32 = .ok (.iadd, 1) := by decide +kernel
theorem dX9_threes_33 : decode cX9_threes 33 = .ok (.iconst 3, 1) := by decide +kernel
theorem dX9_threes_34 : decode cX9_threes 34 = .ok (.irem, 1) := by decide +kernel
theorem dX9_threes_35 : decode cX9_threes 35 = .ok (.istore 8, 2) := by decide +kernel
theorem dX9_threes_37 : decode cX9_threes 37 = .ok (.iload 5, 2) := by decide +kernel
theorem dX9_threes_39 : decode cX9_threes 39 = .ok (.iload 6, 2) := by decide +kernel
theorem dX9_threes_41 : decode cX9_threes 41 = .ok (.iload 8, 2) := by decide +kernel
theorem dX9_threes_43 : decode cX9_threes 43 = .ok (.ifCond .ge 10, 3) := by decide +kernel
theorem dX9_threes_46 : decode cX9_threes 46 = .ok (.iload 8, 2) := by decide +kernel
theorem dX9_threes_48 : decode cX9_threes 48 = .ok (.iconst 3, 1) := by decide +kernel
theorem dX9_threes_49 : decode cX9_threes 49 = .ok (.iadd, 1) := by decide +kernel
theorem dX9_threes_50 : decode cX9_threes 50 = .ok (.goto 5, 3) := by decide +kernel
theorem dX9_threes_53 : decode cX9_threes 53 = .ok (.iload 8, 2) := by decide +kernel
theorem dX9_threes_55 : decode cX9_threes 55 = .ok (.imul, 1) := by decide +kernel
theorem dX9_threes_56 : decode cX9_threes 56 = .ok (.iadd, 1) := by decide +kernel
theorem dX9_threes_57 : decode cX9_threes 57 = .ok (.istore 5, 2) := by decide +kernel
theorem dX9_threes_59 : decode cX9_threes 59 = .ok (.iconst 3, 1) := by decide +kernel
theorem dX9_threes_60 : decode cX9_threes 60 = .ok (.iload 6, 2) := by decide +kernel
theorem dX9_threes_62 : decode cX9_threes 62 = .ok (.imul, 1) := by decide +kernel
theorem dX9_threes_63 : decode cX9_threes 63 = .ok (.istore 6, 2) := by decide +kernel
theorem dX9_threes_65 : decode cX9_threes 65 = .ok (.iinc 7 1, 3) := by decide +kernel
theorem dX9_threes_68 : decode cX9_threes 68 = .ok (.goto (-59), 3) := by decide +kernel
theorem dX9_threes_71 : decode cX9_threes 71 = .ok (.iload 5, 2) := by decide +kernel
theorem dX9_threes_73 : decode cX9_threes 73 = .ok (.ireturn, 1) := by decide +kernel
theorem dX9_mixed_0 : decode cX9_mixed 0 = .ok (.aload_n 0, 1) := by decide +kernel
theorem dX9_mixed_1 : decode cX9_mixed 1 = .ok (.getfield 82, 3) := by decide +kernel
theorem dX9_mixed_4 : decode cX9_mixed 4 = .ok (.ifCond .ne 12, 3) := by decide +kernel
theorem dX9_mixed_7 : decode cX9_mixed 7 = .ok (.iload_n 1, 1) := by decide +kernel
theorem dX9_mixed_8 : decode cX9_mixed 8 = .ok (.iload_n 2, 1) := by decide +kernel
theorem dX9_mixed_9 : decode cX9_mixed 9 = .ok (.imul, 1) := by decide +kernel
theorem dX9_mixed_10 : decode cX9_mixed 10 = .ok (.iload_n 3, 1) := by decide +kernel
theorem dX9_mixed_11 : decode cX9_mixed 11 = .ok (.iload 4, 2) := by decide +kernel
theorem dX9_mixed_13 : decode cX9_mixed 13 = .ok (.imul, 1) := by decide +kernel
theorem dX9_mixed_14 : decode cX9_mixed 14 = .ok (.iadd, 1) := by decide +kernel
theorem dX9_mixed_15 : decode cX9_mixed 15 = .ok (.ireturn, 1) := by decide +kernel
theorem dX9_mixed_16 : decode cX9_mixed 16 = .ok (.aload_n 0, 1) := by decide +kernel
theorem dX9_mixed_17 : decode cX9_mixed 17 = .ok (.getfield 82, 3) := by decide +kernel
theorem dX9_mixed_20 : decode cX9_mixed 20 = .ok (.iconst 1, 1) := by decide +kernel
theorem dX9_mixed_21 : decode cX9_mixed 21 = .ok (.if_icmp .ne 22, 3) := by decide +kernel
theorem dX9_mixed_24 : decode cX9_mixed 24 = .ok (.aload_n 0, 1) := by decide +kernel
theorem dX9_mixed_25 : decode cX9_mixed 25 = .ok (.iload_n 1, 1) := by decide +kernel
theorem dX9_mixed_26 : decode cX9_mixed 26 = .ok (.i2l, 1) := by decide +kernel
theorem dX9_mixed_27 : decode cX9_mixed 27 = .ok (.iload_n 2, 1) := by decide +kernel
theorem dX9_mixed_28 : decode cX9_mixed 28 = .ok (.i2l, 1) := by decide +kernel
theorem dX9_mixed_29 : decode cX9_mixed 29 = .ok (.lmul, 1) := by decide +kernel
theorem dX9_mixed_30 : decode cX9_mixed 30 = .ok (.iload_n 3, 1) := by decide +kernel
theorem dX9_mixed_31 : decode cX9_mixed 31 = .ok (.i2l, 1) := by decide +kernel
theorem dX9_mixed_32 : decode cX9_mixed 32 = .ok (.iload 4, 2) := by decide +kernel
theorem dX9_mixed_34 : decode cX9_mixed 34 = .ok (.i2l, 1) := by decide +kernel
theorem dX9_mixed_35 : decode cX9_mixed 35 = .ok (.lmul, 1) := by decide +kernel
theorem dX9_mixed_36 : decode cX9_mixed 36 = .ok (.ladd, 1) := by decide +kernel
theorem dX9_mixed_37 : decode cX9_mixed 37 = .ok (.invokevirtual 85, 3) := by decide +kernel
theorem dX9_mixed_40 : decode cX9_mixed 40 = .ok (.goto 12, 3) := by decide +kernel
theorem dX9_mixed_43 : decode cX9_mixed 43 = .ok (.aload_n 0, 1) := by decide +kernel
theorem dX9_mixed_44 : decode cX9_mixed 44 = .ok (.iload_n 1, 1) := by decide +kernel
theorem dX9_mixed_45 : decode cX9_mixed 45 = .ok (.iload_n 2, 1) := by decide +kernel
theorem dX9_mixed_46 : decode cX9_mixed 46 = .ok (.iload_n 3, 1) := by decide +kernel
theorem dX9_mixed_47 : decode cX9_mixed 47 = .ok (.iload 4, 2) := by decide +kernel
theorem dX9_mixed_49 : decode cX9_mixed 49 = .ok (.invokevirtual 89, 3) := by decide +kernel
theorem dX9_mixed_52 : decode cX9_mixed 52 = .ok (.ireturn, 1) := by decide +kernel
theorem dX9_sum_0 : decode cX9_sum 0 = .ok (.aload_n 0, 1) := by decide +kernel
theorem dX9_sum_1 : decode cX9_sum 1 = .ok (.iconst 1, 1) := by decide +kernel
theorem dX9_sum_2 : decode cX9_sum 2 = .ok (.iload_n 1, 1) := by decide +kernel
theorem dX9_sum_3 : decode cX9_sum 3 = .ok (.iconst 1, 1) := by decide +kernel
theorem dX9_sum_4 : decode cX9_sum 4 = .ok (.iload_n 2, 1) := by decide +kernel
theorem dX9_sum_5 : decode cX9_sum 5 = .ok (.invokevirtual 93, 3) := by decide +kernel
theorem dX9_sum_8 : decode cX9_sum 8 = .ok (.ireturn, 1) := by decide +kernel
theorem dX9_difference_0 : decode cX9_difference 0 = .ok (.aload_n 0, 1) := by decide +kernel
theorem dX9_difference_1 : decode cX9_difference 1 = .ok (.iconst 1, 1) := by decide +kernel
theorem dX9_difference_2 : decode cX9_difference 2 = .ok (.iload_n 1, 1) := by decide +kernel
theorem dX9_difference_3 : decode cX9_difference 3 = .ok (.iconst (-1), 1) := by decide +kernel
theorem dX9_difference_4 : decode cX9_difference 4 = .ok (.iload_n 2, 1) := by decide +kernel
theorem dX9_difference_5 : decode cX9_difference 5 = .ok (.invokevirtual 93, 3) := by decide +kernel
theorem dX9_difference_8 : decode cX9_difference 8 = .ok (.ireturn, 1) := by decide +kernel
theorem dX9_product_0 : decode cX9_product 0 = .ok (.aload_n 0, 1) := by decide +kernel
theorem dX9_product_1 : decode cX9_product 1 = .ok (.getfield 82, 3) := by decide +kernel
theorem dX9_product_4 : decode cX9_product 4 = .ok (.ifCond .ne 7, 3) := by decide +kernel
theorem dX9_product_7 : decode cX9_product 7 = .ok (.iload_n 1, 1) := by decide +kernel
theorem dX9_product_8 : decode cX9_product 8 = .ok (.iload_n 2, 1) := by decide +kernel
theorem dX9_product_9 : decode cX9_product 9 = .ok (.imul, 1) := by decide +kernel
theorem dX9_product_10 : decode cX9_product 10 = .ok (.ireturn, 1) := by decide +kernel
theorem dX9_product_11 : decode cX9_product 11 = .ok (.aload_n 0, 1) := by decide +kernel
theorem dX9_product_12 : decode cX9_product 12 = .ok (.getfield 82, 3) := by decide +kernel
theorem dX9_product_15 : decode cX9_product 15 = .ok (.iconst 1, 1) := by decide +kernel
theorem dX9_product_16 : decode cX9_product 16 = .ok (.if_icmp .ne 13, 3) := by decide +kernel
theorem dX9_product_19 : decode cX9_product 19 = .ok (.aload_n 0, 1) := by decide +kernel
theorem dX9_product_20 : decode cX9_product 20 = .ok (.iload_n 1, 1) := by decide +kernel
theorem dX9_product_21 : decode cX9_product 21 = .ok (.i2l, 1) := by decide +kernel
theorem dX9_product_22 : decode cX9_product 22 = .ok (.iload_n 2, 1) := by decide +kernel
theorem dX9_product_23 : decode cX9_product 23 = .ok (.i2l, 1) := by decide +kernel
theorem dX9_product_24 : decode cX9_product 24 = .ok (.lmul, 1) := by decide +kernel
theorem dX9_product_25 : decode cX9_product 25 = .ok (.invokevirtual 85, 3) := by decide +kernel
theorem dX9_product_28 : decode cX9_product 28 = .ok (.ireturn, 1) := by decide +kernel
theorem dX9_product_29 : decode cX9_product 29 = .ok (.iconst 0, 1) := by decide +kernel
theorem dX9_product_30 : decode cX9_product 30 = .ok (.istore_n 3, 1) := by decide +kernel
theorem dX9_product_31 : decode cX9_product 31 = .ok (.iconst 1, 1) := by decide +kernel
theorem dX9_product_32 : decode cX9_product 32 = .ok (.istore 4, 2) := by decide +kernel
theorem dX9_product_34 : decode cX9_product 34 = .ok (.iconst 0, 1) := by decide +kernel
theorem dX9_product_35 : decode cX9_product 35 = .ok (.istore 5, 2) := by decide +kernel
theorem dX9_product_37 : decode cX9_product 37 = .ok (.iload 5, 2) := by decide +kernel
theorem dX9_product_39 : decode cX9_product 39 = .ok (.iconst 3, 1) := by decide +kernel
theorem dX9_product_40 : decode cX9_product 40 = .ok (.if_icmp .ge 36, 3) := by decide +kernel
theorem dX9_product_43 : decode cX9_product 43 = .ok (.iload_n 3, 1) := by decide +kernel
theorem dX9_product_44 : decode cX9_product 44 = .ok (.iload 4, 2) := by decide +kernel
theorem dX9_product_46 : decode cX9_product 46 = .ok (.iload_n 1, 1) := by decide +kernel
theorem dX9_product_47 : decode cX9_product 47 = .ok (.iload 4, 2) := by decide +kernel
theorem dX9_product_49 : decode cX9_product 49 = .ok (.idiv, 1) := by decide +kernel
theorem dX9_product_50 : decode cX9_product 50 = .ok (.iconst 3, 1) := by decide +kernel
theorem dX9_product_51 : decode cX9_product 51 = .ok (.irem, 1) := by decide +kernel
theorem dX9_product_52 : decode cX9_product 52 = .ok (.iload_n 2, 1) := by decide +kernel
theorem dX9_product_53 : decode cX9_product 53 = .ok (.iload 4, 2) := by decide +kernel
theorem dX9_product_55 : decode cX9_product 55 = .ok (.idiv, 1) := by decide +kernel
theorem dX9_product_56 : decode cX9_product 56 = .ok (.iconst 3, 1) := by decide +kernel
theorem dX9_product_57 : decode cX9_product 57 = .ok (.irem, 1) := by decide +kernel
theorem dX9_product_58 : decode cX9_product 58 = .ok (.imul, 1) := by decide +kernel
theorem dX9_product_59 : decode cX9_product 59 = .ok (.iconst 3, 1) := by decide +kernel
theorem dX9_product_60 : decode cX9_product 60 = .ok (.irem, 1) := by decide +kernel
theorem dX9_product_61 : decode cX9_product 61 = .ok (.imul, 1) := by decide +kernel
theorem dX9_product_62 : decode cX9_product 62 = .ok (.iadd, 1) := by decide +kernel
theorem dX9_product_63 : decode cX9_product 63 = .ok (.istore_n 3, 1) := by decide +kernel
theorem dX9_product_64 : decode cX9_product 64 = .ok (.iconst 3, 1) := by decide +kernel
theorem dX9_product_65 : decode cX9_product 65 = .ok (.iload 4, 2) := by decide +kernel
theorem dX9_product_67 : decode cX9_product 67 = .ok (.imul, 1) := by decide +kernel
theorem dX9_product_68 : decode cX9_product 68 = .ok (.istore 4, 2) := by decide +kernel
theorem dX9_product_70 : decode cX9_product 70 = .ok (.iinc 5 1, 3) := by decide +kernel
theorem dX9_product_73 : decode cX9_product 73 = .ok (.goto (-36), 3) := by decide +kernel
theorem dX9_product_76 : decode cX9_product 76 = .ok (.iload_n 3, 1) := by decide +kernel
theorem dX9_product_77 : decode cX9_product 77 = .ok (.ireturn, 1) := by decide +kernel
theorem dX9_ground_0 : decode cX9_ground 0 = .ok (.aload_n 0, 1) := by decide +kernel
theorem dX9_ground_1 : decode cX9_ground 1 = .ok (.iconst 0, 1) := by decide +kernel
theorem dX9_ground_2 : decode cX9_ground 2 = .ok (.putfield 72, 3) := by decide +kernel
theorem dX9_ground_5 : decode cX9_ground 5 = .ok (.iload_n 1, 1) := by decide +kernel
theorem dX9_ground_6 : decode cX9_ground 6 = .ok (.ifCond .lt 37, 3) := by decide +kernel
theorem dX9_ground_9 : decode cX9_ground 9 = .ok (.iload_n 1, 1) := by decide +kernel
theorem dX9_ground_10 : decode cX9_ground 10 = .ok (.iconst 2, 1) := by decide +kernel
theorem dX9_ground_11 : decode cX9_ground 11 = .ok (.if_icmp .gt 32, 3) := by decide +kernel
theorem dX9_ground_14 : decode cX9_ground 14 = .ok (.iload_n 2, 1) := by decide +kernel
theorem dX9_ground_15 : decode cX9_ground 15 = .ok (.iload_n 1, 1) := by decide +kernel
theorem dX9_ground_16 : decode cX9_ground 16 = .ok (.iconst 1, 1) := by decide +kernel
theorem dX9_ground_17 : decode cX9_ground 17 = .ok (.if_icmp .ne 7, 3) := by decide +kernel
theorem dX9_ground_20 : decode cX9_ground 20 = .ok (.iconst 2, 1) := by decide +kernel
theorem dX9_ground_21 : decode cX9_ground 21 = .ok (.goto 4, 3) := by decide +kernel
theorem dX9_ground_24 : decode cX9_ground 24 = .ok (.iconst 1, 1) := by decide +kernel
theorem dX9_ground_25 : decode cX9_ground 25 = .ok (.if_icmp .lt 18, 3) := by decide +kernel
theorem dX9_ground_28 : decode cX9_ground 28 = .ok (.iload_n 2, 1) := by decide +kernel
theorem dX9_ground_29 : decode cX9_ground 29 = .ok (.iload_n 1, 1) := by decide +kernel
theorem dX9_ground_30 : decode cX9_ground 30 = .ok (.iconst 2, 1) := by decide +kernel
theorem dX9_ground_31 : decode cX9_ground 31 = .ok (.if_icmp .ne 7, 3) := by decide +kernel
theorem dX9_ground_34 : decode cX9_ground 34 = .ok (.iconst 3, 1) := by decide +kernel
theorem dX9_ground_35 : decode cX9_ground 35 = .ok (.goto 5, 3) := by decide +kernel
theorem dX9_ground_38 : decode cX9_ground 38 = .ok (.bipush 60, 2) := by decide +kernel
theorem dX9_ground_40 : decode cX9_ground 40 = .ok (.if_icmp .le 5, 3) := by decide +kernel
theorem dX9_ground_43 : decode cX9_ground 43 = .ok (.iconst 0, 1) := by decide +kernel
theorem dX9_ground_44 : decode cX9_ground 44 = .ok (.ireturn, 1) := by decide +kernel
theorem dX9_ground_45 : decode cX9_ground 45 = .ok (.aload_n 0, 1) := by decide +kernel
theorem dX9_ground_46 : decode cX9_ground 46 = .ok (.iload_n 1, 1) := by decide +kernel
theorem dX9_ground_47 : decode cX9_ground 47 = .ok (.putfield 82, 3) := by decide +kernel
theorem dX9_ground_50 : decode cX9_ground 50 = .ok (.aload_n 0, 1) := by decide +kernel
theorem dX9_ground_51 : decode cX9_ground 51 = .ok (.iload_n 2, 1) := by decide +kernel
theorem dX9_ground_52 : decode cX9_ground 52 = .ok (.putfield 13, 3) := by decide +kernel
theorem dX9_ground_55 : decode cX9_ground 55 = .ok (.aload_n 0, 1) := by decide +kernel
theorem dX9_ground_56 : decode cX9_ground 56 = .ok (.iload_n 1, 1) := by decide +kernel
theorem dX9_ground_57 : decode cX9_ground 57 = .ok (.iconst 2, 1) := by decide +kernel
theorem dX9_ground_58 : decode cX9_ground 58 = .ok (.if_icmp .ge 7, 3) := by decide +kernel
theorem dX9_ground_61 : decode cX9_ground 61 = .ok (.iload_n 2, 1) := by decide +kernel
theorem dX9_ground_62 : decode cX9_ground 62 = .ok (.goto 24, 3) := by decide +kernel
theorem dX9_ground_65 : decode cX9_ground 65 = .ok (.iload_n 2, 1) := by decide +kernel
theorem dX9_ground_66 : decode cX9_ground 66 = .ok (.iconst 1, 1) := by decide +kernel
theorem dX9_ground_67 : decode cX9_ground 67 = .ok (.if_icmp .ne 7, 3) := by decide +kernel
theorem dX9_ground_70 : decode cX9_ground 70 = .ok (.iconst 3, 1) := by decide +kernel
theorem dX9_ground_71 : decode cX9_ground 71 = .ok (.goto 15, 3) := by decide +kernel
theorem dX9_ground_74 : decode cX9_ground 74 = .ok (.iload_n 2, 1) := by decide +kernel
theorem dX9_ground_75 : decode cX9_ground 75 = .ok (.iconst 2, 1) := by decide +kernel
theorem dX9_ground_76 : decode cX9_ground 76 = .ok (.if_icmp .ne 8, 3) := by decide +kernel
theorem dX9_ground_79 : decode cX9_ground 79 = .ok (.bipush 9, 2) := by decide +kernel
theorem dX9_ground_81 : decode cX9_ground 81 = .ok (.goto 5, 3) := by decide +kernel
theorem dX9_ground_84 : decode cX9_ground 84 = .ok (.bipush 27, 2) := by decide +kernel
theorem dX9_ground_86 : decode cX9_ground 86 = .ok (.putfield 17, 3) := by decide +kernel
theorem dX9_ground_89 : decode cX9_ground 89 = .ok (.aload_n 0, 1) := by decide +kernel
theorem dX9_ground_90 : decode cX9_ground 90 = .ok (.iload_n 1, 1) := by decide +kernel
theorem dX9_ground_91 : decode cX9_ground 91 = .ok (.ifCond .ne 7, 3) := by decide +kernel
theorem dX9_ground_94 : decode cX9_ground 94 = .ok (.iconst 1, 1) := by decide +kernel
theorem dX9_ground_95 : decode cX9_ground 95 = .ok (.goto 4, 3) := by decide +kernel
theorem dX9_ground_98 : decode cX9_ground 98 = .ok (.iconst 0, 1) := by decide +kernel
theorem dX9_ground_99 : decode cX9_ground 99 = .ok (.putfield 20, 3) := by decide +kernel
theorem dX9_ground_102 : decode cX9_ground 102 = .ok (.aload_n 0, 1) := by decide +kernel
theorem dX9_ground_103 : decode cX9_ground 103 = .ok (.iconst 0, 1) := by decide +kernel
theorem dX9_ground_104 : decode cX9_ground 104 = .ok (.putfield 96, 3) := by decide +kernel
theorem dX9_ground_107 : decode cX9_ground 107 = .ok (.iconst 0, 1) := by decide +kernel
theorem dX9_ground_108 : decode cX9_ground 108 = .ok (.istore_n 3, 1) := by decide +kernel
theorem dX9_ground_109 : decode cX9_ground 109 = .ok (.iload_n 3, 1) := by decide +kernel
theorem dX9_ground_110 : decode cX9_ground 110 = .ok (.sipush 480, 3) := by decide +kernel
theorem dX9_ground_113 : decode cX9_ground 113 = .ok (.if_icmp .ge 16, 3) := by decide +kernel
theorem dX9_ground_116 : decode cX9_ground 116 = .ok (.aload_n 0, 1) := by decide +kernel
theorem dX9_ground_117 : decode cX9_ground 117 = .ok (.getfield 23, 3) := by decide +kernel
theorem dX9_ground_120 : decode cX9_ground 120 = .ok (.iload_n 3, 1) := by decide +kernel
theorem dX9_ground_121 : decode cX9_ground 121 = .ok (.iconst 0, 1) := by decide +kernel
theorem dX9_ground_122 : decode cX9_ground 122 = .ok (.bastore, 1) := by decide +kernel
theorem dX9_ground_123 : decode cX9_ground 123 = .ok (.iinc 3 1, 3) := by decide +kernel
theorem dX9_ground_126 : decode cX9_ground 126 = .ok (.goto (-17), 3) := by decide +kernel
theorem dX9_ground_129 : decode cX9_ground 129 = .ok (.aload_n 0, 1) := by decide +kernel
theorem dX9_ground_130 : decode cX9_ground 130 = .ok (.iconst 0, 1) := by decide +kernel
theorem dX9_ground_131 : decode cX9_ground 131 = .ok (.putfield 99, 3) := by decide +kernel
theorem dX9_ground_134 : decode cX9_ground 134 = .ok (.aload_n 0, 1) := by decide +kernel
theorem dX9_ground_135 : decode cX9_ground 135 = .ok (.iconst 0, 1) := by decide +kernel
theorem dX9_ground_136 : decode cX9_ground 136 = .ok (.putfield 102, 3) := by decide +kernel
theorem dX9_ground_139 : decode cX9_ground 139 = .ok (.aload_n 0, 1) := by decide +kernel
theorem dX9_ground_140 : decode cX9_ground 140 = .ok (.iconst 0, 1) := by decide +kernel
theorem dX9_ground_141 : decode cX9_ground 141 = .ok (.putfield 106, 3) := by decide +kernel
theorem dX9_ground_144 : decode cX9_ground 144 = .ok (.iconst 1, 1) := by decide +kernel
theorem dX9_ground_145 : decode cX9_ground 145 = .ok (.ireturn, 1) := by decide +kernel
theorem dX9_isSet_0 : decode cX9_isSet 0 = .ok (.iload_n 1, 1) := by decide +kernel
theorem dX9_isSet_1 : decode cX9_isSet 1 = .ok (.ifCond .lt 13, 3) := by decide +kernel
theorem dX9_isSet_4 : decode cX9_isSet 4 = .ok (.iload_n 1, 1) := by decide +kernel
theorem dX9_isSet_5 : decode cX9_isSet 5 = .ok (.bipush 8, 2) := by decide +kernel
theorem dX9_isSet_7 : decode cX9_isSet 7 = .ok (.if_icmp .ge 7, 3) := by decide +kernel
theorem dX9_isSet_10 : decode cX9_isSet 10 = .ok (.iconst 1, 1) := by decide +kernel
theorem dX9_isSet_11 : decode cX9_isSet 11 = .ok (.goto 4, 3) := by decide +kernel
theorem dX9_isSet_14 : decode cX9_isSet 14 = .ok (.iconst 0, 1) := by decide +kernel
theorem dX9_isSet_15 : decode cX9_isSet 15 = .ok (.ireturn, 1) := by decide +kernel
theorem dX9_in_0 : decode cX9_in 0 = .ok (.aload_n 0, 1) := by decide +kernel
theorem dX9_in_1 : decode cX9_in 1 = .ok (.lload_n 2, 1) := by decide +kernel
theorem dX9_in_2 : decode cX9_in 2 = .ok (.invokevirtual 109, 3) := by decide +kernel
theorem dX9_in_5 : decode cX9_in 5 = .ok (.ifCond .eq 27, 3) := by decide +kernel
theorem dX9_in_8 : decode cX9_in 8 = .ok (.aload_n 0, 1) := by decide +kernel
theorem dX9_in_9 : decode cX9_in 9 = .ok (.getfield 23, 3) := by decide +kernel
theorem dX9_in_12 : decode cX9_in 12 = .ok (.bipush 60, 2) := by decide +kernel
theorem dX9_in_14 : decode cX9_in 14 = .ok (.iload_n 1, 1) := by decide +kernel
theorem dX9_in_15 : decode cX9_in 15 = .ok (.imul, 1) := by decide +kernel
theorem dX9_in_16 : decode cX9_in 16 = .ok (.lload_n 2, 1) := by decide +kernel
theorem dX9_in_17 : decode cX9_in 17 = .ok (.l2i, 1) := by decide +kernel
theorem dX9_in_18 : decode cX9_in 18 = .ok (.iadd, 1) := by decide +kernel
theorem dX9_in_19 : decode cX9_in 19 = .ok (.aload_n 0, 1) := by decide +kernel
theorem dX9_in_20 : decode cX9_in 20 = .ok (.getfield 20, 3) := by decide +kernel
theorem dX9_in_23 : decode cX9_in 23 = .ok (.isub, 1) := by decide +kernel
theorem dX9_in_24 : decode cX9_in 24 = .ok (.baload, 1) := by decide +kernel
theorem dX9_in_25 : decode cX9_in 25 = .ok (.ifCond .eq 7, 3) := by decide +kernel
theorem dX9_in_28 : decode cX9_in 28 = .ok (.iconst 1, 1) := by decide +kernel
theorem dX9_in_29 : decode cX9_in 29 = .ok (.goto 4, 3) := by decide +kernel
theorem dX9_in_32 : decode cX9_in 32 = .ok (.iconst 0, 1) := by decide +kernel
theorem dX9_in_33 : decode cX9_in 33 = .ok (.ireturn, 1) := by decide +kernel
theorem dX9_let_0 : decode cX9_let 0 = .ok (.aload_n 0, 1) := by decide +kernel
theorem dX9_let_1 : decode cX9_let 1 = .ok (.getfield 23, 3) := by decide +kernel
theorem dX9_let_4 : decode cX9_let 4 = .ok (.bipush 60, 2) := by decide +kernel
theorem dX9_let_6 : decode cX9_let 6 = .ok (.iload_n 1, 1) := by decide +kernel
theorem dX9_let_7 : decode cX9_let 7 = .ok (.imul, 1) := by decide +kernel
theorem dX9_let_8 : decode cX9_let 8 = .ok (.iload_n 2, 1) := by decide +kernel
theorem dX9_let_9 : decode cX9_let 9 = .ok (.iadd, 1) := by decide +kernel
theorem dX9_let_10 : decode cX9_let 10 = .ok (.aload_n 0, 1) := by decide +kernel
theorem dX9_let_11 : decode cX9_let 11 = .ok (.getfield 20, 3) := by decide +kernel
theorem dX9_let_14 : decode cX9_let 14 = .ok (.isub, 1) := by decide +kernel
theorem dX9_let_15 : decode cX9_let 15 = .ok (.iload_n 3, 1) := by decide +kernel
theorem dX9_let_16 : decode cX9_let 16 = .ok (.bastore, 1) := by decide +kernel
theorem dX9_let_17 : decode cX9_let 17 = .ok (.return_, 1) := by decide +kernel
theorem dX9_sizeOf_0 : decode cX9_sizeOf 0 = .ok (.iconst 0, 1) := by decide +kernel
theorem dX9_sizeOf_1 : decode cX9_sizeOf 1 = .ok (.istore_n 2, 1) := by decide +kernel
theorem dX9_sizeOf_2 : decode cX9_sizeOf 2 = .ok (.iconst 0, 1) := by decide +kernel
theorem dX9_sizeOf_3 : decode cX9_sizeOf 3 = .ok (.istore_n 3, 1) := by decide +kernel
theorem dX9_sizeOf_4 : decode cX9_sizeOf 4 = .ok (.iload_n 3, 1) := by decide +kernel
theorem dX9_sizeOf_5 : decode cX9_sizeOf 5 = .ok (.aload_n 0, 1) := by decide +kernel
theorem dX9_sizeOf_6 : decode cX9_sizeOf 6 = .ok (.getfield 17, 3) := by decide +kernel
theorem dX9_sizeOf_9 : decode cX9_sizeOf 9 = .ok (.if_icmp .ge 26, 3) := by decide +kernel
theorem dX9_sizeOf_12 : decode cX9_sizeOf 12 = .ok (.aload_n 0, 1) := by decide +kernel
theorem dX9_sizeOf_13 : decode cX9_sizeOf 13 = .ok (.getfield 23, 3) := by decide +kernel
theorem dX9_sizeOf_16 : decode cX9_sizeOf 16 = .ok (.bipush 60, 2) := by decide +kernel
theorem dX9_sizeOf_18 : decode cX9_sizeOf 18 = .ok (.iload_n 1, 1) := by decide +kernel
theorem dX9_sizeOf_19 : decode cX9_sizeOf 19 = .ok (.imul, 1) := by decide +kernel
theorem dX9_sizeOf_20 : decode cX9_sizeOf 20 = .ok (.iload_n 3, 1) := by decide +kernel
theorem dX9_sizeOf_21 : decode cX9_sizeOf 21 = .ok (.iadd, 1) := by decide +kernel
theorem dX9_sizeOf_22 : decode cX9_sizeOf 22 = .ok (.baload, 1) := by decide +kernel
theorem dX9_sizeOf_23 : decode cX9_sizeOf 23 = .ok (.ifCond .eq 6, 3) := by decide +kernel
theorem dX9_sizeOf_26 : decode cX9_sizeOf 26 = .ok (.iinc 2 1, 3) := by decide +kernel
theorem dX9_sizeOf_29 : decode cX9_sizeOf 29 = .ok (.iinc 3 1, 3) := by decide +kernel
theorem dX9_sizeOf_32 : decode cX9_sizeOf 32 = .ok (.goto (-28), 3) := by decide +kernel
theorem dX9_sizeOf_35 : decode cX9_sizeOf 35 = .ok (.iload_n 2, 1) := by decide +kernel
theorem dX9_sizeOf_36 : decode cX9_sizeOf 36 = .ok (.ireturn, 1) := by decide +kernel
theorem dX9_copy_0 : decode cX9_copy 0 = .ok (.iconst 0, 1) := by decide +kernel
theorem dX9_copy_1 : decode cX9_copy 1 = .ok (.istore_n 3, 1) := by decide +kernel
theorem dX9_copy_2 : decode cX9_copy 2 = .ok (.iload_n 3, 1) := by decide +kernel
theorem dX9_copy_3 : decode cX9_copy 3 = .ok (.bipush 60, 2) := by decide +kernel
theorem dX9_copy_5 : decode cX9_copy 5 = .ok (.if_icmp .ge 31, 3) := by decide +kernel
theorem dX9_copy_8 : decode cX9_copy 8 = .ok (.aload_n 0, 1) := by decide +kernel
theorem dX9_copy_9 : decode cX9_copy 9 = .ok (.getfield 23, 3) := by decide +kernel
theorem dX9_copy_12 : decode cX9_copy 12 = .ok (.bipush 60, 2) := by decide +kernel
theorem dX9_copy_14 : decode cX9_copy 14 = .ok (.iload_n 2, 1) := by decide +kernel
theorem dX9_copy_15 : decode cX9_copy 15 = .ok (.imul, 1) := by decide +kernel
theorem dX9_copy_16 : decode cX9_copy 16 = .ok (.iload_n 3, 1) := by decide +kernel
theorem dX9_copy_17 : decode cX9_copy 17 = .ok (.iadd, 1) := by decide +kernel
theorem dX9_copy_18 : decode cX9_copy 18 = .ok (.aload_n 0, 1) := by decide +kernel
theorem dX9_copy_19 : decode cX9_copy 19 = .ok (.getfield 23, 3) := by decide +kernel
theorem dX9_copy_22 : decode cX9_copy 22 = .ok (.bipush 60, 2) := by decide +kernel
theorem dX9_copy_24 : decode cX9_copy 24 = .ok (.iload_n 1, 1) := by decide +kernel
theorem dX9_copy_25 : decode cX9_copy 25 = .ok (.imul, 1) := by decide +kernel
theorem dX9_copy_26 : decode cX9_copy 26 = .ok (.iload_n 3, 1) := by decide +kernel
theorem dX9_copy_27 : decode cX9_copy 27 = .ok (.iadd, 1) := by decide +kernel
theorem dX9_copy_28 : decode cX9_copy 28 = .ok (.baload, 1) := by decide +kernel
theorem dX9_copy_29 : decode cX9_copy 29 = .ok (.bastore, 1) := by decide +kernel
theorem dX9_copy_30 : decode cX9_copy 30 = .ok (.iinc 3 1, 3) := by decide +kernel
theorem dX9_copy_33 : decode cX9_copy 33 = .ok (.goto (-31), 3) := by decide +kernel
theorem dX9_copy_36 : decode cX9_copy 36 = .ok (.return_, 1) := by decide +kernel
theorem dX9_clear_0 : decode cX9_clear 0 = .ok (.iconst 0, 1) := by decide +kernel
theorem dX9_clear_1 : decode cX9_clear 1 = .ok (.istore_n 2, 1) := by decide +kernel
theorem dX9_clear_2 : decode cX9_clear 2 = .ok (.iload_n 2, 1) := by decide +kernel
theorem dX9_clear_3 : decode cX9_clear 3 = .ok (.bipush 60, 2) := by decide +kernel
theorem dX9_clear_5 : decode cX9_clear 5 = .ok (.if_icmp .ge 21, 3) := by decide +kernel
theorem dX9_clear_8 : decode cX9_clear 8 = .ok (.aload_n 0, 1) := by decide +kernel
theorem dX9_clear_9 : decode cX9_clear 9 = .ok (.getfield 23, 3) := by decide +kernel
theorem dX9_clear_12 : decode cX9_clear 12 = .ok (.bipush 60, 2) := by decide +kernel
theorem dX9_clear_14 : decode cX9_clear 14 = .ok (.iload_n 1, 1) := by decide +kernel
theorem dX9_clear_15 : decode cX9_clear 15 = .ok (.imul, 1) := by decide +kernel
theorem dX9_clear_16 : decode cX9_clear 16 = .ok (.iload_n 2, 1) := by decide +kernel
theorem dX9_clear_17 : decode cX9_clear 17 = .ok (.iadd, 1) := by decide +kernel
theorem dX9_clear_18 : decode cX9_clear 18 = .ok (.iconst 0, 1) := by decide +kernel
theorem dX9_clear_19 : decode cX9_clear 19 = .ok (.bastore, 1) := by decide +kernel
theorem dX9_clear_20 : decode cX9_clear 20 = .ok (.iinc 2 1, 3) := by decide +kernel
theorem dX9_clear_23 : decode cX9_clear 23 = .ok (.goto (-21), 3) := by decide +kernel
theorem dX9_clear_26 : decode cX9_clear 26 = .ok (.return_, 1) := by decide +kernel
theorem dX9_sheet_0 : decode cX9_sheet 0 = .ok (.aload_n 0, 1) := by decide +kernel
theorem dX9_sheet_1 : decode cX9_sheet 1 = .ok (.aload_n 0, 1) := by decide +kernel
theorem dX9_sheet_2 : decode cX9_sheet 2 = .ok (.iload_n 1, 1) := by decide +kernel
theorem dX9_sheet_3 : decode cX9_sheet 3 = .ok (.invokevirtual 113, 3) := by decide +kernel
theorem dX9_sheet_6 : decode cX9_sheet 6 = .ok (.ifCond .ne 7, 3) := by decide +kernel
theorem dX9_sheet_9 : decode cX9_sheet 9 = .ok (.iconst 1, 1) := by decide +kernel
theorem dX9_sheet_10 : decode cX9_sheet 10 = .ok (.goto 17, 3) := by decide +kernel
theorem dX9_sheet_13 : decode cX9_sheet 13 = .ok (.iload_n 2, 1) := by decide +kernel
theorem dX9_sheet_14 : decode cX9_sheet 14 = .ok (.ifCond .lt 8, 3) := by decide +kernel
theorem dX9_sheet_17 : decode cX9_sheet 17 = .ok (.iload_n 2, 1) := by decide +kernel
theorem dX9_sheet_18 : decode cX9_sheet 18 = .ok (.iconst 3, 1) := by decide +kernel
theorem dX9_sheet_19 : decode cX9_sheet 19 = .ok (.if_icmp .le 7, 3) := by decide +kernel
theorem dX9_sheet_22 : decode cX9_sheet 22 = .ok (.iconst 2, 1) := by decide +kernel
theorem dX9_sheet_23 : decode cX9_sheet 23 = .ok (.goto 4, 3) := by decide +kernel
theorem dX9_sheet_26 : decode cX9_sheet 26 = .ok (.iconst 0, 1) := by decide +kernel
theorem dX9_sheet_27 : decode cX9_sheet 27 = .ok (.putfield 72, 3) := by decide +kernel
theorem dX9_sheet_30 : decode cX9_sheet 30 = .ok (.aload_n 0, 1) := by decide +kernel
theorem dX9_sheet_31 : decode cX9_sheet 31 = .ok (.getfield 72, 3) := by decide +kernel
theorem dX9_sheet_34 : decode cX9_sheet 34 = .ok (.ifCond .le 5, 3) := by decide +kernel
theorem dX9_sheet_37 : decode cX9_sheet 37 = .ok (.iconst 0, 1) := by decide +kernel
theorem dX9_sheet_38 : decode cX9_sheet 38 = .ok (.ireturn, 1) := by decide +kernel
theorem dX9_sheet_39 : decode cX9_sheet 39 = .ok (.aload_n 0, 1) := by decide +kernel
theorem dX9_sheet_40 : decode cX9_sheet 40 = .ok (.getfield 75, 3) := by decide +kernel
theorem dX9_sheet_43 : decode cX9_sheet 43 = .ok (.istore_n 3, 1) := by decide +kernel
theorem dX9_sheet_44 : decode cX9_sheet 44 = .ok (.aload_n 0, 1) := by decide +kernel
theorem dX9_sheet_45 : decode cX9_sheet 45 = .ok (.iconst 0, 1) := by decide +kernel
theorem dX9_sheet_46 : decode cX9_sheet 46 = .ok (.putfield 75, 3) := by decide +kernel
theorem dX9_sheet_49 : decode cX9_sheet 49 = .ok (.iconst 1, 1) := by decide +kernel
theorem dX9_sheet_50 : decode cX9_sheet 50 = .ok (.iload_n 2, 1) := by decide +kernel
theorem dX9_sheet_51 : decode cX9_sheet 51 = .ok (.ishl, 1) := by decide +kernel
theorem dX9_sheet_52 : decode cX9_sheet 52 = .ok (.istore 4, 2) := by decide +kernel
theorem dX9_sheet_54 : decode cX9_sheet 54 = .ok (.aload_n 0, 1) := by decide +kernel
theorem dX9_sheet_55 : decode cX9_sheet 55 = .ok (.bipush 8, 2) := by decide +kernel
theorem dX9_sheet_57 : decode cX9_sheet 57 = .ok (.invokevirtual 117, 3) := by decide +kernel
theorem dX9_sheet_60 : decode cX9_sheet 60 = .ok (.iconst 0, 1) := by decide +kernel
theorem dX9_sheet_61 : decode cX9_sheet 61 = .ok (.istore 5, 2) := by decide +kernel
theorem dX9_sheet_63 : decode cX9_sheet 63 = .ok (.iload 5, 2) := by decide +kernel
theorem dX9_sheet_65 : decode cX9_sheet 65 = .ok (.iload_n 3, 1) := by decide +kernel
theorem dX9_sheet_66 : decode cX9_sheet 66 = .ok (.if_icmp .ge 107, 3) := by decide +kernel
theorem dX9_sheet_69 : decode cX9_sheet 69 = .ok (.iload 5, 2) := by decide +kernel
theorem dX9_sheet_71 : decode cX9_sheet 71 = .ok (.iload 4, 2) := by decide +kernel
theorem dX9_sheet_73 : decode cX9_sheet 73 = .ok (.iadd, 1) := by decide +kernel
theorem dX9_sheet_74 : decode cX9_sheet 74 = .ok (.iload_n 3, 1) := by decide +kernel
theorem dX9_sheet_75 : decode cX9_sheet 75 = .ok (.if_icmp .le 8, 3) := by decide +kernel
theorem dX9_sheet_78 : decode cX9_sheet 78 = .ok (.iconst (-1), 1) := by decide +kernel
theorem dX9_sheet_79 : decode cX9_sheet 79 = .ok (.iload 5, 2) := by decide +kernel
theorem dX9_sheet_81 : decode cX9_sheet 81 = .ok (.isub, 1) := by decide +kernel
theorem dX9_sheet_82 : decode cX9_sheet 82 = .ok (.ireturn, 1) := by decide +kernel
theorem dX9_sheet_83 : decode cX9_sheet 83 = .ok (.aload_n 0, 1) := by decide +kernel
theorem dX9_sheet_84 : decode cX9_sheet 84 = .ok (.getfield 7, 3) := by decide +kernel
theorem dX9_sheet_87 : decode cX9_sheet 87 = .ok (.iload 5, 2) := by decide +kernel
theorem dX9_sheet_89 : decode cX9_sheet 89 = .ok (.iaload, 1) := by decide +kernel
theorem dX9_sheet_90 : decode cX9_sheet 90 = .ok (.bipush 127, 2) := by decide +kernel
theorem dX9_sheet_92 : decode cX9_sheet 92 = .ok (.if_icmp .le 9, 3) := by decide +kernel
theorem dX9_sheet_95 : decode cX9_sheet 95 = .ok (.ldc2_w 120, 3) := by decide +kernel
theorem dX9_sheet_98 : decode cX9_sheet 98 = .ok (.goto 4, 3) := by decide +kernel
theorem dX9_sheet_101 : decode cX9_sheet 101 = .ok (.lconst 0, 1) := by decide +kernel
theorem dX9_sheet_102 : decode cX9_sheet 102 = .ok (.lstore 6, 2) := by decide +kernel
theorem dX9_sheet_104 : decode cX9_sheet 104 = .ok (.iconst 0, 1) := by decide +kernel
theorem dX9_sheet_105 : decode cX9_sheet 105 = .ok (.istore 8, 2) := by decide +kernel
theorem dX9_sheet_107 : decode cX9_sheet 107 = .ok (.iload 8, 2) := by decide +kernel
theorem dX9_sheet_109 : decode cX9_sheet 109 = .ok (.iload 4, 2) := by decide +kernel
theorem dX9_sheet_111 : decode cX9_sheet 111 = .ok (.if_icmp .ge 28, 3) := by decide +kernel
theorem dX9_sheet_114 : decode cX9_sheet 114 = .ok (.lload 6, 2) := by decide +kernel
theorem dX9_sheet_116 : decode cX9_sheet 116 = .ok (.bipush 8, 2) := by decide +kernel
theorem dX9_sheet_118 : decode cX9_sheet 118 = .ok (.lshl, 1) := by decide +kernel
theorem dX9_sheet_119 : decode cX9_sheet 119 = .ok (.aload_n 0, 1) := by decide +kernel
theorem dX9_sheet_120 : decode cX9_sheet 120 = .ok (.getfield 7, 3) := by decide +kernel
theorem dX9_sheet_123 : decode cX9_sheet 123 = .ok (.iload 5, 2) := by decide +kernel
theorem dX9_sheet_125 : decode cX9_sheet 125 = .ok (.iload 8, 2) := by decide +kernel
theorem dX9_sheet_127 : decode cX9_sheet 127 = .ok (.iadd, 1) := by decide +kernel
theorem dX9_sheet_128 : decode cX9_sheet 128 = .ok (.iaload, 1) := by decide +kernel
theorem dX9_sheet_129 : decode cX9_sheet 129 = .ok (.i2l, 1) := by decide +kernel
theorem dX9_sheet_130 : decode cX9_sheet 130 = .ok (.lor, 1) := by decide +kernel
theorem dX9_sheet_131 : decode cX9_sheet 131 = .ok (.lstore 6, 2) := by decide +kernel
theorem dX9_sheet_133 : decode cX9_sheet 133 = .ok (.iinc 8 1, 3) := by decide +kernel
theorem dX9_sheet_136 : decode cX9_sheet 136 = .ok (.goto (-29), 3) := by decide +kernel
theorem dX9_sheet_139 : decode cX9_sheet 139 = .ok (.aload_n 0, 1) := by decide +kernel
theorem dX9_sheet_140 : decode cX9_sheet 140 = .ok (.lload 6, 2) := by decide +kernel
theorem dX9_sheet_142 : decode cX9_sheet 142 = .ok (.invokevirtual 109, 3) := by decide +kernel
theorem dX9_sheet_145 : decode cX9_sheet 145 = .ok (.ifCond .ne 8, 3) := by decide +kernel
theorem dX9_sheet_148 : decode cX9_sheet 148 = .ok (.iconst (-1), 1) := by decide +kernel
theorem dX9_sheet_149 : decode cX9_sheet 149 = .ok (.iload 5, 2) := by decide +kernel
theorem dX9_sheet_151 : decode cX9_sheet 151 = .ok (.isub, 1) := by decide +kernel
theorem dX9_sheet_152 : decode cX9_sheet 152 = .ok (.ireturn, 1) := by decide +kernel
theorem dX9_sheet_153 : decode cX9_sheet 153 = .ok (.aload_n 0, 1) := by decide +kernel
theorem dX9_sheet_154 : decode cX9_sheet 154 = .ok (.bipush 8, 2) := by decide +kernel
theorem dX9_sheet_156 : decode cX9_sheet 156 = .ok (.lload 6, 2) := by decide +kernel
theorem dX9_sheet_158 : decode cX9_sheet 158 = .ok (.l2i, 1) := by decide +kernel
theorem dX9_sheet_159 : decode cX9_sheet 159 = .ok (.iconst 1, 1) := by decide +kernel
theorem dX9_sheet_160 : decode cX9_sheet 160 = .ok (.invokevirtual 122, 3) := by decide +kernel
theorem dX9_sheet_163 : decode cX9_sheet 163 = .ok (.iload 5, 2) := by decide +kernel
theorem dX9_sheet_165 : decode cX9_sheet 165 = .ok (.iload 4, 2) := by decide +kernel
theorem dX9_sheet_167 : decode cX9_sheet 167 = .ok (.iadd, 1) := by decide +kernel
theorem dX9_sheet_168 : decode cX9_sheet 168 = .ok (.istore 5, 2) := by decide +kernel
theorem dX9_sheet_170 : decode cX9_sheet 170 = .ok (.goto (-107), 3) := by decide +kernel
theorem dX9_sheet_173 : decode cX9_sheet 173 = .ok (.aload_n 0, 1) := by decide +kernel
theorem dX9_sheet_174 : decode cX9_sheet 174 = .ok (.bipush 8, 2) := by decide +kernel
theorem dX9_sheet_176 : decode cX9_sheet 176 = .ok (.iload_n 1, 1) := by decide +kernel
theorem dX9_sheet_177 : decode cX9_sheet 177 = .ok (.invokevirtual 126, 3) := by decide +kernel
theorem dX9_sheet_180 : decode cX9_sheet 180 = .ok (.aload_n 0, 1) := by decide +kernel
theorem dX9_sheet_181 : decode cX9_sheet 181 = .ok (.iload_n 1, 1) := by decide +kernel
theorem dX9_sheet_182 : decode cX9_sheet 182 = .ok (.invokevirtual 130, 3) := by decide +kernel
theorem dX9_sheet_185 : decode cX9_sheet 185 = .ok (.ireturn, 1) := by decide +kernel
theorem dX9_put_0 : decode cX9_put 0 = .ok (.aload_n 0, 1) := by decide +kernel
theorem dX9_put_1 : decode cX9_put 1 = .ok (.aload_n 0, 1) := by decide +kernel
theorem dX9_put_2 : decode cX9_put 2 = .ok (.iload_n 1, 1) := by decide +kernel
theorem dX9_put_3 : decode cX9_put 3 = .ok (.invokevirtual 113, 3) := by decide +kernel
theorem dX9_put_6 : decode cX9_put 6 = .ok (.ifCond .eq 7, 3) := by decide +kernel
theorem dX9_put_9 : decode cX9_put 9 = .ok (.iconst 0, 1) := by decide +kernel
theorem dX9_put_10 : decode cX9_put 10 = .ok (.goto 4, 3) := by decide +kernel
theorem dX9_put_13 : decode cX9_put 13 = .ok (.iconst 1, 1) := by decide +kernel
theorem dX9_put_14 : decode cX9_put 14 = .ok (.putfield 72, 3) := by decide +kernel
theorem dX9_put_17 : decode cX9_put 17 = .ok (.aload_n 0, 1) := by decide +kernel
theorem dX9_put_18 : decode cX9_put 18 = .ok (.getfield 72, 3) := by decide +kernel
theorem dX9_put_21 : decode cX9_put 21 = .ok (.ifCond .gt 23, 3) := by decide +kernel
theorem dX9_put_24 : decode cX9_put 24 = .ok (.aload_n 0, 1) := by decide +kernel
theorem dX9_put_25 : decode cX9_put 25 = .ok (.iload_n 2, 1) := by decide +kernel
theorem dX9_put_26 : decode cX9_put 26 = .ok (.i2l, 1) := by decide +kernel
theorem dX9_put_27 : decode cX9_put 27 = .ok (.invokevirtual 109, 3) := by decide +kernel
theorem dX9_put_30 : decode cX9_put 30 = .ok (.ifCond .eq 14, 3) := by decide +kernel
theorem dX9_put_33 : decode cX9_put 33 = .ok (.aload_n 0, 1) := by decide +kernel
theorem dX9_put_34 : decode cX9_put 34 = .ok (.iload_n 1, 1) := by decide +kernel
theorem dX9_put_35 : decode cX9_put 35 = .ok (.iload_n 2, 1) := by decide +kernel
theorem dX9_put_36 : decode cX9_put 36 = .ok (.i2l, 1) := by decide +kernel
theorem dX9_put_37 : decode cX9_put 37 = .ok (.invokevirtual 134, 3) := by decide +kernel
theorem dX9_put_40 : decode cX9_put 40 = .ok (.iload_n 3, 1) := by decide +kernel
theorem dX9_put_41 : decode cX9_put 41 = .ok (.if_icmp .ne 5, 3) := by decide +kernel
theorem dX9_put_44 : decode cX9_put 44 = .ok (.iconst 0, 1) := by decide +kernel
theorem dX9_put_45 : decode cX9_put 45 = .ok (.ireturn, 1) := by decide +kernel
theorem dX9_put_46 : decode cX9_put 46 = .ok (.aload_n 0, 1) := by decide +kernel
theorem dX9_put_47 : decode cX9_put 47 = .ok (.iload_n 1, 1) := by decide +kernel
theorem dX9_put_48 : decode cX9_put 48 = .ok (.iload_n 2, 1) := by decide +kernel
theorem dX9_put_49 : decode cX9_put 49 = .ok (.iload_n 3, 1) := by decide +kernel
theorem dX9_put_50 : decode cX9_put 50 = .ok (.invokevirtual 122, 3) := by decide +kernel
theorem dX9_put_53 : decode cX9_put 53 = .ok (.iconst 1, 1) := by decide +kernel
theorem dX9_put_54 : decode cX9_put 54 = .ok (.ireturn, 1) := by decide +kernel
theorem dX9_has_0 : decode cX9_has 0 = .ok (.aload_n 0, 1) := by decide +kernel
theorem dX9_has_1 : decode cX9_has 1 = .ok (.aload_n 0, 1) := by decide +kernel
theorem dX9_has_2 : decode cX9_has 2 = .ok (.iload_n 1, 1) := by decide +kernel
theorem dX9_has_3 : decode cX9_has 3 = .ok (.invokevirtual 113, 3) := by decide +kernel
theorem dX9_has_6 : decode cX9_has 6 = .ok (.ifCond .eq 7, 3) := by decide +kernel
theorem dX9_has_9 : decode cX9_has 9 = .ok (.iconst 0, 1) := by decide +kernel
theorem dX9_has_10 : decode cX9_has 10 = .ok (.goto 4, 3) := by decide +kernel
theorem dX9_has_13 : decode cX9_has 13 = .ok (.iconst 1, 1) := by decide +kernel
theorem dX9_has_14 : decode cX9_has 14 = .ok (.putfield 72, 3) := by decide +kernel
theorem dX9_has_17 : decode cX9_has 17 = .ok (.aload_n 0, 1) := by decide +kernel
theorem dX9_has_18 : decode cX9_has 18 = .ok (.getfield 72, 3) := by decide +kernel
theorem dX9_has_21 : decode cX9_has 21 = .ok (.ifCond .ne 17, 3) := by decide +kernel
theorem dX9_has_24 : decode cX9_has 24 = .ok (.aload_n 0, 1) := by decide +kernel
theorem dX9_has_25 : decode cX9_has 25 = .ok (.iload_n 1, 1) := by decide +kernel
theorem dX9_has_26 : decode cX9_has 26 = .ok (.iload_n 2, 1) := by decide +kernel
theorem dX9_has_27 : decode cX9_has 27 = .ok (.i2l, 1) := by decide +kernel
theorem dX9_has_28 : decode cX9_has 28 = .ok (.invokevirtual 134, 3) := by decide +kernel
theorem dX9_has_31 : decode cX9_has 31 = .ok (.ifCond .eq 7, 3) := by decide +kernel
theorem dX9_has_34 : decode cX9_has 34 = .ok (.iconst 1, 1) := by decide +kernel
theorem dX9_has_35 : decode cX9_has 35 = .ok (.goto 4, 3) := by decide +kernel
theorem dX9_has_38 : decode cX9_has 38 = .ok (.iconst 0, 1) := by decide +kernel
theorem dX9_has_39 : decode cX9_has 39 = .ok (.ireturn, 1) := by decide +kernel
theorem dX9_size_0 : decode cX9_size 0 = .ok (.aload_n 0, 1) := by decide +kernel
theorem dX9_size_1 : decode cX9_size 1 = .ok (.aload_n 0, 1) := by decide +kernel
theorem dX9_size_2 : decode cX9_size 2 = .ok (.iload_n 1, 1) := by decide +kernel
theorem dX9_size_3 : decode cX9_size 3 = .ok (.invokevirtual 113, 3) := by decide +kernel
theorem dX9_size_6 : decode cX9_size 6 = .ok (.ifCond .eq 7, 3) := by decide +kernel
theorem dX9_size_9 : decode cX9_size 9 = .ok (.iconst 0, 1) := by decide +kernel
theorem dX9_size_10 : decode cX9_size 10 = .ok (.goto 4, 3) := by decide +kernel
theorem dX9_size_13 : decode cX9_size 13 = .ok (.iconst 1, 1) := by decide +kernel
theorem dX9_size_14 : decode cX9_size 14 = .ok (.putfield 72, 3) := by decide +kernel
theorem dX9_size_17 : decode cX9_size 17 = .ok (.aload_n 0, 1) := by decide +kernel
theorem dX9_size_18 : decode cX9_size 18 = .ok (.getfield 72, 3) := by decide +kernel
theorem dX9_size_21 : decode cX9_size 21 = .ok (.ifCond .le 7, 3) := by decide +kernel
theorem dX9_size_24 : decode cX9_size 24 = .ok (.iconst 0, 1) := by decide +kernel
theorem dX9_size_25 : decode cX9_size 25 = .ok (.goto 8, 3) := by decide +kernel
theorem dX9_size_28 : decode cX9_size 28 = .ok (.aload_n 0, 1) := by decide +kernel
theorem dX9_size_29 : decode cX9_size 29 = .ok (.iload_n 1, 1) := by decide +kernel
theorem dX9_size_30 : decode cX9_size 30 = .ok (.invokevirtual 130, 3) := by decide +kernel
theorem dX9_size_33 : decode cX9_size 33 = .ok (.ireturn, 1) := by decide +kernel
theorem dX9_at_0 : decode cX9_at 0 = .ok (.aload_n 0, 1) := by decide +kernel
theorem dX9_at_1 : decode cX9_at 1 = .ok (.aload_n 0, 1) := by decide +kernel
theorem dX9_at_2 : decode cX9_at 2 = .ok (.iload_n 1, 1) := by decide +kernel
theorem dX9_at_3 : decode cX9_at 3 = .ok (.invokevirtual 113, 3) := by decide +kernel
theorem dX9_at_6 : decode cX9_at 6 = .ok (.ifCond .ne 7, 3) := by decide +kernel
theorem dX9_at_9 : decode cX9_at 9 = .ok (.iconst 1, 1) := by decide +kernel
theorem dX9_at_10 : decode cX9_at 10 = .ok (.goto 21, 3) := by decide +kernel
theorem dX9_at_13 : decode cX9_at 13 = .ok (.iload_n 2, 1) := by decide +kernel
theorem dX9_at_14 : decode cX9_at 14 = .ok (.ifCond .lt 12, 3) := by decide +kernel
theorem dX9_at_17 : decode cX9_at 17 = .ok (.iload_n 2, 1) := by decide +kernel
theorem dX9_at_18 : decode cX9_at 18 = .ok (.aload_n 0, 1) := by decide +kernel
theorem dX9_at_19 : decode cX9_at 19 = .ok (.iload_n 1, 1) := by decide +kernel
theorem dX9_at_20 : decode cX9_at 20 = .ok (.invokevirtual 130, 3) := by decide +kernel
theorem dX9_at_23 : decode cX9_at 23 = .ok (.if_icmp .lt 7, 3) := by decide +kernel
theorem dX9_at_26 : decode cX9_at 26 = .ok (.iconst 2, 1) := by decide +kernel
theorem dX9_at_27 : decode cX9_at 27 = .ok (.goto 4, 3) := by decide +kernel
theorem dX9_at_30 : decode cX9_at 30 = .ok (.iconst 0, 1) := by decide +kernel
theorem dX9_at_31 : decode cX9_at 31 = .ok (.putfield 72, 3) := by decide +kernel
theorem dX9_at_34 : decode cX9_at 34 = .ok (.aload_n 0, 1) := by decide +kernel
theorem dX9_at_35 : decode cX9_at 35 = .ok (.getfield 72, 3) := by decide +kernel
theorem dX9_at_38 : decode cX9_at 38 = .ok (.ifCond .le 5, 3) := by decide +kernel
theorem dX9_at_41 : decode cX9_at 41 = .ok (.iconst 0, 1) := by decide +kernel
theorem dX9_at_42 : decode cX9_at 42 = .ok (.ireturn, 1) := by decide +kernel
theorem dX9_at_43 : decode cX9_at 43 = .ok (.iload_n 2, 1) := by decide +kernel
theorem dX9_at_44 : decode cX9_at 44 = .ok (.istore_n 3, 1) := by decide +kernel
theorem dX9_at_45 : decode cX9_at 45 = .ok (.aload_n 0, 1) := by decide +kernel
theorem dX9_at_46 : decode cX9_at 46 = .ok (.getfield 20, 3) := by decide +kernel
theorem dX9_at_49 : decode cX9_at 49 = .ok (.istore 4, 2) := by decide +kernel
theorem dX9_at_51 : decode cX9_at 51 = .ok (.iload_n 3, 1) := by decide +kernel
theorem dX9_at_52 : decode cX9_at 52 = .ok (.ifCond .gt 14, 3) := by decide +kernel
theorem dX9_at_55 : decode cX9_at 55 = .ok (.aload_n 0, 1) := by decide +kernel
theorem dX9_at_56 : decode cX9_at 56 = .ok (.iload_n 1, 1) := by decide +kernel
theorem dX9_at_57 : decode cX9_at 57 = .ok (.iload 4, 2) := by decide +kernel
theorem dX9_at_59 : decode cX9_at 59 = .ok (.i2l, 1) := by decide +kernel
theorem dX9_at_60 : decode cX9_at 60 = .ok (.invokevirtual 134, 3) := by decide +kernel
theorem dX9_at_63 : decode cX9_at 63 = .ok (.ifCond .ne 23, 3) := by decide +kernel
theorem dX9_at_66 : decode cX9_at 66 = .ok (.aload_n 0, 1) := by decide +kernel
theorem dX9_at_67 : decode cX9_at 67 = .ok (.iload_n 1, 1) := by decide +kernel
theorem dX9_at_68 : decode cX9_at 68 = .ok (.iload 4, 2) := by decide +kernel
theorem dX9_at_70 : decode cX9_at 70 = .ok (.i2l, 1) := by decide +kernel
theorem dX9_at_71 : decode cX9_at 71 = .ok (.invokevirtual 134, 3) := by decide +kernel
theorem dX9_at_74 : decode cX9_at 74 = .ok (.ifCond .eq 6, 3) := by decide +kernel
theorem dX9_at_77 : decode cX9_at 77 = .ok (.iinc 3 (-1), 3) := by decide +kernel
theorem dX9_at_80 : decode cX9_at 80 = .ok (.iinc 4 1, 3) := by decide +kernel
theorem dX9_at_83 : decode cX9_at 83 = .ok (.goto (-32), 3) := by decide +kernel
theorem dX9_at_86 : decode cX9_at 86 = .ok (.iload 4, 2) := by decide +kernel
theorem dX9_at_88 : decode cX9_at 88 = .ok (.ireturn, 1) := by decide +kernel
theorem dX9_isSmall_0 : decode cX9_isSmall 0 = .ok (.iload_n 0, 1) := by decide +kernel
theorem dX9_isSmall_1 : decode cX9_isSmall 1 = .ok (.bipush (-9), 2) := by decide +kernel
theorem dX9_isSmall_3 : decode cX9_isSmall 3 = .ok (.if_icmp .lt 13, 3) := by decide +kernel
theorem dX9_isSmall_6 : decode cX9_isSmall 6 = .ok (.iload_n 0, 1) := by decide +kernel
theorem dX9_isSmall_7 : decode cX9_isSmall 7 = .ok (.bipush 9, 2) := by decide +kernel
theorem dX9_isSmall_9 : decode cX9_isSmall 9 = .ok (.if_icmp .gt 7, 3) := by decide +kernel
theorem dX9_isSmall_12 : decode cX9_isSmall 12 = .ok (.iconst 1, 1) := by decide +kernel
theorem dX9_isSmall_13 : decode cX9_isSmall 13 = .ok (.goto 4, 3) := by decide +kernel
theorem dX9_isSmall_16 : decode cX9_isSmall 16 = .ok (.iconst 0, 1) := by decide +kernel
theorem dX9_isSmall_17 : decode cX9_isSmall 17 = .ok (.ireturn, 1) := by decide +kernel
theorem dX9_law_0 : decode cX9_law 0 = .ok (.aload_n 0, 1) := by decide +kernel
theorem dX9_law_1 : decode cX9_law 1 = .ok (.iconst 0, 1) := by decide +kernel
theorem dX9_law_2 : decode cX9_law 2 = .ok (.putfield 72, 3) := by decide +kernel
theorem dX9_law_5 : decode cX9_law 5 = .ok (.aload_n 0, 1) := by decide +kernel
theorem dX9_law_6 : decode cX9_law 6 = .ok (.getfield 96, 3) := by decide +kernel
theorem dX9_law_9 : decode cX9_law 9 = .ok (.bipush 6, 2) := by decide +kernel
theorem dX9_law_11 : decode cX9_law 11 = .ok (.if_icmp .eq 12, 3) := by decide +kernel
theorem dX9_law_14 : decode cX9_law 14 = .ok (.iload_n 1, 1) := by decide +kernel
theorem dX9_law_15 : decode cX9_law 15 = .ok (.ifCond .lt 8, 3) := by decide +kernel
theorem dX9_law_18 : decode cX9_law 18 = .ok (.iload_n 1, 1) := by decide +kernel
theorem dX9_law_19 : decode cX9_law 19 = .ok (.iconst 4, 1) := by decide +kernel
theorem dX9_law_20 : decode cX9_law 20 = .ok (.if_icmp .le 5, 3) := by decide +kernel
theorem dX9_law_23 : decode cX9_law 23 = .ok (.iconst (-1), 1) := by decide +kernel
theorem dX9_law_24 : decode cX9_law 24 = .ok (.ireturn, 1) := by decide +kernel
theorem dX9_law_25 : decode cX9_law 25 = .ok (.iload_n 1, 1) := by decide +kernel
theorem dX9_law_26 : decode cX9_law 26 = .ok (.ifCond .ne 16, 3) := by decide +kernel
theorem dX9_law_29 : decode cX9_law 29 = .ok (.iload_n 2, 1) := by decide +kernel
theorem dX9_law_30 : decode cX9_law 30 = .ok (.iconst 3, 1) := by decide +kernel
theorem dX9_law_31 : decode cX9_law 31 = .ok (.if_icmp .lt 9, 3) := by decide +kernel
theorem dX9_law_34 : decode cX9_law 34 = .ok (.iload_n 2, 1) := by decide +kernel
theorem dX9_law_35 : decode cX9_law 35 = .ok (.bipush 6, 2) := by decide +kernel
theorem dX9_law_37 : decode cX9_law 37 = .ok (.if_icmp .le 5, 3) := by decide +kernel
theorem dX9_law_40 : decode cX9_law 40 = .ok (.iconst (-1), 1) := by decide +kernel
theorem dX9_law_41 : decode cX9_law 41 = .ok (.ireturn, 1) := by decide +kernel
theorem dX9_law_42 : decode cX9_law 42 = .ok (.iload_n 1, 1) := by decide +kernel
theorem dX9_law_43 : decode cX9_law 43 = .ok (.iconst 4, 1) := by decide +kernel
theorem dX9_law_44 : decode cX9_law 44 = .ok (.if_icmp .ne 61, 3) := by decide +kernel
theorem dX9_law_47 : decode cX9_law 47 = .ok (.iload_n 2, 1) := by decide +kernel
theorem dX9_law_48 : decode cX9_law 48 = .ok (.invokestatic 138, 3) := by decide +kernel
theorem dX9_law_51 : decode cX9_law 51 = .ok (.ifCond .eq 52, 3) := by decide +kernel
theorem dX9_law_54 : decode cX9_law 54 = .ok (.iload_n 3, 1) := by decide +kernel
theorem dX9_law_55 : decode cX9_law 55 = .ok (.invokestatic 138, 3) := by decide +kernel
theorem dX9_law_58 : decode cX9_law 58 = .ok (.ifCond .eq 45, 3) := by decide +kernel
theorem dX9_law_61 : decode cX9_law 61 = .ok (.iload 4, 2) := by decide +kernel
theorem dX9_law_63 : decode cX9_law 63 = .ok (.invokestatic 138, 3) := by decide +kernel
theorem dX9_law_66 : decode cX9_law 66 = .ok (.ifCond .eq 37, 3) := by decide +kernel
theorem dX9_law_69 : decode cX9_law 69 = .ok (.iload_n 2, 1) := by decide +kernel
theorem dX9_law_70 : decode cX9_law 70 = .ok (.ifCond .ne 7, 3) := by decide +kernel
theorem dX9_law_73 : decode cX9_law 73 = .ok (.iconst 1, 1) := by decide +kernel
theorem dX9_law_74 : decode cX9_law 74 = .ok (.goto 4, 3) := by decide +kernel
theorem dX9_law_77 : decode cX9_law 77 = .ok (.iconst 0, 1) := by decide +kernel
theorem dX9_law_78 : decode cX9_law 78 = .ok (.iload_n 3, 1) := by decide +kernel
theorem dX9_law_79 : decode cX9_law 79 = .ok (.ifCond .ne 7, 3) := by decide +kernel
theorem dX9_law_82 : decode cX9_law 82 = .ok (.iconst 1, 1) := by decide +kernel
theorem dX9_law_83 : decode cX9_law 83 = .ok (.goto 4, 3) := by decide +kernel
theorem dX9_law_86 : decode cX9_law 86 = .ok (.iconst 0, 1) := by decide +kernel
theorem dX9_law_87 : decode cX9_law 87 = .ok (.iadd, 1) := by decide +kernel
theorem dX9_law_88 : decode cX9_law 88 = .ok (.iload 4, 2) := by decide +kernel
theorem dX9_law_90 : decode cX9_law 90 = .ok (.ifCond .ne 7, 3) := by decide +kernel
theorem dX9_law_93 : decode cX9_law 93 = .ok (.iconst 1, 1) := by decide +kernel
theorem dX9_law_94 : decode cX9_law 94 = .ok (.goto 4, 3) := by decide +kernel
theorem dX9_law_97 : decode cX9_law 97 = .ok (.iconst 0, 1) := by decide +kernel
theorem dX9_law_98 : decode cX9_law 98 = .ok (.iadd, 1) := by decide +kernel
theorem dX9_law_99 : decode cX9_law 99 = .ok (.iconst 1, 1) := by decide +kernel
theorem dX9_law_100 : decode cX9_law 100 = .ok (.if_icmp .le 5, 3) := by decide +kernel
theorem dX9_law_103 : decode cX9_law 103 = .ok (.iconst (-1), 1) := by decide +kernel
theorem dX9_law_104 : decode cX9_law 104 = .ok (.ireturn, 1) := by decide +kernel
theorem dX9_law_105 : decode cX9_law 105 = .ok (.aload_n 0, 1) := by decide +kernel
theorem dX9_law_106 : decode cX9_law 106 = .ok (.getfield 27, 3) := by decide +kernel
theorem dX9_law_109 : decode cX9_law 109 = .ok (.aload_n 0, 1) := by decide +kernel
theorem dX9_law_110 : decode cX9_law 110 = .ok (.getfield 96, 3) := by decide +kernel
theorem dX9_law_113 : decode cX9_law 113 = .ok (.iload_n 1, 1) := by decide +kernel
theorem dX9_law_114 : decode cX9_law 114 = .ok (.iastore, 1) := by decide +kernel
theorem dX9_law_115 : decode cX9_law 115 = .ok (.aload_n 0, 1) := by decide +kernel
theorem dX9_law_116 : decode cX9_law 116 = .ok (.getfield 30, 3) := by decide +kernel
theorem dX9_law_119 : decode cX9_law 119 = .ok (.aload_n 0, 1) := by decide +kernel
theorem dX9_law_120 : decode cX9_law 120 = .ok (.getfield 96, 3) := by decide +kernel
theorem dX9_law_123 : decode cX9_law 123 = .ok (.iload_n 2, 1) := by decide +kernel
theorem dX9_law_124 : decode cX9_law 124 = .ok (.iastore, 1) := by decide +kernel
theorem dX9_law_125 : decode cX9_law 125 = .ok (.aload_n 0, 1) := by decide +kernel
theorem dX9_law_126 : decode cX9_law 126 = .ok (.getfield 33, 3) := by decide +kernel
theorem dX9_law_129 : decode cX9_law 129 = .ok (.aload_n 0, 1) := by decide +kernel
theorem dX9_law_130 : decode cX9_law 130 = .ok (.getfield 96, 3) := by decide +kernel
theorem dX9_law_133 : decode cX9_law 133 = .ok (.iload_n 3, 1) := by decide +kernel
theorem dX9_law_134 : decode cX9_law 134 = .ok (.iastore, 1) := by decide +kernel
theorem dX9_law_135 : decode cX9_law 135 = .ok (.aload_n 0, 1) := by decide +kernel
theorem dX9_law_136 : decode cX9_law 136 = .ok (.getfield 36, 3) := by decide +kernel
theorem dX9_law_139 : decode cX9_law 139 = .ok (.aload_n 0, 1) := by decide +kernel
theorem dX9_law_140 : decode cX9_law 140 = .ok (.getfield 96, 3) := by decide +kernel
theorem dX9_law_143 : decode cX9_law 143 = .ok (.iload 4, 2) := by decide +kernel
theorem dX9_law_145 : decode cX9_law 145 = .ok (.iastore, 1) := by decide +kernel
theorem dX9_law_146 : decode cX9_law 146 = .ok (.aload_n 0, 1) := by decide +kernel
theorem dX9_law_147 : decode cX9_law 147 = .ok (.getfield 39, 3) := by decide +kernel
theorem dX9_law_150 : decode cX9_law 150 = .ok (.aload_n 0, 1) := by decide +kernel
theorem dX9_law_151 : decode cX9_law 151 = .ok (.getfield 96, 3) := by decide +kernel
theorem dX9_law_154 : decode cX9_law 154 = .ok (.iload 5, 2) := by decide +kernel
theorem dX9_law_156 : decode cX9_law 156 = .ok (.bastore, 1) := by decide +kernel
theorem dX9_law_157 : decode cX9_law 157 = .ok (.aload_n 0, 1) := by decide +kernel
theorem dX9_law_158 : decode cX9_law 158 = .ok (.dup, 1) := by decide +kernel
theorem dX9_law_159 : decode cX9_law 159 = .ok (.getfield 96, 3) := by decide +kernel
theorem dX9_law_162 : decode cX9_law 162 = .ok (.iconst 1, 1) := by decide +kernel
theorem dX9_law_163 : decode cX9_law 163 = .ok (.iadd, 1) := by decide +kernel
theorem dX9_law_164 : decode cX9_law 164 = .ok (.putfield 96, 3) := by decide +kernel
theorem dX9_law_167 : decode cX9_law 167 = .ok (.aload_n 0, 1) := by decide +kernel
theorem dX9_law_168 : decode cX9_law 168 = .ok (.getfield 96, 3) := by decide +kernel
theorem dX9_law_171 : decode cX9_law 171 = .ok (.iconst 1, 1) := by decide +kernel
theorem dX9_law_172 : decode cX9_law 172 = .ok (.isub, 1) := by decide +kernel
theorem dX9_law_173 : decode cX9_law 173 = .ok (.ireturn, 1) := by decide +kernel
theorem dX9_drop_0 : decode cX9_drop 0 = .ok (.aload_n 0, 1) := by decide +kernel
theorem dX9_drop_1 : decode cX9_drop 1 = .ok (.iconst 0, 1) := by decide +kernel
theorem dX9_drop_2 : decode cX9_drop 2 = .ok (.putfield 72, 3) := by decide +kernel
theorem dX9_drop_5 : decode cX9_drop 5 = .ok (.aload_n 0, 1) := by decide +kernel
theorem dX9_drop_6 : decode cX9_drop 6 = .ok (.getfield 96, 3) := by decide +kernel
theorem dX9_drop_9 : decode cX9_drop 9 = .ok (.istore_n 1, 1) := by decide +kernel
theorem dX9_drop_10 : decode cX9_drop 10 = .ok (.aload_n 0, 1) := by decide +kernel
theorem dX9_drop_11 : decode cX9_drop 11 = .ok (.iconst 0, 1) := by decide +kernel
theorem dX9_drop_12 : decode cX9_drop 12 = .ok (.putfield 96, 3) := by decide +kernel
theorem dX9_drop_15 : decode cX9_drop 15 = .ok (.iload_n 1, 1) := by decide +kernel
theorem dX9_drop_16 : decode cX9_drop 16 = .ok (.ireturn, 1) := by decide +kernel
theorem dX9_areUnlike_0 : decode cX9_areUnlike 0 = .ok (.iload_n 0, 1) := by decide +kernel
theorem dX9_areUnlike_1 : decode cX9_areUnlike 1 = .ok (.iload_n 1, 1) := by decide +kernel
theorem dX9_areUnlike_2 : decode cX9_areUnlike 2 = .ok (.if_icmp .eq 17, 3) := by decide +kernel
theorem dX9_areUnlike_5 : decode cX9_areUnlike 5 = .ok (.iload_n 1, 1) := by decide +kernel
theorem dX9_areUnlike_6 : decode cX9_areUnlike 6 = .ok (.iload_n 2, 1) := by decide +kernel
theorem dX9_areUnlike_7 : decode cX9_areUnlike 7 = .ok (.if_icmp .eq 12, 3) := by decide +kernel
theorem dX9_areUnlike_10 : decode cX9_areUnlike 10 = .ok (.iload_n 0, 1) := by decide +kernel
theorem dX9_areUnlike_11 : decode cX9_areUnlike 11 = .ok (.iload_n 2, 1) := by decide +kernel
theorem dX9_areUnlike_12 : decode cX9_areUnlike 12 = .ok (.if_icmp .eq 7, 3) := by decide +kernel
theorem dX9_areUnlike_15 : decode cX9_areUnlike 15 = .ok (.iconst 1, 1) := by decide +kernel
theorem dX9_areUnlike_16 : decode cX9_areUnlike 16 = .ok (.goto 4, 3) := by decide +kernel
theorem dX9_areUnlike_19 : decode cX9_areUnlike 19 = .ok (.iconst 0, 1) := by decide +kernel
theorem dX9_areUnlike_20 : decode cX9_areUnlike 20 = .ok (.ireturn, 1) := by decide +kernel
theorem dX9_isRow_0 : decode cX9_isRow 0 = .ok (.iload_n 2, 1) := by decide +kernel
theorem dX9_isRow_1 : decode cX9_isRow 1 = .ok (.istore 5, 2) := by decide +kernel
theorem dX9_isRow_3 : decode cX9_isRow 3 = .ok (.iconst 0, 1) := by decide +kernel
theorem dX9_isRow_4 : decode cX9_isRow 4 = .ok (.istore 6, 2) := by decide +kernel
theorem dX9_isRow_6 : decode cX9_isRow 6 = .ok (.iload 6, 2) := by decide +kernel
theorem dX9_isRow_8 : decode cX9_isRow 8 = .ok (.iload 4, 2) := by decide +kernel
theorem dX9_isRow_10 : decode cX9_isRow 10 = .ok (.if_icmp .ge 42, 3) := by decide +kernel
theorem dX9_isRow_13 : decode cX9_isRow 13 = .ok (.aload_n 0, 1) := by decide +kernel
theorem dX9_isRow_14 : decode cX9_isRow 14 = .ok (.iload_n 1, 1) := by decide +kernel
theorem dX9_isRow_15 : decode cX9_isRow 15 = .ok (.iload 5, 2) := by decide +kernel
theorem dX9_isRow_17 : decode cX9_isRow 17 = .ok (.i2l, 1) := by decide +kernel
theorem dX9_isRow_18 : decode cX9_isRow 18 = .ok (.invokevirtual 134, 3) := by decide +kernel
theorem dX9_isRow_21 : decode cX9_isRow 21 = .ok (.ifCond .eq 14, 3) := by decide +kernel
theorem dX9_isRow_24 : decode cX9_isRow 24 = .ok (.iload 6, 2) := by decide +kernel
theorem dX9_isRow_26 : decode cX9_isRow 26 = .ok (.ifCond .le 11, 3) := by decide +kernel
theorem dX9_isRow_29 : decode cX9_isRow 29 = .ok (.iload 5, 2) := by decide +kernel
theorem dX9_isRow_31 : decode cX9_isRow 31 = .ok (.iload_n 2, 1) := by decide +kernel
theorem dX9_isRow_32 : decode cX9_isRow 32 = .ok (.if_icmp .ne 5, 3) := by decide +kernel
theorem dX9_isRow_35 : decode cX9_isRow 35 = .ok (.iconst 0, 1) := by decide +kernel
theorem dX9_isRow_36 : decode cX9_isRow 36 = .ok (.ireturn, 1) := by decide +kernel
theorem dX9_isRow_37 : decode cX9_isRow 37 = .ok (.aload_n 0, 1) := by decide +kernel
theorem dX9_isRow_38 : decode cX9_isRow 38 = .ok (.iload 5, 2) := by decide +kernel
theorem dX9_isRow_40 : decode cX9_isRow 40 = .ok (.iload_n 3, 1) := by decide +kernel
theorem dX9_isRow_41 : decode cX9_isRow 41 = .ok (.invokevirtual 141, 3) := by decide +kernel
theorem dX9_isRow_44 : decode cX9_isRow 44 = .ok (.istore 5, 2) := by decide +kernel
theorem dX9_isRow_46 : decode cX9_isRow 46 = .ok (.iinc 6 1, 3) := by decide +kernel
theorem dX9_isRow_49 : decode cX9_isRow 49 = .ok (.goto (-43), 3) := by decide +kernel
theorem dX9_isRow_52 : decode cX9_isRow 52 = .ok (.iconst 1, 1) := by decide +kernel
theorem dX9_isRow_53 : decode cX9_isRow 53 = .ok (.ireturn, 1) := by decide +kernel
theorem dX9_isEquation_0 : decode cX9_isEquation 0 = .ok (.aload_n 0, 1) := by decide +kernel
theorem dX9_isEquation_1 : decode cX9_isEquation 1 = .ok (.getfield 30, 3) := by decide +kernel
theorem dX9_isEquation_4 : decode cX9_isEquation 4 = .ok (.iload_n 2, 1) := by decide +kernel
theorem dX9_isEquation_5 : decode cX9_isEquation 5 = .ok (.iaload, 1) := by decide +kernel
theorem dX9_isEquation_6 : decode cX9_isEquation 6 = .ok (.istore 6, 2) := by decide +kernel
theorem dX9_isEquation_8 : decode cX9_isEquation 8 = .ok (.aload_n 0, 1) := by decide +kernel
theorem dX9_isEquation_9 : decode cX9_isEquation 9 = .ok (.getfield 33, 3) := by decide +kernel
theorem dX9_isEquation_12 : decode cX9_isEquation 12 = .ok (.iload_n 2, 1) := by decide +kernel
theorem dX9_isEquation_13 : decode cX9_isEquation 13 = .ok (.iaload, 1) := by decide +kernel
theorem dX9_isEquation_14 : decode cX9_isEquation 14 = .ok (.istore 7, 2) := by decide +kernel
theorem dX9_isEquation_16 : decode cX9_isEquation 16 = .ok (.aload_n 0, 1) := by decide +kernel
theorem dX9_isEquation_17 : decode cX9_isEquation 17 = .ok (.getfield 36, 3) := by decide +kernel
theorem dX9_isEquation_20 : decode cX9_isEquation 20 = .ok (.iload_n 2, 1) := by decide +kernel
theorem dX9_isEquation_21 : decode cX9_isEquation 21 = .ok (.iaload, 1) := by decide +kernel
theorem dX9_isEquation_22 : decode cX9_isEquation 22 = .ok (.istore 8, 2) := by decide +kernel
theorem dX9_isEquation_24 : decode cX9_isEquation 24 = .ok (.iload 6, 2) := by decide +kernel
theorem dX9_isEquation_26 : decode cX9_isEquation 26 = .ok (.ifCond .eq 13, 3) := by decide +kernel
theorem dX9_isEquation_29 : decode cX9_isEquation 29 = .ok (.aload_n 0, 1) := by decide +kernel
theorem dX9_isEquation_30 : decode cX9_isEquation 30 = .ok (.iload_n 1, 1) := by decide +kernel
theorem dX9_isEquation_31 : decode cX9_isEquation 31 = .ok (.iload_n 3, 1) := by decide +kernel
theorem dX9_isEquation_32 : decode cX9_isEquation 32 = .ok (.i2l, 1) := by decide +kernel
theorem dX9_isEquation_33 : decode cX9_isEquation 33 = .ok (.invokevirtual 134, 3) := by decide +kernel
theorem dX9_isEquation_36 : decode cX9_isEquation 36 = .ok (.ifCond .eq 35, 3) := by decide +kernel
theorem dX9_isEquation_39 : decode cX9_isEquation 39 = .ok (.iload 7, 2) := by decide +kernel
theorem dX9_isEquation_41 : decode cX9_isEquation 41 = .ok (.ifCond .eq 14, 3) := by decide +kernel
theorem dX9_isEquation_44 : decode cX9_isEquation 44 = .ok (.aload_n 0, 1) := by decide +kernel
theorem dX9_isEquation_45 : decode cX9_isEquation 45 = .ok (.iload_n 1, 1) := by decide +kernel
theorem dX9_isEquation_46 : decode cX9_isEquation 46 = .ok (.iload 4, 2) := by decide +kernel
theorem dX9_isEquation_48 : decode cX9_isEquation 48 = .ok (.i2l, 1) := by decide +kernel
theorem dX9_isEquation_49 : decode cX9_isEquation 49 = .ok (.invokevirtual 134, 3) := by decide +kernel
theorem dX9_isEquation_52 : decode cX9_isEquation 52 = .ok (.ifCond .eq 19, 3) := by decide +kernel
theorem dX9_isEquation_55 : decode cX9_isEquation 55 = .ok (.iload 8, 2) := by decide +kernel
theorem dX9_isEquation_57 : decode cX9_isEquation 57 = .ok (.ifCond .eq 16, 3) := by decide +kernel
theorem dX9_isEquation_60 : decode cX9_isEquation 60 = .ok (.aload_n 0, 1) := by decide +kernel
theorem dX9_isEquation_61 : decode cX9_isEquation 61 = .ok (.iload_n 1, 1) := by decide +kernel
theorem dX9_isEquation_62 : decode cX9_isEquation 62 = .ok (.iload 5, 2) := by decide +kernel
theorem dX9_isEquation_64 : decode cX9_isEquation 64 = .ok (.i2l, 1) := by decide +kernel
theorem dX9_isEquation_65 : decode cX9_isEquation 65 = .ok (.invokevirtual 134, 3) := by decide +kernel
theorem dX9_isEquation_68 : decode cX9_isEquation 68 = .ok (.ifCond .ne 5, 3) := by decide +kernel
theorem dX9_isEquation_71 : decode cX9_isEquation 71 = .ok (.iconst 0, 1) := by decide +kernel
theorem dX9_isEquation_72 : decode cX9_isEquation 72 = .ok (.ireturn, 1) := by decide +kernel
theorem dX9_isEquation_73 : decode cX9_isEquation 73 = .ok (.iload 6, 2) := by decide +kernel
theorem dX9_isEquation_75 : decode cX9_isEquation 75 = .ok (.ifCond .eq 14, 3) := by decide +kernel
theorem dX9_isEquation_78 : decode cX9_isEquation 78 = .ok (.iload 7, 2) := by decide +kernel
theorem dX9_isEquation_80 : decode cX9_isEquation 80 = .ok (.ifCond .eq 9, 3) := by decide +kernel
theorem dX9_isEquation_83 : decode cX9_isEquation 83 = .ok (.iload_n 3, 1) := by decide +kernel
theorem dX9_isEquation_84 : decode cX9_isEquation 84 = .ok (.iload 4, 2) := by decide +kernel
theorem dX9_isEquation_86 : decode cX9_isEquation 86 = .ok (.if_icmp .eq 36, 3) := by decide +kernel
theorem dX9_isEquation_89 : decode cX9_isEquation 89 = .ok (.iload 6, 2) := by decide +kernel
theorem dX9_isEquation_91 : decode cX9_isEquation 91 = .ok (.ifCond .eq 14, 3) := by decide +kernel
theorem dX9_isEquation_94 : decode cX9_isEquation 94 = .ok (.iload 8, 2) := by decide +kernel
theorem dX9_isEquation_96 : decode cX9_isEquation 96 = .ok (.ifCond .eq 9, 3) := by decide +kernel
theorem dX9_isEquation_99 : decode cX9_isEquation 99 = .ok (.iload_n 3, 1) := by decide +kernel
theorem dX9_isEquation_100 : decode cX9_isEquation 100 = .ok (.iload 5, 2) := by decide +kernel
theorem dX9_isEquation_102 : decode cX9_isEquation 102 = .ok (.if_icmp .eq 20, 3) := by decide +kernel
theorem dX9_isEquation_105 : decode cX9_isEquation 105 = .ok (.iload 7, 2) := by decide +kernel
theorem dX9_isEquation_107 : decode cX9_isEquation 107 = .ok (.ifCond .eq 19, 3) := by decide +kernel
theorem dX9_isEquation_110 : decode cX9_isEquation 110 = .ok (.iload 8, 2) := by decide +kernel
theorem dX9_isEquation_112 : decode cX9_isEquation 112 = .ok (.ifCond .eq 14, 3) := by decide +kernel
theorem dX9_isEquation_115 : decode cX9_isEquation 115 = .ok (.iload 4, 2) := by decide +kernel
theorem dX9_isEquation_117 : decode cX9_isEquation 117 = .ok (.iload 5, 2) := by decide +kernel
theorem dX9_isEquation_119 : decode cX9_isEquation 119 = .ok (.if_icmp .ne 7, 3) := by decide +kernel
theorem dX9_isEquation_122 : decode cX9_isEquation 122 = .ok (.iconst 1, 1) := by decide +kernel
theorem dX9_isEquation_123 : decode cX9_isEquation 123 = .ok (.goto 4, 3) := by decide +kernel
theorem dX9_isEquation_126 : decode cX9_isEquation 126 = .ok (.iconst 0, 1) := by decide +kernel
theorem dX9_isEquation_127 : decode cX9_isEquation 127 = .ok (.istore 9, 2) := by decide +kernel
theorem dX9_isEquation_129 : decode cX9_isEquation 129 = .ok (.aload_n 0, 1) := by decide +kernel
theorem dX9_isEquation_130 : decode cX9_isEquation 130 = .ok (.getfield 39, 3) := by decide +kernel
theorem dX9_isEquation_133 : decode cX9_isEquation 133 = .ok (.iload_n 2, 1) := by decide +kernel
theorem dX9_isEquation_134 : decode cX9_isEquation 134 = .ok (.baload, 1) := by decide +kernel
theorem dX9_isEquation_135 : decode cX9_isEquation 135 = .ok (.ifCond .eq 10, 3) := by decide +kernel
theorem dX9_isEquation_138 : decode cX9_isEquation 138 = .ok (.iload 9, 2) := by decide +kernel
theorem dX9_isEquation_140 : decode cX9_isEquation 140 = .ok (.ifCond .eq 5, 3) := by decide +kernel
theorem dX9_isEquation_143 : decode cX9_isEquation 143 = .ok (.iconst 0, 1) := by decide +kernel
theorem dX9_isEquation_144 : decode cX9_isEquation 144 = .ok (.ireturn, 1) := by decide +kernel
theorem dX9_isEquation_145 : decode cX9_isEquation 145 = .ok (.aload_n 0, 1) := by decide +kernel
theorem dX9_isEquation_146 : decode cX9_isEquation 146 = .ok (.iload 6, 2) := by decide +kernel
theorem dX9_isEquation_148 : decode cX9_isEquation 148 = .ok (.iload 6, 2) := by decide +kernel
theorem dX9_isEquation_150 : decode cX9_isEquation 150 = .ok (.ifCond .ne 7, 3) := by decide +kernel
theorem dX9_isEquation_153 : decode cX9_isEquation 153 = .ok (.iconst 0, 1) := by decide +kernel
theorem dX9_isEquation_154 : decode cX9_isEquation 154 = .ok (.goto 4, 3) := by decide +kernel
theorem dX9_isEquation_157 : decode cX9_isEquation 157 = .ok (.iload_n 3, 1) := by decide +kernel
theorem dX9_isEquation_158 : decode cX9_isEquation 158 = .ok (.iload 7, 2) := by decide +kernel
theorem dX9_isEquation_160 : decode cX9_isEquation 160 = .ok (.iload 7, 2) := by decide +kernel
theorem dX9_isEquation_162 : decode cX9_isEquation 162 = .ok (.ifCond .ne 7, 3) := by decide +kernel
theorem dX9_isEquation_165 : decode cX9_isEquation 165 = .ok (.iconst 0, 1) := by decide +kernel
theorem dX9_isEquation_166 : decode cX9_isEquation 166 = .ok (.goto 5, 3) := by decide +kernel
theorem dX9_isEquation_169 : decode cX9_isEquation 169 = .ok (.iload 4, 2) := by decide +kernel
theorem dX9_isEquation_171 : decode cX9_isEquation 171 = .ok (.invokevirtual 93, 3) := by decide +kernel
theorem dX9_isEquation_174 : decode cX9_isEquation 174 = .ok (.istore 10, 2) := by decide +kernel
theorem dX9_isEquation_176 : decode cX9_isEquation 176 = .ok (.aload_n 0, 1) := by decide +kernel
theorem dX9_isEquation_177 : decode cX9_isEquation 177 = .ok (.iconst 1, 1) := by decide +kernel
theorem dX9_isEquation_178 : decode cX9_isEquation 178 = .ok (.iload 10, 2) := by decide +kernel
theorem dX9_isEquation_180 : decode cX9_isEquation 180 = .ok (.iload 8, 2) := by decide +kernel
theorem dX9_isEquation_182 : decode cX9_isEquation 182 = .ok (.iload 8, 2) := by decide +kernel
theorem dX9_isEquation_184 : decode cX9_isEquation 184 = .ok (.ifCond .ne 7, 3) := by decide +kernel
theorem dX9_isEquation_187 : decode cX9_isEquation 187 = .ok (.iconst 0, 1) := by decide +kernel
theorem dX9_isEquation_188 : decode cX9_isEquation 188 = .ok (.goto 5, 3) := by decide +kernel
theorem dX9_isEquation_191 : decode cX9_isEquation 191 = .ok (.iload 5, 2) := by decide +kernel
theorem dX9_isEquation_193 : decode cX9_isEquation 193 = .ok (.invokevirtual 93, 3) := by decide +kernel
theorem dX9_isEquation_196 : decode cX9_isEquation 196 = .ok (.ifCond .ne 7, 3) := by decide +kernel
theorem dX9_isEquation_199 : decode cX9_isEquation 199 = .ok (.iconst 1, 1) := by decide +kernel
theorem dX9_isEquation_200 : decode cX9_isEquation 200 = .ok (.goto 4, 3) := by decide +kernel
theorem dX9_isEquation_203 : decode cX9_isEquation 203 = .ok (.iconst 0, 1) := by decide +kernel
theorem dX9_isEquation_204 : decode cX9_isEquation 204 = .ok (.ireturn, 1) := by decide +kernel
theorem dX9_isThree_0 : decode cX9_isThree 0 = .ok (.aload_n 0, 1) := by decide +kernel
theorem dX9_isThree_1 : decode cX9_isThree 1 = .ok (.getfield 39, 3) := by decide +kernel
theorem dX9_isThree_4 : decode cX9_isThree 4 = .ok (.iload_n 1, 1) := by decide +kernel
theorem dX9_isThree_5 : decode cX9_isThree 5 = .ok (.baload, 1) := by decide +kernel
theorem dX9_isThree_6 : decode cX9_isThree 6 = .ok (.ifCond .eq 15, 3) := by decide +kernel
theorem dX9_isThree_9 : decode cX9_isThree 9 = .ok (.iload_n 2, 1) := by decide +kernel
theorem dX9_isThree_10 : decode cX9_isThree 10 = .ok (.iload_n 3, 1) := by decide +kernel
theorem dX9_isThree_11 : decode cX9_isThree 11 = .ok (.iload 4, 2) := by decide +kernel
theorem dX9_isThree_13 : decode cX9_isThree 13 = .ok (.invokestatic 145, 3) := by decide +kernel
theorem dX9_isThree_16 : decode cX9_isThree 16 = .ok (.ifCond .ne 5, 3) := by decide +kernel
theorem dX9_isThree_19 : decode cX9_isThree 19 = .ok (.iconst 0, 1) := by decide +kernel
theorem dX9_isThree_20 : decode cX9_isThree 20 = .ok (.ireturn, 1) := by decide +kernel
theorem dX9_isThree_21 : decode cX9_isThree 21 = .ok (.aload_n 0, 1) := by decide +kernel
theorem dX9_isThree_22 : decode cX9_isThree 22 = .ok (.getfield 27, 3) := by decide +kernel
theorem dX9_isThree_25 : decode cX9_isThree 25 = .ok (.iload_n 1, 1) := by decide +kernel
theorem dX9_isThree_26 : decode cX9_isThree 26 = .ok (.iaload, 1) := by decide +kernel
theorem dX9_isThree_27 : decode cX9_isThree 27 = .ok (.iconst 1, 1) := by decide +kernel
theorem dX9_isThree_28 : decode cX9_isThree 28 = .ok (.if_icmp .ne 12, 3) := by decide +kernel
theorem dX9_isThree_31 : decode cX9_isThree 31 = .ok (.aload_n 0, 1) := by decide +kernel
theorem dX9_isThree_32 : decode cX9_isThree 32 = .ok (.iload_n 2, 1) := by decide +kernel
theorem dX9_isThree_33 : decode cX9_isThree 33 = .ok (.iload_n 3, 1) := by decide +kernel
theorem dX9_isThree_34 : decode cX9_isThree 34 = .ok (.invokevirtual 141, 3) := by decide +kernel
theorem dX9_isThree_37 : decode cX9_isThree 37 = .ok (.goto 9, 3) := by decide +kernel
theorem dX9_isThree_40 : decode cX9_isThree 40 = .ok (.aload_n 0, 1) := by decide +kernel
theorem dX9_isThree_41 : decode cX9_isThree 41 = .ok (.iload_n 2, 1) := by decide +kernel
theorem dX9_isThree_42 : decode cX9_isThree 42 = .ok (.iload_n 3, 1) := by decide +kernel
theorem dX9_isThree_43 : decode cX9_isThree 43 = .ok (.invokevirtual 149, 3) := by decide +kernel
theorem dX9_isThree_46 : decode cX9_isThree 46 = .ok (.iload 4, 2) := by decide +kernel
theorem dX9_isThree_48 : decode cX9_isThree 48 = .ok (.if_icmp .ne 7, 3) := by decide +kernel
theorem dX9_isThree_51 : decode cX9_isThree 51 = .ok (.iconst 1, 1) := by decide +kernel
theorem dX9_isThree_52 : decode cX9_isThree 52 = .ok (.goto 4, 3) := by decide +kernel
theorem dX9_isThree_55 : decode cX9_isThree 55 = .ok (.iconst 0, 1) := by decide +kernel
theorem dX9_isThree_56 : decode cX9_isThree 56 = .ok (.ireturn, 1) := by decide +kernel
theorem dX9_breaks_0 : decode cX9_breaks 0 = .ok (.aload_n 0, 1) := by decide +kernel
theorem dX9_breaks_1 : decode cX9_breaks 1 = .ok (.getfield 27, 3) := by decide +kernel
theorem dX9_breaks_4 : decode cX9_breaks 4 = .ok (.iload_n 2, 1) := by decide +kernel
theorem dX9_breaks_5 : decode cX9_breaks 5 = .ok (.iaload, 1) := by decide +kernel
theorem dX9_breaks_6 : decode cX9_breaks 6 = .ok (.tableswitch 62 0 4 #[34, 62, 62, 47, 54], 34) := by decide +kernel
theorem dX9_breaks_40 : decode cX9_breaks 40 = .ok (.aload_n 0, 1) := by decide +kernel
theorem dX9_breaks_41 : decode cX9_breaks 41 = .ok (.iload_n 1, 1) := by decide +kernel
theorem dX9_breaks_42 : decode cX9_breaks 42 = .ok (.aload_n 0, 1) := by decide +kernel
theorem dX9_breaks_43 : decode cX9_breaks 43 = .ok (.getfield 30, 3) := by decide +kernel
theorem dX9_breaks_46 : decode cX9_breaks 46 = .ok (.iload_n 2, 1) := by decide +kernel
theorem dX9_breaks_47 : decode cX9_breaks 47 = .ok (.iaload, 1) := by decide +kernel
theorem dX9_breaks_48 : decode cX9_breaks 48 = .ok (.iload_n 3, 1) := by decide +kernel
theorem dX9_breaks_49 : decode cX9_breaks 49 = .ok (.invokevirtual 152, 3) := by decide +kernel
theorem dX9_breaks_52 : decode cX9_breaks 52 = .ok (.ireturn, 1) := by decide +kernel
theorem dX9_breaks_53 : decode cX9_breaks 53 = .ok (.aload_n 0, 1) := by decide +kernel
theorem dX9_breaks_54 : decode cX9_breaks 54 = .ok (.iload_n 1, 1) := by decide +kernel
theorem dX9_breaks_55 : decode cX9_breaks 55 = .ok (.iload_n 3, 1) := by decide +kernel
theorem dX9_breaks_56 : decode cX9_breaks 56 = .ok (.invokevirtual 155, 3) := by decide +kernel
theorem dX9_breaks_59 : decode cX9_breaks 59 = .ok (.ireturn, 1) := by decide +kernel
theorem dX9_breaks_60 : decode cX9_breaks 60 = .ok (.aload_n 0, 1) := by decide +kernel
theorem dX9_breaks_61 : decode cX9_breaks 61 = .ok (.iload_n 1, 1) := by decide +kernel
theorem dX9_breaks_62 : decode cX9_breaks 62 = .ok (.iload_n 2, 1) := by decide +kernel
theorem dX9_breaks_63 : decode cX9_breaks 63 = .ok (.iload_n 3, 1) := by decide +kernel
theorem dX9_breaks_64 : decode cX9_breaks 64 = .ok (.invokevirtual 159, 3) := by decide +kernel
theorem dX9_breaks_67 : decode cX9_breaks 67 = .ok (.ireturn, 1) := by decide +kernel
theorem dX9_breaks_68 : decode cX9_breaks 68 = .ok (.aload_n 0, 1) := by decide +kernel
theorem dX9_breaks_69 : decode cX9_breaks 69 = .ok (.getfield 20, 3) := by decide +kernel
theorem dX9_breaks_72 : decode cX9_breaks 72 = .ok (.istore 4, 2) := by decide +kernel
theorem dX9_breaks_74 : decode cX9_breaks 74 = .ok (.iload 4, 2) := by decide +kernel
theorem dX9_breaks_76 : decode cX9_breaks 76 = .ok (.aload_n 0, 1) := by decide +kernel
theorem dX9_breaks_77 : decode cX9_breaks 77 = .ok (.getfield 20, 3) := by decide +kernel
theorem dX9_breaks_80 : decode cX9_breaks 80 = .ok (.aload_n 0, 1) := by decide +kernel
theorem dX9_breaks_81 : decode cX9_breaks 81 = .ok (.getfield 17, 3) := by decide +kernel
theorem dX9_breaks_84 : decode cX9_breaks 84 = .ok (.iadd, 1) := by decide +kernel
theorem dX9_breaks_85 : decode cX9_breaks 85 = .ok (.if_icmp .ge 101, 3) := by decide +kernel
theorem dX9_breaks_88 : decode cX9_breaks 88 = .ok (.aload_n 0, 1) := by decide +kernel
theorem dX9_breaks_89 : decode cX9_breaks 89 = .ok (.iload_n 1, 1) := by decide +kernel
theorem dX9_breaks_90 : decode cX9_breaks 90 = .ok (.iload 4, 2) := by decide +kernel
theorem dX9_breaks_92 : decode cX9_breaks 92 = .ok (.i2l, 1) := by decide +kernel
theorem dX9_breaks_93 : decode cX9_breaks 93 = .ok (.invokevirtual 134, 3) := by decide +kernel
theorem dX9_breaks_96 : decode cX9_breaks 96 = .ok (.ifCond .ne 6, 3) := by decide +kernel
theorem dX9_breaks_99 : decode cX9_breaks 99 = .ok (.goto 81, 3) := by decide +kernel
theorem dX9_breaks_102 : decode cX9_breaks 102 = .ok (.aload_n 0, 1) := by decide +kernel
theorem dX9_breaks_103 : decode cX9_breaks 103 = .ok (.getfield 20, 3) := by decide +kernel
theorem dX9_breaks_106 : decode cX9_breaks 106 = .ok (.istore 5, 2) := by decide +kernel
theorem dX9_breaks_108 : decode cX9_breaks 108 = .ok (.iload 5, 2) := by decide +kernel
theorem dX9_breaks_110 : decode cX9_breaks 110 = .ok (.aload_n 0, 1) := by decide +kernel
theorem dX9_breaks_111 : decode cX9_breaks 111 = .ok (.getfield 20, 3) := by decide +kernel
theorem dX9_breaks_114 : decode cX9_breaks 114 = .ok (.aload_n 0, 1) := by decide +kernel
theorem dX9_breaks_115 : decode cX9_breaks 115 = .ok (.getfield 17, 3) := by decide +kernel
theorem dX9_breaks_118 : decode cX9_breaks 118 = .ok (.iadd, 1) := by decide +kernel
theorem dX9_breaks_119 : decode cX9_breaks 119 = .ok (.if_icmp .ge 61, 3) := by decide +kernel
theorem dX9_breaks_122 : decode cX9_breaks 122 = .ok (.aload_n 0, 1) := by decide +kernel
theorem dX9_breaks_123 : decode cX9_breaks 123 = .ok (.iload_n 1, 1) := by decide +kernel
theorem dX9_breaks_124 : decode cX9_breaks 124 = .ok (.iload 5, 2) := by decide +kernel
theorem dX9_breaks_126 : decode cX9_breaks 126 = .ok (.i2l, 1) := by decide +kernel
theorem dX9_breaks_127 : decode cX9_breaks 127 = .ok (.invokevirtual 134, 3) := by decide +kernel
theorem dX9_breaks_130 : decode cX9_breaks 130 = .ok (.ifCond .eq 44, 3) := by decide +kernel
theorem dX9_breaks_133 : decode cX9_breaks 133 = .ok (.aload_n 0, 1) := by decide +kernel
theorem dX9_breaks_134 : decode cX9_breaks 134 = .ok (.iload_n 2, 1) := by decide +kernel
theorem dX9_breaks_135 : decode cX9_breaks 135 = .ok (.iload_n 3, 1) := by decide +kernel
theorem dX9_breaks_136 : decode cX9_breaks 136 = .ok (.iload 4, 2) := by decide +kernel
theorem dX9_breaks_138 : decode cX9_breaks 138 = .ok (.iload 5, 2) := by decide +kernel
theorem dX9_breaks_140 : decode cX9_breaks 140 = .ok (.invokevirtual 162, 3) := by decide +kernel
theorem dX9_breaks_143 : decode cX9_breaks 143 = .ok (.ifCond .ne 29, 3) := by decide +kernel
theorem dX9_breaks_146 : decode cX9_breaks 146 = .ok (.aload_n 0, 1) := by decide +kernel
theorem dX9_breaks_147 : decode cX9_breaks 147 = .ok (.iload_n 2, 1) := by decide +kernel
theorem dX9_breaks_148 : decode cX9_breaks 148 = .ok (.iload 4, 2) := by decide +kernel
theorem dX9_breaks_150 : decode cX9_breaks 150 = .ok (.iload_n 3, 1) := by decide +kernel
theorem dX9_breaks_151 : decode cX9_breaks 151 = .ok (.iload 5, 2) := by decide +kernel
theorem dX9_breaks_153 : decode cX9_breaks 153 = .ok (.invokevirtual 162, 3) := by decide +kernel
theorem dX9_breaks_156 : decode cX9_breaks 156 = .ok (.ifCond .ne 16, 3) := by decide +kernel
theorem dX9_breaks_159 : decode cX9_breaks 159 = .ok (.aload_n 0, 1) := by decide +kernel
theorem dX9_breaks_160 : decode cX9_breaks 160 = .ok (.iload_n 2, 1) := by decide +kernel
theorem dX9_breaks_161 : decode cX9_breaks 161 = .ok (.iload 4, 2) := by decide +kernel
theorem dX9_breaks_163 : decode cX9_breaks 163 = .ok (.iload 5, 2) := by decide +kernel
theorem dX9_breaks_165 : decode cX9_breaks 165 = .ok (.iload_n 3, 1) := by decide +kernel
theorem dX9_breaks_166 : decode cX9_breaks 166 = .ok (.invokevirtual 162, 3) := by decide +kernel
theorem dX9_breaks_169 : decode cX9_breaks 169 = .ok (.ifCond .eq 5, 3) := by decide +kernel
theorem dX9_breaks_172 : decode cX9_breaks 172 = .ok (.iconst 1, 1) := by decide +kernel
theorem dX9_breaks_173 : decode cX9_breaks 173 = .ok (.ireturn, 1) := by decide +kernel
theorem dX9_breaks_174 : decode cX9_breaks 174 = .ok (.iinc 5 1, 3) := by decide +kernel
theorem dX9_breaks_177 : decode cX9_breaks 177 = .ok (.goto (-69), 3) := by decide +kernel
theorem dX9_breaks_180 : decode cX9_breaks 180 = .ok (.iinc 4 1, 3) := by decide +kernel
theorem dX9_breaks_183 : decode cX9_breaks 183 = .ok (.goto (-109), 3) := by decide +kernel
theorem dX9_breaks_186 : decode cX9_breaks 186 = .ok (.iconst 0, 1) := by decide +kernel
theorem dX9_breaks_187 : decode cX9_breaks 187 = .ok (.ireturn, 1) := by decide +kernel
theorem dX9_breaksRow_0 : decode cX9_breaksRow 0 = .ok (.aload_n 0, 1) := by decide +kernel
theorem dX9_breaksRow_1 : decode cX9_breaksRow 1 = .ok (.getfield 82, 3) := by decide +kernel
theorem dX9_breaksRow_4 : decode cX9_breaksRow 4 = .ok (.ifCond .ne 10, 3) := by decide +kernel
theorem dX9_breaksRow_7 : decode cX9_breaksRow 7 = .ok (.aload_n 0, 1) := by decide +kernel
theorem dX9_breaksRow_8 : decode cX9_breaksRow 8 = .ok (.getfield 17, 3) := by decide +kernel
theorem dX9_breaksRow_11 : decode cX9_breaksRow 11 = .ok (.goto 9, 3) := by decide +kernel
theorem dX9_breaksRow_14 : decode cX9_breaksRow 14 = .ok (.aload_n 0, 1) := by decide +kernel
theorem dX9_breaksRow_15 : decode cX9_breaksRow 15 = .ok (.getfield 17, 3) := by decide +kernel
theorem dX9_breaksRow_18 : decode cX9_breaksRow 18 = .ok (.iconst 1, 1) := by decide +kernel
theorem dX9_breaksRow_19 : decode cX9_breaksRow 19 = .ok (.isub, 1) := by decide +kernel
theorem dX9_breaksRow_20 : decode cX9_breaksRow 20 = .ok (.istore 4, 2) := by decide +kernel
theorem dX9_breaksRow_22 : decode cX9_breaksRow 22 = .ok (.iconst 1, 1) := by decide +kernel
theorem dX9_breaksRow_23 : decode cX9_breaksRow 23 = .ok (.istore 5, 2) := by decide +kernel
theorem dX9_breaksRow_25 : decode cX9_breaksRow 25 = .ok (.iload 5, 2) := by decide +kernel
theorem dX9_breaksRow_27 : decode cX9_breaksRow 27 = .ok (.iload 4, 2) := by decide +kernel
theorem dX9_breaksRow_29 : decode cX9_breaksRow 29 = .ok (.if_icmp .gt 62, 3) := by decide +kernel
theorem dX9_breaksRow_32 : decode cX9_breaksRow 32 = .ok (.iload_n 3, 1) := by decide +kernel
theorem dX9_breaksRow_33 : decode cX9_breaksRow 33 = .ok (.istore 6, 2) := by decide +kernel
theorem dX9_breaksRow_35 : decode cX9_breaksRow 35 = .ok (.iconst 0, 1) := by decide +kernel
theorem dX9_breaksRow_36 : decode cX9_breaksRow 36 = .ok (.istore 7, 2) := by decide +kernel
theorem dX9_breaksRow_38 : decode cX9_breaksRow 38 = .ok (.iload 7, 2) := by decide +kernel
theorem dX9_breaksRow_40 : decode cX9_breaksRow 40 = .ok (.iload_n 2, 1) := by decide +kernel
theorem dX9_breaksRow_41 : decode cX9_breaksRow 41 = .ok (.if_icmp .ge 44, 3) := by decide +kernel
theorem dX9_breaksRow_44 : decode cX9_breaksRow 44 = .ok (.aload_n 0, 1) := by decide +kernel
theorem dX9_breaksRow_45 : decode cX9_breaksRow 45 = .ok (.iload 6, 2) := by decide +kernel
theorem dX9_breaksRow_47 : decode cX9_breaksRow 47 = .ok (.i2l, 1) := by decide +kernel
theorem dX9_breaksRow_48 : decode cX9_breaksRow 48 = .ok (.invokevirtual 109, 3) := by decide +kernel
theorem dX9_breaksRow_51 : decode cX9_breaksRow 51 = .ok (.ifCond .eq 18, 3) := by decide +kernel
theorem dX9_breaksRow_54 : decode cX9_breaksRow 54 = .ok (.aload_n 0, 1) := by decide +kernel
theorem dX9_breaksRow_55 : decode cX9_breaksRow 55 = .ok (.iload_n 1, 1) := by decide +kernel
theorem dX9_breaksRow_56 : decode cX9_breaksRow 56 = .ok (.iload 6, 2) := by decide +kernel
theorem dX9_breaksRow_58 : decode cX9_breaksRow 58 = .ok (.iload 5, 2) := by decide +kernel
theorem dX9_breaksRow_60 : decode cX9_breaksRow 60 = .ok (.iload_n 2, 1) := by decide +kernel
theorem dX9_breaksRow_61 : decode cX9_breaksRow 61 = .ok (.invokevirtual 166, 3) := by decide +kernel
theorem dX9_breaksRow_64 : decode cX9_breaksRow 64 = .ok (.ifCond .eq 5, 3) := by decide +kernel
theorem dX9_breaksRow_67 : decode cX9_breaksRow 67 = .ok (.iconst 1, 1) := by decide +kernel
theorem dX9_breaksRow_68 : decode cX9_breaksRow 68 = .ok (.ireturn, 1) := by decide +kernel
theorem dX9_breaksRow_69 : decode cX9_breaksRow 69 = .ok (.aload_n 0, 1) := by decide +kernel
theorem dX9_breaksRow_70 : decode cX9_breaksRow 70 = .ok (.iload 6, 2) := by decide +kernel
theorem dX9_breaksRow_72 : decode cX9_breaksRow 72 = .ok (.iload 5, 2) := by decide +kernel
theorem dX9_breaksRow_74 : decode cX9_breaksRow 74 = .ok (.invokevirtual 169, 3) := by decide +kernel
theorem dX9_breaksRow_77 : decode cX9_breaksRow 77 = .ok (.istore 6, 2) := by decide +kernel
theorem dX9_breaksRow_79 : decode cX9_breaksRow 79 = .ok (.iinc 7 1, 3) := by decide +kernel
theorem dX9_breaksRow_82 : decode cX9_breaksRow 82 = .ok (.goto (-44), 3) := by decide +kernel
theorem dX9_breaksRow_85 : decode cX9_breaksRow 85 = .ok (.iinc 5 1, 3) := by decide +kernel
theorem dX9_breaksRow_88 : decode cX9_breaksRow 88 = .ok (.goto (-63), 3) := by decide +kernel
theorem dX9_breaksRow_91 : decode cX9_breaksRow 91 = .ok (.iconst 0, 1) := by decide +kernel
theorem dX9_breaksRow_92 : decode cX9_breaksRow 92 = .ok (.ireturn, 1) := by decide +kernel
theorem dX9_breaksApart_0 : decode cX9_breaksApart 0 = .ok (.aload_n 0, 1) := by decide +kernel
theorem dX9_breaksApart_1 : decode cX9_breaksApart 1 = .ok (.getfield 20, 3) := by decide +kernel
theorem dX9_breaksApart_4 : decode cX9_breaksApart 4 = .ok (.istore_n 3, 1) := by decide +kernel
theorem dX9_breaksApart_5 : decode cX9_breaksApart 5 = .ok (.iload_n 3, 1) := by decide +kernel
theorem dX9_breaksApart_6 : decode cX9_breaksApart 6 = .ok (.aload_n 0, 1) := by decide +kernel
theorem dX9_breaksApart_7 : decode cX9_breaksApart 7 = .ok (.getfield 20, 3) := by decide +kernel
theorem dX9_breaksApart_10 : decode cX9_breaksApart 10 = .ok (.aload_n 0, 1) := by decide +kernel
theorem dX9_breaksApart_11 : decode cX9_breaksApart 11 = .ok (.getfield 17, 3) := by decide +kernel
theorem dX9_breaksApart_14 : decode cX9_breaksApart 14 = .ok (.iadd, 1) := by decide +kernel
theorem dX9_breaksApart_15 : decode cX9_breaksApart 15 = .ok (.if_icmp .ge 114, 3) := by decide +kernel
theorem dX9_breaksApart_18 : decode cX9_breaksApart 18 = .ok (.aload_n 0, 1) := by decide +kernel
theorem dX9_breaksApart_19 : decode cX9_breaksApart 19 = .ok (.iload_n 1, 1) := by decide +kernel
theorem dX9_breaksApart_20 : decode cX9_breaksApart 20 = .ok (.iload_n 3, 1) := by decide +kernel
theorem dX9_breaksApart_21 : decode cX9_breaksApart 21 = .ok (.i2l, 1) := by decide +kernel
theorem dX9_breaksApart_22 : decode cX9_breaksApart 22 = .ok (.invokevirtual 134, 3) := by decide +kernel
theorem dX9_breaksApart_25 : decode cX9_breaksApart 25 = .ok (.ifCond .ne 6, 3) := by decide +kernel
theorem dX9_breaksApart_28 : decode cX9_breaksApart 28 = .ok (.goto 95, 3) := by decide +kernel
theorem dX9_breaksApart_31 : decode cX9_breaksApart 31 = .ok (.aload_n 0, 1) := by decide +kernel
theorem dX9_breaksApart_32 : decode cX9_breaksApart 32 = .ok (.iload_n 2, 1) := by decide +kernel
theorem dX9_breaksApart_33 : decode cX9_breaksApart 33 = .ok (.iload_n 3, 1) := by decide +kernel
theorem dX9_breaksApart_34 : decode cX9_breaksApart 34 = .ok (.invokevirtual 141, 3) := by decide +kernel
theorem dX9_breaksApart_37 : decode cX9_breaksApart 37 = .ok (.istore 4, 2) := by decide +kernel
theorem dX9_breaksApart_39 : decode cX9_breaksApart 39 = .ok (.aload_n 0, 1) := by decide +kernel
theorem dX9_breaksApart_40 : decode cX9_breaksApart 40 = .ok (.getfield 20, 3) := by decide +kernel
theorem dX9_breaksApart_43 : decode cX9_breaksApart 43 = .ok (.istore 5, 2) := by decide +kernel
theorem dX9_breaksApart_45 : decode cX9_breaksApart 45 = .ok (.iload 5, 2) := by decide +kernel
theorem dX9_breaksApart_47 : decode cX9_breaksApart 47 = .ok (.aload_n 0, 1) := by decide +kernel
theorem dX9_breaksApart_48 : decode cX9_breaksApart 48 = .ok (.getfield 20, 3) := by decide +kernel
theorem dX9_breaksApart_51 : decode cX9_breaksApart 51 = .ok (.aload_n 0, 1) := by decide +kernel
theorem dX9_breaksApart_52 : decode cX9_breaksApart 52 = .ok (.getfield 17, 3) := by decide +kernel
theorem dX9_breaksApart_55 : decode cX9_breaksApart 55 = .ok (.iadd, 1) := by decide +kernel
theorem dX9_breaksApart_56 : decode cX9_breaksApart 56 = .ok (.if_icmp .ge 67, 3) := by decide +kernel
theorem dX9_breaksApart_59 : decode cX9_breaksApart 59 = .ok (.aload_n 0, 1) := by decide +kernel
theorem dX9_breaksApart_60 : decode cX9_breaksApart 60 = .ok (.iload 4, 2) := by decide +kernel
theorem dX9_breaksApart_62 : decode cX9_breaksApart 62 = .ok (.iload 5, 2) := by decide +kernel
theorem dX9_breaksApart_64 : decode cX9_breaksApart 64 = .ok (.invokevirtual 169, 3) := by decide +kernel
theorem dX9_breaksApart_67 : decode cX9_breaksApart 67 = .ok (.istore 6, 2) := by decide +kernel
theorem dX9_breaksApart_69 : decode cX9_breaksApart 69 = .ok (.aload_n 0, 1) := by decide +kernel
theorem dX9_breaksApart_70 : decode cX9_breaksApart 70 = .ok (.iload_n 1, 1) := by decide +kernel
theorem dX9_breaksApart_71 : decode cX9_breaksApart 71 = .ok (.iload 5, 2) := by decide +kernel
theorem dX9_breaksApart_73 : decode cX9_breaksApart 73 = .ok (.i2l, 1) := by decide +kernel
theorem dX9_breaksApart_74 : decode cX9_breaksApart 74 = .ok (.invokevirtual 134, 3) := by decide +kernel
theorem dX9_breaksApart_77 : decode cX9_breaksApart 77 = .ok (.ifCond .eq 40, 3) := by decide +kernel
theorem dX9_breaksApart_80 : decode cX9_breaksApart 80 = .ok (.aload_n 0, 1) := by decide +kernel
theorem dX9_breaksApart_81 : decode cX9_breaksApart 81 = .ok (.iload_n 1, 1) := by decide +kernel
theorem dX9_breaksApart_82 : decode cX9_breaksApart 82 = .ok (.iload 6, 2) := by decide +kernel
theorem dX9_breaksApart_84 : decode cX9_breaksApart 84 = .ok (.i2l, 1) := by decide +kernel
theorem dX9_breaksApart_85 : decode cX9_breaksApart 85 = .ok (.invokevirtual 134, 3) := by decide +kernel
theorem dX9_breaksApart_88 : decode cX9_breaksApart 88 = .ok (.ifCond .eq 29, 3) := by decide +kernel
theorem dX9_breaksApart_91 : decode cX9_breaksApart 91 = .ok (.iload 5, 2) := by decide +kernel
theorem dX9_breaksApart_93 : decode cX9_breaksApart 93 = .ok (.iload_n 2, 1) := by decide +kernel
theorem dX9_breaksApart_94 : decode cX9_breaksApart 94 = .ok (.if_icmp .ne 9, 3) := by decide +kernel
theorem dX9_breaksApart_97 : decode cX9_breaksApart 97 = .ok (.iload 6, 2) := by decide +kernel
theorem dX9_breaksApart_99 : decode cX9_breaksApart 99 = .ok (.iload_n 3, 1) := by decide +kernel
theorem dX9_breaksApart_100 : decode cX9_breaksApart 100 = .ok (.if_icmp .eq 17, 3) := by decide +kernel
theorem dX9_breaksApart_103 : decode cX9_breaksApart 103 = .ok (.iload 5, 2) := by decide +kernel
theorem dX9_breaksApart_105 : decode cX9_breaksApart 105 = .ok (.iload_n 3, 1) := by decide +kernel
theorem dX9_breaksApart_106 : decode cX9_breaksApart 106 = .ok (.if_icmp .ne 9, 3) := by decide +kernel
theorem dX9_breaksApart_109 : decode cX9_breaksApart 109 = .ok (.iload 6, 2) := by decide +kernel
theorem dX9_breaksApart_111 : decode cX9_breaksApart 111 = .ok (.iload_n 2, 1) := by decide +kernel
theorem dX9_breaksApart_112 : decode cX9_breaksApart 112 = .ok (.if_icmp .eq 5, 3) := by decide +kernel
theorem dX9_breaksApart_115 : decode cX9_breaksApart 115 = .ok (.iconst 1, 1) := by decide +kernel
theorem dX9_breaksApart_116 : decode cX9_breaksApart 116 = .ok (.ireturn, 1) := by decide +kernel
theorem dX9_breaksApart_117 : decode cX9_breaksApart 117 = .ok (.iinc 5 1, 3) := by decide +kernel
theorem dX9_breaksApart_120 : decode cX9_breaksApart 120 = .ok (.goto (-75), 3) := by decide +kernel
theorem dX9_breaksApart_123 : decode cX9_breaksApart 123 = .ok (.iinc 3 1, 3) := by decide +kernel
theorem dX9_breaksApart_126 : decode cX9_breaksApart 126 = .ok (.goto (-121), 3) := by decide +kernel
theorem dX9_breaksApart_129 : decode cX9_breaksApart 129 = .ok (.iconst 0, 1) := by decide +kernel
theorem dX9_breaksApart_130 : decode cX9_breaksApart 130 = .ok (.ireturn, 1) := by decide +kernel
theorem dX9_breaksEquation_0 : decode cX9_breaksEquation 0 = .ok (.aload_n 0, 1) := by decide +kernel
theorem dX9_breaksEquation_1 : decode cX9_breaksEquation 1 = .ok (.getfield 20, 3) := by decide +kernel
theorem dX9_breaksEquation_4 : decode cX9_breaksEquation 4 = .ok (.istore 4, 2) := by decide +kernel
theorem dX9_breaksEquation_6 : decode cX9_breaksEquation 6 = .ok (.iload 4, 2) := by decide +kernel
theorem dX9_breaksEquation_8 : decode cX9_breaksEquation 8 = .ok (.aload_n 0, 1) := by decide +kernel
theorem dX9_breaksEquation_9 : decode cX9_breaksEquation 9 = .ok (.getfield 20, 3) := by decide +kernel
theorem dX9_breaksEquation_12 : decode cX9_breaksEquation 12 = .ok (.aload_n 0, 1) := by decide +kernel
theorem dX9_breaksEquation_13 : decode cX9_breaksEquation 13 = .ok (.getfield 17, 3) := by decide +kernel
theorem dX9_breaksEquation_16 : decode cX9_breaksEquation 16 = .ok (.iadd, 1) := by decide +kernel
theorem dX9_breaksEquation_17 : decode cX9_breaksEquation 17 = .ok (.if_icmp .ge 110, 3) := by decide +kernel
theorem dX9_breaksEquation_20 : decode cX9_breaksEquation 20 = .ok (.aload_n 0, 1) := by decide +kernel
theorem dX9_breaksEquation_21 : decode cX9_breaksEquation 21 = .ok (.getfield 20, 3) := by decide +kernel
theorem dX9_breaksEquation_24 : decode cX9_breaksEquation 24 = .ok (.istore 5, 2) := by decide +kernel
theorem dX9_breaksEquation_26 : decode cX9_breaksEquation 26 = .ok (.iload 5, 2) := by decide +kernel
theorem dX9_breaksEquation_28 : decode cX9_breaksEquation 28 = .ok (.aload_n 0, 1) := by decide +kernel
theorem dX9_breaksEquation_29 : decode cX9_breaksEquation 29 = .ok (.getfield 20, 3) := by decide +kernel
theorem dX9_breaksEquation_32 : decode cX9_breaksEquation 32 = .ok (.aload_n 0, 1) := by decide +kernel
theorem dX9_breaksEquation_33 : decode cX9_breaksEquation 33 = .ok (.getfield 17, 3) := by decide +kernel
theorem dX9_breaksEquation_36 : decode cX9_breaksEquation 36 = .ok (.iadd, 1) := by decide +kernel
theorem dX9_breaksEquation_37 : decode cX9_breaksEquation 37 = .ok (.if_icmp .ge 84, 3) := by decide +kernel
theorem dX9_breaksEquation_40 : decode cX9_breaksEquation 40 = .ok (.aload_n 0, 1) := by decide +kernel
theorem dX9_breaksEquation_41 : decode cX9_breaksEquation 41 = .ok (.getfield 30, 3) := by decide +kernel
theorem dX9_breaksEquation_44 : decode cX9_breaksEquation 44 = .ok (.iload_n 2, 1) := by decide +kernel
theorem dX9_breaksEquation_45 : decode cX9_breaksEquation 45 = .ok (.iaload, 1) := by decide +kernel
theorem dX9_breaksEquation_46 : decode cX9_breaksEquation 46 = .ok (.ifCond .eq 19, 3) := by decide +kernel
theorem dX9_breaksEquation_49 : decode cX9_breaksEquation 49 = .ok (.aload_n 0, 1) := by decide +kernel
theorem dX9_breaksEquation_50 : decode cX9_breaksEquation 50 = .ok (.iload_n 1, 1) := by decide +kernel
theorem dX9_breaksEquation_51 : decode cX9_breaksEquation 51 = .ok (.iload_n 2, 1) := by decide +kernel
theorem dX9_breaksEquation_52 : decode cX9_breaksEquation 52 = .ok (.iload_n 3, 1) := by decide +kernel
theorem dX9_breaksEquation_53 : decode cX9_breaksEquation 53 = .ok (.iload 4, 2) := by decide +kernel
theorem dX9_breaksEquation_55 : decode cX9_breaksEquation 55 = .ok (.iload 5, 2) := by decide +kernel
theorem dX9_breaksEquation_57 : decode cX9_breaksEquation 57 = .ok (.invokevirtual 172, 3) := by decide +kernel
theorem dX9_breaksEquation_60 : decode cX9_breaksEquation 60 = .ok (.ifCond .eq 5, 3) := by decide +kernel
theorem dX9_breaksEquation_63 : decode cX9_breaksEquation 63 = .ok (.iconst 1, 1) := by decide +kernel
theorem dX9_breaksEquation_64 : decode cX9_breaksEquation 64 = .ok (.ireturn, 1) := by decide +kernel
theorem dX9_breaksEquation_65 : decode cX9_breaksEquation 65 = .ok (.aload_n 0, 1) := by decide +kernel
theorem dX9_breaksEquation_66 : decode cX9_breaksEquation 66 = .ok (.getfield 33, 3) := by decide +kernel
theorem dX9_breaksEquation_69 : decode cX9_breaksEquation 69 = .ok (.iload_n 2, 1) := by decide +kernel
theorem dX9_breaksEquation_70 : decode cX9_breaksEquation 70 = .ok (.iaload, 1) := by decide +kernel
theorem dX9_breaksEquation_71 : decode cX9_breaksEquation 71 = .ok (.ifCond .eq 19, 3) := by decide +kernel
theorem dX9_breaksEquation_74 : decode cX9_breaksEquation 74 = .ok (.aload_n 0, 1) := by decide +kernel
theorem dX9_breaksEquation_75 : decode cX9_breaksEquation 75 = .ok (.iload_n 1, 1) := by decide +kernel
theorem dX9_breaksEquation_76 : decode cX9_breaksEquation 76 = .ok (.iload_n 2, 1) := by decide +kernel
theorem dX9_breaksEquation_77 : decode cX9_breaksEquation 77 = .ok (.iload 4, 2) := by decide +kernel
theorem dX9_breaksEquation_79 : decode cX9_breaksEquation 79 = .ok (.iload_n 3, 1) := by decide +kernel
theorem dX9_breaksEquation_80 : decode cX9_breaksEquation 80 = .ok (.iload 5, 2) := by decide +kernel
theorem dX9_breaksEquation_82 : decode cX9_breaksEquation 82 = .ok (.invokevirtual 172, 3) := by decide +kernel
theorem dX9_breaksEquation_85 : decode cX9_breaksEquation 85 = .ok (.ifCond .eq 5, 3) := by decide +kernel
theorem dX9_breaksEquation_88 : decode cX9_breaksEquation 88 = .ok (.iconst 1, 1) := by decide +kernel
theorem dX9_breaksEquation_89 : decode cX9_breaksEquation 89 = .ok (.ireturn, 1) := by decide +kernel
theorem dX9_breaksEquation_90 : decode cX9_breaksEquation 90 = .ok (.aload_n 0, 1) := by decide +kernel
theorem dX9_breaksEquation_91 : decode cX9_breaksEquation 91 = .ok (.getfield 36, 3) := by decide +kernel
theorem dX9_breaksEquation_94 : decode cX9_breaksEquation 94 = .ok (.iload_n 2, 1) := by decide +kernel
theorem dX9_breaksEquation_95 : decode cX9_breaksEquation 95 = .ok (.iaload, 1) := by decide +kernel
theorem dX9_breaksEquation_96 : decode cX9_breaksEquation 96 = .ok (.ifCond .eq 19, 3) := by decide +kernel
theorem dX9_breaksEquation_99 : decode cX9_breaksEquation 99 = .ok (.aload_n 0, 1) := by decide +kernel
theorem dX9_breaksEquation_100 : decode cX9_breaksEquation 100 = .ok (.iload_n 1, 1) := by decide +kernel
theorem dX9_breaksEquation_101 : decode cX9_breaksEquation 101 = .ok (.iload_n 2, 1) := by decide +kernel
theorem dX9_breaksEquation_102 : decode cX9_breaksEquation 102 = .ok (.iload 4, 2) := by decide +kernel
theorem dX9_breaksEquation_104 : decode cX9_breaksEquation 104 = .ok (.iload 5, 2) := by decide +kernel
theorem dX9_breaksEquation_106 : decode cX9_breaksEquation 106 = .ok (.iload_n 3, 1) := by decide +kernel
theorem dX9_breaksEquation_107 : decode cX9_breaksEquation 107 = .ok (.invokevirtual 172, 3) := by decide +kernel
theorem dX9_breaksEquation_110 : decode cX9_breaksEquation 110 = .ok (.ifCond .eq 5, 3) := by decide +kernel
theorem dX9_breaksEquation_113 : decode cX9_breaksEquation 113 = .ok (.iconst 1, 1) := by decide +kernel
theorem dX9_breaksEquation_114 : decode cX9_breaksEquation 114 = .ok (.ireturn, 1) := by decide +kernel
theorem dX9_breaksEquation_115 : decode cX9_breaksEquation 115 = .ok (.iinc 5 1, 3) := by decide +kernel
theorem dX9_breaksEquation_118 : decode cX9_breaksEquation 118 = .ok (.goto (-92), 3) := by decide +kernel
theorem dX9_breaksEquation_121 : decode cX9_breaksEquation 121 = .ok (.iinc 4 1, 3) := by decide +kernel
theorem dX9_breaksEquation_124 : decode cX9_breaksEquation 124 = .ok (.goto (-118), 3) := by decide +kernel
theorem dX9_breaksEquation_127 : decode cX9_breaksEquation 127 = .ok (.iconst 0, 1) := by decide +kernel
theorem dX9_breaksEquation_128 : decode cX9_breaksEquation 128 = .ok (.ireturn, 1) := by decide +kernel
theorem dX9_comes_0 : decode cX9_comes 0 = .ok (.aload_n 0, 1) := by decide +kernel
theorem dX9_comes_1 : decode cX9_comes 1 = .ok (.iload_n 1, 1) := by decide +kernel
theorem dX9_comes_2 : decode cX9_comes 2 = .ok (.iload_n 2, 1) := by decide +kernel
theorem dX9_comes_3 : decode cX9_comes 3 = .ok (.iconst 1, 1) := by decide +kernel
theorem dX9_comes_4 : decode cX9_comes 4 = .ok (.invokevirtual 122, 3) := by decide +kernel
theorem dX9_comes_7 : decode cX9_comes 7 = .ok (.iconst 0, 1) := by decide +kernel
theorem dX9_comes_8 : decode cX9_comes 8 = .ok (.istore_n 3, 1) := by decide +kernel
theorem dX9_comes_9 : decode cX9_comes 9 = .ok (.iload_n 3, 1) := by decide +kernel
theorem dX9_comes_10 : decode cX9_comes 10 = .ok (.aload_n 0, 1) := by decide +kernel
theorem dX9_comes_11 : decode cX9_comes 11 = .ok (.getfield 96, 3) := by decide +kernel
theorem dX9_comes_14 : decode cX9_comes 14 = .ok (.if_icmp .ge 31, 3) := by decide +kernel
theorem dX9_comes_17 : decode cX9_comes 17 = .ok (.aload_n 0, 1) := by decide +kernel
theorem dX9_comes_18 : decode cX9_comes 18 = .ok (.iload_n 1, 1) := by decide +kernel
theorem dX9_comes_19 : decode cX9_comes 19 = .ok (.iload_n 3, 1) := by decide +kernel
theorem dX9_comes_20 : decode cX9_comes 20 = .ok (.iload_n 2, 1) := by decide +kernel
theorem dX9_comes_21 : decode cX9_comes 21 = .ok (.invokevirtual 176, 3) := by decide +kernel
theorem dX9_comes_24 : decode cX9_comes 24 = .ok (.ifCond .ne 6, 3) := by decide +kernel
theorem dX9_comes_27 : decode cX9_comes 27 = .ok (.goto 12, 3) := by decide +kernel
theorem dX9_comes_30 : decode cX9_comes 30 = .ok (.aload_n 0, 1) := by decide +kernel
theorem dX9_comes_31 : decode cX9_comes 31 = .ok (.iload_n 1, 1) := by decide +kernel
theorem dX9_comes_32 : decode cX9_comes 32 = .ok (.iload_n 2, 1) := by decide +kernel
theorem dX9_comes_33 : decode cX9_comes 33 = .ok (.iconst 0, 1) := by decide +kernel
theorem dX9_comes_34 : decode cX9_comes 34 = .ok (.invokevirtual 122, 3) := by decide +kernel
theorem dX9_comes_37 : decode cX9_comes 37 = .ok (.iconst 0, 1) := by decide +kernel
theorem dX9_comes_38 : decode cX9_comes 38 = .ok (.ireturn, 1) := by decide +kernel
theorem dX9_comes_39 : decode cX9_comes 39 = .ok (.iinc 3 1, 3) := by decide +kernel
theorem dX9_comes_42 : decode cX9_comes 42 = .ok (.goto (-33), 3) := by decide +kernel
theorem dX9_comes_45 : decode cX9_comes 45 = .ok (.iconst 1, 1) := by decide +kernel
theorem dX9_comes_46 : decode cX9_comes 46 = .ok (.ireturn, 1) := by decide +kernel
theorem dX9_finds_0 : decode cX9_finds 0 = .ok (.aload_n 0, 1) := by decide +kernel
theorem dX9_finds_1 : decode cX9_finds 1 = .ok (.getfield 42, 3) := by decide +kernel
theorem dX9_finds_4 : decode cX9_finds 4 = .ok (.iconst 0, 1) := by decide +kernel
theorem dX9_finds_5 : decode cX9_finds 5 = .ok (.iload_n 1, 1) := by decide +kernel
theorem dX9_finds_6 : decode cX9_finds 6 = .ok (.iastore, 1) := by decide +kernel
theorem dX9_finds_7 : decode cX9_finds 7 = .ok (.aload_n 0, 1) := by decide +kernel
theorem dX9_finds_8 : decode cX9_finds 8 = .ok (.getfield 42, 3) := by decide +kernel
theorem dX9_finds_11 : decode cX9_finds 11 = .ok (.iconst 1, 1) := by decide +kernel
theorem dX9_finds_12 : decode cX9_finds 12 = .ok (.iload_n 2, 1) := by decide +kernel
theorem dX9_finds_13 : decode cX9_finds 13 = .ok (.iastore, 1) := by decide +kernel
theorem dX9_finds_14 : decode cX9_finds 14 = .ok (.aload_n 0, 1) := by decide +kernel
theorem dX9_finds_15 : decode cX9_finds 15 = .ok (.getfield 42, 3) := by decide +kernel
theorem dX9_finds_18 : decode cX9_finds 18 = .ok (.iconst 2, 1) := by decide +kernel
theorem dX9_finds_19 : decode cX9_finds 19 = .ok (.iload_n 3, 1) := by decide +kernel
theorem dX9_finds_20 : decode cX9_finds 20 = .ok (.iastore, 1) := by decide +kernel
theorem dX9_finds_21 : decode cX9_finds 21 = .ok (.aload_n 0, 1) := by decide +kernel
theorem dX9_finds_22 : decode cX9_finds 22 = .ok (.getfield 42, 3) := by decide +kernel
theorem dX9_finds_25 : decode cX9_finds 25 = .ok (.iconst 3, 1) := by decide +kernel
theorem dX9_finds_26 : decode cX9_finds 26 = .ok (.iload 4, 2) := by decide +kernel
theorem dX9_finds_28 : decode cX9_finds 28 = .ok (.iastore, 1) := by decide +kernel
theorem dX9_finds_29 : decode cX9_finds 29 = .ok (.iconst 1, 1) := by decide +kernel
theorem dX9_finds_30 : decode cX9_finds 30 = .ok (.ireturn, 1) := by decide +kernel
theorem dX9_clashes_0 : decode cX9_clashes 0 = .ok (.aload_n 0, 1) := by decide +kernel
theorem dX9_clashes_1 : decode cX9_clashes 1 = .ok (.getfield 20, 3) := by decide +kernel
theorem dX9_clashes_4 : decode cX9_clashes 4 = .ok (.aload_n 0, 1) := by decide +kernel
theorem dX9_clashes_5 : decode cX9_clashes 5 = .ok (.getfield 17, 3) := by decide +kernel
theorem dX9_clashes_8 : decode cX9_clashes 8 = .ok (.iadd, 1) := by decide +kernel
theorem dX9_clashes_9 : decode cX9_clashes 9 = .ok (.istore_n 3, 1) := by decide +kernel
theorem dX9_clashes_10 : decode cX9_clashes 10 = .ok (.aload_n 0, 1) := by decide +kernel
theorem dX9_clashes_11 : decode cX9_clashes 11 = .ok (.getfield 27, 3) := by decide +kernel
theorem dX9_clashes_14 : decode cX9_clashes 14 = .ok (.iload_n 2, 1) := by decide +kernel
theorem dX9_clashes_15 : decode cX9_clashes 15 = .ok (.iaload, 1) := by decide +kernel
theorem dX9_clashes_16 : decode cX9_clashes 16 = .ok (.istore 4, 2) := by decide +kernel
theorem dX9_clashes_18 : decode cX9_clashes 18 = .ok (.aload_n 0, 1) := by decide +kernel
theorem dX9_clashes_19 : decode cX9_clashes 19 = .ok (.getfield 20, 3) := by decide +kernel
theorem dX9_clashes_22 : decode cX9_clashes 22 = .ok (.istore 5, 2) := by decide +kernel
theorem dX9_clashes_24 : decode cX9_clashes 24 = .ok (.iload 5, 2) := by decide +kernel
theorem dX9_clashes_26 : decode cX9_clashes 26 = .ok (.iload_n 3, 1) := by decide +kernel
theorem dX9_clashes_27 : decode cX9_clashes 27 = .ok (.if_icmp .ge 443, 3) := by decide +kernel
theorem dX9_clashes_30 : decode cX9_clashes 30 = .ok (.iload 4, 2) := by decide +kernel
theorem dX9_clashes_32 : decode cX9_clashes 32 = .ok (.iconst 4, 1) := by decide +kernel
theorem dX9_clashes_33 : decode cX9_clashes 33 = .ok (.if_icmp .ne 16, 3) := by decide +kernel
theorem dX9_clashes_36 : decode cX9_clashes 36 = .ok (.aload_n 0, 1) := by decide +kernel
theorem dX9_clashes_37 : decode cX9_clashes 37 = .ok (.getfield 30, 3) := by decide +kernel
theorem dX9_clashes_40 : decode cX9_clashes 40 = .ok (.iload_n 2, 1) := by decide +kernel
theorem dX9_clashes_41 : decode cX9_clashes 41 = .ok (.iaload, 1) := by decide +kernel
theorem dX9_clashes_42 : decode cX9_clashes 42 = .ok (.ifCond .ne 7, 3) := by decide +kernel
theorem dX9_clashes_45 : decode cX9_clashes 45 = .ok (.iconst 1, 1) := by decide +kernel
theorem dX9_clashes_46 : decode cX9_clashes 46 = .ok (.goto 4, 3) := by decide +kernel
theorem dX9_clashes_49 : decode cX9_clashes 49 = .ok (.iconst 0, 1) := by decide +kernel
theorem dX9_clashes_50 : decode cX9_clashes 50 = .ok (.istore 6, 2) := by decide +kernel
theorem dX9_clashes_52 : decode cX9_clashes 52 = .ok (.iload 6, 2) := by decide +kernel
theorem dX9_clashes_54 : decode cX9_clashes 54 = .ok (.ifCond .eq 12, 3) := by decide +kernel
theorem dX9_clashes_57 : decode cX9_clashes 57 = .ok (.iload 5, 2) := by decide +kernel
theorem dX9_clashes_59 : decode cX9_clashes 59 = .ok (.aload_n 0, 1) := by decide +kernel
theorem dX9_clashes_60 : decode cX9_clashes 60 = .ok (.getfield 20, 3) := by decide +kernel
theorem dX9_clashes_63 : decode cX9_clashes 63 = .ok (.if_icmp .gt 401, 3) := by decide +kernel
theorem dX9_clashes_66 : decode cX9_clashes 66 = .ok (.iload 6, 2) := by decide +kernel
theorem dX9_clashes_68 : decode cX9_clashes 68 = .ok (.ifCond .ne 17, 3) := by decide +kernel
theorem dX9_clashes_71 : decode cX9_clashes 71 = .ok (.aload_n 0, 1) := by decide +kernel
theorem dX9_clashes_72 : decode cX9_clashes 72 = .ok (.iload_n 1, 1) := by decide +kernel
theorem dX9_clashes_73 : decode cX9_clashes 73 = .ok (.iload 5, 2) := by decide +kernel
theorem dX9_clashes_75 : decode cX9_clashes 75 = .ok (.i2l, 1) := by decide +kernel
theorem dX9_clashes_76 : decode cX9_clashes 76 = .ok (.invokevirtual 134, 3) := by decide +kernel
theorem dX9_clashes_79 : decode cX9_clashes 79 = .ok (.ifCond .ne 6, 3) := by decide +kernel
theorem dX9_clashes_82 : decode cX9_clashes 82 = .ok (.goto 382, 3) := by decide +kernel
theorem dX9_clashes_85 : decode cX9_clashes 85 = .ok (.aload_n 0, 1) := by decide +kernel
theorem dX9_clashes_86 : decode cX9_clashes 86 = .ok (.getfield 20, 3) := by decide +kernel
theorem dX9_clashes_89 : decode cX9_clashes 89 = .ok (.istore 7, 2) := by decide +kernel
theorem dX9_clashes_91 : decode cX9_clashes 91 = .ok (.iload 7, 2) := by decide +kernel
theorem dX9_clashes_93 : decode cX9_clashes 93 = .ok (.iload_n 3, 1) := by decide +kernel
theorem dX9_clashes_94 : decode cX9_clashes 94 = .ok (.if_icmp .ge 370, 3) := by decide +kernel
theorem dX9_clashes_97 : decode cX9_clashes 97 = .ok (.iload 4, 2) := by decide +kernel
theorem dX9_clashes_99 : decode cX9_clashes 99 = .ok (.iconst 4, 1) := by decide +kernel
theorem dX9_clashes_100 : decode cX9_clashes 100 = .ok (.if_icmp .ne 16, 3) := by decide +kernel
theorem dX9_clashes_103 : decode cX9_clashes 103 = .ok (.aload_n 0, 1) := by decide +kernel
theorem dX9_clashes_104 : decode cX9_clashes 104 = .ok (.getfield 33, 3) := by decide +kernel
theorem dX9_clashes_107 : decode cX9_clashes 107 = .ok (.iload_n 2, 1) := by decide +kernel
theorem dX9_clashes_108 : decode cX9_clashes 108 = .ok (.iaload, 1) := by decide +kernel
theorem dX9_clashes_109 : decode cX9_clashes 109 = .ok (.ifCond .ne 7, 3) := by decide +kernel
theorem dX9_clashes_112 : decode cX9_clashes 112 = .ok (.iconst 1, 1) := by decide +kernel
theorem dX9_clashes_113 : decode cX9_clashes 113 = .ok (.goto 4, 3) := by decide +kernel
theorem dX9_clashes_116 : decode cX9_clashes 116 = .ok (.iconst 0, 1) := by decide +kernel
theorem dX9_clashes_117 : decode cX9_clashes 117 = .ok (.istore 8, 2) := by decide +kernel
theorem dX9_clashes_119 : decode cX9_clashes 119 = .ok (.iload 8, 2) := by decide +kernel
theorem dX9_clashes_121 : decode cX9_clashes 121 = .ok (.ifCond .eq 12, 3) := by decide +kernel
theorem dX9_clashes_124 : decode cX9_clashes 124 = .ok (.iload 7, 2) := by decide +kernel
theorem dX9_clashes_126 : decode cX9_clashes 126 = .ok (.aload_n 0, 1) := by decide +kernel
theorem dX9_clashes_127 : decode cX9_clashes 127 = .ok (.getfield 20, 3) := by decide +kernel
theorem dX9_clashes_130 : decode cX9_clashes 130 = .ok (.if_icmp .gt 328, 3) := by decide +kernel
theorem dX9_clashes_133 : decode cX9_clashes 133 = .ok (.iload 8, 2) := by decide +kernel
theorem dX9_clashes_135 : decode cX9_clashes 135 = .ok (.ifCond .ne 17, 3) := by decide +kernel
theorem dX9_clashes_138 : decode cX9_clashes 138 = .ok (.aload_n 0, 1) := by decide +kernel
theorem dX9_clashes_139 : decode cX9_clashes 139 = .ok (.iload_n 1, 1) := by decide +kernel
theorem dX9_clashes_140 : decode cX9_clashes 140 = .ok (.iload 7, 2) := by decide +kernel
theorem dX9_clashes_142 : decode cX9_clashes 142 = .ok (.i2l, 1) := by decide +kernel
theorem dX9_clashes_143 : decode cX9_clashes 143 = .ok (.invokevirtual 134, 3) := by decide +kernel
theorem dX9_clashes_146 : decode cX9_clashes 146 = .ok (.ifCond .ne 6, 3) := by decide +kernel
theorem dX9_clashes_149 : decode cX9_clashes 149 = .ok (.goto 309, 3) := by decide +kernel
theorem dX9_clashes_152 : decode cX9_clashes 152 = .ok (.iload 4, 2) := by decide +kernel
theorem dX9_clashes_154 : decode cX9_clashes 154 = .ok (.ifCond .ne 59, 3) := by decide +kernel
theorem dX9_clashes_157 : decode cX9_clashes 157 = .ok (.iload 7, 2) := by decide +kernel
theorem dX9_clashes_159 : decode cX9_clashes 159 = .ok (.iload 5, 2) := by decide +kernel
theorem dX9_clashes_161 : decode cX9_clashes 161 = .ok (.if_icmp .eq 297, 3) := by decide +kernel
theorem dX9_clashes_164 : decode cX9_clashes 164 = .ok (.aload_n 0, 1) := by decide +kernel
theorem dX9_clashes_165 : decode cX9_clashes 165 = .ok (.getfield 82, 3) := by decide +kernel
theorem dX9_clashes_168 : decode cX9_clashes 168 = .ok (.ifCond .gt 10, 3) := by decide +kernel
theorem dX9_clashes_171 : decode cX9_clashes 171 = .ok (.iload 7, 2) := by decide +kernel
theorem dX9_clashes_173 : decode cX9_clashes 173 = .ok (.iload 5, 2) := by decide +kernel
theorem dX9_clashes_175 : decode cX9_clashes 175 = .ok (.if_icmp .le 283, 3) := by decide +kernel
theorem dX9_clashes_178 : decode cX9_clashes 178 = .ok (.aload_n 0, 1) := by decide +kernel
theorem dX9_clashes_179 : decode cX9_clashes 179 = .ok (.iload_n 1, 1) := by decide +kernel
theorem dX9_clashes_180 : decode cX9_clashes 180 = .ok (.iload 5, 2) := by decide +kernel
theorem dX9_clashes_182 : decode cX9_clashes 182 = .ok (.aload_n 0, 1) := by decide +kernel
theorem dX9_clashes_183 : decode cX9_clashes 183 = .ok (.iload 7, 2) := by decide +kernel
theorem dX9_clashes_185 : decode cX9_clashes 185 = .ok (.iload 5, 2) := by decide +kernel
theorem dX9_clashes_187 : decode cX9_clashes 187 = .ok (.invokevirtual 169, 3) := by decide +kernel
theorem dX9_clashes_190 : decode cX9_clashes 190 = .ok (.aload_n 0, 1) := by decide +kernel
theorem dX9_clashes_191 : decode cX9_clashes 191 = .ok (.getfield 30, 3) := by decide +kernel
theorem dX9_clashes_194 : decode cX9_clashes 194 = .ok (.iload_n 2, 1) := by decide +kernel
theorem dX9_clashes_195 : decode cX9_clashes 195 = .ok (.iaload, 1) := by decide +kernel
theorem dX9_clashes_196 : decode cX9_clashes 196 = .ok (.invokevirtual 166, 3) := by decide +kernel
theorem dX9_clashes_199 : decode cX9_clashes 199 = .ok (.ifCond .eq 259, 3) := by decide +kernel
theorem dX9_clashes_202 : decode cX9_clashes 202 = .ok (.aload_n 0, 1) := by decide +kernel
theorem dX9_clashes_203 : decode cX9_clashes 203 = .ok (.iload 5, 2) := by decide +kernel
theorem dX9_clashes_205 : decode cX9_clashes 205 = .ok (.iload 7, 2) := by decide +kernel
theorem dX9_clashes_207 : decode cX9_clashes 207 = .ok (.iconst 0, 1) := by decide +kernel
theorem dX9_clashes_208 : decode cX9_clashes 208 = .ok (.iconst 0, 1) := by decide +kernel
theorem dX9_clashes_209 : decode cX9_clashes 209 = .ok (.invokevirtual 179, 3) := by decide +kernel
theorem dX9_clashes_212 : decode cX9_clashes 212 = .ok (.ireturn, 1) := by decide +kernel
theorem dX9_clashes_213 : decode cX9_clashes 213 = .ok (.iload 4, 2) := by decide +kernel
theorem dX9_clashes_215 : decode cX9_clashes 215 = .ok (.iconst 3, 1) := by decide +kernel
theorem dX9_clashes_216 : decode cX9_clashes 216 = .ok (.if_icmp .ne 13, 3) := by decide +kernel
theorem dX9_clashes_219 : decode cX9_clashes 219 = .ok (.iload 7, 2) := by decide +kernel
theorem dX9_clashes_221 : decode cX9_clashes 221 = .ok (.iload 5, 2) := by decide +kernel
theorem dX9_clashes_223 : decode cX9_clashes 223 = .ok (.if_icmp .ge 6, 3) := by decide +kernel
theorem dX9_clashes_226 : decode cX9_clashes 226 = .ok (.goto 232, 3) := by decide +kernel
theorem dX9_clashes_229 : decode cX9_clashes 229 = .ok (.aload_n 0, 1) := by decide +kernel
theorem dX9_clashes_230 : decode cX9_clashes 230 = .ok (.getfield 20, 3) := by decide +kernel
theorem dX9_clashes_233 : decode cX9_clashes 233 = .ok (.istore 9, 2) := by decide +kernel
theorem dX9_clashes_235 : decode cX9_clashes 235 = .ok (.iload 9, 2) := by decide +kernel
theorem dX9_clashes_237 : decode cX9_clashes 237 = .ok (.iload_n 3, 1) := by decide +kernel
theorem dX9_clashes_238 : decode cX9_clashes 238 = .ok (.if_icmp .ge 220, 3) := by decide +kernel
theorem dX9_clashes_241 : decode cX9_clashes 241 = .ok (.iload 4, 2) := by decide +kernel
theorem dX9_clashes_243 : decode cX9_clashes 243 = .ok (.iconst 4, 1) := by decide +kernel
theorem dX9_clashes_244 : decode cX9_clashes 244 = .ok (.if_icmp .ne 16, 3) := by decide +kernel
theorem dX9_clashes_247 : decode cX9_clashes 247 = .ok (.aload_n 0, 1) := by decide +kernel
theorem dX9_clashes_248 : decode cX9_clashes 248 = .ok (.getfield 36, 3) := by decide +kernel
theorem dX9_clashes_251 : decode cX9_clashes 251 = .ok (.iload_n 2, 1) := by decide +kernel
theorem dX9_clashes_252 : decode cX9_clashes 252 = .ok (.iaload, 1) := by decide +kernel
theorem dX9_clashes_253 : decode cX9_clashes 253 = .ok (.ifCond .ne 7, 3) := by decide +kernel
theorem dX9_clashes_256 : decode cX9_clashes 256 = .ok (.iconst 1, 1) := by decide +kernel
theorem dX9_clashes_257 : decode cX9_clashes 257 = .ok (.goto 4, 3) := by decide +kernel
theorem dX9_clashes_260 : decode cX9_clashes 260 = .ok (.iconst 0, 1) := by decide +kernel
theorem dX9_clashes_261 : decode cX9_clashes 261 = .ok (.istore 10, 2) := by decide +kernel
theorem dX9_clashes_263 : decode cX9_clashes 263 = .ok (.iload 10, 2) := by decide +kernel
theorem dX9_clashes_265 : decode cX9_clashes 265 = .ok (.ifCond .eq 12, 3) := by decide +kernel
theorem dX9_clashes_268 : decode cX9_clashes 268 = .ok (.iload 9, 2) := by decide +kernel
theorem dX9_clashes_270 : decode cX9_clashes 270 = .ok (.aload_n 0, 1) := by decide +kernel
theorem dX9_clashes_271 : decode cX9_clashes 271 = .ok (.getfield 20, 3) := by decide +kernel
theorem dX9_clashes_274 : decode cX9_clashes 274 = .ok (.if_icmp .gt 178, 3) := by decide +kernel
theorem dX9_clashes_277 : decode cX9_clashes 277 = .ok (.iload 10, 2) := by decide +kernel
theorem dX9_clashes_279 : decode cX9_clashes 279 = .ok (.ifCond .ne 17, 3) := by decide +kernel
theorem dX9_clashes_282 : decode cX9_clashes 282 = .ok (.aload_n 0, 1) := by decide +kernel
theorem dX9_clashes_283 : decode cX9_clashes 283 = .ok (.iload_n 1, 1) := by decide +kernel
theorem dX9_clashes_284 : decode cX9_clashes 284 = .ok (.iload 9, 2) := by decide +kernel
theorem dX9_clashes_286 : decode cX9_clashes 286 = .ok (.i2l, 1) := by decide +kernel
theorem dX9_clashes_287 : decode cX9_clashes 287 = .ok (.invokevirtual 134, 3) := by decide +kernel
theorem dX9_clashes_290 : decode cX9_clashes 290 = .ok (.ifCond .ne 6, 3) := by decide +kernel
theorem dX9_clashes_293 : decode cX9_clashes 293 = .ok (.goto 159, 3) := by decide +kernel
theorem dX9_clashes_296 : decode cX9_clashes 296 = .ok (.iload 4, 2) := by decide +kernel
theorem dX9_clashes_298 : decode cX9_clashes 298 = .ok (.iconst 4, 1) := by decide +kernel
theorem dX9_clashes_299 : decode cX9_clashes 299 = .ok (.if_icmp .ne 57, 3) := by decide +kernel
theorem dX9_clashes_302 : decode cX9_clashes 302 = .ok (.aload_n 0, 1) := by decide +kernel
theorem dX9_clashes_303 : decode cX9_clashes 303 = .ok (.iload_n 1, 1) := by decide +kernel
theorem dX9_clashes_304 : decode cX9_clashes 304 = .ok (.iload_n 2, 1) := by decide +kernel
theorem dX9_clashes_305 : decode cX9_clashes 305 = .ok (.iload 5, 2) := by decide +kernel
theorem dX9_clashes_307 : decode cX9_clashes 307 = .ok (.iload 7, 2) := by decide +kernel
theorem dX9_clashes_309 : decode cX9_clashes 309 = .ok (.iload 9, 2) := by decide +kernel
theorem dX9_clashes_311 : decode cX9_clashes 311 = .ok (.invokevirtual 172, 3) := by decide +kernel
theorem dX9_clashes_314 : decode cX9_clashes 314 = .ok (.ifCond .eq 138, 3) := by decide +kernel
theorem dX9_clashes_317 : decode cX9_clashes 317 = .ok (.aload_n 0, 1) := by decide +kernel
theorem dX9_clashes_318 : decode cX9_clashes 318 = .ok (.iload 6, 2) := by decide +kernel
theorem dX9_clashes_320 : decode cX9_clashes 320 = .ok (.ifCond .eq 7, 3) := by decide +kernel
theorem dX9_clashes_323 : decode cX9_clashes 323 = .ok (.iconst 0, 1) := by decide +kernel
theorem dX9_clashes_324 : decode cX9_clashes 324 = .ok (.goto 5, 3) := by decide +kernel
theorem dX9_clashes_327 : decode cX9_clashes 327 = .ok (.iload 5, 2) := by decide +kernel
theorem dX9_clashes_329 : decode cX9_clashes 329 = .ok (.iload 8, 2) := by decide +kernel
theorem dX9_clashes_331 : decode cX9_clashes 331 = .ok (.ifCond .eq 7, 3) := by decide +kernel
theorem dX9_clashes_334 : decode cX9_clashes 334 = .ok (.iconst 0, 1) := by decide +kernel
theorem dX9_clashes_335 : decode cX9_clashes 335 = .ok (.goto 5, 3) := by decide +kernel
theorem dX9_clashes_338 : decode cX9_clashes 338 = .ok (.iload 7, 2) := by decide +kernel
theorem dX9_clashes_340 : decode cX9_clashes 340 = .ok (.iload 10, 2) := by decide +kernel
theorem dX9_clashes_342 : decode cX9_clashes 342 = .ok (.ifCond .eq 7, 3) := by decide +kernel
theorem dX9_clashes_345 : decode cX9_clashes 345 = .ok (.iconst 0, 1) := by decide +kernel
theorem dX9_clashes_346 : decode cX9_clashes 346 = .ok (.goto 5, 3) := by decide +kernel
theorem dX9_clashes_349 : decode cX9_clashes 349 = .ok (.iload 9, 2) := by decide +kernel
theorem dX9_clashes_351 : decode cX9_clashes 351 = .ok (.iconst 0, 1) := by decide +kernel
theorem dX9_clashes_352 : decode cX9_clashes 352 = .ok (.invokevirtual 179, 3) := by decide +kernel
theorem dX9_clashes_355 : decode cX9_clashes 355 = .ok (.ireturn, 1) := by decide +kernel
theorem dX9_clashes_356 : decode cX9_clashes 356 = .ok (.iload 4, 2) := by decide +kernel
theorem dX9_clashes_358 : decode cX9_clashes 358 = .ok (.iconst 3, 1) := by decide +kernel
theorem dX9_clashes_359 : decode cX9_clashes 359 = .ok (.if_icmp .ne 67, 3) := by decide +kernel
theorem dX9_clashes_362 : decode cX9_clashes 362 = .ok (.aload_n 0, 1) := by decide +kernel
theorem dX9_clashes_363 : decode cX9_clashes 363 = .ok (.aload_n 0, 1) := by decide +kernel
theorem dX9_clashes_364 : decode cX9_clashes 364 = .ok (.iload 5, 2) := by decide +kernel
theorem dX9_clashes_366 : decode cX9_clashes 366 = .ok (.iload 7, 2) := by decide +kernel
theorem dX9_clashes_368 : decode cX9_clashes 368 = .ok (.invokevirtual 141, 3) := by decide +kernel
theorem dX9_clashes_371 : decode cX9_clashes 371 = .ok (.iload 9, 2) := by decide +kernel
theorem dX9_clashes_373 : decode cX9_clashes 373 = .ok (.invokevirtual 169, 3) := by decide +kernel
theorem dX9_clashes_376 : decode cX9_clashes 376 = .ok (.istore 11, 2) := by decide +kernel
theorem dX9_clashes_378 : decode cX9_clashes 378 = .ok (.aload_n 0, 1) := by decide +kernel
theorem dX9_clashes_379 : decode cX9_clashes 379 = .ok (.iload_n 1, 1) := by decide +kernel
theorem dX9_clashes_380 : decode cX9_clashes 380 = .ok (.iload 11, 2) := by decide +kernel
theorem dX9_clashes_382 : decode cX9_clashes 382 = .ok (.i2l, 1) := by decide +kernel
theorem dX9_clashes_383 : decode cX9_clashes 383 = .ok (.invokevirtual 134, 3) := by decide +kernel
theorem dX9_clashes_386 : decode cX9_clashes 386 = .ok (.ifCond .eq 37, 3) := by decide +kernel
theorem dX9_clashes_389 : decode cX9_clashes 389 = .ok (.iload 11, 2) := by decide +kernel
theorem dX9_clashes_391 : decode cX9_clashes 391 = .ok (.iload 9, 2) := by decide +kernel
theorem dX9_clashes_393 : decode cX9_clashes 393 = .ok (.if_icmp .lt 30, 3) := by decide +kernel
theorem dX9_clashes_396 : decode cX9_clashes 396 = .ok (.iload 9, 2) := by decide +kernel
theorem dX9_clashes_398 : decode cX9_clashes 398 = .ok (.iload 5, 2) := by decide +kernel
theorem dX9_clashes_400 : decode cX9_clashes 400 = .ok (.if_icmp .ne 10, 3) := by decide +kernel
theorem dX9_clashes_403 : decode cX9_clashes 403 = .ok (.iload 11, 2) := by decide +kernel
theorem dX9_clashes_405 : decode cX9_clashes 405 = .ok (.iload 7, 2) := by decide +kernel
theorem dX9_clashes_407 : decode cX9_clashes 407 = .ok (.if_icmp .eq 16, 3) := by decide +kernel
theorem dX9_clashes_410 : decode cX9_clashes 410 = .ok (.aload_n 0, 1) := by decide +kernel
theorem dX9_clashes_411 : decode cX9_clashes 411 = .ok (.iload 5, 2) := by decide +kernel
theorem dX9_clashes_413 : decode cX9_clashes 413 = .ok (.iload 7, 2) := by decide +kernel
theorem dX9_clashes_415 : decode cX9_clashes 415 = .ok (.iload 9, 2) := by decide +kernel
theorem dX9_clashes_417 : decode cX9_clashes 417 = .ok (.iload 11, 2) := by decide +kernel
theorem dX9_clashes_419 : decode cX9_clashes 419 = .ok (.invokevirtual 179, 3) := by decide +kernel
theorem dX9_clashes_422 : decode cX9_clashes 422 = .ok (.ireturn, 1) := by decide +kernel
theorem dX9_clashes_423 : decode cX9_clashes 423 = .ok (.goto 29, 3) := by decide +kernel
theorem dX9_clashes_426 : decode cX9_clashes 426 = .ok (.aload_n 0, 1) := by decide +kernel
theorem dX9_clashes_427 : decode cX9_clashes 427 = .ok (.iload_n 2, 1) := by decide +kernel
theorem dX9_clashes_428 : decode cX9_clashes 428 = .ok (.iload 5, 2) := by decide +kernel
theorem dX9_clashes_430 : decode cX9_clashes 430 = .ok (.iload 7, 2) := by decide +kernel
theorem dX9_clashes_432 : decode cX9_clashes 432 = .ok (.iload 9, 2) := by decide +kernel
theorem dX9_clashes_434 : decode cX9_clashes 434 = .ok (.invokevirtual 162, 3) := by decide +kernel
theorem dX9_clashes_437 : decode cX9_clashes 437 = .ok (.ifCond .eq 15, 3) := by decide +kernel
theorem dX9_clashes_440 : decode cX9_clashes 440 = .ok (.aload_n 0, 1) := by decide +kernel
theorem dX9_clashes_441 : decode cX9_clashes 441 = .ok (.iload 5, 2) := by decide +kernel
theorem dX9_clashes_443 : decode cX9_clashes 443 = .ok (.iload 7, 2) := by decide +kernel
theorem dX9_clashes_445 : decode cX9_clashes 445 = .ok (.iload 9, 2) := by decide +kernel
theorem dX9_clashes_447 : decode cX9_clashes 447 = .ok (.iconst 0, 1) := by decide +kernel
theorem dX9_clashes_448 : decode cX9_clashes 448 = .ok (.invokevirtual 179, 3) := by decide +kernel
theorem dX9_clashes_451 : decode cX9_clashes 451 = .ok (.ireturn, 1) := by decide +kernel
theorem dX9_clashes_452 : decode cX9_clashes 452 = .ok (.iinc 9 1, 3) := by decide +kernel
theorem dX9_clashes_455 : decode cX9_clashes 455 = .ok (.goto (-220), 3) := by decide +kernel
theorem dX9_clashes_458 : decode cX9_clashes 458 = .ok (.iinc 7 1, 3) := by decide +kernel
theorem dX9_clashes_461 : decode cX9_clashes 461 = .ok (.goto (-370), 3) := by decide +kernel
theorem dX9_clashes_464 : decode cX9_clashes 464 = .ok (.iinc 5 1, 3) := by decide +kernel
theorem dX9_clashes_467 : decode cX9_clashes 467 = .ok (.goto (-443), 3) := by decide +kernel
theorem dX9_clashes_470 : decode cX9_clashes 470 = .ok (.iconst 0, 1) := by decide +kernel
theorem dX9_clashes_471 : decode cX9_clashes 471 = .ok (.ireturn, 1) := by decide +kernel
theorem dX9_firstClash_0 : decode cX9_firstClash 0 = .ok (.iconst 0, 1) := by decide +kernel
theorem dX9_firstClash_1 : decode cX9_firstClash 1 = .ok (.istore_n 2, 1) := by decide +kernel
theorem dX9_firstClash_2 : decode cX9_firstClash 2 = .ok (.iload_n 2, 1) := by decide +kernel
theorem dX9_firstClash_3 : decode cX9_firstClash 3 = .ok (.aload_n 0, 1) := by decide +kernel
theorem dX9_firstClash_4 : decode cX9_firstClash 4 = .ok (.getfield 96, 3) := by decide +kernel
theorem dX9_firstClash_7 : decode cX9_firstClash 7 = .ok (.if_icmp .ge 20, 3) := by decide +kernel
theorem dX9_firstClash_10 : decode cX9_firstClash 10 = .ok (.aload_n 0, 1) := by decide +kernel
theorem dX9_firstClash_11 : decode cX9_firstClash 11 = .ok (.iload_n 1, 1) := by decide +kernel
theorem dX9_firstClash_12 : decode cX9_firstClash 12 = .ok (.iload_n 2, 1) := by decide +kernel
theorem dX9_firstClash_13 : decode cX9_firstClash 13 = .ok (.invokevirtual 182, 3) := by decide +kernel
theorem dX9_firstClash_16 : decode cX9_firstClash 16 = .ok (.ifCond .eq 5, 3) := by decide +kernel
theorem dX9_firstClash_19 : decode cX9_firstClash 19 = .ok (.iload_n 2, 1) := by decide +kernel
theorem dX9_firstClash_20 : decode cX9_firstClash 20 = .ok (.ireturn, 1) := by decide +kernel
theorem dX9_firstClash_21 : decode cX9_firstClash 21 = .ok (.iinc 2 1, 3) := by decide +kernel
theorem dX9_firstClash_24 : decode cX9_firstClash 24 = .ok (.goto (-22), 3) := by decide +kernel
theorem dX9_firstClash_27 : decode cX9_firstClash 27 = .ok (.iconst (-1), 1) := by decide +kernel
theorem dX9_firstClash_28 : decode cX9_firstClash 28 = .ok (.ireturn, 1) := by decide +kernel
theorem dX9_clash_0 : decode cX9_clash 0 = .ok (.aload_n 0, 1) := by decide +kernel
theorem dX9_clash_1 : decode cX9_clash 1 = .ok (.iload_n 1, 1) := by decide +kernel
theorem dX9_clash_2 : decode cX9_clash 2 = .ok (.invokevirtual 113, 3) := by decide +kernel
theorem dX9_clash_5 : decode cX9_clash 5 = .ok (.ifCond .ne 9, 3) := by decide +kernel
theorem dX9_clash_8 : decode cX9_clash 8 = .ok (.aload_n 0, 1) := by decide +kernel
theorem dX9_clash_9 : decode cX9_clash 9 = .ok (.iconst 1, 1) := by decide +kernel
theorem dX9_clash_10 : decode cX9_clash 10 = .ok (.invokevirtual 185, 3) := by decide +kernel
theorem dX9_clash_13 : decode cX9_clash 13 = .ok (.ireturn, 1) := by decide +kernel
theorem dX9_clash_14 : decode cX9_clash 14 = .ok (.aload_n 0, 1) := by decide +kernel
theorem dX9_clash_15 : decode cX9_clash 15 = .ok (.iconst 0, 1) := by decide +kernel
theorem dX9_clash_16 : decode cX9_clash 16 = .ok (.putfield 72, 3) := by decide +kernel
theorem dX9_clash_19 : decode cX9_clash 19 = .ok (.aload_n 0, 1) := by decide +kernel
theorem dX9_clash_20 : decode cX9_clash 20 = .ok (.iload_n 1, 1) := by decide +kernel
theorem dX9_clash_21 : decode cX9_clash 21 = .ok (.invokevirtual 188, 3) := by decide +kernel
theorem dX9_clash_24 : decode cX9_clash 24 = .ok (.istore_n 2, 1) := by decide +kernel
theorem dX9_clash_25 : decode cX9_clash 25 = .ok (.iload_n 2, 1) := by decide +kernel
theorem dX9_clash_26 : decode cX9_clash 26 = .ok (.iconst (-1), 1) := by decide +kernel
theorem dX9_clash_27 : decode cX9_clash 27 = .ok (.if_icmp .ne 5, 3) := by decide +kernel
theorem dX9_clash_30 : decode cX9_clash 30 = .ok (.iconst (-1), 1) := by decide +kernel
theorem dX9_clash_31 : decode cX9_clash 31 = .ok (.ireturn, 1) := by decide +kernel
theorem dX9_clash_32 : decode cX9_clash 32 = .ok (.aload_n 0, 1) := by decide +kernel
theorem dX9_clash_33 : decode cX9_clash 33 = .ok (.iconst 1, 1) := by decide +kernel
theorem dX9_clash_34 : decode cX9_clash 34 = .ok (.putfield 102, 3) := by decide +kernel
theorem dX9_clash_37 : decode cX9_clash 37 = .ok (.iconst 0, 1) := by decide +kernel
theorem dX9_clash_38 : decode cX9_clash 38 = .ok (.istore_n 3, 1) := by decide +kernel
theorem dX9_clash_39 : decode cX9_clash 39 = .ok (.iload_n 3, 1) := by decide +kernel
theorem dX9_clash_40 : decode cX9_clash 40 = .ok (.iconst 4, 1) := by decide +kernel
theorem dX9_clash_41 : decode cX9_clash 41 = .ok (.if_icmp .ge 21, 3) := by decide +kernel
theorem dX9_clash_44 : decode cX9_clash 44 = .ok (.aload_n 0, 1) := by decide +kernel
theorem dX9_clash_45 : decode cX9_clash 45 = .ok (.getfield 45, 3) := by decide +kernel
theorem dX9_clash_48 : decode cX9_clash 48 = .ok (.iload_n 3, 1) := by decide +kernel
theorem dX9_clash_49 : decode cX9_clash 49 = .ok (.aload_n 0, 1) := by decide +kernel
theorem dX9_clash_50 : decode cX9_clash 50 = .ok (.getfield 42, 3) := by decide +kernel
theorem dX9_clash_53 : decode cX9_clash 53 = .ok (.iload_n 3, 1) := by decide +kernel
theorem dX9_clash_54 : decode cX9_clash 54 = .ok (.iaload, 1) := by decide +kernel
theorem dX9_clash_55 : decode cX9_clash 55 = .ok (.iastore, 1) := by decide +kernel
theorem dX9_clash_56 : decode cX9_clash 56 = .ok (.iinc 3 1, 3) := by decide +kernel
theorem dX9_clash_59 : decode cX9_clash 59 = .ok (.goto (-20), 3) := by decide +kernel
theorem dX9_clash_62 : decode cX9_clash 62 = .ok (.iload_n 2, 1) := by decide +kernel
theorem dX9_clash_63 : decode cX9_clash 63 = .ok (.ireturn, 1) := by decide +kernel
theorem dX9_witness_0 : decode cX9_witness 0 = .ok (.aload_n 0, 1) := by decide +kernel
theorem dX9_witness_1 : decode cX9_witness 1 = .ok (.aload_n 0, 1) := by decide +kernel
theorem dX9_witness_2 : decode cX9_witness 2 = .ok (.getfield 102, 3) := by decide +kernel
theorem dX9_witness_5 : decode cX9_witness 5 = .ok (.ifCond .eq 12, 3) := by decide +kernel
theorem dX9_witness_8 : decode cX9_witness 8 = .ok (.iload_n 1, 1) := by decide +kernel
theorem dX9_witness_9 : decode cX9_witness 9 = .ok (.ifCond .lt 8, 3) := by decide +kernel
theorem dX9_witness_12 : decode cX9_witness 12 = .ok (.iload_n 1, 1) := by decide +kernel
theorem dX9_witness_13 : decode cX9_witness 13 = .ok (.iconst 3, 1) := by decide +kernel
theorem dX9_witness_14 : decode cX9_witness 14 = .ok (.if_icmp .le 7, 3) := by decide +kernel
theorem dX9_witness_17 : decode cX9_witness 17 = .ok (.iconst 1, 1) := by decide +kernel
theorem dX9_witness_18 : decode cX9_witness 18 = .ok (.goto 4, 3) := by decide +kernel
theorem dX9_witness_21 : decode cX9_witness 21 = .ok (.iconst 0, 1) := by decide +kernel
theorem dX9_witness_22 : decode cX9_witness 22 = .ok (.putfield 72, 3) := by decide +kernel
theorem dX9_witness_25 : decode cX9_witness 25 = .ok (.aload_n 0, 1) := by decide +kernel
theorem dX9_witness_26 : decode cX9_witness 26 = .ok (.getfield 72, 3) := by decide +kernel
theorem dX9_witness_29 : decode cX9_witness 29 = .ok (.ifCond .le 7, 3) := by decide +kernel
theorem dX9_witness_32 : decode cX9_witness 32 = .ok (.iconst 0, 1) := by decide +kernel
theorem dX9_witness_33 : decode cX9_witness 33 = .ok (.goto 9, 3) := by decide +kernel
theorem dX9_witness_36 : decode cX9_witness 36 = .ok (.aload_n 0, 1) := by decide +kernel
theorem dX9_witness_37 : decode cX9_witness 37 = .ok (.getfield 45, 3) := by decide +kernel
theorem dX9_witness_40 : decode cX9_witness 40 = .ok (.iload_n 1, 1) := by decide +kernel
theorem dX9_witness_41 : decode cX9_witness 41 = .ok (.iaload, 1) := by decide +kernel
theorem dX9_witness_42 : decode cX9_witness 42 = .ok (.ireturn, 1) := by decide +kernel
theorem dX9_room_0 : decode cX9_room 0 = .ok (.aload_n 0, 1) := by decide +kernel
theorem dX9_room_1 : decode cX9_room 1 = .ok (.iload_n 1, 1) := by decide +kernel
theorem dX9_room_2 : decode cX9_room 2 = .ok (.invokevirtual 113, 3) := by decide +kernel
theorem dX9_room_5 : decode cX9_room 5 = .ok (.ifCond .ne 9, 3) := by decide +kernel
theorem dX9_room_8 : decode cX9_room 8 = .ok (.aload_n 0, 1) := by decide +kernel
theorem dX9_room_9 : decode cX9_room 9 = .ok (.iconst 1, 1) := by decide +kernel
theorem dX9_room_10 : decode cX9_room 10 = .ok (.invokevirtual 185, 3) := by decide +kernel
theorem dX9_room_13 : decode cX9_room 13 = .ok (.ireturn, 1) := by decide +kernel
theorem dX9_room_14 : decode cX9_room 14 = .ok (.aload_n 0, 1) := by decide +kernel
theorem dX9_room_15 : decode cX9_room 15 = .ok (.iconst 0, 1) := by decide +kernel
theorem dX9_room_16 : decode cX9_room 16 = .ok (.putfield 72, 3) := by decide +kernel
theorem dX9_room_19 : decode cX9_room 19 = .ok (.aload_n 0, 1) := by decide +kernel
theorem dX9_room_20 : decode cX9_room 20 = .ok (.iload_n 1, 1) := by decide +kernel
theorem dX9_room_21 : decode cX9_room 21 = .ok (.invokevirtual 188, 3) := by decide +kernel
theorem dX9_room_24 : decode cX9_room 24 = .ok (.iconst (-1), 1) := by decide +kernel
theorem dX9_room_25 : decode cX9_room 25 = .ok (.if_icmp .eq 6, 3) := by decide +kernel
theorem dX9_room_28 : decode cX9_room 28 = .ok (.bipush (-2), 2) := by decide +kernel
theorem dX9_room_30 : decode cX9_room 30 = .ok (.ireturn, 1) := by decide +kernel
theorem dX9_room_31 : decode cX9_room 31 = .ok (.aload_n 0, 1) := by decide +kernel
theorem dX9_room_32 : decode cX9_room 32 = .ok (.getfield 20, 3) := by decide +kernel
theorem dX9_room_35 : decode cX9_room 35 = .ok (.istore_n 2, 1) := by decide +kernel
theorem dX9_room_36 : decode cX9_room 36 = .ok (.iload_n 2, 1) := by decide +kernel
theorem dX9_room_37 : decode cX9_room 37 = .ok (.aload_n 0, 1) := by decide +kernel
theorem dX9_room_38 : decode cX9_room 38 = .ok (.getfield 20, 3) := by decide +kernel
theorem dX9_room_41 : decode cX9_room 41 = .ok (.aload_n 0, 1) := by decide +kernel
theorem dX9_room_42 : decode cX9_room 42 = .ok (.getfield 17, 3) := by decide +kernel
theorem dX9_room_45 : decode cX9_room 45 = .ok (.iadd, 1) := by decide +kernel
theorem dX9_room_46 : decode cX9_room 46 = .ok (.if_icmp .ge 40, 3) := by decide +kernel
theorem dX9_room_49 : decode cX9_room 49 = .ok (.aload_n 0, 1) := by decide +kernel
theorem dX9_room_50 : decode cX9_room 50 = .ok (.iload_n 1, 1) := by decide +kernel
theorem dX9_room_51 : decode cX9_room 51 = .ok (.iload_n 2, 1) := by decide +kernel
theorem dX9_room_52 : decode cX9_room 52 = .ok (.i2l, 1) := by decide +kernel
theorem dX9_room_53 : decode cX9_room 53 = .ok (.invokevirtual 134, 3) := by decide +kernel
theorem dX9_room_56 : decode cX9_room 56 = .ok (.ifCond .ne 24, 3) := by decide +kernel
theorem dX9_room_59 : decode cX9_room 59 = .ok (.aload_n 0, 1) := by decide +kernel
theorem dX9_room_60 : decode cX9_room 60 = .ok (.iload_n 1, 1) := by decide +kernel
theorem dX9_room_61 : decode cX9_room 61 = .ok (.iload_n 2, 1) := by decide +kernel
theorem dX9_room_62 : decode cX9_room 62 = .ok (.invokevirtual 191, 3) := by decide +kernel
theorem dX9_room_65 : decode cX9_room 65 = .ok (.ifCond .ne 6, 3) := by decide +kernel
theorem dX9_room_68 : decode cX9_room 68 = .ok (.goto 12, 3) := by decide +kernel
theorem dX9_room_71 : decode cX9_room 71 = .ok (.aload_n 0, 1) := by decide +kernel
theorem dX9_room_72 : decode cX9_room 72 = .ok (.iload_n 1, 1) := by decide +kernel
theorem dX9_room_73 : decode cX9_room 73 = .ok (.iload_n 2, 1) := by decide +kernel
theorem dX9_room_74 : decode cX9_room 74 = .ok (.iconst 0, 1) := by decide +kernel
theorem dX9_room_75 : decode cX9_room 75 = .ok (.invokevirtual 122, 3) := by decide +kernel
theorem dX9_room_78 : decode cX9_room 78 = .ok (.iload_n 2, 1) := by decide +kernel
theorem dX9_room_79 : decode cX9_room 79 = .ok (.ireturn, 1) := by decide +kernel
theorem dX9_room_80 : decode cX9_room 80 = .ok (.iinc 2 1, 3) := by decide +kernel
theorem dX9_room_83 : decode cX9_room 83 = .ok (.goto (-47), 3) := by decide +kernel
theorem dX9_room_86 : decode cX9_room 86 = .ok (.iconst (-1), 1) := by decide +kernel
theorem dX9_room_87 : decode cX9_room 87 = .ok (.ireturn, 1) := by decide +kernel
theorem dX9_look_0 : decode cX9_look 0 = .ok (.aload_n 0, 1) := by decide +kernel
theorem dX9_look_1 : decode cX9_look 1 = .ok (.getfield 194, 3) := by decide +kernel
theorem dX9_look_4 : decode cX9_look 4 = .ok (.ifCond .ne 5, 3) := by decide +kernel
theorem dX9_look_7 : decode cX9_look 7 = .ok (.iconst 2, 1) := by decide +kernel
theorem dX9_look_8 : decode cX9_look 8 = .ok (.ireturn, 1) := by decide +kernel
theorem dX9_look_9 : decode cX9_look 9 = .ok (.aload_n 0, 1) := by decide +kernel
theorem dX9_look_10 : decode cX9_look 10 = .ok (.dup, 1) := by decide +kernel
theorem dX9_look_11 : decode cX9_look 11 = .ok (.getfield 194, 3) := by decide +kernel
theorem dX9_look_14 : decode cX9_look 14 = .ok (.iconst 1, 1) := by decide +kernel
theorem dX9_look_15 : decode cX9_look 15 = .ok (.isub, 1) := by decide +kernel
theorem dX9_look_16 : decode cX9_look 16 = .ok (.putfield 194, 3) := by decide +kernel
theorem dX9_look_19 : decode cX9_look 19 = .ok (.aload_n 0, 1) := by decide +kernel
theorem dX9_look_20 : decode cX9_look 20 = .ok (.dup, 1) := by decide +kernel
theorem dX9_look_21 : decode cX9_look 21 = .ok (.getfield 197, 3) := by decide +kernel
theorem dX9_look_24 : decode cX9_look 24 = .ok (.iconst 1, 1) := by decide +kernel
theorem dX9_look_25 : decode cX9_look 25 = .ok (.iadd, 1) := by decide +kernel
theorem dX9_look_26 : decode cX9_look 26 = .ok (.putfield 197, 3) := by decide +kernel
theorem dX9_look_29 : decode cX9_look 29 = .ok (.iload_n 3, 1) := by decide +kernel
theorem dX9_look_30 : decode cX9_look 30 = .ok (.aload_n 0, 1) := by decide +kernel
theorem dX9_look_31 : decode cX9_look 31 = .ok (.getfield 17, 3) := by decide +kernel
theorem dX9_look_34 : decode cX9_look 34 = .ok (.iadd, 1) := by decide +kernel
theorem dX9_look_35 : decode cX9_look 35 = .ok (.iload_n 2, 1) := by decide +kernel
theorem dX9_look_36 : decode cX9_look 36 = .ok (.isub, 1) := by decide +kernel
theorem dX9_look_37 : decode cX9_look 37 = .ok (.istore 4, 2) := by decide +kernel
theorem dX9_look_39 : decode cX9_look 39 = .ok (.iload_n 1, 1) := by decide +kernel
theorem dX9_look_40 : decode cX9_look 40 = .ok (.ifCond .ne 12, 3) := by decide +kernel
theorem dX9_look_43 : decode cX9_look 43 = .ok (.iload 4, 2) := by decide +kernel
theorem dX9_look_45 : decode cX9_look 45 = .ok (.aload_n 0, 1) := by decide +kernel
theorem dX9_look_46 : decode cX9_look 46 = .ok (.getfield 200, 3) := by decide +kernel
theorem dX9_look_49 : decode cX9_look 49 = .ok (.if_icmp .le 17, 3) := by decide +kernel
theorem dX9_look_52 : decode cX9_look 52 = .ok (.iload_n 1, 1) := by decide +kernel
theorem dX9_look_53 : decode cX9_look 53 = .ok (.iconst 1, 1) := by decide +kernel
theorem dX9_look_54 : decode cX9_look 54 = .ok (.if_icmp .ne 14, 3) := by decide +kernel
theorem dX9_look_57 : decode cX9_look 57 = .ok (.iload 4, 2) := by decide +kernel
theorem dX9_look_59 : decode cX9_look 59 = .ok (.aload_n 0, 1) := by decide +kernel
theorem dX9_look_60 : decode cX9_look 60 = .ok (.getfield 203, 3) := by decide +kernel
theorem dX9_look_63 : decode cX9_look 63 = .ok (.if_icmp .ge 5, 3) := by decide +kernel
theorem dX9_look_66 : decode cX9_look 66 = .ok (.iconst 0, 1) := by decide +kernel
theorem dX9_look_67 : decode cX9_look 67 = .ok (.ireturn, 1) := by decide +kernel
theorem dX9_look_68 : decode cX9_look 68 = .ok (.iload_n 2, 1) := by decide +kernel
theorem dX9_look_69 : decode cX9_look 69 = .ok (.aload_n 0, 1) := by decide +kernel
theorem dX9_look_70 : decode cX9_look 70 = .ok (.getfield 17, 3) := by decide +kernel
theorem dX9_look_73 : decode cX9_look 73 = .ok (.if_icmp .ge 5, 3) := by decide +kernel
theorem dX9_look_76 : decode cX9_look 76 = .ok (.iconst 1, 1) := by decide +kernel
theorem dX9_look_77 : decode cX9_look 77 = .ok (.ireturn, 1) := by decide +kernel
theorem dX9_look_78 : decode cX9_look 78 = .ok (.iload_n 1, 1) := by decide +kernel
theorem dX9_look_79 : decode cX9_look 79 = .ok (.iconst 2, 1) := by decide +kernel
theorem dX9_look_80 : decode cX9_look 80 = .ok (.if_icmp .ne 13, 3) := by decide +kernel
theorem dX9_look_83 : decode cX9_look 83 = .ok (.aload_n 0, 1) := by decide +kernel
theorem dX9_look_84 : decode cX9_look 84 = .ok (.dup, 1) := by decide +kernel
theorem dX9_look_85 : decode cX9_look 85 = .ok (.getfield 206, 3) := by decide +kernel
theorem dX9_look_88 : decode cX9_look 88 = .ok (.iconst 1, 1) := by decide +kernel
theorem dX9_look_89 : decode cX9_look 89 = .ok (.iadd, 1) := by decide +kernel
theorem dX9_look_90 : decode cX9_look 90 = .ok (.putfield 206, 3) := by decide +kernel
theorem dX9_look_93 : decode cX9_look 93 = .ok (.iload_n 1, 1) := by decide +kernel
theorem dX9_look_94 : decode cX9_look 94 = .ok (.ifCond .ne 16, 3) := by decide +kernel
theorem dX9_look_97 : decode cX9_look 97 = .ok (.aload_n 0, 1) := by decide +kernel
theorem dX9_look_98 : decode cX9_look 98 = .ok (.iload_n 3, 1) := by decide +kernel
theorem dX9_look_99 : decode cX9_look 99 = .ok (.putfield 200, 3) := by decide +kernel
theorem dX9_look_102 : decode cX9_look 102 = .ok (.aload_n 0, 1) := by decide +kernel
theorem dX9_look_103 : decode cX9_look 103 = .ok (.bipush 8, 2) := by decide +kernel
theorem dX9_look_105 : decode cX9_look 105 = .ok (.bipush 9, 2) := by decide +kernel
theorem dX9_look_107 : decode cX9_look 107 = .ok (.invokevirtual 126, 3) := by decide +kernel
theorem dX9_look_110 : decode cX9_look 110 = .ok (.iload_n 1, 1) := by decide +kernel
theorem dX9_look_111 : decode cX9_look 111 = .ok (.iconst 1, 1) := by decide +kernel
theorem dX9_look_112 : decode cX9_look 112 = .ok (.if_icmp .ne 67, 3) := by decide +kernel
theorem dX9_look_115 : decode cX9_look 115 = .ok (.aload_n 0, 1) := by decide +kernel
theorem dX9_look_116 : decode cX9_look 116 = .ok (.getfield 99, 3) := by decide +kernel
theorem dX9_look_119 : decode cX9_look 119 = .ok (.sipush 300, 3) := by decide +kernel
theorem dX9_look_122 : decode cX9_look 122 = .ok (.if_icmp .ne 5, 3) := by decide +kernel
theorem dX9_look_125 : decode cX9_look 125 = .ok (.iconst 3, 1) := by decide +kernel
theorem dX9_look_126 : decode cX9_look 126 = .ok (.ireturn, 1) := by decide +kernel
theorem dX9_look_127 : decode cX9_look 127 = .ok (.iconst 0, 1) := by decide +kernel
theorem dX9_look_128 : decode cX9_look 128 = .ok (.istore 5, 2) := by decide +kernel
theorem dX9_look_130 : decode cX9_look 130 = .ok (.iload 5, 2) := by decide +kernel
theorem dX9_look_132 : decode cX9_look 132 = .ok (.bipush 60, 2) := by decide +kernel
theorem dX9_look_134 : decode cX9_look 134 = .ok (.if_icmp .ge 35, 3) := by decide +kernel
theorem dX9_look_137 : decode cX9_look 137 = .ok (.aload_n 0, 1) := by decide +kernel
theorem dX9_look_138 : decode cX9_look 138 = .ok (.getfield 54, 3) := by decide +kernel
theorem dX9_look_141 : decode cX9_look 141 = .ok (.bipush 60, 2) := by decide +kernel
theorem dX9_look_143 : decode cX9_look 143 = .ok (.aload_n 0, 1) := by decide +kernel
theorem dX9_look_144 : decode cX9_look 144 = .ok (.getfield 99, 3) := by decide +kernel
theorem dX9_look_147 : decode cX9_look 147 = .ok (.imul, 1) := by decide +kernel
theorem dX9_look_148 : decode cX9_look 148 = .ok (.iload 5, 2) := by decide +kernel
theorem dX9_look_150 : decode cX9_look 150 = .ok (.iadd, 1) := by decide +kernel
theorem dX9_look_151 : decode cX9_look 151 = .ok (.aload_n 0, 1) := by decide +kernel
theorem dX9_look_152 : decode cX9_look 152 = .ok (.getfield 23, 3) := by decide +kernel
theorem dX9_look_155 : decode cX9_look 155 = .ok (.sipush 480, 3) := by decide +kernel
theorem dX9_look_158 : decode cX9_look 158 = .ok (.iload 5, 2) := by decide +kernel
theorem dX9_look_160 : decode cX9_look 160 = .ok (.iadd, 1) := by decide +kernel
theorem dX9_look_161 : decode cX9_look 161 = .ok (.baload, 1) := by decide +kernel
theorem dX9_look_162 : decode cX9_look 162 = .ok (.bastore, 1) := by decide +kernel
theorem dX9_look_163 : decode cX9_look 163 = .ok (.iinc 5 1, 3) := by decide +kernel
theorem dX9_look_166 : decode cX9_look 166 = .ok (.goto (-36), 3) := by decide +kernel
theorem dX9_look_169 : decode cX9_look 169 = .ok (.aload_n 0, 1) := by decide +kernel
theorem dX9_look_170 : decode cX9_look 170 = .ok (.dup, 1) := by decide +kernel
theorem dX9_look_171 : decode cX9_look 171 = .ok (.getfield 99, 3) := by decide +kernel
theorem dX9_look_174 : decode cX9_look 174 = .ok (.iconst 1, 1) := by decide +kernel
theorem dX9_look_175 : decode cX9_look 175 = .ok (.iadd, 1) := by decide +kernel
theorem dX9_look_176 : decode cX9_look 176 = .ok (.putfield 99, 3) := by decide +kernel
theorem dX9_look_179 : decode cX9_look 179 = .ok (.iconst 0, 1) := by decide +kernel
theorem dX9_look_180 : decode cX9_look 180 = .ok (.ireturn, 1) := by decide +kernel
theorem dX9_search_0 : decode cX9_search 0 = .ok (.aload_n 0, 1) := by decide +kernel
theorem dX9_search_1 : decode cX9_search 1 = .ok (.iload_n 2, 1) := by decide +kernel
theorem dX9_search_2 : decode cX9_search 2 = .ok (.putfield 194, 3) := by decide +kernel
theorem dX9_search_5 : decode cX9_search 5 = .ok (.aload_n 0, 1) := by decide +kernel
theorem dX9_search_6 : decode cX9_search 6 = .ok (.iconst (-1), 1) := by decide +kernel
theorem dX9_search_7 : decode cX9_search 7 = .ok (.putfield 200, 3) := by decide +kernel
theorem dX9_search_10 : decode cX9_search 10 = .ok (.aload_n 0, 1) := by decide +kernel
theorem dX9_search_11 : decode cX9_search 11 = .ok (.iconst 0, 1) := by decide +kernel
theorem dX9_search_12 : decode cX9_search 12 = .ok (.putfield 206, 3) := by decide +kernel
theorem dX9_search_15 : decode cX9_search 15 = .ok (.aload_n 0, 1) := by decide +kernel
theorem dX9_search_16 : decode cX9_search 16 = .ok (.bipush 8, 2) := by decide +kernel
theorem dX9_search_18 : decode cX9_search 18 = .ok (.invokevirtual 117, 3) := by decide +kernel
theorem dX9_search_21 : decode cX9_search 21 = .ok (.iconst 0, 1) := by decide +kernel
theorem dX9_search_22 : decode cX9_search 22 = .ok (.istore_n 3, 1) := by decide +kernel
theorem dX9_search_23 : decode cX9_search 23 = .ok (.iconst 0, 1) := by decide +kernel
theorem dX9_search_24 : decode cX9_search 24 = .ok (.istore 4, 2) := by decide +kernel
theorem dX9_search_26 : decode cX9_search 26 = .ok (.aload_n 0, 1) := by decide +kernel
theorem dX9_search_27 : decode cX9_search 27 = .ok (.iload_n 1, 1) := by decide +kernel
theorem dX9_search_28 : decode cX9_search 28 = .ok (.iload_n 3, 1) := by decide +kernel
theorem dX9_search_29 : decode cX9_search 29 = .ok (.iload 4, 2) := by decide +kernel
theorem dX9_search_31 : decode cX9_search 31 = .ok (.invokevirtual 209, 3) := by decide +kernel
theorem dX9_search_34 : decode cX9_search 34 = .ok (.istore 5, 2) := by decide +kernel
theorem dX9_search_36 : decode cX9_search 36 = .ok (.iload 5, 2) := by decide +kernel
theorem dX9_search_38 : decode cX9_search 38 = .ok (.iconst 1, 1) := by decide +kernel
theorem dX9_search_39 : decode cX9_search 39 = .ok (.if_icmp .le 6, 3) := by decide +kernel
theorem dX9_search_42 : decode cX9_search 42 = .ok (.iload 5, 2) := by decide +kernel
theorem dX9_search_44 : decode cX9_search 44 = .ok (.ireturn, 1) := by decide +kernel
theorem dX9_search_45 : decode cX9_search 45 = .ok (.iload 5, 2) := by decide +kernel
theorem dX9_search_47 : decode cX9_search 47 = .ok (.iconst 1, 1) := by decide +kernel
theorem dX9_search_48 : decode cX9_search 48 = .ok (.if_icmp .ne 47, 3) := by decide +kernel
theorem dX9_search_51 : decode cX9_search 51 = .ok (.aload_n 0, 1) := by decide +kernel
theorem dX9_search_52 : decode cX9_search 52 = .ok (.bipush 8, 2) := by decide +kernel
theorem dX9_search_54 : decode cX9_search 54 = .ok (.aload_n 0, 1) := by decide +kernel
theorem dX9_search_55 : decode cX9_search 55 = .ok (.getfield 20, 3) := by decide +kernel
theorem dX9_search_58 : decode cX9_search 58 = .ok (.iload_n 3, 1) := by decide +kernel
theorem dX9_search_59 : decode cX9_search 59 = .ok (.iadd, 1) := by decide +kernel
theorem dX9_search_60 : decode cX9_search 60 = .ok (.invokevirtual 191, 3) := by decide +kernel
theorem dX9_search_63 : decode cX9_search 63 = .ok (.istore 6, 2) := by decide +kernel
theorem dX9_search_65 : decode cX9_search 65 = .ok (.aload_n 0, 1) := by decide +kernel
theorem dX9_search_66 : decode cX9_search 66 = .ok (.getfield 48, 3) := by decide +kernel
theorem dX9_search_69 : decode cX9_search 69 = .ok (.iload_n 3, 1) := by decide +kernel
theorem dX9_search_70 : decode cX9_search 70 = .ok (.iload 6, 2) := by decide +kernel
theorem dX9_search_72 : decode cX9_search 72 = .ok (.ifCond .eq 7, 3) := by decide +kernel
theorem dX9_search_75 : decode cX9_search 75 = .ok (.iconst 1, 1) := by decide +kernel
theorem dX9_search_76 : decode cX9_search 76 = .ok (.goto 4, 3) := by decide +kernel
theorem dX9_search_79 : decode cX9_search 79 = .ok (.iconst 2, 1) := by decide +kernel
theorem dX9_search_80 : decode cX9_search 80 = .ok (.iastore, 1) := by decide +kernel
theorem dX9_search_81 : decode cX9_search 81 = .ok (.iload 6, 2) := by decide +kernel
theorem dX9_search_83 : decode cX9_search 83 = .ok (.ifCond .eq 6, 3) := by decide +kernel
theorem dX9_search_86 : decode cX9_search 86 = .ok (.iinc 4 1, 3) := by decide +kernel
theorem dX9_search_89 : decode cX9_search 89 = .ok (.iinc 3 1, 3) := by decide +kernel
theorem dX9_search_92 : decode cX9_search 92 = .ok (.goto (-66), 3) := by decide +kernel
theorem dX9_search_95 : decode cX9_search 95 = .ok (.iinc 3 (-1), 3) := by decide +kernel
theorem dX9_search_98 : decode cX9_search 98 = .ok (.iload_n 3, 1) := by decide +kernel
theorem dX9_search_99 : decode cX9_search 99 = .ok (.ifCond .lt 19, 3) := by decide +kernel
theorem dX9_search_102 : decode cX9_search 102 = .ok (.aload_n 0, 1) := by decide +kernel
theorem dX9_search_103 : decode cX9_search 103 = .ok (.getfield 48, 3) := by decide +kernel
theorem dX9_search_106 : decode cX9_search 106 = .ok (.iload_n 3, 1) := by decide +kernel
theorem dX9_search_107 : decode cX9_search 107 = .ok (.iaload, 1) := by decide +kernel
theorem dX9_search_108 : decode cX9_search 108 = .ok (.iconst 2, 1) := by decide +kernel
theorem dX9_search_109 : decode cX9_search 109 = .ok (.if_icmp .ne 9, 3) := by decide +kernel
theorem dX9_search_112 : decode cX9_search 112 = .ok (.iinc 3 (-1), 3) := by decide +kernel
theorem dX9_search_115 : decode cX9_search 115 = .ok (.goto (-17), 3) := by decide +kernel
theorem dX9_search_118 : decode cX9_search 118 = .ok (.iload_n 3, 1) := by decide +kernel
theorem dX9_search_119 : decode cX9_search 119 = .ok (.ifCond .ge 5, 3) := by decide +kernel
theorem dX9_search_122 : decode cX9_search 122 = .ok (.iconst 0, 1) := by decide +kernel
theorem dX9_search_123 : decode cX9_search 123 = .ok (.ireturn, 1) := by decide +kernel
theorem dX9_search_124 : decode cX9_search 124 = .ok (.aload_n 0, 1) := by decide +kernel
theorem dX9_search_125 : decode cX9_search 125 = .ok (.bipush 8, 2) := by decide +kernel
theorem dX9_search_127 : decode cX9_search 127 = .ok (.aload_n 0, 1) := by decide +kernel
theorem dX9_search_128 : decode cX9_search 128 = .ok (.getfield 20, 3) := by decide +kernel
theorem dX9_search_131 : decode cX9_search 131 = .ok (.iload_n 3, 1) := by decide +kernel
theorem dX9_search_132 : decode cX9_search 132 = .ok (.iadd, 1) := by decide +kernel
theorem dX9_search_133 : decode cX9_search 133 = .ok (.iconst 0, 1) := by decide +kernel
theorem dX9_search_134 : decode cX9_search 134 = .ok (.invokevirtual 122, 3) := by decide +kernel
theorem dX9_search_137 : decode cX9_search 137 = .ok (.iinc 4 (-1), 3) := by decide +kernel
theorem dX9_search_140 : decode cX9_search 140 = .ok (.aload_n 0, 1) := by decide +kernel
theorem dX9_search_141 : decode cX9_search 141 = .ok (.getfield 48, 3) := by decide +kernel
theorem dX9_search_144 : decode cX9_search 144 = .ok (.iload_n 3, 1) := by decide +kernel
theorem dX9_search_145 : decode cX9_search 145 = .ok (.iconst 2, 1) := by decide +kernel
theorem dX9_search_146 : decode cX9_search 146 = .ok (.iastore, 1) := by decide +kernel
theorem dX9_search_147 : decode cX9_search 147 = .ok (.iinc 3 1, 3) := by decide +kernel
theorem dX9_search_150 : decode cX9_search 150 = .ok (.goto (-124), 3) := by decide +kernel
theorem dX9_isLooks_0 : decode cX9_isLooks 0 = .ok (.iload_n 0, 1) := by decide +kernel
theorem dX9_isLooks_1 : decode cX9_isLooks 1 = .ok (.iconst 1, 1) := by decide +kernel
theorem dX9_isLooks_2 : decode cX9_isLooks 2 = .ok (.if_icmp .lt 13, 3) := by decide +kernel
theorem dX9_isLooks_5 : decode cX9_isLooks 5 = .ok (.iload_n 0, 1) := by decide +kernel
theorem dX9_isLooks_6 : decode cX9_isLooks 6 = .ok (.ldc 213, 2) := by decide +kernel
theorem dX9_isLooks_8 : decode cX9_isLooks 8 = .ok (.if_icmp .gt 7, 3) := by decide +kernel
theorem dX9_isLooks_11 : decode cX9_isLooks 11 = .ok (.iconst 1, 1) := by decide +kernel
theorem dX9_isLooks_12 : decode cX9_isLooks 12 = .ok (.goto 4, 3) := by decide +kernel
theorem dX9_isLooks_15 : decode cX9_isLooks 15 = .ok (.iconst 0, 1) := by decide +kernel
theorem dX9_isLooks_16 : decode cX9_isLooks 16 = .ok (.ireturn, 1) := by decide +kernel
theorem dX9_greatest_0 : decode cX9_greatest 0 = .ok (.aload_n 0, 1) := by decide +kernel
theorem dX9_greatest_1 : decode cX9_greatest 1 = .ok (.aload_n 0, 1) := by decide +kernel
theorem dX9_greatest_2 : decode cX9_greatest 2 = .ok (.iload_n 1, 1) := by decide +kernel
theorem dX9_greatest_3 : decode cX9_greatest 3 = .ok (.invokevirtual 113, 3) := by decide +kernel
theorem dX9_greatest_6 : decode cX9_greatest 6 = .ok (.ifCond .ne 7, 3) := by decide +kernel
theorem dX9_greatest_9 : decode cX9_greatest 9 = .ok (.iconst 1, 1) := by decide +kernel
theorem dX9_greatest_10 : decode cX9_greatest 10 = .ok (.goto 15, 3) := by decide +kernel
theorem dX9_greatest_13 : decode cX9_greatest 13 = .ok (.iload_n 2, 1) := by decide +kernel
theorem dX9_greatest_14 : decode cX9_greatest 14 = .ok (.invokestatic 214, 3) := by decide +kernel
theorem dX9_greatest_17 : decode cX9_greatest 17 = .ok (.ifCond .ne 7, 3) := by decide +kernel
theorem dX9_greatest_20 : decode cX9_greatest 20 = .ok (.iconst 2, 1) := by decide +kernel
theorem dX9_greatest_21 : decode cX9_greatest 21 = .ok (.goto 4, 3) := by decide +kernel
theorem dX9_greatest_24 : decode cX9_greatest 24 = .ok (.iconst 0, 1) := by decide +kernel
theorem dX9_greatest_25 : decode cX9_greatest 25 = .ok (.putfield 72, 3) := by decide +kernel
theorem dX9_greatest_28 : decode cX9_greatest 28 = .ok (.aload_n 0, 1) := by decide +kernel
theorem dX9_greatest_29 : decode cX9_greatest 29 = .ok (.getfield 72, 3) := by decide +kernel
theorem dX9_greatest_32 : decode cX9_greatest 32 = .ok (.ifCond .le 5, 3) := by decide +kernel
theorem dX9_greatest_35 : decode cX9_greatest 35 = .ok (.iconst 0, 1) := by decide +kernel
theorem dX9_greatest_36 : decode cX9_greatest 36 = .ok (.ireturn, 1) := by decide +kernel
theorem dX9_greatest_37 : decode cX9_greatest 37 = .ok (.aload_n 0, 1) := by decide +kernel
theorem dX9_greatest_38 : decode cX9_greatest 38 = .ok (.iconst 0, 1) := by decide +kernel
theorem dX9_greatest_39 : decode cX9_greatest 39 = .ok (.putfield 197, 3) := by decide +kernel
theorem dX9_greatest_42 : decode cX9_greatest 42 = .ok (.aload_n 0, 1) := by decide +kernel
theorem dX9_greatest_43 : decode cX9_greatest 43 = .ok (.iconst 0, 1) := by decide +kernel
theorem dX9_greatest_44 : decode cX9_greatest 44 = .ok (.iload_n 2, 1) := by decide +kernel
theorem dX9_greatest_45 : decode cX9_greatest 45 = .ok (.invokevirtual 217, 3) := by decide +kernel
theorem dX9_greatest_48 : decode cX9_greatest 48 = .ok (.istore_n 3, 1) := by decide +kernel
theorem dX9_greatest_49 : decode cX9_greatest 49 = .ok (.aload_n 0, 1) := by decide +kernel
theorem dX9_greatest_50 : decode cX9_greatest 50 = .ok (.getfield 200, 3) := by decide +kernel
theorem dX9_greatest_53 : decode cX9_greatest 53 = .ok (.iconst (-1), 1) := by decide +kernel
theorem dX9_greatest_54 : decode cX9_greatest 54 = .ok (.if_icmp .eq 10, 3) := by decide +kernel
theorem dX9_greatest_57 : decode cX9_greatest 57 = .ok (.aload_n 0, 1) := by decide +kernel
theorem dX9_greatest_58 : decode cX9_greatest 58 = .ok (.bipush 9, 2) := by decide +kernel
theorem dX9_greatest_60 : decode cX9_greatest 60 = .ok (.iload_n 1, 1) := by decide +kernel
theorem dX9_greatest_61 : decode cX9_greatest 61 = .ok (.invokevirtual 126, 3) := by decide +kernel
theorem dX9_greatest_64 : decode cX9_greatest 64 = .ok (.iload_n 3, 1) := by decide +kernel
theorem dX9_greatest_65 : decode cX9_greatest 65 = .ok (.ifCond .ne 8, 3) := by decide +kernel
theorem dX9_greatest_68 : decode cX9_greatest 68 = .ok (.aload_n 0, 1) := by decide +kernel
theorem dX9_greatest_69 : decode cX9_greatest 69 = .ok (.getfield 200, 3) := by decide +kernel
theorem dX9_greatest_72 : decode cX9_greatest 72 = .ok (.ireturn, 1) := by decide +kernel
theorem dX9_greatest_73 : decode cX9_greatest 73 = .ok (.aload_n 0, 1) := by decide +kernel
theorem dX9_greatest_74 : decode cX9_greatest 74 = .ok (.getfield 200, 3) := by decide +kernel
theorem dX9_greatest_77 : decode cX9_greatest 77 = .ok (.iconst (-1), 1) := by decide +kernel
theorem dX9_greatest_78 : decode cX9_greatest 78 = .ok (.if_icmp .ne 7, 3) := by decide +kernel
theorem dX9_greatest_81 : decode cX9_greatest 81 = .ok (.iconst (-1), 1) := by decide +kernel
theorem dX9_greatest_82 : decode cX9_greatest 82 = .ok (.goto 9, 3) := by decide +kernel
theorem dX9_greatest_85 : decode cX9_greatest 85 = .ok (.iconst (-1), 1) := by decide +kernel
theorem dX9_greatest_86 : decode cX9_greatest 86 = .ok (.aload_n 0, 1) := by decide +kernel
theorem dX9_greatest_87 : decode cX9_greatest 87 = .ok (.getfield 200, 3) := by decide +kernel
theorem dX9_greatest_90 : decode cX9_greatest 90 = .ok (.isub, 1) := by decide +kernel
theorem dX9_greatest_91 : decode cX9_greatest 91 = .ok (.ireturn, 1) := by decide +kernel
theorem dX9_list_0 : decode cX9_list 0 = .ok (.aload_n 0, 1) := by decide +kernel
theorem dX9_list_1 : decode cX9_list 1 = .ok (.iload_n 1, 1) := by decide +kernel
theorem dX9_list_2 : decode cX9_list 2 = .ok (.invokestatic 214, 3) := by decide +kernel
theorem dX9_list_5 : decode cX9_list 5 = .ok (.ifCond .eq 7, 3) := by decide +kernel
theorem dX9_list_8 : decode cX9_list 8 = .ok (.iconst 0, 1) := by decide +kernel
theorem dX9_list_9 : decode cX9_list 9 = .ok (.goto 4, 3) := by decide +kernel
theorem dX9_list_12 : decode cX9_list 12 = .ok (.iconst 1, 1) := by decide +kernel
theorem dX9_list_13 : decode cX9_list 13 = .ok (.putfield 72, 3) := by decide +kernel
theorem dX9_list_16 : decode cX9_list 16 = .ok (.aload_n 0, 1) := by decide +kernel
theorem dX9_list_17 : decode cX9_list 17 = .ok (.getfield 72, 3) := by decide +kernel
theorem dX9_list_20 : decode cX9_list 20 = .ok (.ifCond .le 5, 3) := by decide +kernel
theorem dX9_list_23 : decode cX9_list 23 = .ok (.iconst 0, 1) := by decide +kernel
theorem dX9_list_24 : decode cX9_list 24 = .ok (.ireturn, 1) := by decide +kernel
theorem dX9_list_25 : decode cX9_list 25 = .ok (.aload_n 0, 1) := by decide +kernel
theorem dX9_list_26 : decode cX9_list 26 = .ok (.iconst 0, 1) := by decide +kernel
theorem dX9_list_27 : decode cX9_list 27 = .ok (.putfield 197, 3) := by decide +kernel
theorem dX9_list_30 : decode cX9_list 30 = .ok (.aload_n 0, 1) := by decide +kernel
theorem dX9_list_31 : decode cX9_list 31 = .ok (.iconst 0, 1) := by decide +kernel
theorem dX9_list_32 : decode cX9_list 32 = .ok (.putfield 99, 3) := by decide +kernel
theorem dX9_list_35 : decode cX9_list 35 = .ok (.aload_n 0, 1) := by decide +kernel
theorem dX9_list_36 : decode cX9_list 36 = .ok (.iconst 0, 1) := by decide +kernel
theorem dX9_list_37 : decode cX9_list 37 = .ok (.iload_n 1, 1) := by decide +kernel
theorem dX9_list_38 : decode cX9_list 38 = .ok (.invokevirtual 217, 3) := by decide +kernel
theorem dX9_list_41 : decode cX9_list 41 = .ok (.ifCond .eq 5, 3) := by decide +kernel
theorem dX9_list_44 : decode cX9_list 44 = .ok (.iconst (-1), 1) := by decide +kernel
theorem dX9_list_45 : decode cX9_list 45 = .ok (.ireturn, 1) := by decide +kernel
theorem dX9_list_46 : decode cX9_list 46 = .ok (.aload_n 0, 1) := by decide +kernel
theorem dX9_list_47 : decode cX9_list 47 = .ok (.aload_n 0, 1) := by decide +kernel
theorem dX9_list_48 : decode cX9_list 48 = .ok (.getfield 200, 3) := by decide +kernel
theorem dX9_list_51 : decode cX9_list 51 = .ok (.putfield 203, 3) := by decide +kernel
theorem dX9_list_54 : decode cX9_list 54 = .ok (.aload_n 0, 1) := by decide +kernel
theorem dX9_list_55 : decode cX9_list 55 = .ok (.iconst 1, 1) := by decide +kernel
theorem dX9_list_56 : decode cX9_list 56 = .ok (.iload_n 1, 1) := by decide +kernel
theorem dX9_list_57 : decode cX9_list 57 = .ok (.invokevirtual 217, 3) := by decide +kernel
theorem dX9_list_60 : decode cX9_list 60 = .ok (.istore_n 2, 1) := by decide +kernel
theorem dX9_list_61 : decode cX9_list 61 = .ok (.iload_n 2, 1) := by decide +kernel
theorem dX9_list_62 : decode cX9_list 62 = .ok (.ifCond .ne 8, 3) := by decide +kernel
theorem dX9_list_65 : decode cX9_list 65 = .ok (.aload_n 0, 1) := by decide +kernel
theorem dX9_list_66 : decode cX9_list 66 = .ok (.getfield 99, 3) := by decide +kernel
theorem dX9_list_69 : decode cX9_list 69 = .ok (.ireturn, 1) := by decide +kernel
theorem dX9_list_70 : decode cX9_list 70 = .ok (.aload_n 0, 1) := by decide +kernel
theorem dX9_list_71 : decode cX9_list 71 = .ok (.iconst 0, 1) := by decide +kernel
theorem dX9_list_72 : decode cX9_list 72 = .ok (.putfield 99, 3) := by decide +kernel
theorem dX9_list_75 : decode cX9_list 75 = .ok (.iload_n 2, 1) := by decide +kernel
theorem dX9_list_76 : decode cX9_list 76 = .ok (.iconst 2, 1) := by decide +kernel
theorem dX9_list_77 : decode cX9_list 77 = .ok (.if_icmp .ne 7, 3) := by decide +kernel
theorem dX9_list_80 : decode cX9_list 80 = .ok (.iconst (-1), 1) := by decide +kernel
theorem dX9_list_81 : decode cX9_list 81 = .ok (.goto 5, 3) := by decide +kernel
theorem dX9_list_84 : decode cX9_list 84 = .ok (.bipush (-2), 2) := by decide +kernel
theorem dX9_list_86 : decode cX9_list 86 = .ok (.ireturn, 1) := by decide +kernel
theorem dX9_listed_0 : decode cX9_listed 0 = .ok (.aload_n 0, 1) := by decide +kernel
theorem dX9_listed_1 : decode cX9_listed 1 = .ok (.iload_n 1, 1) := by decide +kernel
theorem dX9_listed_2 : decode cX9_listed 2 = .ok (.invokevirtual 113, 3) := by decide +kernel
theorem dX9_listed_5 : decode cX9_listed 5 = .ok (.ifCond .ne 9, 3) := by decide +kernel
theorem dX9_listed_8 : decode cX9_listed 8 = .ok (.aload_n 0, 1) := by decide +kernel
theorem dX9_listed_9 : decode cX9_listed 9 = .ok (.iconst 1, 1) := by decide +kernel
theorem dX9_listed_10 : decode cX9_listed 10 = .ok (.invokevirtual 185, 3) := by decide +kernel
theorem dX9_listed_13 : decode cX9_listed 13 = .ok (.ireturn, 1) := by decide +kernel
theorem dX9_listed_14 : decode cX9_listed 14 = .ok (.aload_n 0, 1) := by decide +kernel
theorem dX9_listed_15 : decode cX9_listed 15 = .ok (.iconst 0, 1) := by decide +kernel
theorem dX9_listed_16 : decode cX9_listed 16 = .ok (.putfield 72, 3) := by decide +kernel
theorem dX9_listed_19 : decode cX9_listed 19 = .ok (.iload_n 2, 1) := by decide +kernel
theorem dX9_listed_20 : decode cX9_listed 20 = .ok (.ifCond .lt 11, 3) := by decide +kernel
theorem dX9_listed_23 : decode cX9_listed 23 = .ok (.iload_n 2, 1) := by decide +kernel
theorem dX9_listed_24 : decode cX9_listed 24 = .ok (.aload_n 0, 1) := by decide +kernel
theorem dX9_listed_25 : decode cX9_listed 25 = .ok (.getfield 99, 3) := by decide +kernel
theorem dX9_listed_28 : decode cX9_listed 28 = .ok (.if_icmp .lt 5, 3) := by decide +kernel
theorem dX9_listed_31 : decode cX9_listed 31 = .ok (.iconst (-1), 1) := by decide +kernel
theorem dX9_listed_32 : decode cX9_listed 32 = .ok (.ireturn, 1) := by decide +kernel
theorem dX9_listed_33 : decode cX9_listed 33 = .ok (.iconst 0, 1) := by decide +kernel
theorem dX9_listed_34 : decode cX9_listed 34 = .ok (.istore_n 3, 1) := by decide +kernel
theorem dX9_listed_35 : decode cX9_listed 35 = .ok (.iload_n 3, 1) := by decide +kernel
theorem dX9_listed_36 : decode cX9_listed 36 = .ok (.bipush 60, 2) := by decide +kernel
theorem dX9_listed_38 : decode cX9_listed 38 = .ok (.if_icmp .ge 31, 3) := by decide +kernel
theorem dX9_listed_41 : decode cX9_listed 41 = .ok (.aload_n 0, 1) := by decide +kernel
theorem dX9_listed_42 : decode cX9_listed 42 = .ok (.getfield 23, 3) := by decide +kernel
theorem dX9_listed_45 : decode cX9_listed 45 = .ok (.bipush 60, 2) := by decide +kernel
theorem dX9_listed_47 : decode cX9_listed 47 = .ok (.iload_n 1, 1) := by decide +kernel
theorem dX9_listed_48 : decode cX9_listed 48 = .ok (.imul, 1) := by decide +kernel
theorem dX9_listed_49 : decode cX9_listed 49 = .ok (.iload_n 3, 1) := by decide +kernel
theorem dX9_listed_50 : decode cX9_listed 50 = .ok (.iadd, 1) := by decide +kernel
theorem dX9_listed_51 : decode cX9_listed 51 = .ok (.aload_n 0, 1) := by decide +kernel
theorem dX9_listed_52 : decode cX9_listed 52 = .ok (.getfield 54, 3) := by decide +kernel
theorem dX9_listed_55 : decode cX9_listed 55 = .ok (.bipush 60, 2) := by decide +kernel
theorem dX9_listed_57 : decode cX9_listed 57 = .ok (.iload_n 2, 1) := by decide +kernel
theorem dX9_listed_58 : decode cX9_listed 58 = .ok (.imul, 1) := by decide +kernel
theorem dX9_listed_59 : decode cX9_listed 59 = .ok (.iload_n 3, 1) := by decide +kernel
theorem dX9_listed_60 : decode cX9_listed 60 = .ok (.iadd, 1) := by decide +kernel
theorem dX9_listed_61 : decode cX9_listed 61 = .ok (.baload, 1) := by decide +kernel
theorem dX9_listed_62 : decode cX9_listed 62 = .ok (.bastore, 1) := by decide +kernel
theorem dX9_listed_63 : decode cX9_listed 63 = .ok (.iinc 3 1, 3) := by decide +kernel
theorem dX9_listed_66 : decode cX9_listed 66 = .ok (.goto (-31), 3) := by decide +kernel
theorem dX9_listed_69 : decode cX9_listed 69 = .ok (.aload_n 0, 1) := by decide +kernel
theorem dX9_listed_70 : decode cX9_listed 70 = .ok (.iload_n 1, 1) := by decide +kernel
theorem dX9_listed_71 : decode cX9_listed 71 = .ok (.invokevirtual 130, 3) := by decide +kernel
theorem dX9_listed_74 : decode cX9_listed 74 = .ok (.ireturn, 1) := by decide +kernel
theorem dX9_count_0 : decode cX9_count 0 = .ok (.aload_n 0, 1) := by decide +kernel
theorem dX9_count_1 : decode cX9_count 1 = .ok (.iload_n 1, 1) := by decide +kernel
theorem dX9_count_2 : decode cX9_count 2 = .ok (.invokestatic 214, 3) := by decide +kernel
theorem dX9_count_5 : decode cX9_count 5 = .ok (.ifCond .eq 7, 3) := by decide +kernel
theorem dX9_count_8 : decode cX9_count 8 = .ok (.iconst 0, 1) := by decide +kernel
theorem dX9_count_9 : decode cX9_count 9 = .ok (.goto 4, 3) := by decide +kernel
theorem dX9_count_12 : decode cX9_count 12 = .ok (.iconst 1, 1) := by decide +kernel
theorem dX9_count_13 : decode cX9_count 13 = .ok (.putfield 72, 3) := by decide +kernel
theorem dX9_count_16 : decode cX9_count 16 = .ok (.aload_n 0, 1) := by decide +kernel
theorem dX9_count_17 : decode cX9_count 17 = .ok (.getfield 72, 3) := by decide +kernel
theorem dX9_count_20 : decode cX9_count 20 = .ok (.ifCond .le 5, 3) := by decide +kernel
theorem dX9_count_23 : decode cX9_count 23 = .ok (.iconst 0, 1) := by decide +kernel
theorem dX9_count_24 : decode cX9_count 24 = .ok (.ireturn, 1) := by decide +kernel
theorem dX9_count_25 : decode cX9_count 25 = .ok (.aload_n 0, 1) := by decide +kernel
theorem dX9_count_26 : decode cX9_count 26 = .ok (.iconst 0, 1) := by decide +kernel
theorem dX9_count_27 : decode cX9_count 27 = .ok (.putfield 197, 3) := by decide +kernel
theorem dX9_count_30 : decode cX9_count 30 = .ok (.aload_n 0, 1) := by decide +kernel
theorem dX9_count_31 : decode cX9_count 31 = .ok (.iconst 2, 1) := by decide +kernel
theorem dX9_count_32 : decode cX9_count 32 = .ok (.iload_n 1, 1) := by decide +kernel
theorem dX9_count_33 : decode cX9_count 33 = .ok (.invokevirtual 217, 3) := by decide +kernel
theorem dX9_count_36 : decode cX9_count 36 = .ok (.ifCond .ne 10, 3) := by decide +kernel
theorem dX9_count_39 : decode cX9_count 39 = .ok (.aload_n 0, 1) := by decide +kernel
theorem dX9_count_40 : decode cX9_count 40 = .ok (.getfield 206, 3) := by decide +kernel
theorem dX9_count_43 : decode cX9_count 43 = .ok (.goto 4, 3) := by decide +kernel
theorem dX9_count_46 : decode cX9_count 46 = .ok (.iconst (-1), 1) := by decide +kernel
theorem dX9_count_47 : decode cX9_count 47 = .ok (.ireturn, 1) := by decide +kernel
theorem dX9_common_0 : decode cX9_common 0 = .ok (.iload_n 0, 1) := by decide +kernel
theorem dX9_common_1 : decode cX9_common 1 = .ok (.istore_n 2, 1) := by decide +kernel
theorem dX9_common_2 : decode cX9_common 2 = .ok (.iload_n 1, 1) := by decide +kernel
theorem dX9_common_3 : decode cX9_common 3 = .ok (.istore_n 3, 1) := by decide +kernel
theorem dX9_common_4 : decode cX9_common 4 = .ok (.iload_n 3, 1) := by decide +kernel
theorem dX9_common_5 : decode cX9_common 5 = .ok (.ifCond .eq 16, 3) := by decide +kernel
theorem dX9_common_8 : decode cX9_common 8 = .ok (.iload_n 2, 1) := by decide +kernel
theorem dX9_common_9 : decode cX9_common 9 = .ok (.iload_n 3, 1) := by decide +kernel
theorem dX9_common_10 : decode cX9_common 10 = .ok (.irem, 1) := by decide +kernel
theorem dX9_common_11 : decode cX9_common 11 = .ok (.istore 4, 2) := by decide +kernel
theorem dX9_common_13 : decode cX9_common 13 = .ok (.iload_n 3, 1) := by decide +kernel
theorem dX9_common_14 : decode cX9_common 14 = .ok (.istore_n 2, 1) := by decide +kernel
theorem dX9_common_15 : decode cX9_common 15 = .ok (.iload 4, 2) := by decide +kernel
theorem dX9_common_17 : decode cX9_common 17 = .ok (.istore_n 3, 1) := by decide +kernel
theorem dX9_common_18 : decode cX9_common 18 = .ok (.goto (-14), 3) := by decide +kernel
theorem dX9_common_21 : decode cX9_common 21 = .ok (.iload_n 2, 1) := by decide +kernel
theorem dX9_common_22 : decode cX9_common 22 = .ok (.ireturn, 1) := by decide +kernel
theorem dX9_isFactor_0 : decode cX9_isFactor 0 = .ok (.iload_n 2, 1) := by decide +kernel
theorem dX9_isFactor_1 : decode cX9_isFactor 1 = .ok (.iconst 1, 1) := by decide +kernel
theorem dX9_isFactor_2 : decode cX9_isFactor 2 = .ok (.if_icmp .ne 5, 3) := by decide +kernel
theorem dX9_isFactor_5 : decode cX9_isFactor 5 = .ok (.iconst 1, 1) := by decide +kernel
theorem dX9_isFactor_6 : decode cX9_isFactor 6 = .ok (.ireturn, 1) := by decide +kernel
theorem dX9_isFactor_7 : decode cX9_isFactor 7 = .ok (.aload_n 0, 1) := by decide +kernel
theorem dX9_isFactor_8 : decode cX9_isFactor 8 = .ok (.getfield 82, 3) := by decide +kernel
theorem dX9_isFactor_11 : decode cX9_isFactor 11 = .ok (.ifCond .ne 29, 3) := by decide +kernel
theorem dX9_isFactor_14 : decode cX9_isFactor 14 = .ok (.iload_n 2, 1) := by decide +kernel
theorem dX9_isFactor_15 : decode cX9_isFactor 15 = .ok (.iconst 2, 1) := by decide +kernel
theorem dX9_isFactor_16 : decode cX9_isFactor 16 = .ok (.if_icmp .ne 22, 3) := by decide +kernel
theorem dX9_isFactor_19 : decode cX9_isFactor 19 = .ok (.iload_n 1, 1) := by decide +kernel
theorem dX9_isFactor_20 : decode cX9_isFactor 20 = .ok (.iconst 1, 1) := by decide +kernel
theorem dX9_isFactor_21 : decode cX9_isFactor 21 = .ok (.iand, 1) := by decide +kernel
theorem dX9_isFactor_22 : decode cX9_isFactor 22 = .ok (.iconst 1, 1) := by decide +kernel
theorem dX9_isFactor_23 : decode cX9_isFactor 23 = .ok (.if_icmp .ne 15, 3) := by decide +kernel
theorem dX9_isFactor_26 : decode cX9_isFactor 26 = .ok (.aload_n 0, 1) := by decide +kernel
theorem dX9_isFactor_27 : decode cX9_isFactor 27 = .ok (.getfield 13, 3) := by decide +kernel
theorem dX9_isFactor_30 : decode cX9_isFactor 30 = .ok (.iconst 1, 1) := by decide +kernel
theorem dX9_isFactor_31 : decode cX9_isFactor 31 = .ok (.if_icmp .le 7, 3) := by decide +kernel
theorem dX9_isFactor_34 : decode cX9_isFactor 34 = .ok (.iconst 1, 1) := by decide +kernel
theorem dX9_isFactor_35 : decode cX9_isFactor 35 = .ok (.goto 4, 3) := by decide +kernel
theorem dX9_isFactor_38 : decode cX9_isFactor 38 = .ok (.iconst 0, 1) := by decide +kernel
theorem dX9_isFactor_39 : decode cX9_isFactor 39 = .ok (.ireturn, 1) := by decide +kernel
theorem dX9_isFactor_40 : decode cX9_isFactor 40 = .ok (.aload_n 0, 1) := by decide +kernel
theorem dX9_isFactor_41 : decode cX9_isFactor 41 = .ok (.getfield 82, 3) := by decide +kernel
theorem dX9_isFactor_44 : decode cX9_isFactor 44 = .ok (.iconst 2, 1) := by decide +kernel
theorem dX9_isFactor_45 : decode cX9_isFactor 45 = .ok (.if_icmp .ne 21, 3) := by decide +kernel
theorem dX9_isFactor_48 : decode cX9_isFactor 48 = .ok (.iload_n 2, 1) := by decide +kernel
theorem dX9_isFactor_49 : decode cX9_isFactor 49 = .ok (.iconst 2, 1) := by decide +kernel
theorem dX9_isFactor_50 : decode cX9_isFactor 50 = .ok (.if_icmp .ne 14, 3) := by decide +kernel
theorem dX9_isFactor_53 : decode cX9_isFactor 53 = .ok (.iload_n 1, 1) := by decide +kernel
theorem dX9_isFactor_54 : decode cX9_isFactor 54 = .ok (.iconst 1, 1) := by decide +kernel
theorem dX9_isFactor_55 : decode cX9_isFactor 55 = .ok (.iand, 1) := by decide +kernel
theorem dX9_isFactor_56 : decode cX9_isFactor 56 = .ok (.iconst 1, 1) := by decide +kernel
theorem dX9_isFactor_57 : decode cX9_isFactor 57 = .ok (.if_icmp .ne 7, 3) := by decide +kernel
theorem dX9_isFactor_60 : decode cX9_isFactor 60 = .ok (.iconst 1, 1) := by decide +kernel
theorem dX9_isFactor_61 : decode cX9_isFactor 61 = .ok (.goto 4, 3) := by decide +kernel
theorem dX9_isFactor_64 : decode cX9_isFactor 64 = .ok (.iconst 0, 1) := by decide +kernel
theorem dX9_isFactor_65 : decode cX9_isFactor 65 = .ok (.ireturn, 1) := by decide +kernel
theorem dX9_isFactor_66 : decode cX9_isFactor 66 = .ok (.iload_n 1, 1) := by decide +kernel
theorem dX9_isFactor_67 : decode cX9_isFactor 67 = .ok (.iconst 1, 1) := by decide +kernel
theorem dX9_isFactor_68 : decode cX9_isFactor 68 = .ok (.iand, 1) := by decide +kernel
theorem dX9_isFactor_69 : decode cX9_isFactor 69 = .ok (.iconst 1, 1) := by decide +kernel
theorem dX9_isFactor_70 : decode cX9_isFactor 70 = .ok (.if_icmp .ne 13, 3) := by decide +kernel
theorem dX9_isFactor_73 : decode cX9_isFactor 73 = .ok (.iload_n 2, 1) := by decide +kernel
theorem dX9_isFactor_74 : decode cX9_isFactor 74 = .ok (.aload_n 0, 1) := by decide +kernel
theorem dX9_isFactor_75 : decode cX9_isFactor 75 = .ok (.getfield 13, 3) := by decide +kernel
theorem dX9_isFactor_78 : decode cX9_isFactor 78 = .ok (.iconst 1, 1) := by decide +kernel
theorem dX9_isFactor_79 : decode cX9_isFactor 79 = .ok (.isub, 1) := by decide +kernel
theorem dX9_isFactor_80 : decode cX9_isFactor 80 = .ok (.if_icmp .eq 22, 3) := by decide +kernel
theorem dX9_isFactor_83 : decode cX9_isFactor 83 = .ok (.iload_n 1, 1) := by decide +kernel
theorem dX9_isFactor_84 : decode cX9_isFactor 84 = .ok (.iconst 4, 1) := by decide +kernel
theorem dX9_isFactor_85 : decode cX9_isFactor 85 = .ok (.iand, 1) := by decide +kernel
theorem dX9_isFactor_86 : decode cX9_isFactor 86 = .ok (.iconst 4, 1) := by decide +kernel
theorem dX9_isFactor_87 : decode cX9_isFactor 87 = .ok (.if_icmp .ne 19, 3) := by decide +kernel
theorem dX9_isFactor_90 : decode cX9_isFactor 90 = .ok (.iload_n 2, 1) := by decide +kernel
theorem dX9_isFactor_91 : decode cX9_isFactor 91 = .ok (.aload_n 0, 1) := by decide +kernel
theorem dX9_isFactor_92 : decode cX9_isFactor 92 = .ok (.getfield 13, 3) := by decide +kernel
theorem dX9_isFactor_95 : decode cX9_isFactor 95 = .ok (.invokestatic 220, 3) := by decide +kernel
theorem dX9_isFactor_98 : decode cX9_isFactor 98 = .ok (.iconst 1, 1) := by decide +kernel
theorem dX9_isFactor_99 : decode cX9_isFactor 99 = .ok (.if_icmp .ne 7, 3) := by decide +kernel
theorem dX9_isFactor_102 : decode cX9_isFactor 102 = .ok (.iconst 1, 1) := by decide +kernel
theorem dX9_isFactor_103 : decode cX9_isFactor 103 = .ok (.goto 4, 3) := by decide +kernel
theorem dX9_isFactor_106 : decode cX9_isFactor 106 = .ok (.iconst 0, 1) := by decide +kernel
theorem dX9_isFactor_107 : decode cX9_isFactor 107 = .ok (.ireturn, 1) := by decide +kernel
theorem dX9_turned_0 : decode cX9_turned 0 = .ok (.aload_n 0, 1) := by decide +kernel
theorem dX9_turned_1 : decode cX9_turned 1 = .ok (.getfield 82, 3) := by decide +kernel
theorem dX9_turned_4 : decode cX9_turned 4 = .ok (.ifCond .ne 21, 3) := by decide +kernel
theorem dX9_turned_7 : decode cX9_turned 7 = .ok (.iload_n 1, 1) := by decide +kernel
theorem dX9_turned_8 : decode cX9_turned 8 = .ok (.iconst 2, 1) := by decide +kernel
theorem dX9_turned_9 : decode cX9_turned 9 = .ok (.if_icmp .ne 14, 3) := by decide +kernel
theorem dX9_turned_12 : decode cX9_turned 12 = .ok (.aload_n 0, 1) := by decide +kernel
theorem dX9_turned_13 : decode cX9_turned 13 = .ok (.getfield 13, 3) := by decide +kernel
theorem dX9_turned_16 : decode cX9_turned 16 = .ok (.iconst 1, 1) := by decide +kernel
theorem dX9_turned_17 : decode cX9_turned 17 = .ok (.iadd, 1) := by decide +kernel
theorem dX9_turned_18 : decode cX9_turned 18 = .ok (.iload_n 3, 1) := by decide +kernel
theorem dX9_turned_19 : decode cX9_turned 19 = .ok (.isub, 1) := by decide +kernel
theorem dX9_turned_20 : decode cX9_turned 20 = .ok (.goto 4, 3) := by decide +kernel
theorem dX9_turned_23 : decode cX9_turned 23 = .ok (.iload_n 3, 1) := by decide +kernel
theorem dX9_turned_24 : decode cX9_turned 24 = .ok (.ireturn, 1) := by decide +kernel
theorem dX9_turned_25 : decode cX9_turned 25 = .ok (.aload_n 0, 1) := by decide +kernel
theorem dX9_turned_26 : decode cX9_turned 26 = .ok (.aload_n 0, 1) := by decide +kernel
theorem dX9_turned_27 : decode cX9_turned 27 = .ok (.iload_n 1, 1) := by decide +kernel
theorem dX9_turned_28 : decode cX9_turned 28 = .ok (.iload_n 3, 1) := by decide +kernel
theorem dX9_turned_29 : decode cX9_turned 29 = .ok (.invokevirtual 223, 3) := by decide +kernel
theorem dX9_turned_32 : decode cX9_turned 32 = .ok (.iload_n 2, 1) := by decide +kernel
theorem dX9_turned_33 : decode cX9_turned 33 = .ok (.invokevirtual 141, 3) := by decide +kernel
theorem dX9_turned_36 : decode cX9_turned 36 = .ok (.ireturn, 1) := by decide +kernel
theorem dX9_product0_0 : decode cX9_product0 0 = .ok (.aload_n 0, 1) := by decide +kernel
theorem dX9_product0_1 : decode cX9_product0 1 = .ok (.iload_n 1, 1) := by decide +kernel
theorem dX9_product0_2 : decode cX9_product0 2 = .ok (.iload_n 2, 1) := by decide +kernel
theorem dX9_product0_3 : decode cX9_product0 3 = .ok (.iconst 0, 1) := by decide +kernel
theorem dX9_product0_4 : decode cX9_product0 4 = .ok (.iconst 0, 1) := by decide +kernel
theorem dX9_product0_5 : decode cX9_product0 5 = .ok (.invokevirtual 93, 3) := by decide +kernel
theorem dX9_product0_8 : decode cX9_product0 8 = .ok (.ireturn, 1) := by decide +kernel
theorem dX9_factors_0 : decode cX9_factors 0 = .ok (.aload_n 0, 1) := by decide +kernel
theorem dX9_factors_1 : decode cX9_factors 1 = .ok (.getfield 82, 3) := by decide +kernel
theorem dX9_factors_4 : decode cX9_factors 4 = .ok (.iconst 1, 1) := by decide +kernel
theorem dX9_factors_5 : decode cX9_factors 5 = .ok (.if_icmp .ne 12, 3) := by decide +kernel
theorem dX9_factors_8 : decode cX9_factors 8 = .ok (.aload_n 0, 1) := by decide +kernel
theorem dX9_factors_9 : decode cX9_factors 9 = .ok (.getfield 13, 3) := by decide +kernel
theorem dX9_factors_12 : decode cX9_factors 12 = .ok (.iconst 1, 1) := by decide +kernel
theorem dX9_factors_13 : decode cX9_factors 13 = .ok (.isub, 1) := by decide +kernel
theorem dX9_factors_14 : decode cX9_factors 14 = .ok (.goto 4, 3) := by decide +kernel
theorem dX9_factors_17 : decode cX9_factors 17 = .ok (.iconst 2, 1) := by decide +kernel
theorem dX9_factors_18 : decode cX9_factors 18 = .ok (.ireturn, 1) := by decide +kernel
theorem dX9_shifts_0 : decode cX9_shifts 0 = .ok (.aload_n 0, 1) := by decide +kernel
theorem dX9_shifts_1 : decode cX9_shifts 1 = .ok (.getfield 82, 3) := by decide +kernel
theorem dX9_shifts_4 : decode cX9_shifts 4 = .ok (.ifCond .le 17, 3) := by decide +kernel
theorem dX9_shifts_7 : decode cX9_shifts 7 = .ok (.iload_n 1, 1) := by decide +kernel
theorem dX9_shifts_8 : decode cX9_shifts 8 = .ok (.iconst 2, 1) := by decide +kernel
theorem dX9_shifts_9 : decode cX9_shifts 9 = .ok (.iand, 1) := by decide +kernel
theorem dX9_shifts_10 : decode cX9_shifts 10 = .ok (.iconst 2, 1) := by decide +kernel
theorem dX9_shifts_11 : decode cX9_shifts 11 = .ok (.if_icmp .ne 10, 3) := by decide +kernel
theorem dX9_shifts_14 : decode cX9_shifts 14 = .ok (.aload_n 0, 1) := by decide +kernel
theorem dX9_shifts_15 : decode cX9_shifts 15 = .ok (.getfield 17, 3) := by decide +kernel
theorem dX9_shifts_18 : decode cX9_shifts 18 = .ok (.goto 4, 3) := by decide +kernel
theorem dX9_shifts_21 : decode cX9_shifts 21 = .ok (.iconst 1, 1) := by decide +kernel
theorem dX9_shifts_22 : decode cX9_shifts 22 = .ok (.ireturn, 1) := by decide +kernel
theorem dX9_makes_0 : decode cX9_makes 0 = .ok (.aload_n 0, 1) := by decide +kernel
theorem dX9_makes_1 : decode cX9_makes 1 = .ok (.getfield 20, 3) := by decide +kernel
theorem dX9_makes_4 : decode cX9_makes 4 = .ok (.istore 5, 2) := by decide +kernel
theorem dX9_makes_6 : decode cX9_makes 6 = .ok (.iload 5, 2) := by decide +kernel
theorem dX9_makes_8 : decode cX9_makes 8 = .ok (.aload_n 0, 1) := by decide +kernel
theorem dX9_makes_9 : decode cX9_makes 9 = .ok (.getfield 20, 3) := by decide +kernel
theorem dX9_makes_12 : decode cX9_makes 12 = .ok (.aload_n 0, 1) := by decide +kernel
theorem dX9_makes_13 : decode cX9_makes 13 = .ok (.getfield 17, 3) := by decide +kernel
theorem dX9_makes_16 : decode cX9_makes 16 = .ok (.iadd, 1) := by decide +kernel
theorem dX9_makes_17 : decode cX9_makes 17 = .ok (.if_icmp .ge 55, 3) := by decide +kernel
theorem dX9_makes_20 : decode cX9_makes 20 = .ok (.aload_n 0, 1) := by decide +kernel
theorem dX9_makes_21 : decode cX9_makes 21 = .ok (.getfield 54, 3) := by decide +kernel
theorem dX9_makes_24 : decode cX9_makes 24 = .ok (.bipush 60, 2) := by decide +kernel
theorem dX9_makes_26 : decode cX9_makes 26 = .ok (.iload_n 3, 1) := by decide +kernel
theorem dX9_makes_27 : decode cX9_makes 27 = .ok (.imul, 1) := by decide +kernel
theorem dX9_makes_28 : decode cX9_makes 28 = .ok (.iload 5, 2) := by decide +kernel
theorem dX9_makes_30 : decode cX9_makes 30 = .ok (.iadd, 1) := by decide +kernel
theorem dX9_makes_31 : decode cX9_makes 31 = .ok (.aload_n 0, 1) := by decide +kernel
theorem dX9_makes_32 : decode cX9_makes 32 = .ok (.getfield 20, 3) := by decide +kernel
theorem dX9_makes_35 : decode cX9_makes 35 = .ok (.isub, 1) := by decide +kernel
theorem dX9_makes_36 : decode cX9_makes 36 = .ok (.baload, 1) := by decide +kernel
theorem dX9_makes_37 : decode cX9_makes 37 = .ok (.aload_n 0, 1) := by decide +kernel
theorem dX9_makes_38 : decode cX9_makes 38 = .ok (.getfield 54, 3) := by decide +kernel
theorem dX9_makes_41 : decode cX9_makes 41 = .ok (.bipush 60, 2) := by decide +kernel
theorem dX9_makes_43 : decode cX9_makes 43 = .ok (.iload 4, 2) := by decide +kernel
theorem dX9_makes_45 : decode cX9_makes 45 = .ok (.imul, 1) := by decide +kernel
theorem dX9_makes_46 : decode cX9_makes 46 = .ok (.aload_n 0, 1) := by decide +kernel
theorem dX9_makes_47 : decode cX9_makes 47 = .ok (.iload_n 1, 1) := by decide +kernel
theorem dX9_makes_48 : decode cX9_makes 48 = .ok (.iload_n 2, 1) := by decide +kernel
theorem dX9_makes_49 : decode cX9_makes 49 = .ok (.iload 5, 2) := by decide +kernel
theorem dX9_makes_51 : decode cX9_makes 51 = .ok (.invokevirtual 226, 3) := by decide +kernel
theorem dX9_makes_54 : decode cX9_makes 54 = .ok (.iadd, 1) := by decide +kernel
theorem dX9_makes_55 : decode cX9_makes 55 = .ok (.aload_n 0, 1) := by decide +kernel
theorem dX9_makes_56 : decode cX9_makes 56 = .ok (.getfield 20, 3) := by decide +kernel
theorem dX9_makes_59 : decode cX9_makes 59 = .ok (.isub, 1) := by decide +kernel
theorem dX9_makes_60 : decode cX9_makes 60 = .ok (.baload, 1) := by decide +kernel
theorem dX9_makes_61 : decode cX9_makes 61 = .ok (.if_icmp .eq 5, 3) := by decide +kernel
theorem dX9_makes_64 : decode cX9_makes 64 = .ok (.iconst 0, 1) := by decide +kernel
theorem dX9_makes_65 : decode cX9_makes 65 = .ok (.ireturn, 1) := by decide +kernel
theorem dX9_makes_66 : decode cX9_makes 66 = .ok (.iinc 5 1, 3) := by decide +kernel
theorem dX9_makes_69 : decode cX9_makes 69 = .ok (.goto (-63), 3) := by decide +kernel
theorem dX9_makes_72 : decode cX9_makes 72 = .ok (.iconst 1, 1) := by decide +kernel
theorem dX9_makes_73 : decode cX9_makes 73 = .ok (.ireturn, 1) := by decide +kernel
theorem dX9_waysFrom_0 : decode cX9_waysFrom 0 = .ok (.iconst 0, 1) := by decide +kernel
theorem dX9_waysFrom_1 : decode cX9_waysFrom 1 = .ok (.istore 5, 2) := by decide +kernel
theorem dX9_waysFrom_3 : decode cX9_waysFrom 3 = .ok (.iconst 1, 1) := by decide +kernel
theorem dX9_waysFrom_4 : decode cX9_waysFrom 4 = .ok (.istore 6, 2) := by decide +kernel
theorem dX9_waysFrom_6 : decode cX9_waysFrom 6 = .ok (.iload 6, 2) := by decide +kernel
theorem dX9_waysFrom_8 : decode cX9_waysFrom 8 = .ok (.aload_n 0, 1) := by decide +kernel
theorem dX9_waysFrom_9 : decode cX9_waysFrom 9 = .ok (.invokevirtual 229, 3) := by decide +kernel
theorem dX9_waysFrom_12 : decode cX9_waysFrom 12 = .ok (.if_icmp .gt 68, 3) := by decide +kernel
theorem dX9_waysFrom_15 : decode cX9_waysFrom 15 = .ok (.aload_n 0, 1) := by decide +kernel
theorem dX9_waysFrom_16 : decode cX9_waysFrom 16 = .ok (.iload_n 1, 1) := by decide +kernel
theorem dX9_waysFrom_17 : decode cX9_waysFrom 17 = .ok (.iload 6, 2) := by decide +kernel
theorem dX9_waysFrom_19 : decode cX9_waysFrom 19 = .ok (.invokevirtual 233, 3) := by decide +kernel
theorem dX9_waysFrom_22 : decode cX9_waysFrom 22 = .ok (.ifCond .ne 6, 3) := by decide +kernel
theorem dX9_waysFrom_25 : decode cX9_waysFrom 25 = .ok (.goto 49, 3) := by decide +kernel
theorem dX9_waysFrom_28 : decode cX9_waysFrom 28 = .ok (.iconst 0, 1) := by decide +kernel
theorem dX9_waysFrom_29 : decode cX9_waysFrom 29 = .ok (.istore 7, 2) := by decide +kernel
theorem dX9_waysFrom_31 : decode cX9_waysFrom 31 = .ok (.iload 7, 2) := by decide +kernel
theorem dX9_waysFrom_33 : decode cX9_waysFrom 33 = .ok (.aload_n 0, 1) := by decide +kernel
theorem dX9_waysFrom_34 : decode cX9_waysFrom 34 = .ok (.iload_n 1, 1) := by decide +kernel
theorem dX9_waysFrom_35 : decode cX9_waysFrom 35 = .ok (.invokevirtual 236, 3) := by decide +kernel
theorem dX9_waysFrom_38 : decode cX9_waysFrom 38 = .ok (.if_icmp .ge 36, 3) := by decide +kernel
theorem dX9_waysFrom_41 : decode cX9_waysFrom 41 = .ok (.aload_n 0, 1) := by decide +kernel
theorem dX9_waysFrom_42 : decode cX9_waysFrom 42 = .ok (.iload 6, 2) := by decide +kernel
theorem dX9_waysFrom_44 : decode cX9_waysFrom 44 = .ok (.iload 7, 2) := by decide +kernel
theorem dX9_waysFrom_46 : decode cX9_waysFrom 46 = .ok (.iload_n 2, 1) := by decide +kernel
theorem dX9_waysFrom_47 : decode cX9_waysFrom 47 = .ok (.iload_n 3, 1) := by decide +kernel
theorem dX9_waysFrom_48 : decode cX9_waysFrom 48 = .ok (.invokevirtual 239, 3) := by decide +kernel
theorem dX9_waysFrom_51 : decode cX9_waysFrom 51 = .ok (.ifCond .ne 6, 3) := by decide +kernel
theorem dX9_waysFrom_54 : decode cX9_waysFrom 54 = .ok (.goto 14, 3) := by decide +kernel
theorem dX9_waysFrom_57 : decode cX9_waysFrom 57 = .ok (.iinc 5 1, 3) := by decide +kernel
theorem dX9_waysFrom_60 : decode cX9_waysFrom 60 = .ok (.iload 4, 2) := by decide +kernel
theorem dX9_waysFrom_62 : decode cX9_waysFrom 62 = .ok (.ifCond .eq 6, 3) := by decide +kernel
theorem dX9_waysFrom_65 : decode cX9_waysFrom 65 = .ok (.iload 5, 2) := by decide +kernel
theorem dX9_waysFrom_67 : decode cX9_waysFrom 67 = .ok (.ireturn, 1) := by decide +kernel
theorem dX9_waysFrom_68 : decode cX9_waysFrom 68 = .ok (.iinc 7 1, 3) := by decide +kernel
theorem dX9_waysFrom_71 : decode cX9_waysFrom 71 = .ok (.goto (-40), 3) := by decide +kernel
theorem dX9_waysFrom_74 : decode cX9_waysFrom 74 = .ok (.iinc 6 1, 3) := by decide +kernel
theorem dX9_waysFrom_77 : decode cX9_waysFrom 77 = .ok (.goto (-71), 3) := by decide +kernel
theorem dX9_waysFrom_80 : decode cX9_waysFrom 80 = .ok (.iload 5, 2) := by decide +kernel
theorem dX9_waysFrom_82 : decode cX9_waysFrom 82 = .ok (.ireturn, 1) := by decide +kernel
theorem dX9_kindsOf_0 : decode cX9_kindsOf 0 = .ok (.iconst 0, 1) := by decide +kernel
theorem dX9_kindsOf_1 : decode cX9_kindsOf 1 = .ok (.istore_n 2, 1) := by decide +kernel
theorem dX9_kindsOf_2 : decode cX9_kindsOf 2 = .ok (.iconst 0, 1) := by decide +kernel
theorem dX9_kindsOf_3 : decode cX9_kindsOf 3 = .ok (.istore_n 3, 1) := by decide +kernel
theorem dX9_kindsOf_4 : decode cX9_kindsOf 4 = .ok (.iload_n 3, 1) := by decide +kernel
theorem dX9_kindsOf_5 : decode cX9_kindsOf 5 = .ok (.aload_n 0, 1) := by decide +kernel
theorem dX9_kindsOf_6 : decode cX9_kindsOf 6 = .ok (.getfield 99, 3) := by decide +kernel
theorem dX9_kindsOf_9 : decode cX9_kindsOf 9 = .ok (.if_icmp .ge 86, 3) := by decide +kernel
theorem dX9_kindsOf_12 : decode cX9_kindsOf 12 = .ok (.aload_n 0, 1) := by decide +kernel
theorem dX9_kindsOf_13 : decode cX9_kindsOf 13 = .ok (.getfield 51, 3) := by decide +kernel
theorem dX9_kindsOf_16 : decode cX9_kindsOf 16 = .ok (.iload_n 3, 1) := by decide +kernel
theorem dX9_kindsOf_17 : decode cX9_kindsOf 17 = .ok (.iload_n 3, 1) := by decide +kernel
theorem dX9_kindsOf_18 : decode cX9_kindsOf 18 = .ok (.iastore, 1) := by decide +kernel
theorem dX9_kindsOf_19 : decode cX9_kindsOf 19 = .ok (.iconst 0, 1) := by decide +kernel
theorem dX9_kindsOf_20 : decode cX9_kindsOf 20 = .ok (.istore 4, 2) := by decide +kernel
theorem dX9_kindsOf_22 : decode cX9_kindsOf 22 = .ok (.iload 4, 2) := by decide +kernel
theorem dX9_kindsOf_24 : decode cX9_kindsOf 24 = .ok (.iload_n 3, 1) := by decide +kernel
theorem dX9_kindsOf_25 : decode cX9_kindsOf 25 = .ok (.if_icmp .ge 51, 3) := by decide +kernel
theorem dX9_kindsOf_28 : decode cX9_kindsOf 28 = .ok (.aload_n 0, 1) := by decide +kernel
theorem dX9_kindsOf_29 : decode cX9_kindsOf 29 = .ok (.getfield 51, 3) := by decide +kernel
theorem dX9_kindsOf_32 : decode cX9_kindsOf 32 = .ok (.iload_n 3, 1) := by decide +kernel
theorem dX9_kindsOf_33 : decode cX9_kindsOf 33 = .ok (.iaload, 1) := by decide +kernel
theorem dX9_kindsOf_34 : decode cX9_kindsOf 34 = .ok (.iload_n 3, 1) := by decide +kernel
theorem dX9_kindsOf_35 : decode cX9_kindsOf 35 = .ok (.if_icmp .ne 41, 3) := by decide +kernel
theorem dX9_kindsOf_38 : decode cX9_kindsOf 38 = .ok (.aload_n 0, 1) := by decide +kernel
theorem dX9_kindsOf_39 : decode cX9_kindsOf 39 = .ok (.getfield 51, 3) := by decide +kernel
theorem dX9_kindsOf_42 : decode cX9_kindsOf 42 = .ok (.iload 4, 2) := by decide +kernel
theorem dX9_kindsOf_44 : decode cX9_kindsOf 44 = .ok (.iaload, 1) := by decide +kernel
theorem dX9_kindsOf_45 : decode cX9_kindsOf 45 = .ok (.iload 4, 2) := by decide +kernel
theorem dX9_kindsOf_47 : decode cX9_kindsOf 47 = .ok (.if_icmp .ne 23, 3) := by decide +kernel
theorem dX9_kindsOf_50 : decode cX9_kindsOf 50 = .ok (.aload_n 0, 1) := by decide +kernel
theorem dX9_kindsOf_51 : decode cX9_kindsOf 51 = .ok (.iload_n 1, 1) := by decide +kernel
theorem dX9_kindsOf_52 : decode cX9_kindsOf 52 = .ok (.iload 4, 2) := by decide +kernel
theorem dX9_kindsOf_54 : decode cX9_kindsOf 54 = .ok (.iload_n 3, 1) := by decide +kernel
theorem dX9_kindsOf_55 : decode cX9_kindsOf 55 = .ok (.iconst 1, 1) := by decide +kernel
theorem dX9_kindsOf_56 : decode cX9_kindsOf 56 = .ok (.invokevirtual 242, 3) := by decide +kernel
theorem dX9_kindsOf_59 : decode cX9_kindsOf 59 = .ok (.ifCond .le 11, 3) := by decide +kernel
theorem dX9_kindsOf_62 : decode cX9_kindsOf 62 = .ok (.aload_n 0, 1) := by decide +kernel
theorem dX9_kindsOf_63 : decode cX9_kindsOf 63 = .ok (.getfield 51, 3) := by decide +kernel
theorem dX9_kindsOf_66 : decode cX9_kindsOf 66 = .ok (.iload_n 3, 1) := by decide +kernel
theorem dX9_kindsOf_67 : decode cX9_kindsOf 67 = .ok (.iload 4, 2) := by decide +kernel
theorem dX9_kindsOf_69 : decode cX9_kindsOf 69 = .ok (.iastore, 1) := by decide +kernel
theorem dX9_kindsOf_70 : decode cX9_kindsOf 70 = .ok (.iinc 4 1, 3) := by decide +kernel
theorem dX9_kindsOf_73 : decode cX9_kindsOf 73 = .ok (.goto (-51), 3) := by decide +kernel
theorem dX9_kindsOf_76 : decode cX9_kindsOf 76 = .ok (.aload_n 0, 1) := by decide +kernel
theorem dX9_kindsOf_77 : decode cX9_kindsOf 77 = .ok (.getfield 51, 3) := by decide +kernel
theorem dX9_kindsOf_80 : decode cX9_kindsOf 80 = .ok (.iload_n 3, 1) := by decide +kernel
theorem dX9_kindsOf_81 : decode cX9_kindsOf 81 = .ok (.iaload, 1) := by decide +kernel
theorem dX9_kindsOf_82 : decode cX9_kindsOf 82 = .ok (.iload_n 3, 1) := by decide +kernel
theorem dX9_kindsOf_83 : decode cX9_kindsOf 83 = .ok (.if_icmp .ne 6, 3) := by decide +kernel
theorem dX9_kindsOf_86 : decode cX9_kindsOf 86 = .ok (.iinc 2 1, 3) := by decide +kernel
theorem dX9_kindsOf_89 : decode cX9_kindsOf 89 = .ok (.iinc 3 1, 3) := by decide +kernel
theorem dX9_kindsOf_92 : decode cX9_kindsOf 92 = .ok (.goto (-88), 3) := by decide +kernel
theorem dX9_kindsOf_95 : decode cX9_kindsOf 95 = .ok (.iload_n 2, 1) := by decide +kernel
theorem dX9_kindsOf_96 : decode cX9_kindsOf 96 = .ok (.ireturn, 1) := by decide +kernel
theorem dX9_kinds_0 : decode cX9_kinds 0 = .ok (.aload_n 0, 1) := by decide +kernel
theorem dX9_kinds_1 : decode cX9_kinds 1 = .ok (.iload_n 1, 1) := by decide +kernel
theorem dX9_kinds_2 : decode cX9_kinds 2 = .ok (.ifCond .lt 9, 3) := by decide +kernel
theorem dX9_kinds_5 : decode cX9_kinds 5 = .ok (.iload_n 1, 1) := by decide +kernel
theorem dX9_kinds_6 : decode cX9_kinds 6 = .ok (.bipush 7, 2) := by decide +kernel
theorem dX9_kinds_8 : decode cX9_kinds 8 = .ok (.if_icmp .le 7, 3) := by decide +kernel
theorem dX9_kinds_11 : decode cX9_kinds 11 = .ok (.iconst 1, 1) := by decide +kernel
theorem dX9_kinds_12 : decode cX9_kinds 12 = .ok (.goto 4, 3) := by decide +kernel
theorem dX9_kinds_15 : decode cX9_kinds 15 = .ok (.iconst 0, 1) := by decide +kernel
theorem dX9_kinds_16 : decode cX9_kinds 16 = .ok (.putfield 72, 3) := by decide +kernel
theorem dX9_kinds_19 : decode cX9_kinds 19 = .ok (.aload_n 0, 1) := by decide +kernel
theorem dX9_kinds_20 : decode cX9_kinds 20 = .ok (.getfield 72, 3) := by decide +kernel
theorem dX9_kinds_23 : decode cX9_kinds 23 = .ok (.ifCond .le 7, 3) := by decide +kernel
theorem dX9_kinds_26 : decode cX9_kinds 26 = .ok (.iconst 0, 1) := by decide +kernel
theorem dX9_kinds_27 : decode cX9_kinds 27 = .ok (.goto 8, 3) := by decide +kernel
theorem dX9_kinds_30 : decode cX9_kinds 30 = .ok (.aload_n 0, 1) := by decide +kernel
theorem dX9_kinds_31 : decode cX9_kinds 31 = .ok (.iload_n 1, 1) := by decide +kernel
theorem dX9_kinds_32 : decode cX9_kinds 32 = .ok (.invokevirtual 246, 3) := by decide +kernel
theorem dX9_kinds_35 : decode cX9_kinds 35 = .ok (.ireturn, 1) := by decide +kernel
theorem dX9_kind_0 : decode cX9_kind 0 = .ok (.aload_n 0, 1) := by decide +kernel
theorem dX9_kind_1 : decode cX9_kind 1 = .ok (.iload_n 1, 1) := by decide +kernel
theorem dX9_kind_2 : decode cX9_kind 2 = .ok (.ifCond .lt 9, 3) := by decide +kernel
theorem dX9_kind_5 : decode cX9_kind 5 = .ok (.iload_n 1, 1) := by decide +kernel
theorem dX9_kind_6 : decode cX9_kind 6 = .ok (.bipush 7, 2) := by decide +kernel
theorem dX9_kind_8 : decode cX9_kind 8 = .ok (.if_icmp .le 7, 3) := by decide +kernel
theorem dX9_kind_11 : decode cX9_kind 11 = .ok (.iconst 1, 1) := by decide +kernel
theorem dX9_kind_12 : decode cX9_kind 12 = .ok (.goto 4, 3) := by decide +kernel
theorem dX9_kind_15 : decode cX9_kind 15 = .ok (.iconst 0, 1) := by decide +kernel
theorem dX9_kind_16 : decode cX9_kind 16 = .ok (.putfield 72, 3) := by decide +kernel
theorem dX9_kind_19 : decode cX9_kind 19 = .ok (.aload_n 0, 1) := by decide +kernel
theorem dX9_kind_20 : decode cX9_kind 20 = .ok (.getfield 72, 3) := by decide +kernel
theorem dX9_kind_23 : decode cX9_kind 23 = .ok (.ifCond .le 5, 3) := by decide +kernel
theorem dX9_kind_26 : decode cX9_kind 26 = .ok (.iconst 0, 1) := by decide +kernel
theorem dX9_kind_27 : decode cX9_kind 27 = .ok (.ireturn, 1) := by decide +kernel
theorem dX9_kind_28 : decode cX9_kind 28 = .ok (.iload_n 3, 1) := by decide +kernel
theorem dX9_kind_29 : decode cX9_kind 29 = .ok (.ifCond .lt 21, 3) := by decide +kernel
theorem dX9_kind_32 : decode cX9_kind 32 = .ok (.iload_n 3, 1) := by decide +kernel
theorem dX9_kind_33 : decode cX9_kind 33 = .ok (.iconst 2, 1) := by decide +kernel
theorem dX9_kind_34 : decode cX9_kind 34 = .ok (.if_icmp .gt 16, 3) := by decide +kernel
theorem dX9_kind_37 : decode cX9_kind 37 = .ok (.iload_n 2, 1) := by decide +kernel
theorem dX9_kind_38 : decode cX9_kind 38 = .ok (.ifCond .lt 12, 3) := by decide +kernel
theorem dX9_kind_41 : decode cX9_kind 41 = .ok (.iload_n 2, 1) := by decide +kernel
theorem dX9_kind_42 : decode cX9_kind 42 = .ok (.aload_n 0, 1) := by decide +kernel
theorem dX9_kind_43 : decode cX9_kind 43 = .ok (.iload_n 1, 1) := by decide +kernel
theorem dX9_kind_44 : decode cX9_kind 44 = .ok (.invokevirtual 246, 3) := by decide +kernel
theorem dX9_kind_47 : decode cX9_kind 47 = .ok (.if_icmp .lt 5, 3) := by decide +kernel
theorem dX9_kind_50 : decode cX9_kind 50 = .ok (.iconst (-1), 1) := by decide +kernel
theorem dX9_kind_51 : decode cX9_kind 51 = .ok (.ireturn, 1) := by decide +kernel
theorem dX9_kind_52 : decode cX9_kind 52 = .ok (.iconst 0, 1) := by decide +kernel
theorem dX9_kind_53 : decode cX9_kind 53 = .ok (.istore 4, 2) := by decide +kernel
theorem dX9_kind_55 : decode cX9_kind 55 = .ok (.iload_n 2, 1) := by decide +kernel
theorem dX9_kind_56 : decode cX9_kind 56 = .ok (.istore 5, 2) := by decide +kernel
theorem dX9_kind_58 : decode cX9_kind 58 = .ok (.iload 5, 2) := by decide +kernel
theorem dX9_kind_60 : decode cX9_kind 60 = .ok (.ifCond .gt 15, 3) := by decide +kernel
theorem dX9_kind_63 : decode cX9_kind 63 = .ok (.aload_n 0, 1) := by decide +kernel
theorem dX9_kind_64 : decode cX9_kind 64 = .ok (.getfield 51, 3) := by decide +kernel
theorem dX9_kind_67 : decode cX9_kind 67 = .ok (.iload 4, 2) := by decide +kernel
theorem dX9_kind_69 : decode cX9_kind 69 = .ok (.iaload, 1) := by decide +kernel
theorem dX9_kind_70 : decode cX9_kind 70 = .ok (.iload 4, 2) := by decide +kernel
theorem dX9_kind_72 : decode cX9_kind 72 = .ok (.if_icmp .eq 24, 3) := by decide +kernel
theorem dX9_kind_75 : decode cX9_kind 75 = .ok (.aload_n 0, 1) := by decide +kernel
theorem dX9_kind_76 : decode cX9_kind 76 = .ok (.getfield 51, 3) := by decide +kernel
theorem dX9_kind_79 : decode cX9_kind 79 = .ok (.iload 4, 2) := by decide +kernel
theorem dX9_kind_81 : decode cX9_kind 81 = .ok (.iaload, 1) := by decide +kernel
theorem dX9_kind_82 : decode cX9_kind 82 = .ok (.iload 4, 2) := by decide +kernel
theorem dX9_kind_84 : decode cX9_kind 84 = .ok (.if_icmp .ne 6, 3) := by decide +kernel
theorem dX9_kind_87 : decode cX9_kind 87 = .ok (.iinc 5 (-1), 3) := by decide +kernel
theorem dX9_kind_90 : decode cX9_kind 90 = .ok (.iinc 4 1, 3) := by decide +kernel
theorem dX9_kind_93 : decode cX9_kind 93 = .ok (.goto (-35), 3) := by decide +kernel
theorem dX9_kind_96 : decode cX9_kind 96 = .ok (.iload_n 3, 1) := by decide +kernel
theorem dX9_kind_97 : decode cX9_kind 97 = .ok (.ifCond .ne 6, 3) := by decide +kernel
theorem dX9_kind_100 : decode cX9_kind 100 = .ok (.iload 4, 2) := by decide +kernel
theorem dX9_kind_102 : decode cX9_kind 102 = .ok (.ireturn, 1) := by decide +kernel
theorem dX9_kind_103 : decode cX9_kind 103 = .ok (.iload_n 3, 1) := by decide +kernel
theorem dX9_kind_104 : decode cX9_kind 104 = .ok (.iconst 2, 1) := by decide +kernel
theorem dX9_kind_105 : decode cX9_kind 105 = .ok (.if_icmp .ne 14, 3) := by decide +kernel
theorem dX9_kind_108 : decode cX9_kind 108 = .ok (.aload_n 0, 1) := by decide +kernel
theorem dX9_kind_109 : decode cX9_kind 109 = .ok (.iload_n 1, 1) := by decide +kernel
theorem dX9_kind_110 : decode cX9_kind 110 = .ok (.iload 4, 2) := by decide +kernel
theorem dX9_kind_112 : decode cX9_kind 112 = .ok (.iload 4, 2) := by decide +kernel
theorem dX9_kind_114 : decode cX9_kind 114 = .ok (.iconst 0, 1) := by decide +kernel
theorem dX9_kind_115 : decode cX9_kind 115 = .ok (.invokevirtual 242, 3) := by decide +kernel
theorem dX9_kind_118 : decode cX9_kind 118 = .ok (.ireturn, 1) := by decide +kernel
theorem dX9_kind_119 : decode cX9_kind 119 = .ok (.iconst 0, 1) := by decide +kernel
theorem dX9_kind_120 : decode cX9_kind 120 = .ok (.istore 6, 2) := by decide +kernel
theorem dX9_kind_122 : decode cX9_kind 122 = .ok (.iconst 0, 1) := by decide +kernel
theorem dX9_kind_123 : decode cX9_kind 123 = .ok (.istore 7, 2) := by decide +kernel
theorem dX9_kind_125 : decode cX9_kind 125 = .ok (.iload 7, 2) := by decide +kernel
theorem dX9_kind_127 : decode cX9_kind 127 = .ok (.aload_n 0, 1) := by decide +kernel
theorem dX9_kind_128 : decode cX9_kind 128 = .ok (.getfield 99, 3) := by decide +kernel
theorem dX9_kind_131 : decode cX9_kind 131 = .ok (.if_icmp .ge 24, 3) := by decide +kernel
theorem dX9_kind_134 : decode cX9_kind 134 = .ok (.aload_n 0, 1) := by decide +kernel
theorem dX9_kind_135 : decode cX9_kind 135 = .ok (.getfield 51, 3) := by decide +kernel
theorem dX9_kind_138 : decode cX9_kind 138 = .ok (.iload 7, 2) := by decide +kernel
theorem dX9_kind_140 : decode cX9_kind 140 = .ok (.iaload, 1) := by decide +kernel
theorem dX9_kind_141 : decode cX9_kind 141 = .ok (.iload 4, 2) := by decide +kernel
theorem dX9_kind_143 : decode cX9_kind 143 = .ok (.if_icmp .ne 6, 3) := by decide +kernel
theorem dX9_kind_146 : decode cX9_kind 146 = .ok (.iinc 6 1, 3) := by decide +kernel
theorem dX9_kind_149 : decode cX9_kind 149 = .ok (.iinc 7 1, 3) := by decide +kernel
theorem dX9_kind_152 : decode cX9_kind 152 = .ok (.goto (-27), 3) := by decide +kernel
theorem dX9_kind_155 : decode cX9_kind 155 = .ok (.iload 6, 2) := by decide +kernel
theorem dX9_kind_157 : decode cX9_kind 157 = .ok (.ireturn, 1) := by decide +kernel
theorem dX9_parted_0 : decode cX9_parted 0 = .ok (.aload_n 0, 1) := by decide +kernel
theorem dX9_parted_1 : decode cX9_parted 1 = .ok (.iload_n 3, 1) := by decide +kernel
theorem dX9_parted_2 : decode cX9_parted 2 = .ok (.putfield 194, 3) := by decide +kernel
theorem dX9_parted_5 : decode cX9_parted 5 = .ok (.iconst 0, 1) := by decide +kernel
theorem dX9_parted_6 : decode cX9_parted 6 = .ok (.istore 4, 2) := by decide +kernel
theorem dX9_parted_8 : decode cX9_parted 8 = .ok (.iload 4, 2) := by decide +kernel
theorem dX9_parted_10 : decode cX9_parted 10 = .ok (.iload_n 2, 1) := by decide +kernel
theorem dX9_parted_11 : decode cX9_parted 11 = .ok (.if_icmp .ge 18, 3) := by decide +kernel
theorem dX9_parted_14 : decode cX9_parted 14 = .ok (.aload_n 0, 1) := by decide +kernel
theorem dX9_parted_15 : decode cX9_parted 15 = .ok (.bipush 9, 2) := by decide +kernel
theorem dX9_parted_17 : decode cX9_parted 17 = .ok (.iload 4, 2) := by decide +kernel
theorem dX9_parted_19 : decode cX9_parted 19 = .ok (.iadd, 1) := by decide +kernel
theorem dX9_parted_20 : decode cX9_parted 20 = .ok (.invokevirtual 117, 3) := by decide +kernel
theorem dX9_parted_23 : decode cX9_parted 23 = .ok (.iinc 4 1, 3) := by decide +kernel
theorem dX9_parted_26 : decode cX9_parted 26 = .ok (.goto (-18), 3) := by decide +kernel
theorem dX9_parted_29 : decode cX9_parted 29 = .ok (.iconst 0, 1) := by decide +kernel
theorem dX9_parted_30 : decode cX9_parted 30 = .ok (.istore 4, 2) := by decide +kernel
theorem dX9_parted_32 : decode cX9_parted 32 = .ok (.aload_n 0, 1) := by decide +kernel
theorem dX9_parted_33 : decode cX9_parted 33 = .ok (.getfield 63, 3) := by decide +kernel
theorem dX9_parted_36 : decode cX9_parted 36 = .ok (.iconst 0, 1) := by decide +kernel
theorem dX9_parted_37 : decode cX9_parted 37 = .ok (.iconst 0, 1) := by decide +kernel
theorem dX9_parted_38 : decode cX9_parted 38 = .ok (.iastore, 1) := by decide +kernel
theorem dX9_parted_39 : decode cX9_parted 39 = .ok (.aload_n 0, 1) := by decide +kernel
theorem dX9_parted_40 : decode cX9_parted 40 = .ok (.getfield 194, 3) := by decide +kernel
theorem dX9_parted_43 : decode cX9_parted 43 = .ok (.ifCond .ne 5, 3) := by decide +kernel
theorem dX9_parted_46 : decode cX9_parted 46 = .ok (.iconst 2, 1) := by decide +kernel
theorem dX9_parted_47 : decode cX9_parted 47 = .ok (.ireturn, 1) := by decide +kernel
theorem dX9_parted_48 : decode cX9_parted 48 = .ok (.aload_n 0, 1) := by decide +kernel
theorem dX9_parted_49 : decode cX9_parted 49 = .ok (.dup, 1) := by decide +kernel
theorem dX9_parted_50 : decode cX9_parted 50 = .ok (.getfield 194, 3) := by decide +kernel
theorem dX9_parted_53 : decode cX9_parted 53 = .ok (.iconst 1, 1) := by decide +kernel
theorem dX9_parted_54 : decode cX9_parted 54 = .ok (.isub, 1) := by decide +kernel
theorem dX9_parted_55 : decode cX9_parted 55 = .ok (.putfield 194, 3) := by decide +kernel
theorem dX9_parted_58 : decode cX9_parted 58 = .ok (.aload_n 0, 1) := by decide +kernel
theorem dX9_parted_59 : decode cX9_parted 59 = .ok (.dup, 1) := by decide +kernel
theorem dX9_parted_60 : decode cX9_parted 60 = .ok (.getfield 197, 3) := by decide +kernel
theorem dX9_parted_63 : decode cX9_parted 63 = .ok (.iconst 1, 1) := by decide +kernel
theorem dX9_parted_64 : decode cX9_parted 64 = .ok (.iadd, 1) := by decide +kernel
theorem dX9_parted_65 : decode cX9_parted 65 = .ok (.putfield 197, 3) := by decide +kernel
theorem dX9_parted_68 : decode cX9_parted 68 = .ok (.iload 4, 2) := by decide +kernel
theorem dX9_parted_70 : decode cX9_parted 70 = .ok (.iload_n 1, 1) := by decide +kernel
theorem dX9_parted_71 : decode cX9_parted 71 = .ok (.if_icmp .ne 5, 3) := by decide +kernel
theorem dX9_parted_74 : decode cX9_parted 74 = .ok (.iconst 0, 1) := by decide +kernel
theorem dX9_parted_75 : decode cX9_parted 75 = .ok (.ireturn, 1) := by decide +kernel
theorem dX9_parted_76 : decode cX9_parted 76 = .ok (.aload_n 0, 1) := by decide +kernel
theorem dX9_parted_77 : decode cX9_parted 77 = .ok (.getfield 60, 3) := by decide +kernel
theorem dX9_parted_80 : decode cX9_parted 80 = .ok (.iload 4, 2) := by decide +kernel
theorem dX9_parted_82 : decode cX9_parted 82 = .ok (.iconst (-1), 1) := by decide +kernel
theorem dX9_parted_83 : decode cX9_parted 83 = .ok (.iastore, 1) := by decide +kernel
theorem dX9_parted_84 : decode cX9_parted 84 = .ok (.iconst 0, 1) := by decide +kernel
theorem dX9_parted_85 : decode cX9_parted 85 = .ok (.istore 5, 2) := by decide +kernel
theorem dX9_parted_87 : decode cX9_parted 87 = .ok (.iload 5, 2) := by decide +kernel
theorem dX9_parted_89 : decode cX9_parted 89 = .ok (.ifCond .ne 95, 3) := by decide +kernel
theorem dX9_parted_92 : decode cX9_parted 92 = .ok (.aload_n 0, 1) := by decide +kernel
theorem dX9_parted_93 : decode cX9_parted 93 = .ok (.getfield 60, 3) := by decide +kernel
theorem dX9_parted_96 : decode cX9_parted 96 = .ok (.iload 4, 2) := by decide +kernel
theorem dX9_parted_98 : decode cX9_parted 98 = .ok (.iaload, 1) := by decide +kernel
theorem dX9_parted_99 : decode cX9_parted 99 = .ok (.iconst (-1), 1) := by decide +kernel
theorem dX9_parted_100 : decode cX9_parted 100 = .ok (.if_icmp .eq 25, 3) := by decide +kernel
theorem dX9_parted_103 : decode cX9_parted 103 = .ok (.aload_n 0, 1) := by decide +kernel
theorem dX9_parted_104 : decode cX9_parted 104 = .ok (.bipush 9, 2) := by decide +kernel
theorem dX9_parted_106 : decode cX9_parted 106 = .ok (.aload_n 0, 1) := by decide +kernel
theorem dX9_parted_107 : decode cX9_parted 107 = .ok (.getfield 60, 3) := by decide +kernel
theorem dX9_parted_110 : decode cX9_parted 110 = .ok (.iload 4, 2) := by decide +kernel
theorem dX9_parted_112 : decode cX9_parted 112 = .ok (.iaload, 1) := by decide +kernel
theorem dX9_parted_113 : decode cX9_parted 113 = .ok (.iadd, 1) := by decide +kernel
theorem dX9_parted_114 : decode cX9_parted 114 = .ok (.aload_n 0, 1) := by decide +kernel
theorem dX9_parted_115 : decode cX9_parted 115 = .ok (.getfield 20, 3) := by decide +kernel
theorem dX9_parted_118 : decode cX9_parted 118 = .ok (.iload 4, 2) := by decide +kernel
theorem dX9_parted_120 : decode cX9_parted 120 = .ok (.iadd, 1) := by decide +kernel
theorem dX9_parted_121 : decode cX9_parted 121 = .ok (.iconst 0, 1) := by decide +kernel
theorem dX9_parted_122 : decode cX9_parted 122 = .ok (.invokevirtual 122, 3) := by decide +kernel
theorem dX9_parted_125 : decode cX9_parted 125 = .ok (.aload_n 0, 1) := by decide +kernel
theorem dX9_parted_126 : decode cX9_parted 126 = .ok (.getfield 60, 3) := by decide +kernel
theorem dX9_parted_129 : decode cX9_parted 129 = .ok (.iload 4, 2) := by decide +kernel
theorem dX9_parted_131 : decode cX9_parted 131 = .ok (.aload_n 0, 1) := by decide +kernel
theorem dX9_parted_132 : decode cX9_parted 132 = .ok (.iload 4, 2) := by decide +kernel
theorem dX9_parted_134 : decode cX9_parted 134 = .ok (.aload_n 0, 1) := by decide +kernel
theorem dX9_parted_135 : decode cX9_parted 135 = .ok (.getfield 60, 3) := by decide +kernel
theorem dX9_parted_138 : decode cX9_parted 138 = .ok (.iload 4, 2) := by decide +kernel
theorem dX9_parted_140 : decode cX9_parted 140 = .ok (.iaload, 1) := by decide +kernel
theorem dX9_parted_141 : decode cX9_parted 141 = .ok (.iconst 1, 1) := by decide +kernel
theorem dX9_parted_142 : decode cX9_parted 142 = .ok (.iadd, 1) := by decide +kernel
theorem dX9_parted_143 : decode cX9_parted 143 = .ok (.iload_n 2, 1) := by decide +kernel
theorem dX9_parted_144 : decode cX9_parted 144 = .ok (.invokevirtual 249, 3) := by decide +kernel
theorem dX9_parted_147 : decode cX9_parted 147 = .ok (.iastore, 1) := by decide +kernel
theorem dX9_parted_148 : decode cX9_parted 148 = .ok (.aload_n 0, 1) := by decide +kernel
theorem dX9_parted_149 : decode cX9_parted 149 = .ok (.getfield 60, 3) := by decide +kernel
theorem dX9_parted_152 : decode cX9_parted 152 = .ok (.iload 4, 2) := by decide +kernel
theorem dX9_parted_154 : decode cX9_parted 154 = .ok (.iaload, 1) := by decide +kernel
theorem dX9_parted_155 : decode cX9_parted 155 = .ok (.iconst (-1), 1) := by decide +kernel
theorem dX9_parted_156 : decode cX9_parted 156 = .ok (.if_icmp .eq 7, 3) := by decide +kernel
theorem dX9_parted_159 : decode cX9_parted 159 = .ok (.iconst 1, 1) := by decide +kernel
theorem dX9_parted_160 : decode cX9_parted 160 = .ok (.goto 4, 3) := by decide +kernel
theorem dX9_parted_163 : decode cX9_parted 163 = .ok (.iconst 0, 1) := by decide +kernel
theorem dX9_parted_164 : decode cX9_parted 164 = .ok (.istore 5, 2) := by decide +kernel
theorem dX9_parted_166 : decode cX9_parted 166 = .ok (.iload 5, 2) := by decide +kernel
theorem dX9_parted_168 : decode cX9_parted 168 = .ok (.ifCond .eq 6, 3) := by decide +kernel
theorem dX9_parted_171 : decode cX9_parted 171 = .ok (.goto (-84), 3) := by decide +kernel
theorem dX9_parted_174 : decode cX9_parted 174 = .ok (.iinc 4 (-1), 3) := by decide +kernel
theorem dX9_parted_177 : decode cX9_parted 177 = .ok (.iload 4, 2) := by decide +kernel
theorem dX9_parted_179 : decode cX9_parted 179 = .ok (.ifCond .ge (-92), 3) := by decide +kernel
theorem dX9_parted_182 : decode cX9_parted 182 = .ok (.iconst 1, 1) := by decide +kernel
theorem dX9_parted_183 : decode cX9_parted 183 = .ok (.ireturn, 1) := by decide +kernel
theorem dX9_parted_184 : decode cX9_parted 184 = .ok (.aload_n 0, 1) := by decide +kernel
theorem dX9_parted_185 : decode cX9_parted 185 = .ok (.getfield 63, 3) := by decide +kernel
theorem dX9_parted_188 : decode cX9_parted 188 = .ok (.iload 4, 2) := by decide +kernel
theorem dX9_parted_190 : decode cX9_parted 190 = .ok (.iconst 1, 1) := by decide +kernel
theorem dX9_parted_191 : decode cX9_parted 191 = .ok (.iadd, 1) := by decide +kernel
theorem dX9_parted_192 : decode cX9_parted 192 = .ok (.aload_n 0, 1) := by decide +kernel
theorem dX9_parted_193 : decode cX9_parted 193 = .ok (.getfield 60, 3) := by decide +kernel
theorem dX9_parted_196 : decode cX9_parted 196 = .ok (.iload 4, 2) := by decide +kernel
theorem dX9_parted_198 : decode cX9_parted 198 = .ok (.iaload, 1) := by decide +kernel
theorem dX9_parted_199 : decode cX9_parted 199 = .ok (.aload_n 0, 1) := by decide +kernel
theorem dX9_parted_200 : decode cX9_parted 200 = .ok (.getfield 63, 3) := by decide +kernel
theorem dX9_parted_203 : decode cX9_parted 203 = .ok (.iload 4, 2) := by decide +kernel
theorem dX9_parted_205 : decode cX9_parted 205 = .ok (.iaload, 1) := by decide +kernel
theorem dX9_parted_206 : decode cX9_parted 206 = .ok (.if_icmp .ne 15, 3) := by decide +kernel
theorem dX9_parted_209 : decode cX9_parted 209 = .ok (.aload_n 0, 1) := by decide +kernel
theorem dX9_parted_210 : decode cX9_parted 210 = .ok (.getfield 63, 3) := by decide +kernel
theorem dX9_parted_213 : decode cX9_parted 213 = .ok (.iload 4, 2) := by decide +kernel
theorem dX9_parted_215 : decode cX9_parted 215 = .ok (.iaload, 1) := by decide +kernel
theorem dX9_parted_216 : decode cX9_parted 216 = .ok (.iconst 1, 1) := by decide +kernel
theorem dX9_parted_217 : decode cX9_parted 217 = .ok (.iadd, 1) := by decide +kernel
theorem dX9_parted_218 : decode cX9_parted 218 = .ok (.goto 10, 3) := by decide +kernel
theorem dX9_parted_221 : decode cX9_parted 221 = .ok (.aload_n 0, 1) := by decide +kernel
theorem dX9_parted_222 : decode cX9_parted 222 = .ok (.getfield 63, 3) := by decide +kernel
theorem dX9_parted_225 : decode cX9_parted 225 = .ok (.iload 4, 2) := by decide +kernel
theorem dX9_parted_227 : decode cX9_parted 227 = .ok (.iaload, 1) := by decide +kernel
theorem dX9_parted_228 : decode cX9_parted 228 = .ok (.iastore, 1) := by decide +kernel
theorem dX9_parted_229 : decode cX9_parted 229 = .ok (.iinc 4 1, 3) := by decide +kernel
theorem dX9_parted_232 : decode cX9_parted 232 = .ok (.goto (-193), 3) := by decide +kernel
theorem dX9_next_0 : decode cX9_next 0 = .ok (.iload_n 2, 1) := by decide +kernel
theorem dX9_next_1 : decode cX9_next 1 = .ok (.istore 4, 2) := by decide +kernel
theorem dX9_next_3 : decode cX9_next 3 = .ok (.iload 4, 2) := by decide +kernel
theorem dX9_next_5 : decode cX9_next 5 = .ok (.iload_n 3, 1) := by decide +kernel
theorem dX9_next_6 : decode cX9_next 6 = .ok (.if_icmp .ge 41, 3) := by decide +kernel
theorem dX9_next_9 : decode cX9_next 9 = .ok (.iload 4, 2) := by decide +kernel
theorem dX9_next_11 : decode cX9_next 11 = .ok (.aload_n 0, 1) := by decide +kernel
theorem dX9_next_12 : decode cX9_next 12 = .ok (.getfield 63, 3) := by decide +kernel
theorem dX9_next_15 : decode cX9_next 15 = .ok (.iload_n 1, 1) := by decide +kernel
theorem dX9_next_16 : decode cX9_next 16 = .ok (.iaload, 1) := by decide +kernel
theorem dX9_next_17 : decode cX9_next 17 = .ok (.if_icmp .gt 30, 3) := by decide +kernel
theorem dX9_next_20 : decode cX9_next 20 = .ok (.aload_n 0, 1) := by decide +kernel
theorem dX9_next_21 : decode cX9_next 21 = .ok (.bipush 9, 2) := by decide +kernel
theorem dX9_next_23 : decode cX9_next 23 = .ok (.iload 4, 2) := by decide +kernel
theorem dX9_next_25 : decode cX9_next 25 = .ok (.iadd, 1) := by decide +kernel
theorem dX9_next_26 : decode cX9_next 26 = .ok (.aload_n 0, 1) := by decide +kernel
theorem dX9_next_27 : decode cX9_next 27 = .ok (.getfield 20, 3) := by decide +kernel
theorem dX9_next_30 : decode cX9_next 30 = .ok (.iload_n 1, 1) := by decide +kernel
theorem dX9_next_31 : decode cX9_next 31 = .ok (.iadd, 1) := by decide +kernel
theorem dX9_next_32 : decode cX9_next 32 = .ok (.invokevirtual 191, 3) := by decide +kernel
theorem dX9_next_35 : decode cX9_next 35 = .ok (.ifCond .eq 6, 3) := by decide +kernel
theorem dX9_next_38 : decode cX9_next 38 = .ok (.iload 4, 2) := by decide +kernel
theorem dX9_next_40 : decode cX9_next 40 = .ok (.ireturn, 1) := by decide +kernel
theorem dX9_next_41 : decode cX9_next 41 = .ok (.iinc 4 1, 3) := by decide +kernel
theorem dX9_next_44 : decode cX9_next 44 = .ok (.goto (-41), 3) := by decide +kernel
theorem dX9_next_47 : decode cX9_next 47 = .ok (.iconst (-1), 1) := by decide +kernel
theorem dX9_next_48 : decode cX9_next 48 = .ok (.ireturn, 1) := by decide +kernel
theorem dX9_isColours_0 : decode cX9_isColours 0 = .ok (.iload_n 0, 1) := by decide +kernel
theorem dX9_isColours_1 : decode cX9_isColours 1 = .ok (.iconst 1, 1) := by decide +kernel
theorem dX9_isColours_2 : decode cX9_isColours 2 = .ok (.if_icmp .lt 13, 3) := by decide +kernel
theorem dX9_isColours_5 : decode cX9_isColours 5 = .ok (.iload_n 0, 1) := by decide +kernel
theorem dX9_isColours_6 : decode cX9_isColours 6 = .ok (.bipush 8, 2) := by decide +kernel
theorem dX9_isColours_8 : decode cX9_isColours 8 = .ok (.if_icmp .gt 7, 3) := by decide +kernel
theorem dX9_isColours_11 : decode cX9_isColours 11 = .ok (.iconst 1, 1) := by decide +kernel
theorem dX9_isColours_12 : decode cX9_isColours 12 = .ok (.goto 4, 3) := by decide +kernel
theorem dX9_isColours_15 : decode cX9_isColours 15 = .ok (.iconst 0, 1) := by decide +kernel
theorem dX9_isColours_16 : decode cX9_isColours 16 = .ok (.ireturn, 1) := by decide +kernel
theorem dX9_colours_0 : decode cX9_colours 0 = .ok (.aload_n 0, 1) := by decide +kernel
theorem dX9_colours_1 : decode cX9_colours 1 = .ok (.iload_n 1, 1) := by decide +kernel
theorem dX9_colours_2 : decode cX9_colours 2 = .ok (.invokestatic 252, 3) := by decide +kernel
theorem dX9_colours_5 : decode cX9_colours 5 = .ok (.ifCond .eq 14, 3) := by decide +kernel
theorem dX9_colours_8 : decode cX9_colours 8 = .ok (.iload_n 2, 1) := by decide +kernel
theorem dX9_colours_9 : decode cX9_colours 9 = .ok (.invokestatic 214, 3) := by decide +kernel
theorem dX9_colours_12 : decode cX9_colours 12 = .ok (.ifCond .eq 7, 3) := by decide +kernel
theorem dX9_colours_15 : decode cX9_colours 15 = .ok (.iconst 0, 1) := by decide +kernel
theorem dX9_colours_16 : decode cX9_colours 16 = .ok (.goto 4, 3) := by decide +kernel
theorem dX9_colours_19 : decode cX9_colours 19 = .ok (.iconst 1, 1) := by decide +kernel
theorem dX9_colours_20 : decode cX9_colours 20 = .ok (.putfield 72, 3) := by decide +kernel
theorem dX9_colours_23 : decode cX9_colours 23 = .ok (.aload_n 0, 1) := by decide +kernel
theorem dX9_colours_24 : decode cX9_colours 24 = .ok (.getfield 72, 3) := by decide +kernel
theorem dX9_colours_27 : decode cX9_colours 27 = .ok (.ifCond .le 5, 3) := by decide +kernel
theorem dX9_colours_30 : decode cX9_colours 30 = .ok (.iconst 0, 1) := by decide +kernel
theorem dX9_colours_31 : decode cX9_colours 31 = .ok (.ireturn, 1) := by decide +kernel
theorem dX9_colours_32 : decode cX9_colours 32 = .ok (.aload_n 0, 1) := by decide +kernel
theorem dX9_colours_33 : decode cX9_colours 33 = .ok (.iconst 0, 1) := by decide +kernel
theorem dX9_colours_34 : decode cX9_colours 34 = .ok (.putfield 197, 3) := by decide +kernel
theorem dX9_colours_37 : decode cX9_colours 37 = .ok (.aload_n 0, 1) := by decide +kernel
theorem dX9_colours_38 : decode cX9_colours 38 = .ok (.aload_n 0, 1) := by decide +kernel
theorem dX9_colours_39 : decode cX9_colours 39 = .ok (.getfield 17, 3) := by decide +kernel
theorem dX9_colours_42 : decode cX9_colours 42 = .ok (.iload_n 1, 1) := by decide +kernel
theorem dX9_colours_43 : decode cX9_colours 43 = .ok (.iload_n 2, 1) := by decide +kernel
theorem dX9_colours_44 : decode cX9_colours 44 = .ok (.invokevirtual 255, 3) := by decide +kernel
theorem dX9_colours_47 : decode cX9_colours 47 = .ok (.istore_n 3, 1) := by decide +kernel
theorem dX9_colours_48 : decode cX9_colours 48 = .ok (.iload_n 3, 1) := by decide +kernel
theorem dX9_colours_49 : decode cX9_colours 49 = .ok (.ifCond .le 5, 3) := by decide +kernel
theorem dX9_colours_52 : decode cX9_colours 52 = .ok (.iload_n 3, 1) := by decide +kernel
theorem dX9_colours_53 : decode cX9_colours 53 = .ok (.ireturn, 1) := by decide +kernel
theorem dX9_colours_54 : decode cX9_colours 54 = .ok (.aload_n 0, 1) := by decide +kernel
theorem dX9_colours_55 : decode cX9_colours 55 = .ok (.iconst 1, 1) := by decide +kernel
theorem dX9_colours_56 : decode cX9_colours 56 = .ok (.putfield 106, 3) := by decide +kernel
theorem dX9_colours_59 : decode cX9_colours 59 = .ok (.iconst 0, 1) := by decide +kernel
theorem dX9_colours_60 : decode cX9_colours 60 = .ok (.istore 4, 2) := by decide +kernel
theorem dX9_colours_62 : decode cX9_colours 62 = .ok (.iload 4, 2) := by decide +kernel
theorem dX9_colours_64 : decode cX9_colours 64 = .ok (.aload_n 0, 1) := by decide +kernel
theorem dX9_colours_65 : decode cX9_colours 65 = .ok (.getfield 17, 3) := by decide +kernel
theorem dX9_colours_68 : decode cX9_colours 68 = .ok (.if_icmp .ge 23, 3) := by decide +kernel
theorem dX9_colours_71 : decode cX9_colours 71 = .ok (.aload_n 0, 1) := by decide +kernel
theorem dX9_colours_72 : decode cX9_colours 72 = .ok (.getfield 57, 3) := by decide +kernel
theorem dX9_colours_75 : decode cX9_colours 75 = .ok (.iload 4, 2) := by decide +kernel
theorem dX9_colours_77 : decode cX9_colours 77 = .ok (.aload_n 0, 1) := by decide +kernel
theorem dX9_colours_78 : decode cX9_colours 78 = .ok (.getfield 60, 3) := by decide +kernel
theorem dX9_colours_81 : decode cX9_colours 81 = .ok (.iload 4, 2) := by decide +kernel
theorem dX9_colours_83 : decode cX9_colours 83 = .ok (.iaload, 1) := by decide +kernel
theorem dX9_colours_84 : decode cX9_colours 84 = .ok (.iastore, 1) := by decide +kernel
theorem dX9_colours_85 : decode cX9_colours 85 = .ok (.iinc 4 1, 3) := by decide +kernel
theorem dX9_colours_88 : decode cX9_colours 88 = .ok (.goto (-26), 3) := by decide +kernel
theorem dX9_colours_91 : decode cX9_colours 91 = .ok (.iconst 0, 1) := by decide +kernel
theorem dX9_colours_92 : decode cX9_colours 92 = .ok (.ireturn, 1) := by decide +kernel
theorem dX9_colour_0 : decode cX9_colour 0 = .ok (.aload_n 0, 1) := by decide +kernel
theorem dX9_colour_1 : decode cX9_colour 1 = .ok (.iconst 0, 1) := by decide +kernel
theorem dX9_colour_2 : decode cX9_colour 2 = .ok (.putfield 72, 3) := by decide +kernel
theorem dX9_colour_5 : decode cX9_colour 5 = .ok (.aload_n 0, 1) := by decide +kernel
theorem dX9_colour_6 : decode cX9_colour 6 = .ok (.getfield 106, 3) := by decide +kernel
theorem dX9_colour_9 : decode cX9_colour 9 = .ok (.ifCond .eq 26, 3) := by decide +kernel
theorem dX9_colour_12 : decode cX9_colour 12 = .ok (.aload_n 0, 1) := by decide +kernel
theorem dX9_colour_13 : decode cX9_colour 13 = .ok (.iload_n 1, 1) := by decide +kernel
theorem dX9_colour_14 : decode cX9_colour 14 = .ok (.i2l, 1) := by decide +kernel
theorem dX9_colour_15 : decode cX9_colour 15 = .ok (.invokevirtual 109, 3) := by decide +kernel
theorem dX9_colour_18 : decode cX9_colour 18 = .ok (.ifCond .eq 17, 3) := by decide +kernel
theorem dX9_colour_21 : decode cX9_colour 21 = .ok (.aload_n 0, 1) := by decide +kernel
theorem dX9_colour_22 : decode cX9_colour 22 = .ok (.getfield 57, 3) := by decide +kernel
theorem dX9_colour_25 : decode cX9_colour 25 = .ok (.iload_n 1, 1) := by decide +kernel
theorem dX9_colour_26 : decode cX9_colour 26 = .ok (.aload_n 0, 1) := by decide +kernel
theorem dX9_colour_27 : decode cX9_colour 27 = .ok (.getfield 20, 3) := by decide +kernel
theorem dX9_colour_30 : decode cX9_colour 30 = .ok (.isub, 1) := by decide +kernel
theorem dX9_colour_31 : decode cX9_colour 31 = .ok (.iaload, 1) := by decide +kernel
theorem dX9_colour_32 : decode cX9_colour 32 = .ok (.goto 4, 3) := by decide +kernel
theorem dX9_colour_35 : decode cX9_colour 35 = .ok (.iconst (-1), 1) := by decide +kernel
theorem dX9_colour_36 : decode cX9_colour 36 = .ok (.ireturn, 1) := by decide +kernel
theorem dX9_forced_0 : decode cX9_forced 0 = .ok (.aload_n 0, 1) := by decide +kernel
theorem dX9_forced_1 : decode cX9_forced 1 = .ok (.iload_n 1, 1) := by decide +kernel
theorem dX9_forced_2 : decode cX9_forced 2 = .ok (.invokestatic 252, 3) := by decide +kernel
theorem dX9_forced_5 : decode cX9_forced 5 = .ok (.ifCond .eq 14, 3) := by decide +kernel
theorem dX9_forced_8 : decode cX9_forced 8 = .ok (.iload_n 2, 1) := by decide +kernel
theorem dX9_forced_9 : decode cX9_forced 9 = .ok (.invokestatic 214, 3) := by decide +kernel
theorem dX9_forced_12 : decode cX9_forced 12 = .ok (.ifCond .eq 7, 3) := by decide +kernel
theorem dX9_forced_15 : decode cX9_forced 15 = .ok (.iconst 0, 1) := by decide +kernel
theorem dX9_forced_16 : decode cX9_forced 16 = .ok (.goto 4, 3) := by decide +kernel
theorem dX9_forced_19 : decode cX9_forced 19 = .ok (.iconst 1, 1) := by decide +kernel
theorem dX9_forced_20 : decode cX9_forced 20 = .ok (.putfield 72, 3) := by decide +kernel
theorem dX9_forced_23 : decode cX9_forced 23 = .ok (.aload_n 0, 1) := by decide +kernel
theorem dX9_forced_24 : decode cX9_forced 24 = .ok (.getfield 72, 3) := by decide +kernel
theorem dX9_forced_27 : decode cX9_forced 27 = .ok (.ifCond .le 5, 3) := by decide +kernel
theorem dX9_forced_30 : decode cX9_forced 30 = .ok (.iconst 0, 1) := by decide +kernel
theorem dX9_forced_31 : decode cX9_forced 31 = .ok (.ireturn, 1) := by decide +kernel
theorem dX9_forced_32 : decode cX9_forced 32 = .ok (.aload_n 0, 1) := by decide +kernel
theorem dX9_forced_33 : decode cX9_forced 33 = .ok (.getfield 82, 3) := by decide +kernel
theorem dX9_forced_36 : decode cX9_forced 36 = .ok (.ifCond .eq 6, 3) := by decide +kernel
theorem dX9_forced_39 : decode cX9_forced 39 = .ok (.bipush (-2), 2) := by decide +kernel
theorem dX9_forced_41 : decode cX9_forced 41 = .ok (.ireturn, 1) := by decide +kernel
theorem dX9_forced_42 : decode cX9_forced 42 = .ok (.aload_n 0, 1) := by decide +kernel
theorem dX9_forced_43 : decode cX9_forced 43 = .ok (.iconst 0, 1) := by decide +kernel
theorem dX9_forced_44 : decode cX9_forced 44 = .ok (.putfield 197, 3) := by decide +kernel
theorem dX9_forced_47 : decode cX9_forced 47 = .ok (.iconst 1, 1) := by decide +kernel
theorem dX9_forced_48 : decode cX9_forced 48 = .ok (.istore_n 3, 1) := by decide +kernel
theorem dX9_forced_49 : decode cX9_forced 49 = .ok (.iload_n 3, 1) := by decide +kernel
theorem dX9_forced_50 : decode cX9_forced 50 = .ok (.aload_n 0, 1) := by decide +kernel
theorem dX9_forced_51 : decode cX9_forced 51 = .ok (.getfield 13, 3) := by decide +kernel
theorem dX9_forced_54 : decode cX9_forced 54 = .ok (.if_icmp .gt 34, 3) := by decide +kernel
theorem dX9_forced_57 : decode cX9_forced 57 = .ok (.aload_n 0, 1) := by decide +kernel
theorem dX9_forced_58 : decode cX9_forced 58 = .ok (.iload_n 3, 1) := by decide +kernel
theorem dX9_forced_59 : decode cX9_forced 59 = .ok (.iload_n 1, 1) := by decide +kernel
theorem dX9_forced_60 : decode cX9_forced 60 = .ok (.iload_n 2, 1) := by decide +kernel
theorem dX9_forced_61 : decode cX9_forced 61 = .ok (.invokevirtual 255, 3) := by decide +kernel
theorem dX9_forced_64 : decode cX9_forced 64 = .ok (.istore 4, 2) := by decide +kernel
theorem dX9_forced_66 : decode cX9_forced 66 = .ok (.iload 4, 2) := by decide +kernel
theorem dX9_forced_68 : decode cX9_forced 68 = .ok (.iconst 2, 1) := by decide +kernel
theorem dX9_forced_69 : decode cX9_forced 69 = .ok (.if_icmp .ne 5, 3) := by decide +kernel
theorem dX9_forced_72 : decode cX9_forced 72 = .ok (.iconst (-1), 1) := by decide +kernel
theorem dX9_forced_73 : decode cX9_forced 73 = .ok (.ireturn, 1) := by decide +kernel
theorem dX9_forced_74 : decode cX9_forced 74 = .ok (.iload 4, 2) := by decide +kernel
theorem dX9_forced_76 : decode cX9_forced 76 = .ok (.iconst 1, 1) := by decide +kernel
theorem dX9_forced_77 : decode cX9_forced 77 = .ok (.if_icmp .ne 5, 3) := by decide +kernel
theorem dX9_forced_80 : decode cX9_forced 80 = .ok (.iload_n 3, 1) := by decide +kernel
theorem dX9_forced_81 : decode cX9_forced 81 = .ok (.ireturn, 1) := by decide +kernel
theorem dX9_forced_82 : decode cX9_forced 82 = .ok (.iinc 3 1, 3) := by decide +kernel
theorem dX9_forced_85 : decode cX9_forced 85 = .ok (.goto (-36), 3) := by decide +kernel
theorem dX9_forced_88 : decode cX9_forced 88 = .ok (.aload_n 0, 1) := by decide +kernel
theorem dX9_forced_89 : decode cX9_forced 89 = .ok (.getfield 13, 3) := by decide +kernel
theorem dX9_forced_92 : decode cX9_forced 92 = .ok (.iconst 1, 1) := by decide +kernel
theorem dX9_forced_93 : decode cX9_forced 93 = .ok (.iadd, 1) := by decide +kernel
theorem dX9_forced_94 : decode cX9_forced 94 = .ok (.ireturn, 1) := by decide +kernel
theorem dX9_sums_0 : decode cX9_sums 0 = .ok (.aload_n 0, 1) := by decide +kernel
theorem dX9_sums_1 : decode cX9_sums 1 = .ok (.iload_n 1, 1) := by decide +kernel
theorem dX9_sums_2 : decode cX9_sums 2 = .ok (.invokevirtual 113, 3) := by decide +kernel
theorem dX9_sums_5 : decode cX9_sums 5 = .ok (.ifCond .eq 20, 3) := by decide +kernel
theorem dX9_sums_8 : decode cX9_sums 8 = .ok (.aload_n 0, 1) := by decide +kernel
theorem dX9_sums_9 : decode cX9_sums 9 = .ok (.iload_n 2, 1) := by decide +kernel
theorem dX9_sums_10 : decode cX9_sums 10 = .ok (.invokevirtual 113, 3) := by decide +kernel
theorem dX9_sums_13 : decode cX9_sums 13 = .ok (.ifCond .eq 12, 3) := by decide +kernel
theorem dX9_sums_16 : decode cX9_sums 16 = .ok (.aload_n 0, 1) := by decide +kernel
theorem dX9_sums_17 : decode cX9_sums 17 = .ok (.iload 4, 2) := by decide +kernel
theorem dX9_sums_19 : decode cX9_sums 19 = .ok (.invokevirtual 113, 3) := by decide +kernel
theorem dX9_sums_22 : decode cX9_sums 22 = .ok (.ifCond .ne 9, 3) := by decide +kernel
theorem dX9_sums_25 : decode cX9_sums 25 = .ok (.aload_n 0, 1) := by decide +kernel
theorem dX9_sums_26 : decode cX9_sums 26 = .ok (.iconst 1, 1) := by decide +kernel
theorem dX9_sums_27 : decode cX9_sums 27 = .ok (.invokevirtual 185, 3) := by decide +kernel
theorem dX9_sums_30 : decode cX9_sums 30 = .ok (.ireturn, 1) := by decide +kernel
theorem dX9_sums_31 : decode cX9_sums 31 = .ok (.aload_n 0, 1) := by decide +kernel
theorem dX9_sums_32 : decode cX9_sums 32 = .ok (.iconst 0, 1) := by decide +kernel
theorem dX9_sums_33 : decode cX9_sums 33 = .ok (.putfield 72, 3) := by decide +kernel
theorem dX9_sums_36 : decode cX9_sums 36 = .ok (.iload_n 3, 1) := by decide +kernel
theorem dX9_sums_37 : decode cX9_sums 37 = .ok (.ifCond .lt 8, 3) := by decide +kernel
theorem dX9_sums_40 : decode cX9_sums 40 = .ok (.iload_n 3, 1) := by decide +kernel
theorem dX9_sums_41 : decode cX9_sums 41 = .ok (.iconst 2, 1) := by decide +kernel
theorem dX9_sums_42 : decode cX9_sums 42 = .ok (.if_icmp .le 5, 3) := by decide +kernel
theorem dX9_sums_45 : decode cX9_sums 45 = .ok (.iconst (-1), 1) := by decide +kernel
theorem dX9_sums_46 : decode cX9_sums 46 = .ok (.ireturn, 1) := by decide +kernel
theorem dX9_sums_47 : decode cX9_sums 47 = .ok (.iconst 0, 1) := by decide +kernel
theorem dX9_sums_48 : decode cX9_sums 48 = .ok (.istore 5, 2) := by decide +kernel
theorem dX9_sums_50 : decode cX9_sums 50 = .ok (.iload 5, 2) := by decide +kernel
theorem dX9_sums_52 : decode cX9_sums 52 = .ok (.sipush 3700, 3) := by decide +kernel
theorem dX9_sums_55 : decode cX9_sums 55 = .ok (.if_icmp .ge 17, 3) := by decide +kernel
theorem dX9_sums_58 : decode cX9_sums 58 = .ok (.aload_n 0, 1) := by decide +kernel
theorem dX9_sums_59 : decode cX9_sums 59 = .ok (.getfield 66, 3) := by decide +kernel
theorem dX9_sums_62 : decode cX9_sums 62 = .ok (.iload 5, 2) := by decide +kernel
theorem dX9_sums_64 : decode cX9_sums 64 = .ok (.iconst 0, 1) := by decide +kernel
theorem dX9_sums_65 : decode cX9_sums 65 = .ok (.iastore, 1) := by decide +kernel
theorem dX9_sums_66 : decode cX9_sums 66 = .ok (.iinc 5 1, 3) := by decide +kernel
theorem dX9_sums_69 : decode cX9_sums 69 = .ok (.goto (-19), 3) := by decide +kernel
theorem dX9_sums_72 : decode cX9_sums 72 = .ok (.aload_n 0, 1) := by decide +kernel
theorem dX9_sums_73 : decode cX9_sums 73 = .ok (.getfield 20, 3) := by decide +kernel
theorem dX9_sums_76 : decode cX9_sums 76 = .ok (.istore 5, 2) := by decide +kernel
theorem dX9_sums_78 : decode cX9_sums 78 = .ok (.iload 5, 2) := by decide +kernel
theorem dX9_sums_80 : decode cX9_sums 80 = .ok (.aload_n 0, 1) := by decide +kernel
theorem dX9_sums_81 : decode cX9_sums 81 = .ok (.getfield 20, 3) := by decide +kernel
theorem dX9_sums_84 : decode cX9_sums 84 = .ok (.aload_n 0, 1) := by decide +kernel
theorem dX9_sums_85 : decode cX9_sums 85 = .ok (.getfield 17, 3) := by decide +kernel
theorem dX9_sums_88 : decode cX9_sums 88 = .ok (.iadd, 1) := by decide +kernel
theorem dX9_sums_89 : decode cX9_sums 89 = .ok (.if_icmp .ge 111, 3) := by decide +kernel
theorem dX9_sums_92 : decode cX9_sums 92 = .ok (.aload_n 0, 1) := by decide +kernel
theorem dX9_sums_93 : decode cX9_sums 93 = .ok (.getfield 20, 3) := by decide +kernel
theorem dX9_sums_96 : decode cX9_sums 96 = .ok (.istore 6, 2) := by decide +kernel
theorem dX9_sums_98 : decode cX9_sums 98 = .ok (.iload 6, 2) := by decide +kernel
theorem dX9_sums_100 : decode cX9_sums 100 = .ok (.aload_n 0, 1) := by decide +kernel
theorem dX9_sums_101 : decode cX9_sums 101 = .ok (.getfield 20, 3) := by decide +kernel
theorem dX9_sums_104 : decode cX9_sums 104 = .ok (.aload_n 0, 1) := by decide +kernel
theorem dX9_sums_105 : decode cX9_sums 105 = .ok (.getfield 17, 3) := by decide +kernel
theorem dX9_sums_108 : decode cX9_sums 108 = .ok (.iadd, 1) := by decide +kernel
theorem dX9_sums_109 : decode cX9_sums 109 = .ok (.if_icmp .ge 85, 3) := by decide +kernel
theorem dX9_sums_112 : decode cX9_sums 112 = .ok (.aload_n 0, 1) := by decide +kernel
theorem dX9_sums_113 : decode cX9_sums 113 = .ok (.iload_n 1, 1) := by decide +kernel
theorem dX9_sums_114 : decode cX9_sums 114 = .ok (.iload 5, 2) := by decide +kernel
theorem dX9_sums_116 : decode cX9_sums 116 = .ok (.i2l, 1) := by decide +kernel
theorem dX9_sums_117 : decode cX9_sums 117 = .ok (.invokevirtual 134, 3) := by decide +kernel
theorem dX9_sums_120 : decode cX9_sums 120 = .ok (.ifCond .eq 68, 3) := by decide +kernel
theorem dX9_sums_123 : decode cX9_sums 123 = .ok (.aload_n 0, 1) := by decide +kernel
theorem dX9_sums_124 : decode cX9_sums 124 = .ok (.iload_n 2, 1) := by decide +kernel
theorem dX9_sums_125 : decode cX9_sums 125 = .ok (.iload 6, 2) := by decide +kernel
theorem dX9_sums_127 : decode cX9_sums 127 = .ok (.i2l, 1) := by decide +kernel
theorem dX9_sums_128 : decode cX9_sums 128 = .ok (.invokevirtual 134, 3) := by decide +kernel
theorem dX9_sums_131 : decode cX9_sums 131 = .ok (.ifCond .ne 6, 3) := by decide +kernel
theorem dX9_sums_134 : decode cX9_sums 134 = .ok (.goto 54, 3) := by decide +kernel
theorem dX9_sums_137 : decode cX9_sums 137 = .ok (.aload_n 0, 1) := by decide +kernel
theorem dX9_sums_138 : decode cX9_sums 138 = .ok (.getfield 66, 3) := by decide +kernel
theorem dX9_sums_141 : decode cX9_sums 141 = .ok (.bipush 60, 2) := by decide +kernel
theorem dX9_sums_143 : decode cX9_sums 143 = .ok (.iload_n 3, 1) := by decide +kernel
theorem dX9_sums_144 : decode cX9_sums 144 = .ok (.ifCond .ne 14, 3) := by decide +kernel
theorem dX9_sums_147 : decode cX9_sums 147 = .ok (.aload_n 0, 1) := by decide +kernel
theorem dX9_sums_148 : decode cX9_sums 148 = .ok (.iload 5, 2) := by decide +kernel
theorem dX9_sums_150 : decode cX9_sums 150 = .ok (.iload 6, 2) := by decide +kernel
theorem dX9_sums_152 : decode cX9_sums 152 = .ok (.invokevirtual 141, 3) := by decide +kernel
theorem dX9_sums_155 : decode cX9_sums 155 = .ok (.goto 27, 3) := by decide +kernel
theorem dX9_sums_158 : decode cX9_sums 158 = .ok (.iload_n 3, 1) := by decide +kernel
theorem dX9_sums_159 : decode cX9_sums 159 = .ok (.iconst 1, 1) := by decide +kernel
theorem dX9_sums_160 : decode cX9_sums 160 = .ok (.if_icmp .ne 14, 3) := by decide +kernel
theorem dX9_sums_163 : decode cX9_sums 163 = .ok (.aload_n 0, 1) := by decide +kernel
theorem dX9_sums_164 : decode cX9_sums 164 = .ok (.iload 5, 2) := by decide +kernel
theorem dX9_sums_166 : decode cX9_sums 166 = .ok (.iload 6, 2) := by decide +kernel
theorem dX9_sums_168 : decode cX9_sums 168 = .ok (.invokevirtual 169, 3) := by decide +kernel
theorem dX9_sums_171 : decode cX9_sums 171 = .ok (.goto 11, 3) := by decide +kernel
theorem dX9_sums_174 : decode cX9_sums 174 = .ok (.aload_n 0, 1) := by decide +kernel
theorem dX9_sums_175 : decode cX9_sums 175 = .ok (.iload 5, 2) := by decide +kernel
theorem dX9_sums_177 : decode cX9_sums 177 = .ok (.iload 6, 2) := by decide +kernel
theorem dX9_sums_179 : decode cX9_sums 179 = .ok (.invokevirtual 149, 3) := by decide +kernel
theorem dX9_sums_182 : decode cX9_sums 182 = .ok (.iadd, 1) := by decide +kernel
theorem dX9_sums_183 : decode cX9_sums 183 = .ok (.dup2, 1) := by decide +kernel
theorem dX9_sums_184 : decode cX9_sums 184 = .ok (.iaload, 1) := by decide +kernel
theorem dX9_sums_185 : decode cX9_sums 185 = .ok (.iconst 1, 1) := by decide +kernel
theorem dX9_sums_186 : decode cX9_sums 186 = .ok (.iadd, 1) := by decide +kernel
theorem dX9_sums_187 : decode cX9_sums 187 = .ok (.iastore, 1) := by decide +kernel
theorem dX9_sums_188 : decode cX9_sums 188 = .ok (.iinc 6 1, 3) := by decide +kernel
theorem dX9_sums_191 : decode cX9_sums 191 = .ok (.goto (-93), 3) := by decide +kernel
theorem dX9_sums_194 : decode cX9_sums 194 = .ok (.iinc 5 1, 3) := by decide +kernel
theorem dX9_sums_197 : decode cX9_sums 197 = .ok (.goto (-119), 3) := by decide +kernel
theorem dX9_sums_200 : decode cX9_sums 200 = .ok (.iconst 0, 1) := by decide +kernel
theorem dX9_sums_201 : decode cX9_sums 201 = .ok (.istore 5, 2) := by decide +kernel
theorem dX9_sums_203 : decode cX9_sums 203 = .ok (.aload_n 0, 1) := by decide +kernel
theorem dX9_sums_204 : decode cX9_sums 204 = .ok (.iload 4, 2) := by decide +kernel
theorem dX9_sums_206 : decode cX9_sums 206 = .ok (.invokevirtual 117, 3) := by decide +kernel
theorem dX9_sums_209 : decode cX9_sums 209 = .ok (.iconst 0, 1) := by decide +kernel
theorem dX9_sums_210 : decode cX9_sums 210 = .ok (.istore 6, 2) := by decide +kernel
theorem dX9_sums_212 : decode cX9_sums 212 = .ok (.iload 6, 2) := by decide +kernel
theorem dX9_sums_214 : decode cX9_sums 214 = .ok (.sipush 3700, 3) := by decide +kernel
theorem dX9_sums_217 : decode cX9_sums 217 = .ok (.if_icmp .ge 50, 3) := by decide +kernel
theorem dX9_sums_220 : decode cX9_sums 220 = .ok (.aload_n 0, 1) := by decide +kernel
theorem dX9_sums_221 : decode cX9_sums 221 = .ok (.getfield 66, 3) := by decide +kernel
theorem dX9_sums_224 : decode cX9_sums 224 = .ok (.iload 6, 2) := by decide +kernel
theorem dX9_sums_226 : decode cX9_sums 226 = .ok (.iaload, 1) := by decide +kernel
theorem dX9_sums_227 : decode cX9_sums 227 = .ok (.ifCond .ne 6, 3) := by decide +kernel
theorem dX9_sums_230 : decode cX9_sums 230 = .ok (.goto 31, 3) := by decide +kernel
theorem dX9_sums_233 : decode cX9_sums 233 = .ok (.iinc 5 1, 3) := by decide +kernel
theorem dX9_sums_236 : decode cX9_sums 236 = .ok (.aload_n 0, 1) := by decide +kernel
theorem dX9_sums_237 : decode cX9_sums 237 = .ok (.iload 6, 2) := by decide +kernel
theorem dX9_sums_239 : decode cX9_sums 239 = .ok (.bipush 60, 2) := by decide +kernel
theorem dX9_sums_241 : decode cX9_sums 241 = .ok (.isub, 1) := by decide +kernel
theorem dX9_sums_242 : decode cX9_sums 242 = .ok (.i2l, 1) := by decide +kernel
theorem dX9_sums_243 : decode cX9_sums 243 = .ok (.invokevirtual 109, 3) := by decide +kernel
theorem dX9_sums_246 : decode cX9_sums 246 = .ok (.ifCond .eq 15, 3) := by decide +kernel
theorem dX9_sums_249 : decode cX9_sums 249 = .ok (.aload_n 0, 1) := by decide +kernel
theorem dX9_sums_250 : decode cX9_sums 250 = .ok (.iload 4, 2) := by decide +kernel
theorem dX9_sums_252 : decode cX9_sums 252 = .ok (.iload 6, 2) := by decide +kernel
theorem dX9_sums_254 : decode cX9_sums 254 = .ok (.bipush 60, 2) := by decide +kernel
theorem dX9_sums_256 : decode cX9_sums 256 = .ok (.isub, 1) := by decide +kernel
theorem dX9_sums_257 : decode cX9_sums 257 = .ok (.iconst 1, 1) := by decide +kernel
theorem dX9_sums_258 : decode cX9_sums 258 = .ok (.invokevirtual 122, 3) := by decide +kernel
theorem dX9_sums_261 : decode cX9_sums 261 = .ok (.iinc 6 1, 3) := by decide +kernel
theorem dX9_sums_264 : decode cX9_sums 264 = .ok (.goto (-52), 3) := by decide +kernel
theorem dX9_sums_267 : decode cX9_sums 267 = .ok (.iload 5, 2) := by decide +kernel
theorem dX9_sums_269 : decode cX9_sums 269 = .ok (.ireturn, 1) := by decide +kernel
theorem dX9_energy_0 : decode cX9_energy 0 = .ok (.aload_n 0, 1) := by decide +kernel
theorem dX9_energy_1 : decode cX9_energy 1 = .ok (.iload_n 1, 1) := by decide +kernel
theorem dX9_energy_2 : decode cX9_energy 2 = .ok (.invokevirtual 113, 3) := by decide +kernel
theorem dX9_energy_5 : decode cX9_energy 5 = .ok (.ifCond .ne 9, 3) := by decide +kernel
theorem dX9_energy_8 : decode cX9_energy 8 = .ok (.aload_n 0, 1) := by decide +kernel
theorem dX9_energy_9 : decode cX9_energy 9 = .ok (.iconst 1, 1) := by decide +kernel
theorem dX9_energy_10 : decode cX9_energy 10 = .ok (.invokevirtual 185, 3) := by decide +kernel
theorem dX9_energy_13 : decode cX9_energy 13 = .ok (.ireturn, 1) := by decide +kernel
theorem dX9_energy_14 : decode cX9_energy 14 = .ok (.aload_n 0, 1) := by decide +kernel
theorem dX9_energy_15 : decode cX9_energy 15 = .ok (.iconst 0, 1) := by decide +kernel
theorem dX9_energy_16 : decode cX9_energy 16 = .ok (.putfield 72, 3) := by decide +kernel
theorem dX9_energy_19 : decode cX9_energy 19 = .ok (.iconst 0, 1) := by decide +kernel
theorem dX9_energy_20 : decode cX9_energy 20 = .ok (.istore_n 2, 1) := by decide +kernel
theorem dX9_energy_21 : decode cX9_energy 21 = .ok (.iload_n 2, 1) := by decide +kernel
theorem dX9_energy_22 : decode cX9_energy 22 = .ok (.sipush 3700, 3) := by decide +kernel
theorem dX9_energy_25 : decode cX9_energy 25 = .ok (.if_icmp .ge 16, 3) := by decide +kernel
theorem dX9_energy_28 : decode cX9_energy 28 = .ok (.aload_n 0, 1) := by decide +kernel
theorem dX9_energy_29 : decode cX9_energy 29 = .ok (.getfield 66, 3) := by decide +kernel
theorem dX9_energy_32 : decode cX9_energy 32 = .ok (.iload_n 2, 1) := by decide +kernel
theorem dX9_energy_33 : decode cX9_energy 33 = .ok (.iconst 0, 1) := by decide +kernel
theorem dX9_energy_34 : decode cX9_energy 34 = .ok (.iastore, 1) := by decide +kernel
theorem dX9_energy_35 : decode cX9_energy 35 = .ok (.iinc 2 1, 3) := by decide +kernel
theorem dX9_energy_38 : decode cX9_energy 38 = .ok (.goto (-17), 3) := by decide +kernel
theorem dX9_energy_41 : decode cX9_energy 41 = .ok (.aload_n 0, 1) := by decide +kernel
theorem dX9_energy_42 : decode cX9_energy 42 = .ok (.getfield 20, 3) := by decide +kernel
theorem dX9_energy_45 : decode cX9_energy 45 = .ok (.istore_n 2, 1) := by decide +kernel
theorem dX9_energy_46 : decode cX9_energy 46 = .ok (.iload_n 2, 1) := by decide +kernel
theorem dX9_energy_47 : decode cX9_energy 47 = .ok (.aload_n 0, 1) := by decide +kernel
theorem dX9_energy_48 : decode cX9_energy 48 = .ok (.getfield 20, 3) := by decide +kernel
theorem dX9_energy_51 : decode cX9_energy 51 = .ok (.aload_n 0, 1) := by decide +kernel
theorem dX9_energy_52 : decode cX9_energy 52 = .ok (.getfield 17, 3) := by decide +kernel
theorem dX9_energy_55 : decode cX9_energy 55 = .ok (.iadd, 1) := by decide +kernel
theorem dX9_energy_56 : decode cX9_energy 56 = .ok (.if_icmp .ge 68, 3) := by decide +kernel
theorem dX9_energy_59 : decode cX9_energy 59 = .ok (.aload_n 0, 1) := by decide +kernel
theorem dX9_energy_60 : decode cX9_energy 60 = .ok (.getfield 20, 3) := by decide +kernel
theorem dX9_energy_63 : decode cX9_energy 63 = .ok (.istore_n 3, 1) := by decide +kernel
theorem dX9_energy_64 : decode cX9_energy 64 = .ok (.iload_n 3, 1) := by decide +kernel
theorem dX9_energy_65 : decode cX9_energy 65 = .ok (.aload_n 0, 1) := by decide +kernel
theorem dX9_energy_66 : decode cX9_energy 66 = .ok (.getfield 20, 3) := by decide +kernel
theorem dX9_energy_69 : decode cX9_energy 69 = .ok (.aload_n 0, 1) := by decide +kernel
theorem dX9_energy_70 : decode cX9_energy 70 = .ok (.getfield 17, 3) := by decide +kernel
theorem dX9_energy_73 : decode cX9_energy 73 = .ok (.iadd, 1) := by decide +kernel
theorem dX9_energy_74 : decode cX9_energy 74 = .ok (.if_icmp .ge 44, 3) := by decide +kernel
theorem dX9_energy_77 : decode cX9_energy 77 = .ok (.aload_n 0, 1) := by decide +kernel
theorem dX9_energy_78 : decode cX9_energy 78 = .ok (.iload_n 1, 1) := by decide +kernel
theorem dX9_energy_79 : decode cX9_energy 79 = .ok (.iload_n 2, 1) := by decide +kernel
theorem dX9_energy_80 : decode cX9_energy 80 = .ok (.i2l, 1) := by decide +kernel
theorem dX9_energy_81 : decode cX9_energy 81 = .ok (.invokevirtual 134, 3) := by decide +kernel
theorem dX9_energy_84 : decode cX9_energy 84 = .ok (.ifCond .eq 28, 3) := by decide +kernel
theorem dX9_energy_87 : decode cX9_energy 87 = .ok (.aload_n 0, 1) := by decide +kernel
theorem dX9_energy_88 : decode cX9_energy 88 = .ok (.iload_n 1, 1) := by decide +kernel
theorem dX9_energy_89 : decode cX9_energy 89 = .ok (.iload_n 3, 1) := by decide +kernel
theorem dX9_energy_90 : decode cX9_energy 90 = .ok (.i2l, 1) := by decide +kernel
theorem dX9_energy_91 : decode cX9_energy 91 = .ok (.invokevirtual 134, 3) := by decide +kernel
theorem dX9_energy_94 : decode cX9_energy 94 = .ok (.ifCond .eq 18, 3) := by decide +kernel
theorem dX9_energy_97 : decode cX9_energy 97 = .ok (.aload_n 0, 1) := by decide +kernel
theorem dX9_energy_98 : decode cX9_energy 98 = .ok (.getfield 66, 3) := by decide +kernel
theorem dX9_energy_101 : decode cX9_energy 101 = .ok (.aload_n 0, 1) := by decide +kernel
theorem dX9_energy_102 : decode cX9_energy 102 = .ok (.iload_n 2, 1) := by decide +kernel
theorem dX9_energy_103 : decode cX9_energy 103 = .ok (.iload_n 3, 1) := by decide +kernel
theorem dX9_energy_104 : decode cX9_energy 104 = .ok (.invokevirtual 141, 3) := by decide +kernel
theorem dX9_energy_107 : decode cX9_energy 107 = .ok (.dup2, 1) := by decide +kernel
theorem dX9_energy_108 : decode cX9_energy 108 = .ok (.iaload, 1) := by decide +kernel
theorem dX9_energy_109 : decode cX9_energy 109 = .ok (.iconst 1, 1) := by decide +kernel
theorem dX9_energy_110 : decode cX9_energy 110 = .ok (.iadd, 1) := by decide +kernel
theorem dX9_energy_111 : decode cX9_energy 111 = .ok (.iastore, 1) := by decide +kernel
theorem dX9_energy_112 : decode cX9_energy 112 = .ok (.iinc 3 1, 3) := by decide +kernel
theorem dX9_energy_115 : decode cX9_energy 115 = .ok (.goto (-51), 3) := by decide +kernel
theorem dX9_energy_118 : decode cX9_energy 118 = .ok (.iinc 2 1, 3) := by decide +kernel
theorem dX9_energy_121 : decode cX9_energy 121 = .ok (.goto (-75), 3) := by decide +kernel
theorem dX9_energy_124 : decode cX9_energy 124 = .ok (.iconst 0, 1) := by decide +kernel
theorem dX9_energy_125 : decode cX9_energy 125 = .ok (.istore_n 2, 1) := by decide +kernel
theorem dX9_energy_126 : decode cX9_energy 126 = .ok (.iconst 0, 1) := by decide +kernel
theorem dX9_energy_127 : decode cX9_energy 127 = .ok (.istore_n 3, 1) := by decide +kernel
theorem dX9_energy_128 : decode cX9_energy 128 = .ok (.iload_n 3, 1) := by decide +kernel
theorem dX9_energy_129 : decode cX9_energy 129 = .ok (.sipush 3700, 3) := by decide +kernel
theorem dX9_energy_132 : decode cX9_energy 132 = .ok (.if_icmp .ge 25, 3) := by decide +kernel
theorem dX9_energy_135 : decode cX9_energy 135 = .ok (.iload_n 2, 1) := by decide +kernel
theorem dX9_energy_136 : decode cX9_energy 136 = .ok (.aload_n 0, 1) := by decide +kernel
theorem dX9_energy_137 : decode cX9_energy 137 = .ok (.getfield 66, 3) := by decide +kernel
theorem dX9_energy_140 : decode cX9_energy 140 = .ok (.iload_n 3, 1) := by decide +kernel
theorem dX9_energy_141 : decode cX9_energy 141 = .ok (.iaload, 1) := by decide +kernel
theorem dX9_energy_142 : decode cX9_energy 142 = .ok (.aload_n 0, 1) := by decide +kernel
theorem dX9_energy_143 : decode cX9_energy 143 = .ok (.getfield 66, 3) := by decide +kernel
theorem dX9_energy_146 : decode cX9_energy 146 = .ok (.iload_n 3, 1) := by decide +kernel
theorem dX9_energy_147 : decode cX9_energy 147 = .ok (.iaload, 1) := by decide +kernel
theorem dX9_energy_148 : decode cX9_energy 148 = .ok (.imul, 1) := by decide +kernel
theorem dX9_energy_149 : decode cX9_energy 149 = .ok (.iadd, 1) := by decide +kernel
theorem dX9_energy_150 : decode cX9_energy 150 = .ok (.istore_n 2, 1) := by decide +kernel
theorem dX9_energy_151 : decode cX9_energy 151 = .ok (.iinc 3 1, 3) := by decide +kernel
theorem dX9_energy_154 : decode cX9_energy 154 = .ok (.goto (-26), 3) := by decide +kernel
theorem dX9_energy_157 : decode cX9_energy 157 = .ok (.iload_n 2, 1) := by decide +kernel
theorem dX9_energy_158 : decode cX9_energy 158 = .ok (.ireturn, 1) := by decide +kernel
theorem dX9_order_0 : decode cX9_order 0 = .ok (.aload_n 0, 1) := by decide +kernel
theorem dX9_order_1 : decode cX9_order 1 = .ok (.iload_n 1, 1) := by decide +kernel
theorem dX9_order_2 : decode cX9_order 2 = .ok (.invokevirtual 113, 3) := by decide +kernel
theorem dX9_order_5 : decode cX9_order 5 = .ok (.ifCond .ne 9, 3) := by decide +kernel
theorem dX9_order_8 : decode cX9_order 8 = .ok (.aload_n 0, 1) := by decide +kernel
theorem dX9_order_9 : decode cX9_order 9 = .ok (.iconst 1, 1) := by decide +kernel
theorem dX9_order_10 : decode cX9_order 10 = .ok (.invokevirtual 185, 3) := by decide +kernel
theorem dX9_order_13 : decode cX9_order 13 = .ok (.ireturn, 1) := by decide +kernel
theorem dX9_order_14 : decode cX9_order 14 = .ok (.aload_n 0, 1) := by decide +kernel
theorem dX9_order_15 : decode cX9_order 15 = .ok (.iconst 0, 1) := by decide +kernel
theorem dX9_order_16 : decode cX9_order 16 = .ok (.putfield 72, 3) := by decide +kernel
theorem dX9_order_19 : decode cX9_order 19 = .ok (.aload_n 0, 1) := by decide +kernel
theorem dX9_order_20 : decode cX9_order 20 = .ok (.getfield 82, 3) := by decide +kernel
theorem dX9_order_23 : decode cX9_order 23 = .ok (.ifCond .eq 5, 3) := by decide +kernel
theorem dX9_order_26 : decode cX9_order 26 = .ok (.iconst (-1), 1) := by decide +kernel
theorem dX9_order_27 : decode cX9_order 27 = .ok (.ireturn, 1) := by decide +kernel
theorem dX9_order_28 : decode cX9_order 28 = .ok (.iconst 0, 1) := by decide +kernel
theorem dX9_order_29 : decode cX9_order 29 = .ok (.istore_n 2, 1) := by decide +kernel
theorem dX9_order_30 : decode cX9_order 30 = .ok (.aload_n 0, 1) := by decide +kernel
theorem dX9_order_31 : decode cX9_order 31 = .ok (.getfield 66, 3) := by decide +kernel
theorem dX9_order_34 : decode cX9_order 34 = .ok (.iconst 0, 1) := by decide +kernel
theorem dX9_order_35 : decode cX9_order 35 = .ok (.iconst 0, 1) := by decide +kernel
theorem dX9_order_36 : decode cX9_order 36 = .ok (.iastore, 1) := by decide +kernel
theorem dX9_order_37 : decode cX9_order 37 = .ok (.iconst 1, 1) := by decide +kernel
theorem dX9_order_38 : decode cX9_order 38 = .ok (.istore_n 3, 1) := by decide +kernel
theorem dX9_order_39 : decode cX9_order 39 = .ok (.iload_n 3, 1) := by decide +kernel
theorem dX9_order_40 : decode cX9_order 40 = .ok (.aload_n 0, 1) := by decide +kernel
theorem dX9_order_41 : decode cX9_order 41 = .ok (.getfield 13, 3) := by decide +kernel
theorem dX9_order_44 : decode cX9_order 44 = .ok (.if_icmp .gt 129, 3) := by decide +kernel
theorem dX9_order_47 : decode cX9_order 47 = .ok (.aload_n 0, 1) := by decide +kernel
theorem dX9_order_48 : decode cX9_order 48 = .ok (.getfield 66, 3) := by decide +kernel
theorem dX9_order_51 : decode cX9_order 51 = .ok (.iload_n 3, 1) := by decide +kernel
theorem dX9_order_52 : decode cX9_order 52 = .ok (.iconst (-1), 1) := by decide +kernel
theorem dX9_order_53 : decode cX9_order 53 = .ok (.iastore, 1) := by decide +kernel
theorem dX9_order_54 : decode cX9_order 54 = .ok (.iconst 1, 1) := by decide +kernel
theorem dX9_order_55 : decode cX9_order 55 = .ok (.istore 4, 2) := by decide +kernel
theorem dX9_order_57 : decode cX9_order 57 = .ok (.iload 4, 2) := by decide +kernel
theorem dX9_order_59 : decode cX9_order 59 = .ok (.iload_n 3, 1) := by decide +kernel
theorem dX9_order_60 : decode cX9_order 60 = .ok (.if_icmp .gt 78, 3) := by decide +kernel
theorem dX9_order_63 : decode cX9_order 63 = .ok (.aload_n 0, 1) := by decide +kernel
theorem dX9_order_64 : decode cX9_order 64 = .ok (.iload_n 1, 1) := by decide +kernel
theorem dX9_order_65 : decode cX9_order 65 = .ok (.iload 4, 2) := by decide +kernel
theorem dX9_order_67 : decode cX9_order 67 = .ok (.i2l, 1) := by decide +kernel
theorem dX9_order_68 : decode cX9_order 68 = .ok (.invokevirtual 134, 3) := by decide +kernel
theorem dX9_order_71 : decode cX9_order 71 = .ok (.ifCond .eq 61, 3) := by decide +kernel
theorem dX9_order_74 : decode cX9_order 74 = .ok (.aload_n 0, 1) := by decide +kernel
theorem dX9_order_75 : decode cX9_order 75 = .ok (.getfield 66, 3) := by decide +kernel
theorem dX9_order_78 : decode cX9_order 78 = .ok (.iload_n 3, 1) := by decide +kernel
theorem dX9_order_79 : decode cX9_order 79 = .ok (.iload 4, 2) := by decide +kernel
theorem dX9_order_81 : decode cX9_order 81 = .ok (.isub, 1) := by decide +kernel
theorem dX9_order_82 : decode cX9_order 82 = .ok (.iaload, 1) := by decide +kernel
theorem dX9_order_83 : decode cX9_order 83 = .ok (.iconst (-1), 1) := by decide +kernel
theorem dX9_order_84 : decode cX9_order 84 = .ok (.if_icmp .ne 6, 3) := by decide +kernel
theorem dX9_order_87 : decode cX9_order 87 = .ok (.goto 45, 3) := by decide +kernel
theorem dX9_order_90 : decode cX9_order 90 = .ok (.aload_n 0, 1) := by decide +kernel
theorem dX9_order_91 : decode cX9_order 91 = .ok (.getfield 66, 3) := by decide +kernel
theorem dX9_order_94 : decode cX9_order 94 = .ok (.iload_n 3, 1) := by decide +kernel
theorem dX9_order_95 : decode cX9_order 95 = .ok (.iload 4, 2) := by decide +kernel
theorem dX9_order_97 : decode cX9_order 97 = .ok (.isub, 1) := by decide +kernel
theorem dX9_order_98 : decode cX9_order 98 = .ok (.iaload, 1) := by decide +kernel
theorem dX9_order_99 : decode cX9_order 99 = .ok (.iconst 1, 1) := by decide +kernel
theorem dX9_order_100 : decode cX9_order 100 = .ok (.iadd, 1) := by decide +kernel
theorem dX9_order_101 : decode cX9_order 101 = .ok (.istore 5, 2) := by decide +kernel
theorem dX9_order_103 : decode cX9_order 103 = .ok (.aload_n 0, 1) := by decide +kernel
theorem dX9_order_104 : decode cX9_order 104 = .ok (.getfield 66, 3) := by decide +kernel
theorem dX9_order_107 : decode cX9_order 107 = .ok (.iload_n 3, 1) := by decide +kernel
theorem dX9_order_108 : decode cX9_order 108 = .ok (.iaload, 1) := by decide +kernel
theorem dX9_order_109 : decode cX9_order 109 = .ok (.iconst (-1), 1) := by decide +kernel
theorem dX9_order_110 : decode cX9_order 110 = .ok (.if_icmp .eq 14, 3) := by decide +kernel
theorem dX9_order_113 : decode cX9_order 113 = .ok (.iload 5, 2) := by decide +kernel
theorem dX9_order_115 : decode cX9_order 115 = .ok (.aload_n 0, 1) := by decide +kernel
theorem dX9_order_116 : decode cX9_order 116 = .ok (.getfield 66, 3) := by decide +kernel
theorem dX9_order_119 : decode cX9_order 119 = .ok (.iload_n 3, 1) := by decide +kernel
theorem dX9_order_120 : decode cX9_order 120 = .ok (.iaload, 1) := by decide +kernel
theorem dX9_order_121 : decode cX9_order 121 = .ok (.if_icmp .ge 11, 3) := by decide +kernel
theorem dX9_order_124 : decode cX9_order 124 = .ok (.aload_n 0, 1) := by decide +kernel
theorem dX9_order_125 : decode cX9_order 125 = .ok (.getfield 66, 3) := by decide +kernel
theorem dX9_order_128 : decode cX9_order 128 = .ok (.iload_n 3, 1) := by decide +kernel
theorem dX9_order_129 : decode cX9_order 129 = .ok (.iload 5, 2) := by decide +kernel
theorem dX9_order_131 : decode cX9_order 131 = .ok (.iastore, 1) := by decide +kernel
theorem dX9_order_132 : decode cX9_order 132 = .ok (.iinc 4 1, 3) := by decide +kernel
theorem dX9_order_135 : decode cX9_order 135 = .ok (.goto (-78), 3) := by decide +kernel
theorem dX9_order_138 : decode cX9_order 138 = .ok (.aload_n 0, 1) := by decide +kernel
theorem dX9_order_139 : decode cX9_order 139 = .ok (.getfield 66, 3) := by decide +kernel
theorem dX9_order_142 : decode cX9_order 142 = .ok (.iload_n 3, 1) := by decide +kernel
theorem dX9_order_143 : decode cX9_order 143 = .ok (.iaload, 1) := by decide +kernel
theorem dX9_order_144 : decode cX9_order 144 = .ok (.iconst (-1), 1) := by decide +kernel
theorem dX9_order_145 : decode cX9_order 145 = .ok (.if_icmp .ne 5, 3) := by decide +kernel
theorem dX9_order_148 : decode cX9_order 148 = .ok (.iconst (-1), 1) := by decide +kernel
theorem dX9_order_149 : decode cX9_order 149 = .ok (.ireturn, 1) := by decide +kernel
theorem dX9_order_150 : decode cX9_order 150 = .ok (.aload_n 0, 1) := by decide +kernel
theorem dX9_order_151 : decode cX9_order 151 = .ok (.getfield 66, 3) := by decide +kernel
theorem dX9_order_154 : decode cX9_order 154 = .ok (.iload_n 3, 1) := by decide +kernel
theorem dX9_order_155 : decode cX9_order 155 = .ok (.iaload, 1) := by decide +kernel
theorem dX9_order_156 : decode cX9_order 156 = .ok (.iload_n 2, 1) := by decide +kernel
theorem dX9_order_157 : decode cX9_order 157 = .ok (.if_icmp .le 10, 3) := by decide +kernel
theorem dX9_order_160 : decode cX9_order 160 = .ok (.aload_n 0, 1) := by decide +kernel
theorem dX9_order_161 : decode cX9_order 161 = .ok (.getfield 66, 3) := by decide +kernel
theorem dX9_order_164 : decode cX9_order 164 = .ok (.iload_n 3, 1) := by decide +kernel
theorem dX9_order_165 : decode cX9_order 165 = .ok (.iaload, 1) := by decide +kernel
theorem dX9_order_166 : decode cX9_order 166 = .ok (.istore_n 2, 1) := by decide +kernel
theorem dX9_order_167 : decode cX9_order 167 = .ok (.iinc 3 1, 3) := by decide +kernel
theorem dX9_order_170 : decode cX9_order 170 = .ok (.goto (-131), 3) := by decide +kernel
theorem dX9_order_173 : decode cX9_order 173 = .ok (.iload_n 2, 1) := by decide +kernel
theorem dX9_order_174 : decode cX9_order 174 = .ok (.ireturn, 1) := by decide +kernel
theorem dX9_keep_0 : decode cX9_keep 0 = .ok (.aload_n 0, 1) := by decide +kernel
theorem dX9_keep_1 : decode cX9_keep 1 = .ok (.aload_n 0, 1) := by decide +kernel
theorem dX9_keep_2 : decode cX9_keep 2 = .ok (.iload_n 1, 1) := by decide +kernel
theorem dX9_keep_3 : decode cX9_keep 3 = .ok (.invokevirtual 113, 3) := by decide +kernel
theorem dX9_keep_6 : decode cX9_keep 6 = .ok (.ifCond .ne 7, 3) := by decide +kernel
theorem dX9_keep_9 : decode cX9_keep 9 = .ok (.iconst 1, 1) := by decide +kernel
theorem dX9_keep_10 : decode cX9_keep 10 = .ok (.goto 19, 3) := by decide +kernel
theorem dX9_keep_13 : decode cX9_keep 13 = .ok (.iload_n 2, 1) := by decide +kernel
theorem dX9_keep_14 : decode cX9_keep 14 = .ok (.ifCond .lt 10, 3) := by decide +kernel
theorem dX9_keep_17 : decode cX9_keep 17 = .ok (.iload_n 2, 1) := by decide +kernel
theorem dX9_keep_18 : decode cX9_keep 18 = .ok (.ldc_w 258, 3) := by decide +kernel
theorem dX9_keep_21 : decode cX9_keep 21 = .ok (.if_icmp .le 7, 3) := by decide +kernel
theorem dX9_keep_24 : decode cX9_keep 24 = .ok (.iconst 2, 1) := by decide +kernel
theorem dX9_keep_25 : decode cX9_keep 25 = .ok (.goto 4, 3) := by decide +kernel
theorem dX9_keep_28 : decode cX9_keep 28 = .ok (.iconst 0, 1) := by decide +kernel
theorem dX9_keep_29 : decode cX9_keep 29 = .ok (.putfield 72, 3) := by decide +kernel
theorem dX9_keep_32 : decode cX9_keep 32 = .ok (.aload_n 0, 1) := by decide +kernel
theorem dX9_keep_33 : decode cX9_keep 33 = .ok (.getfield 72, 3) := by decide +kernel
theorem dX9_keep_36 : decode cX9_keep 36 = .ok (.ifCond .le 5, 3) := by decide +kernel
theorem dX9_keep_39 : decode cX9_keep 39 = .ok (.iconst 0, 1) := by decide +kernel
theorem dX9_keep_40 : decode cX9_keep 40 = .ok (.ireturn, 1) := by decide +kernel
theorem dX9_keep_41 : decode cX9_keep 41 = .ok (.aload_n 0, 1) := by decide +kernel
theorem dX9_keep_42 : decode cX9_keep 42 = .ok (.iload_n 1, 1) := by decide +kernel
theorem dX9_keep_43 : decode cX9_keep 43 = .ok (.invokevirtual 117, 3) := by decide +kernel
theorem dX9_keep_46 : decode cX9_keep 46 = .ok (.iconst 0, 1) := by decide +kernel
theorem dX9_keep_47 : decode cX9_keep 47 = .ok (.istore_n 3, 1) := by decide +kernel
theorem dX9_keep_48 : decode cX9_keep 48 = .ok (.iload_n 3, 1) := by decide +kernel
theorem dX9_keep_49 : decode cX9_keep 49 = .ok (.bipush 60, 2) := by decide +kernel
theorem dX9_keep_51 : decode cX9_keep 51 = .ok (.if_icmp .ge 16, 3) := by decide +kernel
theorem dX9_keep_54 : decode cX9_keep 54 = .ok (.aload_n 0, 1) := by decide +kernel
theorem dX9_keep_55 : decode cX9_keep 55 = .ok (.getfield 69, 3) := by decide +kernel
theorem dX9_keep_58 : decode cX9_keep 58 = .ok (.iload_n 3, 1) := by decide +kernel
theorem dX9_keep_59 : decode cX9_keep 59 = .ok (.iconst 0, 1) := by decide +kernel
theorem dX9_keep_60 : decode cX9_keep 60 = .ok (.bastore, 1) := by decide +kernel
theorem dX9_keep_61 : decode cX9_keep 61 = .ok (.iinc 3 1, 3) := by decide +kernel
theorem dX9_keep_64 : decode cX9_keep 64 = .ok (.goto (-16), 3) := by decide +kernel
theorem dX9_keep_67 : decode cX9_keep 67 = .ok (.iload_n 2, 1) := by decide +kernel
theorem dX9_keep_68 : decode cX9_keep 68 = .ok (.istore_n 3, 1) := by decide +kernel
theorem dX9_keep_69 : decode cX9_keep 69 = .ok (.aload_n 0, 1) := by decide +kernel
theorem dX9_keep_70 : decode cX9_keep 70 = .ok (.getfield 17, 3) := by decide +kernel
theorem dX9_keep_73 : decode cX9_keep 73 = .ok (.istore 4, 2) := by decide +kernel
theorem dX9_keep_75 : decode cX9_keep 75 = .ok (.iload 4, 2) := by decide +kernel
theorem dX9_keep_77 : decode cX9_keep 77 = .ok (.ifCond .le 87, 3) := by decide +kernel
theorem dX9_keep_80 : decode cX9_keep 80 = .ok (.sipush 25173, 3) := by decide +kernel
theorem dX9_keep_83 : decode cX9_keep 83 = .ok (.iload_n 3, 1) := by decide +kernel
theorem dX9_keep_84 : decode cX9_keep 84 = .ok (.imul, 1) := by decide +kernel
theorem dX9_keep_85 : decode cX9_keep 85 = .ok (.sipush 13849, 3) := by decide +kernel
theorem dX9_keep_88 : decode cX9_keep 88 = .ok (.iadd, 1) := by decide +kernel
theorem dX9_keep_89 : decode cX9_keep 89 = .ok (.ldc_w 259, 3) := by decide +kernel
theorem dX9_keep_92 : decode cX9_keep 92 = .ok (.irem, 1) := by decide +kernel
theorem dX9_keep_93 : decode cX9_keep 93 = .ok (.istore_n 3, 1) := by decide +kernel
theorem dX9_keep_94 : decode cX9_keep 94 = .ok (.iload_n 3, 1) := by decide +kernel
theorem dX9_keep_95 : decode cX9_keep 95 = .ok (.iload 4, 2) := by decide +kernel
theorem dX9_keep_97 : decode cX9_keep 97 = .ok (.irem, 1) := by decide +kernel
theorem dX9_keep_98 : decode cX9_keep 98 = .ok (.istore 5, 2) := by decide +kernel
theorem dX9_keep_100 : decode cX9_keep 100 = .ok (.iconst 0, 1) := by decide +kernel
theorem dX9_keep_101 : decode cX9_keep 101 = .ok (.istore 6, 2) := by decide +kernel
theorem dX9_keep_103 : decode cX9_keep 103 = .ok (.iload 5, 2) := by decide +kernel
theorem dX9_keep_105 : decode cX9_keep 105 = .ok (.ifCond .gt 13, 3) := by decide +kernel
theorem dX9_keep_108 : decode cX9_keep 108 = .ok (.aload_n 0, 1) := by decide +kernel
theorem dX9_keep_109 : decode cX9_keep 109 = .ok (.getfield 69, 3) := by decide +kernel
theorem dX9_keep_112 : decode cX9_keep 112 = .ok (.iload 6, 2) := by decide +kernel
theorem dX9_keep_114 : decode cX9_keep 114 = .ok (.baload, 1) := by decide +kernel
theorem dX9_keep_115 : decode cX9_keep 115 = .ok (.ifCond .eq 22, 3) := by decide +kernel
theorem dX9_keep_118 : decode cX9_keep 118 = .ok (.aload_n 0, 1) := by decide +kernel
theorem dX9_keep_119 : decode cX9_keep 119 = .ok (.getfield 69, 3) := by decide +kernel
theorem dX9_keep_122 : decode cX9_keep 122 = .ok (.iload 6, 2) := by decide +kernel
theorem dX9_keep_124 : decode cX9_keep 124 = .ok (.baload, 1) := by decide +kernel
theorem dX9_keep_125 : decode cX9_keep 125 = .ok (.ifCond .ne 6, 3) := by decide +kernel
theorem dX9_keep_128 : decode cX9_keep 128 = .ok (.iinc 5 (-1), 3) := by decide +kernel
theorem dX9_keep_131 : decode cX9_keep 131 = .ok (.iinc 6 1, 3) := by decide +kernel
theorem dX9_keep_134 : decode cX9_keep 134 = .ok (.goto (-31), 3) := by decide +kernel
theorem dX9_keep_137 : decode cX9_keep 137 = .ok (.aload_n 0, 1) := by decide +kernel
theorem dX9_keep_138 : decode cX9_keep 138 = .ok (.getfield 69, 3) := by decide +kernel
theorem dX9_keep_141 : decode cX9_keep 141 = .ok (.iload 6, 2) := by decide +kernel
theorem dX9_keep_143 : decode cX9_keep 143 = .ok (.iconst 1, 1) := by decide +kernel
theorem dX9_keep_144 : decode cX9_keep 144 = .ok (.bastore, 1) := by decide +kernel
theorem dX9_keep_145 : decode cX9_keep 145 = .ok (.aload_n 0, 1) := by decide +kernel
theorem dX9_keep_146 : decode cX9_keep 146 = .ok (.iload_n 1, 1) := by decide +kernel
theorem dX9_keep_147 : decode cX9_keep 147 = .ok (.aload_n 0, 1) := by decide +kernel
theorem dX9_keep_148 : decode cX9_keep 148 = .ok (.getfield 20, 3) := by decide +kernel
theorem dX9_keep_151 : decode cX9_keep 151 = .ok (.iload 6, 2) := by decide +kernel
theorem dX9_keep_153 : decode cX9_keep 153 = .ok (.iadd, 1) := by decide +kernel
theorem dX9_keep_154 : decode cX9_keep 154 = .ok (.invokevirtual 191, 3) := by decide +kernel
theorem dX9_keep_157 : decode cX9_keep 157 = .ok (.pop, 1) := by decide +kernel
theorem dX9_keep_158 : decode cX9_keep 158 = .ok (.iinc 4 (-1), 3) := by decide +kernel
theorem dX9_keep_161 : decode cX9_keep 161 = .ok (.goto (-86), 3) := by decide +kernel
theorem dX9_keep_164 : decode cX9_keep 164 = .ok (.aload_n 0, 1) := by decide +kernel
theorem dX9_keep_165 : decode cX9_keep 165 = .ok (.iload_n 1, 1) := by decide +kernel
theorem dX9_keep_166 : decode cX9_keep 166 = .ok (.invokevirtual 130, 3) := by decide +kernel
theorem dX9_keep_169 : decode cX9_keep 169 = .ok (.ireturn, 1) := by decide +kernel
theorem dX9_look__0 : decode cX9_look_ 0 = .ok (.aload_n 0, 1) := by decide +kernel
theorem dX9_look__1 : decode cX9_look_ 1 = .ok (.iconst 0, 1) := by decide +kernel
theorem dX9_look__2 : decode cX9_look_ 2 = .ok (.putfield 72, 3) := by decide +kernel
theorem dX9_look__5 : decode cX9_look_ 5 = .ok (.iload_n 1, 1) := by decide +kernel
theorem dX9_look__6 : decode cX9_look_ 6 = .ok (.tableswitch 77 0 6 #[42, 47, 52, 57, 62, 67, 72], 42) := by decide +kernel
theorem dX9_look__48 : decode cX9_look_ 48 = .ok (.aload_n 0, 1) := by decide +kernel
theorem dX9_look__49 : decode cX9_look_ 49 = .ok (.getfield 82, 3) := by decide +kernel
theorem dX9_look__52 : decode cX9_look_ 52 = .ok (.ireturn, 1) := by decide +kernel
theorem dX9_look__53 : decode cX9_look_ 53 = .ok (.aload_n 0, 1) := by decide +kernel
theorem dX9_look__54 : decode cX9_look_ 54 = .ok (.getfield 13, 3) := by decide +kernel
theorem dX9_look__57 : decode cX9_look_ 57 = .ok (.ireturn, 1) := by decide +kernel
theorem dX9_look__58 : decode cX9_look_ 58 = .ok (.aload_n 0, 1) := by decide +kernel
theorem dX9_look__59 : decode cX9_look_ 59 = .ok (.getfield 17, 3) := by decide +kernel
theorem dX9_look__62 : decode cX9_look_ 62 = .ok (.ireturn, 1) := by decide +kernel
theorem dX9_look__63 : decode cX9_look_ 63 = .ok (.aload_n 0, 1) := by decide +kernel
theorem dX9_look__64 : decode cX9_look_ 64 = .ok (.getfield 96, 3) := by decide +kernel
theorem dX9_look__67 : decode cX9_look_ 67 = .ok (.ireturn, 1) := by decide +kernel
theorem dX9_look__68 : decode cX9_look_ 68 = .ok (.aload_n 0, 1) := by decide +kernel
theorem dX9_look__69 : decode cX9_look_ 69 = .ok (.getfield 99, 3) := by decide +kernel
theorem dX9_look__72 : decode cX9_look_ 72 = .ok (.ireturn, 1) := by decide +kernel
theorem dX9_look__73 : decode cX9_look_ 73 = .ok (.aload_n 0, 1) := by decide +kernel
theorem dX9_look__74 : decode cX9_look_ 74 = .ok (.getfield 197, 3) := by decide +kernel
theorem dX9_look__77 : decode cX9_look_ 77 = .ok (.ireturn, 1) := by decide +kernel
theorem dX9_look__78 : decode cX9_look_ 78 = .ok (.aload_n 0, 1) := by decide +kernel
theorem dX9_look__79 : decode cX9_look_ 79 = .ok (.getfield 75, 3) := by decide +kernel
theorem dX9_look__82 : decode cX9_look_ 82 = .ok (.ireturn, 1) := by decide +kernel
theorem dX9_look__83 : decode cX9_look_ 83 = .ok (.iconst (-1), 1) := by decide +kernel
theorem dX9_look__84 : decode cX9_look_ 84 = .ok (.ireturn, 1) := by decide +kernel
theorem dL_sheet_0 : decode cL_sheet 0 = .ok (.aload_n 3, 1) := by decide +kernel
theorem dL_sheet_1 : decode cL_sheet 1 = .ok (.iconst 0, 1) := by decide +kernel
theorem dL_sheet_2 : decode cL_sheet 2 = .ok (.aload_n 0, 1) := by decide +kernel
theorem dL_sheet_3 : decode cL_sheet 3 = .ok (.iload_n 1, 1) := by decide +kernel
theorem dL_sheet_4 : decode cL_sheet 4 = .ok (.iload_n 2, 1) := by decide +kernel
theorem dL_sheet_5 : decode cL_sheet 5 = .ok (.invokevirtual 7, 3) := by decide +kernel
theorem dL_sheet_8 : decode cL_sheet 8 = .ok (.i2l, 1) := by decide +kernel
theorem dL_sheet_9 : decode cL_sheet 9 = .ok (.lastore, 1) := by decide +kernel
theorem dL_sheet_10 : decode cL_sheet 10 = .ok (.goto 11, 3) := by decide +kernel
theorem dL_sheet_13 : decode cL_sheet 13 = .ok (.astore 4, 2) := by decide +kernel
theorem dL_sheet_15 : decode cL_sheet 15 = .ok (.iconst 1, 1) := by decide +kernel
theorem dL_sheet_16 : decode cL_sheet 16 = .ok (.ireturn, 1) := by decide +kernel
theorem dL_sheet_17 : decode cL_sheet 17 = .ok (.astore 4, 2) := by decide +kernel
theorem dL_sheet_19 : decode cL_sheet 19 = .ok (.iconst 2, 1) := by decide +kernel
theorem dL_sheet_20 : decode cL_sheet 20 = .ok (.ireturn, 1) := by decide +kernel
theorem dL_sheet_21 : decode cL_sheet 21 = .ok (.iconst 0, 1) := by decide +kernel
theorem dL_sheet_22 : decode cL_sheet 22 = .ok (.ireturn, 1) := by decide +kernel
theorem dL_put_0 : decode cL_put 0 = .ok (.aload 4, 2) := by decide +kernel
theorem dL_put_2 : decode cL_put 2 = .ok (.iconst 0, 1) := by decide +kernel
theorem dL_put_3 : decode cL_put 3 = .ok (.aload_n 0, 1) := by decide +kernel
theorem dL_put_4 : decode cL_put 4 = .ok (.iload_n 1, 1) := by decide +kernel
theorem dL_put_5 : decode cL_put 5 = .ok (.iload_n 2, 1) := by decide +kernel
theorem dL_put_6 : decode cL_put 6 = .ok (.iload_n 3, 1) := by decide +kernel
theorem dL_put_7 : decode cL_put 7 = .ok (.invokevirtual 17, 3) := by decide +kernel
theorem dL_put_10 : decode cL_put 10 = .ok (.ifCond .eq 7, 3) := by decide +kernel
theorem dL_put_13 : decode cL_put 13 = .ok (.lconst 1, 1) := by decide +kernel
theorem dL_put_14 : decode cL_put 14 = .ok (.goto 4, 3) := by decide +kernel
theorem dL_put_17 : decode cL_put 17 = .ok (.lconst 0, 1) := by decide +kernel
theorem dL_put_18 : decode cL_put 18 = .ok (.lastore, 1) := by decide +kernel
theorem dL_put_19 : decode cL_put 19 = .ok (.goto 7, 3) := by decide +kernel
theorem dL_put_22 : decode cL_put 22 = .ok (.astore 5, 2) := by decide +kernel
theorem dL_put_24 : decode cL_put 24 = .ok (.iconst 1, 1) := by decide +kernel
theorem dL_put_25 : decode cL_put 25 = .ok (.ireturn, 1) := by decide +kernel
theorem dL_put_26 : decode cL_put 26 = .ok (.iconst 0, 1) := by decide +kernel
theorem dL_put_27 : decode cL_put 27 = .ok (.ireturn, 1) := by decide +kernel
theorem dL_has_0 : decode cL_has 0 = .ok (.aload_n 3, 1) := by decide +kernel
theorem dL_has_1 : decode cL_has 1 = .ok (.iconst 0, 1) := by decide +kernel
theorem dL_has_2 : decode cL_has 2 = .ok (.aload_n 0, 1) := by decide +kernel
theorem dL_has_3 : decode cL_has 3 = .ok (.iload_n 1, 1) := by decide +kernel
theorem dL_has_4 : decode cL_has 4 = .ok (.iload_n 2, 1) := by decide +kernel
theorem dL_has_5 : decode cL_has 5 = .ok (.invokevirtual 21, 3) := by decide +kernel
theorem dL_has_8 : decode cL_has 8 = .ok (.ifCond .eq 7, 3) := by decide +kernel
theorem dL_has_11 : decode cL_has 11 = .ok (.lconst 1, 1) := by decide +kernel
theorem dL_has_12 : decode cL_has 12 = .ok (.goto 4, 3) := by decide +kernel
theorem dL_has_15 : decode cL_has 15 = .ok (.lconst 0, 1) := by decide +kernel
theorem dL_has_16 : decode cL_has 16 = .ok (.lastore, 1) := by decide +kernel
theorem dL_has_17 : decode cL_has 17 = .ok (.goto 7, 3) := by decide +kernel
theorem dL_has_20 : decode cL_has 20 = .ok (.astore 4, 2) := by decide +kernel
theorem dL_has_22 : decode cL_has 22 = .ok (.iconst 1, 1) := by decide +kernel
theorem dL_has_23 : decode cL_has 23 = .ok (.ireturn, 1) := by decide +kernel
theorem dL_has_24 : decode cL_has 24 = .ok (.iconst 0, 1) := by decide +kernel
theorem dL_has_25 : decode cL_has 25 = .ok (.ireturn, 1) := by decide +kernel
theorem dL_size_0 : decode cL_size 0 = .ok (.aload_n 2, 1) := by decide +kernel
theorem dL_size_1 : decode cL_size 1 = .ok (.iconst 0, 1) := by decide +kernel
theorem dL_size_2 : decode cL_size 2 = .ok (.aload_n 0, 1) := by decide +kernel
theorem dL_size_3 : decode cL_size 3 = .ok (.iload_n 1, 1) := by decide +kernel
theorem dL_size_4 : decode cL_size 4 = .ok (.invokevirtual 25, 3) := by decide +kernel
theorem dL_size_7 : decode cL_size 7 = .ok (.i2l, 1) := by decide +kernel
theorem dL_size_8 : decode cL_size 8 = .ok (.lastore, 1) := by decide +kernel
theorem dL_size_9 : decode cL_size 9 = .ok (.goto 6, 3) := by decide +kernel
theorem dL_size_12 : decode cL_size 12 = .ok (.astore_n 3, 1) := by decide +kernel
theorem dL_size_13 : decode cL_size 13 = .ok (.iconst 1, 1) := by decide +kernel
theorem dL_size_14 : decode cL_size 14 = .ok (.ireturn, 1) := by decide +kernel
theorem dL_size_15 : decode cL_size 15 = .ok (.iconst 0, 1) := by decide +kernel
theorem dL_size_16 : decode cL_size 16 = .ok (.ireturn, 1) := by decide +kernel
theorem dL_at_0 : decode cL_at 0 = .ok (.aload_n 3, 1) := by decide +kernel
theorem dL_at_1 : decode cL_at 1 = .ok (.iconst 0, 1) := by decide +kernel
theorem dL_at_2 : decode cL_at 2 = .ok (.aload_n 0, 1) := by decide +kernel
theorem dL_at_3 : decode cL_at 3 = .ok (.iload_n 1, 1) := by decide +kernel
theorem dL_at_4 : decode cL_at 4 = .ok (.iload_n 2, 1) := by decide +kernel
theorem dL_at_5 : decode cL_at 5 = .ok (.invokevirtual 29, 3) := by decide +kernel
theorem dL_at_8 : decode cL_at 8 = .ok (.i2l, 1) := by decide +kernel
theorem dL_at_9 : decode cL_at 9 = .ok (.lastore, 1) := by decide +kernel
theorem dL_at_10 : decode cL_at 10 = .ok (.goto 11, 3) := by decide +kernel
theorem dL_at_13 : decode cL_at 13 = .ok (.astore 4, 2) := by decide +kernel
theorem dL_at_15 : decode cL_at 15 = .ok (.iconst 1, 1) := by decide +kernel
theorem dL_at_16 : decode cL_at 16 = .ok (.ireturn, 1) := by decide +kernel
theorem dL_at_17 : decode cL_at 17 = .ok (.astore 4, 2) := by decide +kernel
theorem dL_at_19 : decode cL_at 19 = .ok (.iconst 2, 1) := by decide +kernel
theorem dL_at_20 : decode cL_at 20 = .ok (.ireturn, 1) := by decide +kernel
theorem dL_at_21 : decode cL_at 21 = .ok (.iconst 0, 1) := by decide +kernel
theorem dL_at_22 : decode cL_at 22 = .ok (.ireturn, 1) := by decide +kernel
theorem dL_clash_0 : decode cL_clash 0 = .ok (.aload_n 2, 1) := by decide +kernel
theorem dL_clash_1 : decode cL_clash 1 = .ok (.iconst 0, 1) := by decide +kernel
theorem dL_clash_2 : decode cL_clash 2 = .ok (.aload_n 0, 1) := by decide +kernel
theorem dL_clash_3 : decode cL_clash 3 = .ok (.iload_n 1, 1) := by decide +kernel
theorem dL_clash_4 : decode cL_clash 4 = .ok (.invokevirtual 34, 3) := by decide +kernel
theorem dL_clash_7 : decode cL_clash 7 = .ok (.i2l, 1) := by decide +kernel
theorem dL_clash_8 : decode cL_clash 8 = .ok (.lastore, 1) := by decide +kernel
theorem dL_clash_9 : decode cL_clash 9 = .ok (.goto 6, 3) := by decide +kernel
theorem dL_clash_12 : decode cL_clash 12 = .ok (.astore_n 3, 1) := by decide +kernel
theorem dL_clash_13 : decode cL_clash 13 = .ok (.iconst 1, 1) := by decide +kernel
theorem dL_clash_14 : decode cL_clash 14 = .ok (.ireturn, 1) := by decide +kernel
theorem dL_clash_15 : decode cL_clash 15 = .ok (.iconst 0, 1) := by decide +kernel
theorem dL_clash_16 : decode cL_clash 16 = .ok (.ireturn, 1) := by decide +kernel
theorem dL_witness_0 : decode cL_witness 0 = .ok (.aload_n 2, 1) := by decide +kernel
theorem dL_witness_1 : decode cL_witness 1 = .ok (.iconst 0, 1) := by decide +kernel
theorem dL_witness_2 : decode cL_witness 2 = .ok (.aload_n 0, 1) := by decide +kernel
theorem dL_witness_3 : decode cL_witness 3 = .ok (.iload_n 1, 1) := by decide +kernel
theorem dL_witness_4 : decode cL_witness 4 = .ok (.invokevirtual 37, 3) := by decide +kernel
theorem dL_witness_7 : decode cL_witness 7 = .ok (.i2l, 1) := by decide +kernel
theorem dL_witness_8 : decode cL_witness 8 = .ok (.lastore, 1) := by decide +kernel
theorem dL_witness_9 : decode cL_witness 9 = .ok (.goto 6, 3) := by decide +kernel
theorem dL_witness_12 : decode cL_witness 12 = .ok (.astore_n 3, 1) := by decide +kernel
theorem dL_witness_13 : decode cL_witness 13 = .ok (.iconst 1, 1) := by decide +kernel
theorem dL_witness_14 : decode cL_witness 14 = .ok (.ireturn, 1) := by decide +kernel
theorem dL_witness_15 : decode cL_witness 15 = .ok (.iconst 0, 1) := by decide +kernel
theorem dL_witness_16 : decode cL_witness 16 = .ok (.ireturn, 1) := by decide +kernel
theorem dL_room_0 : decode cL_room 0 = .ok (.aload_n 2, 1) := by decide +kernel
theorem dL_room_1 : decode cL_room 1 = .ok (.iconst 0, 1) := by decide +kernel
theorem dL_room_2 : decode cL_room 2 = .ok (.aload_n 0, 1) := by decide +kernel
theorem dL_room_3 : decode cL_room 3 = .ok (.iload_n 1, 1) := by decide +kernel
theorem dL_room_4 : decode cL_room 4 = .ok (.invokevirtual 40, 3) := by decide +kernel
theorem dL_room_7 : decode cL_room 7 = .ok (.i2l, 1) := by decide +kernel
theorem dL_room_8 : decode cL_room 8 = .ok (.lastore, 1) := by decide +kernel
theorem dL_room_9 : decode cL_room 9 = .ok (.goto 6, 3) := by decide +kernel
theorem dL_room_12 : decode cL_room 12 = .ok (.astore_n 3, 1) := by decide +kernel
theorem dL_room_13 : decode cL_room 13 = .ok (.iconst 1, 1) := by decide +kernel
theorem dL_room_14 : decode cL_room 14 = .ok (.ireturn, 1) := by decide +kernel
theorem dL_room_15 : decode cL_room 15 = .ok (.iconst 0, 1) := by decide +kernel
theorem dL_room_16 : decode cL_room 16 = .ok (.ireturn, 1) := by decide +kernel
theorem dL_greatest_0 : decode cL_greatest 0 = .ok (.aload_n 3, 1) := by decide +kernel
theorem dL_greatest_1 : decode cL_greatest 1 = .ok (.iconst 0, 1) := by decide +kernel
theorem dL_greatest_2 : decode cL_greatest 2 = .ok (.aload_n 0, 1) := by decide +kernel
theorem dL_greatest_3 : decode cL_greatest 3 = .ok (.iload_n 1, 1) := by decide +kernel
theorem dL_greatest_4 : decode cL_greatest 4 = .ok (.iload_n 2, 1) := by decide +kernel
theorem dL_greatest_5 : decode cL_greatest 5 = .ok (.invokevirtual 43, 3) := by decide +kernel
theorem dL_greatest_8 : decode cL_greatest 8 = .ok (.i2l, 1) := by decide +kernel
theorem dL_greatest_9 : decode cL_greatest 9 = .ok (.lastore, 1) := by decide +kernel
theorem dL_greatest_10 : decode cL_greatest 10 = .ok (.goto 11, 3) := by decide +kernel
theorem dL_greatest_13 : decode cL_greatest 13 = .ok (.astore 4, 2) := by decide +kernel
theorem dL_greatest_15 : decode cL_greatest 15 = .ok (.iconst 1, 1) := by decide +kernel
theorem dL_greatest_16 : decode cL_greatest 16 = .ok (.ireturn, 1) := by decide +kernel
theorem dL_greatest_17 : decode cL_greatest 17 = .ok (.astore 4, 2) := by decide +kernel
theorem dL_greatest_19 : decode cL_greatest 19 = .ok (.iconst 2, 1) := by decide +kernel
theorem dL_greatest_20 : decode cL_greatest 20 = .ok (.ireturn, 1) := by decide +kernel
theorem dL_greatest_21 : decode cL_greatest 21 = .ok (.iconst 0, 1) := by decide +kernel
theorem dL_greatest_22 : decode cL_greatest 22 = .ok (.ireturn, 1) := by decide +kernel
theorem dL_list_0 : decode cL_list 0 = .ok (.aload_n 2, 1) := by decide +kernel
theorem dL_list_1 : decode cL_list 1 = .ok (.iconst 0, 1) := by decide +kernel
theorem dL_list_2 : decode cL_list 2 = .ok (.aload_n 0, 1) := by decide +kernel
theorem dL_list_3 : decode cL_list 3 = .ok (.iload_n 1, 1) := by decide +kernel
theorem dL_list_4 : decode cL_list 4 = .ok (.invokevirtual 46, 3) := by decide +kernel
theorem dL_list_7 : decode cL_list 7 = .ok (.i2l, 1) := by decide +kernel
theorem dL_list_8 : decode cL_list 8 = .ok (.lastore, 1) := by decide +kernel
theorem dL_list_9 : decode cL_list 9 = .ok (.goto 6, 3) := by decide +kernel
theorem dL_list_12 : decode cL_list 12 = .ok (.astore_n 3, 1) := by decide +kernel
theorem dL_list_13 : decode cL_list 13 = .ok (.iconst 1, 1) := by decide +kernel
theorem dL_list_14 : decode cL_list 14 = .ok (.ireturn, 1) := by decide +kernel
theorem dL_list_15 : decode cL_list 15 = .ok (.iconst 0, 1) := by decide +kernel
theorem dL_list_16 : decode cL_list 16 = .ok (.ireturn, 1) := by decide +kernel
theorem dL_listed_0 : decode cL_listed 0 = .ok (.aload_n 3, 1) := by decide +kernel
theorem dL_listed_1 : decode cL_listed 1 = .ok (.iconst 0, 1) := by decide +kernel
theorem dL_listed_2 : decode cL_listed 2 = .ok (.aload_n 0, 1) := by decide +kernel
theorem dL_listed_3 : decode cL_listed 3 = .ok (.iload_n 1, 1) := by decide +kernel
theorem dL_listed_4 : decode cL_listed 4 = .ok (.iload_n 2, 1) := by decide +kernel
theorem dL_listed_5 : decode cL_listed 5 = .ok (.invokevirtual 49, 3) := by decide +kernel
theorem dL_listed_8 : decode cL_listed 8 = .ok (.i2l, 1) := by decide +kernel
theorem dL_listed_9 : decode cL_listed 9 = .ok (.lastore, 1) := by decide +kernel
theorem dL_listed_10 : decode cL_listed 10 = .ok (.goto 7, 3) := by decide +kernel
theorem dL_listed_13 : decode cL_listed 13 = .ok (.astore 4, 2) := by decide +kernel
theorem dL_listed_15 : decode cL_listed 15 = .ok (.iconst 1, 1) := by decide +kernel
theorem dL_listed_16 : decode cL_listed 16 = .ok (.ireturn, 1) := by decide +kernel
theorem dL_listed_17 : decode cL_listed 17 = .ok (.iconst 0, 1) := by decide +kernel
theorem dL_listed_18 : decode cL_listed 18 = .ok (.ireturn, 1) := by decide +kernel
theorem dL_kinds_0 : decode cL_kinds 0 = .ok (.aload_n 2, 1) := by decide +kernel
theorem dL_kinds_1 : decode cL_kinds 1 = .ok (.iconst 0, 1) := by decide +kernel
theorem dL_kinds_2 : decode cL_kinds 2 = .ok (.aload_n 0, 1) := by decide +kernel
theorem dL_kinds_3 : decode cL_kinds 3 = .ok (.iload_n 1, 1) := by decide +kernel
theorem dL_kinds_4 : decode cL_kinds 4 = .ok (.invokevirtual 52, 3) := by decide +kernel
theorem dL_kinds_7 : decode cL_kinds 7 = .ok (.i2l, 1) := by decide +kernel
theorem dL_kinds_8 : decode cL_kinds 8 = .ok (.lastore, 1) := by decide +kernel
theorem dL_kinds_9 : decode cL_kinds 9 = .ok (.goto 6, 3) := by decide +kernel
theorem dL_kinds_12 : decode cL_kinds 12 = .ok (.astore_n 3, 1) := by decide +kernel
theorem dL_kinds_13 : decode cL_kinds 13 = .ok (.iconst 1, 1) := by decide +kernel
theorem dL_kinds_14 : decode cL_kinds 14 = .ok (.ireturn, 1) := by decide +kernel
theorem dL_kinds_15 : decode cL_kinds 15 = .ok (.iconst 0, 1) := by decide +kernel
theorem dL_kinds_16 : decode cL_kinds 16 = .ok (.ireturn, 1) := by decide +kernel
theorem dL_kind_0 : decode cL_kind 0 = .ok (.aload 4, 2) := by decide +kernel
theorem dL_kind_2 : decode cL_kind 2 = .ok (.iconst 0, 1) := by decide +kernel
theorem dL_kind_3 : decode cL_kind 3 = .ok (.aload_n 0, 1) := by decide +kernel
theorem dL_kind_4 : decode cL_kind 4 = .ok (.iload_n 1, 1) := by decide +kernel
theorem dL_kind_5 : decode cL_kind 5 = .ok (.iload_n 2, 1) := by decide +kernel
theorem dL_kind_6 : decode cL_kind 6 = .ok (.iload_n 3, 1) := by decide +kernel
theorem dL_kind_7 : decode cL_kind 7 = .ok (.invokevirtual 55, 3) := by decide +kernel
theorem dL_kind_10 : decode cL_kind 10 = .ok (.i2l, 1) := by decide +kernel
theorem dL_kind_11 : decode cL_kind 11 = .ok (.lastore, 1) := by decide +kernel
theorem dL_kind_12 : decode cL_kind 12 = .ok (.goto 7, 3) := by decide +kernel
theorem dL_kind_15 : decode cL_kind 15 = .ok (.astore 5, 2) := by decide +kernel
theorem dL_kind_17 : decode cL_kind 17 = .ok (.iconst 1, 1) := by decide +kernel
theorem dL_kind_18 : decode cL_kind 18 = .ok (.ireturn, 1) := by decide +kernel
theorem dL_kind_19 : decode cL_kind 19 = .ok (.iconst 0, 1) := by decide +kernel
theorem dL_kind_20 : decode cL_kind 20 = .ok (.ireturn, 1) := by decide +kernel
theorem dL_count_0 : decode cL_count 0 = .ok (.aload_n 2, 1) := by decide +kernel
theorem dL_count_1 : decode cL_count 1 = .ok (.iconst 0, 1) := by decide +kernel
theorem dL_count_2 : decode cL_count 2 = .ok (.aload_n 0, 1) := by decide +kernel
theorem dL_count_3 : decode cL_count 3 = .ok (.iload_n 1, 1) := by decide +kernel
theorem dL_count_4 : decode cL_count 4 = .ok (.invokevirtual 59, 3) := by decide +kernel
theorem dL_count_7 : decode cL_count 7 = .ok (.i2l, 1) := by decide +kernel
theorem dL_count_8 : decode cL_count 8 = .ok (.lastore, 1) := by decide +kernel
theorem dL_count_9 : decode cL_count 9 = .ok (.goto 6, 3) := by decide +kernel
theorem dL_count_12 : decode cL_count 12 = .ok (.astore_n 3, 1) := by decide +kernel
theorem dL_count_13 : decode cL_count 13 = .ok (.iconst 1, 1) := by decide +kernel
theorem dL_count_14 : decode cL_count 14 = .ok (.ireturn, 1) := by decide +kernel
theorem dL_count_15 : decode cL_count 15 = .ok (.iconst 0, 1) := by decide +kernel
theorem dL_count_16 : decode cL_count 16 = .ok (.ireturn, 1) := by decide +kernel
theorem dL_colours_0 : decode cL_colours 0 = .ok (.aload_n 3, 1) := by decide +kernel
theorem dL_colours_1 : decode cL_colours 1 = .ok (.iconst 0, 1) := by decide +kernel
theorem dL_colours_2 : decode cL_colours 2 = .ok (.aload_n 0, 1) := by decide +kernel
theorem dL_colours_3 : decode cL_colours 3 = .ok (.iload_n 1, 1) := by decide +kernel
theorem dL_colours_4 : decode cL_colours 4 = .ok (.iload_n 2, 1) := by decide +kernel
theorem dL_colours_5 : decode cL_colours 5 = .ok (.invokevirtual 62, 3) := by decide +kernel
theorem dL_colours_8 : decode cL_colours 8 = .ok (.i2l, 1) := by decide +kernel
theorem dL_colours_9 : decode cL_colours 9 = .ok (.lastore, 1) := by decide +kernel
theorem dL_colours_10 : decode cL_colours 10 = .ok (.goto 7, 3) := by decide +kernel
theorem dL_colours_13 : decode cL_colours 13 = .ok (.astore 4, 2) := by decide +kernel
theorem dL_colours_15 : decode cL_colours 15 = .ok (.iconst 1, 1) := by decide +kernel
theorem dL_colours_16 : decode cL_colours 16 = .ok (.ireturn, 1) := by decide +kernel
theorem dL_colours_17 : decode cL_colours 17 = .ok (.iconst 0, 1) := by decide +kernel
theorem dL_colours_18 : decode cL_colours 18 = .ok (.ireturn, 1) := by decide +kernel
theorem dL_forced_0 : decode cL_forced 0 = .ok (.aload_n 3, 1) := by decide +kernel
theorem dL_forced_1 : decode cL_forced 1 = .ok (.iconst 0, 1) := by decide +kernel
theorem dL_forced_2 : decode cL_forced 2 = .ok (.aload_n 0, 1) := by decide +kernel
theorem dL_forced_3 : decode cL_forced 3 = .ok (.iload_n 1, 1) := by decide +kernel
theorem dL_forced_4 : decode cL_forced 4 = .ok (.iload_n 2, 1) := by decide +kernel
theorem dL_forced_5 : decode cL_forced 5 = .ok (.invokevirtual 65, 3) := by decide +kernel
theorem dL_forced_8 : decode cL_forced 8 = .ok (.i2l, 1) := by decide +kernel
theorem dL_forced_9 : decode cL_forced 9 = .ok (.lastore, 1) := by decide +kernel
theorem dL_forced_10 : decode cL_forced 10 = .ok (.goto 7, 3) := by decide +kernel
theorem dL_forced_13 : decode cL_forced 13 = .ok (.astore 4, 2) := by decide +kernel
theorem dL_forced_15 : decode cL_forced 15 = .ok (.iconst 1, 1) := by decide +kernel
theorem dL_forced_16 : decode cL_forced 16 = .ok (.ireturn, 1) := by decide +kernel
theorem dL_forced_17 : decode cL_forced 17 = .ok (.iconst 0, 1) := by decide +kernel
theorem dL_forced_18 : decode cL_forced 18 = .ok (.ireturn, 1) := by decide +kernel
theorem dL_sums_0 : decode cL_sums 0 = .ok (.aload 5, 2) := by decide +kernel
theorem dL_sums_2 : decode cL_sums 2 = .ok (.iconst 0, 1) := by decide +kernel
theorem dL_sums_3 : decode cL_sums 3 = .ok (.aload_n 0, 1) := by decide +kernel
theorem dL_sums_4 : decode cL_sums 4 = .ok (.iload_n 1, 1) := by decide +kernel
theorem dL_sums_5 : decode cL_sums 5 = .ok (.iload_n 2, 1) := by decide +kernel
theorem dL_sums_6 : decode cL_sums 6 = .ok (.iload_n 3, 1) := by decide +kernel
theorem dL_sums_7 : decode cL_sums 7 = .ok (.iload 4, 2) := by decide +kernel
theorem dL_sums_9 : decode cL_sums 9 = .ok (.invokevirtual 68, 3) := by decide +kernel
theorem dL_sums_12 : decode cL_sums 12 = .ok (.i2l, 1) := by decide +kernel
theorem dL_sums_13 : decode cL_sums 13 = .ok (.lastore, 1) := by decide +kernel
theorem dL_sums_14 : decode cL_sums 14 = .ok (.goto 7, 3) := by decide +kernel
theorem dL_sums_17 : decode cL_sums 17 = .ok (.astore 6, 2) := by decide +kernel
theorem dL_sums_19 : decode cL_sums 19 = .ok (.iconst 1, 1) := by decide +kernel
theorem dL_sums_20 : decode cL_sums 20 = .ok (.ireturn, 1) := by decide +kernel
theorem dL_sums_21 : decode cL_sums 21 = .ok (.iconst 0, 1) := by decide +kernel
theorem dL_sums_22 : decode cL_sums 22 = .ok (.ireturn, 1) := by decide +kernel
theorem dL_energy_0 : decode cL_energy 0 = .ok (.aload_n 2, 1) := by decide +kernel
theorem dL_energy_1 : decode cL_energy 1 = .ok (.iconst 0, 1) := by decide +kernel
theorem dL_energy_2 : decode cL_energy 2 = .ok (.aload_n 0, 1) := by decide +kernel
theorem dL_energy_3 : decode cL_energy 3 = .ok (.iload_n 1, 1) := by decide +kernel
theorem dL_energy_4 : decode cL_energy 4 = .ok (.invokevirtual 72, 3) := by decide +kernel
theorem dL_energy_7 : decode cL_energy 7 = .ok (.i2l, 1) := by decide +kernel
theorem dL_energy_8 : decode cL_energy 8 = .ok (.lastore, 1) := by decide +kernel
theorem dL_energy_9 : decode cL_energy 9 = .ok (.goto 6, 3) := by decide +kernel
theorem dL_energy_12 : decode cL_energy 12 = .ok (.astore_n 3, 1) := by decide +kernel
theorem dL_energy_13 : decode cL_energy 13 = .ok (.iconst 1, 1) := by decide +kernel
theorem dL_energy_14 : decode cL_energy 14 = .ok (.ireturn, 1) := by decide +kernel
theorem dL_energy_15 : decode cL_energy 15 = .ok (.iconst 0, 1) := by decide +kernel
theorem dL_energy_16 : decode cL_energy 16 = .ok (.ireturn, 1) := by decide +kernel
theorem dL_order_0 : decode cL_order 0 = .ok (.aload_n 2, 1) := by decide +kernel
theorem dL_order_1 : decode cL_order 1 = .ok (.iconst 0, 1) := by decide +kernel
theorem dL_order_2 : decode cL_order 2 = .ok (.aload_n 0, 1) := by decide +kernel
theorem dL_order_3 : decode cL_order 3 = .ok (.iload_n 1, 1) := by decide +kernel
theorem dL_order_4 : decode cL_order 4 = .ok (.invokevirtual 75, 3) := by decide +kernel
theorem dL_order_7 : decode cL_order 7 = .ok (.i2l, 1) := by decide +kernel
theorem dL_order_8 : decode cL_order 8 = .ok (.lastore, 1) := by decide +kernel
theorem dL_order_9 : decode cL_order 9 = .ok (.goto 6, 3) := by decide +kernel
theorem dL_order_12 : decode cL_order 12 = .ok (.astore_n 3, 1) := by decide +kernel
theorem dL_order_13 : decode cL_order 13 = .ok (.iconst 1, 1) := by decide +kernel
theorem dL_order_14 : decode cL_order 14 = .ok (.ireturn, 1) := by decide +kernel
theorem dL_order_15 : decode cL_order 15 = .ok (.iconst 0, 1) := by decide +kernel
theorem dL_order_16 : decode cL_order 16 = .ok (.ireturn, 1) := by decide +kernel
theorem dL_keep_0 : decode cL_keep 0 = .ok (.aload_n 3, 1) := by decide +kernel
theorem dL_keep_1 : decode cL_keep 1 = .ok (.iconst 0, 1) := by decide +kernel
theorem dL_keep_2 : decode cL_keep 2 = .ok (.aload_n 0, 1) := by decide +kernel
theorem dL_keep_3 : decode cL_keep 3 = .ok (.iload_n 1, 1) := by decide +kernel
theorem dL_keep_4 : decode cL_keep 4 = .ok (.iload_n 2, 1) := by decide +kernel
theorem dL_keep_5 : decode cL_keep 5 = .ok (.invokevirtual 78, 3) := by decide +kernel
theorem dL_keep_8 : decode cL_keep 8 = .ok (.i2l, 1) := by decide +kernel
theorem dL_keep_9 : decode cL_keep 9 = .ok (.lastore, 1) := by decide +kernel
theorem dL_keep_10 : decode cL_keep 10 = .ok (.goto 11, 3) := by decide +kernel
theorem dL_keep_13 : decode cL_keep 13 = .ok (.astore 4, 2) := by decide +kernel
theorem dL_keep_15 : decode cL_keep 15 = .ok (.iconst 1, 1) := by decide +kernel
theorem dL_keep_16 : decode cL_keep 16 = .ok (.ireturn, 1) := by decide +kernel
theorem dL_keep_17 : decode cL_keep 17 = .ok (.astore 4, 2) := by decide +kernel
theorem dL_keep_19 : decode cL_keep 19 = .ok (.iconst 2, 1) := by decide +kernel
theorem dL_keep_20 : decode cL_keep 20 = .ok (.ireturn, 1) := by decide +kernel
theorem dL_keep_21 : decode cL_keep 21 = .ok (.iconst 0, 1) := by decide +kernel
theorem dL_keep_22 : decode cL_keep 22 = .ok (.ireturn, 1) := by decide +kernel
theorem dL_law_0 : decode cL_law 0 = .ok (.new 8, 3) := by decide +kernel
theorem dL_law_3 : decode cL_law 3 = .ok (.dup, 1) := by decide +kernel
theorem dL_law_4 : decode cL_law 4 = .ok (.invokespecial 81, 3) := by decide +kernel
theorem dL_law_7 : decode cL_law 7 = .ok (.astore_n 1, 1) := by decide +kernel
theorem dL_law_8 : decode cL_law 8 = .ok (.new 82, 3) := by decide +kernel
theorem dL_law_11 : decode cL_law 11 = .ok (.dup, 1) := by decide +kernel
theorem dL_law_12 : decode cL_law 12 = .ok (.invokespecial 84, 3) := by decide +kernel
theorem dL_law_15 : decode cL_law 15 = .ok (.astore_n 2, 1) := by decide +kernel
theorem dL_law_16 : decode cL_law 16 = .ok (.iconst 1, 1) := by decide +kernel
theorem dL_law_17 : decode cL_law 17 = .ok (.newarray .long, 2) := by decide +kernel
theorem dL_law_19 : decode cL_law 19 = .ok (.astore_n 3, 1) := by decide +kernel
theorem dL_law_20 : decode cL_law 20 = .ok (.iconst 0, 1) := by decide +kernel
theorem dL_law_21 : decode cL_law 21 = .ok (.istore 4, 2) := by decide +kernel
theorem dL_law_23 : decode cL_law 23 = .ok (.iload 4, 2) := by decide +kernel
theorem dL_law_25 : decode cL_law 25 = .ok (.aload_n 0, 1) := by decide +kernel
theorem dL_law_26 : decode cL_law 26 = .ok (.arraylength, 1) := by decide +kernel
theorem dL_law_27 : decode cL_law 27 = .ok (.bipush 6, 2) := by decide +kernel
theorem dL_law_29 : decode cL_law 29 = .ok (.isub, 1) := by decide +kernel
theorem dL_law_30 : decode cL_law 30 = .ok (.if_icmp .gt 1757, 3) := by decide +kernel
theorem dL_law_33 : decode cL_law 33 = .ok (.aload_n 0, 1) := by decide +kernel
theorem dL_law_34 : decode cL_law 34 = .ok (.iload 4, 2) := by decide +kernel
theorem dL_law_36 : decode cL_law 36 = .ok (.iaload, 1) := by decide +kernel
theorem dL_law_37 : decode cL_law 37 = .ok (.bipush 31, 2) := by decide +kernel
theorem dL_law_39 : decode cL_law 39 = .ok (.iand, 1) := by decide +kernel
theorem dL_law_40 : decode cL_law 40 = .ok (.tableswitch 1741 0 26 #[124, 197, 222, 259, 327, 430, 505, 561, 629, 718, 731, 787, 843, 899, 967, 1023, 1091, 1147, 1227, 1283, 1351, 1376, 1444, 1536, 1592, 1648, 1716], 124) := by decide +kernel
theorem dL_law_164 : decode cL_law 164 = .ok (.aload_n 1, 1) := by decide +kernel
theorem dL_law_165 : decode cL_law 165 = .ok (.aload_n 0, 1) := by decide +kernel
theorem dL_law_166 : decode cL_law 166 = .ok (.iload 4, 2) := by decide +kernel
theorem dL_law_168 : decode cL_law 168 = .ok (.iconst 1, 1) := by decide +kernel
theorem dL_law_169 : decode cL_law 169 = .ok (.iadd, 1) := by decide +kernel
theorem dL_law_170 : decode cL_law 170 = .ok (.iaload, 1) := by decide +kernel
theorem dL_law_171 : decode cL_law 171 = .ok (.aload_n 0, 1) := by decide +kernel
theorem dL_law_172 : decode cL_law 172 = .ok (.iload 4, 2) := by decide +kernel
theorem dL_law_174 : decode cL_law 174 = .ok (.iconst 2, 1) := by decide +kernel
theorem dL_law_175 : decode cL_law 175 = .ok (.iadd, 1) := by decide +kernel
theorem dL_law_176 : decode cL_law 176 = .ok (.iaload, 1) := by decide +kernel
theorem dL_law_177 : decode cL_law 177 = .ok (.aload_n 0, 1) := by decide +kernel
theorem dL_law_178 : decode cL_law 178 = .ok (.iload 4, 2) := by decide +kernel
theorem dL_law_180 : decode cL_law 180 = .ok (.iconst 3, 1) := by decide +kernel
theorem dL_law_181 : decode cL_law 181 = .ok (.iadd, 1) := by decide +kernel
theorem dL_law_182 : decode cL_law 182 = .ok (.iaload, 1) := by decide +kernel
theorem dL_law_183 : decode cL_law 183 = .ok (.aload_n 0, 1) := by decide +kernel
theorem dL_law_184 : decode cL_law 184 = .ok (.iload 4, 2) := by decide +kernel
theorem dL_law_186 : decode cL_law 186 = .ok (.iconst 4, 1) := by decide +kernel
theorem dL_law_187 : decode cL_law 187 = .ok (.iadd, 1) := by decide +kernel
theorem dL_law_188 : decode cL_law 188 = .ok (.iaload, 1) := by decide +kernel
theorem dL_law_189 : decode cL_law 189 = .ok (.aload_n 0, 1) := by decide +kernel
theorem dL_law_190 : decode cL_law 190 = .ok (.iload 4, 2) := by decide +kernel
theorem dL_law_192 : decode cL_law 192 = .ok (.iconst 5, 1) := by decide +kernel
theorem dL_law_193 : decode cL_law 193 = .ok (.iadd, 1) := by decide +kernel
theorem dL_law_194 : decode cL_law 194 = .ok (.iaload, 1) := by decide +kernel
theorem dL_law_195 : decode cL_law 195 = .ok (.invokevirtual 85, 3) := by decide +kernel
theorem dL_law_198 : decode cL_law 198 = .ok (.aload_n 2, 1) := by decide +kernel
theorem dL_law_199 : decode cL_law 199 = .ok (.aload_n 0, 1) := by decide +kernel
theorem dL_law_200 : decode cL_law 200 = .ok (.iload 4, 2) := by decide +kernel
theorem dL_law_202 : decode cL_law 202 = .ok (.iconst 1, 1) := by decide +kernel
theorem dL_law_203 : decode cL_law 203 = .ok (.iadd, 1) := by decide +kernel
theorem dL_law_204 : decode cL_law 204 = .ok (.iaload, 1) := by decide +kernel
theorem dL_law_205 : decode cL_law 205 = .ok (.aload_n 0, 1) := by decide +kernel
theorem dL_law_206 : decode cL_law 206 = .ok (.iload 4, 2) := by decide +kernel
theorem dL_law_208 : decode cL_law 208 = .ok (.iconst 2, 1) := by decide +kernel
theorem dL_law_209 : decode cL_law 209 = .ok (.iadd, 1) := by decide +kernel
theorem dL_law_210 : decode cL_law 210 = .ok (.iaload, 1) := by decide +kernel
theorem dL_law_211 : decode cL_law 211 = .ok (.aload_n 0, 1) := by decide +kernel
theorem dL_law_212 : decode cL_law 212 = .ok (.iload 4, 2) := by decide +kernel
theorem dL_law_214 : decode cL_law 214 = .ok (.iconst 3, 1) := by decide +kernel
theorem dL_law_215 : decode cL_law 215 = .ok (.iadd, 1) := by decide +kernel
theorem dL_law_216 : decode cL_law 216 = .ok (.iaload, 1) := by decide +kernel
theorem dL_law_217 : decode cL_law 217 = .ok (.aload_n 0, 1) := by decide +kernel
theorem dL_law_218 : decode cL_law 218 = .ok (.iload 4, 2) := by decide +kernel
theorem dL_law_220 : decode cL_law 220 = .ok (.iconst 4, 1) := by decide +kernel
theorem dL_law_221 : decode cL_law 221 = .ok (.iadd, 1) := by decide +kernel
theorem dL_law_222 : decode cL_law 222 = .ok (.iaload, 1) := by decide +kernel
theorem dL_law_223 : decode cL_law 223 = .ok (.aload_n 0, 1) := by decide +kernel
theorem dL_law_224 : decode cL_law 224 = .ok (.iload 4, 2) := by decide +kernel
theorem dL_law_226 : decode cL_law 226 = .ok (.iconst 5, 1) := by decide +kernel
theorem dL_law_227 : decode cL_law 227 = .ok (.iadd, 1) := by decide +kernel
theorem dL_law_228 : decode cL_law 228 = .ok (.iaload, 1) := by decide +kernel
theorem dL_law_229 : decode cL_law 229 = .ok (.invokevirtual 89, 3) := by decide +kernel
theorem dL_law_232 : decode cL_law 232 = .ok (.if_icmp .eq 1549, 3) := by decide +kernel
theorem dL_law_235 : decode cL_law 235 = .ok (.iconst 0, 1) := by decide +kernel
theorem dL_law_236 : decode cL_law 236 = .ok (.ireturn, 1) := by decide +kernel
theorem dL_law_237 : decode cL_law 237 = .ok (.aload_n 1, 1) := by decide +kernel
theorem dL_law_238 : decode cL_law 238 = .ok (.aload_n 0, 1) := by decide +kernel
theorem dL_law_239 : decode cL_law 239 = .ok (.iload 4, 2) := by decide +kernel
theorem dL_law_241 : decode cL_law 241 = .ok (.iconst 1, 1) := by decide +kernel
theorem dL_law_242 : decode cL_law 242 = .ok (.iadd, 1) := by decide +kernel
theorem dL_law_243 : decode cL_law 243 = .ok (.iaload, 1) := by decide +kernel
theorem dL_law_244 : decode cL_law 244 = .ok (.invokevirtual 90, 3) := by decide +kernel
theorem dL_law_247 : decode cL_law 247 = .ok (.aload_n 2, 1) := by decide +kernel
theorem dL_law_248 : decode cL_law 248 = .ok (.aload_n 0, 1) := by decide +kernel
theorem dL_law_249 : decode cL_law 249 = .ok (.iload 4, 2) := by decide +kernel
theorem dL_law_251 : decode cL_law 251 = .ok (.iconst 1, 1) := by decide +kernel
theorem dL_law_252 : decode cL_law 252 = .ok (.iadd, 1) := by decide +kernel
theorem dL_law_253 : decode cL_law 253 = .ok (.iaload, 1) := by decide +kernel
theorem dL_law_254 : decode cL_law 254 = .ok (.invokevirtual 94, 3) := by decide +kernel
theorem dL_law_257 : decode cL_law 257 = .ok (.if_icmp .eq 1524, 3) := by decide +kernel
theorem dL_law_260 : decode cL_law 260 = .ok (.iconst 0, 1) := by decide +kernel
theorem dL_law_261 : decode cL_law 261 = .ok (.ireturn, 1) := by decide +kernel
theorem dL_law_262 : decode cL_law 262 = .ok (.aload_n 1, 1) := by decide +kernel
theorem dL_law_263 : decode cL_law 263 = .ok (.aload_n 0, 1) := by decide +kernel
theorem dL_law_264 : decode cL_law 264 = .ok (.iload 4, 2) := by decide +kernel
theorem dL_law_266 : decode cL_law 266 = .ok (.iconst 1, 1) := by decide +kernel
theorem dL_law_267 : decode cL_law 267 = .ok (.iadd, 1) := by decide +kernel
theorem dL_law_268 : decode cL_law 268 = .ok (.iaload, 1) := by decide +kernel
theorem dL_law_269 : decode cL_law 269 = .ok (.aload_n 0, 1) := by decide +kernel
theorem dL_law_270 : decode cL_law 270 = .ok (.iload 4, 2) := by decide +kernel
theorem dL_law_272 : decode cL_law 272 = .ok (.iconst 2, 1) := by decide +kernel
theorem dL_law_273 : decode cL_law 273 = .ok (.iadd, 1) := by decide +kernel
theorem dL_law_274 : decode cL_law 274 = .ok (.iaload, 1) := by decide +kernel
theorem dL_law_275 : decode cL_law 275 = .ok (.invokevirtual 95, 3) := by decide +kernel
theorem dL_law_278 : decode cL_law 278 = .ok (.aload_n 2, 1) := by decide +kernel
theorem dL_law_279 : decode cL_law 279 = .ok (.aload_n 0, 1) := by decide +kernel
theorem dL_law_280 : decode cL_law 280 = .ok (.iload 4, 2) := by decide +kernel
theorem dL_law_282 : decode cL_law 282 = .ok (.iconst 1, 1) := by decide +kernel
theorem dL_law_283 : decode cL_law 283 = .ok (.iadd, 1) := by decide +kernel
theorem dL_law_284 : decode cL_law 284 = .ok (.iaload, 1) := by decide +kernel
theorem dL_law_285 : decode cL_law 285 = .ok (.aload_n 0, 1) := by decide +kernel
theorem dL_law_286 : decode cL_law 286 = .ok (.iload 4, 2) := by decide +kernel
theorem dL_law_288 : decode cL_law 288 = .ok (.iconst 2, 1) := by decide +kernel
theorem dL_law_289 : decode cL_law 289 = .ok (.iadd, 1) := by decide +kernel
theorem dL_law_290 : decode cL_law 290 = .ok (.iaload, 1) := by decide +kernel
theorem dL_law_291 : decode cL_law 291 = .ok (.invokevirtual 98, 3) := by decide +kernel
theorem dL_law_294 : decode cL_law 294 = .ok (.if_icmp .eq 1487, 3) := by decide +kernel
theorem dL_law_297 : decode cL_law 297 = .ok (.iconst 0, 1) := by decide +kernel
theorem dL_law_298 : decode cL_law 298 = .ok (.ireturn, 1) := by decide +kernel
theorem dL_law_299 : decode cL_law 299 = .ok (.aload_n 1, 1) := by decide +kernel
theorem dL_law_300 : decode cL_law 300 = .ok (.aload_n 0, 1) := by decide +kernel
theorem dL_law_301 : decode cL_law 301 = .ok (.iload 4, 2) := by decide +kernel
theorem dL_law_303 : decode cL_law 303 = .ok (.iconst 1, 1) := by decide +kernel
theorem dL_law_304 : decode cL_law 304 = .ok (.iadd, 1) := by decide +kernel
theorem dL_law_305 : decode cL_law 305 = .ok (.iaload, 1) := by decide +kernel
theorem dL_law_306 : decode cL_law 306 = .ok (.aload_n 0, 1) := by decide +kernel
theorem dL_law_307 : decode cL_law 307 = .ok (.iload 4, 2) := by decide +kernel
theorem dL_law_309 : decode cL_law 309 = .ok (.iconst 2, 1) := by decide +kernel
theorem dL_law_310 : decode cL_law 310 = .ok (.iadd, 1) := by decide +kernel
theorem dL_law_311 : decode cL_law 311 = .ok (.iaload, 1) := by decide +kernel
theorem dL_law_312 : decode cL_law 312 = .ok (.aload_n 3, 1) := by decide +kernel
theorem dL_law_313 : decode cL_law 313 = .ok (.invokestatic 99, 3) := by decide +kernel
theorem dL_law_316 : decode cL_law 316 = .ok (.istore 5, 2) := by decide +kernel
theorem dL_law_318 : decode cL_law 318 = .ok (.aload_n 2, 1) := by decide +kernel
theorem dL_law_319 : decode cL_law 319 = .ok (.aload_n 0, 1) := by decide +kernel
theorem dL_law_320 : decode cL_law 320 = .ok (.iload 4, 2) := by decide +kernel
theorem dL_law_322 : decode cL_law 322 = .ok (.iconst 1, 1) := by decide +kernel
theorem dL_law_323 : decode cL_law 323 = .ok (.iadd, 1) := by decide +kernel
theorem dL_law_324 : decode cL_law 324 = .ok (.iaload, 1) := by decide +kernel
theorem dL_law_325 : decode cL_law 325 = .ok (.aload_n 0, 1) := by decide +kernel
theorem dL_law_326 : decode cL_law 326 = .ok (.iload 4, 2) := by decide +kernel
theorem dL_law_328 : decode cL_law 328 = .ok (.iconst 2, 1) := by decide +kernel
theorem dL_law_329 : decode cL_law 329 = .ok (.iadd, 1) := by decide +kernel
theorem dL_law_330 : decode cL_law 330 = .ok (.iaload, 1) := by decide +kernel
theorem dL_law_331 : decode cL_law 331 = .ok (.invokevirtual 104, 3) := by decide +kernel
theorem dL_law_334 : decode cL_law 334 = .ok (.istore 6, 2) := by decide +kernel
theorem dL_law_336 : decode cL_law 336 = .ok (.aload_n 2, 1) := by decide +kernel
theorem dL_law_337 : decode cL_law 337 = .ok (.invokevirtual 105, 3) := by decide +kernel
theorem dL_law_340 : decode cL_law 340 = .ok (.iload 5, 2) := by decide +kernel
theorem dL_law_342 : decode cL_law 342 = .ok (.if_icmp .eq 5, 3) := by decide +kernel
theorem dL_law_345 : decode cL_law 345 = .ok (.iconst 0, 1) := by decide +kernel
theorem dL_law_346 : decode cL_law 346 = .ok (.ireturn, 1) := by decide +kernel
theorem dL_law_347 : decode cL_law 347 = .ok (.iload 5, 2) := by decide +kernel
theorem dL_law_349 : decode cL_law 349 = .ok (.ifCond .ne 15, 3) := by decide +kernel
theorem dL_law_352 : decode cL_law 352 = .ok (.aload_n 3, 1) := by decide +kernel
theorem dL_law_353 : decode cL_law 353 = .ok (.iconst 0, 1) := by decide +kernel
theorem dL_law_354 : decode cL_law 354 = .ok (.laload, 1) := by decide +kernel
theorem dL_law_355 : decode cL_law 355 = .ok (.iload 6, 2) := by decide +kernel
theorem dL_law_357 : decode cL_law 357 = .ok (.i2l, 1) := by decide +kernel
theorem dL_law_358 : decode cL_law 358 = .ok (.lcmp, 1) := by decide +kernel
theorem dL_law_359 : decode cL_law 359 = .ok (.ifCond .eq 5, 3) := by decide +kernel
theorem dL_law_362 : decode cL_law 362 = .ok (.iconst 0, 1) := by decide +kernel
theorem dL_law_363 : decode cL_law 363 = .ok (.ireturn, 1) := by decide +kernel
theorem dL_law_364 : decode cL_law 364 = .ok (.goto 1417, 3) := by decide +kernel
theorem dL_law_367 : decode cL_law 367 = .ok (.aload_n 1, 1) := by decide +kernel
theorem dL_law_368 : decode cL_law 368 = .ok (.aload_n 0, 1) := by decide +kernel
theorem dL_law_369 : decode cL_law 369 = .ok (.iload 4, 2) := by decide +kernel
theorem dL_law_371 : decode cL_law 371 = .ok (.iconst 1, 1) := by decide +kernel
theorem dL_law_372 : decode cL_law 372 = .ok (.iadd, 1) := by decide +kernel
theorem dL_law_373 : decode cL_law 373 = .ok (.iaload, 1) := by decide +kernel
theorem dL_law_374 : decode cL_law 374 = .ok (.aload_n 0, 1) := by decide +kernel
theorem dL_law_375 : decode cL_law 375 = .ok (.iload 4, 2) := by decide +kernel
theorem dL_law_377 : decode cL_law 377 = .ok (.iconst 2, 1) := by decide +kernel
theorem dL_law_378 : decode cL_law 378 = .ok (.iadd, 1) := by decide +kernel
theorem dL_law_379 : decode cL_law 379 = .ok (.iaload, 1) := by decide +kernel
theorem dL_law_380 : decode cL_law 380 = .ok (.aload_n 0, 1) := by decide +kernel
theorem dL_law_381 : decode cL_law 381 = .ok (.iload 4, 2) := by decide +kernel
theorem dL_law_383 : decode cL_law 383 = .ok (.iconst 3, 1) := by decide +kernel
theorem dL_law_384 : decode cL_law 384 = .ok (.iadd, 1) := by decide +kernel
theorem dL_law_385 : decode cL_law 385 = .ok (.iaload, 1) := by decide +kernel
theorem dL_law_386 : decode cL_law 386 = .ok (.ifCond .eq 7, 3) := by decide +kernel
theorem dL_law_389 : decode cL_law 389 = .ok (.iconst 1, 1) := by decide +kernel
theorem dL_law_390 : decode cL_law 390 = .ok (.goto 4, 3) := by decide +kernel
theorem dL_law_393 : decode cL_law 393 = .ok (.iconst 0, 1) := by decide +kernel
theorem dL_law_394 : decode cL_law 394 = .ok (.aload_n 3, 1) := by decide +kernel
theorem dL_law_395 : decode cL_law 395 = .ok (.invokestatic 109, 3) := by decide +kernel
theorem dL_law_398 : decode cL_law 398 = .ok (.istore 5, 2) := by decide +kernel
theorem dL_law_400 : decode cL_law 400 = .ok (.aload_n 2, 1) := by decide +kernel
theorem dL_law_401 : decode cL_law 401 = .ok (.aload_n 0, 1) := by decide +kernel
theorem dL_law_402 : decode cL_law 402 = .ok (.iload 4, 2) := by decide +kernel
theorem dL_law_404 : decode cL_law 404 = .ok (.iconst 1, 1) := by decide +kernel
theorem dL_law_405 : decode cL_law 405 = .ok (.iadd, 1) := by decide +kernel
theorem dL_law_406 : decode cL_law 406 = .ok (.iaload, 1) := by decide +kernel
theorem dL_law_407 : decode cL_law 407 = .ok (.aload_n 0, 1) := by decide +kernel
theorem dL_law_408 : decode cL_law 408 = .ok (.iload 4, 2) := by decide +kernel
theorem dL_law_410 : decode cL_law 410 = .ok (.iconst 2, 1) := by decide +kernel
theorem dL_law_411 : decode cL_law 411 = .ok (.iadd, 1) := by decide +kernel
theorem dL_law_412 : decode cL_law 412 = .ok (.iaload, 1) := by decide +kernel
theorem dL_law_413 : decode cL_law 413 = .ok (.aload_n 0, 1) := by decide +kernel
theorem dL_law_414 : decode cL_law 414 = .ok (.iload 4, 2) := by decide +kernel
theorem dL_law_416 : decode cL_law 416 = .ok (.iconst 3, 1) := by decide +kernel
theorem dL_law_417 : decode cL_law 417 = .ok (.iadd, 1) := by decide +kernel
theorem dL_law_418 : decode cL_law 418 = .ok (.iaload, 1) := by decide +kernel
theorem dL_law_419 : decode cL_law 419 = .ok (.ifCond .eq 7, 3) := by decide +kernel
theorem dL_law_422 : decode cL_law 422 = .ok (.iconst 1, 1) := by decide +kernel
theorem dL_law_423 : decode cL_law 423 = .ok (.goto 4, 3) := by decide +kernel
theorem dL_law_426 : decode cL_law 426 = .ok (.iconst 0, 1) := by decide +kernel
theorem dL_law_427 : decode cL_law 427 = .ok (.invokevirtual 112, 3) := by decide +kernel
theorem dL_law_430 : decode cL_law 430 = .ok (.istore 6, 2) := by decide +kernel
theorem dL_law_432 : decode cL_law 432 = .ok (.aload_n 2, 1) := by decide +kernel
theorem dL_law_433 : decode cL_law 433 = .ok (.invokevirtual 105, 3) := by decide +kernel
theorem dL_law_436 : decode cL_law 436 = .ok (.iload 5, 2) := by decide +kernel
theorem dL_law_438 : decode cL_law 438 = .ok (.if_icmp .eq 5, 3) := by decide +kernel
theorem dL_law_441 : decode cL_law 441 = .ok (.iconst 0, 1) := by decide +kernel
theorem dL_law_442 : decode cL_law 442 = .ok (.ireturn, 1) := by decide +kernel
theorem dL_law_443 : decode cL_law 443 = .ok (.iload 5, 2) := by decide +kernel
theorem dL_law_445 : decode cL_law 445 = .ok (.ifCond .ne 22, 3) := by decide +kernel
theorem dL_law_448 : decode cL_law 448 = .ok (.aload_n 3, 1) := by decide +kernel
theorem dL_law_449 : decode cL_law 449 = .ok (.iconst 0, 1) := by decide +kernel
theorem dL_law_450 : decode cL_law 450 = .ok (.laload, 1) := by decide +kernel
theorem dL_law_451 : decode cL_law 451 = .ok (.iload 6, 2) := by decide +kernel
theorem dL_law_453 : decode cL_law 453 = .ok (.ifCond .eq 7, 3) := by decide +kernel
theorem dL_law_456 : decode cL_law 456 = .ok (.lconst 1, 1) := by decide +kernel
theorem dL_law_457 : decode cL_law 457 = .ok (.goto 4, 3) := by decide +kernel
theorem dL_law_460 : decode cL_law 460 = .ok (.lconst 0, 1) := by decide +kernel
theorem dL_law_461 : decode cL_law 461 = .ok (.lcmp, 1) := by decide +kernel
theorem dL_law_462 : decode cL_law 462 = .ok (.ifCond .eq 5, 3) := by decide +kernel
theorem dL_law_465 : decode cL_law 465 = .ok (.iconst 0, 1) := by decide +kernel
theorem dL_law_466 : decode cL_law 466 = .ok (.ireturn, 1) := by decide +kernel
theorem dL_law_467 : decode cL_law 467 = .ok (.goto 1314, 3) := by decide +kernel
theorem dL_law_470 : decode cL_law 470 = .ok (.aload_n 1, 1) := by decide +kernel
theorem dL_law_471 : decode cL_law 471 = .ok (.aload_n 0, 1) := by decide +kernel
theorem dL_law_472 : decode cL_law 472 = .ok (.iload 4, 2) := by decide +kernel
theorem dL_law_474 : decode cL_law 474 = .ok (.iconst 1, 1) := by decide +kernel
theorem dL_law_475 : decode cL_law 475 = .ok (.iadd, 1) := by decide +kernel
theorem dL_law_476 : decode cL_law 476 = .ok (.iaload, 1) := by decide +kernel
theorem dL_law_477 : decode cL_law 477 = .ok (.aload_n 0, 1) := by decide +kernel
theorem dL_law_478 : decode cL_law 478 = .ok (.iload 4, 2) := by decide +kernel
theorem dL_law_480 : decode cL_law 480 = .ok (.iconst 2, 1) := by decide +kernel
theorem dL_law_481 : decode cL_law 481 = .ok (.iadd, 1) := by decide +kernel
theorem dL_law_482 : decode cL_law 482 = .ok (.iaload, 1) := by decide +kernel
theorem dL_law_483 : decode cL_law 483 = .ok (.aload_n 3, 1) := by decide +kernel
theorem dL_law_484 : decode cL_law 484 = .ok (.invokestatic 113, 3) := by decide +kernel
theorem dL_law_487 : decode cL_law 487 = .ok (.istore 5, 2) := by decide +kernel
theorem dL_law_489 : decode cL_law 489 = .ok (.aload_n 2, 1) := by decide +kernel
theorem dL_law_490 : decode cL_law 490 = .ok (.aload_n 0, 1) := by decide +kernel
theorem dL_law_491 : decode cL_law 491 = .ok (.iload 4, 2) := by decide +kernel
theorem dL_law_493 : decode cL_law 493 = .ok (.iconst 1, 1) := by decide +kernel
theorem dL_law_494 : decode cL_law 494 = .ok (.iadd, 1) := by decide +kernel
theorem dL_law_495 : decode cL_law 495 = .ok (.iaload, 1) := by decide +kernel
theorem dL_law_496 : decode cL_law 496 = .ok (.aload_n 0, 1) := by decide +kernel
theorem dL_law_497 : decode cL_law 497 = .ok (.iload 4, 2) := by decide +kernel
theorem dL_law_499 : decode cL_law 499 = .ok (.iconst 2, 1) := by decide +kernel
theorem dL_law_500 : decode cL_law 500 = .ok (.iadd, 1) := by decide +kernel
theorem dL_law_501 : decode cL_law 501 = .ok (.iaload, 1) := by decide +kernel
theorem dL_law_502 : decode cL_law 502 = .ok (.invokevirtual 115, 3) := by decide +kernel
theorem dL_law_505 : decode cL_law 505 = .ok (.istore 6, 2) := by decide +kernel
theorem dL_law_507 : decode cL_law 507 = .ok (.aload_n 2, 1) := by decide +kernel
theorem dL_law_508 : decode cL_law 508 = .ok (.invokevirtual 105, 3) := by decide +kernel
theorem dL_law_511 : decode cL_law 511 = .ok (.iload 5, 2) := by decide +kernel
theorem dL_law_513 : decode cL_law 513 = .ok (.if_icmp .eq 5, 3) := by decide +kernel
theorem dL_law_516 : decode cL_law 516 = .ok (.iconst 0, 1) := by decide +kernel
theorem dL_law_517 : decode cL_law 517 = .ok (.ireturn, 1) := by decide +kernel
theorem dL_law_518 : decode cL_law 518 = .ok (.iload 5, 2) := by decide +kernel
theorem dL_law_520 : decode cL_law 520 = .ok (.ifCond .ne 22, 3) := by decide +kernel
theorem dL_law_523 : decode cL_law 523 = .ok (.aload_n 3, 1) := by decide +kernel
theorem dL_law_524 : decode cL_law 524 = .ok (.iconst 0, 1) := by decide +kernel
theorem dL_law_525 : decode cL_law 525 = .ok (.laload, 1) := by decide +kernel
theorem dL_law_526 : decode cL_law 526 = .ok (.iload 6, 2) := by decide +kernel
theorem dL_law_528 : decode cL_law 528 = .ok (.ifCond .eq 7, 3) := by decide +kernel
theorem dL_law_531 : decode cL_law 531 = .ok (.lconst 1, 1) := by decide +kernel
theorem dL_law_532 : decode cL_law 532 = .ok (.goto 4, 3) := by decide +kernel
theorem dL_law_535 : decode cL_law 535 = .ok (.lconst 0, 1) := by decide +kernel
theorem dL_law_536 : decode cL_law 536 = .ok (.lcmp, 1) := by decide +kernel
theorem dL_law_537 : decode cL_law 537 = .ok (.ifCond .eq 5, 3) := by decide +kernel
theorem dL_law_540 : decode cL_law 540 = .ok (.iconst 0, 1) := by decide +kernel
theorem dL_law_541 : decode cL_law 541 = .ok (.ireturn, 1) := by decide +kernel
theorem dL_law_542 : decode cL_law 542 = .ok (.goto 1239, 3) := by decide +kernel
theorem dL_law_545 : decode cL_law 545 = .ok (.aload_n 1, 1) := by decide +kernel
theorem dL_law_546 : decode cL_law 546 = .ok (.aload_n 0, 1) := by decide +kernel
theorem dL_law_547 : decode cL_law 547 = .ok (.iload 4, 2) := by decide +kernel
theorem dL_law_549 : decode cL_law 549 = .ok (.iconst 1, 1) := by decide +kernel
theorem dL_law_550 : decode cL_law 550 = .ok (.iadd, 1) := by decide +kernel
theorem dL_law_551 : decode cL_law 551 = .ok (.iaload, 1) := by decide +kernel
theorem dL_law_552 : decode cL_law 552 = .ok (.aload_n 3, 1) := by decide +kernel
theorem dL_law_553 : decode cL_law 553 = .ok (.invokestatic 116, 3) := by decide +kernel
theorem dL_law_556 : decode cL_law 556 = .ok (.istore 5, 2) := by decide +kernel
theorem dL_law_558 : decode cL_law 558 = .ok (.aload_n 2, 1) := by decide +kernel
theorem dL_law_559 : decode cL_law 559 = .ok (.aload_n 0, 1) := by decide +kernel
theorem dL_law_560 : decode cL_law 560 = .ok (.iload 4, 2) := by decide +kernel
theorem dL_law_562 : decode cL_law 562 = .ok (.iconst 1, 1) := by decide +kernel
theorem dL_law_563 : decode cL_law 563 = .ok (.iadd, 1) := by decide +kernel
theorem dL_law_564 : decode cL_law 564 = .ok (.iaload, 1) := by decide +kernel
theorem dL_law_565 : decode cL_law 565 = .ok (.invokevirtual 119, 3) := by decide +kernel
theorem dL_law_568 : decode cL_law 568 = .ok (.istore 6, 2) := by decide +kernel
theorem dL_law_570 : decode cL_law 570 = .ok (.aload_n 2, 1) := by decide +kernel
theorem dL_law_571 : decode cL_law 571 = .ok (.invokevirtual 105, 3) := by decide +kernel
theorem dL_law_574 : decode cL_law 574 = .ok (.iload 5, 2) := by decide +kernel
theorem dL_law_576 : decode cL_law 576 = .ok (.if_icmp .eq 5, 3) := by decide +kernel
theorem dL_law_579 : decode cL_law 579 = .ok (.iconst 0, 1) := by decide +kernel
theorem dL_law_580 : decode cL_law 580 = .ok (.ireturn, 1) := by decide +kernel
theorem dL_law_581 : decode cL_law 581 = .ok (.iload 5, 2) := by decide +kernel
theorem dL_law_583 : decode cL_law 583 = .ok (.ifCond .ne 15, 3) := by decide +kernel
theorem dL_law_586 : decode cL_law 586 = .ok (.aload_n 3, 1) := by decide +kernel
theorem dL_law_587 : decode cL_law 587 = .ok (.iconst 0, 1) := by decide +kernel
theorem dL_law_588 : decode cL_law 588 = .ok (.laload, 1) := by decide +kernel
theorem dL_law_589 : decode cL_law 589 = .ok (.iload 6, 2) := by decide +kernel
theorem dL_law_591 : decode cL_law 591 = .ok (.i2l, 1) := by decide +kernel
theorem dL_law_592 : decode cL_law 592 = .ok (.lcmp, 1) := by decide +kernel
theorem dL_law_593 : decode cL_law 593 = .ok (.ifCond .eq 5, 3) := by decide +kernel
theorem dL_law_596 : decode cL_law 596 = .ok (.iconst 0, 1) := by decide +kernel
theorem dL_law_597 : decode cL_law 597 = .ok (.ireturn, 1) := by decide +kernel
theorem dL_law_598 : decode cL_law 598 = .ok (.goto 1183, 3) := by decide +kernel
theorem dL_law_601 : decode cL_law 601 = .ok (.aload_n 1, 1) := by decide +kernel
theorem dL_law_602 : decode cL_law 602 = .ok (.aload_n 0, 1) := by decide +kernel
theorem dL_law_603 : decode cL_law 603 = .ok (.iload 4, 2) := by decide +kernel
theorem dL_law_605 : decode cL_law 605 = .ok (.iconst 1, 1) := by decide +kernel
theorem dL_law_606 : decode cL_law 606 = .ok (.iadd, 1) := by decide +kernel
theorem dL_law_607 : decode cL_law 607 = .ok (.iaload, 1) := by decide +kernel
theorem dL_law_608 : decode cL_law 608 = .ok (.aload_n 0, 1) := by decide +kernel
theorem dL_law_609 : decode cL_law 609 = .ok (.iload 4, 2) := by decide +kernel
theorem dL_law_611 : decode cL_law 611 = .ok (.iconst 2, 1) := by decide +kernel
theorem dL_law_612 : decode cL_law 612 = .ok (.iadd, 1) := by decide +kernel
theorem dL_law_613 : decode cL_law 613 = .ok (.iaload, 1) := by decide +kernel
theorem dL_law_614 : decode cL_law 614 = .ok (.aload_n 3, 1) := by decide +kernel
theorem dL_law_615 : decode cL_law 615 = .ok (.invokestatic 120, 3) := by decide +kernel
theorem dL_law_618 : decode cL_law 618 = .ok (.istore 5, 2) := by decide +kernel
theorem dL_law_620 : decode cL_law 620 = .ok (.aload_n 2, 1) := by decide +kernel
theorem dL_law_621 : decode cL_law 621 = .ok (.aload_n 0, 1) := by decide +kernel
theorem dL_law_622 : decode cL_law 622 = .ok (.iload 4, 2) := by decide +kernel
theorem dL_law_624 : decode cL_law 624 = .ok (.iconst 1, 1) := by decide +kernel
theorem dL_law_625 : decode cL_law 625 = .ok (.iadd, 1) := by decide +kernel
theorem dL_law_626 : decode cL_law 626 = .ok (.iaload, 1) := by decide +kernel
theorem dL_law_627 : decode cL_law 627 = .ok (.aload_n 0, 1) := by decide +kernel
theorem dL_law_628 : decode cL_law 628 = .ok (.iload 4, 2) := by decide +kernel
theorem dL_law_630 : decode cL_law 630 = .ok (.iconst 2, 1) := by decide +kernel
theorem dL_law_631 : decode cL_law 631 = .ok (.iadd, 1) := by decide +kernel
theorem dL_law_632 : decode cL_law 632 = .ok (.iaload, 1) := by decide +kernel
theorem dL_law_633 : decode cL_law 633 = .ok (.invokevirtual 122, 3) := by decide +kernel
theorem dL_law_636 : decode cL_law 636 = .ok (.istore 6, 2) := by decide +kernel
theorem dL_law_638 : decode cL_law 638 = .ok (.aload_n 2, 1) := by decide +kernel
theorem dL_law_639 : decode cL_law 639 = .ok (.invokevirtual 105, 3) := by decide +kernel
theorem dL_law_642 : decode cL_law 642 = .ok (.iload 5, 2) := by decide +kernel
theorem dL_law_644 : decode cL_law 644 = .ok (.if_icmp .eq 5, 3) := by decide +kernel
theorem dL_law_647 : decode cL_law 647 = .ok (.iconst 0, 1) := by decide +kernel
theorem dL_law_648 : decode cL_law 648 = .ok (.ireturn, 1) := by decide +kernel
theorem dL_law_649 : decode cL_law 649 = .ok (.iload 5, 2) := by decide +kernel
theorem dL_law_651 : decode cL_law 651 = .ok (.ifCond .ne 15, 3) := by decide +kernel
theorem dL_law_654 : decode cL_law 654 = .ok (.aload_n 3, 1) := by decide +kernel
theorem dL_law_655 : decode cL_law 655 = .ok (.iconst 0, 1) := by decide +kernel
theorem dL_law_656 : decode cL_law 656 = .ok (.laload, 1) := by decide +kernel
theorem dL_law_657 : decode cL_law 657 = .ok (.iload 6, 2) := by decide +kernel
theorem dL_law_659 : decode cL_law 659 = .ok (.i2l, 1) := by decide +kernel
theorem dL_law_660 : decode cL_law 660 = .ok (.lcmp, 1) := by decide +kernel
theorem dL_law_661 : decode cL_law 661 = .ok (.ifCond .eq 5, 3) := by decide +kernel
theorem dL_law_664 : decode cL_law 664 = .ok (.iconst 0, 1) := by decide +kernel
theorem dL_law_665 : decode cL_law 665 = .ok (.ireturn, 1) := by decide +kernel
theorem dL_law_666 : decode cL_law 666 = .ok (.goto 1115, 3) := by decide +kernel
theorem dL_law_669 : decode cL_law 669 = .ok (.aload_n 1, 1) := by decide +kernel
theorem dL_law_670 : decode cL_law 670 = .ok (.aload_n 0, 1) := by decide +kernel
theorem dL_law_671 : decode cL_law 671 = .ok (.iload 4, 2) := by decide +kernel
theorem dL_law_673 : decode cL_law 673 = .ok (.iconst 1, 1) := by decide +kernel
theorem dL_law_674 : decode cL_law 674 = .ok (.iadd, 1) := by decide +kernel
theorem dL_law_675 : decode cL_law 675 = .ok (.iaload, 1) := by decide +kernel
theorem dL_law_676 : decode cL_law 676 = .ok (.aload_n 0, 1) := by decide +kernel
theorem dL_law_677 : decode cL_law 677 = .ok (.iload 4, 2) := by decide +kernel
theorem dL_law_679 : decode cL_law 679 = .ok (.iconst 2, 1) := by decide +kernel
theorem dL_law_680 : decode cL_law 680 = .ok (.iadd, 1) := by decide +kernel
theorem dL_law_681 : decode cL_law 681 = .ok (.iaload, 1) := by decide +kernel
theorem dL_law_682 : decode cL_law 682 = .ok (.aload_n 0, 1) := by decide +kernel
theorem dL_law_683 : decode cL_law 683 = .ok (.iload 4, 2) := by decide +kernel
theorem dL_law_685 : decode cL_law 685 = .ok (.iconst 3, 1) := by decide +kernel
theorem dL_law_686 : decode cL_law 686 = .ok (.iadd, 1) := by decide +kernel
theorem dL_law_687 : decode cL_law 687 = .ok (.iaload, 1) := by decide +kernel
theorem dL_law_688 : decode cL_law 688 = .ok (.aload_n 0, 1) := by decide +kernel
theorem dL_law_689 : decode cL_law 689 = .ok (.iload 4, 2) := by decide +kernel
theorem dL_law_691 : decode cL_law 691 = .ok (.iconst 4, 1) := by decide +kernel
theorem dL_law_692 : decode cL_law 692 = .ok (.iadd, 1) := by decide +kernel
theorem dL_law_693 : decode cL_law 693 = .ok (.iaload, 1) := by decide +kernel
theorem dL_law_694 : decode cL_law 694 = .ok (.aload_n 0, 1) := by decide +kernel
theorem dL_law_695 : decode cL_law 695 = .ok (.iload 4, 2) := by decide +kernel
theorem dL_law_697 : decode cL_law 697 = .ok (.iconst 5, 1) := by decide +kernel
theorem dL_law_698 : decode cL_law 698 = .ok (.iadd, 1) := by decide +kernel
theorem dL_law_699 : decode cL_law 699 = .ok (.iaload, 1) := by decide +kernel
theorem dL_law_700 : decode cL_law 700 = .ok (.ifCond .eq 7, 3) := by decide +kernel
theorem dL_law_703 : decode cL_law 703 = .ok (.iconst 1, 1) := by decide +kernel
theorem dL_law_704 : decode cL_law 704 = .ok (.goto 4, 3) := by decide +kernel
theorem dL_law_707 : decode cL_law 707 = .ok (.iconst 0, 1) := by decide +kernel
theorem dL_law_708 : decode cL_law 708 = .ok (.invokevirtual 123, 3) := by decide +kernel
theorem dL_law_711 : decode cL_law 711 = .ok (.aload_n 2, 1) := by decide +kernel
theorem dL_law_712 : decode cL_law 712 = .ok (.aload_n 0, 1) := by decide +kernel
theorem dL_law_713 : decode cL_law 713 = .ok (.iload 4, 2) := by decide +kernel
theorem dL_law_715 : decode cL_law 715 = .ok (.iconst 1, 1) := by decide +kernel
theorem dL_law_716 : decode cL_law 716 = .ok (.iadd, 1) := by decide +kernel
theorem dL_law_717 : decode cL_law 717 = .ok (.iaload, 1) := by decide +kernel
theorem dL_law_718 : decode cL_law 718 = .ok (.aload_n 0, 1) := by decide +kernel
theorem dL_law_719 : decode cL_law 719 = .ok (.iload 4, 2) := by decide +kernel
theorem dL_law_721 : decode cL_law 721 = .ok (.iconst 2, 1) := by decide +kernel
theorem dL_law_722 : decode cL_law 722 = .ok (.iadd, 1) := by decide +kernel
theorem dL_law_723 : decode cL_law 723 = .ok (.iaload, 1) := by decide +kernel
theorem dL_law_724 : decode cL_law 724 = .ok (.aload_n 0, 1) := by decide +kernel
theorem dL_law_725 : decode cL_law 725 = .ok (.iload 4, 2) := by decide +kernel
theorem dL_law_727 : decode cL_law 727 = .ok (.iconst 3, 1) := by decide +kernel
theorem dL_law_728 : decode cL_law 728 = .ok (.iadd, 1) := by decide +kernel
theorem dL_law_729 : decode cL_law 729 = .ok (.iaload, 1) := by decide +kernel
theorem dL_law_730 : decode cL_law 730 = .ok (.aload_n 0, 1) := by decide +kernel
theorem dL_law_731 : decode cL_law 731 = .ok (.iload 4, 2) := by decide +kernel
theorem dL_law_733 : decode cL_law 733 = .ok (.iconst 4, 1) := by decide +kernel
theorem dL_law_734 : decode cL_law 734 = .ok (.iadd, 1) := by decide +kernel
theorem dL_law_735 : decode cL_law 735 = .ok (.iaload, 1) := by decide +kernel
theorem dL_law_736 : decode cL_law 736 = .ok (.aload_n 0, 1) := by decide +kernel
theorem dL_law_737 : decode cL_law 737 = .ok (.iload 4, 2) := by decide +kernel
theorem dL_law_739 : decode cL_law 739 = .ok (.iconst 5, 1) := by decide +kernel
theorem dL_law_740 : decode cL_law 740 = .ok (.iadd, 1) := by decide +kernel
theorem dL_law_741 : decode cL_law 741 = .ok (.iaload, 1) := by decide +kernel
theorem dL_law_742 : decode cL_law 742 = .ok (.ifCond .eq 7, 3) := by decide +kernel
theorem dL_law_745 : decode cL_law 745 = .ok (.iconst 1, 1) := by decide +kernel
theorem dL_law_746 : decode cL_law 746 = .ok (.goto 4, 3) := by decide +kernel
theorem dL_law_749 : decode cL_law 749 = .ok (.iconst 0, 1) := by decide +kernel
theorem dL_law_750 : decode cL_law 750 = .ok (.invokevirtual 127, 3) := by decide +kernel
theorem dL_law_753 : decode cL_law 753 = .ok (.if_icmp .eq 1028, 3) := by decide +kernel
theorem dL_law_756 : decode cL_law 756 = .ok (.iconst 0, 1) := by decide +kernel
theorem dL_law_757 : decode cL_law 757 = .ok (.ireturn, 1) := by decide +kernel
theorem dL_law_758 : decode cL_law 758 = .ok (.aload_n 1, 1) := by decide +kernel
theorem dL_law_759 : decode cL_law 759 = .ok (.invokevirtual 128, 3) := by decide +kernel
theorem dL_law_762 : decode cL_law 762 = .ok (.aload_n 2, 1) := by decide +kernel
theorem dL_law_763 : decode cL_law 763 = .ok (.invokevirtual 131, 3) := by decide +kernel
theorem dL_law_766 : decode cL_law 766 = .ok (.if_icmp .eq 1015, 3) := by decide +kernel
theorem dL_law_769 : decode cL_law 769 = .ok (.iconst 0, 1) := by decide +kernel
theorem dL_law_770 : decode cL_law 770 = .ok (.ireturn, 1) := by decide +kernel
theorem dL_law_771 : decode cL_law 771 = .ok (.aload_n 1, 1) := by decide +kernel
theorem dL_law_772 : decode cL_law 772 = .ok (.aload_n 0, 1) := by decide +kernel
theorem dL_law_773 : decode cL_law 773 = .ok (.iload 4, 2) := by decide +kernel
theorem dL_law_775 : decode cL_law 775 = .ok (.iconst 1, 1) := by decide +kernel
theorem dL_law_776 : decode cL_law 776 = .ok (.iadd, 1) := by decide +kernel
theorem dL_law_777 : decode cL_law 777 = .ok (.iaload, 1) := by decide +kernel
theorem dL_law_778 : decode cL_law 778 = .ok (.aload_n 3, 1) := by decide +kernel
theorem dL_law_779 : decode cL_law 779 = .ok (.invokestatic 132, 3) := by decide +kernel
theorem dL_law_782 : decode cL_law 782 = .ok (.istore 5, 2) := by decide +kernel
theorem dL_law_784 : decode cL_law 784 = .ok (.aload_n 2, 1) := by decide +kernel
theorem dL_law_785 : decode cL_law 785 = .ok (.aload_n 0, 1) := by decide +kernel
theorem dL_law_786 : decode cL_law 786 = .ok (.iload 4, 2) := by decide +kernel
theorem dL_law_788 : decode cL_law 788 = .ok (.iconst 1, 1) := by decide +kernel
theorem dL_law_789 : decode cL_law 789 = .ok (.iadd, 1) := by decide +kernel
theorem dL_law_790 : decode cL_law 790 = .ok (.iaload, 1) := by decide +kernel
theorem dL_law_791 : decode cL_law 791 = .ok (.invokevirtual 134, 3) := by decide +kernel
theorem dL_law_794 : decode cL_law 794 = .ok (.istore 6, 2) := by decide +kernel
theorem dL_law_796 : decode cL_law 796 = .ok (.aload_n 2, 1) := by decide +kernel
theorem dL_law_797 : decode cL_law 797 = .ok (.invokevirtual 105, 3) := by decide +kernel
theorem dL_law_800 : decode cL_law 800 = .ok (.iload 5, 2) := by decide +kernel
theorem dL_law_802 : decode cL_law 802 = .ok (.if_icmp .eq 5, 3) := by decide +kernel
theorem dL_law_805 : decode cL_law 805 = .ok (.iconst 0, 1) := by decide +kernel
theorem dL_law_806 : decode cL_law 806 = .ok (.ireturn, 1) := by decide +kernel
theorem dL_law_807 : decode cL_law 807 = .ok (.iload 5, 2) := by decide +kernel
theorem dL_law_809 : decode cL_law 809 = .ok (.ifCond .ne 15, 3) := by decide +kernel
theorem dL_law_812 : decode cL_law 812 = .ok (.aload_n 3, 1) := by decide +kernel
theorem dL_law_813 : decode cL_law 813 = .ok (.iconst 0, 1) := by decide +kernel
theorem dL_law_814 : decode cL_law 814 = .ok (.laload, 1) := by decide +kernel
theorem dL_law_815 : decode cL_law 815 = .ok (.iload 6, 2) := by decide +kernel
theorem dL_law_817 : decode cL_law 817 = .ok (.i2l, 1) := by decide +kernel
theorem dL_law_818 : decode cL_law 818 = .ok (.lcmp, 1) := by decide +kernel
theorem dL_law_819 : decode cL_law 819 = .ok (.ifCond .eq 5, 3) := by decide +kernel
theorem dL_law_822 : decode cL_law 822 = .ok (.iconst 0, 1) := by decide +kernel
theorem dL_law_823 : decode cL_law 823 = .ok (.ireturn, 1) := by decide +kernel
theorem dL_law_824 : decode cL_law 824 = .ok (.goto 957, 3) := by decide +kernel
theorem dL_law_827 : decode cL_law 827 = .ok (.aload_n 1, 1) := by decide +kernel
theorem dL_law_828 : decode cL_law 828 = .ok (.aload_n 0, 1) := by decide +kernel
theorem dL_law_829 : decode cL_law 829 = .ok (.iload 4, 2) := by decide +kernel
theorem dL_law_831 : decode cL_law 831 = .ok (.iconst 1, 1) := by decide +kernel
theorem dL_law_832 : decode cL_law 832 = .ok (.iadd, 1) := by decide +kernel
theorem dL_law_833 : decode cL_law 833 = .ok (.iaload, 1) := by decide +kernel
theorem dL_law_834 : decode cL_law 834 = .ok (.aload_n 3, 1) := by decide +kernel
theorem dL_law_835 : decode cL_law 835 = .ok (.invokestatic 135, 3) := by decide +kernel
theorem dL_law_838 : decode cL_law 838 = .ok (.istore 5, 2) := by decide +kernel
theorem dL_law_840 : decode cL_law 840 = .ok (.aload_n 2, 1) := by decide +kernel
theorem dL_law_841 : decode cL_law 841 = .ok (.aload_n 0, 1) := by decide +kernel
theorem dL_law_842 : decode cL_law 842 = .ok (.iload 4, 2) := by decide +kernel
theorem dL_law_844 : decode cL_law 844 = .ok (.iconst 1, 1) := by decide +kernel
theorem dL_law_845 : decode cL_law 845 = .ok (.iadd, 1) := by decide +kernel
theorem dL_law_846 : decode cL_law 846 = .ok (.iaload, 1) := by decide +kernel
theorem dL_law_847 : decode cL_law 847 = .ok (.invokevirtual 137, 3) := by decide +kernel
theorem dL_law_850 : decode cL_law 850 = .ok (.istore 6, 2) := by decide +kernel
theorem dL_law_852 : decode cL_law 852 = .ok (.aload_n 2, 1) := by decide +kernel
theorem dL_law_853 : decode cL_law 853 = .ok (.invokevirtual 105, 3) := by decide +kernel
theorem dL_law_856 : decode cL_law 856 = .ok (.iload 5, 2) := by decide +kernel
theorem dL_law_858 : decode cL_law 858 = .ok (.if_icmp .eq 5, 3) := by decide +kernel
theorem dL_law_861 : decode cL_law 861 = .ok (.iconst 0, 1) := by decide +kernel
theorem dL_law_862 : decode cL_law 862 = .ok (.ireturn, 1) := by decide +kernel
theorem dL_law_863 : decode cL_law 863 = .ok (.iload 5, 2) := by decide +kernel
theorem dL_law_865 : decode cL_law 865 = .ok (.ifCond .ne 15, 3) := by decide +kernel
theorem dL_law_868 : decode cL_law 868 = .ok (.aload_n 3, 1) := by decide +kernel
theorem dL_law_869 : decode cL_law 869 = .ok (.iconst 0, 1) := by decide +kernel
theorem dL_law_870 : decode cL_law 870 = .ok (.laload, 1) := by decide +kernel
theorem dL_law_871 : decode cL_law 871 = .ok (.iload 6, 2) := by decide +kernel
theorem dL_law_873 : decode cL_law 873 = .ok (.i2l, 1) := by decide +kernel
theorem dL_law_874 : decode cL_law 874 = .ok (.lcmp, 1) := by decide +kernel
theorem dL_law_875 : decode cL_law 875 = .ok (.ifCond .eq 5, 3) := by decide +kernel
theorem dL_law_878 : decode cL_law 878 = .ok (.iconst 0, 1) := by decide +kernel
theorem dL_law_879 : decode cL_law 879 = .ok (.ireturn, 1) := by decide +kernel
theorem dL_law_880 : decode cL_law 880 = .ok (.goto 901, 3) := by decide +kernel
theorem dL_law_883 : decode cL_law 883 = .ok (.aload_n 1, 1) := by decide +kernel
theorem dL_law_884 : decode cL_law 884 = .ok (.aload_n 0, 1) := by decide +kernel
theorem dL_law_885 : decode cL_law 885 = .ok (.iload 4, 2) := by decide +kernel
theorem dL_law_887 : decode cL_law 887 = .ok (.iconst 1, 1) := by decide +kernel
theorem dL_law_888 : decode cL_law 888 = .ok (.iadd, 1) := by decide +kernel
theorem dL_law_889 : decode cL_law 889 = .ok (.iaload, 1) := by decide +kernel
theorem dL_law_890 : decode cL_law 890 = .ok (.aload_n 3, 1) := by decide +kernel
theorem dL_law_891 : decode cL_law 891 = .ok (.invokestatic 138, 3) := by decide +kernel
theorem dL_law_894 : decode cL_law 894 = .ok (.istore 5, 2) := by decide +kernel
theorem dL_law_896 : decode cL_law 896 = .ok (.aload_n 2, 1) := by decide +kernel
theorem dL_law_897 : decode cL_law 897 = .ok (.aload_n 0, 1) := by decide +kernel
theorem dL_law_898 : decode cL_law 898 = .ok (.iload 4, 2) := by decide +kernel
theorem dL_law_900 : decode cL_law 900 = .ok (.iconst 1, 1) := by decide +kernel
theorem dL_law_901 : decode cL_law 901 = .ok (.iadd, 1) := by decide +kernel
theorem dL_law_902 : decode cL_law 902 = .ok (.iaload, 1) := by decide +kernel
theorem dL_law_903 : decode cL_law 903 = .ok (.invokevirtual 140, 3) := by decide +kernel
theorem dL_law_906 : decode cL_law 906 = .ok (.istore 6, 2) := by decide +kernel
theorem dL_law_908 : decode cL_law 908 = .ok (.aload_n 2, 1) := by decide +kernel
theorem dL_law_909 : decode cL_law 909 = .ok (.invokevirtual 105, 3) := by decide +kernel
theorem dL_law_912 : decode cL_law 912 = .ok (.iload 5, 2) := by decide +kernel
theorem dL_law_914 : decode cL_law 914 = .ok (.if_icmp .eq 5, 3) := by decide +kernel
theorem dL_law_917 : decode cL_law 917 = .ok (.iconst 0, 1) := by decide +kernel
theorem dL_law_918 : decode cL_law 918 = .ok (.ireturn, 1) := by decide +kernel
theorem dL_law_919 : decode cL_law 919 = .ok (.iload 5, 2) := by decide +kernel
theorem dL_law_921 : decode cL_law 921 = .ok (.ifCond .ne 15, 3) := by decide +kernel
theorem dL_law_924 : decode cL_law 924 = .ok (.aload_n 3, 1) := by decide +kernel
theorem dL_law_925 : decode cL_law 925 = .ok (.iconst 0, 1) := by decide +kernel
theorem dL_law_926 : decode cL_law 926 = .ok (.laload, 1) := by decide +kernel
theorem dL_law_927 : decode cL_law 927 = .ok (.iload 6, 2) := by decide +kernel
theorem dL_law_929 : decode cL_law 929 = .ok (.i2l, 1) := by decide +kernel
theorem dL_law_930 : decode cL_law 930 = .ok (.lcmp, 1) := by decide +kernel
theorem dL_law_931 : decode cL_law 931 = .ok (.ifCond .eq 5, 3) := by decide +kernel
theorem dL_law_934 : decode cL_law 934 = .ok (.iconst 0, 1) := by decide +kernel
theorem dL_law_935 : decode cL_law 935 = .ok (.ireturn, 1) := by decide +kernel
theorem dL_law_936 : decode cL_law 936 = .ok (.goto 845, 3) := by decide +kernel
theorem dL_law_939 : decode cL_law 939 = .ok (.aload_n 1, 1) := by decide +kernel
theorem dL_law_940 : decode cL_law 940 = .ok (.aload_n 0, 1) := by decide +kernel
theorem dL_law_941 : decode cL_law 941 = .ok (.iload 4, 2) := by decide +kernel
theorem dL_law_943 : decode cL_law 943 = .ok (.iconst 1, 1) := by decide +kernel
theorem dL_law_944 : decode cL_law 944 = .ok (.iadd, 1) := by decide +kernel
theorem dL_law_945 : decode cL_law 945 = .ok (.iaload, 1) := by decide +kernel
theorem dL_law_946 : decode cL_law 946 = .ok (.aload_n 0, 1) := by decide +kernel
theorem dL_law_947 : decode cL_law 947 = .ok (.iload 4, 2) := by decide +kernel
theorem dL_law_949 : decode cL_law 949 = .ok (.iconst 2, 1) := by decide +kernel
theorem dL_law_950 : decode cL_law 950 = .ok (.iadd, 1) := by decide +kernel
theorem dL_law_951 : decode cL_law 951 = .ok (.iaload, 1) := by decide +kernel
theorem dL_law_952 : decode cL_law 952 = .ok (.aload_n 3, 1) := by decide +kernel
theorem dL_law_953 : decode cL_law 953 = .ok (.invokestatic 141, 3) := by decide +kernel
theorem dL_law_956 : decode cL_law 956 = .ok (.istore 5, 2) := by decide +kernel
theorem dL_law_958 : decode cL_law 958 = .ok (.aload_n 2, 1) := by decide +kernel
theorem dL_law_959 : decode cL_law 959 = .ok (.aload_n 0, 1) := by decide +kernel
theorem dL_law_960 : decode cL_law 960 = .ok (.iload 4, 2) := by decide +kernel
theorem dL_law_962 : decode cL_law 962 = .ok (.iconst 1, 1) := by decide +kernel
theorem dL_law_963 : decode cL_law 963 = .ok (.iadd, 1) := by decide +kernel
theorem dL_law_964 : decode cL_law 964 = .ok (.iaload, 1) := by decide +kernel
theorem dL_law_965 : decode cL_law 965 = .ok (.aload_n 0, 1) := by decide +kernel
theorem dL_law_966 : decode cL_law 966 = .ok (.iload 4, 2) := by decide +kernel
theorem dL_law_968 : decode cL_law 968 = .ok (.iconst 2, 1) := by decide +kernel
theorem dL_law_969 : decode cL_law 969 = .ok (.iadd, 1) := by decide +kernel
theorem dL_law_970 : decode cL_law 970 = .ok (.iaload, 1) := by decide +kernel
theorem dL_law_971 : decode cL_law 971 = .ok (.invokevirtual 143, 3) := by decide +kernel
theorem dL_law_974 : decode cL_law 974 = .ok (.istore 6, 2) := by decide +kernel
theorem dL_law_976 : decode cL_law 976 = .ok (.aload_n 2, 1) := by decide +kernel
theorem dL_law_977 : decode cL_law 977 = .ok (.invokevirtual 105, 3) := by decide +kernel
theorem dL_law_980 : decode cL_law 980 = .ok (.iload 5, 2) := by decide +kernel
theorem dL_law_982 : decode cL_law 982 = .ok (.if_icmp .eq 5, 3) := by decide +kernel
theorem dL_law_985 : decode cL_law 985 = .ok (.iconst 0, 1) := by decide +kernel
theorem dL_law_986 : decode cL_law 986 = .ok (.ireturn, 1) := by decide +kernel
theorem dL_law_987 : decode cL_law 987 = .ok (.iload 5, 2) := by decide +kernel
theorem dL_law_989 : decode cL_law 989 = .ok (.ifCond .ne 15, 3) := by decide +kernel
theorem dL_law_992 : decode cL_law 992 = .ok (.aload_n 3, 1) := by decide +kernel
theorem dL_law_993 : decode cL_law 993 = .ok (.iconst 0, 1) := by decide +kernel
theorem dL_law_994 : decode cL_law 994 = .ok (.laload, 1) := by decide +kernel
theorem dL_law_995 : decode cL_law 995 = .ok (.iload 6, 2) := by decide +kernel
theorem dL_law_997 : decode cL_law 997 = .ok (.i2l, 1) := by decide +kernel
theorem dL_law_998 : decode cL_law 998 = .ok (.lcmp, 1) := by decide +kernel
theorem dL_law_999 : decode cL_law 999 = .ok (.ifCond .eq 5, 3) := by decide +kernel
theorem dL_law_1002 : decode cL_law 1002 = .ok (.iconst 0, 1) := by decide +kernel
theorem dL_law_1003 : decode cL_law 1003 = .ok (.ireturn, 1) := by decide +kernel
theorem dL_law_1004 : decode cL_law 1004 = .ok (.goto 777, 3) := by decide +kernel
theorem dL_law_1007 : decode cL_law 1007 = .ok (.aload_n 1, 1) := by decide +kernel
theorem dL_law_1008 : decode cL_law 1008 = .ok (.aload_n 0, 1) := by decide +kernel
theorem dL_law_1009 : decode cL_law 1009 = .ok (.iload 4, 2) := by decide +kernel
theorem dL_law_1011 : decode cL_law 1011 = .ok (.iconst 1, 1) := by decide +kernel
theorem dL_law_1012 : decode cL_law 1012 = .ok (.iadd, 1) := by decide +kernel
theorem dL_law_1013 : decode cL_law 1013 = .ok (.iaload, 1) := by decide +kernel
theorem dL_law_1014 : decode cL_law 1014 = .ok (.aload_n 3, 1) := by decide +kernel
theorem dL_law_1015 : decode cL_law 1015 = .ok (.invokestatic 144, 3) := by decide +kernel
theorem dL_law_1018 : decode cL_law 1018 = .ok (.istore 5, 2) := by decide +kernel
theorem dL_law_1020 : decode cL_law 1020 = .ok (.aload_n 2, 1) := by decide +kernel
theorem dL_law_1021 : decode cL_law 1021 = .ok (.aload_n 0, 1) := by decide +kernel
theorem dL_law_1022 : decode cL_law 1022 = .ok (.iload 4, 2) := by decide +kernel
theorem dL_law_1024 : decode cL_law 1024 = .ok (.iconst 1, 1) := by decide +kernel
theorem dL_law_1025 : decode cL_law 1025 = .ok (.iadd, 1) := by decide +kernel
theorem dL_law_1026 : decode cL_law 1026 = .ok (.iaload, 1) := by decide +kernel
theorem dL_law_1027 : decode cL_law 1027 = .ok (.invokevirtual 146, 3) := by decide +kernel
theorem dL_law_1030 : decode cL_law 1030 = .ok (.istore 6, 2) := by decide +kernel
theorem dL_law_1032 : decode cL_law 1032 = .ok (.aload_n 2, 1) := by decide +kernel
theorem dL_law_1033 : decode cL_law 1033 = .ok (.invokevirtual 105, 3) := by decide +kernel
theorem dL_law_1036 : decode cL_law 1036 = .ok (.iload 5, 2) := by decide +kernel
theorem dL_law_1038 : decode cL_law 1038 = .ok (.if_icmp .eq 5, 3) := by decide +kernel
theorem dL_law_1041 : decode cL_law 1041 = .ok (.iconst 0, 1) := by decide +kernel
theorem dL_law_1042 : decode cL_law 1042 = .ok (.ireturn, 1) := by decide +kernel
theorem dL_law_1043 : decode cL_law 1043 = .ok (.iload 5, 2) := by decide +kernel
theorem dL_law_1045 : decode cL_law 1045 = .ok (.ifCond .ne 15, 3) := by decide +kernel
theorem dL_law_1048 : decode cL_law 1048 = .ok (.aload_n 3, 1) := by decide +kernel
theorem dL_law_1049 : decode cL_law 1049 = .ok (.iconst 0, 1) := by decide +kernel
theorem dL_law_1050 : decode cL_law 1050 = .ok (.laload, 1) := by decide +kernel
theorem dL_law_1051 : decode cL_law 1051 = .ok (.iload 6, 2) := by decide +kernel
theorem dL_law_1053 : decode cL_law 1053 = .ok (.i2l, 1) := by decide +kernel
theorem dL_law_1054 : decode cL_law 1054 = .ok (.lcmp, 1) := by decide +kernel
theorem dL_law_1055 : decode cL_law 1055 = .ok (.ifCond .eq 5, 3) := by decide +kernel
theorem dL_law_1058 : decode cL_law 1058 = .ok (.iconst 0, 1) := by decide +kernel
theorem dL_law_1059 : decode cL_law 1059 = .ok (.ireturn, 1) := by decide +kernel
theorem dL_law_1060 : decode cL_law 1060 = .ok (.goto 721, 3) := by decide +kernel
theorem dL_law_1063 : decode cL_law 1063 = .ok (.aload_n 1, 1) := by decide +kernel
theorem dL_law_1064 : decode cL_law 1064 = .ok (.aload_n 0, 1) := by decide +kernel
theorem dL_law_1065 : decode cL_law 1065 = .ok (.iload 4, 2) := by decide +kernel
theorem dL_law_1067 : decode cL_law 1067 = .ok (.iconst 1, 1) := by decide +kernel
theorem dL_law_1068 : decode cL_law 1068 = .ok (.iadd, 1) := by decide +kernel
theorem dL_law_1069 : decode cL_law 1069 = .ok (.iaload, 1) := by decide +kernel
theorem dL_law_1070 : decode cL_law 1070 = .ok (.aload_n 0, 1) := by decide +kernel
theorem dL_law_1071 : decode cL_law 1071 = .ok (.iload 4, 2) := by decide +kernel
theorem dL_law_1073 : decode cL_law 1073 = .ok (.iconst 2, 1) := by decide +kernel
theorem dL_law_1074 : decode cL_law 1074 = .ok (.iadd, 1) := by decide +kernel
theorem dL_law_1075 : decode cL_law 1075 = .ok (.iaload, 1) := by decide +kernel
theorem dL_law_1076 : decode cL_law 1076 = .ok (.aload_n 3, 1) := by decide +kernel
theorem dL_law_1077 : decode cL_law 1077 = .ok (.invokestatic 147, 3) := by decide +kernel
theorem dL_law_1080 : decode cL_law 1080 = .ok (.istore 5, 2) := by decide +kernel
theorem dL_law_1082 : decode cL_law 1082 = .ok (.aload_n 2, 1) := by decide +kernel
theorem dL_law_1083 : decode cL_law 1083 = .ok (.aload_n 0, 1) := by decide +kernel
theorem dL_law_1084 : decode cL_law 1084 = .ok (.iload 4, 2) := by decide +kernel
theorem dL_law_1086 : decode cL_law 1086 = .ok (.iconst 1, 1) := by decide +kernel
theorem dL_law_1087 : decode cL_law 1087 = .ok (.iadd, 1) := by decide +kernel
theorem dL_law_1088 : decode cL_law 1088 = .ok (.iaload, 1) := by decide +kernel
theorem dL_law_1089 : decode cL_law 1089 = .ok (.aload_n 0, 1) := by decide +kernel
theorem dL_law_1090 : decode cL_law 1090 = .ok (.iload 4, 2) := by decide +kernel
theorem dL_law_1092 : decode cL_law 1092 = .ok (.iconst 2, 1) := by decide +kernel
theorem dL_law_1093 : decode cL_law 1093 = .ok (.iadd, 1) := by decide +kernel
theorem dL_law_1094 : decode cL_law 1094 = .ok (.iaload, 1) := by decide +kernel
theorem dL_law_1095 : decode cL_law 1095 = .ok (.invokevirtual 149, 3) := by decide +kernel
theorem dL_law_1098 : decode cL_law 1098 = .ok (.istore 6, 2) := by decide +kernel
theorem dL_law_1100 : decode cL_law 1100 = .ok (.aload_n 2, 1) := by decide +kernel
theorem dL_law_1101 : decode cL_law 1101 = .ok (.invokevirtual 105, 3) := by decide +kernel
theorem dL_law_1104 : decode cL_law 1104 = .ok (.iload 5, 2) := by decide +kernel
theorem dL_law_1106 : decode cL_law 1106 = .ok (.if_icmp .eq 5, 3) := by decide +kernel
theorem dL_law_1109 : decode cL_law 1109 = .ok (.iconst 0, 1) := by decide +kernel
theorem dL_law_1110 : decode cL_law 1110 = .ok (.ireturn, 1) := by decide +kernel
theorem dL_law_1111 : decode cL_law 1111 = .ok (.iload 5, 2) := by decide +kernel
theorem dL_law_1113 : decode cL_law 1113 = .ok (.ifCond .ne 15, 3) := by decide +kernel
theorem dL_law_1116 : decode cL_law 1116 = .ok (.aload_n 3, 1) := by decide +kernel
theorem dL_law_1117 : decode cL_law 1117 = .ok (.iconst 0, 1) := by decide +kernel
theorem dL_law_1118 : decode cL_law 1118 = .ok (.laload, 1) := by decide +kernel
theorem dL_law_1119 : decode cL_law 1119 = .ok (.iload 6, 2) := by decide +kernel
theorem dL_law_1121 : decode cL_law 1121 = .ok (.i2l, 1) := by decide +kernel
theorem dL_law_1122 : decode cL_law 1122 = .ok (.lcmp, 1) := by decide +kernel
theorem dL_law_1123 : decode cL_law 1123 = .ok (.ifCond .eq 5, 3) := by decide +kernel
theorem dL_law_1126 : decode cL_law 1126 = .ok (.iconst 0, 1) := by decide +kernel
theorem dL_law_1127 : decode cL_law 1127 = .ok (.ireturn, 1) := by decide +kernel
theorem dL_law_1128 : decode cL_law 1128 = .ok (.goto 653, 3) := by decide +kernel
theorem dL_law_1131 : decode cL_law 1131 = .ok (.aload_n 1, 1) := by decide +kernel
theorem dL_law_1132 : decode cL_law 1132 = .ok (.aload_n 0, 1) := by decide +kernel
theorem dL_law_1133 : decode cL_law 1133 = .ok (.iload 4, 2) := by decide +kernel
theorem dL_law_1135 : decode cL_law 1135 = .ok (.iconst 1, 1) := by decide +kernel
theorem dL_law_1136 : decode cL_law 1136 = .ok (.iadd, 1) := by decide +kernel
theorem dL_law_1137 : decode cL_law 1137 = .ok (.iaload, 1) := by decide +kernel
theorem dL_law_1138 : decode cL_law 1138 = .ok (.aload_n 3, 1) := by decide +kernel
theorem dL_law_1139 : decode cL_law 1139 = .ok (.invokestatic 150, 3) := by decide +kernel
theorem dL_law_1142 : decode cL_law 1142 = .ok (.istore 5, 2) := by decide +kernel
theorem dL_law_1144 : decode cL_law 1144 = .ok (.aload_n 2, 1) := by decide +kernel
theorem dL_law_1145 : decode cL_law 1145 = .ok (.aload_n 0, 1) := by decide +kernel
theorem dL_law_1146 : decode cL_law 1146 = .ok (.iload 4, 2) := by decide +kernel
theorem dL_law_1148 : decode cL_law 1148 = .ok (.iconst 1, 1) := by decide +kernel
theorem dL_law_1149 : decode cL_law 1149 = .ok (.iadd, 1) := by decide +kernel
theorem dL_law_1150 : decode cL_law 1150 = .ok (.iaload, 1) := by decide +kernel
theorem dL_law_1151 : decode cL_law 1151 = .ok (.invokevirtual 152, 3) := by decide +kernel
theorem dL_law_1154 : decode cL_law 1154 = .ok (.istore 6, 2) := by decide +kernel
theorem dL_law_1156 : decode cL_law 1156 = .ok (.aload_n 2, 1) := by decide +kernel
theorem dL_law_1157 : decode cL_law 1157 = .ok (.invokevirtual 105, 3) := by decide +kernel
theorem dL_law_1160 : decode cL_law 1160 = .ok (.iload 5, 2) := by decide +kernel
theorem dL_law_1162 : decode cL_law 1162 = .ok (.if_icmp .eq 5, 3) := by decide +kernel
theorem dL_law_1165 : decode cL_law 1165 = .ok (.iconst 0, 1) := by decide +kernel
theorem dL_law_1166 : decode cL_law 1166 = .ok (.ireturn, 1) := by decide +kernel
theorem dL_law_1167 : decode cL_law 1167 = .ok (.iload 5, 2) := by decide +kernel
theorem dL_law_1169 : decode cL_law 1169 = .ok (.ifCond .ne 15, 3) := by decide +kernel
theorem dL_law_1172 : decode cL_law 1172 = .ok (.aload_n 3, 1) := by decide +kernel
theorem dL_law_1173 : decode cL_law 1173 = .ok (.iconst 0, 1) := by decide +kernel
theorem dL_law_1174 : decode cL_law 1174 = .ok (.laload, 1) := by decide +kernel
theorem dL_law_1175 : decode cL_law 1175 = .ok (.iload 6, 2) := by decide +kernel
theorem dL_law_1177 : decode cL_law 1177 = .ok (.i2l, 1) := by decide +kernel
theorem dL_law_1178 : decode cL_law 1178 = .ok (.lcmp, 1) := by decide +kernel
theorem dL_law_1179 : decode cL_law 1179 = .ok (.ifCond .eq 5, 3) := by decide +kernel
theorem dL_law_1182 : decode cL_law 1182 = .ok (.iconst 0, 1) := by decide +kernel
theorem dL_law_1183 : decode cL_law 1183 = .ok (.ireturn, 1) := by decide +kernel
theorem dL_law_1184 : decode cL_law 1184 = .ok (.goto 597, 3) := by decide +kernel
theorem dL_law_1187 : decode cL_law 1187 = .ok (.aload_n 1, 1) := by decide +kernel
theorem dL_law_1188 : decode cL_law 1188 = .ok (.aload_n 0, 1) := by decide +kernel
theorem dL_law_1189 : decode cL_law 1189 = .ok (.iload 4, 2) := by decide +kernel
theorem dL_law_1191 : decode cL_law 1191 = .ok (.iconst 1, 1) := by decide +kernel
theorem dL_law_1192 : decode cL_law 1192 = .ok (.iadd, 1) := by decide +kernel
theorem dL_law_1193 : decode cL_law 1193 = .ok (.iaload, 1) := by decide +kernel
theorem dL_law_1194 : decode cL_law 1194 = .ok (.aload_n 0, 1) := by decide +kernel
theorem dL_law_1195 : decode cL_law 1195 = .ok (.iload 4, 2) := by decide +kernel
theorem dL_law_1197 : decode cL_law 1197 = .ok (.iconst 2, 1) := by decide +kernel
theorem dL_law_1198 : decode cL_law 1198 = .ok (.iadd, 1) := by decide +kernel
theorem dL_law_1199 : decode cL_law 1199 = .ok (.iaload, 1) := by decide +kernel
theorem dL_law_1200 : decode cL_law 1200 = .ok (.aload_n 0, 1) := by decide +kernel
theorem dL_law_1201 : decode cL_law 1201 = .ok (.iload 4, 2) := by decide +kernel
theorem dL_law_1203 : decode cL_law 1203 = .ok (.iconst 3, 1) := by decide +kernel
theorem dL_law_1204 : decode cL_law 1204 = .ok (.iadd, 1) := by decide +kernel
theorem dL_law_1205 : decode cL_law 1205 = .ok (.iaload, 1) := by decide +kernel
theorem dL_law_1206 : decode cL_law 1206 = .ok (.aload_n 3, 1) := by decide +kernel
theorem dL_law_1207 : decode cL_law 1207 = .ok (.invokestatic 153, 3) := by decide +kernel
theorem dL_law_1210 : decode cL_law 1210 = .ok (.istore 5, 2) := by decide +kernel
theorem dL_law_1212 : decode cL_law 1212 = .ok (.aload_n 2, 1) := by decide +kernel
theorem dL_law_1213 : decode cL_law 1213 = .ok (.aload_n 0, 1) := by decide +kernel
theorem dL_law_1214 : decode cL_law 1214 = .ok (.iload 4, 2) := by decide +kernel
theorem dL_law_1216 : decode cL_law 1216 = .ok (.iconst 1, 1) := by decide +kernel
theorem dL_law_1217 : decode cL_law 1217 = .ok (.iadd, 1) := by decide +kernel
theorem dL_law_1218 : decode cL_law 1218 = .ok (.iaload, 1) := by decide +kernel
theorem dL_law_1219 : decode cL_law 1219 = .ok (.aload_n 0, 1) := by decide +kernel
theorem dL_law_1220 : decode cL_law 1220 = .ok (.iload 4, 2) := by decide +kernel
theorem dL_law_1222 : decode cL_law 1222 = .ok (.iconst 2, 1) := by decide +kernel
theorem dL_law_1223 : decode cL_law 1223 = .ok (.iadd, 1) := by decide +kernel
theorem dL_law_1224 : decode cL_law 1224 = .ok (.iaload, 1) := by decide +kernel
theorem dL_law_1225 : decode cL_law 1225 = .ok (.aload_n 0, 1) := by decide +kernel
theorem dL_law_1226 : decode cL_law 1226 = .ok (.iload 4, 2) := by decide +kernel
theorem dL_law_1228 : decode cL_law 1228 = .ok (.iconst 3, 1) := by decide +kernel
theorem dL_law_1229 : decode cL_law 1229 = .ok (.iadd, 1) := by decide +kernel
theorem dL_law_1230 : decode cL_law 1230 = .ok (.iaload, 1) := by decide +kernel
theorem dL_law_1231 : decode cL_law 1231 = .ok (.invokevirtual 156, 3) := by decide +kernel
theorem dL_law_1234 : decode cL_law 1234 = .ok (.istore 6, 2) := by decide +kernel
theorem dL_law_1236 : decode cL_law 1236 = .ok (.aload_n 2, 1) := by decide +kernel
theorem dL_law_1237 : decode cL_law 1237 = .ok (.invokevirtual 105, 3) := by decide +kernel
theorem dL_law_1240 : decode cL_law 1240 = .ok (.iload 5, 2) := by decide +kernel
theorem dL_law_1242 : decode cL_law 1242 = .ok (.if_icmp .eq 5, 3) := by decide +kernel
theorem dL_law_1245 : decode cL_law 1245 = .ok (.iconst 0, 1) := by decide +kernel
theorem dL_law_1246 : decode cL_law 1246 = .ok (.ireturn, 1) := by decide +kernel
theorem dL_law_1247 : decode cL_law 1247 = .ok (.iload 5, 2) := by decide +kernel
theorem dL_law_1249 : decode cL_law 1249 = .ok (.ifCond .ne 15, 3) := by decide +kernel
theorem dL_law_1252 : decode cL_law 1252 = .ok (.aload_n 3, 1) := by decide +kernel
theorem dL_law_1253 : decode cL_law 1253 = .ok (.iconst 0, 1) := by decide +kernel
theorem dL_law_1254 : decode cL_law 1254 = .ok (.laload, 1) := by decide +kernel
theorem dL_law_1255 : decode cL_law 1255 = .ok (.iload 6, 2) := by decide +kernel
theorem dL_law_1257 : decode cL_law 1257 = .ok (.i2l, 1) := by decide +kernel
theorem dL_law_1258 : decode cL_law 1258 = .ok (.lcmp, 1) := by decide +kernel
theorem dL_law_1259 : decode cL_law 1259 = .ok (.ifCond .eq 5, 3) := by decide +kernel
theorem dL_law_1262 : decode cL_law 1262 = .ok (.iconst 0, 1) := by decide +kernel
theorem dL_law_1263 : decode cL_law 1263 = .ok (.ireturn, 1) := by decide +kernel
theorem dL_law_1264 : decode cL_law 1264 = .ok (.goto 517, 3) := by decide +kernel
theorem dL_law_1267 : decode cL_law 1267 = .ok (.aload_n 1, 1) := by decide +kernel
theorem dL_law_1268 : decode cL_law 1268 = .ok (.aload_n 0, 1) := by decide +kernel
theorem dL_law_1269 : decode cL_law 1269 = .ok (.iload 4, 2) := by decide +kernel
theorem dL_law_1271 : decode cL_law 1271 = .ok (.iconst 1, 1) := by decide +kernel
theorem dL_law_1272 : decode cL_law 1272 = .ok (.iadd, 1) := by decide +kernel
theorem dL_law_1273 : decode cL_law 1273 = .ok (.iaload, 1) := by decide +kernel
theorem dL_law_1274 : decode cL_law 1274 = .ok (.aload_n 3, 1) := by decide +kernel
theorem dL_law_1275 : decode cL_law 1275 = .ok (.invokestatic 157, 3) := by decide +kernel
theorem dL_law_1278 : decode cL_law 1278 = .ok (.istore 5, 2) := by decide +kernel
theorem dL_law_1280 : decode cL_law 1280 = .ok (.aload_n 2, 1) := by decide +kernel
theorem dL_law_1281 : decode cL_law 1281 = .ok (.aload_n 0, 1) := by decide +kernel
theorem dL_law_1282 : decode cL_law 1282 = .ok (.iload 4, 2) := by decide +kernel
theorem dL_law_1284 : decode cL_law 1284 = .ok (.iconst 1, 1) := by decide +kernel
theorem dL_law_1285 : decode cL_law 1285 = .ok (.iadd, 1) := by decide +kernel
theorem dL_law_1286 : decode cL_law 1286 = .ok (.iaload, 1) := by decide +kernel
theorem dL_law_1287 : decode cL_law 1287 = .ok (.invokevirtual 159, 3) := by decide +kernel
theorem dL_law_1290 : decode cL_law 1290 = .ok (.istore 6, 2) := by decide +kernel
theorem dL_law_1292 : decode cL_law 1292 = .ok (.aload_n 2, 1) := by decide +kernel
theorem dL_law_1293 : decode cL_law 1293 = .ok (.invokevirtual 105, 3) := by decide +kernel
theorem dL_law_1296 : decode cL_law 1296 = .ok (.iload 5, 2) := by decide +kernel
theorem dL_law_1298 : decode cL_law 1298 = .ok (.if_icmp .eq 5, 3) := by decide +kernel
theorem dL_law_1301 : decode cL_law 1301 = .ok (.iconst 0, 1) := by decide +kernel
theorem dL_law_1302 : decode cL_law 1302 = .ok (.ireturn, 1) := by decide +kernel
theorem dL_law_1303 : decode cL_law 1303 = .ok (.iload 5, 2) := by decide +kernel
theorem dL_law_1305 : decode cL_law 1305 = .ok (.ifCond .ne 15, 3) := by decide +kernel
theorem dL_law_1308 : decode cL_law 1308 = .ok (.aload_n 3, 1) := by decide +kernel
theorem dL_law_1309 : decode cL_law 1309 = .ok (.iconst 0, 1) := by decide +kernel
theorem dL_law_1310 : decode cL_law 1310 = .ok (.laload, 1) := by decide +kernel
theorem dL_law_1311 : decode cL_law 1311 = .ok (.iload 6, 2) := by decide +kernel
theorem dL_law_1313 : decode cL_law 1313 = .ok (.i2l, 1) := by decide +kernel
theorem dL_law_1314 : decode cL_law 1314 = .ok (.lcmp, 1) := by decide +kernel
theorem dL_law_1315 : decode cL_law 1315 = .ok (.ifCond .eq 5, 3) := by decide +kernel
theorem dL_law_1318 : decode cL_law 1318 = .ok (.iconst 0, 1) := by decide +kernel
theorem dL_law_1319 : decode cL_law 1319 = .ok (.ireturn, 1) := by decide +kernel
theorem dL_law_1320 : decode cL_law 1320 = .ok (.goto 461, 3) := by decide +kernel
theorem dL_law_1323 : decode cL_law 1323 = .ok (.aload_n 1, 1) := by decide +kernel
theorem dL_law_1324 : decode cL_law 1324 = .ok (.aload_n 0, 1) := by decide +kernel
theorem dL_law_1325 : decode cL_law 1325 = .ok (.iload 4, 2) := by decide +kernel
theorem dL_law_1327 : decode cL_law 1327 = .ok (.iconst 1, 1) := by decide +kernel
theorem dL_law_1328 : decode cL_law 1328 = .ok (.iadd, 1) := by decide +kernel
theorem dL_law_1329 : decode cL_law 1329 = .ok (.iaload, 1) := by decide +kernel
theorem dL_law_1330 : decode cL_law 1330 = .ok (.aload_n 0, 1) := by decide +kernel
theorem dL_law_1331 : decode cL_law 1331 = .ok (.iload 4, 2) := by decide +kernel
theorem dL_law_1333 : decode cL_law 1333 = .ok (.iconst 2, 1) := by decide +kernel
theorem dL_law_1334 : decode cL_law 1334 = .ok (.iadd, 1) := by decide +kernel
theorem dL_law_1335 : decode cL_law 1335 = .ok (.iaload, 1) := by decide +kernel
theorem dL_law_1336 : decode cL_law 1336 = .ok (.aload_n 3, 1) := by decide +kernel
theorem dL_law_1337 : decode cL_law 1337 = .ok (.invokestatic 160, 3) := by decide +kernel
theorem dL_law_1340 : decode cL_law 1340 = .ok (.istore 5, 2) := by decide +kernel
theorem dL_law_1342 : decode cL_law 1342 = .ok (.aload_n 2, 1) := by decide +kernel
theorem dL_law_1343 : decode cL_law 1343 = .ok (.aload_n 0, 1) := by decide +kernel
theorem dL_law_1344 : decode cL_law 1344 = .ok (.iload 4, 2) := by decide +kernel
theorem dL_law_1346 : decode cL_law 1346 = .ok (.iconst 1, 1) := by decide +kernel
theorem dL_law_1347 : decode cL_law 1347 = .ok (.iadd, 1) := by decide +kernel
theorem dL_law_1348 : decode cL_law 1348 = .ok (.iaload, 1) := by decide +kernel
theorem dL_law_1349 : decode cL_law 1349 = .ok (.aload_n 0, 1) := by decide +kernel
theorem dL_law_1350 : decode cL_law 1350 = .ok (.iload 4, 2) := by decide +kernel
theorem dL_law_1352 : decode cL_law 1352 = .ok (.iconst 2, 1) := by decide +kernel
theorem dL_law_1353 : decode cL_law 1353 = .ok (.iadd, 1) := by decide +kernel
theorem dL_law_1354 : decode cL_law 1354 = .ok (.iaload, 1) := by decide +kernel
theorem dL_law_1355 : decode cL_law 1355 = .ok (.invokevirtual 162, 3) := by decide +kernel
theorem dL_law_1358 : decode cL_law 1358 = .ok (.istore 6, 2) := by decide +kernel
theorem dL_law_1360 : decode cL_law 1360 = .ok (.aload_n 2, 1) := by decide +kernel
theorem dL_law_1361 : decode cL_law 1361 = .ok (.invokevirtual 105, 3) := by decide +kernel
theorem dL_law_1364 : decode cL_law 1364 = .ok (.iload 5, 2) := by decide +kernel
theorem dL_law_1366 : decode cL_law 1366 = .ok (.if_icmp .eq 5, 3) := by decide +kernel
theorem dL_law_1369 : decode cL_law 1369 = .ok (.iconst 0, 1) := by decide +kernel
theorem dL_law_1370 : decode cL_law 1370 = .ok (.ireturn, 1) := by decide +kernel
theorem dL_law_1371 : decode cL_law 1371 = .ok (.iload 5, 2) := by decide +kernel
theorem dL_law_1373 : decode cL_law 1373 = .ok (.ifCond .ne 15, 3) := by decide +kernel
theorem dL_law_1376 : decode cL_law 1376 = .ok (.aload_n 3, 1) := by decide +kernel
theorem dL_law_1377 : decode cL_law 1377 = .ok (.iconst 0, 1) := by decide +kernel
theorem dL_law_1378 : decode cL_law 1378 = .ok (.laload, 1) := by decide +kernel
theorem dL_law_1379 : decode cL_law 1379 = .ok (.iload 6, 2) := by decide +kernel
theorem dL_law_1381 : decode cL_law 1381 = .ok (.i2l, 1) := by decide +kernel
theorem dL_law_1382 : decode cL_law 1382 = .ok (.lcmp, 1) := by decide +kernel
theorem dL_law_1383 : decode cL_law 1383 = .ok (.ifCond .eq 5, 3) := by decide +kernel
theorem dL_law_1386 : decode cL_law 1386 = .ok (.iconst 0, 1) := by decide +kernel
theorem dL_law_1387 : decode cL_law 1387 = .ok (.ireturn, 1) := by decide +kernel
theorem dL_law_1388 : decode cL_law 1388 = .ok (.goto 393, 3) := by decide +kernel
theorem dL_law_1391 : decode cL_law 1391 = .ok (.aload_n 1, 1) := by decide +kernel
theorem dL_law_1392 : decode cL_law 1392 = .ok (.aload_n 0, 1) := by decide +kernel
theorem dL_law_1393 : decode cL_law 1393 = .ok (.iload 4, 2) := by decide +kernel
theorem dL_law_1395 : decode cL_law 1395 = .ok (.iconst 1, 1) := by decide +kernel
theorem dL_law_1396 : decode cL_law 1396 = .ok (.iadd, 1) := by decide +kernel
theorem dL_law_1397 : decode cL_law 1397 = .ok (.iaload, 1) := by decide +kernel
theorem dL_law_1398 : decode cL_law 1398 = .ok (.invokevirtual 163, 3) := by decide +kernel
theorem dL_law_1401 : decode cL_law 1401 = .ok (.aload_n 2, 1) := by decide +kernel
theorem dL_law_1402 : decode cL_law 1402 = .ok (.aload_n 0, 1) := by decide +kernel
theorem dL_law_1403 : decode cL_law 1403 = .ok (.iload 4, 2) := by decide +kernel
theorem dL_law_1405 : decode cL_law 1405 = .ok (.iconst 1, 1) := by decide +kernel
theorem dL_law_1406 : decode cL_law 1406 = .ok (.iadd, 1) := by decide +kernel
theorem dL_law_1407 : decode cL_law 1407 = .ok (.iaload, 1) := by decide +kernel
theorem dL_law_1408 : decode cL_law 1408 = .ok (.invokevirtual 166, 3) := by decide +kernel
theorem dL_law_1411 : decode cL_law 1411 = .ok (.if_icmp .eq 370, 3) := by decide +kernel
theorem dL_law_1414 : decode cL_law 1414 = .ok (.iconst 0, 1) := by decide +kernel
theorem dL_law_1415 : decode cL_law 1415 = .ok (.ireturn, 1) := by decide +kernel
theorem dL_law_1416 : decode cL_law 1416 = .ok (.aload_n 1, 1) := by decide +kernel
theorem dL_law_1417 : decode cL_law 1417 = .ok (.aload_n 0, 1) := by decide +kernel
theorem dL_law_1418 : decode cL_law 1418 = .ok (.iload 4, 2) := by decide +kernel
theorem dL_law_1420 : decode cL_law 1420 = .ok (.iconst 1, 1) := by decide +kernel
theorem dL_law_1421 : decode cL_law 1421 = .ok (.iadd, 1) := by decide +kernel
theorem dL_law_1422 : decode cL_law 1422 = .ok (.iaload, 1) := by decide +kernel
theorem dL_law_1423 : decode cL_law 1423 = .ok (.aload_n 0, 1) := by decide +kernel
theorem dL_law_1424 : decode cL_law 1424 = .ok (.iload 4, 2) := by decide +kernel
theorem dL_law_1426 : decode cL_law 1426 = .ok (.iconst 2, 1) := by decide +kernel
theorem dL_law_1427 : decode cL_law 1427 = .ok (.iadd, 1) := by decide +kernel
theorem dL_law_1428 : decode cL_law 1428 = .ok (.iaload, 1) := by decide +kernel
theorem dL_law_1429 : decode cL_law 1429 = .ok (.aload_n 3, 1) := by decide +kernel
theorem dL_law_1430 : decode cL_law 1430 = .ok (.invokestatic 167, 3) := by decide +kernel
theorem dL_law_1433 : decode cL_law 1433 = .ok (.istore 5, 2) := by decide +kernel
theorem dL_law_1435 : decode cL_law 1435 = .ok (.aload_n 2, 1) := by decide +kernel
theorem dL_law_1436 : decode cL_law 1436 = .ok (.aload_n 0, 1) := by decide +kernel
theorem dL_law_1437 : decode cL_law 1437 = .ok (.iload 4, 2) := by decide +kernel
theorem dL_law_1439 : decode cL_law 1439 = .ok (.iconst 1, 1) := by decide +kernel
theorem dL_law_1440 : decode cL_law 1440 = .ok (.iadd, 1) := by decide +kernel
theorem dL_law_1441 : decode cL_law 1441 = .ok (.iaload, 1) := by decide +kernel
theorem dL_law_1442 : decode cL_law 1442 = .ok (.aload_n 0, 1) := by decide +kernel
theorem dL_law_1443 : decode cL_law 1443 = .ok (.iload 4, 2) := by decide +kernel
theorem dL_law_1445 : decode cL_law 1445 = .ok (.iconst 2, 1) := by decide +kernel
theorem dL_law_1446 : decode cL_law 1446 = .ok (.iadd, 1) := by decide +kernel
theorem dL_law_1447 : decode cL_law 1447 = .ok (.iaload, 1) := by decide +kernel
theorem dL_law_1448 : decode cL_law 1448 = .ok (.invokevirtual 169, 3) := by decide +kernel
theorem dL_law_1451 : decode cL_law 1451 = .ok (.istore 6, 2) := by decide +kernel
theorem dL_law_1453 : decode cL_law 1453 = .ok (.aload_n 2, 1) := by decide +kernel
theorem dL_law_1454 : decode cL_law 1454 = .ok (.invokevirtual 105, 3) := by decide +kernel
theorem dL_law_1457 : decode cL_law 1457 = .ok (.iload 5, 2) := by decide +kernel
theorem dL_law_1459 : decode cL_law 1459 = .ok (.if_icmp .eq 5, 3) := by decide +kernel
theorem dL_law_1462 : decode cL_law 1462 = .ok (.iconst 0, 1) := by decide +kernel
theorem dL_law_1463 : decode cL_law 1463 = .ok (.ireturn, 1) := by decide +kernel
theorem dL_law_1464 : decode cL_law 1464 = .ok (.iload 5, 2) := by decide +kernel
theorem dL_law_1466 : decode cL_law 1466 = .ok (.ifCond .ne 15, 3) := by decide +kernel
theorem dL_law_1469 : decode cL_law 1469 = .ok (.aload_n 3, 1) := by decide +kernel
theorem dL_law_1470 : decode cL_law 1470 = .ok (.iconst 0, 1) := by decide +kernel
theorem dL_law_1471 : decode cL_law 1471 = .ok (.laload, 1) := by decide +kernel
theorem dL_law_1472 : decode cL_law 1472 = .ok (.iload 6, 2) := by decide +kernel
theorem dL_law_1474 : decode cL_law 1474 = .ok (.i2l, 1) := by decide +kernel
theorem dL_law_1475 : decode cL_law 1475 = .ok (.lcmp, 1) := by decide +kernel
theorem dL_law_1476 : decode cL_law 1476 = .ok (.ifCond .eq 5, 3) := by decide +kernel
theorem dL_law_1479 : decode cL_law 1479 = .ok (.iconst 0, 1) := by decide +kernel
theorem dL_law_1480 : decode cL_law 1480 = .ok (.ireturn, 1) := by decide +kernel
theorem dL_law_1481 : decode cL_law 1481 = .ok (.goto 300, 3) := by decide +kernel
theorem dL_law_1484 : decode cL_law 1484 = .ok (.aload_n 1, 1) := by decide +kernel
theorem dL_law_1485 : decode cL_law 1485 = .ok (.aload_n 0, 1) := by decide +kernel
theorem dL_law_1486 : decode cL_law 1486 = .ok (.iload 4, 2) := by decide +kernel
theorem dL_law_1488 : decode cL_law 1488 = .ok (.iconst 1, 1) := by decide +kernel
theorem dL_law_1489 : decode cL_law 1489 = .ok (.iadd, 1) := by decide +kernel
theorem dL_law_1490 : decode cL_law 1490 = .ok (.iaload, 1) := by decide +kernel
theorem dL_law_1491 : decode cL_law 1491 = .ok (.aload_n 0, 1) := by decide +kernel
theorem dL_law_1492 : decode cL_law 1492 = .ok (.iload 4, 2) := by decide +kernel
theorem dL_law_1494 : decode cL_law 1494 = .ok (.iconst 2, 1) := by decide +kernel
theorem dL_law_1495 : decode cL_law 1495 = .ok (.iadd, 1) := by decide +kernel
theorem dL_law_1496 : decode cL_law 1496 = .ok (.iaload, 1) := by decide +kernel
theorem dL_law_1497 : decode cL_law 1497 = .ok (.aload_n 0, 1) := by decide +kernel
theorem dL_law_1498 : decode cL_law 1498 = .ok (.iload 4, 2) := by decide +kernel
theorem dL_law_1500 : decode cL_law 1500 = .ok (.iconst 3, 1) := by decide +kernel
theorem dL_law_1501 : decode cL_law 1501 = .ok (.iadd, 1) := by decide +kernel
theorem dL_law_1502 : decode cL_law 1502 = .ok (.iaload, 1) := by decide +kernel
theorem dL_law_1503 : decode cL_law 1503 = .ok (.aload_n 0, 1) := by decide +kernel
theorem dL_law_1504 : decode cL_law 1504 = .ok (.iload 4, 2) := by decide +kernel
theorem dL_law_1506 : decode cL_law 1506 = .ok (.iconst 4, 1) := by decide +kernel
theorem dL_law_1507 : decode cL_law 1507 = .ok (.iadd, 1) := by decide +kernel
theorem dL_law_1508 : decode cL_law 1508 = .ok (.iaload, 1) := by decide +kernel
theorem dL_law_1509 : decode cL_law 1509 = .ok (.aload_n 3, 1) := by decide +kernel
theorem dL_law_1510 : decode cL_law 1510 = .ok (.invokestatic 170, 3) := by decide +kernel
theorem dL_law_1513 : decode cL_law 1513 = .ok (.istore 5, 2) := by decide +kernel
theorem dL_law_1515 : decode cL_law 1515 = .ok (.aload_n 2, 1) := by decide +kernel
theorem dL_law_1516 : decode cL_law 1516 = .ok (.aload_n 0, 1) := by decide +kernel
theorem dL_law_1517 : decode cL_law 1517 = .ok (.iload 4, 2) := by decide +kernel
theorem dL_law_1519 : decode cL_law 1519 = .ok (.iconst 1, 1) := by decide +kernel
theorem dL_law_1520 : decode cL_law 1520 = .ok (.iadd, 1) := by decide +kernel
theorem dL_law_1521 : decode cL_law 1521 = .ok (.iaload, 1) := by decide +kernel
theorem dL_law_1522 : decode cL_law 1522 = .ok (.aload_n 0, 1) := by decide +kernel
theorem dL_law_1523 : decode cL_law 1523 = .ok (.iload 4, 2) := by decide +kernel
theorem dL_law_1525 : decode cL_law 1525 = .ok (.iconst 2, 1) := by decide +kernel
theorem dL_law_1526 : decode cL_law 1526 = .ok (.iadd, 1) := by decide +kernel
theorem dL_law_1527 : decode cL_law 1527 = .ok (.iaload, 1) := by decide +kernel
theorem dL_law_1528 : decode cL_law 1528 = .ok (.aload_n 0, 1) := by decide +kernel
theorem dL_law_1529 : decode cL_law 1529 = .ok (.iload 4, 2) := by decide +kernel
theorem dL_law_1531 : decode cL_law 1531 = .ok (.iconst 3, 1) := by decide +kernel
theorem dL_law_1532 : decode cL_law 1532 = .ok (.iadd, 1) := by decide +kernel
theorem dL_law_1533 : decode cL_law 1533 = .ok (.iaload, 1) := by decide +kernel
theorem dL_law_1534 : decode cL_law 1534 = .ok (.aload_n 0, 1) := by decide +kernel
theorem dL_law_1535 : decode cL_law 1535 = .ok (.iload 4, 2) := by decide +kernel
theorem dL_law_1537 : decode cL_law 1537 = .ok (.iconst 4, 1) := by decide +kernel
theorem dL_law_1538 : decode cL_law 1538 = .ok (.iadd, 1) := by decide +kernel
theorem dL_law_1539 : decode cL_law 1539 = .ok (.iaload, 1) := by decide +kernel
theorem dL_law_1540 : decode cL_law 1540 = .ok (.invokevirtual 173, 3) := by decide +kernel
theorem dL_law_1543 : decode cL_law 1543 = .ok (.istore 6, 2) := by decide +kernel
theorem dL_law_1545 : decode cL_law 1545 = .ok (.aload_n 2, 1) := by decide +kernel
theorem dL_law_1546 : decode cL_law 1546 = .ok (.invokevirtual 105, 3) := by decide +kernel
theorem dL_law_1549 : decode cL_law 1549 = .ok (.iload 5, 2) := by decide +kernel
theorem dL_law_1551 : decode cL_law 1551 = .ok (.if_icmp .eq 5, 3) := by decide +kernel
theorem dL_law_1554 : decode cL_law 1554 = .ok (.iconst 0, 1) := by decide +kernel
theorem dL_law_1555 : decode cL_law 1555 = .ok (.ireturn, 1) := by decide +kernel
theorem dL_law_1556 : decode cL_law 1556 = .ok (.iload 5, 2) := by decide +kernel
theorem dL_law_1558 : decode cL_law 1558 = .ok (.ifCond .ne 15, 3) := by decide +kernel
theorem dL_law_1561 : decode cL_law 1561 = .ok (.aload_n 3, 1) := by decide +kernel
theorem dL_law_1562 : decode cL_law 1562 = .ok (.iconst 0, 1) := by decide +kernel
theorem dL_law_1563 : decode cL_law 1563 = .ok (.laload, 1) := by decide +kernel
theorem dL_law_1564 : decode cL_law 1564 = .ok (.iload 6, 2) := by decide +kernel
theorem dL_law_1566 : decode cL_law 1566 = .ok (.i2l, 1) := by decide +kernel
theorem dL_law_1567 : decode cL_law 1567 = .ok (.lcmp, 1) := by decide +kernel
theorem dL_law_1568 : decode cL_law 1568 = .ok (.ifCond .eq 5, 3) := by decide +kernel
theorem dL_law_1571 : decode cL_law 1571 = .ok (.iconst 0, 1) := by decide +kernel
theorem dL_law_1572 : decode cL_law 1572 = .ok (.ireturn, 1) := by decide +kernel
theorem dL_law_1573 : decode cL_law 1573 = .ok (.goto 208, 3) := by decide +kernel
theorem dL_law_1576 : decode cL_law 1576 = .ok (.aload_n 1, 1) := by decide +kernel
theorem dL_law_1577 : decode cL_law 1577 = .ok (.aload_n 0, 1) := by decide +kernel
theorem dL_law_1578 : decode cL_law 1578 = .ok (.iload 4, 2) := by decide +kernel
theorem dL_law_1580 : decode cL_law 1580 = .ok (.iconst 1, 1) := by decide +kernel
theorem dL_law_1581 : decode cL_law 1581 = .ok (.iadd, 1) := by decide +kernel
theorem dL_law_1582 : decode cL_law 1582 = .ok (.iaload, 1) := by decide +kernel
theorem dL_law_1583 : decode cL_law 1583 = .ok (.aload_n 3, 1) := by decide +kernel
theorem dL_law_1584 : decode cL_law 1584 = .ok (.invokestatic 174, 3) := by decide +kernel
theorem dL_law_1587 : decode cL_law 1587 = .ok (.istore 5, 2) := by decide +kernel
theorem dL_law_1589 : decode cL_law 1589 = .ok (.aload_n 2, 1) := by decide +kernel
theorem dL_law_1590 : decode cL_law 1590 = .ok (.aload_n 0, 1) := by decide +kernel
theorem dL_law_1591 : decode cL_law 1591 = .ok (.iload 4, 2) := by decide +kernel
theorem dL_law_1593 : decode cL_law 1593 = .ok (.iconst 1, 1) := by decide +kernel
theorem dL_law_1594 : decode cL_law 1594 = .ok (.iadd, 1) := by decide +kernel
theorem dL_law_1595 : decode cL_law 1595 = .ok (.iaload, 1) := by decide +kernel
theorem dL_law_1596 : decode cL_law 1596 = .ok (.invokevirtual 176, 3) := by decide +kernel
theorem dL_law_1599 : decode cL_law 1599 = .ok (.istore 6, 2) := by decide +kernel
theorem dL_law_1601 : decode cL_law 1601 = .ok (.aload_n 2, 1) := by decide +kernel
theorem dL_law_1602 : decode cL_law 1602 = .ok (.invokevirtual 105, 3) := by decide +kernel
theorem dL_law_1605 : decode cL_law 1605 = .ok (.iload 5, 2) := by decide +kernel
theorem dL_law_1607 : decode cL_law 1607 = .ok (.if_icmp .eq 5, 3) := by decide +kernel
theorem dL_law_1610 : decode cL_law 1610 = .ok (.iconst 0, 1) := by decide +kernel
theorem dL_law_1611 : decode cL_law 1611 = .ok (.ireturn, 1) := by decide +kernel
theorem dL_law_1612 : decode cL_law 1612 = .ok (.iload 5, 2) := by decide +kernel
theorem dL_law_1614 : decode cL_law 1614 = .ok (.ifCond .ne 15, 3) := by decide +kernel
theorem dL_law_1617 : decode cL_law 1617 = .ok (.aload_n 3, 1) := by decide +kernel
theorem dL_law_1618 : decode cL_law 1618 = .ok (.iconst 0, 1) := by decide +kernel
theorem dL_law_1619 : decode cL_law 1619 = .ok (.laload, 1) := by decide +kernel
theorem dL_law_1620 : decode cL_law 1620 = .ok (.iload 6, 2) := by decide +kernel
theorem dL_law_1622 : decode cL_law 1622 = .ok (.i2l, 1) := by decide +kernel
theorem dL_law_1623 : decode cL_law 1623 = .ok (.lcmp, 1) := by decide +kernel
theorem dL_law_1624 : decode cL_law 1624 = .ok (.ifCond .eq 5, 3) := by decide +kernel
theorem dL_law_1627 : decode cL_law 1627 = .ok (.iconst 0, 1) := by decide +kernel
theorem dL_law_1628 : decode cL_law 1628 = .ok (.ireturn, 1) := by decide +kernel
theorem dL_law_1629 : decode cL_law 1629 = .ok (.goto 152, 3) := by decide +kernel
theorem dL_law_1632 : decode cL_law 1632 = .ok (.aload_n 1, 1) := by decide +kernel
theorem dL_law_1633 : decode cL_law 1633 = .ok (.aload_n 0, 1) := by decide +kernel
theorem dL_law_1634 : decode cL_law 1634 = .ok (.iload 4, 2) := by decide +kernel
theorem dL_law_1636 : decode cL_law 1636 = .ok (.iconst 1, 1) := by decide +kernel
theorem dL_law_1637 : decode cL_law 1637 = .ok (.iadd, 1) := by decide +kernel
theorem dL_law_1638 : decode cL_law 1638 = .ok (.iaload, 1) := by decide +kernel
theorem dL_law_1639 : decode cL_law 1639 = .ok (.aload_n 3, 1) := by decide +kernel
theorem dL_law_1640 : decode cL_law 1640 = .ok (.invokestatic 177, 3) := by decide +kernel
theorem dL_law_1643 : decode cL_law 1643 = .ok (.istore 5, 2) := by decide +kernel
theorem dL_law_1645 : decode cL_law 1645 = .ok (.aload_n 2, 1) := by decide +kernel
theorem dL_law_1646 : decode cL_law 1646 = .ok (.aload_n 0, 1) := by decide +kernel
theorem dL_law_1647 : decode cL_law 1647 = .ok (.iload 4, 2) := by decide +kernel
theorem dL_law_1649 : decode cL_law 1649 = .ok (.iconst 1, 1) := by decide +kernel
theorem dL_law_1650 : decode cL_law 1650 = .ok (.iadd, 1) := by decide +kernel
theorem dL_law_1651 : decode cL_law 1651 = .ok (.iaload, 1) := by decide +kernel
theorem dL_law_1652 : decode cL_law 1652 = .ok (.invokevirtual 179, 3) := by decide +kernel
theorem dL_law_1655 : decode cL_law 1655 = .ok (.istore 6, 2) := by decide +kernel
theorem dL_law_1657 : decode cL_law 1657 = .ok (.aload_n 2, 1) := by decide +kernel
theorem dL_law_1658 : decode cL_law 1658 = .ok (.invokevirtual 105, 3) := by decide +kernel
theorem dL_law_1661 : decode cL_law 1661 = .ok (.iload 5, 2) := by decide +kernel
theorem dL_law_1663 : decode cL_law 1663 = .ok (.if_icmp .eq 5, 3) := by decide +kernel
theorem dL_law_1666 : decode cL_law 1666 = .ok (.iconst 0, 1) := by decide +kernel
theorem dL_law_1667 : decode cL_law 1667 = .ok (.ireturn, 1) := by decide +kernel
theorem dL_law_1668 : decode cL_law 1668 = .ok (.iload 5, 2) := by decide +kernel
theorem dL_law_1670 : decode cL_law 1670 = .ok (.ifCond .ne 15, 3) := by decide +kernel
theorem dL_law_1673 : decode cL_law 1673 = .ok (.aload_n 3, 1) := by decide +kernel
theorem dL_law_1674 : decode cL_law 1674 = .ok (.iconst 0, 1) := by decide +kernel
theorem dL_law_1675 : decode cL_law 1675 = .ok (.laload, 1) := by decide +kernel
theorem dL_law_1676 : decode cL_law 1676 = .ok (.iload 6, 2) := by decide +kernel
theorem dL_law_1678 : decode cL_law 1678 = .ok (.i2l, 1) := by decide +kernel
theorem dL_law_1679 : decode cL_law 1679 = .ok (.lcmp, 1) := by decide +kernel
theorem dL_law_1680 : decode cL_law 1680 = .ok (.ifCond .eq 5, 3) := by decide +kernel
theorem dL_law_1683 : decode cL_law 1683 = .ok (.iconst 0, 1) := by decide +kernel
theorem dL_law_1684 : decode cL_law 1684 = .ok (.ireturn, 1) := by decide +kernel
theorem dL_law_1685 : decode cL_law 1685 = .ok (.goto 96, 3) := by decide +kernel
theorem dL_law_1688 : decode cL_law 1688 = .ok (.aload_n 1, 1) := by decide +kernel
theorem dL_law_1689 : decode cL_law 1689 = .ok (.aload_n 0, 1) := by decide +kernel
theorem dL_law_1690 : decode cL_law 1690 = .ok (.iload 4, 2) := by decide +kernel
theorem dL_law_1692 : decode cL_law 1692 = .ok (.iconst 1, 1) := by decide +kernel
theorem dL_law_1693 : decode cL_law 1693 = .ok (.iadd, 1) := by decide +kernel
theorem dL_law_1694 : decode cL_law 1694 = .ok (.iaload, 1) := by decide +kernel
theorem dL_law_1695 : decode cL_law 1695 = .ok (.aload_n 0, 1) := by decide +kernel
theorem dL_law_1696 : decode cL_law 1696 = .ok (.iload 4, 2) := by decide +kernel
theorem dL_law_1698 : decode cL_law 1698 = .ok (.iconst 2, 1) := by decide +kernel
theorem dL_law_1699 : decode cL_law 1699 = .ok (.iadd, 1) := by decide +kernel
theorem dL_law_1700 : decode cL_law 1700 = .ok (.iaload, 1) := by decide +kernel
theorem dL_law_1701 : decode cL_law 1701 = .ok (.aload_n 3, 1) := by decide +kernel
theorem dL_law_1702 : decode cL_law 1702 = .ok (.invokestatic 180, 3) := by decide +kernel
theorem dL_law_1705 : decode cL_law 1705 = .ok (.istore 5, 2) := by decide +kernel
theorem dL_law_1707 : decode cL_law 1707 = .ok (.aload_n 2, 1) := by decide +kernel
theorem dL_law_1708 : decode cL_law 1708 = .ok (.aload_n 0, 1) := by decide +kernel
theorem dL_law_1709 : decode cL_law 1709 = .ok (.iload 4, 2) := by decide +kernel
theorem dL_law_1711 : decode cL_law 1711 = .ok (.iconst 1, 1) := by decide +kernel
theorem dL_law_1712 : decode cL_law 1712 = .ok (.iadd, 1) := by decide +kernel
theorem dL_law_1713 : decode cL_law 1713 = .ok (.iaload, 1) := by decide +kernel
theorem dL_law_1714 : decode cL_law 1714 = .ok (.aload_n 0, 1) := by decide +kernel
theorem dL_law_1715 : decode cL_law 1715 = .ok (.iload 4, 2) := by decide +kernel
theorem dL_law_1717 : decode cL_law 1717 = .ok (.iconst 2, 1) := by decide +kernel
theorem dL_law_1718 : decode cL_law 1718 = .ok (.iadd, 1) := by decide +kernel
theorem dL_law_1719 : decode cL_law 1719 = .ok (.iaload, 1) := by decide +kernel
theorem dL_law_1720 : decode cL_law 1720 = .ok (.invokevirtual 182, 3) := by decide +kernel
theorem dL_law_1723 : decode cL_law 1723 = .ok (.istore 6, 2) := by decide +kernel
theorem dL_law_1725 : decode cL_law 1725 = .ok (.aload_n 2, 1) := by decide +kernel
theorem dL_law_1726 : decode cL_law 1726 = .ok (.invokevirtual 105, 3) := by decide +kernel
theorem dL_law_1729 : decode cL_law 1729 = .ok (.iload 5, 2) := by decide +kernel
theorem dL_law_1731 : decode cL_law 1731 = .ok (.if_icmp .eq 5, 3) := by decide +kernel
theorem dL_law_1734 : decode cL_law 1734 = .ok (.iconst 0, 1) := by decide +kernel
theorem dL_law_1735 : decode cL_law 1735 = .ok (.ireturn, 1) := by decide +kernel
theorem dL_law_1736 : decode cL_law 1736 = .ok (.iload 5, 2) := by decide +kernel
theorem dL_law_1738 : decode cL_law 1738 = .ok (.ifCond .ne 15, 3) := by decide +kernel
theorem dL_law_1741 : decode cL_law 1741 = .ok (.aload_n 3, 1) := by decide +kernel
theorem dL_law_1742 : decode cL_law 1742 = .ok (.iconst 0, 1) := by decide +kernel
theorem dL_law_1743 : decode cL_law 1743 = .ok (.laload, 1) := by decide +kernel
theorem dL_law_1744 : decode cL_law 1744 = .ok (.iload 6, 2) := by decide +kernel
theorem dL_law_1746 : decode cL_law 1746 = .ok (.i2l, 1) := by decide +kernel
theorem dL_law_1747 : decode cL_law 1747 = .ok (.lcmp, 1) := by decide +kernel
theorem dL_law_1748 : decode cL_law 1748 = .ok (.ifCond .eq 5, 3) := by decide +kernel
theorem dL_law_1751 : decode cL_law 1751 = .ok (.iconst 0, 1) := by decide +kernel
theorem dL_law_1752 : decode cL_law 1752 = .ok (.ireturn, 1) := by decide +kernel
theorem dL_law_1753 : decode cL_law 1753 = .ok (.goto 28, 3) := by decide +kernel
theorem dL_law_1756 : decode cL_law 1756 = .ok (.aload_n 1, 1) := by decide +kernel
theorem dL_law_1757 : decode cL_law 1757 = .ok (.aload_n 0, 1) := by decide +kernel
theorem dL_law_1758 : decode cL_law 1758 = .ok (.iload 4, 2) := by decide +kernel
theorem dL_law_1760 : decode cL_law 1760 = .ok (.iconst 1, 1) := by decide +kernel
theorem dL_law_1761 : decode cL_law 1761 = .ok (.iadd, 1) := by decide +kernel
theorem dL_law_1762 : decode cL_law 1762 = .ok (.iaload, 1) := by decide +kernel
theorem dL_law_1763 : decode cL_law 1763 = .ok (.invokevirtual 183, 3) := by decide +kernel
theorem dL_law_1766 : decode cL_law 1766 = .ok (.aload_n 2, 1) := by decide +kernel
theorem dL_law_1767 : decode cL_law 1767 = .ok (.aload_n 0, 1) := by decide +kernel
theorem dL_law_1768 : decode cL_law 1768 = .ok (.iload 4, 2) := by decide +kernel
theorem dL_law_1770 : decode cL_law 1770 = .ok (.iconst 1, 1) := by decide +kernel
theorem dL_law_1771 : decode cL_law 1771 = .ok (.iadd, 1) := by decide +kernel
theorem dL_law_1772 : decode cL_law 1772 = .ok (.iaload, 1) := by decide +kernel
theorem dL_law_1773 : decode cL_law 1773 = .ok (.invokevirtual 186, 3) := by decide +kernel
theorem dL_law_1776 : decode cL_law 1776 = .ok (.if_icmp .eq 5, 3) := by decide +kernel
theorem dL_law_1779 : decode cL_law 1779 = .ok (.iconst 0, 1) := by decide +kernel
theorem dL_law_1780 : decode cL_law 1780 = .ok (.ireturn, 1) := by decide +kernel
theorem dL_law_1781 : decode cL_law 1781 = .ok (.iinc 4 6, 3) := by decide +kernel
theorem dL_law_1784 : decode cL_law 1784 = .ok (.goto (-1761), 3) := by decide +kernel
theorem dL_law_1787 : decode cL_law 1787 = .ok (.iconst 1, 1) := by decide +kernel
theorem dL_law_1788 : decode cL_law 1788 = .ok (.ireturn, 1) := by decide +kernel
