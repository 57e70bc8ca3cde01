theorem dX0_init_0 : decode cX0_init 0 = .ok (.aload_n 0, 1) := by decide +kernel
theorem dX0_init_1 : decode cX0_init 1 = .ok (.invokespecial 3, 3) := by decide +kernel
theorem dX0_init_4 : decode cX0_init 4 = .ok (.aload_n 0, 1) := by decide +kernel
theorem dX0_init_5 : decode cX0_init 5 = .ok (.sipush 488, 3) := by decide +kernel
theorem dX0_init_8 : decode cX0_init 8 = .ok (.newarray .int, 2) := by decide +kernel
theorem dX0_init_10 : decode cX0_init 10 = .ok (.putfield 9, 3) := by decide +kernel
theorem dX0_init_13 : decode cX0_init 13 = .ok (.aload_n 0, 1) := by decide +kernel
theorem dX0_init_14 : decode cX0_init 14 = .ok (.sipush 488, 3) := by decide +kernel
theorem dX0_init_17 : decode cX0_init 17 = .ok (.newarray .int, 2) := by decide +kernel
theorem dX0_init_19 : decode cX0_init 19 = .ok (.putfield 15, 3) := by decide +kernel
theorem dX0_init_22 : decode cX0_init 22 = .ok (.aload_n 0, 1) := by decide +kernel
theorem dX0_init_23 : decode cX0_init 23 = .ok (.iconst 0, 1) := by decide +kernel
theorem dX0_init_24 : decode cX0_init 24 = .ok (.putfield 18, 3) := by decide +kernel
theorem dX0_init_27 : decode cX0_init 27 = .ok (.aload_n 0, 1) := by decide +kernel
theorem dX0_init_28 : decode cX0_init 28 = .ok (.bipush 61, 2) := by decide +kernel
theorem dX0_init_30 : decode cX0_init 30 = .ok (.newarray .int, 2) := by decide +kernel
theorem dX0_init_32 : decode cX0_init 32 = .ok (.putfield 22, 3) := by decide +kernel
theorem dX0_init_35 : decode cX0_init 35 = .ok (.aload_n 0, 1) := by decide +kernel
theorem dX0_init_36 : decode cX0_init 36 = .ok (.bipush 61, 2) := by decide +kernel
theorem dX0_init_38 : decode cX0_init 38 = .ok (.newarray .int, 2) := by decide +kernel
theorem dX0_init_40 : decode cX0_init 40 = .ok (.putfield 25, 3) := by decide +kernel
theorem dX0_init_43 : decode cX0_init 43 = .ok (.aload_n 0, 1) := by decide +kernel
theorem dX0_init_44 : decode cX0_init 44 = .ok (.sipush 488, 3) := by decide +kernel
theorem dX0_init_47 : decode cX0_init 47 = .ok (.newarray .long, 2) := by decide +kernel
theorem dX0_init_49 : decode cX0_init 49 = .ok (.putfield 28, 3) := by decide +kernel
theorem dX0_init_52 : decode cX0_init 52 = .ok (.aload_n 0, 1) := by decide +kernel
theorem dX0_init_53 : decode cX0_init 53 = .ok (.iconst 0, 1) := by decide +kernel
theorem dX0_init_54 : decode cX0_init 54 = .ok (.putfield 32, 3) := by decide +kernel
theorem dX0_init_57 : decode cX0_init 57 = .ok (.aload_n 0, 1) := by decide +kernel
theorem dX0_init_58 : decode cX0_init 58 = .ok (.aload_n 1, 1) := by decide +kernel
theorem dX0_init_59 : decode cX0_init 59 = .ok (.putfield 35, 3) := by decide +kernel
theorem dX0_init_62 : decode cX0_init 62 = .ok (.aload_n 0, 1) := by decide +kernel
theorem dX0_init_63 : decode cX0_init 63 = .ok (.aload_n 2, 1) := by decide +kernel
theorem dX0_init_64 : decode cX0_init 64 = .ok (.putfield 39, 3) := by decide +kernel
theorem dX0_init_67 : decode cX0_init 67 = .ok (.return_, 1) := by decide +kernel
theorem dX0_part_0 : decode cX0_part 0 = .ok (.aload_n 0, 1) := by decide +kernel
theorem dX0_part_1 : decode cX0_part 1 = .ok (.getfield 39, 3) := by decide +kernel
theorem dX0_part_4 : decode cX0_part 4 = .ok (.invokevirtual 43, 3) := by decide +kernel
theorem dX0_part_7 : decode cX0_part 7 = .ok (.iload_n 1, 1) := by decide +kernel
theorem dX0_part_8 : decode cX0_part 8 = .ok (.aload_n 0, 1) := by decide +kernel
theorem dX0_part_9 : decode cX0_part 9 = .ok (.getfield 35, 3) := by decide +kernel
theorem dX0_part_12 : decode cX0_part 12 = .ok (.getfield 48, 3) := by decide +kernel
theorem dX0_part_15 : decode cX0_part 15 = .ok (.isub, 1) := by decide +kernel
theorem dX0_part_16 : decode cX0_part 16 = .ok (.iconst 1, 1) := by decide +kernel
theorem dX0_part_17 : decode cX0_part 17 = .ok (.iadd, 1) := by decide +kernel
theorem dX0_part_18 : decode cX0_part 18 = .ok (.istore 4, 2) := by decide +kernel
theorem dX0_part_20 : decode cX0_part 20 = .ok (.aload_n 0, 1) := by decide +kernel
theorem dX0_part_21 : decode cX0_part 21 = .ok (.iconst 0, 1) := by decide +kernel
theorem dX0_part_22 : decode cX0_part 22 = .ok (.putfield 18, 3) := by decide +kernel
theorem dX0_part_25 : decode cX0_part 25 = .ok (.aload_n 0, 1) := by decide +kernel
theorem dX0_part_26 : decode cX0_part 26 = .ok (.iconst 0, 1) := by decide +kernel
theorem dX0_part_27 : decode cX0_part 27 = .ok (.iconst (-1), 1) := by decide +kernel
theorem dX0_part_28 : decode cX0_part 28 = .ok (.invokevirtual 53, 3) := by decide +kernel
theorem dX0_part_31 : decode cX0_part 31 = .ok (.aload_n 0, 1) := by decide +kernel
theorem dX0_part_32 : decode cX0_part 32 = .ok (.iconst 0, 1) := by decide +kernel
theorem dX0_part_33 : decode cX0_part 33 = .ok (.putfield 32, 3) := by decide +kernel
theorem dX0_part_36 : decode cX0_part 36 = .ok (.aload_n 0, 1) := by decide +kernel
theorem dX0_part_37 : decode cX0_part 37 = .ok (.getfield 32, 3) := by decide +kernel
theorem dX0_part_40 : decode cX0_part 40 = .ok (.iload_n 3, 1) := by decide +kernel
theorem dX0_part_41 : decode cX0_part 41 = .ok (.if_icmp .ge 85, 3) := by decide +kernel
theorem dX0_part_44 : decode cX0_part 44 = .ok (.aload_n 0, 1) := by decide +kernel
theorem dX0_part_45 : decode cX0_part 45 = .ok (.getfield 18, 3) := by decide +kernel
theorem dX0_part_48 : decode cX0_part 48 = .ok (.ifCond .le 78, 3) := by decide +kernel
theorem dX0_part_51 : decode cX0_part 51 = .ok (.aload_n 0, 1) := by decide +kernel
theorem dX0_part_52 : decode cX0_part 52 = .ok (.dup, 1) := by decide +kernel
theorem dX0_part_53 : decode cX0_part 53 = .ok (.getfield 18, 3) := by decide +kernel
theorem dX0_part_56 : decode cX0_part 56 = .ok (.iconst 1, 1) := by decide +kernel
theorem dX0_part_57 : decode cX0_part 57 = .ok (.isub, 1) := by decide +kernel
theorem dX0_part_58 : decode cX0_part 58 = .ok (.putfield 18, 3) := by decide +kernel
theorem dX0_part_61 : decode cX0_part 61 = .ok (.aload_n 0, 1) := by decide +kernel
theorem dX0_part_62 : decode cX0_part 62 = .ok (.getfield 9, 3) := by decide +kernel
theorem dX0_part_65 : decode cX0_part 65 = .ok (.aload_n 0, 1) := by decide +kernel
theorem dX0_part_66 : decode cX0_part 66 = .ok (.getfield 18, 3) := by decide +kernel
theorem dX0_part_69 : decode cX0_part 69 = .ok (.iaload, 1) := by decide +kernel
theorem dX0_part_70 : decode cX0_part 70 = .ok (.istore 5, 2) := by decide +kernel
theorem dX0_part_72 : decode cX0_part 72 = .ok (.aload_n 0, 1) := by decide +kernel
theorem dX0_part_73 : decode cX0_part 73 = .ok (.iload 5, 2) := by decide +kernel
theorem dX0_part_75 : decode cX0_part 75 = .ok (.aload_n 0, 1) := by decide +kernel
theorem dX0_part_76 : decode cX0_part 76 = .ok (.getfield 15, 3) := by decide +kernel
theorem dX0_part_79 : decode cX0_part 79 = .ok (.aload_n 0, 1) := by decide +kernel
theorem dX0_part_80 : decode cX0_part 80 = .ok (.getfield 18, 3) := by decide +kernel
theorem dX0_part_83 : decode cX0_part 83 = .ok (.iaload, 1) := by decide +kernel
theorem dX0_part_84 : decode cX0_part 84 = .ok (.invokevirtual 57, 3) := by decide +kernel
theorem dX0_part_87 : decode cX0_part 87 = .ok (.iload 5, 2) := by decide +kernel
theorem dX0_part_89 : decode cX0_part 89 = .ok (.iload 4, 2) := by decide +kernel
theorem dX0_part_91 : decode cX0_part 91 = .ok (.if_icmp .lt 15, 3) := by decide +kernel
theorem dX0_part_94 : decode cX0_part 94 = .ok (.aload_n 0, 1) := by decide +kernel
theorem dX0_part_95 : decode cX0_part 95 = .ok (.dup, 1) := by decide +kernel
theorem dX0_part_96 : decode cX0_part 96 = .ok (.getfield 32, 3) := by decide +kernel
theorem dX0_part_99 : decode cX0_part 99 = .ok (.iconst 1, 1) := by decide +kernel
theorem dX0_part_100 : decode cX0_part 100 = .ok (.iadd, 1) := by decide +kernel
theorem dX0_part_101 : decode cX0_part 101 = .ok (.putfield 32, 3) := by decide +kernel
theorem dX0_part_104 : decode cX0_part 104 = .ok (.iconst 0, 1) := by decide +kernel
theorem dX0_part_105 : decode cX0_part 105 = .ok (.ireturn, 1) := by decide +kernel
theorem dX0_part_106 : decode cX0_part 106 = .ok (.aload_n 0, 1) := by decide +kernel
theorem dX0_part_107 : decode cX0_part 107 = .ok (.iload 5, 2) := by decide +kernel
theorem dX0_part_109 : decode cX0_part 109 = .ok (.iload_n 2, 1) := by decide +kernel
theorem dX0_part_110 : decode cX0_part 110 = .ok (.invokevirtual 60, 3) := by decide +kernel
theorem dX0_part_113 : decode cX0_part 113 = .ok (.aload_n 0, 1) := by decide +kernel
theorem dX0_part_114 : decode cX0_part 114 = .ok (.dup, 1) := by decide +kernel
theorem dX0_part_115 : decode cX0_part 115 = .ok (.getfield 32, 3) := by decide +kernel
theorem dX0_part_118 : decode cX0_part 118 = .ok (.iconst 1, 1) := by decide +kernel
theorem dX0_part_119 : decode cX0_part 119 = .ok (.iadd, 1) := by decide +kernel
theorem dX0_part_120 : decode cX0_part 120 = .ok (.putfield 32, 3) := by decide +kernel
theorem dX0_part_123 : decode cX0_part 123 = .ok (.goto (-87), 3) := by decide +kernel
theorem dX0_part_126 : decode cX0_part 126 = .ok (.aload_n 0, 1) := by decide +kernel
theorem dX0_part_127 : decode cX0_part 127 = .ok (.getfield 18, 3) := by decide +kernel
theorem dX0_part_130 : decode cX0_part 130 = .ok (.ifCond .le 7, 3) := by decide +kernel
theorem dX0_part_133 : decode cX0_part 133 = .ok (.iconst 2, 1) := by decide +kernel
theorem dX0_part_134 : decode cX0_part 134 = .ok (.goto 4, 3) := by decide +kernel
theorem dX0_part_137 : decode cX0_part 137 = .ok (.iconst 1, 1) := by decide +kernel
theorem dX0_part_138 : decode cX0_part 138 = .ok (.ireturn, 1) := by decide +kernel
theorem dX0_pile_0 : decode cX0_pile 0 = .ok (.aload_n 0, 1) := by decide +kernel
theorem dX0_pile_1 : decode cX0_pile 1 = .ok (.getfield 18, 3) := by decide +kernel
theorem dX0_pile_4 : decode cX0_pile 4 = .ok (.aload_n 0, 1) := by decide +kernel
theorem dX0_pile_5 : decode cX0_pile 5 = .ok (.getfield 9, 3) := by decide +kernel
theorem dX0_pile_8 : decode cX0_pile 8 = .ok (.arraylength, 1) := by decide +kernel
theorem dX0_pile_9 : decode cX0_pile 9 = .ok (.if_icmp .ge 33, 3) := by decide +kernel
theorem dX0_pile_12 : decode cX0_pile 12 = .ok (.aload_n 0, 1) := by decide +kernel
theorem dX0_pile_13 : decode cX0_pile 13 = .ok (.getfield 9, 3) := by decide +kernel
theorem dX0_pile_16 : decode cX0_pile 16 = .ok (.aload_n 0, 1) := by decide +kernel
theorem dX0_pile_17 : decode cX0_pile 17 = .ok (.getfield 18, 3) := by decide +kernel
theorem dX0_pile_20 : decode cX0_pile 20 = .ok (.iload_n 1, 1) := by decide +kernel
theorem dX0_pile_21 : decode cX0_pile 21 = .ok (.iastore, 1) := by decide +kernel
theorem dX0_pile_22 : decode cX0_pile 22 = .ok (.aload_n 0, 1) := by decide +kernel
theorem dX0_pile_23 : decode cX0_pile 23 = .ok (.getfield 15, 3) := by decide +kernel
theorem dX0_pile_26 : decode cX0_pile 26 = .ok (.aload_n 0, 1) := by decide +kernel
theorem dX0_pile_27 : decode cX0_pile 27 = .ok (.getfield 18, 3) := by decide +kernel
theorem dX0_pile_30 : decode cX0_pile 30 = .ok (.iload_n 2, 1) := by decide +kernel
theorem dX0_pile_31 : decode cX0_pile 31 = .ok (.iastore, 1) := by decide +kernel
theorem dX0_pile_32 : decode cX0_pile 32 = .ok (.aload_n 0, 1) := by decide +kernel
theorem dX0_pile_33 : decode cX0_pile 33 = .ok (.dup, 1) := by decide +kernel
theorem dX0_pile_34 : decode cX0_pile 34 = .ok (.getfield 18, 3) := by decide +kernel
theorem dX0_pile_37 : decode cX0_pile 37 = .ok (.iconst 1, 1) := by decide +kernel
theorem dX0_pile_38 : decode cX0_pile 38 = .ok (.iadd, 1) := by decide +kernel
theorem dX0_pile_39 : decode cX0_pile 39 = .ok (.putfield 18, 3) := by decide +kernel
theorem dX0_pile_42 : decode cX0_pile 42 = .ok (.return_, 1) := by decide +kernel
theorem dX0_give_0 : decode cX0_give 0 = .ok (.iload_n 1, 1) := by decide +kernel
theorem dX0_give_1 : decode cX0_give 1 = .ok (.ifCond .ne 4, 3) := by decide +kernel
theorem dX0_give_4 : decode cX0_give 4 = .ok (.return_, 1) := by decide +kernel
theorem dX0_give_5 : decode cX0_give 5 = .ok (.aload_n 0, 1) := by decide +kernel
theorem dX0_give_6 : decode cX0_give 6 = .ok (.getfield 22, 3) := by decide +kernel
theorem dX0_give_9 : decode cX0_give 9 = .ok (.iload_n 1, 1) := by decide +kernel
theorem dX0_give_10 : decode cX0_give 10 = .ok (.iload_n 2, 1) := by decide +kernel
theorem dX0_give_11 : decode cX0_give 11 = .ok (.iastore, 1) := by decide +kernel
theorem dX0_give_12 : decode cX0_give 12 = .ok (.aload_n 0, 1) := by decide +kernel
theorem dX0_give_13 : decode cX0_give 13 = .ok (.getfield 25, 3) := by decide +kernel
theorem dX0_give_16 : decode cX0_give 16 = .ok (.iload_n 1, 1) := by decide +kernel
theorem dX0_give_17 : decode cX0_give 17 = .ok (.aload_n 0, 1) := by decide +kernel
theorem dX0_give_18 : decode cX0_give 18 = .ok (.getfield 25, 3) := by decide +kernel
theorem dX0_give_21 : decode cX0_give 21 = .ok (.iload_n 1, 1) := by decide +kernel
theorem dX0_give_22 : decode cX0_give 22 = .ok (.iconst 1, 1) := by decide +kernel
theorem dX0_give_23 : decode cX0_give 23 = .ok (.isub, 1) := by decide +kernel
theorem dX0_give_24 : decode cX0_give 24 = .ok (.iaload, 1) := by decide +kernel
theorem dX0_give_25 : decode cX0_give 25 = .ok (.iload_n 2, 1) := by decide +kernel
theorem dX0_give_26 : decode cX0_give 26 = .ok (.iconst 1, 1) := by decide +kernel
theorem dX0_give_27 : decode cX0_give 27 = .ok (.iadd, 1) := by decide +kernel
theorem dX0_give_28 : decode cX0_give 28 = .ok (.invokestatic 63, 3) := by decide +kernel
theorem dX0_give_31 : decode cX0_give 31 = .ok (.iastore, 1) := by decide +kernel
theorem dX0_give_32 : decode cX0_give 32 = .ok (.iload_n 1, 1) := by decide +kernel
theorem dX0_give_33 : decode cX0_give 33 = .ok (.bipush 8, 2) := by decide +kernel
theorem dX0_give_35 : decode cX0_give 35 = .ok (.imul, 1) := by decide +kernel
theorem dX0_give_36 : decode cX0_give 36 = .ok (.istore_n 3, 1) := by decide +kernel
theorem dX0_give_37 : decode cX0_give 37 = .ok (.aload_n 0, 1) := by decide +kernel
theorem dX0_give_38 : decode cX0_give 38 = .ok (.getfield 28, 3) := by decide +kernel
theorem dX0_give_41 : decode cX0_give 41 = .ok (.iload_n 3, 1) := by decide +kernel
theorem dX0_give_42 : decode cX0_give 42 = .ok (.bipush 8, 2) := by decide +kernel
theorem dX0_give_44 : decode cX0_give 44 = .ok (.isub, 1) := by decide +kernel
theorem dX0_give_45 : decode cX0_give 45 = .ok (.aload_n 0, 1) := by decide +kernel
theorem dX0_give_46 : decode cX0_give 46 = .ok (.getfield 28, 3) := by decide +kernel
theorem dX0_give_49 : decode cX0_give 49 = .ok (.iload_n 3, 1) := by decide +kernel
theorem dX0_give_50 : decode cX0_give 50 = .ok (.bipush 8, 2) := by decide +kernel
theorem dX0_give_52 : decode cX0_give 52 = .ok (.invokestatic 69, 3) := by decide +kernel
theorem dX0_give_55 : decode cX0_give 55 = .ok (.aload_n 0, 1) := by decide +kernel
theorem dX0_give_56 : decode cX0_give 56 = .ok (.getfield 28, 3) := by decide +kernel
theorem dX0_give_59 : decode cX0_give 59 = .ok (.iload_n 3, 1) := by decide +kernel
theorem dX0_give_60 : decode cX0_give 60 = .ok (.iload_n 2, 1) := by decide +kernel
theorem dX0_give_61 : decode cX0_give 61 = .ok (.iadd, 1) := by decide +kernel
theorem dX0_give_62 : decode cX0_give 62 = .ok (.dup2, 1) := by decide +kernel
theorem dX0_give_63 : decode cX0_give 63 = .ok (.laload, 1) := by decide +kernel
theorem dX0_give_64 : decode cX0_give 64 = .ok (.lconst 1, 1) := by decide +kernel
theorem dX0_give_65 : decode cX0_give 65 = .ok (.aload_n 0, 1) := by decide +kernel
theorem dX0_give_66 : decode cX0_give 66 = .ok (.iload_n 1, 1) := by decide +kernel
theorem dX0_give_67 : decode cX0_give 67 = .ok (.invokevirtual 75, 3) := by decide +kernel
theorem dX0_give_70 : decode cX0_give 70 = .ok (.lshl, 1) := by decide +kernel
theorem dX0_give_71 : decode cX0_give 71 = .ok (.lor, 1) := by decide +kernel
theorem dX0_give_72 : decode cX0_give 72 = .ok (.lastore, 1) := by decide +kernel
theorem dX0_give_73 : decode cX0_give 73 = .ok (.return_, 1) := by decide +kernel
theorem dX0_pileChoices_0 : decode cX0_pileChoices 0 = .ok (.aload_n 0, 1) := by decide +kernel
theorem dX0_pileChoices_1 : decode cX0_pileChoices 1 = .ok (.iload_n 1, 1) := by decide +kernel
theorem dX0_pileChoices_2 : decode cX0_pileChoices 2 = .ok (.iconst 1, 1) := by decide +kernel
theorem dX0_pileChoices_3 : decode cX0_pileChoices 3 = .ok (.iadd, 1) := by decide +kernel
theorem dX0_pileChoices_4 : decode cX0_pileChoices 4 = .ok (.invokevirtual 75, 3) := by decide +kernel
theorem dX0_pileChoices_7 : decode cX0_pileChoices 7 = .ok (.istore_n 3, 1) := by decide +kernel
theorem dX0_pileChoices_8 : decode cX0_pileChoices 8 = .ok (.aload_n 0, 1) := by decide +kernel
theorem dX0_pileChoices_9 : decode cX0_pileChoices 9 = .ok (.getfield 25, 3) := by decide +kernel
theorem dX0_pileChoices_12 : decode cX0_pileChoices 12 = .ok (.iload_n 1, 1) := by decide +kernel
theorem dX0_pileChoices_13 : decode cX0_pileChoices 13 = .ok (.iaload, 1) := by decide +kernel
theorem dX0_pileChoices_14 : decode cX0_pileChoices 14 = .ok (.iload_n 2, 1) := by decide +kernel
theorem dX0_pileChoices_15 : decode cX0_pileChoices 15 = .ok (.iconst 1, 1) := by decide +kernel
theorem dX0_pileChoices_16 : decode cX0_pileChoices 16 = .ok (.isub, 1) := by decide +kernel
theorem dX0_pileChoices_17 : decode cX0_pileChoices 17 = .ok (.invokestatic 79, 3) := by decide +kernel
theorem dX0_pileChoices_20 : decode cX0_pileChoices 20 = .ok (.istore 4, 2) := by decide +kernel
theorem dX0_pileChoices_22 : decode cX0_pileChoices 22 = .ok (.iload 4, 2) := by decide +kernel
theorem dX0_pileChoices_24 : decode cX0_pileChoices 24 = .ok (.ifCond .lt 41, 3) := by decide +kernel
theorem dX0_pileChoices_27 : decode cX0_pileChoices 27 = .ok (.aload_n 0, 1) := by decide +kernel
theorem dX0_pileChoices_28 : decode cX0_pileChoices 28 = .ok (.getfield 39, 3) := by decide +kernel
theorem dX0_pileChoices_31 : decode cX0_pileChoices 31 = .ok (.aload_n 0, 1) := by decide +kernel
theorem dX0_pileChoices_32 : decode cX0_pileChoices 32 = .ok (.getfield 28, 3) := by decide +kernel
theorem dX0_pileChoices_35 : decode cX0_pileChoices 35 = .ok (.iload_n 1, 1) := by decide +kernel
theorem dX0_pileChoices_36 : decode cX0_pileChoices 36 = .ok (.bipush 8, 2) := by decide +kernel
theorem dX0_pileChoices_38 : decode cX0_pileChoices 38 = .ok (.imul, 1) := by decide +kernel
theorem dX0_pileChoices_39 : decode cX0_pileChoices 39 = .ok (.iload 4, 2) := by decide +kernel
theorem dX0_pileChoices_41 : decode cX0_pileChoices 41 = .ok (.iadd, 1) := by decide +kernel
theorem dX0_pileChoices_42 : decode cX0_pileChoices 42 = .ok (.laload, 1) := by decide +kernel
theorem dX0_pileChoices_43 : decode cX0_pileChoices 43 = .ok (.iload_n 3, 1) := by decide +kernel
theorem dX0_pileChoices_44 : decode cX0_pileChoices 44 = .ok (.invokevirtual 82, 3) := by decide +kernel
theorem dX0_pileChoices_47 : decode cX0_pileChoices 47 = .ok (.ifCond .eq 12, 3) := by decide +kernel
theorem dX0_pileChoices_50 : decode cX0_pileChoices 50 = .ok (.aload_n 0, 1) := by decide +kernel
theorem dX0_pileChoices_51 : decode cX0_pileChoices 51 = .ok (.iload_n 1, 1) := by decide +kernel
theorem dX0_pileChoices_52 : decode cX0_pileChoices 52 = .ok (.iconst 1, 1) := by decide +kernel
theorem dX0_pileChoices_53 : decode cX0_pileChoices 53 = .ok (.iadd, 1) := by decide +kernel
theorem dX0_pileChoices_54 : decode cX0_pileChoices 54 = .ok (.iload 4, 2) := by decide +kernel
theorem dX0_pileChoices_56 : decode cX0_pileChoices 56 = .ok (.invokevirtual 53, 3) := by decide +kernel
theorem dX0_pileChoices_59 : decode cX0_pileChoices 59 = .ok (.iinc 4 (-1), 3) := by decide +kernel
theorem dX0_pileChoices_62 : decode cX0_pileChoices 62 = .ok (.goto (-40), 3) := by decide +kernel
theorem dX0_pileChoices_65 : decode cX0_pileChoices 65 = .ok (.return_, 1) := by decide +kernel
theorem dX0_numberOf_0 : decode cX0_numberOf 0 = .ok (.aload_n 0, 1) := by decide +kernel
theorem dX0_numberOf_1 : decode cX0_numberOf 1 = .ok (.getfield 35, 3) := by decide +kernel
theorem dX0_numberOf_4 : decode cX0_numberOf 4 = .ok (.getfield 48, 3) := by decide +kernel
theorem dX0_numberOf_7 : decode cX0_numberOf 7 = .ok (.iload_n 1, 1) := by decide +kernel
theorem dX0_numberOf_8 : decode cX0_numberOf 8 = .ok (.iadd, 1) := by decide +kernel
theorem dX0_numberOf_9 : decode cX0_numberOf 9 = .ok (.iconst 1, 1) := by decide +kernel
theorem dX0_numberOf_10 : decode cX0_numberOf 10 = .ok (.isub, 1) := by decide +kernel
theorem dX0_numberOf_11 : decode cX0_numberOf 11 = .ok (.ireturn, 1) := by decide +kernel
theorem dX0_copyTo_0 : decode cX0_copyTo 0 = .ok (.aload_n 0, 1) := by decide +kernel
theorem dX0_copyTo_1 : decode cX0_copyTo 1 = .ok (.getfield 35, 3) := by decide +kernel
theorem dX0_copyTo_4 : decode cX0_copyTo 4 = .ok (.getfield 48, 3) := by decide +kernel
theorem dX0_copyTo_7 : decode cX0_copyTo 7 = .ok (.istore_n 2, 1) := by decide +kernel
theorem dX0_copyTo_8 : decode cX0_copyTo 8 = .ok (.iload_n 2, 1) := by decide +kernel
theorem dX0_copyTo_9 : decode cX0_copyTo 9 = .ok (.aload_n 0, 1) := by decide +kernel
theorem dX0_copyTo_10 : decode cX0_copyTo 10 = .ok (.getfield 35, 3) := by decide +kernel
theorem dX0_copyTo_13 : decode cX0_copyTo 13 = .ok (.getfield 86, 3) := by decide +kernel
theorem dX0_copyTo_16 : decode cX0_copyTo 16 = .ok (.if_icmp .gt 28, 3) := by decide +kernel
theorem dX0_copyTo_19 : decode cX0_copyTo 19 = .ok (.aload_n 1, 1) := by decide +kernel
theorem dX0_copyTo_20 : decode cX0_copyTo 20 = .ok (.iload_n 2, 1) := by decide +kernel
theorem dX0_copyTo_21 : decode cX0_copyTo 21 = .ok (.aload_n 0, 1) := by decide +kernel
theorem dX0_copyTo_22 : decode cX0_copyTo 22 = .ok (.getfield 22, 3) := by decide +kernel
theorem dX0_copyTo_25 : decode cX0_copyTo 25 = .ok (.iload_n 2, 1) := by decide +kernel
theorem dX0_copyTo_26 : decode cX0_copyTo 26 = .ok (.aload_n 0, 1) := by decide +kernel
theorem dX0_copyTo_27 : decode cX0_copyTo 27 = .ok (.getfield 35, 3) := by decide +kernel
theorem dX0_copyTo_30 : decode cX0_copyTo 30 = .ok (.getfield 48, 3) := by decide +kernel
theorem dX0_copyTo_33 : decode cX0_copyTo 33 = .ok (.isub, 1) := by decide +kernel
theorem dX0_copyTo_34 : decode cX0_copyTo 34 = .ok (.iconst 1, 1) := by decide +kernel
theorem dX0_copyTo_35 : decode cX0_copyTo 35 = .ok (.iadd, 1) := by decide +kernel
theorem dX0_copyTo_36 : decode cX0_copyTo 36 = .ok (.iaload, 1) := by decide +kernel
theorem dX0_copyTo_37 : decode cX0_copyTo 37 = .ok (.iastore, 1) := by decide +kernel
theorem dX0_copyTo_38 : decode cX0_copyTo 38 = .ok (.iinc 2 1, 3) := by decide +kernel
theorem dX0_copyTo_41 : decode cX0_copyTo 41 = .ok (.goto (-33), 3) := by decide +kernel
theorem dX0_copyTo_44 : decode cX0_copyTo 44 = .ok (.return_, 1) := by decide +kernel
theorem dX1_init_0 : decode cX1_init 0 = .ok (.aload_n 0, 1) := by decide +kernel
theorem dX1_init_1 : decode cX1_init 1 = .ok (.invokespecial 3, 3) := by decide +kernel
theorem dX1_init_4 : decode cX1_init 4 = .ok (.aload_n 0, 1) := by decide +kernel
theorem dX1_init_5 : decode cX1_init 5 = .ok (.iconst 0, 1) := by decide +kernel
theorem dX1_init_6 : decode cX1_init 6 = .ok (.bipush 20, 2) := by decide +kernel
theorem dX1_init_8 : decode cX1_init 8 = .ok (.invokevirtual 9, 3) := by decide +kernel
theorem dX1_init_11 : decode cX1_init 11 = .ok (.pop, 1) := by decide +kernel
theorem dX1_init_12 : decode cX1_init 12 = .ok (.return_, 1) := by decide +kernel
theorem dX1_lay_0 : decode cX1_lay 0 = .ok (.iload_n 1, 1) := by decide +kernel
theorem dX1_lay_1 : decode cX1_lay 1 = .ok (.iload_n 2, 1) := by decide +kernel
theorem dX1_lay_2 : decode cX1_lay 2 = .ok (.invokestatic 15, 3) := by decide +kernel
theorem dX1_lay_5 : decode cX1_lay 5 = .ok (.ifCond .ne 5, 3) := by decide +kernel
theorem dX1_lay_8 : decode cX1_lay 8 = .ok (.iconst 0, 1) := by decide +kernel
theorem dX1_lay_9 : decode cX1_lay 9 = .ok (.ireturn, 1) := by decide +kernel
theorem dX1_lay_10 : decode cX1_lay 10 = .ok (.aload_n 0, 1) := by decide +kernel
theorem dX1_lay_11 : decode cX1_lay 11 = .ok (.iload_n 1, 1) := by decide +kernel
theorem dX1_lay_12 : decode cX1_lay 12 = .ok (.putfield 18, 3) := by decide +kernel
theorem dX1_lay_15 : decode cX1_lay 15 = .ok (.aload_n 0, 1) := by decide +kernel
theorem dX1_lay_16 : decode cX1_lay 16 = .ok (.iload_n 2, 1) := by decide +kernel
theorem dX1_lay_17 : decode cX1_lay 17 = .ok (.putfield 22, 3) := by decide +kernel
theorem dX1_lay_20 : decode cX1_lay 20 = .ok (.aload_n 0, 1) := by decide +kernel
theorem dX1_lay_21 : decode cX1_lay 21 = .ok (.aload_n 0, 1) := by decide +kernel
theorem dX1_lay_22 : decode cX1_lay 22 = .ok (.getfield 18, 3) := by decide +kernel
theorem dX1_lay_25 : decode cX1_lay 25 = .ok (.ifCond .ne 7, 3) := by decide +kernel
theorem dX1_lay_28 : decode cX1_lay 28 = .ok (.iconst 1, 1) := by decide +kernel
theorem dX1_lay_29 : decode cX1_lay 29 = .ok (.goto 4, 3) := by decide +kernel
theorem dX1_lay_32 : decode cX1_lay 32 = .ok (.iconst 0, 1) := by decide +kernel
theorem dX1_lay_33 : decode cX1_lay 33 = .ok (.putfield 25, 3) := by decide +kernel
theorem dX1_lay_36 : decode cX1_lay 36 = .ok (.aload_n 0, 1) := by decide +kernel
theorem dX1_lay_37 : decode cX1_lay 37 = .ok (.iload_n 1, 1) := by decide +kernel
theorem dX1_lay_38 : decode cX1_lay 38 = .ok (.iload_n 2, 1) := by decide +kernel
theorem dX1_lay_39 : decode cX1_lay 39 = .ok (.invokestatic 28, 3) := by decide +kernel
theorem dX1_lay_42 : decode cX1_lay 42 = .ok (.putfield 32, 3) := by decide +kernel
theorem dX1_lay_45 : decode cX1_lay 45 = .ok (.aload_n 0, 1) := by decide +kernel
theorem dX1_lay_46 : decode cX1_lay 46 = .ok (.lconst 0, 1) := by decide +kernel
theorem dX1_lay_47 : decode cX1_lay 47 = .ok (.putfield 35, 3) := by decide +kernel
theorem dX1_lay_50 : decode cX1_lay 50 = .ok (.aload_n 0, 1) := by decide +kernel
theorem dX1_lay_51 : decode cX1_lay 51 = .ok (.getfield 25, 3) := by decide +kernel
theorem dX1_lay_54 : decode cX1_lay 54 = .ok (.istore_n 3, 1) := by decide +kernel
theorem dX1_lay_55 : decode cX1_lay 55 = .ok (.iload_n 3, 1) := by decide +kernel
theorem dX1_lay_56 : decode cX1_lay 56 = .ok (.aload_n 0, 1) := by decide +kernel
theorem dX1_lay_57 : decode cX1_lay 57 = .ok (.getfield 32, 3) := by decide +kernel
theorem dX1_lay_60 : decode cX1_lay 60 = .ok (.if_icmp .gt 21, 3) := by decide +kernel
theorem dX1_lay_63 : decode cX1_lay 63 = .ok (.aload_n 0, 1) := by decide +kernel
theorem dX1_lay_64 : decode cX1_lay 64 = .ok (.dup, 1) := by decide +kernel
theorem dX1_lay_65 : decode cX1_lay 65 = .ok (.getfield 35, 3) := by decide +kernel
theorem dX1_lay_68 : decode cX1_lay 68 = .ok (.lconst 1, 1) := by decide +kernel
theorem dX1_lay_69 : decode cX1_lay 69 = .ok (.iload_n 3, 1) := by decide +kernel
theorem dX1_lay_70 : decode cX1_lay 70 = .ok (.lshl, 1) := by decide +kernel
theorem dX1_lay_71 : decode cX1_lay 71 = .ok (.lor, 1) := by decide +kernel
theorem dX1_lay_72 : decode cX1_lay 72 = .ok (.putfield 35, 3) := by decide +kernel
theorem dX1_lay_75 : decode cX1_lay 75 = .ok (.iinc 3 1, 3) := by decide +kernel
theorem dX1_lay_78 : decode cX1_lay 78 = .ok (.goto (-23), 3) := by decide +kernel
theorem dX1_lay_81 : decode cX1_lay 81 = .ok (.iconst 1, 1) := by decide +kernel
theorem dX1_lay_82 : decode cX1_lay 82 = .ok (.ireturn, 1) := by decide +kernel
theorem dX1_fits_0 : decode cX1_fits 0 = .ok (.iload_n 0, 1) := by decide +kernel
theorem dX1_fits_1 : decode cX1_fits 1 = .ok (.tableswitch 77 0 2 #[27, 44, 61], 27) := by decide +kernel
theorem dX1_fits_28 : decode cX1_fits 28 = .ok (.iload_n 1, 1) := by decide +kernel
theorem dX1_fits_29 : decode cX1_fits 29 = .ok (.iconst 1, 1) := by decide +kernel
theorem dX1_fits_30 : decode cX1_fits 30 = .ok (.if_icmp .lt 13, 3) := by decide +kernel
theorem dX1_fits_33 : decode cX1_fits 33 = .ok (.iload_n 1, 1) := by decide +kernel
theorem dX1_fits_34 : decode cX1_fits 34 = .ok (.bipush 60, 2) := by decide +kernel
theorem dX1_fits_36 : decode cX1_fits 36 = .ok (.if_icmp .gt 7, 3) := by decide +kernel
theorem dX1_fits_39 : decode cX1_fits 39 = .ok (.iconst 1, 1) := by decide +kernel
theorem dX1_fits_40 : decode cX1_fits 40 = .ok (.goto 4, 3) := by decide +kernel
theorem dX1_fits_43 : decode cX1_fits 43 = .ok (.iconst 0, 1) := by decide +kernel
theorem dX1_fits_44 : decode cX1_fits 44 = .ok (.ireturn, 1) := by decide +kernel
theorem dX1_fits_45 : decode cX1_fits 45 = .ok (.iload_n 1, 1) := by decide +kernel
theorem dX1_fits_46 : decode cX1_fits 46 = .ok (.iconst 2, 1) := by decide +kernel
theorem dX1_fits_47 : decode cX1_fits 47 = .ok (.if_icmp .lt 13, 3) := by decide +kernel
theorem dX1_fits_50 : decode cX1_fits 50 = .ok (.iload_n 1, 1) := by decide +kernel
theorem dX1_fits_51 : decode cX1_fits 51 = .ok (.bipush 60, 2) := by decide +kernel
theorem dX1_fits_53 : decode cX1_fits 53 = .ok (.if_icmp .gt 7, 3) := by decide +kernel
theorem dX1_fits_56 : decode cX1_fits 56 = .ok (.iconst 1, 1) := by decide +kernel
theorem dX1_fits_57 : decode cX1_fits 57 = .ok (.goto 4, 3) := by decide +kernel
theorem dX1_fits_60 : decode cX1_fits 60 = .ok (.iconst 0, 1) := by decide +kernel
theorem dX1_fits_61 : decode cX1_fits 61 = .ok (.ireturn, 1) := by decide +kernel
theorem dX1_fits_62 : decode cX1_fits 62 = .ok (.iload_n 1, 1) := by decide +kernel
theorem dX1_fits_63 : decode cX1_fits 63 = .ok (.iconst 1, 1) := by decide +kernel
theorem dX1_fits_64 : decode cX1_fits 64 = .ok (.if_icmp .lt 12, 3) := by decide +kernel
theorem dX1_fits_67 : decode cX1_fits 67 = .ok (.iload_n 1, 1) := by decide +kernel
theorem dX1_fits_68 : decode cX1_fits 68 = .ok (.iconst 3, 1) := by decide +kernel
theorem dX1_fits_69 : decode cX1_fits 69 = .ok (.if_icmp .gt 7, 3) := by decide +kernel
theorem dX1_fits_72 : decode cX1_fits 72 = .ok (.iconst 1, 1) := by decide +kernel
theorem dX1_fits_73 : decode cX1_fits 73 = .ok (.goto 4, 3) := by decide +kernel
theorem dX1_fits_76 : decode cX1_fits 76 = .ok (.iconst 0, 1) := by decide +kernel
theorem dX1_fits_77 : decode cX1_fits 77 = .ok (.ireturn, 1) := by decide +kernel
theorem dX1_fits_78 : decode cX1_fits 78 = .ok (.iconst 0, 1) := by decide +kernel
theorem dX1_fits_79 : decode cX1_fits 79 = .ok (.ireturn, 1) := by decide +kernel
theorem dX1_lastOf_0 : decode cX1_lastOf 0 = .ok (.iload_n 0, 1) := by decide +kernel
theorem dX1_lastOf_1 : decode cX1_lastOf 1 = .ok (.ifCond .ne 5, 3) := by decide +kernel
theorem dX1_lastOf_4 : decode cX1_lastOf 4 = .ok (.iload_n 1, 1) := by decide +kernel
theorem dX1_lastOf_5 : decode cX1_lastOf 5 = .ok (.ireturn, 1) := by decide +kernel
theorem dX1_lastOf_6 : decode cX1_lastOf 6 = .ok (.iload_n 0, 1) := by decide +kernel
theorem dX1_lastOf_7 : decode cX1_lastOf 7 = .ok (.iconst 1, 1) := by decide +kernel
theorem dX1_lastOf_8 : decode cX1_lastOf 8 = .ok (.if_icmp .ne 7, 3) := by decide +kernel
theorem dX1_lastOf_11 : decode cX1_lastOf 11 = .ok (.iload_n 1, 1) := by decide +kernel
theorem dX1_lastOf_12 : decode cX1_lastOf 12 = .ok (.iconst 1, 1) := by decide +kernel
theorem dX1_lastOf_13 : decode cX1_lastOf 13 = .ok (.isub, 1) := by decide +kernel
theorem dX1_lastOf_14 : decode cX1_lastOf 14 = .ok (.ireturn, 1) := by decide +kernel
theorem dX1_lastOf_15 : decode cX1_lastOf 15 = .ok (.iconst 1, 1) := by decide +kernel
theorem dX1_lastOf_16 : decode cX1_lastOf 16 = .ok (.istore_n 2, 1) := by decide +kernel
theorem dX1_lastOf_17 : decode cX1_lastOf 17 = .ok (.iconst 0, 1) := by decide +kernel
theorem dX1_lastOf_18 : decode cX1_lastOf 18 = .ok (.istore_n 3, 1) := by decide +kernel
theorem dX1_lastOf_19 : decode cX1_lastOf 19 = .ok (.iload_n 3, 1) := by decide +kernel
theorem dX1_lastOf_20 : decode cX1_lastOf 20 = .ok (.iload_n 1, 1) := by decide +kernel
theorem dX1_lastOf_21 : decode cX1_lastOf 21 = .ok (.if_icmp .ge 13, 3) := by decide +kernel
theorem dX1_lastOf_24 : decode cX1_lastOf 24 = .ok (.iload_n 2, 1) := by decide +kernel
theorem dX1_lastOf_25 : decode cX1_lastOf 25 = .ok (.iconst 3, 1) := by decide +kernel
theorem dX1_lastOf_26 : decode cX1_lastOf 26 = .ok (.imul, 1) := by decide +kernel
theorem dX1_lastOf_27 : decode cX1_lastOf 27 = .ok (.istore_n 2, 1) := by decide +kernel
theorem dX1_lastOf_28 : decode cX1_lastOf 28 = .ok (.iinc 3 1, 3) := by decide +kernel
theorem dX1_lastOf_31 : decode cX1_lastOf 31 = .ok (.goto (-12), 3) := by decide +kernel
theorem dX1_lastOf_34 : decode cX1_lastOf 34 = .ok (.iload_n 2, 1) := by decide +kernel
theorem dX1_lastOf_35 : decode cX1_lastOf 35 = .ok (.iconst 1, 1) := by decide +kernel
theorem dX1_lastOf_36 : decode cX1_lastOf 36 = .ok (.isub, 1) := by decide +kernel
theorem dX1_lastOf_37 : decode cX1_lastOf 37 = .ok (.ireturn, 1) := by decide +kernel
theorem dX1_contains_0 : decode cX1_contains 0 = .ok (.lload_n 1, 1) := by decide +kernel
theorem dX1_contains_1 : decode cX1_contains 1 = .ok (.aload_n 0, 1) := by decide +kernel
theorem dX1_contains_2 : decode cX1_contains 2 = .ok (.getfield 25, 3) := by decide +kernel
theorem dX1_contains_5 : decode cX1_contains 5 = .ok (.i2l, 1) := by decide +kernel
theorem dX1_contains_6 : decode cX1_contains 6 = .ok (.lcmp, 1) := by decide +kernel
theorem dX1_contains_7 : decode cX1_contains 7 = .ok (.ifCond .lt 17, 3) := by decide +kernel
theorem dX1_contains_10 : decode cX1_contains 10 = .ok (.lload_n 1, 1) := by decide +kernel
theorem dX1_contains_11 : decode cX1_contains 11 = .ok (.aload_n 0, 1) := by decide +kernel
theorem dX1_contains_12 : decode cX1_contains 12 = .ok (.getfield 32, 3) := by decide +kernel
theorem dX1_contains_15 : decode cX1_contains 15 = .ok (.i2l, 1) := by decide +kernel
theorem dX1_contains_16 : decode cX1_contains 16 = .ok (.lcmp, 1) := by decide +kernel
theorem dX1_contains_17 : decode cX1_contains 17 = .ok (.ifCond .gt 7, 3) := by decide +kernel
theorem dX1_contains_20 : decode cX1_contains 20 = .ok (.iconst 1, 1) := by decide +kernel
theorem dX1_contains_21 : decode cX1_contains 21 = .ok (.goto 4, 3) := by decide +kernel
theorem dX1_contains_24 : decode cX1_contains 24 = .ok (.iconst 0, 1) := by decide +kernel
theorem dX1_contains_25 : decode cX1_contains 25 = .ok (.ireturn, 1) := by decide +kernel
theorem dX1_isIn_0 : decode cX1_isIn 0 = .ok (.aload_n 0, 1) := by decide +kernel
theorem dX1_isIn_1 : decode cX1_isIn 1 = .ok (.iload_n 3, 1) := by decide +kernel
theorem dX1_isIn_2 : decode cX1_isIn 2 = .ok (.i2l, 1) := by decide +kernel
theorem dX1_isIn_3 : decode cX1_isIn 3 = .ok (.invokevirtual 39, 3) := by decide +kernel
theorem dX1_isIn_6 : decode cX1_isIn 6 = .ok (.ifCond .eq 17, 3) := by decide +kernel
theorem dX1_isIn_9 : decode cX1_isIn 9 = .ok (.lload_n 1, 1) := by decide +kernel
theorem dX1_isIn_10 : decode cX1_isIn 10 = .ok (.iload_n 3, 1) := by decide +kernel
theorem dX1_isIn_11 : decode cX1_isIn 11 = .ok (.lushr, 1) := by decide +kernel
theorem dX1_isIn_12 : decode cX1_isIn 12 = .ok (.lconst 1, 1) := by decide +kernel
theorem dX1_isIn_13 : decode cX1_isIn 13 = .ok (.land, 1) := by decide +kernel
theorem dX1_isIn_14 : decode cX1_isIn 14 = .ok (.lconst 0, 1) := by decide +kernel
theorem dX1_isIn_15 : decode cX1_isIn 15 = .ok (.lcmp, 1) := by decide +kernel
theorem dX1_isIn_16 : decode cX1_isIn 16 = .ok (.ifCond .eq 7, 3) := by decide +kernel
theorem dX1_isIn_19 : decode cX1_isIn 19 = .ok (.iconst 1, 1) := by decide +kernel
theorem dX1_isIn_20 : decode cX1_isIn 20 = .ok (.goto 4, 3) := by decide +kernel
theorem dX1_isIn_23 : decode cX1_isIn 23 = .ok (.iconst 0, 1) := by decide +kernel
theorem dX1_isIn_24 : decode cX1_isIn 24 = .ok (.ireturn, 1) := by decide +kernel
theorem dX1_mix_0 : decode cX1_mix 0 = .ok (.aload_n 0, 1) := by decide +kernel
theorem dX1_mix_1 : decode cX1_mix 1 = .ok (.getfield 18, 3) := by decide +kernel
theorem dX1_mix_4 : decode cX1_mix 4 = .ok (.lookupswitch 54 #[(1, 28), (2, 44)], 28) := by decide +kernel
theorem dX1_mix_32 : decode cX1_mix 32 = .ok (.iload_n 1, 1) := by decide +kernel
theorem dX1_mix_33 : decode cX1_mix 33 = .ok (.iload_n 2, 1) := by decide +kernel
theorem dX1_mix_34 : decode cX1_mix 34 = .ok (.imul, 1) := by decide +kernel
theorem dX1_mix_35 : decode cX1_mix 35 = .ok (.iload_n 3, 1) := by decide +kernel
theorem dX1_mix_36 : decode cX1_mix 36 = .ok (.iload 4, 2) := by decide +kernel
theorem dX1_mix_38 : decode cX1_mix 38 = .ok (.imul, 1) := by decide +kernel
theorem dX1_mix_39 : decode cX1_mix 39 = .ok (.iadd, 1) := by decide +kernel
theorem dX1_mix_40 : decode cX1_mix 40 = .ok (.aload_n 0, 1) := by decide +kernel
theorem dX1_mix_41 : decode cX1_mix 41 = .ok (.getfield 22, 3) := by decide +kernel
theorem dX1_mix_44 : decode cX1_mix 44 = .ok (.invokestatic 43, 3) := by decide +kernel
theorem dX1_mix_47 : decode cX1_mix 47 = .ok (.ireturn, 1) := by decide +kernel
theorem dX1_mix_48 : decode cX1_mix 48 = .ok (.aload_n 0, 1) := by decide +kernel
theorem dX1_mix_49 : decode cX1_mix 49 = .ok (.iload_n 1, 1) := by decide +kernel
theorem dX1_mix_50 : decode cX1_mix 50 = .ok (.iload_n 2, 1) := by decide +kernel
theorem dX1_mix_51 : decode cX1_mix 51 = .ok (.iload_n 3, 1) := by decide +kernel
theorem dX1_mix_52 : decode cX1_mix 52 = .ok (.iload 4, 2) := by decide +kernel
theorem dX1_mix_54 : decode cX1_mix 54 = .ok (.invokevirtual 48, 3) := by decide +kernel
theorem dX1_mix_57 : decode cX1_mix 57 = .ok (.ireturn, 1) := by decide +kernel
theorem dX1_mix_58 : decode cX1_mix 58 = .ok (.iload_n 1, 1) := by decide +kernel
theorem dX1_mix_59 : decode cX1_mix 59 = .ok (.iload_n 2, 1) := by decide +kernel
theorem dX1_mix_60 : decode cX1_mix 60 = .ok (.imul, 1) := by decide +kernel
theorem dX1_mix_61 : decode cX1_mix 61 = .ok (.iload_n 3, 1) := by decide +kernel
theorem dX1_mix_62 : decode cX1_mix 62 = .ok (.iload 4, 2) := by decide +kernel
theorem dX1_mix_64 : decode cX1_mix 64 = .ok (.imul, 1) := by decide +kernel
theorem dX1_mix_65 : decode cX1_mix 65 = .ok (.iadd, 1) := by decide +kernel
theorem dX1_mix_66 : decode cX1_mix 66 = .ok (.ireturn, 1) := by decide +kernel
theorem dX1_times_0 : decode cX1_times 0 = .ok (.aload_n 0, 1) := by decide +kernel
theorem dX1_times_1 : decode cX1_times 1 = .ok (.getfield 18, 3) := by decide +kernel
theorem dX1_times_4 : decode cX1_times 4 = .ok (.lookupswitch 46 #[(1, 28), (2, 39)], 28) := by decide +kernel
theorem dX1_times_32 : decode cX1_times 32 = .ok (.iload_n 1, 1) := by decide +kernel
theorem dX1_times_33 : decode cX1_times 33 = .ok (.iload_n 2, 1) := by decide +kernel
theorem dX1_times_34 : decode cX1_times 34 = .ok (.imul, 1) := by decide +kernel
theorem dX1_times_35 : decode cX1_times 35 = .ok (.aload_n 0, 1) := by decide +kernel
theorem dX1_times_36 : decode cX1_times 36 = .ok (.getfield 22, 3) := by decide +kernel
theorem dX1_times_39 : decode cX1_times 39 = .ok (.invokestatic 43, 3) := by decide +kernel
theorem dX1_times_42 : decode cX1_times 42 = .ok (.ireturn, 1) := by decide +kernel
theorem dX1_times_43 : decode cX1_times 43 = .ok (.aload_n 0, 1) := by decide +kernel
theorem dX1_times_44 : decode cX1_times 44 = .ok (.iload_n 1, 1) := by decide +kernel
theorem dX1_times_45 : decode cX1_times 45 = .ok (.iload_n 2, 1) := by decide +kernel
theorem dX1_times_46 : decode cX1_times 46 = .ok (.invokevirtual 52, 3) := by decide +kernel
theorem dX1_times_49 : decode cX1_times 49 = .ok (.ireturn, 1) := by decide +kernel
theorem dX1_times_50 : decode cX1_times 50 = .ok (.iload_n 1, 1) := by decide +kernel
theorem dX1_times_51 : decode cX1_times 51 = .ok (.iload_n 2, 1) := by decide +kernel
theorem dX1_times_52 : decode cX1_times 52 = .ok (.imul, 1) := by decide +kernel
theorem dX1_times_53 : decode cX1_times 53 = .ok (.ireturn, 1) := by decide +kernel
theorem dX1_mixThrees_0 : decode cX1_mixThrees 0 = .ok (.iconst 0, 1) := by decide +kernel
theorem dX1_mixThrees_1 : decode cX1_mixThrees 1 = .ok (.istore 5, 2) := by decide +kernel
theorem dX1_mixThrees_3 : decode cX1_mixThrees 3 = .ok (.iconst 1, 1) := by decide +kernel
theorem dX1_mixThrees_4 : decode cX1_mixThrees 4 = .ok (.istore 6, 2) := by decide +kernel
theorem dX1_mixThrees_6 : decode cX1_mixThrees 6 = .ok (.iconst 0, 1) := by decide +kernel
theorem dX1_mixThrees_7 : decode cX1_mixThrees 7 = .ok (.istore 7, 2) := by decide +kernel
theorem dX1_mixThrees_9 : decode cX1_mixThrees 9 = .ok (.iload 7, 2) := by decide +kernel
theorem dX1_mixThrees_11 : decode cX1_mixThrees 11 = .ok (.aload_n 0, 1) := by decide +kernel
theorem dX1_mixThrees_12 : decode cX1_mixThrees 12 = .ok (.getfield 22, 3) := by decide +kernel
theorem dX1_mixThrees_15 : decode cX1_mixThrees 15 = .ok (.if_icmp .ge 59, 3) := by decide +kernel
theorem dX1_mixThrees_18 : decode cX1_mixThrees 18 = .ok (.iload_n 1, 1) := by decide +kernel
theorem dX1_mixThrees_19 : decode cX1_mixThrees 19 = .ok (.iload_n 2, 1) := by decide +kernel
theorem dX1_mixThrees_20 : decode cX1_mixThrees 20 = .ok (.iload 6, 2) := by decide +kernel
theorem dX1_mixThrees_22 : decode cX1_mixThrees 22 = .ok (.idiv, 1) := by decide +kernel
theorem dX1_mixThrees_23 : decode cX1_mixThrees 23 = .ok (.iconst 3, 1) := by decide +kernel
theorem dX1_mixThrees_24 : decode cX1_mixThrees 24 = .ok (.irem, 1) := by decide +kernel
theorem dX1_mixThrees_25 : decode cX1_mixThrees 25 = .ok (.imul, 1) := by decide +kernel
theorem dX1_mixThrees_26 : decode cX1_mixThrees 26 = .ok (.iload_n 3, 1) := by decide +kernel
theorem dX1_mixThrees_27 : decode cX1_mixThrees 27 = .ok (.iload 4, 2) := by decide +kernel
theorem dX1_mixThrees_29 : decode cX1_mixThrees 29 = .ok (.iload 6, 2) := by decide +kernel
theorem dX1_mixThrees_31 : decode cX1_mixThrees 31 = .ok (.idiv, 1) := by decide +kernel
theorem dX1_mixThrees_32 : decode cX1_mixThrees 32 = .ok (.iconst 3, 1) := by decide +kernel
theorem dX1_mixThrees_33 : decode cX1_mixThrees 33 = .ok (.irem, 1) := by decide +kernel
theorem dX1_mixThrees_34 : decode cX1_mixThrees 34 = .ok (.imul, 1) := by decide +kernel
theorem dX1_mixThrees_35 : decode cX1_mixThrees 35 = .ok (.iadd, 1) := by decide +kernel
theorem dX1_mixThrees_36 : decode cX1_mixThrees 36 = .ok (.iconst 3, 1) := by decide +kernel
theorem dX1_mixThrees_37 : decode cX1_mixThrees 37 = .ok (.irem, 1) := by decide +kernel
theorem dX1_mixThrees_38 : decode cX1_mixThrees 38 = .ok (.istore 8, 2) := by decide +kernel
theorem dX1_mixThrees_40 : decode cX1_mixThrees 40 = .ok (.iload 5, 2) := by decide +kernel
theorem dX1_mixThrees_42 : decode cX1_mixThrees 42 = .ok (.iload 6, 2) := by decide +kernel
theorem dX1_mixThrees_44 : decode cX1_mixThrees 44 = .ok (.iload 8, 2) := by decide +kernel
theorem dX1_mixThrees_46 : decode cX1_mixThrees 46 = .ok (.ifCond .ge 10, 3) := by decide +kernel
theorem dX1_mixThrees_49 : decode cX1_mixThrees 49 = .ok (.iload 8, 2) := by decide +kernel
theorem dX1_mixThrees_51 : decode cX1_mixThrees 51 = .ok (.iconst 3, 1) := by decide +kernel
theorem dX1_mixThrees_52 : decode cX1_mixThrees 52 = .ok (.iadd, 1) := by decide +kernel
theorem dX1_mixThrees_53 : decode cX1_mixThrees 53 = .ok (.goto 5, 3) := by decide +kernel
theorem dX1_mixThrees_56 : decode cX1_mixThrees 56 = .ok (.iload 8, 2) := by decide +kernel
theorem dX1_mixThrees_58 : decode cX1_mixThrees 58 = .ok (.imul, 1) := by decide +kernel
theorem dX1_mixThrees_59 : decode cX1_mixThrees 59 = .ok (.iadd, 1) := by decide +kernel
theorem dX1_mixThrees_60 : decode cX1_mixThrees 60 = .ok (.istore 5, 2) := by decide +kernel
theorem dX1_mixThrees_62 : decode cX1_mixThrees 62 = .ok (.iload 6, 2) := by decide +kernel
theorem dX1_mixThrees_64 : decode cX1_mixThrees 64 = .ok (.iconst 3, 1) := by decide +kernel
theorem dX1_mixThrees_65 : decode cX1_mixThrees 65 = .ok (.imul, 1) := by decide +kernel
theorem dX1_mixThrees_66 : decode cX1_mixThrees 66 = .ok (.istore 6, 2) := by decide +kernel
theorem dX1_mixThrees_68 : decode cX1_mixThrees 68 = .ok (.iinc 7 1, 3) := by decide +kernel
theorem dX1_mixThrees_71 : decode cX1_mixThrees 71 = .ok (.goto (-62), 3) := by decide +kernel
theorem dX1_mixThrees_74 : decode cX1_mixThrees 74 = .ok (.iload 5, 2) := by decide +kernel
theorem dX1_mixThrees_76 : decode cX1_mixThrees 76 = .ok (.ireturn, 1) := by decide +kernel
theorem dX1_timesThrees_0 : decode cX1_timesThrees 0 = .ok (.iconst 0, 1) := by decide +kernel
theorem dX1_timesThrees_1 : decode cX1_timesThrees 1 = .ok (.istore_n 3, 1) := by decide +kernel
theorem dX1_timesThrees_2 : decode cX1_timesThrees 2 = .ok (.iconst 1, 1) := by decide +kernel
theorem dX1_timesThrees_3 : decode cX1_timesThrees 3 = .ok (.istore 4, 2) := by decide +kernel
theorem dX1_timesThrees_5 : decode cX1_timesThrees 5 = .ok (.iconst 0, 1) := by decide +kernel
theorem dX1_timesThrees_6 : decode cX1_timesThrees 6 = .ok (.istore 5, 2) := by decide +kernel
theorem dX1_timesThrees_8 : decode cX1_timesThrees 8 = .ok (.iload 5, 2) := by decide +kernel
theorem dX1_timesThrees_10 : decode cX1_timesThrees 10 = .ok (.aload_n 0, 1) := by decide +kernel
theorem dX1_timesThrees_11 : decode cX1_timesThrees 11 = .ok (.getfield 22, 3) := by decide +kernel
theorem dX1_timesThrees_14 : decode cX1_timesThrees 14 = .ok (.if_icmp .ge 36, 3) := by decide +kernel
theorem dX1_timesThrees_17 : decode cX1_timesThrees 17 = .ok (.iload_n 3, 1) := by decide +kernel
theorem dX1_timesThrees_18 : decode cX1_timesThrees 18 = .ok (.iload 4, 2) := by decide +kernel
theorem dX1_timesThrees_20 : decode cX1_timesThrees 20 = .ok (.iload_n 1, 1) := by decide +kernel
theorem dX1_timesThrees_21 : decode cX1_timesThrees 21 = .ok (.iload 4, 2) := by decide +kernel
theorem dX1_timesThrees_23 : decode cX1_timesThrees 23 = .ok (.idiv, 1) := by decide +kernel
theorem dX1_timesThrees_24 : decode cX1_timesThrees 24 = .ok (.iconst 3, 1) := by decide +kernel
theorem dX1_timesThrees_25 : decode cX1_timesThrees 25 = .ok (.irem, 1) := by decide +kernel
theorem dX1_timesThrees_26 : decode cX1_timesThrees 26 = .ok (.iload_n 2, 1) := by decide +kernel
theorem dX1_timesThrees_27 : decode cX1_timesThrees 27 = .ok (.iload 4, 2) := by decide +kernel
theorem dX1_timesThrees_29 : decode cX1_timesThrees 29 = .ok (.idiv, 1) := by decide +kernel
theorem dX1_timesThrees_30 : decode cX1_timesThrees 30 = .ok (.iconst 3, 1) := by decide +kernel
theorem dX1_timesThrees_31 : decode cX1_timesThrees 31 = .ok (.irem, 1) := by decide +kernel
theorem dX1_timesThrees_32 : decode cX1_timesThrees 32 = .ok (.imul, 1) := by decide +kernel
theorem dX1_timesThrees_33 : decode cX1_timesThrees 33 = .ok (.iconst 3, 1) := by decide +kernel
theorem dX1_timesThrees_34 : decode cX1_timesThrees 34 = .ok (.irem, 1) := by decide +kernel
theorem dX1_timesThrees_35 : decode cX1_timesThrees 35 = .ok (.imul, 1) := by decide +kernel
theorem dX1_timesThrees_36 : decode cX1_timesThrees 36 = .ok (.iadd, 1) := by decide +kernel
theorem dX1_timesThrees_37 : decode cX1_timesThrees 37 = .ok (.istore_n 3, 1) := by decide +kernel
theorem dX1_timesThrees_38 : decode cX1_timesThrees 38 = .ok (.iload 4, 2) := by decide +kernel
theorem dX1_timesThrees_40 : decode cX1_timesThrees 40 = .ok (.iconst 3, 1) := by decide +kernel
theorem dX1_timesThrees_41 : decode cX1_timesThrees 41 = .ok (.imul, 1) := by decide +kernel
theorem dX1_timesThrees_42 : decode cX1_timesThrees 42 = .ok (.istore 4, 2) := by decide +kernel
theorem dX1_timesThrees_44 : decode cX1_timesThrees 44 = .ok (.iinc 5 1, 3) := by decide +kernel
theorem dX1_timesThrees_47 : decode cX1_timesThrees 47 = .ok (.goto (-39), 3) := by decide +kernel
theorem dX1_timesThrees_50 : decode cX1_timesThrees 50 = .ok (.iload_n 3, 1) := by decide +kernel
theorem dX1_timesThrees_51 : decode cX1_timesThrees 51 = .ok (.ireturn, 1) := by decide +kernel
theorem dX1_moved_0 : decode cX1_moved 0 = .ok (.aload_n 0, 1) := by decide +kernel
theorem dX1_moved_1 : decode cX1_moved 1 = .ok (.getfield 18, 3) := by decide +kernel
theorem dX1_moved_4 : decode cX1_moved 4 = .ok (.lookupswitch 53 #[(1, 28), (2, 46)], 28) := by decide +kernel
theorem dX1_moved_32 : decode cX1_moved 32 = .ok (.lload_n 1, 1) := by decide +kernel
theorem dX1_moved_33 : decode cX1_moved 33 = .ok (.iload_n 3, 1) := by decide +kernel
theorem dX1_moved_34 : decode cX1_moved 34 = .ok (.lshl, 1) := by decide +kernel
theorem dX1_moved_35 : decode cX1_moved 35 = .ok (.lload_n 1, 1) := by decide +kernel
theorem dX1_moved_36 : decode cX1_moved 36 = .ok (.aload_n 0, 1) := by decide +kernel
theorem dX1_moved_37 : decode cX1_moved 37 = .ok (.getfield 22, 3) := by decide +kernel
theorem dX1_moved_40 : decode cX1_moved 40 = .ok (.iload_n 3, 1) := by decide +kernel
theorem dX1_moved_41 : decode cX1_moved 41 = .ok (.isub, 1) := by decide +kernel
theorem dX1_moved_42 : decode cX1_moved 42 = .ok (.lushr, 1) := by decide +kernel
theorem dX1_moved_43 : decode cX1_moved 43 = .ok (.lor, 1) := by decide +kernel
theorem dX1_moved_44 : decode cX1_moved 44 = .ok (.aload_n 0, 1) := by decide +kernel
theorem dX1_moved_45 : decode cX1_moved 45 = .ok (.getfield 35, 3) := by decide +kernel
theorem dX1_moved_48 : decode cX1_moved 48 = .ok (.land, 1) := by decide +kernel
theorem dX1_moved_49 : decode cX1_moved 49 = .ok (.lreturn, 1) := by decide +kernel
theorem dX1_moved_50 : decode cX1_moved 50 = .ok (.aload_n 0, 1) := by decide +kernel
theorem dX1_moved_51 : decode cX1_moved 51 = .ok (.lload_n 1, 1) := by decide +kernel
theorem dX1_moved_52 : decode cX1_moved 52 = .ok (.iload_n 3, 1) := by decide +kernel
theorem dX1_moved_53 : decode cX1_moved 53 = .ok (.invokevirtual 55, 3) := by decide +kernel
theorem dX1_moved_56 : decode cX1_moved 56 = .ok (.lreturn, 1) := by decide +kernel
theorem dX1_moved_57 : decode cX1_moved 57 = .ok (.iload_n 3, 1) := by decide +kernel
theorem dX1_moved_58 : decode cX1_moved 58 = .ok (.ifCond .ge 10, 3) := by decide +kernel
theorem dX1_moved_61 : decode cX1_moved 61 = .ok (.lload_n 1, 1) := by decide +kernel
theorem dX1_moved_62 : decode cX1_moved 62 = .ok (.iload_n 3, 1) := by decide +kernel
theorem dX1_moved_63 : decode cX1_moved 63 = .ok (.ineg, 1) := by decide +kernel
theorem dX1_moved_64 : decode cX1_moved 64 = .ok (.lushr, 1) := by decide +kernel
theorem dX1_moved_65 : decode cX1_moved 65 = .ok (.goto 6, 3) := by decide +kernel
theorem dX1_moved_68 : decode cX1_moved 68 = .ok (.lload_n 1, 1) := by decide +kernel
theorem dX1_moved_69 : decode cX1_moved 69 = .ok (.iload_n 3, 1) := by decide +kernel
theorem dX1_moved_70 : decode cX1_moved 70 = .ok (.lshl, 1) := by decide +kernel
theorem dX1_moved_71 : decode cX1_moved 71 = .ok (.aload_n 0, 1) := by decide +kernel
theorem dX1_moved_72 : decode cX1_moved 72 = .ok (.getfield 35, 3) := by decide +kernel
theorem dX1_moved_75 : decode cX1_moved 75 = .ok (.land, 1) := by decide +kernel
theorem dX1_moved_76 : decode cX1_moved 76 = .ok (.lreturn, 1) := by decide +kernel
theorem dX1_movedThrees_0 : decode cX1_movedThrees 0 = .ok (.lconst 0, 1) := by decide +kernel
theorem dX1_movedThrees_1 : decode cX1_movedThrees 1 = .ok (.lstore 4, 2) := by decide +kernel
theorem dX1_movedThrees_3 : decode cX1_movedThrees 3 = .ok (.aload_n 0, 1) := by decide +kernel
theorem dX1_movedThrees_4 : decode cX1_movedThrees 4 = .ok (.getfield 25, 3) := by decide +kernel
theorem dX1_movedThrees_7 : decode cX1_movedThrees 7 = .ok (.istore 6, 2) := by decide +kernel
theorem dX1_movedThrees_9 : decode cX1_movedThrees 9 = .ok (.iload 6, 2) := by decide +kernel
theorem dX1_movedThrees_11 : decode cX1_movedThrees 11 = .ok (.aload_n 0, 1) := by decide +kernel
theorem dX1_movedThrees_12 : decode cX1_movedThrees 12 = .ok (.getfield 32, 3) := by decide +kernel
theorem dX1_movedThrees_15 : decode cX1_movedThrees 15 = .ok (.if_icmp .gt 36, 3) := by decide +kernel
theorem dX1_movedThrees_18 : decode cX1_movedThrees 18 = .ok (.lload_n 1, 1) := by decide +kernel
theorem dX1_movedThrees_19 : decode cX1_movedThrees 19 = .ok (.iload 6, 2) := by decide +kernel
theorem dX1_movedThrees_21 : decode cX1_movedThrees 21 = .ok (.lushr, 1) := by decide +kernel
theorem dX1_movedThrees_22 : decode cX1_movedThrees 22 = .ok (.lconst 1, 1) := by decide +kernel
theorem dX1_movedThrees_23 : decode cX1_movedThrees 23 = .ok (.land, 1) := by decide +kernel
theorem dX1_movedThrees_24 : decode cX1_movedThrees 24 = .ok (.lconst 0, 1) := by decide +kernel
theorem dX1_movedThrees_25 : decode cX1_movedThrees 25 = .ok (.lcmp, 1) := by decide +kernel
theorem dX1_movedThrees_26 : decode cX1_movedThrees 26 = .ok (.ifCond .eq 19, 3) := by decide +kernel
theorem dX1_movedThrees_29 : decode cX1_movedThrees 29 = .ok (.lload 4, 2) := by decide +kernel
theorem dX1_movedThrees_31 : decode cX1_movedThrees 31 = .ok (.lconst 1, 1) := by decide +kernel
theorem dX1_movedThrees_32 : decode cX1_movedThrees 32 = .ok (.aload_n 0, 1) := by decide +kernel
theorem dX1_movedThrees_33 : decode cX1_movedThrees 33 = .ok (.iconst 1, 1) := by decide +kernel
theorem dX1_movedThrees_34 : decode cX1_movedThrees 34 = .ok (.iload 6, 2) := by decide +kernel
theorem dX1_movedThrees_36 : decode cX1_movedThrees 36 = .ok (.iconst 1, 1) := by decide +kernel
theorem dX1_movedThrees_37 : decode cX1_movedThrees 37 = .ok (.iload_n 3, 1) := by decide +kernel
theorem dX1_movedThrees_38 : decode cX1_movedThrees 38 = .ok (.invokevirtual 48, 3) := by decide +kernel
theorem dX1_movedThrees_41 : decode cX1_movedThrees 41 = .ok (.lshl, 1) := by decide +kernel
theorem dX1_movedThrees_42 : decode cX1_movedThrees 42 = .ok (.lor, 1) := by decide +kernel
theorem dX1_movedThrees_43 : decode cX1_movedThrees 43 = .ok (.lstore 4, 2) := by decide +kernel
theorem dX1_movedThrees_45 : decode cX1_movedThrees 45 = .ok (.iinc 6 1, 3) := by decide +kernel
theorem dX1_movedThrees_48 : decode cX1_movedThrees 48 = .ok (.goto (-39), 3) := by decide +kernel
theorem dX1_movedThrees_51 : decode cX1_movedThrees 51 = .ok (.lload 4, 2) := by decide +kernel
theorem dX1_movedThrees_53 : decode cX1_movedThrees 53 = .ok (.lreturn, 1) := by decide +kernel
theorem dX1_stretched_0 : decode cX1_stretched 0 = .ok (.lconst 0, 1) := by decide +kernel
theorem dX1_stretched_1 : decode cX1_stretched 1 = .ok (.lstore 4, 2) := by decide +kernel
theorem dX1_stretched_3 : decode cX1_stretched 3 = .ok (.aload_n 0, 1) := by decide +kernel
theorem dX1_stretched_4 : decode cX1_stretched 4 = .ok (.getfield 25, 3) := by decide +kernel
theorem dX1_stretched_7 : decode cX1_stretched 7 = .ok (.istore 6, 2) := by decide +kernel
theorem dX1_stretched_9 : decode cX1_stretched 9 = .ok (.iload 6, 2) := by decide +kernel
theorem dX1_stretched_11 : decode cX1_stretched 11 = .ok (.aload_n 0, 1) := by decide +kernel
theorem dX1_stretched_12 : decode cX1_stretched 12 = .ok (.getfield 32, 3) := by decide +kernel
theorem dX1_stretched_15 : decode cX1_stretched 15 = .ok (.if_icmp .gt 36, 3) := by decide +kernel
theorem dX1_stretched_18 : decode cX1_stretched 18 = .ok (.lload_n 1, 1) := by decide +kernel
theorem dX1_stretched_19 : decode cX1_stretched 19 = .ok (.iload 6, 2) := by decide +kernel
theorem dX1_stretched_21 : decode cX1_stretched 21 = .ok (.lushr, 1) := by decide +kernel
theorem dX1_stretched_22 : decode cX1_stretched 22 = .ok (.lconst 1, 1) := by decide +kernel
theorem dX1_stretched_23 : decode cX1_stretched 23 = .ok (.land, 1) := by decide +kernel
theorem dX1_stretched_24 : decode cX1_stretched 24 = .ok (.lconst 0, 1) := by decide +kernel
theorem dX1_stretched_25 : decode cX1_stretched 25 = .ok (.lcmp, 1) := by decide +kernel
theorem dX1_stretched_26 : decode cX1_stretched 26 = .ok (.ifCond .eq 19, 3) := by decide +kernel
theorem dX1_stretched_29 : decode cX1_stretched 29 = .ok (.lload 4, 2) := by decide +kernel
theorem dX1_stretched_31 : decode cX1_stretched 31 = .ok (.lconst 1, 1) := by decide +kernel
theorem dX1_stretched_32 : decode cX1_stretched 32 = .ok (.aload_n 0, 1) := by decide +kernel
theorem dX1_stretched_33 : decode cX1_stretched 33 = .ok (.iload_n 3, 1) := by decide +kernel
theorem dX1_stretched_34 : decode cX1_stretched 34 = .ok (.iload 6, 2) := by decide +kernel
theorem dX1_stretched_36 : decode cX1_stretched 36 = .ok (.iconst 0, 1) := by decide +kernel
theorem dX1_stretched_37 : decode cX1_stretched 37 = .ok (.iconst 0, 1) := by decide +kernel
theorem dX1_stretched_38 : decode cX1_stretched 38 = .ok (.invokevirtual 59, 3) := by decide +kernel
theorem dX1_stretched_41 : decode cX1_stretched 41 = .ok (.lshl, 1) := by decide +kernel
theorem dX1_stretched_42 : decode cX1_stretched 42 = .ok (.lor, 1) := by decide +kernel
theorem dX1_stretched_43 : decode cX1_stretched 43 = .ok (.lstore 4, 2) := by decide +kernel
theorem dX1_stretched_45 : decode cX1_stretched 45 = .ok (.iinc 6 1, 3) := by decide +kernel
theorem dX1_stretched_48 : decode cX1_stretched 48 = .ok (.goto (-39), 3) := by decide +kernel
theorem dX1_stretched_51 : decode cX1_stretched 51 = .ok (.lload 4, 2) := by decide +kernel
theorem dX1_stretched_53 : decode cX1_stretched 53 = .ok (.lreturn, 1) := by decide +kernel
theorem dX1_mirrored_0 : decode cX1_mirrored 0 = .ok (.lconst 0, 1) := by decide +kernel
theorem dX1_mirrored_1 : decode cX1_mirrored 1 = .ok (.lstore_n 3, 1) := by decide +kernel
theorem dX1_mirrored_2 : decode cX1_mirrored 2 = .ok (.aload_n 0, 1) := by decide +kernel
theorem dX1_mirrored_3 : decode cX1_mirrored 3 = .ok (.getfield 25, 3) := by decide +kernel
theorem dX1_mirrored_6 : decode cX1_mirrored 6 = .ok (.istore 5, 2) := by decide +kernel
theorem dX1_mirrored_8 : decode cX1_mirrored 8 = .ok (.iload 5, 2) := by decide +kernel
theorem dX1_mirrored_10 : decode cX1_mirrored 10 = .ok (.aload_n 0, 1) := by decide +kernel
theorem dX1_mirrored_11 : decode cX1_mirrored 11 = .ok (.getfield 32, 3) := by decide +kernel
theorem dX1_mirrored_14 : decode cX1_mirrored 14 = .ok (.if_icmp .gt 34, 3) := by decide +kernel
theorem dX1_mirrored_17 : decode cX1_mirrored 17 = .ok (.lload_n 1, 1) := by decide +kernel
theorem dX1_mirrored_18 : decode cX1_mirrored 18 = .ok (.iload 5, 2) := by decide +kernel
theorem dX1_mirrored_20 : decode cX1_mirrored 20 = .ok (.lushr, 1) := by decide +kernel
theorem dX1_mirrored_21 : decode cX1_mirrored 21 = .ok (.lconst 1, 1) := by decide +kernel
theorem dX1_mirrored_22 : decode cX1_mirrored 22 = .ok (.land, 1) := by decide +kernel
theorem dX1_mirrored_23 : decode cX1_mirrored 23 = .ok (.lconst 0, 1) := by decide +kernel
theorem dX1_mirrored_24 : decode cX1_mirrored 24 = .ok (.lcmp, 1) := by decide +kernel
theorem dX1_mirrored_25 : decode cX1_mirrored 25 = .ok (.ifCond .eq 17, 3) := by decide +kernel
theorem dX1_mirrored_28 : decode cX1_mirrored 28 = .ok (.lload_n 3, 1) := by decide +kernel
theorem dX1_mirrored_29 : decode cX1_mirrored 29 = .ok (.lconst 1, 1) := by decide +kernel
theorem dX1_mirrored_30 : decode cX1_mirrored 30 = .ok (.aload_n 0, 1) := by decide +kernel
theorem dX1_mirrored_31 : decode cX1_mirrored 31 = .ok (.getfield 22, 3) := by decide +kernel
theorem dX1_mirrored_34 : decode cX1_mirrored 34 = .ok (.iconst 1, 1) := by decide +kernel
theorem dX1_mirrored_35 : decode cX1_mirrored 35 = .ok (.iadd, 1) := by decide +kernel
theorem dX1_mirrored_36 : decode cX1_mirrored 36 = .ok (.iload 5, 2) := by decide +kernel
theorem dX1_mirrored_38 : decode cX1_mirrored 38 = .ok (.isub, 1) := by decide +kernel
theorem dX1_mirrored_39 : decode cX1_mirrored 39 = .ok (.lshl, 1) := by decide +kernel
theorem dX1_mirrored_40 : decode cX1_mirrored 40 = .ok (.lor, 1) := by decide +kernel
theorem dX1_mirrored_41 : decode cX1_mirrored 41 = .ok (.lstore_n 3, 1) := by decide +kernel
theorem dX1_mirrored_42 : decode cX1_mirrored 42 = .ok (.iinc 5 1, 3) := by decide +kernel
theorem dX1_mirrored_45 : decode cX1_mirrored 45 = .ok (.goto (-37), 3) := by decide +kernel
theorem dX1_mirrored_48 : decode cX1_mirrored 48 = .ok (.lload_n 3, 1) := by decide +kernel
theorem dX1_mirrored_49 : decode cX1_mirrored 49 = .ok (.lreturn, 1) := by decide +kernel
theorem dX2_init_0 : decode cX2_init 0 = .ok (.aload_n 0, 1) := by decide +kernel
theorem dX2_init_1 : decode cX2_init 1 = .ok (.invokespecial 3, 3) := by decide +kernel
theorem dX2_init_4 : decode cX2_init 4 = .ok (.aload_n 0, 1) := by decide +kernel
theorem dX2_init_5 : decode cX2_init 5 = .ok (.iconst 3, 1) := by decide +kernel
theorem dX2_init_6 : decode cX2_init 6 = .ok (.putfield 9, 3) := by decide +kernel
theorem dX2_init_9 : decode cX2_init 9 = .ok (.aload_n 0, 1) := by decide +kernel
theorem dX2_init_10 : decode cX2_init 10 = .ok (.iconst 0, 1) := by decide +kernel
theorem dX2_init_11 : decode cX2_init 11 = .ok (.putfield 15, 3) := by decide +kernel
theorem dX2_init_14 : decode cX2_init 14 = .ok (.aload_n 0, 1) := by decide +kernel
theorem dX2_init_15 : decode cX2_init 15 = .ok (.iconst 1, 1) := by decide +kernel
theorem dX2_init_16 : decode cX2_init 16 = .ok (.putfield 18, 3) := by decide +kernel
theorem dX2_init_19 : decode cX2_init 19 = .ok (.aload_n 0, 1) := by decide +kernel
theorem dX2_init_20 : decode cX2_init 20 = .ok (.iconst 1, 1) := by decide +kernel
theorem dX2_init_21 : decode cX2_init 21 = .ok (.putfield 21, 3) := by decide +kernel
theorem dX2_init_24 : decode cX2_init 24 = .ok (.aload_n 0, 1) := by decide +kernel
theorem dX2_init_25 : decode cX2_init 25 = .ok (.iconst 1, 1) := by decide +kernel
theorem dX2_init_26 : decode cX2_init 26 = .ok (.putfield 24, 3) := by decide +kernel
theorem dX2_init_29 : decode cX2_init 29 = .ok (.aload_n 0, 1) := by decide +kernel
theorem dX2_init_30 : decode cX2_init 30 = .ok (.iconst 0, 1) := by decide +kernel
theorem dX2_init_31 : decode cX2_init 31 = .ok (.putfield 27, 3) := by decide +kernel
theorem dX2_init_34 : decode cX2_init 34 = .ok (.return_, 1) := by decide +kernel
theorem dX2_fits_0 : decode cX2_fits 0 = .ok (.iload_n 0, 1) := by decide +kernel
theorem dX2_fits_1 : decode cX2_fits 1 = .ok (.tableswitch 91 0 4 #[35, 52, 52, 52, 54], 35) := by decide +kernel
theorem dX2_fits_36 : decode cX2_fits 36 = .ok (.iload_n 1, 1) := by decide +kernel
theorem dX2_fits_37 : decode cX2_fits 37 = .ok (.iconst 3, 1) := by decide +kernel
theorem dX2_fits_38 : decode cX2_fits 38 = .ok (.if_icmp .lt 13, 3) := by decide +kernel
theorem dX2_fits_41 : decode cX2_fits 41 = .ok (.iload_n 1, 1) := by decide +kernel
theorem dX2_fits_42 : decode cX2_fits 42 = .ok (.bipush 6, 2) := by decide +kernel
theorem dX2_fits_44 : decode cX2_fits 44 = .ok (.if_icmp .gt 7, 3) := by decide +kernel
theorem dX2_fits_47 : decode cX2_fits 47 = .ok (.iconst 1, 1) := by decide +kernel
theorem dX2_fits_48 : decode cX2_fits 48 = .ok (.goto 4, 3) := by decide +kernel
theorem dX2_fits_51 : decode cX2_fits 51 = .ok (.iconst 0, 1) := by decide +kernel
theorem dX2_fits_52 : decode cX2_fits 52 = .ok (.ireturn, 1) := by decide +kernel
theorem dX2_fits_53 : decode cX2_fits 53 = .ok (.iconst 1, 1) := by decide +kernel
theorem dX2_fits_54 : decode cX2_fits 54 = .ok (.ireturn, 1) := by decide +kernel
theorem dX2_fits_55 : decode cX2_fits 55 = .ok (.iload_n 1, 1) := by decide +kernel
theorem dX2_fits_56 : decode cX2_fits 56 = .ok (.invokestatic 31, 3) := by decide +kernel
theorem dX2_fits_59 : decode cX2_fits 59 = .ok (.ifCond .eq 31, 3) := by decide +kernel
theorem dX2_fits_62 : decode cX2_fits 62 = .ok (.iload_n 2, 1) := by decide +kernel
theorem dX2_fits_63 : decode cX2_fits 63 = .ok (.invokestatic 31, 3) := by decide +kernel
theorem dX2_fits_66 : decode cX2_fits 66 = .ok (.ifCond .eq 24, 3) := by decide +kernel
theorem dX2_fits_69 : decode cX2_fits 69 = .ok (.iload_n 3, 1) := by decide +kernel
theorem dX2_fits_70 : decode cX2_fits 70 = .ok (.invokestatic 31, 3) := by decide +kernel
theorem dX2_fits_73 : decode cX2_fits 73 = .ok (.ifCond .eq 17, 3) := by decide +kernel
theorem dX2_fits_76 : decode cX2_fits 76 = .ok (.iload_n 1, 1) := by decide +kernel
theorem dX2_fits_77 : decode cX2_fits 77 = .ok (.iload_n 2, 1) := by decide +kernel
theorem dX2_fits_78 : decode cX2_fits 78 = .ok (.iload_n 3, 1) := by decide +kernel
theorem dX2_fits_79 : decode cX2_fits 79 = .ok (.invokestatic 35, 3) := by decide +kernel
theorem dX2_fits_82 : decode cX2_fits 82 = .ok (.iconst 1, 1) := by decide +kernel
theorem dX2_fits_83 : decode cX2_fits 83 = .ok (.if_icmp .gt 7, 3) := by decide +kernel
theorem dX2_fits_86 : decode cX2_fits 86 = .ok (.iconst 1, 1) := by decide +kernel
theorem dX2_fits_87 : decode cX2_fits 87 = .ok (.goto 4, 3) := by decide +kernel
theorem dX2_fits_90 : decode cX2_fits 90 = .ok (.iconst 0, 1) := by decide +kernel
theorem dX2_fits_91 : decode cX2_fits 91 = .ok (.ireturn, 1) := by decide +kernel
theorem dX2_fits_92 : decode cX2_fits 92 = .ok (.iconst 0, 1) := by decide +kernel
theorem dX2_fits_93 : decode cX2_fits 93 = .ok (.ireturn, 1) := by decide +kernel
theorem dX2_isFactor_0 : decode cX2_isFactor 0 = .ok (.iload_n 0, 1) := by decide +kernel
theorem dX2_isFactor_1 : decode cX2_isFactor 1 = .ok (.bipush (-9), 2) := by decide +kernel
theorem dX2_isFactor_3 : decode cX2_isFactor 3 = .ok (.if_icmp .lt 13, 3) := by decide +kernel
theorem dX2_isFactor_6 : decode cX2_isFactor 6 = .ok (.iload_n 0, 1) := by decide +kernel
theorem dX2_isFactor_7 : decode cX2_isFactor 7 = .ok (.bipush 9, 2) := by decide +kernel
theorem dX2_isFactor_9 : decode cX2_isFactor 9 = .ok (.if_icmp .gt 7, 3) := by decide +kernel
theorem dX2_isFactor_12 : decode cX2_isFactor 12 = .ok (.iconst 1, 1) := by decide +kernel
theorem dX2_isFactor_13 : decode cX2_isFactor 13 = .ok (.goto 4, 3) := by decide +kernel
theorem dX2_isFactor_16 : decode cX2_isFactor 16 = .ok (.iconst 0, 1) := by decide +kernel
theorem dX2_isFactor_17 : decode cX2_isFactor 17 = .ok (.ireturn, 1) := by decide +kernel
theorem dX2_noughts_0 : decode cX2_noughts 0 = .ok (.iload_n 0, 1) := by decide +kernel
theorem dX2_noughts_1 : decode cX2_noughts 1 = .ok (.ifCond .ne 7, 3) := by decide +kernel
theorem dX2_noughts_4 : decode cX2_noughts 4 = .ok (.iconst 1, 1) := by decide +kernel
theorem dX2_noughts_5 : decode cX2_noughts 5 = .ok (.goto 4, 3) := by decide +kernel
theorem dX2_noughts_8 : decode cX2_noughts 8 = .ok (.iconst 0, 1) := by decide +kernel
theorem dX2_noughts_9 : decode cX2_noughts 9 = .ok (.iload_n 1, 1) := by decide +kernel
theorem dX2_noughts_10 : decode cX2_noughts 10 = .ok (.ifCond .ne 7, 3) := by decide +kernel
theorem dX2_noughts_13 : decode cX2_noughts 13 = .ok (.iconst 1, 1) := by decide +kernel
theorem dX2_noughts_14 : decode cX2_noughts 14 = .ok (.goto 4, 3) := by decide +kernel
theorem dX2_noughts_17 : decode cX2_noughts 17 = .ok (.iconst 0, 1) := by decide +kernel
theorem dX2_noughts_18 : decode cX2_noughts 18 = .ok (.iadd, 1) := by decide +kernel
theorem dX2_noughts_19 : decode cX2_noughts 19 = .ok (.iload_n 2, 1) := by decide +kernel
theorem dX2_noughts_20 : decode cX2_noughts 20 = .ok (.ifCond .ne 7, 3) := by decide +kernel
theorem dX2_noughts_23 : decode cX2_noughts 23 = .ok (.iconst 1, 1) := by decide +kernel
theorem dX2_noughts_24 : decode cX2_noughts 24 = .ok (.goto 4, 3) := by decide +kernel
theorem dX2_noughts_27 : decode cX2_noughts 27 = .ok (.iconst 0, 1) := by decide +kernel
theorem dX2_noughts_28 : decode cX2_noughts 28 = .ok (.iadd, 1) := by decide +kernel
theorem dX2_noughts_29 : decode cX2_noughts 29 = .ok (.ireturn, 1) := by decide +kernel
theorem dX2_write_0 : decode cX2_write 0 = .ok (.aload_n 0, 1) := by decide +kernel
theorem dX2_write_1 : decode cX2_write 1 = .ok (.iload_n 1, 1) := by decide +kernel
theorem dX2_write_2 : decode cX2_write 2 = .ok (.putfield 9, 3) := by decide +kernel
theorem dX2_write_5 : decode cX2_write 5 = .ok (.aload_n 0, 1) := by decide +kernel
theorem dX2_write_6 : decode cX2_write 6 = .ok (.iload_n 2, 1) := by decide +kernel
theorem dX2_write_7 : decode cX2_write 7 = .ok (.putfield 15, 3) := by decide +kernel
theorem dX2_write_10 : decode cX2_write 10 = .ok (.iload_n 1, 1) := by decide +kernel
theorem dX2_write_11 : decode cX2_write 11 = .ok (.tableswitch 70 0 4 #[33, 45, 70, 70, 57], 33) := by decide +kernel
theorem dX2_write_44 : decode cX2_write 44 = .ok (.aload_n 0, 1) := by decide +kernel
theorem dX2_write_45 : decode cX2_write 45 = .ok (.iconst 1, 1) := by decide +kernel
theorem dX2_write_46 : decode cX2_write 46 = .ok (.bipush (-2), 2) := by decide +kernel
theorem dX2_write_48 : decode cX2_write 48 = .ok (.iconst 1, 1) := by decide +kernel
theorem dX2_write_49 : decode cX2_write 49 = .ok (.iconst 1, 1) := by decide +kernel
theorem dX2_write_50 : decode cX2_write 50 = .ok (.invokevirtual 39, 3) := by decide +kernel
theorem dX2_write_53 : decode cX2_write 53 = .ok (.goto 37, 3) := by decide +kernel
theorem dX2_write_56 : decode cX2_write 56 = .ok (.aload_n 0, 1) := by decide +kernel
theorem dX2_write_57 : decode cX2_write 57 = .ok (.iconst 1, 1) := by decide +kernel
theorem dX2_write_58 : decode cX2_write 58 = .ok (.iconst 1, 1) := by decide +kernel
theorem dX2_write_59 : decode cX2_write 59 = .ok (.iconst (-1), 1) := by decide +kernel
theorem dX2_write_60 : decode cX2_write 60 = .ok (.iload 5, 2) := by decide +kernel
theorem dX2_write_62 : decode cX2_write 62 = .ok (.invokevirtual 39, 3) := by decide +kernel
theorem dX2_write_65 : decode cX2_write 65 = .ok (.goto 25, 3) := by decide +kernel
theorem dX2_write_68 : decode cX2_write 68 = .ok (.aload_n 0, 1) := by decide +kernel
theorem dX2_write_69 : decode cX2_write 69 = .ok (.iload_n 2, 1) := by decide +kernel
theorem dX2_write_70 : decode cX2_write 70 = .ok (.iload_n 3, 1) := by decide +kernel
theorem dX2_write_71 : decode cX2_write 71 = .ok (.iload 4, 2) := by decide +kernel
theorem dX2_write_73 : decode cX2_write 73 = .ok (.iload 5, 2) := by decide +kernel
theorem dX2_write_75 : decode cX2_write 75 = .ok (.invokevirtual 39, 3) := by decide +kernel
theorem dX2_write_78 : decode cX2_write 78 = .ok (.goto 12, 3) := by decide +kernel
theorem dX2_write_81 : decode cX2_write 81 = .ok (.aload_n 0, 1) := by decide +kernel
theorem dX2_write_82 : decode cX2_write 82 = .ok (.iconst 1, 1) := by decide +kernel
theorem dX2_write_83 : decode cX2_write 83 = .ok (.iconst 1, 1) := by decide +kernel
theorem dX2_write_84 : decode cX2_write 84 = .ok (.iconst 1, 1) := by decide +kernel
theorem dX2_write_85 : decode cX2_write 85 = .ok (.iload 5, 2) := by decide +kernel
theorem dX2_write_87 : decode cX2_write 87 = .ok (.invokevirtual 39, 3) := by decide +kernel
theorem dX2_write_90 : decode cX2_write 90 = .ok (.return_, 1) := by decide +kernel
theorem dX2_weigh_0 : decode cX2_weigh 0 = .ok (.aload_n 0, 1) := by decide +kernel
theorem dX2_weigh_1 : decode cX2_weigh 1 = .ok (.iload_n 1, 1) := by decide +kernel
theorem dX2_weigh_2 : decode cX2_weigh 2 = .ok (.putfield 18, 3) := by decide +kernel
theorem dX2_weigh_5 : decode cX2_weigh 5 = .ok (.aload_n 0, 1) := by decide +kernel
theorem dX2_weigh_6 : decode cX2_weigh 6 = .ok (.iload_n 2, 1) := by decide +kernel
theorem dX2_weigh_7 : decode cX2_weigh 7 = .ok (.putfield 21, 3) := by decide +kernel
theorem dX2_weigh_10 : decode cX2_weigh 10 = .ok (.aload_n 0, 1) := by decide +kernel
theorem dX2_weigh_11 : decode cX2_weigh 11 = .ok (.iload_n 3, 1) := by decide +kernel
theorem dX2_weigh_12 : decode cX2_weigh 12 = .ok (.putfield 24, 3) := by decide +kernel
theorem dX2_weigh_15 : decode cX2_weigh 15 = .ok (.aload_n 0, 1) := by decide +kernel
theorem dX2_weigh_16 : decode cX2_weigh 16 = .ok (.iload 4, 2) := by decide +kernel
theorem dX2_weigh_18 : decode cX2_weigh 18 = .ok (.putfield 27, 3) := by decide +kernel
theorem dX2_weigh_21 : decode cX2_weigh 21 = .ok (.return_, 1) := by decide +kernel
theorem dX2_isLongRow_0 : decode cX2_isLongRow 0 = .ok (.aload_n 0, 1) := by decide +kernel
theorem dX2_isLongRow_1 : decode cX2_isLongRow 1 = .ok (.getfield 9, 3) := by decide +kernel
theorem dX2_isLongRow_4 : decode cX2_isLongRow 4 = .ok (.ifCond .ne 15, 3) := by decide +kernel
theorem dX2_isLongRow_7 : decode cX2_isLongRow 7 = .ok (.aload_n 0, 1) := by decide +kernel
theorem dX2_isLongRow_8 : decode cX2_isLongRow 8 = .ok (.getfield 15, 3) := by decide +kernel
theorem dX2_isLongRow_11 : decode cX2_isLongRow 11 = .ok (.iconst 3, 1) := by decide +kernel
theorem dX2_isLongRow_12 : decode cX2_isLongRow 12 = .ok (.if_icmp .le 7, 3) := by decide +kernel
theorem dX2_isLongRow_15 : decode cX2_isLongRow 15 = .ok (.iconst 1, 1) := by decide +kernel
theorem dX2_isLongRow_16 : decode cX2_isLongRow 16 = .ok (.goto 4, 3) := by decide +kernel
theorem dX2_isLongRow_19 : decode cX2_isLongRow 19 = .ok (.iconst 0, 1) := by decide +kernel
theorem dX2_isLongRow_20 : decode cX2_isLongRow 20 = .ok (.ireturn, 1) := by decide +kernel
theorem dX3_init_0 : decode cX3_init 0 = .ok (.aload_n 0, 1) := by decide +kernel
theorem dX3_init_1 : decode cX3_init 1 = .ok (.invokespecial 3, 3) := by decide +kernel
theorem dX3_init_4 : decode cX3_init 4 = .ok (.aload_n 0, 1) := by decide +kernel
theorem dX3_init_5 : decode cX3_init 5 = .ok (.bipush 6, 2) := by decide +kernel
theorem dX3_init_7 : decode cX3_init 7 = .ok (.anewarray 9, 3) := by decide +kernel
theorem dX3_init_10 : decode cX3_init 10 = .ok (.putfield 11, 3) := by decide +kernel
theorem dX3_init_13 : decode cX3_init 13 = .ok (.aload_n 0, 1) := by decide +kernel
theorem dX3_init_14 : decode cX3_init 14 = .ok (.iconst 0, 1) := by decide +kernel
theorem dX3_init_15 : decode cX3_init 15 = .ok (.putfield 17, 3) := by decide +kernel
theorem dX3_init_18 : decode cX3_init 18 = .ok (.aload_n 0, 1) := by decide +kernel
theorem dX3_init_19 : decode cX3_init 19 = .ok (.iconst 4, 1) := by decide +kernel
theorem dX3_init_20 : decode cX3_init 20 = .ok (.newarray .int, 2) := by decide +kernel
theorem dX3_init_22 : decode cX3_init 22 = .ok (.putfield 21, 3) := by decide +kernel
theorem dX3_init_25 : decode cX3_init 25 = .ok (.aload_n 0, 1) := by decide +kernel
theorem dX3_init_26 : decode cX3_init 26 = .ok (.sipush 1081, 3) := by decide +kernel
theorem dX3_init_29 : decode cX3_init 29 = .ok (.newarray .long, 2) := by decide +kernel
theorem dX3_init_31 : decode cX3_init 31 = .ok (.putfield 25, 3) := by decide +kernel
theorem dX3_init_34 : decode cX3_init 34 = .ok (.aload_n 0, 1) := by decide +kernel
theorem dX3_init_35 : decode cX3_init 35 = .ok (.sipush 3721, 3) := by decide +kernel
theorem dX3_init_38 : decode cX3_init 38 = .ok (.newarray .long, 2) := by decide +kernel
theorem dX3_init_40 : decode cX3_init 40 = .ok (.putfield 29, 3) := by decide +kernel
theorem dX3_init_43 : decode cX3_init 43 = .ok (.aload_n 0, 1) := by decide +kernel
theorem dX3_init_44 : decode cX3_init 44 = .ok (.iconst 0, 1) := by decide +kernel
theorem dX3_init_45 : decode cX3_init 45 = .ok (.putfield 32, 3) := by decide +kernel
theorem dX3_init_48 : decode cX3_init 48 = .ok (.aload_n 0, 1) := by decide +kernel
theorem dX3_init_49 : decode cX3_init 49 = .ok (.aload_n 1, 1) := by decide +kernel
theorem dX3_init_50 : decode cX3_init 50 = .ok (.putfield 36, 3) := by decide +kernel
theorem dX3_init_53 : decode cX3_init 53 = .ok (.iconst 0, 1) := by decide +kernel
theorem dX3_init_54 : decode cX3_init 54 = .ok (.istore_n 2, 1) := by decide +kernel
theorem dX3_init_55 : decode cX3_init 55 = .ok (.iload_n 2, 1) := by decide +kernel
theorem dX3_init_56 : decode cX3_init 56 = .ok (.bipush 6, 2) := by decide +kernel
theorem dX3_init_58 : decode cX3_init 58 = .ok (.if_icmp .ge 22, 3) := by decide +kernel
theorem dX3_init_61 : decode cX3_init 61 = .ok (.aload_n 0, 1) := by decide +kernel
theorem dX3_init_62 : decode cX3_init 62 = .ok (.getfield 11, 3) := by decide +kernel
theorem dX3_init_65 : decode cX3_init 65 = .ok (.iload_n 2, 1) := by decide +kernel
theorem dX3_init_66 : decode cX3_init 66 = .ok (.new 9, 3) := by decide +kernel
theorem dX3_init_69 : decode cX3_init 69 = .ok (.dup, 1) := by decide +kernel
theorem dX3_init_70 : decode cX3_init 70 = .ok (.invokespecial 40, 3) := by decide +kernel
theorem dX3_init_73 : decode cX3_init 73 = .ok (.aastore, 1) := by decide +kernel
theorem dX3_init_74 : decode cX3_init 74 = .ok (.iinc 2 1, 3) := by decide +kernel
theorem dX3_init_77 : decode cX3_init 77 = .ok (.goto (-22), 3) := by decide +kernel
theorem dX3_init_80 : decode cX3_init 80 = .ok (.return_, 1) := by decide +kernel
theorem dX3_clear_0 : decode cX3_clear 0 = .ok (.aload_n 0, 1) := by decide +kernel
theorem dX3_clear_1 : decode cX3_clear 1 = .ok (.iconst 0, 1) := by decide +kernel
theorem dX3_clear_2 : decode cX3_clear 2 = .ok (.putfield 17, 3) := by decide +kernel
theorem dX3_clear_5 : decode cX3_clear 5 = .ok (.aload_n 0, 1) := by decide +kernel
theorem dX3_clear_6 : decode cX3_clear 6 = .ok (.iconst 0, 1) := by decide +kernel
theorem dX3_clear_7 : decode cX3_clear 7 = .ok (.putfield 32, 3) := by decide +kernel
theorem dX3_clear_10 : decode cX3_clear 10 = .ok (.return_, 1) := by decide +kernel
theorem dX3_add_0 : decode cX3_add 0 = .ok (.aload_n 0, 1) := by decide +kernel
theorem dX3_add_1 : decode cX3_add 1 = .ok (.getfield 11, 3) := by decide +kernel
theorem dX3_add_4 : decode cX3_add 4 = .ok (.aload_n 0, 1) := by decide +kernel
theorem dX3_add_5 : decode cX3_add 5 = .ok (.getfield 17, 3) := by decide +kernel
theorem dX3_add_8 : decode cX3_add 8 = .ok (.aaload, 1) := by decide +kernel
theorem dX3_add_9 : decode cX3_add 9 = .ok (.iload_n 1, 1) := by decide +kernel
theorem dX3_add_10 : decode cX3_add 10 = .ok (.iload_n 2, 1) := by decide +kernel
theorem dX3_add_11 : decode cX3_add 11 = .ok (.iload_n 3, 1) := by decide +kernel
theorem dX3_add_12 : decode cX3_add 12 = .ok (.iload 4, 2) := by decide +kernel
theorem dX3_add_14 : decode cX3_add 14 = .ok (.iload 5, 2) := by decide +kernel
theorem dX3_add_16 : decode cX3_add 16 = .ok (.invokevirtual 41, 3) := by decide +kernel
theorem dX3_add_19 : decode cX3_add 19 = .ok (.aload_n 0, 1) := by decide +kernel
theorem dX3_add_20 : decode cX3_add 20 = .ok (.iconst 0, 1) := by decide +kernel
theorem dX3_add_21 : decode cX3_add 21 = .ok (.putfield 32, 3) := by decide +kernel
theorem dX3_add_24 : decode cX3_add 24 = .ok (.aload_n 0, 1) := by decide +kernel
theorem dX3_add_25 : decode cX3_add 25 = .ok (.dup, 1) := by decide +kernel
theorem dX3_add_26 : decode cX3_add 26 = .ok (.getfield 17, 3) := by decide +kernel
theorem dX3_add_29 : decode cX3_add 29 = .ok (.iconst 1, 1) := by decide +kernel
theorem dX3_add_30 : decode cX3_add 30 = .ok (.iadd, 1) := by decide +kernel
theorem dX3_add_31 : decode cX3_add 31 = .ok (.putfield 17, 3) := by decide +kernel
theorem dX3_add_34 : decode cX3_add 34 = .ok (.aload_n 0, 1) := by decide +kernel
theorem dX3_add_35 : decode cX3_add 35 = .ok (.getfield 17, 3) := by decide +kernel
theorem dX3_add_38 : decode cX3_add 38 = .ok (.iconst 1, 1) := by decide +kernel
theorem dX3_add_39 : decode cX3_add 39 = .ok (.isub, 1) := by decide +kernel
theorem dX3_add_40 : decode cX3_add 40 = .ok (.ireturn, 1) := by decide +kernel
theorem dX3_firstClash_0 : decode cX3_firstClash 0 = .ok (.iconst 0, 1) := by decide +kernel
theorem dX3_firstClash_1 : decode cX3_firstClash 1 = .ok (.istore_n 3, 1) := by decide +kernel
theorem dX3_firstClash_2 : decode cX3_firstClash 2 = .ok (.iload_n 3, 1) := by decide +kernel
theorem dX3_firstClash_3 : decode cX3_firstClash 3 = .ok (.aload_n 0, 1) := by decide +kernel
theorem dX3_firstClash_4 : decode cX3_firstClash 4 = .ok (.getfield 17, 3) := by decide +kernel
theorem dX3_firstClash_7 : decode cX3_firstClash 7 = .ok (.if_icmp .ge 25, 3) := by decide +kernel
theorem dX3_firstClash_10 : decode cX3_firstClash 10 = .ok (.aload_n 0, 1) := by decide +kernel
theorem dX3_firstClash_11 : decode cX3_firstClash 11 = .ok (.aload_n 0, 1) := by decide +kernel
theorem dX3_firstClash_12 : decode cX3_firstClash 12 = .ok (.getfield 11, 3) := by decide +kernel
theorem dX3_firstClash_15 : decode cX3_firstClash 15 = .ok (.iload_n 3, 1) := by decide +kernel
theorem dX3_firstClash_16 : decode cX3_firstClash 16 = .ok (.aaload, 1) := by decide +kernel
theorem dX3_firstClash_17 : decode cX3_firstClash 17 = .ok (.lload_n 1, 1) := by decide +kernel
theorem dX3_firstClash_18 : decode cX3_firstClash 18 = .ok (.invokevirtual 45, 3) := by decide +kernel
theorem dX3_firstClash_21 : decode cX3_firstClash 21 = .ok (.ifCond .eq 5, 3) := by decide +kernel
theorem dX3_firstClash_24 : decode cX3_firstClash 24 = .ok (.iload_n 3, 1) := by decide +kernel
theorem dX3_firstClash_25 : decode cX3_firstClash 25 = .ok (.ireturn, 1) := by decide +kernel
theorem dX3_firstClash_26 : decode cX3_firstClash 26 = .ok (.iinc 3 1, 3) := by decide +kernel
theorem dX3_firstClash_29 : decode cX3_firstClash 29 = .ok (.goto (-27), 3) := by decide +kernel
theorem dX3_firstClash_32 : decode cX3_firstClash 32 = .ok (.iconst (-1), 1) := by decide +kernel
theorem dX3_firstClash_33 : decode cX3_firstClash 33 = .ok (.ireturn, 1) := by decide +kernel
theorem dX3_findsClash_0 : decode cX3_findsClash 0 = .ok (.aload_n 1, 1) := by decide +kernel
theorem dX3_findsClash_1 : decode cX3_findsClash 1 = .ok (.getfield 49, 3) := by decide +kernel
theorem dX3_findsClash_4 : decode cX3_findsClash 4 = .ok (.lookupswitch 44 #[(0, 28), (3, 38)], 28) := by decide +kernel
theorem dX3_findsClash_32 : decode cX3_findsClash 32 = .ok (.aload_n 0, 1) := by decide +kernel
theorem dX3_findsClash_33 : decode cX3_findsClash 33 = .ok (.aload_n 1, 1) := by decide +kernel
theorem dX3_findsClash_34 : decode cX3_findsClash 34 = .ok (.getfield 52, 3) := by decide +kernel
theorem dX3_findsClash_37 : decode cX3_findsClash 37 = .ok (.lload_n 2, 1) := by decide +kernel
theorem dX3_findsClash_38 : decode cX3_findsClash 38 = .ok (.invokevirtual 55, 3) := by decide +kernel
theorem dX3_findsClash_41 : decode cX3_findsClash 41 = .ok (.ireturn, 1) := by decide +kernel
theorem dX3_findsClash_42 : decode cX3_findsClash 42 = .ok (.aload_n 0, 1) := by decide +kernel
theorem dX3_findsClash_43 : decode cX3_findsClash 43 = .ok (.lload_n 2, 1) := by decide +kernel
theorem dX3_findsClash_44 : decode cX3_findsClash 44 = .ok (.invokevirtual 59, 3) := by decide +kernel
theorem dX3_findsClash_47 : decode cX3_findsClash 47 = .ok (.ireturn, 1) := by decide +kernel
theorem dX3_findsClash_48 : decode cX3_findsClash 48 = .ok (.aload_n 0, 1) := by decide +kernel
theorem dX3_findsClash_49 : decode cX3_findsClash 49 = .ok (.aload_n 1, 1) := by decide +kernel
theorem dX3_findsClash_50 : decode cX3_findsClash 50 = .ok (.lload_n 2, 1) := by decide +kernel
theorem dX3_findsClash_51 : decode cX3_findsClash 51 = .ok (.invokevirtual 63, 3) := by decide +kernel
theorem dX3_findsClash_54 : decode cX3_findsClash 54 = .ok (.ireturn, 1) := by decide +kernel
theorem dX3_tell_0 : decode cX3_tell 0 = .ok (.aload_n 0, 1) := by decide +kernel
theorem dX3_tell_1 : decode cX3_tell 1 = .ok (.getfield 21, 3) := by decide +kernel
theorem dX3_tell_4 : decode cX3_tell 4 = .ok (.iconst 0, 1) := by decide +kernel
theorem dX3_tell_5 : decode cX3_tell 5 = .ok (.iload_n 1, 1) := by decide +kernel
theorem dX3_tell_6 : decode cX3_tell 6 = .ok (.iastore, 1) := by decide +kernel
theorem dX3_tell_7 : decode cX3_tell 7 = .ok (.aload_n 0, 1) := by decide +kernel
theorem dX3_tell_8 : decode cX3_tell 8 = .ok (.getfield 21, 3) := by decide +kernel
theorem dX3_tell_11 : decode cX3_tell 11 = .ok (.iconst 1, 1) := by decide +kernel
theorem dX3_tell_12 : decode cX3_tell 12 = .ok (.iload_n 2, 1) := by decide +kernel
theorem dX3_tell_13 : decode cX3_tell 13 = .ok (.iastore, 1) := by decide +kernel
theorem dX3_tell_14 : decode cX3_tell 14 = .ok (.aload_n 0, 1) := by decide +kernel
theorem dX3_tell_15 : decode cX3_tell 15 = .ok (.getfield 21, 3) := by decide +kernel
theorem dX3_tell_18 : decode cX3_tell 18 = .ok (.iconst 2, 1) := by decide +kernel
theorem dX3_tell_19 : decode cX3_tell 19 = .ok (.iload_n 3, 1) := by decide +kernel
theorem dX3_tell_20 : decode cX3_tell 20 = .ok (.iastore, 1) := by decide +kernel
theorem dX3_tell_21 : decode cX3_tell 21 = .ok (.aload_n 0, 1) := by decide +kernel
theorem dX3_tell_22 : decode cX3_tell 22 = .ok (.getfield 21, 3) := by decide +kernel
theorem dX3_tell_25 : decode cX3_tell 25 = .ok (.iconst 3, 1) := by decide +kernel
theorem dX3_tell_26 : decode cX3_tell 26 = .ok (.iload 4, 2) := by decide +kernel
theorem dX3_tell_28 : decode cX3_tell 28 = .ok (.iastore, 1) := by decide +kernel
theorem dX3_tell_29 : decode cX3_tell 29 = .ok (.iconst 1, 1) := by decide +kernel
theorem dX3_tell_30 : decode cX3_tell 30 = .ok (.ireturn, 1) := by decide +kernel
theorem dX3_findsRow_0 : decode cX3_findsRow 0 = .ok (.aload_n 0, 1) := by decide +kernel
theorem dX3_findsRow_1 : decode cX3_findsRow 1 = .ok (.getfield 36, 3) := by decide +kernel
theorem dX3_findsRow_4 : decode cX3_findsRow 4 = .ok (.getfield 66, 3) := by decide +kernel
theorem dX3_findsRow_7 : decode cX3_findsRow 7 = .ok (.istore 4, 2) := by decide +kernel
theorem dX3_findsRow_9 : decode cX3_findsRow 9 = .ok (.iload 4, 2) := by decide +kernel
theorem dX3_findsRow_11 : decode cX3_findsRow 11 = .ok (.aload_n 0, 1) := by decide +kernel
theorem dX3_findsRow_12 : decode cX3_findsRow 12 = .ok (.getfield 36, 3) := by decide +kernel
theorem dX3_findsRow_15 : decode cX3_findsRow 15 = .ok (.getfield 71, 3) := by decide +kernel
theorem dX3_findsRow_18 : decode cX3_findsRow 18 = .ok (.if_icmp .gt 35, 3) := by decide +kernel
theorem dX3_findsRow_21 : decode cX3_findsRow 21 = .ok (.aload_n 0, 1) := by decide +kernel
theorem dX3_findsRow_22 : decode cX3_findsRow 22 = .ok (.getfield 36, 3) := by decide +kernel
theorem dX3_findsRow_25 : decode cX3_findsRow 25 = .ok (.lload_n 2, 1) := by decide +kernel
theorem dX3_findsRow_26 : decode cX3_findsRow 26 = .ok (.iload 4, 2) := by decide +kernel
theorem dX3_findsRow_28 : decode cX3_findsRow 28 = .ok (.invokevirtual 74, 3) := by decide +kernel
theorem dX3_findsRow_31 : decode cX3_findsRow 31 = .ok (.ifCond .eq 16, 3) := by decide +kernel
theorem dX3_findsRow_34 : decode cX3_findsRow 34 = .ok (.aload_n 0, 1) := by decide +kernel
theorem dX3_findsRow_35 : decode cX3_findsRow 35 = .ok (.iload 4, 2) := by decide +kernel
theorem dX3_findsRow_37 : decode cX3_findsRow 37 = .ok (.iload_n 1, 1) := by decide +kernel
theorem dX3_findsRow_38 : decode cX3_findsRow 38 = .ok (.lload_n 2, 1) := by decide +kernel
theorem dX3_findsRow_39 : decode cX3_findsRow 39 = .ok (.invokevirtual 78, 3) := by decide +kernel
theorem dX3_findsRow_42 : decode cX3_findsRow 42 = .ok (.ifCond .eq 5, 3) := by decide +kernel
theorem dX3_findsRow_45 : decode cX3_findsRow 45 = .ok (.iconst 1, 1) := by decide +kernel
theorem dX3_findsRow_46 : decode cX3_findsRow 46 = .ok (.ireturn, 1) := by decide +kernel
theorem dX3_findsRow_47 : decode cX3_findsRow 47 = .ok (.iinc 4 1, 3) := by decide +kernel
theorem dX3_findsRow_50 : decode cX3_findsRow 50 = .ok (.goto (-41), 3) := by decide +kernel
theorem dX3_findsRow_53 : decode cX3_findsRow 53 = .ok (.iconst 0, 1) := by decide +kernel
theorem dX3_findsRow_54 : decode cX3_findsRow 54 = .ok (.ireturn, 1) := by decide +kernel
theorem dX3_findsRowFrom_0 : decode cX3_findsRowFrom 0 = .ok (.aload_n 0, 1) := by decide +kernel
theorem dX3_findsRowFrom_1 : decode cX3_findsRowFrom 1 = .ok (.getfield 36, 3) := by decide +kernel
theorem dX3_findsRowFrom_4 : decode cX3_findsRowFrom 4 = .ok (.getfield 82, 3) := by decide +kernel
theorem dX3_findsRowFrom_7 : decode cX3_findsRowFrom 7 = .ok (.ifCond .ne 9, 3) := by decide +kernel
theorem dX3_findsRowFrom_10 : decode cX3_findsRowFrom 10 = .ok (.iload_n 1, 1) := by decide +kernel
theorem dX3_findsRowFrom_11 : decode cX3_findsRowFrom 11 = .ok (.iconst 1, 1) := by decide +kernel
theorem dX3_findsRowFrom_12 : decode cX3_findsRowFrom 12 = .ok (.iadd, 1) := by decide +kernel
theorem dX3_findsRowFrom_13 : decode cX3_findsRowFrom 13 = .ok (.goto 10, 3) := by decide +kernel
theorem dX3_findsRowFrom_16 : decode cX3_findsRowFrom 16 = .ok (.aload_n 0, 1) := by decide +kernel
theorem dX3_findsRowFrom_17 : decode cX3_findsRowFrom 17 = .ok (.getfield 36, 3) := by decide +kernel
theorem dX3_findsRowFrom_20 : decode cX3_findsRowFrom 20 = .ok (.getfield 66, 3) := by decide +kernel
theorem dX3_findsRowFrom_23 : decode cX3_findsRowFrom 23 = .ok (.istore 5, 2) := by decide +kernel
theorem dX3_findsRowFrom_25 : decode cX3_findsRowFrom 25 = .ok (.iload 5, 2) := by decide +kernel
theorem dX3_findsRowFrom_27 : decode cX3_findsRowFrom 27 = .ok (.istore 6, 2) := by decide +kernel
theorem dX3_findsRowFrom_29 : decode cX3_findsRowFrom 29 = .ok (.iload 6, 2) := by decide +kernel
theorem dX3_findsRowFrom_31 : decode cX3_findsRowFrom 31 = .ok (.aload_n 0, 1) := by decide +kernel
theorem dX3_findsRowFrom_32 : decode cX3_findsRowFrom 32 = .ok (.getfield 36, 3) := by decide +kernel
theorem dX3_findsRowFrom_35 : decode cX3_findsRowFrom 35 = .ok (.getfield 71, 3) := by decide +kernel
theorem dX3_findsRowFrom_38 : decode cX3_findsRowFrom 38 = .ok (.if_icmp .gt 66, 3) := by decide +kernel
theorem dX3_findsRowFrom_41 : decode cX3_findsRowFrom 41 = .ok (.iload 6, 2) := by decide +kernel
theorem dX3_findsRowFrom_43 : decode cX3_findsRowFrom 43 = .ok (.iload_n 1, 1) := by decide +kernel
theorem dX3_findsRowFrom_44 : decode cX3_findsRowFrom 44 = .ok (.if_icmp .eq 54, 3) := by decide +kernel
theorem dX3_findsRowFrom_47 : decode cX3_findsRowFrom 47 = .ok (.aload_n 0, 1) := by decide +kernel
theorem dX3_findsRowFrom_48 : decode cX3_findsRowFrom 48 = .ok (.getfield 36, 3) := by decide +kernel
theorem dX3_findsRowFrom_51 : decode cX3_findsRowFrom 51 = .ok (.lload_n 3, 1) := by decide +kernel
theorem dX3_findsRowFrom_52 : decode cX3_findsRowFrom 52 = .ok (.iload 6, 2) := by decide +kernel
theorem dX3_findsRowFrom_54 : decode cX3_findsRowFrom 54 = .ok (.invokevirtual 74, 3) := by decide +kernel
theorem dX3_findsRowFrom_57 : decode cX3_findsRowFrom 57 = .ok (.ifCond .eq 41, 3) := by decide +kernel
theorem dX3_findsRowFrom_60 : decode cX3_findsRowFrom 60 = .ok (.aload_n 0, 1) := by decide +kernel
theorem dX3_findsRowFrom_61 : decode cX3_findsRowFrom 61 = .ok (.lload_n 3, 1) := by decide +kernel
theorem dX3_findsRowFrom_62 : decode cX3_findsRowFrom 62 = .ok (.iload_n 1, 1) := by decide +kernel
theorem dX3_findsRowFrom_63 : decode cX3_findsRowFrom 63 = .ok (.iconst 1, 1) := by decide +kernel
theorem dX3_findsRowFrom_64 : decode cX3_findsRowFrom 64 = .ok (.aload_n 0, 1) := by decide +kernel
theorem dX3_findsRowFrom_65 : decode cX3_findsRowFrom 65 = .ok (.getfield 36, 3) := by decide +kernel
theorem dX3_findsRowFrom_68 : decode cX3_findsRowFrom 68 = .ok (.iconst 1, 1) := by decide +kernel
theorem dX3_findsRowFrom_69 : decode cX3_findsRowFrom 69 = .ok (.iload 6, 2) := by decide +kernel
theorem dX3_findsRowFrom_71 : decode cX3_findsRowFrom 71 = .ok (.iconst (-1), 1) := by decide +kernel
theorem dX3_findsRowFrom_72 : decode cX3_findsRowFrom 72 = .ok (.iload_n 1, 1) := by decide +kernel
theorem dX3_findsRowFrom_73 : decode cX3_findsRowFrom 73 = .ok (.invokevirtual 85, 3) := by decide +kernel
theorem dX3_findsRowFrom_76 : decode cX3_findsRowFrom 76 = .ok (.iload_n 2, 1) := by decide +kernel
theorem dX3_findsRowFrom_77 : decode cX3_findsRowFrom 77 = .ok (.iconst 1, 1) := by decide +kernel
theorem dX3_findsRowFrom_78 : decode cX3_findsRowFrom 78 = .ok (.isub, 1) := by decide +kernel
theorem dX3_findsRowFrom_79 : decode cX3_findsRowFrom 79 = .ok (.invokevirtual 89, 3) := by decide +kernel
theorem dX3_findsRowFrom_82 : decode cX3_findsRowFrom 82 = .ok (.iload_n 2, 1) := by decide +kernel
theorem dX3_findsRowFrom_83 : decode cX3_findsRowFrom 83 = .ok (.iconst 1, 1) := by decide +kernel
theorem dX3_findsRowFrom_84 : decode cX3_findsRowFrom 84 = .ok (.isub, 1) := by decide +kernel
theorem dX3_findsRowFrom_85 : decode cX3_findsRowFrom 85 = .ok (.if_icmp .ne 13, 3) := by decide +kernel
theorem dX3_findsRowFrom_88 : decode cX3_findsRowFrom 88 = .ok (.aload_n 0, 1) := by decide +kernel
theorem dX3_findsRowFrom_89 : decode cX3_findsRowFrom 89 = .ok (.iload_n 1, 1) := by decide +kernel
theorem dX3_findsRowFrom_90 : decode cX3_findsRowFrom 90 = .ok (.iload 6, 2) := by decide +kernel
theorem dX3_findsRowFrom_92 : decode cX3_findsRowFrom 92 = .ok (.iconst 0, 1) := by decide +kernel
theorem dX3_findsRowFrom_93 : decode cX3_findsRowFrom 93 = .ok (.iconst 0, 1) := by decide +kernel
theorem dX3_findsRowFrom_94 : decode cX3_findsRowFrom 94 = .ok (.invokevirtual 93, 3) := by decide +kernel
theorem dX3_findsRowFrom_97 : decode cX3_findsRowFrom 97 = .ok (.ireturn, 1) := by decide +kernel
theorem dX3_findsRowFrom_98 : decode cX3_findsRowFrom 98 = .ok (.iinc 6 1, 3) := by decide +kernel
theorem dX3_findsRowFrom_101 : decode cX3_findsRowFrom 101 = .ok (.goto (-72), 3) := by decide +kernel
theorem dX3_findsRowFrom_104 : decode cX3_findsRowFrom 104 = .ok (.iconst 0, 1) := by decide +kernel
theorem dX3_findsRowFrom_105 : decode cX3_findsRowFrom 105 = .ok (.ireturn, 1) := by decide +kernel
theorem dX3_stepsWithin_0 : decode cX3_stepsWithin 0 = .ok (.iload_n 3, 1) := by decide +kernel
theorem dX3_stepsWithin_1 : decode cX3_stepsWithin 1 = .ok (.istore 7, 2) := by decide +kernel
theorem dX3_stepsWithin_3 : decode cX3_stepsWithin 3 = .ok (.iconst 0, 1) := by decide +kernel
theorem dX3_stepsWithin_4 : decode cX3_stepsWithin 4 = .ok (.istore 8, 2) := by decide +kernel
theorem dX3_stepsWithin_6 : decode cX3_stepsWithin 6 = .ok (.iload 8, 2) := by decide +kernel
theorem dX3_stepsWithin_8 : decode cX3_stepsWithin 8 = .ok (.iload 6, 2) := by decide +kernel
theorem dX3_stepsWithin_10 : decode cX3_stepsWithin 10 = .ok (.if_icmp .ge 49, 3) := by decide +kernel
theorem dX3_stepsWithin_13 : decode cX3_stepsWithin 13 = .ok (.aload_n 0, 1) := by decide +kernel
theorem dX3_stepsWithin_14 : decode cX3_stepsWithin 14 = .ok (.getfield 36, 3) := by decide +kernel
theorem dX3_stepsWithin_17 : decode cX3_stepsWithin 17 = .ok (.iconst 1, 1) := by decide +kernel
theorem dX3_stepsWithin_18 : decode cX3_stepsWithin 18 = .ok (.iload 7, 2) := by decide +kernel
theorem dX3_stepsWithin_20 : decode cX3_stepsWithin 20 = .ok (.iload 4, 2) := by decide +kernel
theorem dX3_stepsWithin_22 : decode cX3_stepsWithin 22 = .ok (.iload 5, 2) := by decide +kernel
theorem dX3_stepsWithin_24 : decode cX3_stepsWithin 24 = .ok (.invokevirtual 85, 3) := by decide +kernel
theorem dX3_stepsWithin_27 : decode cX3_stepsWithin 27 = .ok (.istore 7, 2) := by decide +kernel
theorem dX3_stepsWithin_29 : decode cX3_stepsWithin 29 = .ok (.iload 7, 2) := by decide +kernel
theorem dX3_stepsWithin_31 : decode cX3_stepsWithin 31 = .ok (.iload_n 3, 1) := by decide +kernel
theorem dX3_stepsWithin_32 : decode cX3_stepsWithin 32 = .ok (.if_icmp .ne 5, 3) := by decide +kernel
theorem dX3_stepsWithin_35 : decode cX3_stepsWithin 35 = .ok (.iconst 0, 1) := by decide +kernel
theorem dX3_stepsWithin_36 : decode cX3_stepsWithin 36 = .ok (.ireturn, 1) := by decide +kernel
theorem dX3_stepsWithin_37 : decode cX3_stepsWithin 37 = .ok (.aload_n 0, 1) := by decide +kernel
theorem dX3_stepsWithin_38 : decode cX3_stepsWithin 38 = .ok (.getfield 36, 3) := by decide +kernel
theorem dX3_stepsWithin_41 : decode cX3_stepsWithin 41 = .ok (.lload_n 1, 1) := by decide +kernel
theorem dX3_stepsWithin_42 : decode cX3_stepsWithin 42 = .ok (.iload 7, 2) := by decide +kernel
theorem dX3_stepsWithin_44 : decode cX3_stepsWithin 44 = .ok (.invokevirtual 74, 3) := by decide +kernel
theorem dX3_stepsWithin_47 : decode cX3_stepsWithin 47 = .ok (.ifCond .ne 6, 3) := by decide +kernel
theorem dX3_stepsWithin_50 : decode cX3_stepsWithin 50 = .ok (.iload 8, 2) := by decide +kernel
theorem dX3_stepsWithin_52 : decode cX3_stepsWithin 52 = .ok (.ireturn, 1) := by decide +kernel
theorem dX3_stepsWithin_53 : decode cX3_stepsWithin 53 = .ok (.iinc 8 1, 3) := by decide +kernel
theorem dX3_stepsWithin_56 : decode cX3_stepsWithin 56 = .ok (.goto (-50), 3) := by decide +kernel
theorem dX3_stepsWithin_59 : decode cX3_stepsWithin 59 = .ok (.iload 6, 2) := by decide +kernel
theorem dX3_stepsWithin_61 : decode cX3_stepsWithin 61 = .ok (.ireturn, 1) := by decide +kernel
theorem dX3_findsEqualSums_0 : decode cX3_findsEqualSums 0 = .ok (.aload_n 0, 1) := by decide +kernel
theorem dX3_findsEqualSums_1 : decode cX3_findsEqualSums 1 = .ok (.getfield 36, 3) := by decide +kernel
theorem dX3_findsEqualSums_4 : decode cX3_findsEqualSums 4 = .ok (.getfield 66, 3) := by decide +kernel
theorem dX3_findsEqualSums_7 : decode cX3_findsEqualSums 7 = .ok (.istore_n 3, 1) := by decide +kernel
theorem dX3_findsEqualSums_8 : decode cX3_findsEqualSums 8 = .ok (.iload_n 3, 1) := by decide +kernel
theorem dX3_findsEqualSums_9 : decode cX3_findsEqualSums 9 = .ok (.aload_n 0, 1) := by decide +kernel
theorem dX3_findsEqualSums_10 : decode cX3_findsEqualSums 10 = .ok (.getfield 36, 3) := by decide +kernel
theorem dX3_findsEqualSums_13 : decode cX3_findsEqualSums 13 = .ok (.getfield 71, 3) := by decide +kernel
theorem dX3_findsEqualSums_16 : decode cX3_findsEqualSums 16 = .ok (.if_icmp .gt 32, 3) := by decide +kernel
theorem dX3_findsEqualSums_19 : decode cX3_findsEqualSums 19 = .ok (.aload_n 0, 1) := by decide +kernel
theorem dX3_findsEqualSums_20 : decode cX3_findsEqualSums 20 = .ok (.getfield 36, 3) := by decide +kernel
theorem dX3_findsEqualSums_23 : decode cX3_findsEqualSums 23 = .ok (.lload_n 1, 1) := by decide +kernel
theorem dX3_findsEqualSums_24 : decode cX3_findsEqualSums 24 = .ok (.iload_n 3, 1) := by decide +kernel
theorem dX3_findsEqualSums_25 : decode cX3_findsEqualSums 25 = .ok (.invokevirtual 74, 3) := by decide +kernel
theorem dX3_findsEqualSums_28 : decode cX3_findsEqualSums 28 = .ok (.ifCond .eq 14, 3) := by decide +kernel
theorem dX3_findsEqualSums_31 : decode cX3_findsEqualSums 31 = .ok (.aload_n 0, 1) := by decide +kernel
theorem dX3_findsEqualSums_32 : decode cX3_findsEqualSums 32 = .ok (.iload_n 3, 1) := by decide +kernel
theorem dX3_findsEqualSums_33 : decode cX3_findsEqualSums 33 = .ok (.lload_n 1, 1) := by decide +kernel
theorem dX3_findsEqualSums_34 : decode cX3_findsEqualSums 34 = .ok (.invokevirtual 97, 3) := by decide +kernel
theorem dX3_findsEqualSums_37 : decode cX3_findsEqualSums 37 = .ok (.ifCond .eq 5, 3) := by decide +kernel
theorem dX3_findsEqualSums_40 : decode cX3_findsEqualSums 40 = .ok (.iconst 1, 1) := by decide +kernel
theorem dX3_findsEqualSums_41 : decode cX3_findsEqualSums 41 = .ok (.ireturn, 1) := by decide +kernel
theorem dX3_findsEqualSums_42 : decode cX3_findsEqualSums 42 = .ok (.iinc 3 1, 3) := by decide +kernel
theorem dX3_findsEqualSums_45 : decode cX3_findsEqualSums 45 = .ok (.goto (-37), 3) := by decide +kernel
theorem dX3_findsEqualSums_48 : decode cX3_findsEqualSums 48 = .ok (.iconst 0, 1) := by decide +kernel
theorem dX3_findsEqualSums_49 : decode cX3_findsEqualSums 49 = .ok (.ireturn, 1) := by decide +kernel
theorem dX3_findsEqualSumsFrom_0 : decode cX3_findsEqualSumsFrom 0 = .ok (.iload_n 1, 1) := by decide +kernel
theorem dX3_findsEqualSumsFrom_1 : decode cX3_findsEqualSumsFrom 1 = .ok (.istore 4, 2) := by decide +kernel
theorem dX3_findsEqualSumsFrom_3 : decode cX3_findsEqualSumsFrom 3 = .ok (.iload 4, 2) := by decide +kernel
theorem dX3_findsEqualSumsFrom_5 : decode cX3_findsEqualSumsFrom 5 = .ok (.aload_n 0, 1) := by decide +kernel
theorem dX3_findsEqualSumsFrom_6 : decode cX3_findsEqualSumsFrom 6 = .ok (.getfield 36, 3) := by decide +kernel
theorem dX3_findsEqualSumsFrom_9 : decode cX3_findsEqualSumsFrom 9 = .ok (.getfield 71, 3) := by decide +kernel
theorem dX3_findsEqualSumsFrom_12 : decode cX3_findsEqualSumsFrom 12 = .ok (.if_icmp .gt 35, 3) := by decide +kernel
theorem dX3_findsEqualSumsFrom_15 : decode cX3_findsEqualSumsFrom 15 = .ok (.aload_n 0, 1) := by decide +kernel
theorem dX3_findsEqualSumsFrom_16 : decode cX3_findsEqualSumsFrom 16 = .ok (.getfield 36, 3) := by decide +kernel
theorem dX3_findsEqualSumsFrom_19 : decode cX3_findsEqualSumsFrom 19 = .ok (.lload_n 2, 1) := by decide +kernel
theorem dX3_findsEqualSumsFrom_20 : decode cX3_findsEqualSumsFrom 20 = .ok (.iload 4, 2) := by decide +kernel
theorem dX3_findsEqualSumsFrom_22 : decode cX3_findsEqualSumsFrom 22 = .ok (.invokevirtual 74, 3) := by decide +kernel
theorem dX3_findsEqualSumsFrom_25 : decode cX3_findsEqualSumsFrom 25 = .ok (.ifCond .eq 16, 3) := by decide +kernel
theorem dX3_findsEqualSumsFrom_28 : decode cX3_findsEqualSumsFrom 28 = .ok (.aload_n 0, 1) := by decide +kernel
theorem dX3_findsEqualSumsFrom_29 : decode cX3_findsEqualSumsFrom 29 = .ok (.iload_n 1, 1) := by decide +kernel
theorem dX3_findsEqualSumsFrom_30 : decode cX3_findsEqualSumsFrom 30 = .ok (.iload 4, 2) := by decide +kernel
theorem dX3_findsEqualSumsFrom_32 : decode cX3_findsEqualSumsFrom 32 = .ok (.lload_n 2, 1) := by decide +kernel
theorem dX3_findsEqualSumsFrom_33 : decode cX3_findsEqualSumsFrom 33 = .ok (.invokevirtual 100, 3) := by decide +kernel
theorem dX3_findsEqualSumsFrom_36 : decode cX3_findsEqualSumsFrom 36 = .ok (.ifCond .eq 5, 3) := by decide +kernel
theorem dX3_findsEqualSumsFrom_39 : decode cX3_findsEqualSumsFrom 39 = .ok (.iconst 1, 1) := by decide +kernel
theorem dX3_findsEqualSumsFrom_40 : decode cX3_findsEqualSumsFrom 40 = .ok (.ireturn, 1) := by decide +kernel
theorem dX3_findsEqualSumsFrom_41 : decode cX3_findsEqualSumsFrom 41 = .ok (.iinc 4 1, 3) := by decide +kernel
theorem dX3_findsEqualSumsFrom_44 : decode cX3_findsEqualSumsFrom 44 = .ok (.goto (-41), 3) := by decide +kernel
theorem dX3_findsEqualSumsFrom_47 : decode cX3_findsEqualSumsFrom 47 = .ok (.iconst 0, 1) := by decide +kernel
theorem dX3_findsEqualSumsFrom_48 : decode cX3_findsEqualSumsFrom 48 = .ok (.ireturn, 1) := by decide +kernel
theorem dX3_findsEqualSum_0 : decode cX3_findsEqualSum 0 = .ok (.aload_n 0, 1) := by decide +kernel
theorem dX3_findsEqualSum_1 : decode cX3_findsEqualSum 1 = .ok (.getfield 36, 3) := by decide +kernel
theorem dX3_findsEqualSum_4 : decode cX3_findsEqualSum 4 = .ok (.iconst 1, 1) := by decide +kernel
theorem dX3_findsEqualSum_5 : decode cX3_findsEqualSum 5 = .ok (.iload_n 1, 1) := by decide +kernel
theorem dX3_findsEqualSum_6 : decode cX3_findsEqualSum 6 = .ok (.iconst 1, 1) := by decide +kernel
theorem dX3_findsEqualSum_7 : decode cX3_findsEqualSum 7 = .ok (.iload_n 2, 1) := by decide +kernel
theorem dX3_findsEqualSum_8 : decode cX3_findsEqualSum 8 = .ok (.invokevirtual 85, 3) := by decide +kernel
theorem dX3_findsEqualSum_11 : decode cX3_findsEqualSum 11 = .ok (.istore 5, 2) := by decide +kernel
theorem dX3_findsEqualSum_13 : decode cX3_findsEqualSum 13 = .ok (.aload_n 0, 1) := by decide +kernel
theorem dX3_findsEqualSum_14 : decode cX3_findsEqualSum 14 = .ok (.getfield 36, 3) := by decide +kernel
theorem dX3_findsEqualSum_17 : decode cX3_findsEqualSum 17 = .ok (.getfield 66, 3) := by decide +kernel
theorem dX3_findsEqualSum_20 : decode cX3_findsEqualSum 20 = .ok (.istore 6, 2) := by decide +kernel
theorem dX3_findsEqualSum_22 : decode cX3_findsEqualSum 22 = .ok (.iload 6, 2) := by decide +kernel
theorem dX3_findsEqualSum_24 : decode cX3_findsEqualSum 24 = .ok (.aload_n 0, 1) := by decide +kernel
theorem dX3_findsEqualSum_25 : decode cX3_findsEqualSum 25 = .ok (.getfield 36, 3) := by decide +kernel
theorem dX3_findsEqualSum_28 : decode cX3_findsEqualSum 28 = .ok (.getfield 71, 3) := by decide +kernel
theorem dX3_findsEqualSum_31 : decode cX3_findsEqualSum 31 = .ok (.if_icmp .gt 74, 3) := by decide +kernel
theorem dX3_findsEqualSum_34 : decode cX3_findsEqualSum 34 = .ok (.iload 6, 2) := by decide +kernel
theorem dX3_findsEqualSum_36 : decode cX3_findsEqualSum 36 = .ok (.iload_n 1, 1) := by decide +kernel
theorem dX3_findsEqualSum_37 : decode cX3_findsEqualSum 37 = .ok (.if_icmp .eq 62, 3) := by decide +kernel
theorem dX3_findsEqualSum_40 : decode cX3_findsEqualSum 40 = .ok (.aload_n 0, 1) := by decide +kernel
theorem dX3_findsEqualSum_41 : decode cX3_findsEqualSum 41 = .ok (.getfield 36, 3) := by decide +kernel
theorem dX3_findsEqualSum_44 : decode cX3_findsEqualSum 44 = .ok (.lload_n 3, 1) := by decide +kernel
theorem dX3_findsEqualSum_45 : decode cX3_findsEqualSum 45 = .ok (.iload 6, 2) := by decide +kernel
theorem dX3_findsEqualSum_47 : decode cX3_findsEqualSum 47 = .ok (.invokevirtual 74, 3) := by decide +kernel
theorem dX3_findsEqualSum_50 : decode cX3_findsEqualSum 50 = .ok (.ifCond .eq 49, 3) := by decide +kernel
theorem dX3_findsEqualSum_53 : decode cX3_findsEqualSum 53 = .ok (.aload_n 0, 1) := by decide +kernel
theorem dX3_findsEqualSum_54 : decode cX3_findsEqualSum 54 = .ok (.getfield 36, 3) := by decide +kernel
theorem dX3_findsEqualSum_57 : decode cX3_findsEqualSum 57 = .ok (.iconst 1, 1) := by decide +kernel
theorem dX3_findsEqualSum_58 : decode cX3_findsEqualSum 58 = .ok (.iload 5, 2) := by decide +kernel
theorem dX3_findsEqualSum_60 : decode cX3_findsEqualSum 60 = .ok (.iconst (-1), 1) := by decide +kernel
theorem dX3_findsEqualSum_61 : decode cX3_findsEqualSum 61 = .ok (.iload 6, 2) := by decide +kernel
theorem dX3_findsEqualSum_63 : decode cX3_findsEqualSum 63 = .ok (.invokevirtual 85, 3) := by decide +kernel
theorem dX3_findsEqualSum_66 : decode cX3_findsEqualSum 66 = .ok (.istore 7, 2) := by decide +kernel
theorem dX3_findsEqualSum_68 : decode cX3_findsEqualSum 68 = .ok (.iload 7, 2) := by decide +kernel
theorem dX3_findsEqualSum_70 : decode cX3_findsEqualSum 70 = .ok (.iload 6, 2) := by decide +kernel
theorem dX3_findsEqualSum_72 : decode cX3_findsEqualSum 72 = .ok (.if_icmp .lt 27, 3) := by decide +kernel
theorem dX3_findsEqualSum_75 : decode cX3_findsEqualSum 75 = .ok (.aload_n 0, 1) := by decide +kernel
theorem dX3_findsEqualSum_76 : decode cX3_findsEqualSum 76 = .ok (.getfield 36, 3) := by decide +kernel
theorem dX3_findsEqualSum_79 : decode cX3_findsEqualSum 79 = .ok (.lload_n 3, 1) := by decide +kernel
theorem dX3_findsEqualSum_80 : decode cX3_findsEqualSum 80 = .ok (.iload 7, 2) := by decide +kernel
theorem dX3_findsEqualSum_82 : decode cX3_findsEqualSum 82 = .ok (.invokevirtual 74, 3) := by decide +kernel
theorem dX3_findsEqualSum_85 : decode cX3_findsEqualSum 85 = .ok (.ifCond .eq 14, 3) := by decide +kernel
theorem dX3_findsEqualSum_88 : decode cX3_findsEqualSum 88 = .ok (.aload_n 0, 1) := by decide +kernel
theorem dX3_findsEqualSum_89 : decode cX3_findsEqualSum 89 = .ok (.iload_n 1, 1) := by decide +kernel
theorem dX3_findsEqualSum_90 : decode cX3_findsEqualSum 90 = .ok (.iload_n 2, 1) := by decide +kernel
theorem dX3_findsEqualSum_91 : decode cX3_findsEqualSum 91 = .ok (.iload 6, 2) := by decide +kernel
theorem dX3_findsEqualSum_93 : decode cX3_findsEqualSum 93 = .ok (.iload 7, 2) := by decide +kernel
theorem dX3_findsEqualSum_95 : decode cX3_findsEqualSum 95 = .ok (.invokevirtual 93, 3) := by decide +kernel
theorem dX3_findsEqualSum_98 : decode cX3_findsEqualSum 98 = .ok (.ireturn, 1) := by decide +kernel
theorem dX3_findsEqualSum_99 : decode cX3_findsEqualSum 99 = .ok (.iinc 6 1, 3) := by decide +kernel
theorem dX3_findsEqualSum_102 : decode cX3_findsEqualSum 102 = .ok (.goto (-80), 3) := by decide +kernel
theorem dX3_findsEqualSum_105 : decode cX3_findsEqualSum 105 = .ok (.iconst 0, 1) := by decide +kernel
theorem dX3_findsEqualSum_106 : decode cX3_findsEqualSum 106 = .ok (.ireturn, 1) := by decide +kernel
theorem dX3_findsThree_0 : decode cX3_findsThree 0 = .ok (.aload_n 0, 1) := by decide +kernel
theorem dX3_findsThree_1 : decode cX3_findsThree 1 = .ok (.aload_n 1, 1) := by decide +kernel
theorem dX3_findsThree_2 : decode cX3_findsThree 2 = .ok (.invokevirtual 103, 3) := by decide +kernel
theorem dX3_findsThree_5 : decode cX3_findsThree 5 = .ok (.aload_n 1, 1) := by decide +kernel
theorem dX3_findsThree_6 : decode cX3_findsThree 6 = .ok (.getfield 107, 3) := by decide +kernel
theorem dX3_findsThree_9 : decode cX3_findsThree 9 = .ok (.lload_n 2, 1) := by decide +kernel
theorem dX3_findsThree_10 : decode cX3_findsThree 10 = .ok (.invokestatic 110, 3) := by decide +kernel
theorem dX3_findsThree_13 : decode cX3_findsThree 13 = .ok (.lstore 4, 2) := by decide +kernel
theorem dX3_findsThree_15 : decode cX3_findsThree 15 = .ok (.iconst 0, 1) := by decide +kernel
theorem dX3_findsThree_16 : decode cX3_findsThree 16 = .ok (.istore 6, 2) := by decide +kernel
theorem dX3_findsThree_18 : decode cX3_findsThree 18 = .ok (.iload 6, 2) := by decide +kernel
theorem dX3_findsThree_20 : decode cX3_findsThree 20 = .ok (.aload_n 0, 1) := by decide +kernel
theorem dX3_findsThree_21 : decode cX3_findsThree 21 = .ok (.getfield 36, 3) := by decide +kernel
theorem dX3_findsThree_24 : decode cX3_findsThree 24 = .ok (.getfield 71, 3) := by decide +kernel
theorem dX3_findsThree_27 : decode cX3_findsThree 27 = .ok (.if_icmp .gt 34, 3) := by decide +kernel
theorem dX3_findsThree_30 : decode cX3_findsThree 30 = .ok (.lload 4, 2) := by decide +kernel
theorem dX3_findsThree_32 : decode cX3_findsThree 32 = .ok (.iload 6, 2) := by decide +kernel
theorem dX3_findsThree_34 : decode cX3_findsThree 34 = .ok (.lushr, 1) := by decide +kernel
theorem dX3_findsThree_35 : decode cX3_findsThree 35 = .ok (.lconst 1, 1) := by decide +kernel
theorem dX3_findsThree_36 : decode cX3_findsThree 36 = .ok (.land, 1) := by decide +kernel
theorem dX3_findsThree_37 : decode cX3_findsThree 37 = .ok (.lconst 0, 1) := by decide +kernel
theorem dX3_findsThree_38 : decode cX3_findsThree 38 = .ok (.lcmp, 1) := by decide +kernel
theorem dX3_findsThree_39 : decode cX3_findsThree 39 = .ok (.ifCond .eq 16, 3) := by decide +kernel
theorem dX3_findsThree_42 : decode cX3_findsThree 42 = .ok (.aload_n 0, 1) := by decide +kernel
theorem dX3_findsThree_43 : decode cX3_findsThree 43 = .ok (.aload_n 1, 1) := by decide +kernel
theorem dX3_findsThree_44 : decode cX3_findsThree 44 = .ok (.iload 6, 2) := by decide +kernel
theorem dX3_findsThree_46 : decode cX3_findsThree 46 = .ok (.lload_n 2, 1) := by decide +kernel
theorem dX3_findsThree_47 : decode cX3_findsThree 47 = .ok (.invokevirtual 114, 3) := by decide +kernel
theorem dX3_findsThree_50 : decode cX3_findsThree 50 = .ok (.ifCond .eq 5, 3) := by decide +kernel
theorem dX3_findsThree_53 : decode cX3_findsThree 53 = .ok (.iconst 1, 1) := by decide +kernel
theorem dX3_findsThree_54 : decode cX3_findsThree 54 = .ok (.ireturn, 1) := by decide +kernel
theorem dX3_findsThree_55 : decode cX3_findsThree 55 = .ok (.iinc 6 1, 3) := by decide +kernel
theorem dX3_findsThree_58 : decode cX3_findsThree 58 = .ok (.goto (-40), 3) := by decide +kernel
theorem dX3_findsThree_61 : decode cX3_findsThree 61 = .ok (.iconst 0, 1) := by decide +kernel
theorem dX3_findsThree_62 : decode cX3_findsThree 62 = .ok (.ireturn, 1) := by decide +kernel
theorem dX3_findsThreeFrom_0 : decode cX3_findsThreeFrom 0 = .ok (.aload_n 1, 1) := by decide +kernel
theorem dX3_findsThreeFrom_1 : decode cX3_findsThreeFrom 1 = .ok (.getfield 118, 3) := by decide +kernel
theorem dX3_findsThreeFrom_4 : decode cX3_findsThreeFrom 4 = .ok (.lload_n 3, 1) := by decide +kernel
theorem dX3_findsThreeFrom_5 : decode cX3_findsThreeFrom 5 = .ok (.invokestatic 110, 3) := by decide +kernel
theorem dX3_findsThreeFrom_8 : decode cX3_findsThreeFrom 8 = .ok (.lstore 5, 2) := by decide +kernel
theorem dX3_findsThreeFrom_10 : decode cX3_findsThreeFrom 10 = .ok (.aload_n 1, 1) := by decide +kernel
theorem dX3_findsThreeFrom_11 : decode cX3_findsThreeFrom 11 = .ok (.getfield 121, 3) := by decide +kernel
theorem dX3_findsThreeFrom_14 : decode cX3_findsThreeFrom 14 = .ok (.lload_n 3, 1) := by decide +kernel
theorem dX3_findsThreeFrom_15 : decode cX3_findsThreeFrom 15 = .ok (.invokestatic 110, 3) := by decide +kernel
theorem dX3_findsThreeFrom_18 : decode cX3_findsThreeFrom 18 = .ok (.lstore 7, 2) := by decide +kernel
theorem dX3_findsThreeFrom_20 : decode cX3_findsThreeFrom 20 = .ok (.iconst 0, 1) := by decide +kernel
theorem dX3_findsThreeFrom_21 : decode cX3_findsThreeFrom 21 = .ok (.istore 9, 2) := by decide +kernel
theorem dX3_findsThreeFrom_23 : decode cX3_findsThreeFrom 23 = .ok (.iload 9, 2) := by decide +kernel
theorem dX3_findsThreeFrom_25 : decode cX3_findsThreeFrom 25 = .ok (.aload_n 0, 1) := by decide +kernel
theorem dX3_findsThreeFrom_26 : decode cX3_findsThreeFrom 26 = .ok (.getfield 36, 3) := by decide +kernel
theorem dX3_findsThreeFrom_29 : decode cX3_findsThreeFrom 29 = .ok (.getfield 71, 3) := by decide +kernel
theorem dX3_findsThreeFrom_32 : decode cX3_findsThreeFrom 32 = .ok (.if_icmp .gt 55, 3) := by decide +kernel
theorem dX3_findsThreeFrom_35 : decode cX3_findsThreeFrom 35 = .ok (.lload 5, 2) := by decide +kernel
theorem dX3_findsThreeFrom_37 : decode cX3_findsThreeFrom 37 = .ok (.iload 9, 2) := by decide +kernel
theorem dX3_findsThreeFrom_39 : decode cX3_findsThreeFrom 39 = .ok (.lushr, 1) := by decide +kernel
theorem dX3_findsThreeFrom_40 : decode cX3_findsThreeFrom 40 = .ok (.lconst 1, 1) := by decide +kernel
theorem dX3_findsThreeFrom_41 : decode cX3_findsThreeFrom 41 = .ok (.land, 1) := by decide +kernel
theorem dX3_findsThreeFrom_42 : decode cX3_findsThreeFrom 42 = .ok (.lconst 0, 1) := by decide +kernel
theorem dX3_findsThreeFrom_43 : decode cX3_findsThreeFrom 43 = .ok (.lcmp, 1) := by decide +kernel
theorem dX3_findsThreeFrom_44 : decode cX3_findsThreeFrom 44 = .ok (.ifCond .eq 37, 3) := by decide +kernel
theorem dX3_findsThreeFrom_47 : decode cX3_findsThreeFrom 47 = .ok (.aload_n 0, 1) := by decide +kernel
theorem dX3_findsThreeFrom_48 : decode cX3_findsThreeFrom 48 = .ok (.aload_n 1, 1) := by decide +kernel
theorem dX3_findsThreeFrom_49 : decode cX3_findsThreeFrom 49 = .ok (.iload_n 2, 1) := by decide +kernel
theorem dX3_findsThreeFrom_50 : decode cX3_findsThreeFrom 50 = .ok (.iload 9, 2) := by decide +kernel
theorem dX3_findsThreeFrom_52 : decode cX3_findsThreeFrom 52 = .ok (.invokevirtual 124, 3) := by decide +kernel
theorem dX3_findsThreeFrom_55 : decode cX3_findsThreeFrom 55 = .ok (.lload 7, 2) := by decide +kernel
theorem dX3_findsThreeFrom_57 : decode cX3_findsThreeFrom 57 = .ok (.land, 1) := by decide +kernel
theorem dX3_findsThreeFrom_58 : decode cX3_findsThreeFrom 58 = .ok (.lstore 10, 2) := by decide +kernel
theorem dX3_findsThreeFrom_60 : decode cX3_findsThreeFrom 60 = .ok (.lload 10, 2) := by decide +kernel
theorem dX3_findsThreeFrom_62 : decode cX3_findsThreeFrom 62 = .ok (.lconst 0, 1) := by decide +kernel
theorem dX3_findsThreeFrom_63 : decode cX3_findsThreeFrom 63 = .ok (.lcmp, 1) := by decide +kernel
theorem dX3_findsThreeFrom_64 : decode cX3_findsThreeFrom 64 = .ok (.ifCond .eq 17, 3) := by decide +kernel
theorem dX3_findsThreeFrom_67 : decode cX3_findsThreeFrom 67 = .ok (.aload_n 0, 1) := by decide +kernel
theorem dX3_findsThreeFrom_68 : decode cX3_findsThreeFrom 68 = .ok (.iload_n 2, 1) := by decide +kernel
theorem dX3_findsThreeFrom_69 : decode cX3_findsThreeFrom 69 = .ok (.iload 9, 2) := by decide +kernel
theorem dX3_findsThreeFrom_71 : decode cX3_findsThreeFrom 71 = .ok (.lload 10, 2) := by decide +kernel
theorem dX3_findsThreeFrom_73 : decode cX3_findsThreeFrom 73 = .ok (.invokestatic 128, 3) := by decide +kernel
theorem dX3_findsThreeFrom_76 : decode cX3_findsThreeFrom 76 = .ok (.iconst 0, 1) := by decide +kernel
theorem dX3_findsThreeFrom_77 : decode cX3_findsThreeFrom 77 = .ok (.invokevirtual 93, 3) := by decide +kernel
theorem dX3_findsThreeFrom_80 : decode cX3_findsThreeFrom 80 = .ok (.ireturn, 1) := by decide +kernel
theorem dX3_findsThreeFrom_81 : decode cX3_findsThreeFrom 81 = .ok (.iinc 9 1, 3) := by decide +kernel
theorem dX3_findsThreeFrom_84 : decode cX3_findsThreeFrom 84 = .ok (.goto (-61), 3) := by decide +kernel
theorem dX3_findsThreeFrom_87 : decode cX3_findsThreeFrom 87 = .ok (.iconst 0, 1) := by decide +kernel
theorem dX3_findsThreeFrom_88 : decode cX3_findsThreeFrom 88 = .ok (.ireturn, 1) := by decide +kernel
theorem dX3_choices_0 : decode cX3_choices 0 = .ok (.iload_n 0, 1) := by decide +kernel
theorem dX3_choices_1 : decode cX3_choices 1 = .ok (.ifCond .ne 7, 3) := by decide +kernel
theorem dX3_choices_4 : decode cX3_choices 4 = .ok (.lconst 1, 1) := by decide +kernel
theorem dX3_choices_5 : decode cX3_choices 5 = .ok (.goto 4, 3) := by decide +kernel
theorem dX3_choices_8 : decode cX3_choices 8 = .ok (.lload_n 1, 1) := by decide +kernel
theorem dX3_choices_9 : decode cX3_choices 9 = .ok (.lreturn, 1) := by decide +kernel
theorem dX3_takeInHand_0 : decode cX3_takeInHand 0 = .ok (.aload_n 0, 1) := by decide +kernel
theorem dX3_takeInHand_1 : decode cX3_takeInHand 1 = .ok (.getfield 25, 3) := by decide +kernel
theorem dX3_takeInHand_4 : decode cX3_takeInHand 4 = .ok (.lconst 0, 1) := by decide +kernel
theorem dX3_takeInHand_5 : decode cX3_takeInHand 5 = .ok (.invokestatic 132, 3) := by decide +kernel
theorem dX3_takeInHand_8 : decode cX3_takeInHand 8 = .ok (.aload_n 1, 1) := by decide +kernel
theorem dX3_takeInHand_9 : decode cX3_takeInHand 9 = .ok (.getfield 121, 3) := by decide +kernel
theorem dX3_takeInHand_12 : decode cX3_takeInHand 12 = .ok (.aload_n 0, 1) := by decide +kernel
theorem dX3_takeInHand_13 : decode cX3_takeInHand 13 = .ok (.getfield 36, 3) := by decide +kernel
theorem dX3_takeInHand_16 : decode cX3_takeInHand 16 = .ok (.getfield 138, 3) := by decide +kernel
theorem dX3_takeInHand_19 : decode cX3_takeInHand 19 = .ok (.invokestatic 110, 3) := by decide +kernel
theorem dX3_takeInHand_22 : decode cX3_takeInHand 22 = .ok (.lstore_n 2, 1) := by decide +kernel
theorem dX3_takeInHand_23 : decode cX3_takeInHand 23 = .ok (.iconst 0, 1) := by decide +kernel
theorem dX3_takeInHand_24 : decode cX3_takeInHand 24 = .ok (.istore 4, 2) := by decide +kernel
theorem dX3_takeInHand_26 : decode cX3_takeInHand 26 = .ok (.iload 4, 2) := by decide +kernel
theorem dX3_takeInHand_28 : decode cX3_takeInHand 28 = .ok (.aload_n 0, 1) := by decide +kernel
theorem dX3_takeInHand_29 : decode cX3_takeInHand 29 = .ok (.getfield 36, 3) := by decide +kernel
theorem dX3_takeInHand_32 : decode cX3_takeInHand 32 = .ok (.getfield 71, 3) := by decide +kernel
theorem dX3_takeInHand_35 : decode cX3_takeInHand 35 = .ok (.if_icmp .gt 52, 3) := by decide +kernel
theorem dX3_takeInHand_38 : decode cX3_takeInHand 38 = .ok (.lload_n 2, 1) := by decide +kernel
theorem dX3_takeInHand_39 : decode cX3_takeInHand 39 = .ok (.iload 4, 2) := by decide +kernel
theorem dX3_takeInHand_41 : decode cX3_takeInHand 41 = .ok (.lushr, 1) := by decide +kernel
theorem dX3_takeInHand_42 : decode cX3_takeInHand 42 = .ok (.lconst 1, 1) := by decide +kernel
theorem dX3_takeInHand_43 : decode cX3_takeInHand 43 = .ok (.land, 1) := by decide +kernel
theorem dX3_takeInHand_44 : decode cX3_takeInHand 44 = .ok (.lconst 0, 1) := by decide +kernel
theorem dX3_takeInHand_45 : decode cX3_takeInHand 45 = .ok (.lcmp, 1) := by decide +kernel
theorem dX3_takeInHand_46 : decode cX3_takeInHand 46 = .ok (.ifCond .eq 35, 3) := by decide +kernel
theorem dX3_takeInHand_49 : decode cX3_takeInHand 49 = .ok (.aload_n 0, 1) := by decide +kernel
theorem dX3_takeInHand_50 : decode cX3_takeInHand 50 = .ok (.getfield 25, 3) := by decide +kernel
theorem dX3_takeInHand_53 : decode cX3_takeInHand 53 = .ok (.sipush 540, 3) := by decide +kernel
theorem dX3_takeInHand_56 : decode cX3_takeInHand 56 = .ok (.aload_n 0, 1) := by decide +kernel
theorem dX3_takeInHand_57 : decode cX3_takeInHand 57 = .ok (.getfield 36, 3) := by decide +kernel
theorem dX3_takeInHand_60 : decode cX3_takeInHand 60 = .ok (.aload_n 1, 1) := by decide +kernel
theorem dX3_takeInHand_61 : decode cX3_takeInHand 61 = .ok (.getfield 121, 3) := by decide +kernel
theorem dX3_takeInHand_64 : decode cX3_takeInHand 64 = .ok (.ineg, 1) := by decide +kernel
theorem dX3_takeInHand_65 : decode cX3_takeInHand 65 = .ok (.iload 4, 2) := by decide +kernel
theorem dX3_takeInHand_67 : decode cX3_takeInHand 67 = .ok (.iconst 0, 1) := by decide +kernel
theorem dX3_takeInHand_68 : decode cX3_takeInHand 68 = .ok (.iconst 0, 1) := by decide +kernel
theorem dX3_takeInHand_69 : decode cX3_takeInHand 69 = .ok (.invokevirtual 85, 3) := by decide +kernel
theorem dX3_takeInHand_72 : decode cX3_takeInHand 72 = .ok (.iadd, 1) := by decide +kernel
theorem dX3_takeInHand_73 : decode cX3_takeInHand 73 = .ok (.dup2, 1) := by decide +kernel
theorem dX3_takeInHand_74 : decode cX3_takeInHand 74 = .ok (.laload, 1) := by decide +kernel
theorem dX3_takeInHand_75 : decode cX3_takeInHand 75 = .ok (.lconst 1, 1) := by decide +kernel
theorem dX3_takeInHand_76 : decode cX3_takeInHand 76 = .ok (.iload 4, 2) := by decide +kernel
theorem dX3_takeInHand_78 : decode cX3_takeInHand 78 = .ok (.lshl, 1) := by decide +kernel
theorem dX3_takeInHand_79 : decode cX3_takeInHand 79 = .ok (.lor, 1) := by decide +kernel
theorem dX3_takeInHand_80 : decode cX3_takeInHand 80 = .ok (.lastore, 1) := by decide +kernel
theorem dX3_takeInHand_81 : decode cX3_takeInHand 81 = .ok (.iinc 4 1, 3) := by decide +kernel
theorem dX3_takeInHand_84 : decode cX3_takeInHand 84 = .ok (.goto (-58), 3) := by decide +kernel
theorem dX3_takeInHand_87 : decode cX3_takeInHand 87 = .ok (.return_, 1) := by decide +kernel
theorem dX3_fittingWith_0 : decode cX3_fittingWith 0 = .ok (.aload_n 1, 1) := by decide +kernel
theorem dX3_fittingWith_1 : decode cX3_fittingWith 1 = .ok (.getfield 49, 3) := by decide +kernel
theorem dX3_fittingWith_4 : decode cX3_fittingWith 4 = .ok (.iconst 2, 1) := by decide +kernel
theorem dX3_fittingWith_5 : decode cX3_fittingWith 5 = .ok (.if_icmp .ne 19, 3) := by decide +kernel
theorem dX3_fittingWith_8 : decode cX3_fittingWith 8 = .ok (.aload_n 0, 1) := by decide +kernel
theorem dX3_fittingWith_9 : decode cX3_fittingWith 9 = .ok (.aload_n 0, 1) := by decide +kernel
theorem dX3_fittingWith_10 : decode cX3_fittingWith 10 = .ok (.getfield 36, 3) := by decide +kernel
theorem dX3_fittingWith_13 : decode cX3_fittingWith 13 = .ok (.iload_n 2, 1) := by decide +kernel
theorem dX3_fittingWith_14 : decode cX3_fittingWith 14 = .ok (.iload_n 3, 1) := by decide +kernel
theorem dX3_fittingWith_15 : decode cX3_fittingWith 15 = .ok (.invokevirtual 142, 3) := by decide +kernel
theorem dX3_fittingWith_18 : decode cX3_fittingWith 18 = .ok (.invokevirtual 146, 3) := by decide +kernel
theorem dX3_fittingWith_21 : decode cX3_fittingWith 21 = .ok (.goto 24, 3) := by decide +kernel
theorem dX3_fittingWith_24 : decode cX3_fittingWith 24 = .ok (.aload_n 0, 1) := by decide +kernel
theorem dX3_fittingWith_25 : decode cX3_fittingWith 25 = .ok (.aload_n 0, 1) := by decide +kernel
theorem dX3_fittingWith_26 : decode cX3_fittingWith 26 = .ok (.getfield 36, 3) := by decide +kernel
theorem dX3_fittingWith_29 : decode cX3_fittingWith 29 = .ok (.aload_n 1, 1) := by decide +kernel
theorem dX3_fittingWith_30 : decode cX3_fittingWith 30 = .ok (.getfield 107, 3) := by decide +kernel
theorem dX3_fittingWith_33 : decode cX3_fittingWith 33 = .ok (.iload_n 2, 1) := by decide +kernel
theorem dX3_fittingWith_34 : decode cX3_fittingWith 34 = .ok (.aload_n 1, 1) := by decide +kernel
theorem dX3_fittingWith_35 : decode cX3_fittingWith 35 = .ok (.getfield 118, 3) := by decide +kernel
theorem dX3_fittingWith_38 : decode cX3_fittingWith 38 = .ok (.iload_n 3, 1) := by decide +kernel
theorem dX3_fittingWith_39 : decode cX3_fittingWith 39 = .ok (.invokevirtual 85, 3) := by decide +kernel
theorem dX3_fittingWith_42 : decode cX3_fittingWith 42 = .ok (.invokevirtual 150, 3) := by decide +kernel
theorem dX3_fittingWith_45 : decode cX3_fittingWith 45 = .ok (.lstore 4, 2) := by decide +kernel
theorem dX3_fittingWith_47 : decode cX3_fittingWith 47 = .ok (.aload_n 1, 1) := by decide +kernel
theorem dX3_fittingWith_48 : decode cX3_fittingWith 48 = .ok (.getfield 153, 3) := by decide +kernel
theorem dX3_fittingWith_51 : decode cX3_fittingWith 51 = .ok (.ifCond .ne 6, 3) := by decide +kernel
theorem dX3_fittingWith_54 : decode cX3_fittingWith 54 = .ok (.lload 4, 2) := by decide +kernel
theorem dX3_fittingWith_56 : decode cX3_fittingWith 56 = .ok (.lreturn, 1) := by decide +kernel
theorem dX3_fittingWith_57 : decode cX3_fittingWith 57 = .ok (.iload_n 2, 1) := by decide +kernel
theorem dX3_fittingWith_58 : decode cX3_fittingWith 58 = .ok (.iload_n 3, 1) := by decide +kernel
theorem dX3_fittingWith_59 : decode cX3_fittingWith 59 = .ok (.if_icmp .ne 19, 3) := by decide +kernel
theorem dX3_fittingWith_62 : decode cX3_fittingWith 62 = .ok (.aload_n 1, 1) := by decide +kernel
theorem dX3_fittingWith_63 : decode cX3_fittingWith 63 = .ok (.getfield 107, 3) := by decide +kernel
theorem dX3_fittingWith_66 : decode cX3_fittingWith 66 = .ok (.ifCond .eq 12, 3) := by decide +kernel
theorem dX3_fittingWith_69 : decode cX3_fittingWith 69 = .ok (.aload_n 1, 1) := by decide +kernel
theorem dX3_fittingWith_70 : decode cX3_fittingWith 70 = .ok (.getfield 118, 3) := by decide +kernel
theorem dX3_fittingWith_73 : decode cX3_fittingWith 73 = .ok (.ifCond .eq 5, 3) := by decide +kernel
theorem dX3_fittingWith_76 : decode cX3_fittingWith 76 = .ok (.lconst 0, 1) := by decide +kernel
theorem dX3_fittingWith_77 : decode cX3_fittingWith 77 = .ok (.lreturn, 1) := by decide +kernel
theorem dX3_fittingWith_78 : decode cX3_fittingWith 78 = .ok (.aload_n 1, 1) := by decide +kernel
theorem dX3_fittingWith_79 : decode cX3_fittingWith 79 = .ok (.getfield 121, 3) := by decide +kernel
theorem dX3_fittingWith_82 : decode cX3_fittingWith 82 = .ok (.ifCond .ne 6, 3) := by decide +kernel
theorem dX3_fittingWith_85 : decode cX3_fittingWith 85 = .ok (.lload 4, 2) := by decide +kernel
theorem dX3_fittingWith_87 : decode cX3_fittingWith 87 = .ok (.lreturn, 1) := by decide +kernel
theorem dX3_fittingWith_88 : decode cX3_fittingWith 88 = .ok (.lload 4, 2) := by decide +kernel
theorem dX3_fittingWith_90 : decode cX3_fittingWith 90 = .ok (.aload_n 1, 1) := by decide +kernel
theorem dX3_fittingWith_91 : decode cX3_fittingWith 91 = .ok (.getfield 107, 3) := by decide +kernel
theorem dX3_fittingWith_94 : decode cX3_fittingWith 94 = .ok (.ifCond .ne 7, 3) := by decide +kernel
theorem dX3_fittingWith_97 : decode cX3_fittingWith 97 = .ok (.lconst 0, 1) := by decide +kernel
theorem dX3_fittingWith_98 : decode cX3_fittingWith 98 = .ok (.goto 6, 3) := by decide +kernel
theorem dX3_fittingWith_101 : decode cX3_fittingWith 101 = .ok (.lconst 1, 1) := by decide +kernel
theorem dX3_fittingWith_102 : decode cX3_fittingWith 102 = .ok (.iload_n 2, 1) := by decide +kernel
theorem dX3_fittingWith_103 : decode cX3_fittingWith 103 = .ok (.lshl, 1) := by decide +kernel
theorem dX3_fittingWith_104 : decode cX3_fittingWith 104 = .ok (.ldc2_w 156, 3) := by decide +kernel
theorem dX3_fittingWith_107 : decode cX3_fittingWith 107 = .ok (.lxor, 1) := by decide +kernel
theorem dX3_fittingWith_108 : decode cX3_fittingWith 108 = .ok (.land, 1) := by decide +kernel
theorem dX3_fittingWith_109 : decode cX3_fittingWith 109 = .ok (.aload_n 1, 1) := by decide +kernel
theorem dX3_fittingWith_110 : decode cX3_fittingWith 110 = .ok (.getfield 118, 3) := by decide +kernel
theorem dX3_fittingWith_113 : decode cX3_fittingWith 113 = .ok (.ifCond .ne 7, 3) := by decide +kernel
theorem dX3_fittingWith_116 : decode cX3_fittingWith 116 = .ok (.lconst 0, 1) := by decide +kernel
theorem dX3_fittingWith_117 : decode cX3_fittingWith 117 = .ok (.goto 6, 3) := by decide +kernel
theorem dX3_fittingWith_120 : decode cX3_fittingWith 120 = .ok (.lconst 1, 1) := by decide +kernel
theorem dX3_fittingWith_121 : decode cX3_fittingWith 121 = .ok (.iload_n 3, 1) := by decide +kernel
theorem dX3_fittingWith_122 : decode cX3_fittingWith 122 = .ok (.lshl, 1) := by decide +kernel
theorem dX3_fittingWith_123 : decode cX3_fittingWith 123 = .ok (.ldc2_w 156, 3) := by decide +kernel
theorem dX3_fittingWith_126 : decode cX3_fittingWith 126 = .ok (.lxor, 1) := by decide +kernel
theorem dX3_fittingWith_127 : decode cX3_fittingWith 127 = .ok (.land, 1) := by decide +kernel
theorem dX3_fittingWith_128 : decode cX3_fittingWith 128 = .ok (.lreturn, 1) := by decide +kernel
theorem dX3_alone_0 : decode cX3_alone 0 = .ok (.aload_n 0, 1) := by decide +kernel
theorem dX3_alone_1 : decode cX3_alone 1 = .ok (.getfield 36, 3) := by decide +kernel
theorem dX3_alone_4 : decode cX3_alone 4 = .ok (.iload_n 1, 1) := by decide +kernel
theorem dX3_alone_5 : decode cX3_alone 5 = .ok (.i2l, 1) := by decide +kernel
theorem dX3_alone_6 : decode cX3_alone 6 = .ok (.invokevirtual 158, 3) := by decide +kernel
theorem dX3_alone_9 : decode cX3_alone 9 = .ok (.ifCond .eq 9, 3) := by decide +kernel
theorem dX3_alone_12 : decode cX3_alone 12 = .ok (.lconst 1, 1) := by decide +kernel
theorem dX3_alone_13 : decode cX3_alone 13 = .ok (.iload_n 1, 1) := by decide +kernel
theorem dX3_alone_14 : decode cX3_alone 14 = .ok (.lshl, 1) := by decide +kernel
theorem dX3_alone_15 : decode cX3_alone 15 = .ok (.goto 4, 3) := by decide +kernel
theorem dX3_alone_18 : decode cX3_alone 18 = .ok (.lconst 0, 1) := by decide +kernel
theorem dX3_alone_19 : decode cX3_alone 19 = .ok (.lreturn, 1) := by decide +kernel
theorem dX3_answersTo_0 : decode cX3_answersTo 0 = .ok (.iload_n 1, 1) := by decide +kernel
theorem dX3_answersTo_1 : decode cX3_answersTo 1 = .ok (.sipush (-540), 3) := by decide +kernel
theorem dX3_answersTo_4 : decode cX3_answersTo 4 = .ok (.if_icmp .lt 23, 3) := by decide +kernel
theorem dX3_answersTo_7 : decode cX3_answersTo 7 = .ok (.iload_n 1, 1) := by decide +kernel
theorem dX3_answersTo_8 : decode cX3_answersTo 8 = .ok (.sipush 540, 3) := by decide +kernel
theorem dX3_answersTo_11 : decode cX3_answersTo 11 = .ok (.if_icmp .gt 16, 3) := by decide +kernel
theorem dX3_answersTo_14 : decode cX3_answersTo 14 = .ok (.aload_n 0, 1) := by decide +kernel
theorem dX3_answersTo_15 : decode cX3_answersTo 15 = .ok (.getfield 25, 3) := by decide +kernel
theorem dX3_answersTo_18 : decode cX3_answersTo 18 = .ok (.sipush 540, 3) := by decide +kernel
theorem dX3_answersTo_21 : decode cX3_answersTo 21 = .ok (.iload_n 1, 1) := by decide +kernel
theorem dX3_answersTo_22 : decode cX3_answersTo 22 = .ok (.iadd, 1) := by decide +kernel
theorem dX3_answersTo_23 : decode cX3_answersTo 23 = .ok (.laload, 1) := by decide +kernel
theorem dX3_answersTo_24 : decode cX3_answersTo 24 = .ok (.goto 4, 3) := by decide +kernel
theorem dX3_answersTo_27 : decode cX3_answersTo 27 = .ok (.lconst 0, 1) := by decide +kernel
theorem dX3_answersTo_28 : decode cX3_answersTo 28 = .ok (.lreturn, 1) := by decide +kernel
theorem dX3_keepWith_0 : decode cX3_keepWith 0 = .ok (.lload_n 1, 1) := by decide +kernel
theorem dX3_keepWith_1 : decode cX3_keepWith 1 = .ok (.lconst 1, 1) := by decide +kernel
theorem dX3_keepWith_2 : decode cX3_keepWith 2 = .ok (.iload_n 3, 1) := by decide +kernel
theorem dX3_keepWith_3 : decode cX3_keepWith 3 = .ok (.lshl, 1) := by decide +kernel
theorem dX3_keepWith_4 : decode cX3_keepWith 4 = .ok (.lor, 1) := by decide +kernel
theorem dX3_keepWith_5 : decode cX3_keepWith 5 = .ok (.lstore 4, 2) := by decide +kernel
theorem dX3_keepWith_7 : decode cX3_keepWith 7 = .ok (.lload 4, 2) := by decide +kernel
theorem dX3_keepWith_9 : decode cX3_keepWith 9 = .ok (.lstore 6, 2) := by decide +kernel
theorem dX3_keepWith_11 : decode cX3_keepWith 11 = .ok (.lload 4, 2) := by decide +kernel
theorem dX3_keepWith_13 : decode cX3_keepWith 13 = .ok (.invokestatic 161, 3) := by decide +kernel
theorem dX3_keepWith_16 : decode cX3_keepWith 16 = .ok (.istore 8, 2) := by decide +kernel
theorem dX3_keepWith_18 : decode cX3_keepWith 18 = .ok (.iload 8, 2) := by decide +kernel
theorem dX3_keepWith_20 : decode cX3_keepWith 20 = .ok (.ifCond .le 43, 3) := by decide +kernel
theorem dX3_keepWith_23 : decode cX3_keepWith 23 = .ok (.aload_n 0, 1) := by decide +kernel
theorem dX3_keepWith_24 : decode cX3_keepWith 24 = .ok (.getfield 29, 3) := by decide +kernel
theorem dX3_keepWith_27 : decode cX3_keepWith 27 = .ok (.iload_n 3, 1) := by decide +kernel
theorem dX3_keepWith_28 : decode cX3_keepWith 28 = .ok (.bipush 61, 2) := by decide +kernel
theorem dX3_keepWith_30 : decode cX3_keepWith 30 = .ok (.imul, 1) := by decide +kernel
theorem dX3_keepWith_31 : decode cX3_keepWith 31 = .ok (.lload 6, 2) := by decide +kernel
theorem dX3_keepWith_33 : decode cX3_keepWith 33 = .ok (.invokestatic 128, 3) := by decide +kernel
theorem dX3_keepWith_36 : decode cX3_keepWith 36 = .ok (.iadd, 1) := by decide +kernel
theorem dX3_keepWith_37 : decode cX3_keepWith 37 = .ok (.laload, 1) := by decide +kernel
theorem dX3_keepWith_38 : decode cX3_keepWith 38 = .ok (.lload 4, 2) := by decide +kernel
theorem dX3_keepWith_40 : decode cX3_keepWith 40 = .ok (.land, 1) := by decide +kernel
theorem dX3_keepWith_41 : decode cX3_keepWith 41 = .ok (.lconst 0, 1) := by decide +kernel
theorem dX3_keepWith_42 : decode cX3_keepWith 42 = .ok (.lcmp, 1) := by decide +kernel
theorem dX3_keepWith_43 : decode cX3_keepWith 43 = .ok (.ifCond .eq 5, 3) := by decide +kernel
theorem dX3_keepWith_46 : decode cX3_keepWith 46 = .ok (.iconst 0, 1) := by decide +kernel
theorem dX3_keepWith_47 : decode cX3_keepWith 47 = .ok (.ireturn, 1) := by decide +kernel
theorem dX3_keepWith_48 : decode cX3_keepWith 48 = .ok (.lload 6, 2) := by decide +kernel
theorem dX3_keepWith_50 : decode cX3_keepWith 50 = .ok (.lload 6, 2) := by decide +kernel
theorem dX3_keepWith_52 : decode cX3_keepWith 52 = .ok (.lconst 1, 1) := by decide +kernel
theorem dX3_keepWith_53 : decode cX3_keepWith 53 = .ok (.lsub, 1) := by decide +kernel
theorem dX3_keepWith_54 : decode cX3_keepWith 54 = .ok (.land, 1) := by decide +kernel
theorem dX3_keepWith_55 : decode cX3_keepWith 55 = .ok (.lstore 6, 2) := by decide +kernel
theorem dX3_keepWith_57 : decode cX3_keepWith 57 = .ok (.iinc 8 (-1), 3) := by decide +kernel
theorem dX3_keepWith_60 : decode cX3_keepWith 60 = .ok (.goto (-42), 3) := by decide +kernel
theorem dX3_keepWith_63 : decode cX3_keepWith 63 = .ok (.iconst 0, 1) := by decide +kernel
theorem dX3_keepWith_64 : decode cX3_keepWith 64 = .ok (.istore 8, 2) := by decide +kernel
theorem dX3_keepWith_66 : decode cX3_keepWith 66 = .ok (.iload 8, 2) := by decide +kernel
theorem dX3_keepWith_68 : decode cX3_keepWith 68 = .ok (.aload_n 0, 1) := by decide +kernel
theorem dX3_keepWith_69 : decode cX3_keepWith 69 = .ok (.getfield 17, 3) := by decide +kernel
theorem dX3_keepWith_72 : decode cX3_keepWith 72 = .ok (.if_icmp .ge 70, 3) := by decide +kernel
theorem dX3_keepWith_75 : decode cX3_keepWith 75 = .ok (.aload_n 0, 1) := by decide +kernel
theorem dX3_keepWith_76 : decode cX3_keepWith 76 = .ok (.getfield 11, 3) := by decide +kernel
theorem dX3_keepWith_79 : decode cX3_keepWith 79 = .ok (.iload 8, 2) := by decide +kernel
theorem dX3_keepWith_81 : decode cX3_keepWith 81 = .ok (.aaload, 1) := by decide +kernel
theorem dX3_keepWith_82 : decode cX3_keepWith 82 = .ok (.getfield 49, 3) := by decide +kernel
theorem dX3_keepWith_85 : decode cX3_keepWith 85 = .ok (.iconst 3, 1) := by decide +kernel
theorem dX3_keepWith_86 : decode cX3_keepWith 86 = .ok (.if_icmp .ne 13, 3) := by decide +kernel
theorem dX3_keepWith_89 : decode cX3_keepWith 89 = .ok (.aload_n 0, 1) := by decide +kernel
theorem dX3_keepWith_90 : decode cX3_keepWith 90 = .ok (.lload 4, 2) := by decide +kernel
theorem dX3_keepWith_92 : decode cX3_keepWith 92 = .ok (.iload_n 3, 1) := by decide +kernel
theorem dX3_keepWith_93 : decode cX3_keepWith 93 = .ok (.invokevirtual 166, 3) := by decide +kernel
theorem dX3_keepWith_96 : decode cX3_keepWith 96 = .ok (.ifCond .ne 38, 3) := by decide +kernel
theorem dX3_keepWith_99 : decode cX3_keepWith 99 = .ok (.aload_n 0, 1) := by decide +kernel
theorem dX3_keepWith_100 : decode cX3_keepWith 100 = .ok (.getfield 11, 3) := by decide +kernel
theorem dX3_keepWith_103 : decode cX3_keepWith 103 = .ok (.iload 8, 2) := by decide +kernel
theorem dX3_keepWith_105 : decode cX3_keepWith 105 = .ok (.aaload, 1) := by decide +kernel
theorem dX3_keepWith_106 : decode cX3_keepWith 106 = .ok (.invokevirtual 169, 3) := by decide +kernel
theorem dX3_keepWith_109 : decode cX3_keepWith 109 = .ok (.ifCond .eq 27, 3) := by decide +kernel
theorem dX3_keepWith_112 : decode cX3_keepWith 112 = .ok (.aload_n 0, 1) := by decide +kernel
theorem dX3_keepWith_113 : decode cX3_keepWith 113 = .ok (.lload 4, 2) := by decide +kernel
theorem dX3_keepWith_115 : decode cX3_keepWith 115 = .ok (.iload_n 3, 1) := by decide +kernel
theorem dX3_keepWith_116 : decode cX3_keepWith 116 = .ok (.aload_n 0, 1) := by decide +kernel
theorem dX3_keepWith_117 : decode cX3_keepWith 117 = .ok (.getfield 11, 3) := by decide +kernel
theorem dX3_keepWith_120 : decode cX3_keepWith 120 = .ok (.iload 8, 2) := by decide +kernel
theorem dX3_keepWith_122 : decode cX3_keepWith 122 = .ok (.aaload, 1) := by decide +kernel
theorem dX3_keepWith_123 : decode cX3_keepWith 123 = .ok (.getfield 52, 3) := by decide +kernel
theorem dX3_keepWith_126 : decode cX3_keepWith 126 = .ok (.iconst 1, 1) := by decide +kernel
theorem dX3_keepWith_127 : decode cX3_keepWith 127 = .ok (.isub, 1) := by decide +kernel
theorem dX3_keepWith_128 : decode cX3_keepWith 128 = .ok (.invokevirtual 173, 3) := by decide +kernel
theorem dX3_keepWith_131 : decode cX3_keepWith 131 = .ok (.ifCond .eq 5, 3) := by decide +kernel
theorem dX3_keepWith_134 : decode cX3_keepWith 134 = .ok (.iconst 0, 1) := by decide +kernel
theorem dX3_keepWith_135 : decode cX3_keepWith 135 = .ok (.ireturn, 1) := by decide +kernel
theorem dX3_keepWith_136 : decode cX3_keepWith 136 = .ok (.iinc 8 1, 3) := by decide +kernel
theorem dX3_keepWith_139 : decode cX3_keepWith 139 = .ok (.goto (-73), 3) := by decide +kernel
theorem dX3_keepWith_142 : decode cX3_keepWith 142 = .ok (.iconst 1, 1) := by decide +kernel
theorem dX3_keepWith_143 : decode cX3_keepWith 143 = .ok (.ireturn, 1) := by decide +kernel
theorem dX3_hasEqualSums_0 : decode cX3_hasEqualSums 0 = .ok (.lload_n 1, 1) := by decide +kernel
theorem dX3_hasEqualSums_1 : decode cX3_hasEqualSums 1 = .ok (.lconst 1, 1) := by decide +kernel
theorem dX3_hasEqualSums_2 : decode cX3_hasEqualSums 2 = .ok (.iload_n 3, 1) := by decide +kernel
theorem dX3_hasEqualSums_3 : decode cX3_hasEqualSums 3 = .ok (.lshl, 1) := by decide +kernel
theorem dX3_hasEqualSums_4 : decode cX3_hasEqualSums 4 = .ok (.ldc2_w 156, 3) := by decide +kernel
theorem dX3_hasEqualSums_7 : decode cX3_hasEqualSums 7 = .ok (.lxor, 1) := by decide +kernel
theorem dX3_hasEqualSums_8 : decode cX3_hasEqualSums 8 = .ok (.land, 1) := by decide +kernel
theorem dX3_hasEqualSums_9 : decode cX3_hasEqualSums 9 = .ok (.lstore 4, 2) := by decide +kernel
theorem dX3_hasEqualSums_11 : decode cX3_hasEqualSums 11 = .ok (.lload 4, 2) := by decide +kernel
theorem dX3_hasEqualSums_13 : decode cX3_hasEqualSums 13 = .ok (.invokestatic 161, 3) := by decide +kernel
theorem dX3_hasEqualSums_16 : decode cX3_hasEqualSums 16 = .ok (.istore 6, 2) := by decide +kernel
theorem dX3_hasEqualSums_18 : decode cX3_hasEqualSums 18 = .ok (.iload 6, 2) := by decide +kernel
theorem dX3_hasEqualSums_20 : decode cX3_hasEqualSums 20 = .ok (.ifCond .le 56, 3) := by decide +kernel
theorem dX3_hasEqualSums_23 : decode cX3_hasEqualSums 23 = .ok (.aload_n 0, 1) := by decide +kernel
theorem dX3_hasEqualSums_24 : decode cX3_hasEqualSums 24 = .ok (.getfield 36, 3) := by decide +kernel
theorem dX3_hasEqualSums_27 : decode cX3_hasEqualSums 27 = .ok (.iconst 1, 1) := by decide +kernel
theorem dX3_hasEqualSums_28 : decode cX3_hasEqualSums 28 = .ok (.iload_n 3, 1) := by decide +kernel
theorem dX3_hasEqualSums_29 : decode cX3_hasEqualSums 29 = .ok (.iconst (-1), 1) := by decide +kernel
theorem dX3_hasEqualSums_30 : decode cX3_hasEqualSums 30 = .ok (.lload 4, 2) := by decide +kernel
theorem dX3_hasEqualSums_32 : decode cX3_hasEqualSums 32 = .ok (.invokestatic 128, 3) := by decide +kernel
theorem dX3_hasEqualSums_35 : decode cX3_hasEqualSums 35 = .ok (.invokevirtual 85, 3) := by decide +kernel
theorem dX3_hasEqualSums_38 : decode cX3_hasEqualSums 38 = .ok (.istore 7, 2) := by decide +kernel
theorem dX3_hasEqualSums_40 : decode cX3_hasEqualSums 40 = .ok (.lload_n 1, 1) := by decide +kernel
theorem dX3_hasEqualSums_41 : decode cX3_hasEqualSums 41 = .ok (.aload_n 0, 1) := by decide +kernel
theorem dX3_hasEqualSums_42 : decode cX3_hasEqualSums 42 = .ok (.getfield 36, 3) := by decide +kernel
theorem dX3_hasEqualSums_45 : decode cX3_hasEqualSums 45 = .ok (.lload_n 1, 1) := by decide +kernel
theorem dX3_hasEqualSums_46 : decode cX3_hasEqualSums 46 = .ok (.iload 7, 2) := by decide +kernel
theorem dX3_hasEqualSums_48 : decode cX3_hasEqualSums 48 = .ok (.invokevirtual 177, 3) := by decide +kernel
theorem dX3_hasEqualSums_51 : decode cX3_hasEqualSums 51 = .ok (.land, 1) := by decide +kernel
theorem dX3_hasEqualSums_52 : decode cX3_hasEqualSums 52 = .ok (.invokestatic 161, 3) := by decide +kernel
theorem dX3_hasEqualSums_55 : decode cX3_hasEqualSums 55 = .ok (.iconst 1, 1) := by decide +kernel
theorem dX3_hasEqualSums_56 : decode cX3_hasEqualSums 56 = .ok (.if_icmp .le 5, 3) := by decide +kernel
theorem dX3_hasEqualSums_59 : decode cX3_hasEqualSums 59 = .ok (.iconst 1, 1) := by decide +kernel
theorem dX3_hasEqualSums_60 : decode cX3_hasEqualSums 60 = .ok (.ireturn, 1) := by decide +kernel
theorem dX3_hasEqualSums_61 : decode cX3_hasEqualSums 61 = .ok (.lload 4, 2) := by decide +kernel
theorem dX3_hasEqualSums_63 : decode cX3_hasEqualSums 63 = .ok (.lload 4, 2) := by decide +kernel
theorem dX3_hasEqualSums_65 : decode cX3_hasEqualSums 65 = .ok (.lconst 1, 1) := by decide +kernel
theorem dX3_hasEqualSums_66 : decode cX3_hasEqualSums 66 = .ok (.lsub, 1) := by decide +kernel
theorem dX3_hasEqualSums_67 : decode cX3_hasEqualSums 67 = .ok (.land, 1) := by decide +kernel
theorem dX3_hasEqualSums_68 : decode cX3_hasEqualSums 68 = .ok (.lstore 4, 2) := by decide +kernel
theorem dX3_hasEqualSums_70 : decode cX3_hasEqualSums 70 = .ok (.iinc 6 (-1), 3) := by decide +kernel
theorem dX3_hasEqualSums_73 : decode cX3_hasEqualSums 73 = .ok (.goto (-55), 3) := by decide +kernel
theorem dX3_hasEqualSums_76 : decode cX3_hasEqualSums 76 = .ok (.iconst 0, 1) := by decide +kernel
theorem dX3_hasEqualSums_77 : decode cX3_hasEqualSums 77 = .ok (.ireturn, 1) := by decide +kernel
theorem dX3_hasRow_0 : decode cX3_hasRow 0 = .ok (.aload_n 0, 1) := by decide +kernel
theorem dX3_hasRow_1 : decode cX3_hasRow 1 = .ok (.getfield 36, 3) := by decide +kernel
theorem dX3_hasRow_4 : decode cX3_hasRow 4 = .ok (.getfield 82, 3) := by decide +kernel
theorem dX3_hasRow_7 : decode cX3_hasRow 7 = .ok (.iconst 2, 1) := by decide +kernel
theorem dX3_hasRow_8 : decode cX3_hasRow 8 = .ok (.if_icmp .ne 5, 3) := by decide +kernel
theorem dX3_hasRow_11 : decode cX3_hasRow 11 = .ok (.iconst 0, 1) := by decide +kernel
theorem dX3_hasRow_12 : decode cX3_hasRow 12 = .ok (.ireturn, 1) := by decide +kernel
theorem dX3_hasRow_13 : decode cX3_hasRow 13 = .ok (.lload_n 1, 1) := by decide +kernel
theorem dX3_hasRow_14 : decode cX3_hasRow 14 = .ok (.lconst 1, 1) := by decide +kernel
theorem dX3_hasRow_15 : decode cX3_hasRow 15 = .ok (.iload_n 3, 1) := by decide +kernel
theorem dX3_hasRow_16 : decode cX3_hasRow 16 = .ok (.lshl, 1) := by decide +kernel
theorem dX3_hasRow_17 : decode cX3_hasRow 17 = .ok (.ldc2_w 156, 3) := by decide +kernel
theorem dX3_hasRow_20 : decode cX3_hasRow 20 = .ok (.lxor, 1) := by decide +kernel
theorem dX3_hasRow_21 : decode cX3_hasRow 21 = .ok (.land, 1) := by decide +kernel
theorem dX3_hasRow_22 : decode cX3_hasRow 22 = .ok (.lstore 5, 2) := by decide +kernel
theorem dX3_hasRow_24 : decode cX3_hasRow 24 = .ok (.lload 5, 2) := by decide +kernel
theorem dX3_hasRow_26 : decode cX3_hasRow 26 = .ok (.invokestatic 161, 3) := by decide +kernel
theorem dX3_hasRow_29 : decode cX3_hasRow 29 = .ok (.istore 7, 2) := by decide +kernel
theorem dX3_hasRow_31 : decode cX3_hasRow 31 = .ok (.iload 7, 2) := by decide +kernel
theorem dX3_hasRow_33 : decode cX3_hasRow 33 = .ok (.ifCond .le 65, 3) := by decide +kernel
theorem dX3_hasRow_36 : decode cX3_hasRow 36 = .ok (.aload_n 0, 1) := by decide +kernel
theorem dX3_hasRow_37 : decode cX3_hasRow 37 = .ok (.getfield 36, 3) := by decide +kernel
theorem dX3_hasRow_40 : decode cX3_hasRow 40 = .ok (.iconst 1, 1) := by decide +kernel
theorem dX3_hasRow_41 : decode cX3_hasRow 41 = .ok (.lload 5, 2) := by decide +kernel
theorem dX3_hasRow_43 : decode cX3_hasRow 43 = .ok (.invokestatic 128, 3) := by decide +kernel
theorem dX3_hasRow_46 : decode cX3_hasRow 46 = .ok (.iconst (-1), 1) := by decide +kernel
theorem dX3_hasRow_47 : decode cX3_hasRow 47 = .ok (.iload_n 3, 1) := by decide +kernel
theorem dX3_hasRow_48 : decode cX3_hasRow 48 = .ok (.invokevirtual 85, 3) := by decide +kernel
theorem dX3_hasRow_51 : decode cX3_hasRow 51 = .ok (.istore 8, 2) := by decide +kernel
theorem dX3_hasRow_53 : decode cX3_hasRow 53 = .ok (.aload_n 0, 1) := by decide +kernel
theorem dX3_hasRow_54 : decode cX3_hasRow 54 = .ok (.lload_n 1, 1) := by decide +kernel
theorem dX3_hasRow_55 : decode cX3_hasRow 55 = .ok (.iload_n 3, 1) := by decide +kernel
theorem dX3_hasRow_56 : decode cX3_hasRow 56 = .ok (.iconst 1, 1) := by decide +kernel
theorem dX3_hasRow_57 : decode cX3_hasRow 57 = .ok (.iload 8, 2) := by decide +kernel
theorem dX3_hasRow_59 : decode cX3_hasRow 59 = .ok (.iload 4, 2) := by decide +kernel
theorem dX3_hasRow_61 : decode cX3_hasRow 61 = .ok (.invokevirtual 89, 3) := by decide +kernel
theorem dX3_hasRow_64 : decode cX3_hasRow 64 = .ok (.aload_n 0, 1) := by decide +kernel
theorem dX3_hasRow_65 : decode cX3_hasRow 65 = .ok (.lload_n 1, 1) := by decide +kernel
theorem dX3_hasRow_66 : decode cX3_hasRow 66 = .ok (.iload_n 3, 1) := by decide +kernel
theorem dX3_hasRow_67 : decode cX3_hasRow 67 = .ok (.iconst (-1), 1) := by decide +kernel
theorem dX3_hasRow_68 : decode cX3_hasRow 68 = .ok (.iload 8, 2) := by decide +kernel
theorem dX3_hasRow_70 : decode cX3_hasRow 70 = .ok (.iload 4, 2) := by decide +kernel
theorem dX3_hasRow_72 : decode cX3_hasRow 72 = .ok (.invokevirtual 89, 3) := by decide +kernel
theorem dX3_hasRow_75 : decode cX3_hasRow 75 = .ok (.iadd, 1) := by decide +kernel
theorem dX3_hasRow_76 : decode cX3_hasRow 76 = .ok (.iload 4, 2) := by decide +kernel
theorem dX3_hasRow_78 : decode cX3_hasRow 78 = .ok (.if_icmp .lt 5, 3) := by decide +kernel
theorem dX3_hasRow_81 : decode cX3_hasRow 81 = .ok (.iconst 1, 1) := by decide +kernel
theorem dX3_hasRow_82 : decode cX3_hasRow 82 = .ok (.ireturn, 1) := by decide +kernel
theorem dX3_hasRow_83 : decode cX3_hasRow 83 = .ok (.lload 5, 2) := by decide +kernel
theorem dX3_hasRow_85 : decode cX3_hasRow 85 = .ok (.lload 5, 2) := by decide +kernel
theorem dX3_hasRow_87 : decode cX3_hasRow 87 = .ok (.lconst 1, 1) := by decide +kernel
theorem dX3_hasRow_88 : decode cX3_hasRow 88 = .ok (.lsub, 1) := by decide +kernel
theorem dX3_hasRow_89 : decode cX3_hasRow 89 = .ok (.land, 1) := by decide +kernel
theorem dX3_hasRow_90 : decode cX3_hasRow 90 = .ok (.lstore 5, 2) := by decide +kernel
theorem dX3_hasRow_92 : decode cX3_hasRow 92 = .ok (.iinc 7 (-1), 3) := by decide +kernel
theorem dX3_hasRow_95 : decode cX3_hasRow 95 = .ok (.goto (-64), 3) := by decide +kernel
theorem dX3_hasRow_98 : decode cX3_hasRow 98 = .ok (.iconst 0, 1) := by decide +kernel
theorem dX3_hasRow_99 : decode cX3_hasRow 99 = .ok (.ireturn, 1) := by decide +kernel
theorem dX3_makeReady_0 : decode cX3_makeReady 0 = .ok (.aload_n 0, 1) := by decide +kernel
theorem dX3_makeReady_1 : decode cX3_makeReady 1 = .ok (.getfield 32, 3) := by decide +kernel
theorem dX3_makeReady_4 : decode cX3_makeReady 4 = .ok (.ifCond .eq 4, 3) := by decide +kernel
theorem dX3_makeReady_7 : decode cX3_makeReady 7 = .ok (.return_, 1) := by decide +kernel
theorem dX3_makeReady_8 : decode cX3_makeReady 8 = .ok (.aload_n 0, 1) := by decide +kernel
theorem dX3_makeReady_9 : decode cX3_makeReady 9 = .ok (.getfield 29, 3) := by decide +kernel
theorem dX3_makeReady_12 : decode cX3_makeReady 12 = .ok (.lconst 0, 1) := by decide +kernel
theorem dX3_makeReady_13 : decode cX3_makeReady 13 = .ok (.invokestatic 132, 3) := by decide +kernel
theorem dX3_makeReady_16 : decode cX3_makeReady 16 = .ok (.iconst 0, 1) := by decide +kernel
theorem dX3_makeReady_17 : decode cX3_makeReady 17 = .ok (.istore_n 1, 1) := by decide +kernel
theorem dX3_makeReady_18 : decode cX3_makeReady 18 = .ok (.iload_n 1, 1) := by decide +kernel
theorem dX3_makeReady_19 : decode cX3_makeReady 19 = .ok (.aload_n 0, 1) := by decide +kernel
theorem dX3_makeReady_20 : decode cX3_makeReady 20 = .ok (.getfield 17, 3) := by decide +kernel
theorem dX3_makeReady_23 : decode cX3_makeReady 23 = .ok (.if_icmp .ge 44, 3) := by decide +kernel
theorem dX3_makeReady_26 : decode cX3_makeReady 26 = .ok (.aload_n 0, 1) := by decide +kernel
theorem dX3_makeReady_27 : decode cX3_makeReady 27 = .ok (.getfield 11, 3) := by decide +kernel
theorem dX3_makeReady_30 : decode cX3_makeReady 30 = .ok (.iload_n 1, 1) := by decide +kernel
theorem dX3_makeReady_31 : decode cX3_makeReady 31 = .ok (.aaload, 1) := by decide +kernel
theorem dX3_makeReady_32 : decode cX3_makeReady 32 = .ok (.getfield 49, 3) := by decide +kernel
theorem dX3_makeReady_35 : decode cX3_makeReady 35 = .ok (.iconst 3, 1) := by decide +kernel
theorem dX3_makeReady_36 : decode cX3_makeReady 36 = .ok (.if_icmp .eq 25, 3) := by decide +kernel
theorem dX3_makeReady_39 : decode cX3_makeReady 39 = .ok (.aload_n 0, 1) := by decide +kernel
theorem dX3_makeReady_40 : decode cX3_makeReady 40 = .ok (.getfield 11, 3) := by decide +kernel
theorem dX3_makeReady_43 : decode cX3_makeReady 43 = .ok (.iload_n 1, 1) := by decide +kernel
theorem dX3_makeReady_44 : decode cX3_makeReady 44 = .ok (.aaload, 1) := by decide +kernel
theorem dX3_makeReady_45 : decode cX3_makeReady 45 = .ok (.invokevirtual 169, 3) := by decide +kernel
theorem dX3_makeReady_48 : decode cX3_makeReady 48 = .ok (.ifCond .ne 13, 3) := by decide +kernel
theorem dX3_makeReady_51 : decode cX3_makeReady 51 = .ok (.aload_n 0, 1) := by decide +kernel
theorem dX3_makeReady_52 : decode cX3_makeReady 52 = .ok (.aload_n 0, 1) := by decide +kernel
theorem dX3_makeReady_53 : decode cX3_makeReady 53 = .ok (.getfield 11, 3) := by decide +kernel
theorem dX3_makeReady_56 : decode cX3_makeReady 56 = .ok (.iload_n 1, 1) := by decide +kernel
theorem dX3_makeReady_57 : decode cX3_makeReady 57 = .ok (.aaload, 1) := by decide +kernel
theorem dX3_makeReady_58 : decode cX3_makeReady 58 = .ok (.invokevirtual 181, 3) := by decide +kernel
theorem dX3_makeReady_61 : decode cX3_makeReady 61 = .ok (.iinc 1 1, 3) := by decide +kernel
theorem dX3_makeReady_64 : decode cX3_makeReady 64 = .ok (.goto (-46), 3) := by decide +kernel
theorem dX3_makeReady_67 : decode cX3_makeReady 67 = .ok (.aload_n 0, 1) := by decide +kernel
theorem dX3_makeReady_68 : decode cX3_makeReady 68 = .ok (.iconst 1, 1) := by decide +kernel
theorem dX3_makeReady_69 : decode cX3_makeReady 69 = .ok (.putfield 32, 3) := by decide +kernel
theorem dX3_makeReady_72 : decode cX3_makeReady 72 = .ok (.return_, 1) := by decide +kernel
theorem dX3_enter_0 : decode cX3_enter 0 = .ok (.aload_n 0, 1) := by decide +kernel
theorem dX3_enter_1 : decode cX3_enter 1 = .ok (.aload_n 1, 1) := by decide +kernel
theorem dX3_enter_2 : decode cX3_enter 2 = .ok (.invokevirtual 103, 3) := by decide +kernel
theorem dX3_enter_5 : decode cX3_enter 5 = .ok (.aload_n 1, 1) := by decide +kernel
theorem dX3_enter_6 : decode cX3_enter 6 = .ok (.getfield 107, 3) := by decide +kernel
theorem dX3_enter_9 : decode cX3_enter 9 = .ok (.aload_n 0, 1) := by decide +kernel
theorem dX3_enter_10 : decode cX3_enter 10 = .ok (.getfield 36, 3) := by decide +kernel
theorem dX3_enter_13 : decode cX3_enter 13 = .ok (.getfield 138, 3) := by decide +kernel
theorem dX3_enter_16 : decode cX3_enter 16 = .ok (.invokestatic 110, 3) := by decide +kernel
theorem dX3_enter_19 : decode cX3_enter 19 = .ok (.lstore_n 2, 1) := by decide +kernel
theorem dX3_enter_20 : decode cX3_enter 20 = .ok (.iconst 0, 1) := by decide +kernel
theorem dX3_enter_21 : decode cX3_enter 21 = .ok (.istore 4, 2) := by decide +kernel
theorem dX3_enter_23 : decode cX3_enter 23 = .ok (.iload 4, 2) := by decide +kernel
theorem dX3_enter_25 : decode cX3_enter 25 = .ok (.aload_n 0, 1) := by decide +kernel
theorem dX3_enter_26 : decode cX3_enter 26 = .ok (.getfield 36, 3) := by decide +kernel
theorem dX3_enter_29 : decode cX3_enter 29 = .ok (.getfield 71, 3) := by decide +kernel
theorem dX3_enter_32 : decode cX3_enter 32 = .ok (.if_icmp .gt 27, 3) := by decide +kernel
theorem dX3_enter_35 : decode cX3_enter 35 = .ok (.lload_n 2, 1) := by decide +kernel
theorem dX3_enter_36 : decode cX3_enter 36 = .ok (.iload 4, 2) := by decide +kernel
theorem dX3_enter_38 : decode cX3_enter 38 = .ok (.lushr, 1) := by decide +kernel
theorem dX3_enter_39 : decode cX3_enter 39 = .ok (.lconst 1, 1) := by decide +kernel
theorem dX3_enter_40 : decode cX3_enter 40 = .ok (.land, 1) := by decide +kernel
theorem dX3_enter_41 : decode cX3_enter 41 = .ok (.lconst 0, 1) := by decide +kernel
theorem dX3_enter_42 : decode cX3_enter 42 = .ok (.lcmp, 1) := by decide +kernel
theorem dX3_enter_43 : decode cX3_enter 43 = .ok (.ifCond .eq 10, 3) := by decide +kernel
theorem dX3_enter_46 : decode cX3_enter 46 = .ok (.aload_n 0, 1) := by decide +kernel
theorem dX3_enter_47 : decode cX3_enter 47 = .ok (.aload_n 1, 1) := by decide +kernel
theorem dX3_enter_48 : decode cX3_enter 48 = .ok (.iload 4, 2) := by decide +kernel
theorem dX3_enter_50 : decode cX3_enter 50 = .ok (.invokevirtual 184, 3) := by decide +kernel
theorem dX3_enter_53 : decode cX3_enter 53 = .ok (.iinc 4 1, 3) := by decide +kernel
theorem dX3_enter_56 : decode cX3_enter 56 = .ok (.goto (-33), 3) := by decide +kernel
theorem dX3_enter_59 : decode cX3_enter 59 = .ok (.return_, 1) := by decide +kernel
theorem dX3_enterFrom_0 : decode cX3_enterFrom 0 = .ok (.aload_n 1, 1) := by decide +kernel
theorem dX3_enterFrom_1 : decode cX3_enterFrom 1 = .ok (.getfield 118, 3) := by decide +kernel
theorem dX3_enterFrom_4 : decode cX3_enterFrom 4 = .ok (.aload_n 0, 1) := by decide +kernel
theorem dX3_enterFrom_5 : decode cX3_enterFrom 5 = .ok (.getfield 36, 3) := by decide +kernel
theorem dX3_enterFrom_8 : decode cX3_enterFrom 8 = .ok (.getfield 138, 3) := by decide +kernel
theorem dX3_enterFrom_11 : decode cX3_enterFrom 11 = .ok (.invokestatic 110, 3) := by decide +kernel
theorem dX3_enterFrom_14 : decode cX3_enterFrom 14 = .ok (.lstore_n 3, 1) := by decide +kernel
theorem dX3_enterFrom_15 : decode cX3_enterFrom 15 = .ok (.iconst 0, 1) := by decide +kernel
theorem dX3_enterFrom_16 : decode cX3_enterFrom 16 = .ok (.istore 5, 2) := by decide +kernel
theorem dX3_enterFrom_18 : decode cX3_enterFrom 18 = .ok (.iload 5, 2) := by decide +kernel
theorem dX3_enterFrom_20 : decode cX3_enterFrom 20 = .ok (.aload_n 0, 1) := by decide +kernel
theorem dX3_enterFrom_21 : decode cX3_enterFrom 21 = .ok (.getfield 36, 3) := by decide +kernel
theorem dX3_enterFrom_24 : decode cX3_enterFrom 24 = .ok (.getfield 71, 3) := by decide +kernel
theorem dX3_enterFrom_27 : decode cX3_enterFrom 27 = .ok (.if_icmp .gt 36, 3) := by decide +kernel
theorem dX3_enterFrom_30 : decode cX3_enterFrom 30 = .ok (.lload_n 3, 1) := by decide +kernel
theorem dX3_enterFrom_31 : decode cX3_enterFrom 31 = .ok (.iload 5, 2) := by decide +kernel
theorem dX3_enterFrom_33 : decode cX3_enterFrom 33 = .ok (.lushr, 1) := by decide +kernel
theorem dX3_enterFrom_34 : decode cX3_enterFrom 34 = .ok (.lconst 1, 1) := by decide +kernel
theorem dX3_enterFrom_35 : decode cX3_enterFrom 35 = .ok (.land, 1) := by decide +kernel
theorem dX3_enterFrom_36 : decode cX3_enterFrom 36 = .ok (.lconst 0, 1) := by decide +kernel
theorem dX3_enterFrom_37 : decode cX3_enterFrom 37 = .ok (.lcmp, 1) := by decide +kernel
theorem dX3_enterFrom_38 : decode cX3_enterFrom 38 = .ok (.ifCond .eq 19, 3) := by decide +kernel
theorem dX3_enterFrom_41 : decode cX3_enterFrom 41 = .ok (.aload_n 0, 1) := by decide +kernel
theorem dX3_enterFrom_42 : decode cX3_enterFrom 42 = .ok (.aload_n 1, 1) := by decide +kernel
theorem dX3_enterFrom_43 : decode cX3_enterFrom 43 = .ok (.iload_n 2, 1) := by decide +kernel
theorem dX3_enterFrom_44 : decode cX3_enterFrom 44 = .ok (.iload 5, 2) := by decide +kernel
theorem dX3_enterFrom_46 : decode cX3_enterFrom 46 = .ok (.aload_n 0, 1) := by decide +kernel
theorem dX3_enterFrom_47 : decode cX3_enterFrom 47 = .ok (.aload_n 1, 1) := by decide +kernel
theorem dX3_enterFrom_48 : decode cX3_enterFrom 48 = .ok (.iload_n 2, 1) := by decide +kernel
theorem dX3_enterFrom_49 : decode cX3_enterFrom 49 = .ok (.iload 5, 2) := by decide +kernel
theorem dX3_enterFrom_51 : decode cX3_enterFrom 51 = .ok (.invokevirtual 124, 3) := by decide +kernel
theorem dX3_enterFrom_54 : decode cX3_enterFrom 54 = .ok (.invokevirtual 188, 3) := by decide +kernel
theorem dX3_enterFrom_57 : decode cX3_enterFrom 57 = .ok (.iinc 5 1, 3) := by decide +kernel
theorem dX3_enterFrom_60 : decode cX3_enterFrom 60 = .ok (.goto (-42), 3) := by decide +kernel
theorem dX3_enterFrom_63 : decode cX3_enterFrom 63 = .ok (.return_, 1) := by decide +kernel
theorem dX3_enterAll_0 : decode cX3_enterAll 0 = .ok (.aload_n 1, 1) := by decide +kernel
theorem dX3_enterAll_1 : decode cX3_enterAll 1 = .ok (.getfield 107, 3) := by decide +kernel
theorem dX3_enterAll_4 : decode cX3_enterAll 4 = .ok (.ifCond .ne 7, 3) := by decide +kernel
theorem dX3_enterAll_7 : decode cX3_enterAll 7 = .ok (.iload_n 3, 1) := by decide +kernel
theorem dX3_enterAll_8 : decode cX3_enterAll 8 = .ok (.goto 4, 3) := by decide +kernel
theorem dX3_enterAll_11 : decode cX3_enterAll 11 = .ok (.iload_n 2, 1) := by decide +kernel
theorem dX3_enterAll_12 : decode cX3_enterAll 12 = .ok (.istore 6, 2) := by decide +kernel
theorem dX3_enterAll_14 : decode cX3_enterAll 14 = .ok (.aload_n 1, 1) := by decide +kernel
theorem dX3_enterAll_15 : decode cX3_enterAll 15 = .ok (.getfield 118, 3) := by decide +kernel
theorem dX3_enterAll_18 : decode cX3_enterAll 18 = .ok (.ifCond .ne 7, 3) := by decide +kernel
theorem dX3_enterAll_21 : decode cX3_enterAll 21 = .ok (.iload_n 2, 1) := by decide +kernel
theorem dX3_enterAll_22 : decode cX3_enterAll 22 = .ok (.goto 4, 3) := by decide +kernel
theorem dX3_enterAll_25 : decode cX3_enterAll 25 = .ok (.iload_n 3, 1) := by decide +kernel
theorem dX3_enterAll_26 : decode cX3_enterAll 26 = .ok (.istore 7, 2) := by decide +kernel
theorem dX3_enterAll_28 : decode cX3_enterAll 28 = .ok (.lload 4, 2) := by decide +kernel
theorem dX3_enterAll_30 : decode cX3_enterAll 30 = .ok (.lstore 8, 2) := by decide +kernel
theorem dX3_enterAll_32 : decode cX3_enterAll 32 = .ok (.lload 4, 2) := by decide +kernel
theorem dX3_enterAll_34 : decode cX3_enterAll 34 = .ok (.invokestatic 161, 3) := by decide +kernel
theorem dX3_enterAll_37 : decode cX3_enterAll 37 = .ok (.istore 10, 2) := by decide +kernel
theorem dX3_enterAll_39 : decode cX3_enterAll 39 = .ok (.iload 10, 2) := by decide +kernel
theorem dX3_enterAll_41 : decode cX3_enterAll 41 = .ok (.ifCond .le 97, 3) := by decide +kernel
theorem dX3_enterAll_44 : decode cX3_enterAll 44 = .ok (.aload_n 1, 1) := by decide +kernel
theorem dX3_enterAll_45 : decode cX3_enterAll 45 = .ok (.getfield 121, 3) := by decide +kernel
theorem dX3_enterAll_48 : decode cX3_enterAll 48 = .ok (.ifCond .ne 8, 3) := by decide +kernel
theorem dX3_enterAll_51 : decode cX3_enterAll 51 = .ok (.iload 6, 2) := by decide +kernel
theorem dX3_enterAll_53 : decode cX3_enterAll 53 = .ok (.goto 8, 3) := by decide +kernel
theorem dX3_enterAll_56 : decode cX3_enterAll 56 = .ok (.lload 8, 2) := by decide +kernel
theorem dX3_enterAll_58 : decode cX3_enterAll 58 = .ok (.invokestatic 128, 3) := by decide +kernel
theorem dX3_enterAll_61 : decode cX3_enterAll 61 = .ok (.istore 11, 2) := by decide +kernel
theorem dX3_enterAll_63 : decode cX3_enterAll 63 = .ok (.aload_n 0, 1) := by decide +kernel
theorem dX3_enterAll_64 : decode cX3_enterAll 64 = .ok (.getfield 29, 3) := by decide +kernel
theorem dX3_enterAll_67 : decode cX3_enterAll 67 = .ok (.iload 6, 2) := by decide +kernel
theorem dX3_enterAll_69 : decode cX3_enterAll 69 = .ok (.bipush 61, 2) := by decide +kernel
theorem dX3_enterAll_71 : decode cX3_enterAll 71 = .ok (.imul, 1) := by decide +kernel
theorem dX3_enterAll_72 : decode cX3_enterAll 72 = .ok (.iload 7, 2) := by decide +kernel
theorem dX3_enterAll_74 : decode cX3_enterAll 74 = .ok (.iadd, 1) := by decide +kernel
theorem dX3_enterAll_75 : decode cX3_enterAll 75 = .ok (.dup2, 1) := by decide +kernel
theorem dX3_enterAll_76 : decode cX3_enterAll 76 = .ok (.laload, 1) := by decide +kernel
theorem dX3_enterAll_77 : decode cX3_enterAll 77 = .ok (.lconst 1, 1) := by decide +kernel
theorem dX3_enterAll_78 : decode cX3_enterAll 78 = .ok (.iload 11, 2) := by decide +kernel
theorem dX3_enterAll_80 : decode cX3_enterAll 80 = .ok (.lshl, 1) := by decide +kernel
theorem dX3_enterAll_81 : decode cX3_enterAll 81 = .ok (.lor, 1) := by decide +kernel
theorem dX3_enterAll_82 : decode cX3_enterAll 82 = .ok (.lastore, 1) := by decide +kernel
theorem dX3_enterAll_83 : decode cX3_enterAll 83 = .ok (.aload_n 0, 1) := by decide +kernel
theorem dX3_enterAll_84 : decode cX3_enterAll 84 = .ok (.getfield 29, 3) := by decide +kernel
theorem dX3_enterAll_87 : decode cX3_enterAll 87 = .ok (.iload 7, 2) := by decide +kernel
theorem dX3_enterAll_89 : decode cX3_enterAll 89 = .ok (.bipush 61, 2) := by decide +kernel
theorem dX3_enterAll_91 : decode cX3_enterAll 91 = .ok (.imul, 1) := by decide +kernel
theorem dX3_enterAll_92 : decode cX3_enterAll 92 = .ok (.iload 6, 2) := by decide +kernel
theorem dX3_enterAll_94 : decode cX3_enterAll 94 = .ok (.iadd, 1) := by decide +kernel
theorem dX3_enterAll_95 : decode cX3_enterAll 95 = .ok (.dup2, 1) := by decide +kernel
theorem dX3_enterAll_96 : decode cX3_enterAll 96 = .ok (.laload, 1) := by decide +kernel
theorem dX3_enterAll_97 : decode cX3_enterAll 97 = .ok (.lconst 1, 1) := by decide +kernel
theorem dX3_enterAll_98 : decode cX3_enterAll 98 = .ok (.iload 11, 2) := by decide +kernel
theorem dX3_enterAll_100 : decode cX3_enterAll 100 = .ok (.lshl, 1) := by decide +kernel
theorem dX3_enterAll_101 : decode cX3_enterAll 101 = .ok (.lor, 1) := by decide +kernel
theorem dX3_enterAll_102 : decode cX3_enterAll 102 = .ok (.lastore, 1) := by decide +kernel
theorem dX3_enterAll_103 : decode cX3_enterAll 103 = .ok (.aload_n 0, 1) := by decide +kernel
theorem dX3_enterAll_104 : decode cX3_enterAll 104 = .ok (.getfield 29, 3) := by decide +kernel
theorem dX3_enterAll_107 : decode cX3_enterAll 107 = .ok (.iload 11, 2) := by decide +kernel
theorem dX3_enterAll_109 : decode cX3_enterAll 109 = .ok (.bipush 61, 2) := by decide +kernel
theorem dX3_enterAll_111 : decode cX3_enterAll 111 = .ok (.imul, 1) := by decide +kernel
theorem dX3_enterAll_112 : decode cX3_enterAll 112 = .ok (.iload 6, 2) := by decide +kernel
theorem dX3_enterAll_114 : decode cX3_enterAll 114 = .ok (.iadd, 1) := by decide +kernel
theorem dX3_enterAll_115 : decode cX3_enterAll 115 = .ok (.dup2, 1) := by decide +kernel
theorem dX3_enterAll_116 : decode cX3_enterAll 116 = .ok (.laload, 1) := by decide +kernel
theorem dX3_enterAll_117 : decode cX3_enterAll 117 = .ok (.lconst 1, 1) := by decide +kernel
theorem dX3_enterAll_118 : decode cX3_enterAll 118 = .ok (.iload 7, 2) := by decide +kernel
theorem dX3_enterAll_120 : decode cX3_enterAll 120 = .ok (.lshl, 1) := by decide +kernel
theorem dX3_enterAll_121 : decode cX3_enterAll 121 = .ok (.lor, 1) := by decide +kernel
theorem dX3_enterAll_122 : decode cX3_enterAll 122 = .ok (.lastore, 1) := by decide +kernel
theorem dX3_enterAll_123 : decode cX3_enterAll 123 = .ok (.lload 8, 2) := by decide +kernel
theorem dX3_enterAll_125 : decode cX3_enterAll 125 = .ok (.lload 8, 2) := by decide +kernel
theorem dX3_enterAll_127 : decode cX3_enterAll 127 = .ok (.lconst 1, 1) := by decide +kernel
theorem dX3_enterAll_128 : decode cX3_enterAll 128 = .ok (.lsub, 1) := by decide +kernel
theorem dX3_enterAll_129 : decode cX3_enterAll 129 = .ok (.land, 1) := by decide +kernel
theorem dX3_enterAll_130 : decode cX3_enterAll 130 = .ok (.lstore 8, 2) := by decide +kernel
theorem dX3_enterAll_132 : decode cX3_enterAll 132 = .ok (.iinc 10 (-1), 3) := by decide +kernel
theorem dX3_enterAll_135 : decode cX3_enterAll 135 = .ok (.goto (-96), 3) := by decide +kernel
theorem dX3_enterAll_138 : decode cX3_enterAll 138 = .ok (.return_, 1) := by decide +kernel
theorem dX4_init_0 : decode cX4_init 0 = .ok (.aload_n 0, 1) := by decide +kernel
theorem dX4_init_1 : decode cX4_init 1 = .ok (.invokespecial 3, 3) := by decide +kernel
theorem dX4_init_4 : decode cX4_init 4 = .ok (.aload_n 0, 1) := by decide +kernel
theorem dX4_init_5 : decode cX4_init 5 = .ok (.sipush 300, 3) := by decide +kernel
theorem dX4_init_8 : decode cX4_init 8 = .ok (.newarray .long, 2) := by decide +kernel
theorem dX4_init_10 : decode cX4_init 10 = .ok (.putfield 9, 3) := by decide +kernel
theorem dX4_init_13 : decode cX4_init 13 = .ok (.aload_n 0, 1) := by decide +kernel
theorem dX4_init_14 : decode cX4_init 14 = .ok (.iconst 0, 1) := by decide +kernel
theorem dX4_init_15 : decode cX4_init 15 = .ok (.putfield 15, 3) := by decide +kernel
theorem dX4_init_18 : decode cX4_init 18 = .ok (.aload_n 0, 1) := by decide +kernel
theorem dX4_init_19 : decode cX4_init 19 = .ok (.iconst (-1), 1) := by decide +kernel
theorem dX4_init_20 : decode cX4_init 20 = .ok (.putfield 19, 3) := by decide +kernel
theorem dX4_init_23 : decode cX4_init 23 = .ok (.aload_n 0, 1) := by decide +kernel
theorem dX4_init_24 : decode cX4_init 24 = .ok (.iconst 0, 1) := by decide +kernel
theorem dX4_init_25 : decode cX4_init 25 = .ok (.putfield 22, 3) := by decide +kernel
theorem dX4_init_28 : decode cX4_init 28 = .ok (.aload_n 0, 1) := by decide +kernel
theorem dX4_init_29 : decode cX4_init 29 = .ok (.sipush 300, 3) := by decide +kernel
theorem dX4_init_32 : decode cX4_init 32 = .ok (.newarray .int, 2) := by decide +kernel
theorem dX4_init_34 : decode cX4_init 34 = .ok (.putfield 25, 3) := by decide +kernel
theorem dX4_init_37 : decode cX4_init 37 = .ok (.aload_n 0, 1) := by decide +kernel
theorem dX4_init_38 : decode cX4_init 38 = .ok (.sipush 300, 3) := by decide +kernel
theorem dX4_init_41 : decode cX4_init 41 = .ok (.newarray .int, 2) := by decide +kernel
theorem dX4_init_43 : decode cX4_init 43 = .ok (.putfield 29, 3) := by decide +kernel
theorem dX4_init_46 : decode cX4_init 46 = .ok (.aload_n 0, 1) := by decide +kernel
theorem dX4_init_47 : decode cX4_init 47 = .ok (.sipush 300, 3) := by decide +kernel
theorem dX4_init_50 : decode cX4_init 50 = .ok (.newarray .int, 2) := by decide +kernel
theorem dX4_init_52 : decode cX4_init 52 = .ok (.putfield 32, 3) := by decide +kernel
theorem dX4_init_55 : decode cX4_init 55 = .ok (.aload_n 0, 1) := by decide +kernel
theorem dX4_init_56 : decode cX4_init 56 = .ok (.sipush 300, 3) := by decide +kernel
theorem dX4_init_59 : decode cX4_init 59 = .ok (.newarray .int, 2) := by decide +kernel
theorem dX4_init_61 : decode cX4_init 61 = .ok (.putfield 35, 3) := by decide +kernel
theorem dX4_init_64 : decode cX4_init 64 = .ok (.aload_n 0, 1) := by decide +kernel
theorem dX4_init_65 : decode cX4_init 65 = .ok (.aload_n 1, 1) := by decide +kernel
theorem dX4_init_66 : decode cX4_init 66 = .ok (.putfield 38, 3) := by decide +kernel
theorem dX4_init_69 : decode cX4_init 69 = .ok (.return_, 1) := by decide +kernel
theorem dX4_clear_0 : decode cX4_clear 0 = .ok (.aload_n 0, 1) := by decide +kernel
theorem dX4_clear_1 : decode cX4_clear 1 = .ok (.iconst 0, 1) := by decide +kernel
theorem dX4_clear_2 : decode cX4_clear 2 = .ok (.putfield 15, 3) := by decide +kernel
theorem dX4_clear_5 : decode cX4_clear 5 = .ok (.aload_n 0, 1) := by decide +kernel
theorem dX4_clear_6 : decode cX4_clear 6 = .ok (.iconst (-1), 1) := by decide +kernel
theorem dX4_clear_7 : decode cX4_clear 7 = .ok (.putfield 19, 3) := by decide +kernel
theorem dX4_clear_10 : decode cX4_clear 10 = .ok (.return_, 1) := by decide +kernel
theorem dX4_add_0 : decode cX4_add 0 = .ok (.aload_n 0, 1) := by decide +kernel
theorem dX4_add_1 : decode cX4_add 1 = .ok (.getfield 15, 3) := by decide +kernel
theorem dX4_add_4 : decode cX4_add 4 = .ok (.sipush 300, 3) := by decide +kernel
theorem dX4_add_7 : decode cX4_add 7 = .ok (.if_icmp .lt 5, 3) := by decide +kernel
theorem dX4_add_10 : decode cX4_add 10 = .ok (.iconst 0, 1) := by decide +kernel
theorem dX4_add_11 : decode cX4_add 11 = .ok (.ireturn, 1) := by decide +kernel
theorem dX4_add_12 : decode cX4_add 12 = .ok (.aload_n 0, 1) := by decide +kernel
theorem dX4_add_13 : decode cX4_add 13 = .ok (.getfield 9, 3) := by decide +kernel
theorem dX4_add_16 : decode cX4_add 16 = .ok (.aload_n 0, 1) := by decide +kernel
theorem dX4_add_17 : decode cX4_add 17 = .ok (.getfield 15, 3) := by decide +kernel
theorem dX4_add_20 : decode cX4_add 20 = .ok (.lload_n 1, 1) := by decide +kernel
theorem dX4_add_21 : decode cX4_add 21 = .ok (.lastore, 1) := by decide +kernel
theorem dX4_add_22 : decode cX4_add 22 = .ok (.aload_n 0, 1) := by decide +kernel
theorem dX4_add_23 : decode cX4_add 23 = .ok (.dup, 1) := by decide +kernel
theorem dX4_add_24 : decode cX4_add 24 = .ok (.getfield 15, 3) := by decide +kernel
theorem dX4_add_27 : decode cX4_add 27 = .ok (.iconst 1, 1) := by decide +kernel
theorem dX4_add_28 : decode cX4_add 28 = .ok (.iadd, 1) := by decide +kernel
theorem dX4_add_29 : decode cX4_add 29 = .ok (.putfield 15, 3) := by decide +kernel
theorem dX4_add_32 : decode cX4_add 32 = .ok (.iconst 1, 1) := by decide +kernel
theorem dX4_add_33 : decode cX4_add 33 = .ok (.ireturn, 1) := by decide +kernel
theorem dX4_sortOut_0 : decode cX4_sortOut 0 = .ok (.iload_n 1, 1) := by decide +kernel
theorem dX4_sortOut_1 : decode cX4_sortOut 1 = .ok (.aload_n 0, 1) := by decide +kernel
theorem dX4_sortOut_2 : decode cX4_sortOut 2 = .ok (.getfield 19, 3) := by decide +kernel
theorem dX4_sortOut_5 : decode cX4_sortOut 5 = .ok (.if_icmp .ne 4, 3) := by decide +kernel
theorem dX4_sortOut_8 : decode cX4_sortOut 8 = .ok (.return_, 1) := by decide +kernel
theorem dX4_sortOut_9 : decode cX4_sortOut 9 = .ok (.aload_n 0, 1) := by decide +kernel
theorem dX4_sortOut_10 : decode cX4_sortOut 10 = .ok (.iconst 0, 1) := by decide +kernel
theorem dX4_sortOut_11 : decode cX4_sortOut 11 = .ok (.putfield 22, 3) := by decide +kernel
theorem dX4_sortOut_14 : decode cX4_sortOut 14 = .ok (.aload_n 0, 1) := by decide +kernel
theorem dX4_sortOut_15 : decode cX4_sortOut 15 = .ok (.getfield 25, 3) := by decide +kernel
theorem dX4_sortOut_18 : decode cX4_sortOut 18 = .ok (.iconst (-1), 1) := by decide +kernel
theorem dX4_sortOut_19 : decode cX4_sortOut 19 = .ok (.invokestatic 42, 3) := by decide +kernel
theorem dX4_sortOut_22 : decode cX4_sortOut 22 = .ok (.iconst 0, 1) := by decide +kernel
theorem dX4_sortOut_23 : decode cX4_sortOut 23 = .ok (.istore_n 2, 1) := by decide +kernel
theorem dX4_sortOut_24 : decode cX4_sortOut 24 = .ok (.iload_n 2, 1) := by decide +kernel
theorem dX4_sortOut_25 : decode cX4_sortOut 25 = .ok (.aload_n 0, 1) := by decide +kernel
theorem dX4_sortOut_26 : decode cX4_sortOut 26 = .ok (.getfield 15, 3) := by decide +kernel
theorem dX4_sortOut_29 : decode cX4_sortOut 29 = .ok (.if_icmp .ge 25, 3) := by decide +kernel
theorem dX4_sortOut_32 : decode cX4_sortOut 32 = .ok (.aload_n 0, 1) := by decide +kernel
theorem dX4_sortOut_33 : decode cX4_sortOut 33 = .ok (.getfield 25, 3) := by decide +kernel
theorem dX4_sortOut_36 : decode cX4_sortOut 36 = .ok (.iload_n 2, 1) := by decide +kernel
theorem dX4_sortOut_37 : decode cX4_sortOut 37 = .ok (.iaload, 1) := by decide +kernel
theorem dX4_sortOut_38 : decode cX4_sortOut 38 = .ok (.iconst (-1), 1) := by decide +kernel
theorem dX4_sortOut_39 : decode cX4_sortOut 39 = .ok (.if_icmp .ne 9, 3) := by decide +kernel
theorem dX4_sortOut_42 : decode cX4_sortOut 42 = .ok (.aload_n 0, 1) := by decide +kernel
theorem dX4_sortOut_43 : decode cX4_sortOut 43 = .ok (.iload_n 2, 1) := by decide +kernel
theorem dX4_sortOut_44 : decode cX4_sortOut 44 = .ok (.iload_n 1, 1) := by decide +kernel
theorem dX4_sortOut_45 : decode cX4_sortOut 45 = .ok (.invokevirtual 48, 3) := by decide +kernel
theorem dX4_sortOut_48 : decode cX4_sortOut 48 = .ok (.iinc 2 1, 3) := by decide +kernel
theorem dX4_sortOut_51 : decode cX4_sortOut 51 = .ok (.goto (-27), 3) := by decide +kernel
theorem dX4_sortOut_54 : decode cX4_sortOut 54 = .ok (.aload_n 0, 1) := by decide +kernel
theorem dX4_sortOut_55 : decode cX4_sortOut 55 = .ok (.iload_n 1, 1) := by decide +kernel
theorem dX4_sortOut_56 : decode cX4_sortOut 56 = .ok (.putfield 19, 3) := by decide +kernel
theorem dX4_sortOut_59 : decode cX4_sortOut 59 = .ok (.return_, 1) := by decide +kernel
theorem dX4_openKind_0 : decode cX4_openKind 0 = .ok (.aload_n 0, 1) := by decide +kernel
theorem dX4_openKind_1 : decode cX4_openKind 1 = .ok (.getfield 29, 3) := by decide +kernel
theorem dX4_openKind_4 : decode cX4_openKind 4 = .ok (.aload_n 0, 1) := by decide +kernel
theorem dX4_openKind_5 : decode cX4_openKind 5 = .ok (.getfield 22, 3) := by decide +kernel
theorem dX4_openKind_8 : decode cX4_openKind 8 = .ok (.iload_n 1, 1) := by decide +kernel
theorem dX4_openKind_9 : decode cX4_openKind 9 = .ok (.iastore, 1) := by decide +kernel
theorem dX4_openKind_10 : decode cX4_openKind 10 = .ok (.aload_n 0, 1) := by decide +kernel
theorem dX4_openKind_11 : decode cX4_openKind 11 = .ok (.getfield 32, 3) := by decide +kernel
theorem dX4_openKind_14 : decode cX4_openKind 14 = .ok (.aload_n 0, 1) := by decide +kernel
theorem dX4_openKind_15 : decode cX4_openKind 15 = .ok (.getfield 22, 3) := by decide +kernel
theorem dX4_openKind_18 : decode cX4_openKind 18 = .ok (.iconst 0, 1) := by decide +kernel
theorem dX4_openKind_19 : decode cX4_openKind 19 = .ok (.iastore, 1) := by decide +kernel
theorem dX4_openKind_20 : decode cX4_openKind 20 = .ok (.aload_n 0, 1) := by decide +kernel
theorem dX4_openKind_21 : decode cX4_openKind 21 = .ok (.getfield 35, 3) := by decide +kernel
theorem dX4_openKind_24 : decode cX4_openKind 24 = .ok (.aload_n 0, 1) := by decide +kernel
theorem dX4_openKind_25 : decode cX4_openKind 25 = .ok (.getfield 22, 3) := by decide +kernel
theorem dX4_openKind_28 : decode cX4_openKind 28 = .ok (.iconst 0, 1) := by decide +kernel
theorem dX4_openKind_29 : decode cX4_openKind 29 = .ok (.iastore, 1) := by decide +kernel
theorem dX4_openKind_30 : decode cX4_openKind 30 = .ok (.aload_n 0, 1) := by decide +kernel
theorem dX4_openKind_31 : decode cX4_openKind 31 = .ok (.iconst 1, 1) := by decide +kernel
theorem dX4_openKind_32 : decode cX4_openKind 32 = .ok (.iload_n 1, 1) := by decide +kernel
theorem dX4_openKind_33 : decode cX4_openKind 33 = .ok (.iload_n 2, 1) := by decide +kernel
theorem dX4_openKind_34 : decode cX4_openKind 34 = .ok (.invokevirtual 52, 3) := by decide +kernel
theorem dX4_openKind_37 : decode cX4_openKind 37 = .ok (.aload_n 0, 1) := by decide +kernel
theorem dX4_openKind_38 : decode cX4_openKind 38 = .ok (.getfield 38, 3) := by decide +kernel
theorem dX4_openKind_41 : decode cX4_openKind 41 = .ok (.getfield 56, 3) := by decide +kernel
theorem dX4_openKind_44 : decode cX4_openKind 44 = .ok (.iconst 1, 1) := by decide +kernel
theorem dX4_openKind_45 : decode cX4_openKind 45 = .ok (.if_icmp .ne 41, 3) := by decide +kernel
theorem dX4_openKind_48 : decode cX4_openKind 48 = .ok (.iconst 2, 1) := by decide +kernel
theorem dX4_openKind_49 : decode cX4_openKind 49 = .ok (.istore_n 3, 1) := by decide +kernel
theorem dX4_openKind_50 : decode cX4_openKind 50 = .ok (.iload_n 3, 1) := by decide +kernel
theorem dX4_openKind_51 : decode cX4_openKind 51 = .ok (.aload_n 0, 1) := by decide +kernel
theorem dX4_openKind_52 : decode cX4_openKind 52 = .ok (.getfield 38, 3) := by decide +kernel
theorem dX4_openKind_55 : decode cX4_openKind 55 = .ok (.getfield 61, 3) := by decide +kernel
theorem dX4_openKind_58 : decode cX4_openKind 58 = .ok (.if_icmp .ge 25, 3) := by decide +kernel
theorem dX4_openKind_61 : decode cX4_openKind 61 = .ok (.aload_n 0, 1) := by decide +kernel
theorem dX4_openKind_62 : decode cX4_openKind 62 = .ok (.iload_n 3, 1) := by decide +kernel
theorem dX4_openKind_63 : decode cX4_openKind 63 = .ok (.iload_n 2, 1) := by decide +kernel
theorem dX4_openKind_64 : decode cX4_openKind 64 = .ok (.invokevirtual 64, 3) := by decide +kernel
theorem dX4_openKind_67 : decode cX4_openKind 67 = .ok (.ifCond .eq 10, 3) := by decide +kernel
theorem dX4_openKind_70 : decode cX4_openKind 70 = .ok (.aload_n 0, 1) := by decide +kernel
theorem dX4_openKind_71 : decode cX4_openKind 71 = .ok (.iload_n 3, 1) := by decide +kernel
theorem dX4_openKind_72 : decode cX4_openKind 72 = .ok (.iload_n 1, 1) := by decide +kernel
theorem dX4_openKind_73 : decode cX4_openKind 73 = .ok (.iload_n 2, 1) := by decide +kernel
theorem dX4_openKind_74 : decode cX4_openKind 74 = .ok (.invokevirtual 52, 3) := by decide +kernel
theorem dX4_openKind_77 : decode cX4_openKind 77 = .ok (.iinc 3 1, 3) := by decide +kernel
theorem dX4_openKind_80 : decode cX4_openKind 80 = .ok (.goto (-30), 3) := by decide +kernel
theorem dX4_openKind_83 : decode cX4_openKind 83 = .ok (.goto 33, 3) := by decide +kernel
theorem dX4_openKind_86 : decode cX4_openKind 86 = .ok (.iload_n 2, 1) := by decide +kernel
theorem dX4_openKind_87 : decode cX4_openKind 87 = .ok (.iconst 1, 1) := by decide +kernel
theorem dX4_openKind_88 : decode cX4_openKind 88 = .ok (.iand, 1) := by decide +kernel
theorem dX4_openKind_89 : decode cX4_openKind 89 = .ok (.ifCond .eq 27, 3) := by decide +kernel
theorem dX4_openKind_92 : decode cX4_openKind 92 = .ok (.aload_n 0, 1) := by decide +kernel
theorem dX4_openKind_93 : decode cX4_openKind 93 = .ok (.getfield 38, 3) := by decide +kernel
theorem dX4_openKind_96 : decode cX4_openKind 96 = .ok (.getfield 68, 3) := by decide +kernel
theorem dX4_openKind_99 : decode cX4_openKind 99 = .ok (.aload_n 0, 1) := by decide +kernel
theorem dX4_openKind_100 : decode cX4_openKind 100 = .ok (.getfield 38, 3) := by decide +kernel
theorem dX4_openKind_103 : decode cX4_openKind 103 = .ok (.getfield 71, 3) := by decide +kernel
theorem dX4_openKind_106 : decode cX4_openKind 106 = .ok (.if_icmp .le 10, 3) := by decide +kernel
theorem dX4_openKind_109 : decode cX4_openKind 109 = .ok (.aload_n 0, 1) := by decide +kernel
theorem dX4_openKind_110 : decode cX4_openKind 110 = .ok (.iconst (-1), 1) := by decide +kernel
theorem dX4_openKind_111 : decode cX4_openKind 111 = .ok (.iload_n 1, 1) := by decide +kernel
theorem dX4_openKind_112 : decode cX4_openKind 112 = .ok (.iload_n 2, 1) := by decide +kernel
theorem dX4_openKind_113 : decode cX4_openKind 113 = .ok (.invokevirtual 52, 3) := by decide +kernel
theorem dX4_openKind_116 : decode cX4_openKind 116 = .ok (.aload_n 0, 1) := by decide +kernel
theorem dX4_openKind_117 : decode cX4_openKind 117 = .ok (.dup, 1) := by decide +kernel
theorem dX4_openKind_118 : decode cX4_openKind 118 = .ok (.getfield 22, 3) := by decide +kernel
theorem dX4_openKind_121 : decode cX4_openKind 121 = .ok (.iconst 1, 1) := by decide +kernel
theorem dX4_openKind_122 : decode cX4_openKind 122 = .ok (.iadd, 1) := by decide +kernel
theorem dX4_openKind_123 : decode cX4_openKind 123 = .ok (.putfield 22, 3) := by decide +kernel
theorem dX4_openKind_126 : decode cX4_openKind 126 = .ok (.return_, 1) := by decide +kernel
theorem dX4_isStretch_0 : decode cX4_isStretch 0 = .ok (.iload_n 2, 1) := by decide +kernel
theorem dX4_isStretch_1 : decode cX4_isStretch 1 = .ok (.iconst 1, 1) := by decide +kernel
theorem dX4_isStretch_2 : decode cX4_isStretch 2 = .ok (.iand, 1) := by decide +kernel
theorem dX4_isStretch_3 : decode cX4_isStretch 3 = .ok (.ifCond .eq 18, 3) := by decide +kernel
theorem dX4_isStretch_6 : decode cX4_isStretch 6 = .ok (.iload_n 1, 1) := by decide +kernel
theorem dX4_isStretch_7 : decode cX4_isStretch 7 = .ok (.aload_n 0, 1) := by decide +kernel
theorem dX4_isStretch_8 : decode cX4_isStretch 8 = .ok (.getfield 38, 3) := by decide +kernel
theorem dX4_isStretch_11 : decode cX4_isStretch 11 = .ok (.getfield 61, 3) := by decide +kernel
theorem dX4_isStretch_14 : decode cX4_isStretch 14 = .ok (.iconst 1, 1) := by decide +kernel
theorem dX4_isStretch_15 : decode cX4_isStretch 15 = .ok (.isub, 1) := by decide +kernel
theorem dX4_isStretch_16 : decode cX4_isStretch 16 = .ok (.if_icmp .ne 5, 3) := by decide +kernel
theorem dX4_isStretch_19 : decode cX4_isStretch 19 = .ok (.iconst 1, 1) := by decide +kernel
theorem dX4_isStretch_20 : decode cX4_isStretch 20 = .ok (.ireturn, 1) := by decide +kernel
theorem dX4_isStretch_21 : decode cX4_isStretch 21 = .ok (.iload_n 2, 1) := by decide +kernel
theorem dX4_isStretch_22 : decode cX4_isStretch 22 = .ok (.iconst 4, 1) := by decide +kernel
theorem dX4_isStretch_23 : decode cX4_isStretch 23 = .ok (.iand, 1) := by decide +kernel
theorem dX4_isStretch_24 : decode cX4_isStretch 24 = .ok (.ifCond .eq 21, 3) := by decide +kernel
theorem dX4_isStretch_27 : decode cX4_isStretch 27 = .ok (.iload_n 1, 1) := by decide +kernel
theorem dX4_isStretch_28 : decode cX4_isStretch 28 = .ok (.aload_n 0, 1) := by decide +kernel
theorem dX4_isStretch_29 : decode cX4_isStretch 29 = .ok (.getfield 38, 3) := by decide +kernel
theorem dX4_isStretch_32 : decode cX4_isStretch 32 = .ok (.getfield 61, 3) := by decide +kernel
theorem dX4_isStretch_35 : decode cX4_isStretch 35 = .ok (.invokestatic 74, 3) := by decide +kernel
theorem dX4_isStretch_38 : decode cX4_isStretch 38 = .ok (.ifCond .eq 7, 3) := by decide +kernel
theorem dX4_isStretch_41 : decode cX4_isStretch 41 = .ok (.iconst 1, 1) := by decide +kernel
theorem dX4_isStretch_42 : decode cX4_isStretch 42 = .ok (.goto 4, 3) := by decide +kernel
theorem dX4_isStretch_45 : decode cX4_isStretch 45 = .ok (.iconst 0, 1) := by decide +kernel
theorem dX4_isStretch_46 : decode cX4_isStretch 46 = .ok (.ireturn, 1) := by decide +kernel
theorem dX4_shareNoFactor_0 : decode cX4_shareNoFactor 0 = .ok (.iconst 2, 1) := by decide +kernel
theorem dX4_shareNoFactor_1 : decode cX4_shareNoFactor 1 = .ok (.istore_n 2, 1) := by decide +kernel
theorem dX4_shareNoFactor_2 : decode cX4_shareNoFactor 2 = .ok (.iload_n 2, 1) := by decide +kernel
theorem dX4_shareNoFactor_3 : decode cX4_shareNoFactor 3 = .ok (.iload_n 0, 1) := by decide +kernel
theorem dX4_shareNoFactor_4 : decode cX4_shareNoFactor 4 = .ok (.if_icmp .gt 23, 3) := by decide +kernel
theorem dX4_shareNoFactor_7 : decode cX4_shareNoFactor 7 = .ok (.iload_n 0, 1) := by decide +kernel
theorem dX4_shareNoFactor_8 : decode cX4_shareNoFactor 8 = .ok (.iload_n 2, 1) := by decide +kernel
theorem dX4_shareNoFactor_9 : decode cX4_shareNoFactor 9 = .ok (.irem, 1) := by decide +kernel
theorem dX4_shareNoFactor_10 : decode cX4_shareNoFactor 10 = .ok (.ifCond .ne 11, 3) := by decide +kernel
theorem dX4_shareNoFactor_13 : decode cX4_shareNoFactor 13 = .ok (.iload_n 1, 1) := by decide +kernel
theorem dX4_shareNoFactor_14 : decode cX4_shareNoFactor 14 = .ok (.iload_n 2, 1) := by decide +kernel
theorem dX4_shareNoFactor_15 : decode cX4_shareNoFactor 15 = .ok (.irem, 1) := by decide +kernel
theorem dX4_shareNoFactor_16 : decode cX4_shareNoFactor 16 = .ok (.ifCond .ne 5, 3) := by decide +kernel
theorem dX4_shareNoFactor_19 : decode cX4_shareNoFactor 19 = .ok (.iconst 0, 1) := by decide +kernel
theorem dX4_shareNoFactor_20 : decode cX4_shareNoFactor 20 = .ok (.ireturn, 1) := by decide +kernel
theorem dX4_shareNoFactor_21 : decode cX4_shareNoFactor 21 = .ok (.iinc 2 1, 3) := by decide +kernel
theorem dX4_shareNoFactor_24 : decode cX4_shareNoFactor 24 = .ok (.goto (-22), 3) := by decide +kernel
theorem dX4_shareNoFactor_27 : decode cX4_shareNoFactor 27 = .ok (.iconst 1, 1) := by decide +kernel
theorem dX4_shareNoFactor_28 : decode cX4_shareNoFactor 28 = .ok (.ireturn, 1) := by decide +kernel
theorem dX4_turnBy_0 : decode cX4_turnBy 0 = .ok (.aload_n 0, 1) := by decide +kernel
theorem dX4_turnBy_1 : decode cX4_turnBy 1 = .ok (.aload_n 0, 1) := by decide +kernel
theorem dX4_turnBy_2 : decode cX4_turnBy 2 = .ok (.getfield 9, 3) := by decide +kernel
theorem dX4_turnBy_5 : decode cX4_turnBy 5 = .ok (.iload_n 2, 1) := by decide +kernel
theorem dX4_turnBy_6 : decode cX4_turnBy 6 = .ok (.laload, 1) := by decide +kernel
theorem dX4_turnBy_7 : decode cX4_turnBy 7 = .ok (.iload_n 1, 1) := by decide +kernel
theorem dX4_turnBy_8 : decode cX4_turnBy 8 = .ok (.invokevirtual 77, 3) := by decide +kernel
theorem dX4_turnBy_11 : decode cX4_turnBy 11 = .ok (.lstore 4, 2) := by decide +kernel
theorem dX4_turnBy_13 : decode cX4_turnBy 13 = .ok (.aload_n 0, 1) := by decide +kernel
theorem dX4_turnBy_14 : decode cX4_turnBy 14 = .ok (.getfield 38, 3) := by decide +kernel
theorem dX4_turnBy_17 : decode cX4_turnBy 17 = .ok (.getfield 56, 3) := by decide +kernel
theorem dX4_turnBy_20 : decode cX4_turnBy 20 = .ok (.ifCond .eq 9, 3) := by decide +kernel
theorem dX4_turnBy_23 : decode cX4_turnBy 23 = .ok (.iload_n 3, 1) := by decide +kernel
theorem dX4_turnBy_24 : decode cX4_turnBy 24 = .ok (.iconst 2, 1) := by decide +kernel
theorem dX4_turnBy_25 : decode cX4_turnBy 25 = .ok (.iand, 1) := by decide +kernel
theorem dX4_turnBy_26 : decode cX4_turnBy 26 = .ok (.ifCond .ne 11, 3) := by decide +kernel
theorem dX4_turnBy_29 : decode cX4_turnBy 29 = .ok (.aload_n 0, 1) := by decide +kernel
theorem dX4_turnBy_30 : decode cX4_turnBy 30 = .ok (.lload 4, 2) := by decide +kernel
theorem dX4_turnBy_32 : decode cX4_turnBy 32 = .ok (.iload_n 2, 1) := by decide +kernel
theorem dX4_turnBy_33 : decode cX4_turnBy 33 = .ok (.invokevirtual 81, 3) := by decide +kernel
theorem dX4_turnBy_36 : decode cX4_turnBy 36 = .ok (.return_, 1) := by decide +kernel
theorem dX4_turnBy_37 : decode cX4_turnBy 37 = .ok (.aload_n 0, 1) := by decide +kernel
theorem dX4_turnBy_38 : decode cX4_turnBy 38 = .ok (.getfield 38, 3) := by decide +kernel
theorem dX4_turnBy_41 : decode cX4_turnBy 41 = .ok (.getfield 71, 3) := by decide +kernel
theorem dX4_turnBy_44 : decode cX4_turnBy 44 = .ok (.istore 6, 2) := by decide +kernel
theorem dX4_turnBy_46 : decode cX4_turnBy 46 = .ok (.iload 6, 2) := by decide +kernel
theorem dX4_turnBy_48 : decode cX4_turnBy 48 = .ok (.aload_n 0, 1) := by decide +kernel
theorem dX4_turnBy_49 : decode cX4_turnBy 49 = .ok (.getfield 38, 3) := by decide +kernel
theorem dX4_turnBy_52 : decode cX4_turnBy 52 = .ok (.getfield 68, 3) := by decide +kernel
theorem dX4_turnBy_55 : decode cX4_turnBy 55 = .ok (.if_icmp .gt 25, 3) := by decide +kernel
theorem dX4_turnBy_58 : decode cX4_turnBy 58 = .ok (.aload_n 0, 1) := by decide +kernel
theorem dX4_turnBy_59 : decode cX4_turnBy 59 = .ok (.aload_n 0, 1) := by decide +kernel
theorem dX4_turnBy_60 : decode cX4_turnBy 60 = .ok (.getfield 38, 3) := by decide +kernel
theorem dX4_turnBy_63 : decode cX4_turnBy 63 = .ok (.lload 4, 2) := by decide +kernel
theorem dX4_turnBy_65 : decode cX4_turnBy 65 = .ok (.iload 6, 2) := by decide +kernel
theorem dX4_turnBy_67 : decode cX4_turnBy 67 = .ok (.invokevirtual 85, 3) := by decide +kernel
theorem dX4_turnBy_70 : decode cX4_turnBy 70 = .ok (.iload_n 2, 1) := by decide +kernel
theorem dX4_turnBy_71 : decode cX4_turnBy 71 = .ok (.invokevirtual 81, 3) := by decide +kernel
theorem dX4_turnBy_74 : decode cX4_turnBy 74 = .ok (.iinc 6 1, 3) := by decide +kernel
theorem dX4_turnBy_77 : decode cX4_turnBy 77 = .ok (.goto (-31), 3) := by decide +kernel
theorem dX4_turnBy_80 : decode cX4_turnBy 80 = .ok (.return_, 1) := by decide +kernel
theorem dX4_timesFactor_0 : decode cX4_timesFactor 0 = .ok (.iload_n 3, 1) := by decide +kernel
theorem dX4_timesFactor_1 : decode cX4_timesFactor 1 = .ok (.iconst 1, 1) := by decide +kernel
theorem dX4_timesFactor_2 : decode cX4_timesFactor 2 = .ok (.if_icmp .ne 5, 3) := by decide +kernel
theorem dX4_timesFactor_5 : decode cX4_timesFactor 5 = .ok (.lload_n 1, 1) := by decide +kernel
theorem dX4_timesFactor_6 : decode cX4_timesFactor 6 = .ok (.lreturn, 1) := by decide +kernel
theorem dX4_timesFactor_7 : decode cX4_timesFactor 7 = .ok (.aload_n 0, 1) := by decide +kernel
theorem dX4_timesFactor_8 : decode cX4_timesFactor 8 = .ok (.getfield 38, 3) := by decide +kernel
theorem dX4_timesFactor_11 : decode cX4_timesFactor 11 = .ok (.getfield 56, 3) := by decide +kernel
theorem dX4_timesFactor_14 : decode cX4_timesFactor 14 = .ok (.ifCond .ne 14, 3) := by decide +kernel
theorem dX4_timesFactor_17 : decode cX4_timesFactor 17 = .ok (.aload_n 0, 1) := by decide +kernel
theorem dX4_timesFactor_18 : decode cX4_timesFactor 18 = .ok (.getfield 38, 3) := by decide +kernel
theorem dX4_timesFactor_21 : decode cX4_timesFactor 21 = .ok (.lload_n 1, 1) := by decide +kernel
theorem dX4_timesFactor_22 : decode cX4_timesFactor 22 = .ok (.invokevirtual 88, 3) := by decide +kernel
theorem dX4_timesFactor_25 : decode cX4_timesFactor 25 = .ok (.goto 12, 3) := by decide +kernel
theorem dX4_timesFactor_28 : decode cX4_timesFactor 28 = .ok (.aload_n 0, 1) := by decide +kernel
theorem dX4_timesFactor_29 : decode cX4_timesFactor 29 = .ok (.getfield 38, 3) := by decide +kernel
theorem dX4_timesFactor_32 : decode cX4_timesFactor 32 = .ok (.lload_n 1, 1) := by decide +kernel
theorem dX4_timesFactor_33 : decode cX4_timesFactor 33 = .ok (.iload_n 3, 1) := by decide +kernel
theorem dX4_timesFactor_34 : decode cX4_timesFactor 34 = .ok (.invokevirtual 92, 3) := by decide +kernel
theorem dX4_timesFactor_37 : decode cX4_timesFactor 37 = .ok (.lreturn, 1) := by decide +kernel
theorem dX4_meet_0 : decode cX4_meet 0 = .ok (.lload_n 1, 1) := by decide +kernel
theorem dX4_meet_1 : decode cX4_meet 1 = .ok (.aload_n 0, 1) := by decide +kernel
theorem dX4_meet_2 : decode cX4_meet 2 = .ok (.getfield 9, 3) := by decide +kernel
theorem dX4_meet_5 : decode cX4_meet 5 = .ok (.iload_n 3, 1) := by decide +kernel
theorem dX4_meet_6 : decode cX4_meet 6 = .ok (.laload, 1) := by decide +kernel
theorem dX4_meet_7 : decode cX4_meet 7 = .ok (.lcmp, 1) := by decide +kernel
theorem dX4_meet_8 : decode cX4_meet 8 = .ok (.ifCond .ne 16, 3) := by decide +kernel
theorem dX4_meet_11 : decode cX4_meet 11 = .ok (.aload_n 0, 1) := by decide +kernel
theorem dX4_meet_12 : decode cX4_meet 12 = .ok (.getfield 35, 3) := by decide +kernel
theorem dX4_meet_15 : decode cX4_meet 15 = .ok (.aload_n 0, 1) := by decide +kernel
theorem dX4_meet_16 : decode cX4_meet 16 = .ok (.getfield 22, 3) := by decide +kernel
theorem dX4_meet_19 : decode cX4_meet 19 = .ok (.dup2, 1) := by decide +kernel
theorem dX4_meet_20 : decode cX4_meet 20 = .ok (.iaload, 1) := by decide +kernel
theorem dX4_meet_21 : decode cX4_meet 21 = .ok (.iconst 1, 1) := by decide +kernel
theorem dX4_meet_22 : decode cX4_meet 22 = .ok (.iadd, 1) := by decide +kernel
theorem dX4_meet_23 : decode cX4_meet 23 = .ok (.iastore, 1) := by decide +kernel
theorem dX4_meet_24 : decode cX4_meet 24 = .ok (.aload_n 0, 1) := by decide +kernel
theorem dX4_meet_25 : decode cX4_meet 25 = .ok (.lload_n 1, 1) := by decide +kernel
theorem dX4_meet_26 : decode cX4_meet 26 = .ok (.invokevirtual 95, 3) := by decide +kernel
theorem dX4_meet_29 : decode cX4_meet 29 = .ok (.istore 4, 2) := by decide +kernel
theorem dX4_meet_31 : decode cX4_meet 31 = .ok (.iload 4, 2) := by decide +kernel
theorem dX4_meet_33 : decode cX4_meet 33 = .ok (.iconst (-1), 1) := by decide +kernel
theorem dX4_meet_34 : decode cX4_meet 34 = .ok (.if_icmp .eq 38, 3) := by decide +kernel
theorem dX4_meet_37 : decode cX4_meet 37 = .ok (.aload_n 0, 1) := by decide +kernel
theorem dX4_meet_38 : decode cX4_meet 38 = .ok (.getfield 25, 3) := by decide +kernel
theorem dX4_meet_41 : decode cX4_meet 41 = .ok (.iload 4, 2) := by decide +kernel
theorem dX4_meet_43 : decode cX4_meet 43 = .ok (.iaload, 1) := by decide +kernel
theorem dX4_meet_44 : decode cX4_meet 44 = .ok (.iconst (-1), 1) := by decide +kernel
theorem dX4_meet_45 : decode cX4_meet 45 = .ok (.if_icmp .ne 27, 3) := by decide +kernel
theorem dX4_meet_48 : decode cX4_meet 48 = .ok (.aload_n 0, 1) := by decide +kernel
theorem dX4_meet_49 : decode cX4_meet 49 = .ok (.getfield 25, 3) := by decide +kernel
theorem dX4_meet_52 : decode cX4_meet 52 = .ok (.iload 4, 2) := by decide +kernel
theorem dX4_meet_54 : decode cX4_meet 54 = .ok (.aload_n 0, 1) := by decide +kernel
theorem dX4_meet_55 : decode cX4_meet 55 = .ok (.getfield 22, 3) := by decide +kernel
theorem dX4_meet_58 : decode cX4_meet 58 = .ok (.iastore, 1) := by decide +kernel
theorem dX4_meet_59 : decode cX4_meet 59 = .ok (.aload_n 0, 1) := by decide +kernel
theorem dX4_meet_60 : decode cX4_meet 60 = .ok (.getfield 32, 3) := by decide +kernel
theorem dX4_meet_63 : decode cX4_meet 63 = .ok (.aload_n 0, 1) := by decide +kernel
theorem dX4_meet_64 : decode cX4_meet 64 = .ok (.getfield 22, 3) := by decide +kernel
theorem dX4_meet_67 : decode cX4_meet 67 = .ok (.dup2, 1) := by decide +kernel
theorem dX4_meet_68 : decode cX4_meet 68 = .ok (.iaload, 1) := by decide +kernel
theorem dX4_meet_69 : decode cX4_meet 69 = .ok (.iconst 1, 1) := by decide +kernel
theorem dX4_meet_70 : decode cX4_meet 70 = .ok (.iadd, 1) := by decide +kernel
theorem dX4_meet_71 : decode cX4_meet 71 = .ok (.iastore, 1) := by decide +kernel
theorem dX4_meet_72 : decode cX4_meet 72 = .ok (.return_, 1) := by decide +kernel
theorem dX4_placeOf_0 : decode cX4_placeOf 0 = .ok (.iconst 0, 1) := by decide +kernel
theorem dX4_placeOf_1 : decode cX4_placeOf 1 = .ok (.istore_n 3, 1) := by decide +kernel
theorem dX4_placeOf_2 : decode cX4_placeOf 2 = .ok (.aload_n 0, 1) := by decide +kernel
theorem dX4_placeOf_3 : decode cX4_placeOf 3 = .ok (.getfield 15, 3) := by decide +kernel
theorem dX4_placeOf_6 : decode cX4_placeOf 6 = .ok (.istore 4, 2) := by decide +kernel
theorem dX4_placeOf_8 : decode cX4_placeOf 8 = .ok (.iconst 0, 1) := by decide +kernel
theorem dX4_placeOf_9 : decode cX4_placeOf 9 = .ok (.istore 5, 2) := by decide +kernel
theorem dX4_placeOf_11 : decode cX4_placeOf 11 = .ok (.iload 5, 2) := by decide +kernel
theorem dX4_placeOf_13 : decode cX4_placeOf 13 = .ok (.sipush 300, 3) := by decide +kernel
theorem dX4_placeOf_16 : decode cX4_placeOf 16 = .ok (.if_icmp .ge 49, 3) := by decide +kernel
theorem dX4_placeOf_19 : decode cX4_placeOf 19 = .ok (.iload_n 3, 1) := by decide +kernel
theorem dX4_placeOf_20 : decode cX4_placeOf 20 = .ok (.iload 4, 2) := by decide +kernel
theorem dX4_placeOf_22 : decode cX4_placeOf 22 = .ok (.if_icmp .ge 43, 3) := by decide +kernel
theorem dX4_placeOf_25 : decode cX4_placeOf 25 = .ok (.iload_n 3, 1) := by decide +kernel
theorem dX4_placeOf_26 : decode cX4_placeOf 26 = .ok (.iload 4, 2) := by decide +kernel
theorem dX4_placeOf_28 : decode cX4_placeOf 28 = .ok (.iadd, 1) := by decide +kernel
theorem dX4_placeOf_29 : decode cX4_placeOf 29 = .ok (.iconst 2, 1) := by decide +kernel
theorem dX4_placeOf_30 : decode cX4_placeOf 30 = .ok (.idiv, 1) := by decide +kernel
theorem dX4_placeOf_31 : decode cX4_placeOf 31 = .ok (.istore 6, 2) := by decide +kernel
theorem dX4_placeOf_33 : decode cX4_placeOf 33 = .ok (.aload_n 0, 1) := by decide +kernel
theorem dX4_placeOf_34 : decode cX4_placeOf 34 = .ok (.getfield 9, 3) := by decide +kernel
theorem dX4_placeOf_37 : decode cX4_placeOf 37 = .ok (.iload 6, 2) := by decide +kernel
theorem dX4_placeOf_39 : decode cX4_placeOf 39 = .ok (.laload, 1) := by decide +kernel
theorem dX4_placeOf_40 : decode cX4_placeOf 40 = .ok (.lload_n 1, 1) := by decide +kernel
theorem dX4_placeOf_41 : decode cX4_placeOf 41 = .ok (.invokestatic 99, 3) := by decide +kernel
theorem dX4_placeOf_44 : decode cX4_placeOf 44 = .ok (.ifCond .eq 11, 3) := by decide +kernel
theorem dX4_placeOf_47 : decode cX4_placeOf 47 = .ok (.iload 6, 2) := by decide +kernel
theorem dX4_placeOf_49 : decode cX4_placeOf 49 = .ok (.iconst 1, 1) := by decide +kernel
theorem dX4_placeOf_50 : decode cX4_placeOf 50 = .ok (.iadd, 1) := by decide +kernel
theorem dX4_placeOf_51 : decode cX4_placeOf 51 = .ok (.istore_n 3, 1) := by decide +kernel
theorem dX4_placeOf_52 : decode cX4_placeOf 52 = .ok (.goto 7, 3) := by decide +kernel
theorem dX4_placeOf_55 : decode cX4_placeOf 55 = .ok (.iload 6, 2) := by decide +kernel
theorem dX4_placeOf_57 : decode cX4_placeOf 57 = .ok (.istore 4, 2) := by decide +kernel
theorem dX4_placeOf_59 : decode cX4_placeOf 59 = .ok (.iinc 5 1, 3) := by decide +kernel
theorem dX4_placeOf_62 : decode cX4_placeOf 62 = .ok (.goto (-51), 3) := by decide +kernel
theorem dX4_placeOf_65 : decode cX4_placeOf 65 = .ok (.iload_n 3, 1) := by decide +kernel
theorem dX4_placeOf_66 : decode cX4_placeOf 66 = .ok (.aload_n 0, 1) := by decide +kernel
theorem dX4_placeOf_67 : decode cX4_placeOf 67 = .ok (.getfield 15, 3) := by decide +kernel
theorem dX4_placeOf_70 : decode cX4_placeOf 70 = .ok (.if_icmp .ge 18, 3) := by decide +kernel
theorem dX4_placeOf_73 : decode cX4_placeOf 73 = .ok (.aload_n 0, 1) := by decide +kernel
theorem dX4_placeOf_74 : decode cX4_placeOf 74 = .ok (.getfield 9, 3) := by decide +kernel
theorem dX4_placeOf_77 : decode cX4_placeOf 77 = .ok (.iload_n 3, 1) := by decide +kernel
theorem dX4_placeOf_78 : decode cX4_placeOf 78 = .ok (.laload, 1) := by decide +kernel
theorem dX4_placeOf_79 : decode cX4_placeOf 79 = .ok (.lload_n 1, 1) := by decide +kernel
theorem dX4_placeOf_80 : decode cX4_placeOf 80 = .ok (.lcmp, 1) := by decide +kernel
theorem dX4_placeOf_81 : decode cX4_placeOf 81 = .ok (.ifCond .ne 7, 3) := by decide +kernel
theorem dX4_placeOf_84 : decode cX4_placeOf 84 = .ok (.iload_n 3, 1) := by decide +kernel
theorem dX4_placeOf_85 : decode cX4_placeOf 85 = .ok (.goto 4, 3) := by decide +kernel
theorem dX4_placeOf_88 : decode cX4_placeOf 88 = .ok (.iconst (-1), 1) := by decide +kernel
theorem dX4_placeOf_89 : decode cX4_placeOf 89 = .ok (.ireturn, 1) := by decide +kernel
theorem dX4_isAhead_0 : decode cX4_isAhead 0 = .ok (.lload_n 0, 1) := by decide +kernel
theorem dX4_isAhead_1 : decode cX4_isAhead 1 = .ok (.lload_n 2, 1) := by decide +kernel
theorem dX4_isAhead_2 : decode cX4_isAhead 2 = .ok (.lxor, 1) := by decide +kernel
theorem dX4_isAhead_3 : decode cX4_isAhead 3 = .ok (.lstore 4, 2) := by decide +kernel
theorem dX4_isAhead_5 : decode cX4_isAhead 5 = .ok (.lload_n 0, 1) := by decide +kernel
theorem dX4_isAhead_6 : decode cX4_isAhead 6 = .ok (.lload 4, 2) := by decide +kernel
theorem dX4_isAhead_8 : decode cX4_isAhead 8 = .ok (.land, 1) := by decide +kernel
theorem dX4_isAhead_9 : decode cX4_isAhead 9 = .ok (.lload 4, 2) := by decide +kernel
theorem dX4_isAhead_11 : decode cX4_isAhead 11 = .ok (.lneg, 1) := by decide +kernel
theorem dX4_isAhead_12 : decode cX4_isAhead 12 = .ok (.land, 1) := by decide +kernel
theorem dX4_isAhead_13 : decode cX4_isAhead 13 = .ok (.lconst 0, 1) := by decide +kernel
theorem dX4_isAhead_14 : decode cX4_isAhead 14 = .ok (.lcmp, 1) := by decide +kernel
theorem dX4_isAhead_15 : decode cX4_isAhead 15 = .ok (.ifCond .eq 7, 3) := by decide +kernel
theorem dX4_isAhead_18 : decode cX4_isAhead 18 = .ok (.iconst 1, 1) := by decide +kernel
theorem dX4_isAhead_19 : decode cX4_isAhead 19 = .ok (.goto 4, 3) := by decide +kernel
theorem dX4_isAhead_22 : decode cX4_isAhead 22 = .ok (.iconst 0, 1) := by decide +kernel
theorem dX4_isAhead_23 : decode cX4_isAhead 23 = .ok (.ireturn, 1) := by decide +kernel
theorem dX5_init_0 : decode cX5_init 0 = .ok (.aload_n 0, 1) := by decide +kernel
theorem dX5_init_1 : decode cX5_init 1 = .ok (.invokespecial 3, 3) := by decide +kernel
theorem dX5_init_4 : decode cX5_init 4 = .ok (.aload_n 0, 1) := by decide +kernel
theorem dX5_init_5 : decode cX5_init 5 = .ok (.sipush 3661, 3) := by decide +kernel
theorem dX5_init_8 : decode cX5_init 8 = .ok (.newarray .int, 2) := by decide +kernel
theorem dX5_init_10 : decode cX5_init 10 = .ok (.putfield 9, 3) := by decide +kernel
theorem dX5_init_13 : decode cX5_init 13 = .ok (.aload_n 0, 1) := by decide +kernel
theorem dX5_init_14 : decode cX5_init 14 = .ok (.iconst 0, 1) := by decide +kernel
theorem dX5_init_15 : decode cX5_init 15 = .ok (.putfield 15, 3) := by decide +kernel
theorem dX5_init_18 : decode cX5_init 18 = .ok (.aload_n 0, 1) := by decide +kernel
theorem dX5_init_19 : decode cX5_init 19 = .ok (.lconst 0, 1) := by decide +kernel
theorem dX5_init_20 : decode cX5_init 20 = .ok (.putfield 19, 3) := by decide +kernel
theorem dX5_init_23 : decode cX5_init 23 = .ok (.aload_n 0, 1) := by decide +kernel
theorem dX5_init_24 : decode cX5_init 24 = .ok (.bipush 121, 2) := by decide +kernel
theorem dX5_init_26 : decode cX5_init 26 = .ok (.newarray .int, 2) := by decide +kernel
theorem dX5_init_28 : decode cX5_init 28 = .ok (.putfield 23, 3) := by decide +kernel
theorem dX5_init_31 : decode cX5_init 31 = .ok (.aload_n 0, 1) := by decide +kernel
theorem dX5_init_32 : decode cX5_init 32 = .ok (.bipush 61, 2) := by decide +kernel
theorem dX5_init_34 : decode cX5_init 34 = .ok (.newarray .int, 2) := by decide +kernel
theorem dX5_init_36 : decode cX5_init 36 = .ok (.putfield 26, 3) := by decide +kernel
theorem dX5_init_39 : decode cX5_init 39 = .ok (.aload_n 0, 1) := by decide +kernel
theorem dX5_init_40 : decode cX5_init 40 = .ok (.aload_n 1, 1) := by decide +kernel
theorem dX5_init_41 : decode cX5_init 41 = .ok (.putfield 29, 3) := by decide +kernel
theorem dX5_init_44 : decode cX5_init 44 = .ok (.return_, 1) := by decide +kernel
theorem dX5_pair_0 : decode cX5_pair 0 = .ok (.aload_n 0, 1) := by decide +kernel
theorem dX5_pair_1 : decode cX5_pair 1 = .ok (.dup, 1) := by decide +kernel
theorem dX5_pair_2 : decode cX5_pair 2 = .ok (.getfield 15, 3) := by decide +kernel
theorem dX5_pair_5 : decode cX5_pair 5 = .ok (.iconst 1, 1) := by decide +kernel
theorem dX5_pair_6 : decode cX5_pair 6 = .ok (.iadd, 1) := by decide +kernel
theorem dX5_pair_7 : decode cX5_pair 7 = .ok (.putfield 15, 3) := by decide +kernel
theorem dX5_pair_10 : decode cX5_pair 10 = .ok (.aload_n 0, 1) := by decide +kernel
theorem dX5_pair_11 : decode cX5_pair 11 = .ok (.lconst 0, 1) := by decide +kernel
theorem dX5_pair_12 : decode cX5_pair 12 = .ok (.putfield 19, 3) := by decide +kernel
theorem dX5_pair_15 : decode cX5_pair 15 = .ok (.iconst 0, 1) := by decide +kernel
theorem dX5_pair_16 : decode cX5_pair 16 = .ok (.istore 6, 2) := by decide +kernel
theorem dX5_pair_18 : decode cX5_pair 18 = .ok (.aload_n 0, 1) := by decide +kernel
theorem dX5_pair_19 : decode cX5_pair 19 = .ok (.getfield 29, 3) := by decide +kernel
theorem dX5_pair_22 : decode cX5_pair 22 = .ok (.getfield 33, 3) := by decide +kernel
theorem dX5_pair_25 : decode cX5_pair 25 = .ok (.istore 7, 2) := by decide +kernel
theorem dX5_pair_27 : decode cX5_pair 27 = .ok (.iload 7, 2) := by decide +kernel
theorem dX5_pair_29 : decode cX5_pair 29 = .ok (.aload_n 0, 1) := by decide +kernel
theorem dX5_pair_30 : decode cX5_pair 30 = .ok (.getfield 29, 3) := by decide +kernel
theorem dX5_pair_33 : decode cX5_pair 33 = .ok (.getfield 38, 3) := by decide +kernel
theorem dX5_pair_36 : decode cX5_pair 36 = .ok (.if_icmp .gt 36, 3) := by decide +kernel
theorem dX5_pair_39 : decode cX5_pair 39 = .ok (.aload_n 0, 1) := by decide +kernel
theorem dX5_pair_40 : decode cX5_pair 40 = .ok (.getfield 29, 3) := by decide +kernel
theorem dX5_pair_43 : decode cX5_pair 43 = .ok (.lload_n 1, 1) := by decide +kernel
theorem dX5_pair_44 : decode cX5_pair 44 = .ok (.iload 7, 2) := by decide +kernel
theorem dX5_pair_46 : decode cX5_pair 46 = .ok (.invokevirtual 41, 3) := by decide +kernel
theorem dX5_pair_49 : decode cX5_pair 49 = .ok (.ifCond .eq 17, 3) := by decide +kernel
theorem dX5_pair_52 : decode cX5_pair 52 = .ok (.iload 6, 2) := by decide +kernel
theorem dX5_pair_54 : decode cX5_pair 54 = .ok (.aload_n 0, 1) := by decide +kernel
theorem dX5_pair_55 : decode cX5_pair 55 = .ok (.iload 7, 2) := by decide +kernel
theorem dX5_pair_57 : decode cX5_pair 57 = .ok (.lload_n 3, 1) := by decide +kernel
theorem dX5_pair_58 : decode cX5_pair 58 = .ok (.iload 5, 2) := by decide +kernel
theorem dX5_pair_60 : decode cX5_pair 60 = .ok (.invokevirtual 45, 3) := by decide +kernel
theorem dX5_pair_63 : decode cX5_pair 63 = .ok (.iadd, 1) := by decide +kernel
theorem dX5_pair_64 : decode cX5_pair 64 = .ok (.istore 6, 2) := by decide +kernel
theorem dX5_pair_66 : decode cX5_pair 66 = .ok (.iinc 7 1, 3) := by decide +kernel
theorem dX5_pair_69 : decode cX5_pair 69 = .ok (.goto (-42), 3) := by decide +kernel
theorem dX5_pair_72 : decode cX5_pair 72 = .ok (.iload 6, 2) := by decide +kernel
theorem dX5_pair_74 : decode cX5_pair 74 = .ok (.ireturn, 1) := by decide +kernel
theorem dX5_newWith_0 : decode cX5_newWith 0 = .ok (.iconst 0, 1) := by decide +kernel
theorem dX5_newWith_1 : decode cX5_newWith 1 = .ok (.istore 5, 2) := by decide +kernel
theorem dX5_newWith_3 : decode cX5_newWith 3 = .ok (.aload_n 0, 1) := by decide +kernel
theorem dX5_newWith_4 : decode cX5_newWith 4 = .ok (.getfield 29, 3) := by decide +kernel
theorem dX5_newWith_7 : decode cX5_newWith 7 = .ok (.getfield 33, 3) := by decide +kernel
theorem dX5_newWith_10 : decode cX5_newWith 10 = .ok (.istore 6, 2) := by decide +kernel
theorem dX5_newWith_12 : decode cX5_newWith 12 = .ok (.iload 6, 2) := by decide +kernel
theorem dX5_newWith_14 : decode cX5_newWith 14 = .ok (.aload_n 0, 1) := by decide +kernel
theorem dX5_newWith_15 : decode cX5_newWith 15 = .ok (.getfield 29, 3) := by decide +kernel
theorem dX5_newWith_18 : decode cX5_newWith 18 = .ok (.getfield 38, 3) := by decide +kernel
theorem dX5_newWith_21 : decode cX5_newWith 21 = .ok (.if_icmp .gt 41, 3) := by decide +kernel
theorem dX5_newWith_24 : decode cX5_newWith 24 = .ok (.aload_n 0, 1) := by decide +kernel
theorem dX5_newWith_25 : decode cX5_newWith 25 = .ok (.getfield 29, 3) := by decide +kernel
theorem dX5_newWith_28 : decode cX5_newWith 28 = .ok (.lload_n 2, 1) := by decide +kernel
theorem dX5_newWith_29 : decode cX5_newWith 29 = .ok (.iload 6, 2) := by decide +kernel
theorem dX5_newWith_31 : decode cX5_newWith 31 = .ok (.invokevirtual 41, 3) := by decide +kernel
theorem dX5_newWith_34 : decode cX5_newWith 34 = .ok (.ifCond .eq 22, 3) := by decide +kernel
theorem dX5_newWith_37 : decode cX5_newWith 37 = .ok (.aload_n 0, 1) := by decide +kernel
theorem dX5_newWith_38 : decode cX5_newWith 38 = .ok (.aload_n 0, 1) := by decide +kernel
theorem dX5_newWith_39 : decode cX5_newWith 39 = .ok (.iload_n 1, 1) := by decide +kernel
theorem dX5_newWith_40 : decode cX5_newWith 40 = .ok (.iload 6, 2) := by decide +kernel
theorem dX5_newWith_42 : decode cX5_newWith 42 = .ok (.iload 4, 2) := by decide +kernel
theorem dX5_newWith_44 : decode cX5_newWith 44 = .ok (.invokevirtual 49, 3) := by decide +kernel
theorem dX5_newWith_47 : decode cX5_newWith 47 = .ok (.invokevirtual 53, 3) := by decide +kernel
theorem dX5_newWith_50 : decode cX5_newWith 50 = .ok (.ifCond .eq 6, 3) := by decide +kernel
theorem dX5_newWith_53 : decode cX5_newWith 53 = .ok (.iinc 5 1, 3) := by decide +kernel
theorem dX5_newWith_56 : decode cX5_newWith 56 = .ok (.iinc 6 1, 3) := by decide +kernel
theorem dX5_newWith_59 : decode cX5_newWith 59 = .ok (.goto (-47), 3) := by decide +kernel
theorem dX5_newWith_62 : decode cX5_newWith 62 = .ok (.iload 5, 2) := by decide +kernel
theorem dX5_newWith_64 : decode cX5_newWith 64 = .ok (.ireturn, 1) := by decide +kernel
theorem dX5_reckon_0 : decode cX5_reckon 0 = .ok (.iload_n 3, 1) := by decide +kernel
theorem dX5_reckon_1 : decode cX5_reckon 1 = .ok (.lookupswitch 51 #[(0, 27), (1, 39)], 27) := by decide +kernel
theorem dX5_reckon_28 : decode cX5_reckon 28 = .ok (.aload_n 0, 1) := by decide +kernel
theorem dX5_reckon_29 : decode cX5_reckon 29 = .ok (.getfield 29, 3) := by decide +kernel
theorem dX5_reckon_32 : decode cX5_reckon 32 = .ok (.iconst 1, 1) := by decide +kernel
theorem dX5_reckon_33 : decode cX5_reckon 33 = .ok (.iload_n 1, 1) := by decide +kernel
theorem dX5_reckon_34 : decode cX5_reckon 34 = .ok (.iconst 1, 1) := by decide +kernel
theorem dX5_reckon_35 : decode cX5_reckon 35 = .ok (.iload_n 2, 1) := by decide +kernel
theorem dX5_reckon_36 : decode cX5_reckon 36 = .ok (.invokevirtual 57, 3) := by decide +kernel
theorem dX5_reckon_39 : decode cX5_reckon 39 = .ok (.ireturn, 1) := by decide +kernel
theorem dX5_reckon_40 : decode cX5_reckon 40 = .ok (.aload_n 0, 1) := by decide +kernel
theorem dX5_reckon_41 : decode cX5_reckon 41 = .ok (.getfield 29, 3) := by decide +kernel
theorem dX5_reckon_44 : decode cX5_reckon 44 = .ok (.iconst 1, 1) := by decide +kernel
theorem dX5_reckon_45 : decode cX5_reckon 45 = .ok (.iload_n 1, 1) := by decide +kernel
theorem dX5_reckon_46 : decode cX5_reckon 46 = .ok (.iconst (-1), 1) := by decide +kernel
theorem dX5_reckon_47 : decode cX5_reckon 47 = .ok (.iload_n 2, 1) := by decide +kernel
theorem dX5_reckon_48 : decode cX5_reckon 48 = .ok (.invokevirtual 57, 3) := by decide +kernel
theorem dX5_reckon_51 : decode cX5_reckon 51 = .ok (.ireturn, 1) := by decide +kernel
theorem dX5_reckon_52 : decode cX5_reckon 52 = .ok (.aload_n 0, 1) := by decide +kernel
theorem dX5_reckon_53 : decode cX5_reckon 53 = .ok (.getfield 29, 3) := by decide +kernel
theorem dX5_reckon_56 : decode cX5_reckon 56 = .ok (.iload_n 1, 1) := by decide +kernel
theorem dX5_reckon_57 : decode cX5_reckon 57 = .ok (.iload_n 2, 1) := by decide +kernel
theorem dX5_reckon_58 : decode cX5_reckon 58 = .ok (.invokevirtual 61, 3) := by decide +kernel
theorem dX5_reckon_61 : decode cX5_reckon 61 = .ok (.ireturn, 1) := by decide +kernel
theorem dX5_isNew_0 : decode cX5_isNew 0 = .ok (.bipush 60, 2) := by decide +kernel
theorem dX5_isNew_2 : decode cX5_isNew 2 = .ok (.iload_n 1, 1) := by decide +kernel
theorem dX5_isNew_3 : decode cX5_isNew 3 = .ok (.iadd, 1) := by decide +kernel
theorem dX5_isNew_4 : decode cX5_isNew 4 = .ok (.istore_n 2, 1) := by decide +kernel
theorem dX5_isNew_5 : decode cX5_isNew 5 = .ok (.iload_n 2, 1) := by decide +kernel
theorem dX5_isNew_6 : decode cX5_isNew 6 = .ok (.ifCond .lt 25, 3) := by decide +kernel
theorem dX5_isNew_9 : decode cX5_isNew 9 = .ok (.iload_n 2, 1) := by decide +kernel
theorem dX5_isNew_10 : decode cX5_isNew 10 = .ok (.aload_n 0, 1) := by decide +kernel
theorem dX5_isNew_11 : decode cX5_isNew 11 = .ok (.getfield 9, 3) := by decide +kernel
theorem dX5_isNew_14 : decode cX5_isNew 14 = .ok (.arraylength, 1) := by decide +kernel
theorem dX5_isNew_15 : decode cX5_isNew 15 = .ok (.if_icmp .ge 16, 3) := by decide +kernel
theorem dX5_isNew_18 : decode cX5_isNew 18 = .ok (.aload_n 0, 1) := by decide +kernel
theorem dX5_isNew_19 : decode cX5_isNew 19 = .ok (.getfield 9, 3) := by decide +kernel
theorem dX5_isNew_22 : decode cX5_isNew 22 = .ok (.iload_n 2, 1) := by decide +kernel
theorem dX5_isNew_23 : decode cX5_isNew 23 = .ok (.iaload, 1) := by decide +kernel
theorem dX5_isNew_24 : decode cX5_isNew 24 = .ok (.aload_n 0, 1) := by decide +kernel
theorem dX5_isNew_25 : decode cX5_isNew 25 = .ok (.getfield 15, 3) := by decide +kernel
theorem dX5_isNew_28 : decode cX5_isNew 28 = .ok (.if_icmp .ne 5, 3) := by decide +kernel
theorem dX5_isNew_31 : decode cX5_isNew 31 = .ok (.iconst 0, 1) := by decide +kernel
theorem dX5_isNew_32 : decode cX5_isNew 32 = .ok (.ireturn, 1) := by decide +kernel
theorem dX5_isNew_33 : decode cX5_isNew 33 = .ok (.aload_n 0, 1) := by decide +kernel
theorem dX5_isNew_34 : decode cX5_isNew 34 = .ok (.getfield 9, 3) := by decide +kernel
theorem dX5_isNew_37 : decode cX5_isNew 37 = .ok (.iload_n 2, 1) := by decide +kernel
theorem dX5_isNew_38 : decode cX5_isNew 38 = .ok (.aload_n 0, 1) := by decide +kernel
theorem dX5_isNew_39 : decode cX5_isNew 39 = .ok (.getfield 15, 3) := by decide +kernel
theorem dX5_isNew_42 : decode cX5_isNew 42 = .ok (.iastore, 1) := by decide +kernel
theorem dX5_isNew_43 : decode cX5_isNew 43 = .ok (.aload_n 0, 1) := by decide +kernel
theorem dX5_isNew_44 : decode cX5_isNew 44 = .ok (.getfield 29, 3) := by decide +kernel
theorem dX5_isNew_47 : decode cX5_isNew 47 = .ok (.iload_n 1, 1) := by decide +kernel
theorem dX5_isNew_48 : decode cX5_isNew 48 = .ok (.i2l, 1) := by decide +kernel
theorem dX5_isNew_49 : decode cX5_isNew 49 = .ok (.invokevirtual 65, 3) := by decide +kernel
theorem dX5_isNew_52 : decode cX5_isNew 52 = .ok (.ifCond .eq 15, 3) := by decide +kernel
theorem dX5_isNew_55 : decode cX5_isNew 55 = .ok (.aload_n 0, 1) := by decide +kernel
theorem dX5_isNew_56 : decode cX5_isNew 56 = .ok (.dup, 1) := by decide +kernel
theorem dX5_isNew_57 : decode cX5_isNew 57 = .ok (.getfield 19, 3) := by decide +kernel
theorem dX5_isNew_60 : decode cX5_isNew 60 = .ok (.lconst 1, 1) := by decide +kernel
theorem dX5_isNew_61 : decode cX5_isNew 61 = .ok (.iload_n 1, 1) := by decide +kernel
theorem dX5_isNew_62 : decode cX5_isNew 62 = .ok (.lshl, 1) := by decide +kernel
theorem dX5_isNew_63 : decode cX5_isNew 63 = .ok (.lor, 1) := by decide +kernel
theorem dX5_isNew_64 : decode cX5_isNew 64 = .ok (.putfield 19, 3) := by decide +kernel
theorem dX5_isNew_67 : decode cX5_isNew 67 = .ok (.iconst 1, 1) := by decide +kernel
theorem dX5_isNew_68 : decode cX5_isNew 68 = .ok (.ireturn, 1) := by decide +kernel
theorem dX5_equalSums_0 : decode cX5_equalSums 0 = .ok (.aload_n 0, 1) := by decide +kernel
theorem dX5_equalSums_1 : decode cX5_equalSums 1 = .ok (.getfield 23, 3) := by decide +kernel
theorem dX5_equalSums_4 : decode cX5_equalSums 4 = .ok (.iconst 0, 1) := by decide +kernel
theorem dX5_equalSums_5 : decode cX5_equalSums 5 = .ok (.invokestatic 69, 3) := by decide +kernel
theorem dX5_equalSums_8 : decode cX5_equalSums 8 = .ok (.aload_n 0, 1) := by decide +kernel
theorem dX5_equalSums_9 : decode cX5_equalSums 9 = .ok (.getfield 29, 3) := by decide +kernel
theorem dX5_equalSums_12 : decode cX5_equalSums 12 = .ok (.getfield 33, 3) := by decide +kernel
theorem dX5_equalSums_15 : decode cX5_equalSums 15 = .ok (.istore_n 3, 1) := by decide +kernel
theorem dX5_equalSums_16 : decode cX5_equalSums 16 = .ok (.iload_n 3, 1) := by decide +kernel
theorem dX5_equalSums_17 : decode cX5_equalSums 17 = .ok (.aload_n 0, 1) := by decide +kernel
theorem dX5_equalSums_18 : decode cX5_equalSums 18 = .ok (.getfield 29, 3) := by decide +kernel
theorem dX5_equalSums_21 : decode cX5_equalSums 21 = .ok (.getfield 38, 3) := by decide +kernel
theorem dX5_equalSums_24 : decode cX5_equalSums 24 = .ok (.if_icmp .gt 27, 3) := by decide +kernel
theorem dX5_equalSums_27 : decode cX5_equalSums 27 = .ok (.aload_n 0, 1) := by decide +kernel
theorem dX5_equalSums_28 : decode cX5_equalSums 28 = .ok (.getfield 29, 3) := by decide +kernel
theorem dX5_equalSums_31 : decode cX5_equalSums 31 = .ok (.lload_n 1, 1) := by decide +kernel
theorem dX5_equalSums_32 : decode cX5_equalSums 32 = .ok (.iload_n 3, 1) := by decide +kernel
theorem dX5_equalSums_33 : decode cX5_equalSums 33 = .ok (.invokevirtual 41, 3) := by decide +kernel
theorem dX5_equalSums_36 : decode cX5_equalSums 36 = .ok (.ifCond .eq 9, 3) := by decide +kernel
theorem dX5_equalSums_39 : decode cX5_equalSums 39 = .ok (.aload_n 0, 1) := by decide +kernel
theorem dX5_equalSums_40 : decode cX5_equalSums 40 = .ok (.iload_n 3, 1) := by decide +kernel
theorem dX5_equalSums_41 : decode cX5_equalSums 41 = .ok (.lload_n 1, 1) := by decide +kernel
theorem dX5_equalSums_42 : decode cX5_equalSums 42 = .ok (.invokevirtual 75, 3) := by decide +kernel
theorem dX5_equalSums_45 : decode cX5_equalSums 45 = .ok (.iinc 3 1, 3) := by decide +kernel
theorem dX5_equalSums_48 : decode cX5_equalSums 48 = .ok (.goto (-32), 3) := by decide +kernel
theorem dX5_equalSums_51 : decode cX5_equalSums 51 = .ok (.iconst 0, 1) := by decide +kernel
theorem dX5_equalSums_52 : decode cX5_equalSums 52 = .ok (.istore_n 3, 1) := by decide +kernel
theorem dX5_equalSums_53 : decode cX5_equalSums 53 = .ok (.iconst 0, 1) := by decide +kernel
theorem dX5_equalSums_54 : decode cX5_equalSums 54 = .ok (.istore 4, 2) := by decide +kernel
theorem dX5_equalSums_56 : decode cX5_equalSums 56 = .ok (.iload 4, 2) := by decide +kernel
theorem dX5_equalSums_58 : decode cX5_equalSums 58 = .ok (.bipush 120, 2) := by decide +kernel
theorem dX5_equalSums_60 : decode cX5_equalSums 60 = .ok (.if_icmp .gt 27, 3) := by decide +kernel
theorem dX5_equalSums_63 : decode cX5_equalSums 63 = .ok (.iload_n 3, 1) := by decide +kernel
theorem dX5_equalSums_64 : decode cX5_equalSums 64 = .ok (.aload_n 0, 1) := by decide +kernel
theorem dX5_equalSums_65 : decode cX5_equalSums 65 = .ok (.getfield 23, 3) := by decide +kernel
theorem dX5_equalSums_68 : decode cX5_equalSums 68 = .ok (.iload 4, 2) := by decide +kernel
theorem dX5_equalSums_70 : decode cX5_equalSums 70 = .ok (.iaload, 1) := by decide +kernel
theorem dX5_equalSums_71 : decode cX5_equalSums 71 = .ok (.aload_n 0, 1) := by decide +kernel
theorem dX5_equalSums_72 : decode cX5_equalSums 72 = .ok (.getfield 23, 3) := by decide +kernel
theorem dX5_equalSums_75 : decode cX5_equalSums 75 = .ok (.iload 4, 2) := by decide +kernel
theorem dX5_equalSums_77 : decode cX5_equalSums 77 = .ok (.iaload, 1) := by decide +kernel
theorem dX5_equalSums_78 : decode cX5_equalSums 78 = .ok (.imul, 1) := by decide +kernel
theorem dX5_equalSums_79 : decode cX5_equalSums 79 = .ok (.iadd, 1) := by decide +kernel
theorem dX5_equalSums_80 : decode cX5_equalSums 80 = .ok (.istore_n 3, 1) := by decide +kernel
theorem dX5_equalSums_81 : decode cX5_equalSums 81 = .ok (.iinc 4 1, 3) := by decide +kernel
theorem dX5_equalSums_84 : decode cX5_equalSums 84 = .ok (.goto (-28), 3) := by decide +kernel
theorem dX5_equalSums_87 : decode cX5_equalSums 87 = .ok (.iload_n 3, 1) := by decide +kernel
theorem dX5_equalSums_88 : decode cX5_equalSums 88 = .ok (.ireturn, 1) := by decide +kernel
theorem dX5_addWays_0 : decode cX5_addWays 0 = .ok (.aload_n 0, 1) := by decide +kernel
theorem dX5_addWays_1 : decode cX5_addWays 1 = .ok (.getfield 29, 3) := by decide +kernel
theorem dX5_addWays_4 : decode cX5_addWays 4 = .ok (.getfield 33, 3) := by decide +kernel
theorem dX5_addWays_7 : decode cX5_addWays 7 = .ok (.istore 4, 2) := by decide +kernel
theorem dX5_addWays_9 : decode cX5_addWays 9 = .ok (.iload 4, 2) := by decide +kernel
theorem dX5_addWays_11 : decode cX5_addWays 11 = .ok (.aload_n 0, 1) := by decide +kernel
theorem dX5_addWays_12 : decode cX5_addWays 12 = .ok (.getfield 29, 3) := by decide +kernel
theorem dX5_addWays_15 : decode cX5_addWays 15 = .ok (.getfield 38, 3) := by decide +kernel
theorem dX5_addWays_18 : decode cX5_addWays 18 = .ok (.if_icmp .gt 43, 3) := by decide +kernel
theorem dX5_addWays_21 : decode cX5_addWays 21 = .ok (.aload_n 0, 1) := by decide +kernel
theorem dX5_addWays_22 : decode cX5_addWays 22 = .ok (.getfield 29, 3) := by decide +kernel
theorem dX5_addWays_25 : decode cX5_addWays 25 = .ok (.lload_n 2, 1) := by decide +kernel
theorem dX5_addWays_26 : decode cX5_addWays 26 = .ok (.iload 4, 2) := by decide +kernel
theorem dX5_addWays_28 : decode cX5_addWays 28 = .ok (.invokevirtual 41, 3) := by decide +kernel
theorem dX5_addWays_31 : decode cX5_addWays 31 = .ok (.ifCond .eq 24, 3) := by decide +kernel
theorem dX5_addWays_34 : decode cX5_addWays 34 = .ok (.aload_n 0, 1) := by decide +kernel
theorem dX5_addWays_35 : decode cX5_addWays 35 = .ok (.getfield 23, 3) := by decide +kernel
theorem dX5_addWays_38 : decode cX5_addWays 38 = .ok (.aload_n 0, 1) := by decide +kernel
theorem dX5_addWays_39 : decode cX5_addWays 39 = .ok (.getfield 29, 3) := by decide +kernel
theorem dX5_addWays_42 : decode cX5_addWays 42 = .ok (.iconst 1, 1) := by decide +kernel
theorem dX5_addWays_43 : decode cX5_addWays 43 = .ok (.iload_n 1, 1) := by decide +kernel
theorem dX5_addWays_44 : decode cX5_addWays 44 = .ok (.iconst 1, 1) := by decide +kernel
theorem dX5_addWays_45 : decode cX5_addWays 45 = .ok (.iload 4, 2) := by decide +kernel
theorem dX5_addWays_47 : decode cX5_addWays 47 = .ok (.invokevirtual 57, 3) := by decide +kernel
theorem dX5_addWays_50 : decode cX5_addWays 50 = .ok (.dup2, 1) := by decide +kernel
theorem dX5_addWays_51 : decode cX5_addWays 51 = .ok (.iaload, 1) := by decide +kernel
theorem dX5_addWays_52 : decode cX5_addWays 52 = .ok (.iconst 1, 1) := by decide +kernel
theorem dX5_addWays_53 : decode cX5_addWays 53 = .ok (.iadd, 1) := by decide +kernel
theorem dX5_addWays_54 : decode cX5_addWays 54 = .ok (.iastore, 1) := by decide +kernel
theorem dX5_addWays_55 : decode cX5_addWays 55 = .ok (.iinc 4 1, 3) := by decide +kernel
theorem dX5_addWays_58 : decode cX5_addWays 58 = .ok (.goto (-49), 3) := by decide +kernel
theorem dX5_addWays_61 : decode cX5_addWays 61 = .ok (.return_, 1) := by decide +kernel
theorem dX5_mostSummands_0 : decode cX5_mostSummands 0 = .ok (.iconst 0, 1) := by decide +kernel
theorem dX5_mostSummands_1 : decode cX5_mostSummands 1 = .ok (.istore_n 3, 1) := by decide +kernel
theorem dX5_mostSummands_2 : decode cX5_mostSummands 2 = .ok (.aload_n 0, 1) := by decide +kernel
theorem dX5_mostSummands_3 : decode cX5_mostSummands 3 = .ok (.getfield 26, 3) := by decide +kernel
theorem dX5_mostSummands_6 : decode cX5_mostSummands 6 = .ok (.iconst 0, 1) := by decide +kernel
theorem dX5_mostSummands_7 : decode cX5_mostSummands 7 = .ok (.iconst 0, 1) := by decide +kernel
theorem dX5_mostSummands_8 : decode cX5_mostSummands 8 = .ok (.iastore, 1) := by decide +kernel
theorem dX5_mostSummands_9 : decode cX5_mostSummands 9 = .ok (.iconst 1, 1) := by decide +kernel
theorem dX5_mostSummands_10 : decode cX5_mostSummands 10 = .ok (.istore 4, 2) := by decide +kernel
theorem dX5_mostSummands_12 : decode cX5_mostSummands 12 = .ok (.iload 4, 2) := by decide +kernel
theorem dX5_mostSummands_14 : decode cX5_mostSummands 14 = .ok (.aload_n 0, 1) := by decide +kernel
theorem dX5_mostSummands_15 : decode cX5_mostSummands 15 = .ok (.getfield 29, 3) := by decide +kernel
theorem dX5_mostSummands_18 : decode cX5_mostSummands 18 = .ok (.getfield 79, 3) := by decide +kernel
theorem dX5_mostSummands_21 : decode cX5_mostSummands 21 = .ok (.if_icmp .gt 97, 3) := by decide +kernel
theorem dX5_mostSummands_24 : decode cX5_mostSummands 24 = .ok (.aload_n 0, 1) := by decide +kernel
theorem dX5_mostSummands_25 : decode cX5_mostSummands 25 = .ok (.getfield 26, 3) := by decide +kernel
theorem dX5_mostSummands_28 : decode cX5_mostSummands 28 = .ok (.iload 4, 2) := by decide +kernel
theorem dX5_mostSummands_30 : decode cX5_mostSummands 30 = .ok (.aload_n 0, 1) := by decide +kernel
theorem dX5_mostSummands_31 : decode cX5_mostSummands 31 = .ok (.getfield 26, 3) := by decide +kernel
theorem dX5_mostSummands_34 : decode cX5_mostSummands 34 = .ok (.iload 4, 2) := by decide +kernel
theorem dX5_mostSummands_36 : decode cX5_mostSummands 36 = .ok (.iconst 1, 1) := by decide +kernel
theorem dX5_mostSummands_37 : decode cX5_mostSummands 37 = .ok (.isub, 1) := by decide +kernel
theorem dX5_mostSummands_38 : decode cX5_mostSummands 38 = .ok (.iaload, 1) := by decide +kernel
theorem dX5_mostSummands_39 : decode cX5_mostSummands 39 = .ok (.iconst 1, 1) := by decide +kernel
theorem dX5_mostSummands_40 : decode cX5_mostSummands 40 = .ok (.iadd, 1) := by decide +kernel
theorem dX5_mostSummands_41 : decode cX5_mostSummands 41 = .ok (.iastore, 1) := by decide +kernel
theorem dX5_mostSummands_42 : decode cX5_mostSummands 42 = .ok (.iconst 2, 1) := by decide +kernel
theorem dX5_mostSummands_43 : decode cX5_mostSummands 43 = .ok (.istore 5, 2) := by decide +kernel
theorem dX5_mostSummands_45 : decode cX5_mostSummands 45 = .ok (.iload 5, 2) := by decide +kernel
theorem dX5_mostSummands_47 : decode cX5_mostSummands 47 = .ok (.iload 4, 2) := by decide +kernel
theorem dX5_mostSummands_49 : decode cX5_mostSummands 49 = .ok (.if_icmp .gt 51, 3) := by decide +kernel
theorem dX5_mostSummands_52 : decode cX5_mostSummands 52 = .ok (.aload_n 0, 1) := by decide +kernel
theorem dX5_mostSummands_53 : decode cX5_mostSummands 53 = .ok (.getfield 29, 3) := by decide +kernel
theorem dX5_mostSummands_56 : decode cX5_mostSummands 56 = .ok (.lload_n 1, 1) := by decide +kernel
theorem dX5_mostSummands_57 : decode cX5_mostSummands 57 = .ok (.iload 5, 2) := by decide +kernel
theorem dX5_mostSummands_59 : decode cX5_mostSummands 59 = .ok (.invokevirtual 41, 3) := by decide +kernel
theorem dX5_mostSummands_62 : decode cX5_mostSummands 62 = .ok (.ifCond .eq 32, 3) := by decide +kernel
theorem dX5_mostSummands_65 : decode cX5_mostSummands 65 = .ok (.aload_n 0, 1) := by decide +kernel
theorem dX5_mostSummands_66 : decode cX5_mostSummands 66 = .ok (.getfield 26, 3) := by decide +kernel
theorem dX5_mostSummands_69 : decode cX5_mostSummands 69 = .ok (.iload 4, 2) := by decide +kernel
theorem dX5_mostSummands_71 : decode cX5_mostSummands 71 = .ok (.aload_n 0, 1) := by decide +kernel
theorem dX5_mostSummands_72 : decode cX5_mostSummands 72 = .ok (.getfield 26, 3) := by decide +kernel
theorem dX5_mostSummands_75 : decode cX5_mostSummands 75 = .ok (.iload 4, 2) := by decide +kernel
theorem dX5_mostSummands_77 : decode cX5_mostSummands 77 = .ok (.iaload, 1) := by decide +kernel
theorem dX5_mostSummands_78 : decode cX5_mostSummands 78 = .ok (.aload_n 0, 1) := by decide +kernel
theorem dX5_mostSummands_79 : decode cX5_mostSummands 79 = .ok (.getfield 26, 3) := by decide +kernel
theorem dX5_mostSummands_82 : decode cX5_mostSummands 82 = .ok (.iload 4, 2) := by decide +kernel
theorem dX5_mostSummands_84 : decode cX5_mostSummands 84 = .ok (.iload 5, 2) := by decide +kernel
theorem dX5_mostSummands_86 : decode cX5_mostSummands 86 = .ok (.isub, 1) := by decide +kernel
theorem dX5_mostSummands_87 : decode cX5_mostSummands 87 = .ok (.iaload, 1) := by decide +kernel
theorem dX5_mostSummands_88 : decode cX5_mostSummands 88 = .ok (.iconst 1, 1) := by decide +kernel
theorem dX5_mostSummands_89 : decode cX5_mostSummands 89 = .ok (.iadd, 1) := by decide +kernel
theorem dX5_mostSummands_90 : decode cX5_mostSummands 90 = .ok (.invokestatic 82, 3) := by decide +kernel
theorem dX5_mostSummands_93 : decode cX5_mostSummands 93 = .ok (.iastore, 1) := by decide +kernel
theorem dX5_mostSummands_94 : decode cX5_mostSummands 94 = .ok (.iinc 5 1, 3) := by decide +kernel
theorem dX5_mostSummands_97 : decode cX5_mostSummands 97 = .ok (.goto (-52), 3) := by decide +kernel
theorem dX5_mostSummands_100 : decode cX5_mostSummands 100 = .ok (.iload_n 3, 1) := by decide +kernel
theorem dX5_mostSummands_101 : decode cX5_mostSummands 101 = .ok (.aload_n 0, 1) := by decide +kernel
theorem dX5_mostSummands_102 : decode cX5_mostSummands 102 = .ok (.getfield 26, 3) := by decide +kernel
theorem dX5_mostSummands_105 : decode cX5_mostSummands 105 = .ok (.iload 4, 2) := by decide +kernel
theorem dX5_mostSummands_107 : decode cX5_mostSummands 107 = .ok (.iaload, 1) := by decide +kernel
theorem dX5_mostSummands_108 : decode cX5_mostSummands 108 = .ok (.invokestatic 87, 3) := by decide +kernel
theorem dX5_mostSummands_111 : decode cX5_mostSummands 111 = .ok (.istore_n 3, 1) := by decide +kernel
theorem dX5_mostSummands_112 : decode cX5_mostSummands 112 = .ok (.iinc 4 1, 3) := by decide +kernel
theorem dX5_mostSummands_115 : decode cX5_mostSummands 115 = .ok (.goto (-103), 3) := by decide +kernel
theorem dX5_mostSummands_118 : decode cX5_mostSummands 118 = .ok (.iload_n 3, 1) := by decide +kernel
theorem dX5_mostSummands_119 : decode cX5_mostSummands 119 = .ok (.ireturn, 1) := by decide +kernel
theorem dX6_init_0 : decode cX6_init 0 = .ok (.aload_n 0, 1) := by decide +kernel
theorem dX6_init_1 : decode cX6_init 1 = .ok (.invokespecial 3, 3) := by decide +kernel
theorem dX6_init_4 : decode cX6_init 4 = .ok (.aload_n 0, 1) := by decide +kernel
theorem dX6_init_5 : decode cX6_init 5 = .ok (.bipush 62, 2) := by decide +kernel
theorem dX6_init_7 : decode cX6_init 7 = .ok (.newarray .long, 2) := by decide +kernel
theorem dX6_init_9 : decode cX6_init 9 = .ok (.putfield 9, 3) := by decide +kernel
theorem dX6_init_12 : decode cX6_init 12 = .ok (.aload_n 0, 1) := by decide +kernel
theorem dX6_init_13 : decode cX6_init 13 = .ok (.bipush 62, 2) := by decide +kernel
theorem dX6_init_15 : decode cX6_init 15 = .ok (.newarray .int, 2) := by decide +kernel
theorem dX6_init_17 : decode cX6_init 17 = .ok (.putfield 15, 3) := by decide +kernel
theorem dX6_init_20 : decode cX6_init 20 = .ok (.aload_n 0, 1) := by decide +kernel
theorem dX6_init_21 : decode cX6_init 21 = .ok (.iconst 0, 1) := by decide +kernel
theorem dX6_init_22 : decode cX6_init 22 = .ok (.putfield 19, 3) := by decide +kernel
theorem dX6_init_25 : decode cX6_init 25 = .ok (.aload_n 0, 1) := by decide +kernel
theorem dX6_init_26 : decode cX6_init 26 = .ok (.iconst 2, 1) := by decide +kernel
theorem dX6_init_27 : decode cX6_init 27 = .ok (.putfield 23, 3) := by decide +kernel
theorem dX6_init_30 : decode cX6_init 30 = .ok (.aload_n 0, 1) := by decide +kernel
theorem dX6_init_31 : decode cX6_init 31 = .ok (.iconst 0, 1) := by decide +kernel
theorem dX6_init_32 : decode cX6_init 32 = .ok (.putfield 26, 3) := by decide +kernel
theorem dX6_init_35 : decode cX6_init 35 = .ok (.aload_n 0, 1) := by decide +kernel
theorem dX6_init_36 : decode cX6_init 36 = .ok (.lconst 0, 1) := by decide +kernel
theorem dX6_init_37 : decode cX6_init 37 = .ok (.putfield 29, 3) := by decide +kernel
theorem dX6_init_40 : decode cX6_init 40 = .ok (.aload_n 0, 1) := by decide +kernel
theorem dX6_init_41 : decode cX6_init 41 = .ok (.iconst (-1), 1) := by decide +kernel
theorem dX6_init_42 : decode cX6_init 42 = .ok (.putfield 33, 3) := by decide +kernel
theorem dX6_init_45 : decode cX6_init 45 = .ok (.aload_n 0, 1) := by decide +kernel
theorem dX6_init_46 : decode cX6_init 46 = .ok (.iconst 0, 1) := by decide +kernel
theorem dX6_init_47 : decode cX6_init 47 = .ok (.putfield 36, 3) := by decide +kernel
theorem dX6_init_50 : decode cX6_init 50 = .ok (.aload_n 0, 1) := by decide +kernel
theorem dX6_init_51 : decode cX6_init 51 = .ok (.iconst 0, 1) := by decide +kernel
theorem dX6_init_52 : decode cX6_init 52 = .ok (.putfield 39, 3) := by decide +kernel
theorem dX6_init_55 : decode cX6_init 55 = .ok (.aload_n 0, 1) := by decide +kernel
theorem dX6_init_56 : decode cX6_init 56 = .ok (.iconst 0, 1) := by decide +kernel
theorem dX6_init_57 : decode cX6_init 57 = .ok (.putfield 42, 3) := by decide +kernel
theorem dX6_init_60 : decode cX6_init 60 = .ok (.aload_n 0, 1) := by decide +kernel
theorem dX6_init_61 : decode cX6_init 61 = .ok (.iconst 0, 1) := by decide +kernel
theorem dX6_init_62 : decode cX6_init 62 = .ok (.putfield 46, 3) := by decide +kernel
theorem dX6_init_65 : decode cX6_init 65 = .ok (.aload_n 0, 1) := by decide +kernel
theorem dX6_init_66 : decode cX6_init 66 = .ok (.aload_n 1, 1) := by decide +kernel
theorem dX6_init_67 : decode cX6_init 67 = .ok (.putfield 49, 3) := by decide +kernel
theorem dX6_init_70 : decode cX6_init 70 = .ok (.aload_n 0, 1) := by decide +kernel
theorem dX6_init_71 : decode cX6_init 71 = .ok (.aload_n 2, 1) := by decide +kernel
theorem dX6_init_72 : decode cX6_init 72 = .ok (.putfield 53, 3) := by decide +kernel
theorem dX6_init_75 : decode cX6_init 75 = .ok (.aload_n 0, 1) := by decide +kernel
theorem dX6_init_76 : decode cX6_init 76 = .ok (.aload_n 3, 1) := by decide +kernel
theorem dX6_init_77 : decode cX6_init 77 = .ok (.putfield 57, 3) := by decide +kernel
theorem dX6_init_80 : decode cX6_init 80 = .ok (.return_, 1) := by decide +kernel
theorem dX6_walk_0 : decode cX6_walk 0 = .ok (.aload_n 0, 1) := by decide +kernel
theorem dX6_walk_1 : decode cX6_walk 1 = .ok (.getfield 53, 3) := by decide +kernel
theorem dX6_walk_4 : decode cX6_walk 4 = .ok (.invokevirtual 61, 3) := by decide +kernel
theorem dX6_walk_7 : decode cX6_walk 7 = .ok (.aload_n 0, 1) := by decide +kernel
theorem dX6_walk_8 : decode cX6_walk 8 = .ok (.iload_n 1, 1) := by decide +kernel
theorem dX6_walk_9 : decode cX6_walk 9 = .ok (.putfield 23, 3) := by decide +kernel
theorem dX6_walk_12 : decode cX6_walk 12 = .ok (.aload_n 0, 1) := by decide +kernel
theorem dX6_walk_13 : decode cX6_walk 13 = .ok (.iload_n 2, 1) := by decide +kernel
theorem dX6_walk_14 : decode cX6_walk 14 = .ok (.putfield 26, 3) := by decide +kernel
theorem dX6_walk_17 : decode cX6_walk 17 = .ok (.aload_n 0, 1) := by decide +kernel
theorem dX6_walk_18 : decode cX6_walk 18 = .ok (.iconst (-1), 1) := by decide +kernel
theorem dX6_walk_19 : decode cX6_walk 19 = .ok (.putfield 33, 3) := by decide +kernel
theorem dX6_walk_22 : decode cX6_walk 22 = .ok (.aload_n 0, 1) := by decide +kernel
theorem dX6_walk_23 : decode cX6_walk 23 = .ok (.iconst 0, 1) := by decide +kernel
theorem dX6_walk_24 : decode cX6_walk 24 = .ok (.putfield 36, 3) := by decide +kernel
theorem dX6_walk_27 : decode cX6_walk 27 = .ok (.aload_n 0, 1) := by decide +kernel
theorem dX6_walk_28 : decode cX6_walk 28 = .ok (.iconst 0, 1) := by decide +kernel
theorem dX6_walk_29 : decode cX6_walk 29 = .ok (.putfield 46, 3) := by decide +kernel
theorem dX6_walk_32 : decode cX6_walk 32 = .ok (.aload_n 0, 1) := by decide +kernel
theorem dX6_walk_33 : decode cX6_walk 33 = .ok (.iconst 0, 1) := by decide +kernel
theorem dX6_walk_34 : decode cX6_walk 34 = .ok (.putfield 19, 3) := by decide +kernel
theorem dX6_walk_37 : decode cX6_walk 37 = .ok (.aload_n 0, 1) := by decide +kernel
theorem dX6_walk_38 : decode cX6_walk 38 = .ok (.lconst 0, 1) := by decide +kernel
theorem dX6_walk_39 : decode cX6_walk 39 = .ok (.aload_n 0, 1) := by decide +kernel
theorem dX6_walk_40 : decode cX6_walk 40 = .ok (.getfield 49, 3) := by decide +kernel
theorem dX6_walk_43 : decode cX6_walk 43 = .ok (.getfield 66, 3) := by decide +kernel
theorem dX6_walk_46 : decode cX6_walk 46 = .ok (.invokevirtual 71, 3) := by decide +kernel
theorem dX6_walk_49 : decode cX6_walk 49 = .ok (.aload_n 0, 1) := by decide +kernel
theorem dX6_walk_50 : decode cX6_walk 50 = .ok (.iconst 0, 1) := by decide +kernel
theorem dX6_walk_51 : decode cX6_walk 51 = .ok (.putfield 39, 3) := by decide +kernel
theorem dX6_walk_54 : decode cX6_walk 54 = .ok (.aload_n 0, 1) := by decide +kernel
theorem dX6_walk_55 : decode cX6_walk 55 = .ok (.getfield 39, 3) := by decide +kernel
theorem dX6_walk_58 : decode cX6_walk 58 = .ok (.iload_n 3, 1) := by decide +kernel
theorem dX6_walk_59 : decode cX6_walk 59 = .ok (.if_icmp .ge 55, 3) := by decide +kernel
theorem dX6_walk_62 : decode cX6_walk 62 = .ok (.aload_n 0, 1) := by decide +kernel
theorem dX6_walk_63 : decode cX6_walk 63 = .ok (.getfield 19, 3) := by decide +kernel
theorem dX6_walk_66 : decode cX6_walk 66 = .ok (.ifCond .le 48, 3) := by decide +kernel
theorem dX6_walk_69 : decode cX6_walk 69 = .ok (.aload_n 0, 1) := by decide +kernel
theorem dX6_walk_70 : decode cX6_walk 70 = .ok (.dup, 1) := by decide +kernel
theorem dX6_walk_71 : decode cX6_walk 71 = .ok (.getfield 19, 3) := by decide +kernel
theorem dX6_walk_74 : decode cX6_walk 74 = .ok (.iconst 1, 1) := by decide +kernel
theorem dX6_walk_75 : decode cX6_walk 75 = .ok (.isub, 1) := by decide +kernel
theorem dX6_walk_76 : decode cX6_walk 76 = .ok (.putfield 19, 3) := by decide +kernel
theorem dX6_walk_79 : decode cX6_walk 79 = .ok (.aload_n 0, 1) := by decide +kernel
theorem dX6_walk_80 : decode cX6_walk 80 = .ok (.aload_n 0, 1) := by decide +kernel
theorem dX6_walk_81 : decode cX6_walk 81 = .ok (.getfield 9, 3) := by decide +kernel
theorem dX6_walk_84 : decode cX6_walk 84 = .ok (.aload_n 0, 1) := by decide +kernel
theorem dX6_walk_85 : decode cX6_walk 85 = .ok (.getfield 19, 3) := by decide +kernel
theorem dX6_walk_88 : decode cX6_walk 88 = .ok (.laload, 1) := by decide +kernel
theorem dX6_walk_89 : decode cX6_walk 89 = .ok (.aload_n 0, 1) := by decide +kernel
theorem dX6_walk_90 : decode cX6_walk 90 = .ok (.getfield 15, 3) := by decide +kernel
theorem dX6_walk_93 : decode cX6_walk 93 = .ok (.aload_n 0, 1) := by decide +kernel
theorem dX6_walk_94 : decode cX6_walk 94 = .ok (.getfield 19, 3) := by decide +kernel
theorem dX6_walk_97 : decode cX6_walk 97 = .ok (.iaload, 1) := by decide +kernel
theorem dX6_walk_98 : decode cX6_walk 98 = .ok (.invokevirtual 75, 3) := by decide +kernel
theorem dX6_walk_101 : decode cX6_walk 101 = .ok (.aload_n 0, 1) := by decide +kernel
theorem dX6_walk_102 : decode cX6_walk 102 = .ok (.dup, 1) := by decide +kernel
theorem dX6_walk_103 : decode cX6_walk 103 = .ok (.getfield 39, 3) := by decide +kernel
theorem dX6_walk_106 : decode cX6_walk 106 = .ok (.iconst 1, 1) := by decide +kernel
theorem dX6_walk_107 : decode cX6_walk 107 = .ok (.iadd, 1) := by decide +kernel
theorem dX6_walk_108 : decode cX6_walk 108 = .ok (.putfield 39, 3) := by decide +kernel
theorem dX6_walk_111 : decode cX6_walk 111 = .ok (.goto (-57), 3) := by decide +kernel
theorem dX6_walk_114 : decode cX6_walk 114 = .ok (.aload_n 0, 1) := by decide +kernel
theorem dX6_walk_115 : decode cX6_walk 115 = .ok (.aload_n 0, 1) := by decide +kernel
theorem dX6_walk_116 : decode cX6_walk 116 = .ok (.getfield 19, 3) := by decide +kernel
theorem dX6_walk_119 : decode cX6_walk 119 = .ok (.ifCond .le 7, 3) := by decide +kernel
theorem dX6_walk_122 : decode cX6_walk 122 = .ok (.iconst 1, 1) := by decide +kernel
theorem dX6_walk_123 : decode cX6_walk 123 = .ok (.goto 4, 3) := by decide +kernel
theorem dX6_walk_126 : decode cX6_walk 126 = .ok (.iconst 0, 1) := by decide +kernel
theorem dX6_walk_127 : decode cX6_walk 127 = .ok (.putfield 42, 3) := by decide +kernel
theorem dX6_walk_130 : decode cX6_walk 130 = .ok (.return_, 1) := by decide +kernel
theorem dX6_pile_0 : decode cX6_pile 0 = .ok (.aload_n 0, 1) := by decide +kernel
theorem dX6_pile_1 : decode cX6_pile 1 = .ok (.getfield 19, 3) := by decide +kernel
theorem dX6_pile_4 : decode cX6_pile 4 = .ok (.aload_n 0, 1) := by decide +kernel
theorem dX6_pile_5 : decode cX6_pile 5 = .ok (.getfield 9, 3) := by decide +kernel
theorem dX6_pile_8 : decode cX6_pile 8 = .ok (.arraylength, 1) := by decide +kernel
theorem dX6_pile_9 : decode cX6_pile 9 = .ok (.if_icmp .ge 33, 3) := by decide +kernel
theorem dX6_pile_12 : decode cX6_pile 12 = .ok (.aload_n 0, 1) := by decide +kernel
theorem dX6_pile_13 : decode cX6_pile 13 = .ok (.getfield 9, 3) := by decide +kernel
theorem dX6_pile_16 : decode cX6_pile 16 = .ok (.aload_n 0, 1) := by decide +kernel
theorem dX6_pile_17 : decode cX6_pile 17 = .ok (.getfield 19, 3) := by decide +kernel
theorem dX6_pile_20 : decode cX6_pile 20 = .ok (.lload_n 1, 1) := by decide +kernel
theorem dX6_pile_21 : decode cX6_pile 21 = .ok (.lastore, 1) := by decide +kernel
theorem dX6_pile_22 : decode cX6_pile 22 = .ok (.aload_n 0, 1) := by decide +kernel
theorem dX6_pile_23 : decode cX6_pile 23 = .ok (.getfield 15, 3) := by decide +kernel
theorem dX6_pile_26 : decode cX6_pile 26 = .ok (.aload_n 0, 1) := by decide +kernel
theorem dX6_pile_27 : decode cX6_pile 27 = .ok (.getfield 19, 3) := by decide +kernel
theorem dX6_pile_30 : decode cX6_pile 30 = .ok (.iload_n 3, 1) := by decide +kernel
theorem dX6_pile_31 : decode cX6_pile 31 = .ok (.iastore, 1) := by decide +kernel
theorem dX6_pile_32 : decode cX6_pile 32 = .ok (.aload_n 0, 1) := by decide +kernel
theorem dX6_pile_33 : decode cX6_pile 33 = .ok (.dup, 1) := by decide +kernel
theorem dX6_pile_34 : decode cX6_pile 34 = .ok (.getfield 19, 3) := by decide +kernel
theorem dX6_pile_37 : decode cX6_pile 37 = .ok (.iconst 1, 1) := by decide +kernel
theorem dX6_pile_38 : decode cX6_pile 38 = .ok (.iadd, 1) := by decide +kernel
theorem dX6_pile_39 : decode cX6_pile 39 = .ok (.putfield 19, 3) := by decide +kernel
theorem dX6_pile_42 : decode cX6_pile 42 = .ok (.return_, 1) := by decide +kernel
theorem dX6_visit_0 : decode cX6_visit 0 = .ok (.aload_n 0, 1) := by decide +kernel
theorem dX6_visit_1 : decode cX6_visit 1 = .ok (.getfield 49, 3) := by decide +kernel
theorem dX6_visit_4 : decode cX6_visit 4 = .ok (.getfield 78, 3) := by decide +kernel
theorem dX6_visit_7 : decode cX6_visit 7 = .ok (.iload_n 3, 1) := by decide +kernel
theorem dX6_visit_8 : decode cX6_visit 8 = .ok (.isub, 1) := by decide +kernel
theorem dX6_visit_9 : decode cX6_visit 9 = .ok (.iconst 1, 1) := by decide +kernel
theorem dX6_visit_10 : decode cX6_visit 10 = .ok (.iadd, 1) := by decide +kernel
theorem dX6_visit_11 : decode cX6_visit 11 = .ok (.istore 4, 2) := by decide +kernel
theorem dX6_visit_13 : decode cX6_visit 13 = .ok (.lload_n 1, 1) := by decide +kernel
theorem dX6_visit_14 : decode cX6_visit 14 = .ok (.invokestatic 81, 3) := by decide +kernel
theorem dX6_visit_17 : decode cX6_visit 17 = .ok (.iload 4, 2) := by decide +kernel
theorem dX6_visit_19 : decode cX6_visit 19 = .ok (.iadd, 1) := by decide +kernel
theorem dX6_visit_20 : decode cX6_visit 20 = .ok (.aload_n 0, 1) := by decide +kernel
theorem dX6_visit_21 : decode cX6_visit 21 = .ok (.getfield 26, 3) := by decide +kernel
theorem dX6_visit_24 : decode cX6_visit 24 = .ok (.if_icmp .ge 4, 3) := by decide +kernel
theorem dX6_visit_27 : decode cX6_visit 27 = .ok (.return_, 1) := by decide +kernel
theorem dX6_visit_28 : decode cX6_visit 28 = .ok (.iload 4, 2) := by decide +kernel
theorem dX6_visit_30 : decode cX6_visit 30 = .ok (.ifCond .ne 9, 3) := by decide +kernel
theorem dX6_visit_33 : decode cX6_visit 33 = .ok (.aload_n 0, 1) := by decide +kernel
theorem dX6_visit_34 : decode cX6_visit 34 = .ok (.lload_n 1, 1) := by decide +kernel
theorem dX6_visit_35 : decode cX6_visit 35 = .ok (.invokevirtual 87, 3) := by decide +kernel
theorem dX6_visit_38 : decode cX6_visit 38 = .ok (.return_, 1) := by decide +kernel
theorem dX6_visit_39 : decode cX6_visit 39 = .ok (.aload_n 0, 1) := by decide +kernel
theorem dX6_visit_40 : decode cX6_visit 40 = .ok (.lload_n 1, 1) := by decide +kernel
theorem dX6_visit_41 : decode cX6_visit 41 = .ok (.iload_n 3, 1) := by decide +kernel
theorem dX6_visit_42 : decode cX6_visit 42 = .ok (.iconst 1, 1) := by decide +kernel
theorem dX6_visit_43 : decode cX6_visit 43 = .ok (.iadd, 1) := by decide +kernel
theorem dX6_visit_44 : decode cX6_visit 44 = .ok (.invokevirtual 71, 3) := by decide +kernel
theorem dX6_visit_47 : decode cX6_visit 47 = .ok (.aload_n 0, 1) := by decide +kernel
theorem dX6_visit_48 : decode cX6_visit 48 = .ok (.getfield 53, 3) := by decide +kernel
theorem dX6_visit_51 : decode cX6_visit 51 = .ok (.lload_n 1, 1) := by decide +kernel
theorem dX6_visit_52 : decode cX6_visit 52 = .ok (.iload_n 3, 1) := by decide +kernel
theorem dX6_visit_53 : decode cX6_visit 53 = .ok (.invokevirtual 91, 3) := by decide +kernel
theorem dX6_visit_56 : decode cX6_visit 56 = .ok (.ifCond .eq 15, 3) := by decide +kernel
theorem dX6_visit_59 : decode cX6_visit 59 = .ok (.aload_n 0, 1) := by decide +kernel
theorem dX6_visit_60 : decode cX6_visit 60 = .ok (.lload_n 1, 1) := by decide +kernel
theorem dX6_visit_61 : decode cX6_visit 61 = .ok (.lconst 1, 1) := by decide +kernel
theorem dX6_visit_62 : decode cX6_visit 62 = .ok (.iload_n 3, 1) := by decide +kernel
theorem dX6_visit_63 : decode cX6_visit 63 = .ok (.lshl, 1) := by decide +kernel
theorem dX6_visit_64 : decode cX6_visit 64 = .ok (.lor, 1) := by decide +kernel
theorem dX6_visit_65 : decode cX6_visit 65 = .ok (.iload_n 3, 1) := by decide +kernel
theorem dX6_visit_66 : decode cX6_visit 66 = .ok (.iconst 1, 1) := by decide +kernel
theorem dX6_visit_67 : decode cX6_visit 67 = .ok (.iadd, 1) := by decide +kernel
theorem dX6_visit_68 : decode cX6_visit 68 = .ok (.invokevirtual 71, 3) := by decide +kernel
theorem dX6_visit_71 : decode cX6_visit 71 = .ok (.return_, 1) := by decide +kernel
theorem dX6_take_0 : decode cX6_take 0 = .ok (.aload_n 0, 1) := by decide +kernel
theorem dX6_take_1 : decode cX6_take 1 = .ok (.getfield 23, 3) := by decide +kernel
theorem dX6_take_4 : decode cX6_take 4 = .ok (.lookupswitch 78 #[(0, 28), (1, 54)], 28) := by decide +kernel
theorem dX6_take_32 : decode cX6_take 32 = .ok (.aload_n 0, 1) := by decide +kernel
theorem dX6_take_33 : decode cX6_take 33 = .ok (.lload_n 1, 1) := by decide +kernel
theorem dX6_take_34 : decode cX6_take 34 = .ok (.putfield 29, 3) := by decide +kernel
theorem dX6_take_37 : decode cX6_take 37 = .ok (.aload_n 0, 1) := by decide +kernel
theorem dX6_take_38 : decode cX6_take 38 = .ok (.lload_n 1, 1) := by decide +kernel
theorem dX6_take_39 : decode cX6_take 39 = .ok (.invokestatic 81, 3) := by decide +kernel
theorem dX6_take_42 : decode cX6_take 42 = .ok (.putfield 33, 3) := by decide +kernel
theorem dX6_take_45 : decode cX6_take 45 = .ok (.aload_n 0, 1) := by decide +kernel
theorem dX6_take_46 : decode cX6_take 46 = .ok (.aload_n 0, 1) := by decide +kernel
theorem dX6_take_47 : decode cX6_take 47 = .ok (.getfield 33, 3) := by decide +kernel
theorem dX6_take_50 : decode cX6_take 50 = .ok (.iconst 1, 1) := by decide +kernel
theorem dX6_take_51 : decode cX6_take 51 = .ok (.iadd, 1) := by decide +kernel
theorem dX6_take_52 : decode cX6_take 52 = .ok (.putfield 26, 3) := by decide +kernel
theorem dX6_take_55 : decode cX6_take 55 = .ok (.goto 37, 3) := by decide +kernel
theorem dX6_take_58 : decode cX6_take 58 = .ok (.aload_n 0, 1) := by decide +kernel
theorem dX6_take_59 : decode cX6_take 59 = .ok (.getfield 57, 3) := by decide +kernel
theorem dX6_take_62 : decode cX6_take 62 = .ok (.lload_n 1, 1) := by decide +kernel
theorem dX6_take_63 : decode cX6_take 63 = .ok (.invokevirtual 95, 3) := by decide +kernel
theorem dX6_take_66 : decode cX6_take 66 = .ok (.ifCond .ne 26, 3) := by decide +kernel
theorem dX6_take_69 : decode cX6_take 69 = .ok (.aload_n 0, 1) := by decide +kernel
theorem dX6_take_70 : decode cX6_take 70 = .ok (.iconst 1, 1) := by decide +kernel
theorem dX6_take_71 : decode cX6_take 71 = .ok (.putfield 46, 3) := by decide +kernel
theorem dX6_take_74 : decode cX6_take 74 = .ok (.aload_n 0, 1) := by decide +kernel
theorem dX6_take_75 : decode cX6_take 75 = .ok (.iconst 0, 1) := by decide +kernel
theorem dX6_take_76 : decode cX6_take 76 = .ok (.putfield 19, 3) := by decide +kernel
theorem dX6_take_79 : decode cX6_take 79 = .ok (.goto 13, 3) := by decide +kernel
theorem dX6_take_82 : decode cX6_take 82 = .ok (.aload_n 0, 1) := by decide +kernel
theorem dX6_take_83 : decode cX6_take 83 = .ok (.dup, 1) := by decide +kernel
theorem dX6_take_84 : decode cX6_take 84 = .ok (.getfield 36, 3) := by decide +kernel
theorem dX6_take_87 : decode cX6_take 87 = .ok (.iconst 1, 1) := by decide +kernel
theorem dX6_take_88 : decode cX6_take 88 = .ok (.iadd, 1) := by decide +kernel
theorem dX6_take_89 : decode cX6_take 89 = .ok (.putfield 36, 3) := by decide +kernel
theorem dX6_take_92 : decode cX6_take 92 = .ok (.return_, 1) := by decide +kernel
theorem dX7_init_0 : decode cX7_init 0 = .ok (.aload_n 0, 1) := by decide +kernel
theorem dX7_init_1 : decode cX7_init 1 = .ok (.invokespecial 3, 3) := by decide +kernel
theorem dX7_init_4 : decode cX7_init 4 = .ok (.aload_n 0, 1) := by decide +kernel
theorem dX7_init_5 : decode cX7_init 5 = .ok (.sipush 500, 3) := by decide +kernel
theorem dX7_init_8 : decode cX7_init 8 = .ok (.newarray .byte, 2) := by decide +kernel
theorem dX7_init_10 : decode cX7_init 10 = .ok (.putfield 9, 3) := by decide +kernel
theorem dX7_init_13 : decode cX7_init 13 = .ok (.aload_n 0, 1) := by decide +kernel
theorem dX7_init_14 : decode cX7_init 14 = .ok (.iconst 0, 1) := by decide +kernel
theorem dX7_init_15 : decode cX7_init 15 = .ok (.putfield 15, 3) := by decide +kernel
theorem dX7_init_18 : decode cX7_init 18 = .ok (.return_, 1) := by decide +kernel
theorem dX7_append_0 : decode cX7_append 0 = .ok (.bipush 24, 2) := by decide +kernel
theorem dX7_append_2 : decode cX7_append 2 = .ok (.istore_n 2, 1) := by decide +kernel
theorem dX7_append_3 : decode cX7_append 3 = .ok (.iload_n 2, 1) := by decide +kernel
theorem dX7_append_4 : decode cX7_append 4 = .ok (.ifCond .lt 42, 3) := by decide +kernel
theorem dX7_append_7 : decode cX7_append 7 = .ok (.aload_n 0, 1) := by decide +kernel
theorem dX7_append_8 : decode cX7_append 8 = .ok (.getfield 15, 3) := by decide +kernel
theorem dX7_append_11 : decode cX7_append 11 = .ok (.sipush 500, 3) := by decide +kernel
theorem dX7_append_14 : decode cX7_append 14 = .ok (.if_icmp .ge 32, 3) := by decide +kernel
theorem dX7_append_17 : decode cX7_append 17 = .ok (.aload_n 0, 1) := by decide +kernel
theorem dX7_append_18 : decode cX7_append 18 = .ok (.getfield 9, 3) := by decide +kernel
theorem dX7_append_21 : decode cX7_append 21 = .ok (.aload_n 0, 1) := by decide +kernel
theorem dX7_append_22 : decode cX7_append 22 = .ok (.getfield 15, 3) := by decide +kernel
theorem dX7_append_25 : decode cX7_append 25 = .ok (.iload_n 1, 1) := by decide +kernel
theorem dX7_append_26 : decode cX7_append 26 = .ok (.iload_n 2, 1) := by decide +kernel
theorem dX7_append_27 : decode cX7_append 27 = .ok (.ishr, 1) := by decide +kernel
theorem dX7_append_28 : decode cX7_append 28 = .ok (.i2b, 1) := by decide +kernel
theorem dX7_append_29 : decode cX7_append 29 = .ok (.bastore, 1) := by decide +kernel
theorem dX7_append_30 : decode cX7_append 30 = .ok (.aload_n 0, 1) := by decide +kernel
theorem dX7_append_31 : decode cX7_append 31 = .ok (.dup, 1) := by decide +kernel
theorem dX7_append_32 : decode cX7_append 32 = .ok (.getfield 15, 3) := by decide +kernel
theorem dX7_append_35 : decode cX7_append 35 = .ok (.iconst 1, 1) := by decide +kernel
theorem dX7_append_36 : decode cX7_append 36 = .ok (.iadd, 1) := by decide +kernel
theorem dX7_append_37 : decode cX7_append 37 = .ok (.putfield 15, 3) := by decide +kernel
theorem dX7_append_40 : decode cX7_append 40 = .ok (.iinc 2 (-8), 3) := by decide +kernel
theorem dX7_append_43 : decode cX7_append 43 = .ok (.goto (-40), 3) := by decide +kernel
theorem dX7_append_46 : decode cX7_append 46 = .ok (.return_, 1) := by decide +kernel
theorem dX7_number_0 : decode cX7_number 0 = .ok (.aload_n 0, 1) := by decide +kernel
theorem dX7_number_1 : decode cX7_number 1 = .ok (.getfield 9, 3) := by decide +kernel
theorem dX7_number_4 : decode cX7_number 4 = .ok (.iload_n 1, 1) := by decide +kernel
theorem dX7_number_5 : decode cX7_number 5 = .ok (.baload, 1) := by decide +kernel
theorem dX7_number_6 : decode cX7_number 6 = .ok (.i2l, 1) := by decide +kernel
theorem dX7_number_7 : decode cX7_number 7 = .ok (.lstore_n 3, 1) := by decide +kernel
theorem dX7_number_8 : decode cX7_number 8 = .ok (.iconst 1, 1) := by decide +kernel
theorem dX7_number_9 : decode cX7_number 9 = .ok (.istore 5, 2) := by decide +kernel
theorem dX7_number_11 : decode cX7_number 11 = .ok (.iload 5, 2) := by decide +kernel
theorem dX7_number_13 : decode cX7_number 13 = .ok (.iload_n 2, 1) := by decide +kernel
theorem dX7_number_14 : decode cX7_number 14 = .ok (.if_icmp .ge 29, 3) := by decide +kernel
theorem dX7_number_17 : decode cX7_number 17 = .ok (.lload_n 3, 1) := by decide +kernel
theorem dX7_number_18 : decode cX7_number 18 = .ok (.bipush 8, 2) := by decide +kernel
theorem dX7_number_20 : decode cX7_number 20 = .ok (.lshl, 1) := by decide +kernel
theorem dX7_number_21 : decode cX7_number 21 = .ok (.aload_n 0, 1) := by decide +kernel
theorem dX7_number_22 : decode cX7_number 22 = .ok (.getfield 9, 3) := by decide +kernel
theorem dX7_number_25 : decode cX7_number 25 = .ok (.iload_n 1, 1) := by decide +kernel
theorem dX7_number_26 : decode cX7_number 26 = .ok (.iload 5, 2) := by decide +kernel
theorem dX7_number_28 : decode cX7_number 28 = .ok (.iadd, 1) := by decide +kernel
theorem dX7_number_29 : decode cX7_number 29 = .ok (.baload, 1) := by decide +kernel
theorem dX7_number_30 : decode cX7_number 30 = .ok (.sipush 255, 3) := by decide +kernel
theorem dX7_number_33 : decode cX7_number 33 = .ok (.iand, 1) := by decide +kernel
theorem dX7_number_34 : decode cX7_number 34 = .ok (.i2l, 1) := by decide +kernel
theorem dX7_number_35 : decode cX7_number 35 = .ok (.lor, 1) := by decide +kernel
theorem dX7_number_36 : decode cX7_number 36 = .ok (.lstore_n 3, 1) := by decide +kernel
theorem dX7_number_37 : decode cX7_number 37 = .ok (.iinc 5 1, 3) := by decide +kernel
theorem dX7_number_40 : decode cX7_number 40 = .ok (.goto (-29), 3) := by decide +kernel
theorem dX7_number_43 : decode cX7_number 43 = .ok (.lload_n 3, 1) := by decide +kernel
theorem dX7_number_44 : decode cX7_number 44 = .ok (.lreturn, 1) := by decide +kernel
theorem dX8_init_0 : decode cX8_init 0 = .ok (.aload_n 0, 1) := by decide +kernel
theorem dX8_init_1 : decode cX8_init 1 = .ok (.invokespecial 3, 3) := by decide +kernel
theorem dX8_init_4 : decode cX8_init 4 = .ok (.aload_n 0, 1) := by decide +kernel
theorem dX8_init_5 : decode cX8_init 5 = .ok (.new 9, 3) := by decide +kernel
theorem dX8_init_8 : decode cX8_init 8 = .ok (.dup, 1) := by decide +kernel
theorem dX8_init_9 : decode cX8_init 9 = .ok (.invokespecial 11, 3) := by decide +kernel
theorem dX8_init_12 : decode cX8_init 12 = .ok (.putfield 12, 3) := by decide +kernel
theorem dX8_init_15 : decode cX8_init 15 = .ok (.aload_n 0, 1) := by decide +kernel
theorem dX8_init_16 : decode cX8_init 16 = .ok (.new 16, 3) := by decide +kernel
theorem dX8_init_19 : decode cX8_init 19 = .ok (.dup, 1) := by decide +kernel
theorem dX8_init_20 : decode cX8_init 20 = .ok (.invokespecial 18, 3) := by decide +kernel
theorem dX8_init_23 : decode cX8_init 23 = .ok (.putfield 19, 3) := by decide +kernel
theorem dX8_init_26 : decode cX8_init 26 = .ok (.aload_n 0, 1) := by decide +kernel
theorem dX8_init_27 : decode cX8_init 27 = .ok (.new 23, 3) := by decide +kernel
theorem dX8_init_30 : decode cX8_init 30 = .ok (.dup, 1) := by decide +kernel
theorem dX8_init_31 : decode cX8_init 31 = .ok (.aload_n 0, 1) := by decide +kernel
theorem dX8_init_32 : decode cX8_init 32 = .ok (.getfield 19, 3) := by decide +kernel
theorem dX8_init_35 : decode cX8_init 35 = .ok (.invokespecial 25, 3) := by decide +kernel
theorem dX8_init_38 : decode cX8_init 38 = .ok (.putfield 28, 3) := by decide +kernel
theorem dX8_init_41 : decode cX8_init 41 = .ok (.aload_n 0, 1) := by decide +kernel
theorem dX8_init_42 : decode cX8_init 42 = .ok (.new 32, 3) := by decide +kernel
theorem dX8_init_45 : decode cX8_init 45 = .ok (.dup, 1) := by decide +kernel
theorem dX8_init_46 : decode cX8_init 46 = .ok (.aload_n 0, 1) := by decide +kernel
theorem dX8_init_47 : decode cX8_init 47 = .ok (.getfield 19, 3) := by decide +kernel
theorem dX8_init_50 : decode cX8_init 50 = .ok (.invokespecial 34, 3) := by decide +kernel
theorem dX8_init_53 : decode cX8_init 53 = .ok (.putfield 35, 3) := by decide +kernel
theorem dX8_init_56 : decode cX8_init 56 = .ok (.aload_n 0, 1) := by decide +kernel
theorem dX8_init_57 : decode cX8_init 57 = .ok (.new 39, 3) := by decide +kernel
theorem dX8_init_60 : decode cX8_init 60 = .ok (.dup, 1) := by decide +kernel
theorem dX8_init_61 : decode cX8_init 61 = .ok (.aload_n 0, 1) := by decide +kernel
theorem dX8_init_62 : decode cX8_init 62 = .ok (.getfield 19, 3) := by decide +kernel
theorem dX8_init_65 : decode cX8_init 65 = .ok (.aload_n 0, 1) := by decide +kernel
theorem dX8_init_66 : decode cX8_init 66 = .ok (.getfield 28, 3) := by decide +kernel
theorem dX8_init_69 : decode cX8_init 69 = .ok (.aload_n 0, 1) := by decide +kernel
theorem dX8_init_70 : decode cX8_init 70 = .ok (.getfield 35, 3) := by decide +kernel
theorem dX8_init_73 : decode cX8_init 73 = .ok (.invokespecial 41, 3) := by decide +kernel
theorem dX8_init_76 : decode cX8_init 76 = .ok (.putfield 44, 3) := by decide +kernel
theorem dX8_init_79 : decode cX8_init 79 = .ok (.aload_n 0, 1) := by decide +kernel
theorem dX8_init_80 : decode cX8_init 80 = .ok (.new 48, 3) := by decide +kernel
theorem dX8_init_83 : decode cX8_init 83 = .ok (.dup, 1) := by decide +kernel
theorem dX8_init_84 : decode cX8_init 84 = .ok (.aload_n 0, 1) := by decide +kernel
theorem dX8_init_85 : decode cX8_init 85 = .ok (.getfield 19, 3) := by decide +kernel
theorem dX8_init_88 : decode cX8_init 88 = .ok (.aload_n 0, 1) := by decide +kernel
theorem dX8_init_89 : decode cX8_init 89 = .ok (.getfield 28, 3) := by decide +kernel
theorem dX8_init_92 : decode cX8_init 92 = .ok (.invokespecial 50, 3) := by decide +kernel
theorem dX8_init_95 : decode cX8_init 95 = .ok (.putfield 53, 3) := by decide +kernel
theorem dX8_init_98 : decode cX8_init 98 = .ok (.aload_n 0, 1) := by decide +kernel
theorem dX8_init_99 : decode cX8_init 99 = .ok (.new 57, 3) := by decide +kernel
theorem dX8_init_102 : decode cX8_init 102 = .ok (.dup, 1) := by decide +kernel
theorem dX8_init_103 : decode cX8_init 103 = .ok (.aload_n 0, 1) := by decide +kernel
theorem dX8_init_104 : decode cX8_init 104 = .ok (.getfield 19, 3) := by decide +kernel
theorem dX8_init_107 : decode cX8_init 107 = .ok (.invokespecial 59, 3) := by decide +kernel
theorem dX8_init_110 : decode cX8_init 110 = .ok (.putfield 60, 3) := by decide +kernel
theorem dX8_init_113 : decode cX8_init 113 = .ok (.aload_n 0, 1) := by decide +kernel
theorem dX8_init_114 : decode cX8_init 114 = .ok (.bipush 8, 2) := by decide +kernel
theorem dX8_init_116 : decode cX8_init 116 = .ok (.newarray .long, 2) := by decide +kernel
theorem dX8_init_118 : decode cX8_init 118 = .ok (.putfield 64, 3) := by decide +kernel
theorem dX8_init_121 : decode cX8_init 121 = .ok (.aload_n 0, 1) := by decide +kernel
theorem dX8_init_122 : decode cX8_init 122 = .ok (.iconst 4, 1) := by decide +kernel
theorem dX8_init_123 : decode cX8_init 123 = .ok (.newarray .int, 2) := by decide +kernel
theorem dX8_init_125 : decode cX8_init 125 = .ok (.putfield 68, 3) := by decide +kernel
theorem dX8_init_128 : decode cX8_init 128 = .ok (.aload_n 0, 1) := by decide +kernel
theorem dX8_init_129 : decode cX8_init 129 = .ok (.iconst 0, 1) := by decide +kernel
theorem dX8_init_130 : decode cX8_init 130 = .ok (.putfield 72, 3) := by decide +kernel
theorem dX8_init_133 : decode cX8_init 133 = .ok (.aload_n 0, 1) := by decide +kernel
theorem dX8_init_134 : decode cX8_init 134 = .ok (.bipush 61, 2) := by decide +kernel
theorem dX8_init_136 : decode cX8_init 136 = .ok (.newarray .int, 2) := by decide +kernel
theorem dX8_init_138 : decode cX8_init 138 = .ok (.putfield 76, 3) := by decide +kernel
theorem dX8_init_141 : decode cX8_init 141 = .ok (.aload_n 0, 1) := by decide +kernel
theorem dX8_init_142 : decode cX8_init 142 = .ok (.iconst 0, 1) := by decide +kernel
theorem dX8_init_143 : decode cX8_init 143 = .ok (.putfield 79, 3) := by decide +kernel
theorem dX8_init_146 : decode cX8_init 146 = .ok (.aload_n 0, 1) := by decide +kernel
theorem dX8_init_147 : decode cX8_init 147 = .ok (.iconst 0, 1) := by decide +kernel
theorem dX8_init_148 : decode cX8_init 148 = .ok (.putfield 82, 3) := by decide +kernel
theorem dX8_init_151 : decode cX8_init 151 = .ok (.return_, 1) := by decide +kernel
theorem dX8_feed_0 : decode cX8_feed 0 = .ok (.aload_n 0, 1) := by decide +kernel
theorem dX8_feed_1 : decode cX8_feed 1 = .ok (.getfield 12, 3) := by decide +kernel
theorem dX8_feed_4 : decode cX8_feed 4 = .ok (.getfield 86, 3) := by decide +kernel
theorem dX8_feed_7 : decode cX8_feed 7 = .ok (.bipush 20, 2) := by decide +kernel
theorem dX8_feed_9 : decode cX8_feed 9 = .ok (.iadd, 1) := by decide +kernel
theorem dX8_feed_10 : decode cX8_feed 10 = .ok (.sipush 500, 3) := by decide +kernel
theorem dX8_feed_13 : decode cX8_feed 13 = .ok (.if_icmp .le 5, 3) := by decide +kernel
theorem dX8_feed_16 : decode cX8_feed 16 = .ok (.iconst (-1), 1) := by decide +kernel
theorem dX8_feed_17 : decode cX8_feed 17 = .ok (.ireturn, 1) := by decide +kernel
theorem dX8_feed_18 : decode cX8_feed 18 = .ok (.aload_n 0, 1) := by decide +kernel
theorem dX8_feed_19 : decode cX8_feed 19 = .ok (.getfield 12, 3) := by decide +kernel
theorem dX8_feed_22 : decode cX8_feed 22 = .ok (.iload_n 1, 1) := by decide +kernel
theorem dX8_feed_23 : decode cX8_feed 23 = .ok (.invokevirtual 89, 3) := by decide +kernel
theorem dX8_feed_26 : decode cX8_feed 26 = .ok (.aload_n 0, 1) := by decide +kernel
theorem dX8_feed_27 : decode cX8_feed 27 = .ok (.getfield 12, 3) := by decide +kernel
theorem dX8_feed_30 : decode cX8_feed 30 = .ok (.iload_n 2, 1) := by decide +kernel
theorem dX8_feed_31 : decode cX8_feed 31 = .ok (.invokevirtual 89, 3) := by decide +kernel
theorem dX8_feed_34 : decode cX8_feed 34 = .ok (.aload_n 0, 1) := by decide +kernel
theorem dX8_feed_35 : decode cX8_feed 35 = .ok (.getfield 12, 3) := by decide +kernel
theorem dX8_feed_38 : decode cX8_feed 38 = .ok (.iload_n 3, 1) := by decide +kernel
theorem dX8_feed_39 : decode cX8_feed 39 = .ok (.invokevirtual 89, 3) := by decide +kernel
theorem dX8_feed_42 : decode cX8_feed 42 = .ok (.aload_n 0, 1) := by decide +kernel
theorem dX8_feed_43 : decode cX8_feed 43 = .ok (.getfield 12, 3) := by decide +kernel
theorem dX8_feed_46 : decode cX8_feed 46 = .ok (.iload 4, 2) := by decide +kernel
theorem dX8_feed_48 : decode cX8_feed 48 = .ok (.invokevirtual 89, 3) := by decide +kernel
theorem dX8_feed_51 : decode cX8_feed 51 = .ok (.aload_n 0, 1) := by decide +kernel
theorem dX8_feed_52 : decode cX8_feed 52 = .ok (.getfield 12, 3) := by decide +kernel
theorem dX8_feed_55 : decode cX8_feed 55 = .ok (.iload 5, 2) := by decide +kernel
theorem dX8_feed_57 : decode cX8_feed 57 = .ok (.invokevirtual 89, 3) := by decide +kernel
theorem dX8_feed_60 : decode cX8_feed 60 = .ok (.aload_n 0, 1) := by decide +kernel
theorem dX8_feed_61 : decode cX8_feed 61 = .ok (.getfield 12, 3) := by decide +kernel
theorem dX8_feed_64 : decode cX8_feed 64 = .ok (.getfield 86, 3) := by decide +kernel
theorem dX8_feed_67 : decode cX8_feed 67 = .ok (.ireturn, 1) := by decide +kernel
theorem dX8_end_0 : decode cX8_end 0 = .ok (.iload_n 1, 1) := by decide +kernel
theorem dX8_end_1 : decode cX8_end 1 = .ok (.ifCond .lt 14, 3) := by decide +kernel
theorem dX8_end_4 : decode cX8_end 4 = .ok (.iload_n 1, 1) := by decide +kernel
theorem dX8_end_5 : decode cX8_end 5 = .ok (.aload_n 0, 1) := by decide +kernel
theorem dX8_end_6 : decode cX8_end 6 = .ok (.getfield 12, 3) := by decide +kernel
theorem dX8_end_9 : decode cX8_end 9 = .ok (.getfield 86, 3) := by decide +kernel
theorem dX8_end_12 : decode cX8_end 12 = .ok (.if_icmp .le 5, 3) := by decide +kernel
theorem dX8_end_15 : decode cX8_end 15 = .ok (.iconst 0, 1) := by decide +kernel
theorem dX8_end_16 : decode cX8_end 16 = .ok (.ireturn, 1) := by decide +kernel
theorem dX8_end_17 : decode cX8_end 17 = .ok (.aload_n 0, 1) := by decide +kernel
theorem dX8_end_18 : decode cX8_end 18 = .ok (.getfield 12, 3) := by decide +kernel
theorem dX8_end_21 : decode cX8_end 21 = .ok (.iload_n 1, 1) := by decide +kernel
theorem dX8_end_22 : decode cX8_end 22 = .ok (.putfield 86, 3) := by decide +kernel
theorem dX8_end_25 : decode cX8_end 25 = .ok (.iconst 1, 1) := by decide +kernel
theorem dX8_end_26 : decode cX8_end 26 = .ok (.ireturn, 1) := by decide +kernel
theorem dX8_ground_0 : decode cX8_ground 0 = .ok (.aload_n 0, 1) := by decide +kernel
theorem dX8_ground_1 : decode cX8_ground 1 = .ok (.getfield 19, 3) := by decide +kernel
theorem dX8_ground_4 : decode cX8_ground 4 = .ok (.iload_n 1, 1) := by decide +kernel
theorem dX8_ground_5 : decode cX8_ground 5 = .ok (.iload_n 2, 1) := by decide +kernel
theorem dX8_ground_6 : decode cX8_ground 6 = .ok (.invokevirtual 93, 3) := by decide +kernel
theorem dX8_ground_9 : decode cX8_ground 9 = .ok (.ifCond .ne 5, 3) := by decide +kernel
theorem dX8_ground_12 : decode cX8_ground 12 = .ok (.iconst 0, 1) := by decide +kernel
theorem dX8_ground_13 : decode cX8_ground 13 = .ok (.ireturn, 1) := by decide +kernel
theorem dX8_ground_14 : decode cX8_ground 14 = .ok (.aload_n 0, 1) := by decide +kernel
theorem dX8_ground_15 : decode cX8_ground 15 = .ok (.getfield 28, 3) := by decide +kernel
theorem dX8_ground_18 : decode cX8_ground 18 = .ok (.invokevirtual 97, 3) := by decide +kernel
theorem dX8_ground_21 : decode cX8_ground 21 = .ok (.aload_n 0, 1) := by decide +kernel
theorem dX8_ground_22 : decode cX8_ground 22 = .ok (.getfield 35, 3) := by decide +kernel
theorem dX8_ground_25 : decode cX8_ground 25 = .ok (.invokevirtual 100, 3) := by decide +kernel
theorem dX8_ground_28 : decode cX8_ground 28 = .ok (.aload_n 0, 1) := by decide +kernel
theorem dX8_ground_29 : decode cX8_ground 29 = .ok (.getfield 64, 3) := by decide +kernel
theorem dX8_ground_32 : decode cX8_ground 32 = .ok (.lconst 0, 1) := by decide +kernel
theorem dX8_ground_33 : decode cX8_ground 33 = .ok (.invokestatic 101, 3) := by decide +kernel
theorem dX8_ground_36 : decode cX8_ground 36 = .ok (.aload_n 0, 1) := by decide +kernel
theorem dX8_ground_37 : decode cX8_ground 37 = .ok (.iconst 0, 1) := by decide +kernel
theorem dX8_ground_38 : decode cX8_ground 38 = .ok (.putfield 72, 3) := by decide +kernel
theorem dX8_ground_41 : decode cX8_ground 41 = .ok (.aload_n 0, 1) := by decide +kernel
theorem dX8_ground_42 : decode cX8_ground 42 = .ok (.iconst 0, 1) := by decide +kernel
theorem dX8_ground_43 : decode cX8_ground 43 = .ok (.putfield 79, 3) := by decide +kernel
theorem dX8_ground_46 : decode cX8_ground 46 = .ok (.iconst 1, 1) := by decide +kernel
theorem dX8_ground_47 : decode cX8_ground 47 = .ok (.ireturn, 1) := by decide +kernel
theorem dX8_sheet_0 : decode cX8_sheet 0 = .ok (.iload_n 1, 1) := by decide +kernel
theorem dX8_sheet_1 : decode cX8_sheet 1 = .ok (.invokestatic 107, 3) := by decide +kernel
theorem dX8_sheet_4 : decode cX8_sheet 4 = .ok (.iload_n 2, 1) := by decide +kernel
theorem dX8_sheet_5 : decode cX8_sheet 5 = .ok (.ifCond .lt 8, 3) := by decide +kernel
theorem dX8_sheet_8 : decode cX8_sheet 8 = .ok (.iload_n 2, 1) := by decide +kernel
theorem dX8_sheet_9 : decode cX8_sheet 9 = .ok (.iconst 4, 1) := by decide +kernel
theorem dX8_sheet_10 : decode cX8_sheet 10 = .ok (.if_icmp .lt 13, 3) := by decide +kernel
theorem dX8_sheet_13 : decode cX8_sheet 13 = .ok (.new 110, 3) := by decide +kernel
theorem dX8_sheet_16 : decode cX8_sheet 16 = .ok (.dup, 1) := by decide +kernel
theorem dX8_sheet_17 : decode cX8_sheet 17 = .ok (.ldc 112, 2) := by decide +kernel
theorem dX8_sheet_19 : decode cX8_sheet 19 = .ok (.invokespecial 114, 3) := by decide +kernel
theorem dX8_sheet_22 : decode cX8_sheet 22 = .ok (.athrow, 1) := by decide +kernel
theorem dX8_sheet_23 : decode cX8_sheet 23 = .ok (.aload_n 0, 1) := by decide +kernel
theorem dX8_sheet_24 : decode cX8_sheet 24 = .ok (.getfield 12, 3) := by decide +kernel
theorem dX8_sheet_27 : decode cX8_sheet 27 = .ok (.getfield 86, 3) := by decide +kernel
theorem dX8_sheet_30 : decode cX8_sheet 30 = .ok (.istore_n 3, 1) := by decide +kernel
theorem dX8_sheet_31 : decode cX8_sheet 31 = .ok (.iconst 1, 1) := by decide +kernel
theorem dX8_sheet_32 : decode cX8_sheet 32 = .ok (.iload_n 2, 1) := by decide +kernel
theorem dX8_sheet_33 : decode cX8_sheet 33 = .ok (.ishl, 1) := by decide +kernel
theorem dX8_sheet_34 : decode cX8_sheet 34 = .ok (.istore 4, 2) := by decide +kernel
theorem dX8_sheet_36 : decode cX8_sheet 36 = .ok (.aload_n 0, 1) := by decide +kernel
theorem dX8_sheet_37 : decode cX8_sheet 37 = .ok (.getfield 12, 3) := by decide +kernel
theorem dX8_sheet_40 : decode cX8_sheet 40 = .ok (.iconst 0, 1) := by decide +kernel
theorem dX8_sheet_41 : decode cX8_sheet 41 = .ok (.putfield 86, 3) := by decide +kernel
theorem dX8_sheet_44 : decode cX8_sheet 44 = .ok (.lconst 0, 1) := by decide +kernel
theorem dX8_sheet_45 : decode cX8_sheet 45 = .ok (.lstore 5, 2) := by decide +kernel
theorem dX8_sheet_47 : decode cX8_sheet 47 = .ok (.iconst 0, 1) := by decide +kernel
theorem dX8_sheet_48 : decode cX8_sheet 48 = .ok (.istore 7, 2) := by decide +kernel
theorem dX8_sheet_50 : decode cX8_sheet 50 = .ok (.iload 7, 2) := by decide +kernel
theorem dX8_sheet_52 : decode cX8_sheet 52 = .ok (.iload_n 3, 1) := by decide +kernel
theorem dX8_sheet_53 : decode cX8_sheet 53 = .ok (.if_icmp .ge 67, 3) := by decide +kernel
theorem dX8_sheet_56 : decode cX8_sheet 56 = .ok (.iload 7, 2) := by decide +kernel
theorem dX8_sheet_58 : decode cX8_sheet 58 = .ok (.iload 4, 2) := by decide +kernel
theorem dX8_sheet_60 : decode cX8_sheet 60 = .ok (.iadd, 1) := by decide +kernel
theorem dX8_sheet_61 : decode cX8_sheet 61 = .ok (.iload_n 3, 1) := by decide +kernel
theorem dX8_sheet_62 : decode cX8_sheet 62 = .ok (.if_icmp .le 8, 3) := by decide +kernel
theorem dX8_sheet_65 : decode cX8_sheet 65 = .ok (.iconst (-1), 1) := by decide +kernel
theorem dX8_sheet_66 : decode cX8_sheet 66 = .ok (.iload 7, 2) := by decide +kernel
theorem dX8_sheet_68 : decode cX8_sheet 68 = .ok (.isub, 1) := by decide +kernel
theorem dX8_sheet_69 : decode cX8_sheet 69 = .ok (.ireturn, 1) := by decide +kernel
theorem dX8_sheet_70 : decode cX8_sheet 70 = .ok (.aload_n 0, 1) := by decide +kernel
theorem dX8_sheet_71 : decode cX8_sheet 71 = .ok (.getfield 12, 3) := by decide +kernel
theorem dX8_sheet_74 : decode cX8_sheet 74 = .ok (.iload 7, 2) := by decide +kernel
theorem dX8_sheet_76 : decode cX8_sheet 76 = .ok (.iload 4, 2) := by decide +kernel
theorem dX8_sheet_78 : decode cX8_sheet 78 = .ok (.invokevirtual 117, 3) := by decide +kernel
theorem dX8_sheet_81 : decode cX8_sheet 81 = .ok (.lstore 8, 2) := by decide +kernel
theorem dX8_sheet_83 : decode cX8_sheet 83 = .ok (.aload_n 0, 1) := by decide +kernel
theorem dX8_sheet_84 : decode cX8_sheet 84 = .ok (.getfield 19, 3) := by decide +kernel
theorem dX8_sheet_87 : decode cX8_sheet 87 = .ok (.lload 8, 2) := by decide +kernel
theorem dX8_sheet_89 : decode cX8_sheet 89 = .ok (.invokevirtual 121, 3) := by decide +kernel
theorem dX8_sheet_92 : decode cX8_sheet 92 = .ok (.ifCond .ne 8, 3) := by decide +kernel
theorem dX8_sheet_95 : decode cX8_sheet 95 = .ok (.iconst (-1), 1) := by decide +kernel
theorem dX8_sheet_96 : decode cX8_sheet 96 = .ok (.iload 7, 2) := by decide +kernel
theorem dX8_sheet_98 : decode cX8_sheet 98 = .ok (.isub, 1) := by decide +kernel
theorem dX8_sheet_99 : decode cX8_sheet 99 = .ok (.ireturn, 1) := by decide +kernel
theorem dX8_sheet_100 : decode cX8_sheet 100 = .ok (.lload 5, 2) := by decide +kernel
theorem dX8_sheet_102 : decode cX8_sheet 102 = .ok (.lconst 1, 1) := by decide +kernel
theorem dX8_sheet_103 : decode cX8_sheet 103 = .ok (.lload 8, 2) := by decide +kernel
theorem dX8_sheet_105 : decode cX8_sheet 105 = .ok (.l2i, 1) := by decide +kernel
theorem dX8_sheet_106 : decode cX8_sheet 106 = .ok (.lshl, 1) := by decide +kernel
theorem dX8_sheet_107 : decode cX8_sheet 107 = .ok (.lor, 1) := by decide +kernel
theorem dX8_sheet_108 : decode cX8_sheet 108 = .ok (.lstore 5, 2) := by decide +kernel
theorem dX8_sheet_110 : decode cX8_sheet 110 = .ok (.iload 7, 2) := by decide +kernel
theorem dX8_sheet_112 : decode cX8_sheet 112 = .ok (.iload 4, 2) := by decide +kernel
theorem dX8_sheet_114 : decode cX8_sheet 114 = .ok (.iadd, 1) := by decide +kernel
theorem dX8_sheet_115 : decode cX8_sheet 115 = .ok (.istore 7, 2) := by decide +kernel
theorem dX8_sheet_117 : decode cX8_sheet 117 = .ok (.goto (-67), 3) := by decide +kernel
theorem dX8_sheet_120 : decode cX8_sheet 120 = .ok (.aload_n 0, 1) := by decide +kernel
theorem dX8_sheet_121 : decode cX8_sheet 121 = .ok (.getfield 64, 3) := by decide +kernel
theorem dX8_sheet_124 : decode cX8_sheet 124 = .ok (.iload_n 1, 1) := by decide +kernel
theorem dX8_sheet_125 : decode cX8_sheet 125 = .ok (.lload 5, 2) := by decide +kernel
theorem dX8_sheet_127 : decode cX8_sheet 127 = .ok (.lastore, 1) := by decide +kernel
theorem dX8_sheet_128 : decode cX8_sheet 128 = .ok (.lload 5, 2) := by decide +kernel
theorem dX8_sheet_130 : decode cX8_sheet 130 = .ok (.invokestatic 125, 3) := by decide +kernel
theorem dX8_sheet_133 : decode cX8_sheet 133 = .ok (.ireturn, 1) := by decide +kernel
theorem dX8_put_0 : decode cX8_put 0 = .ok (.iload_n 1, 1) := by decide +kernel
theorem dX8_put_1 : decode cX8_put 1 = .ok (.invokestatic 107, 3) := by decide +kernel
theorem dX8_put_4 : decode cX8_put 4 = .ok (.aload_n 0, 1) := by decide +kernel
theorem dX8_put_5 : decode cX8_put 5 = .ok (.getfield 19, 3) := by decide +kernel
theorem dX8_put_8 : decode cX8_put 8 = .ok (.iload_n 2, 1) := by decide +kernel
theorem dX8_put_9 : decode cX8_put 9 = .ok (.i2l, 1) := by decide +kernel
theorem dX8_put_10 : decode cX8_put 10 = .ok (.invokevirtual 121, 3) := by decide +kernel
theorem dX8_put_13 : decode cX8_put 13 = .ok (.ifCond .eq 21, 3) := by decide +kernel
theorem dX8_put_16 : decode cX8_put 16 = .ok (.aload_n 0, 1) := by decide +kernel
theorem dX8_put_17 : decode cX8_put 17 = .ok (.getfield 19, 3) := by decide +kernel
theorem dX8_put_20 : decode cX8_put 20 = .ok (.aload_n 0, 1) := by decide +kernel
theorem dX8_put_21 : decode cX8_put 21 = .ok (.getfield 64, 3) := by decide +kernel
theorem dX8_put_24 : decode cX8_put 24 = .ok (.iload_n 1, 1) := by decide +kernel
theorem dX8_put_25 : decode cX8_put 25 = .ok (.laload, 1) := by decide +kernel
theorem dX8_put_26 : decode cX8_put 26 = .ok (.iload_n 2, 1) := by decide +kernel
theorem dX8_put_27 : decode cX8_put 27 = .ok (.invokevirtual 131, 3) := by decide +kernel
theorem dX8_put_30 : decode cX8_put 30 = .ok (.iload_n 3, 1) := by decide +kernel
theorem dX8_put_31 : decode cX8_put 31 = .ok (.if_icmp .ne 5, 3) := by decide +kernel
theorem dX8_put_34 : decode cX8_put 34 = .ok (.iconst 0, 1) := by decide +kernel
theorem dX8_put_35 : decode cX8_put 35 = .ok (.ireturn, 1) := by decide +kernel
theorem dX8_put_36 : decode cX8_put 36 = .ok (.aload_n 0, 1) := by decide +kernel
theorem dX8_put_37 : decode cX8_put 37 = .ok (.getfield 64, 3) := by decide +kernel
theorem dX8_put_40 : decode cX8_put 40 = .ok (.iload_n 1, 1) := by decide +kernel
theorem dX8_put_41 : decode cX8_put 41 = .ok (.dup2, 1) := by decide +kernel
theorem dX8_put_42 : decode cX8_put 42 = .ok (.laload, 1) := by decide +kernel
theorem dX8_put_43 : decode cX8_put 43 = .ok (.lconst 1, 1) := by decide +kernel
theorem dX8_put_44 : decode cX8_put 44 = .ok (.iload_n 2, 1) := by decide +kernel
theorem dX8_put_45 : decode cX8_put 45 = .ok (.lshl, 1) := by decide +kernel
theorem dX8_put_46 : decode cX8_put 46 = .ok (.lxor, 1) := by decide +kernel
theorem dX8_put_47 : decode cX8_put 47 = .ok (.lastore, 1) := by decide +kernel
theorem dX8_put_48 : decode cX8_put 48 = .ok (.iconst 1, 1) := by decide +kernel
theorem dX8_put_49 : decode cX8_put 49 = .ok (.ireturn, 1) := by decide +kernel
theorem dX8_has_0 : decode cX8_has 0 = .ok (.iload_n 1, 1) := by decide +kernel
theorem dX8_has_1 : decode cX8_has 1 = .ok (.invokestatic 107, 3) := by decide +kernel
theorem dX8_has_4 : decode cX8_has 4 = .ok (.aload_n 0, 1) := by decide +kernel
theorem dX8_has_5 : decode cX8_has 5 = .ok (.getfield 19, 3) := by decide +kernel
theorem dX8_has_8 : decode cX8_has 8 = .ok (.aload_n 0, 1) := by decide +kernel
theorem dX8_has_9 : decode cX8_has 9 = .ok (.getfield 64, 3) := by decide +kernel
theorem dX8_has_12 : decode cX8_has 12 = .ok (.iload_n 1, 1) := by decide +kernel
theorem dX8_has_13 : decode cX8_has 13 = .ok (.laload, 1) := by decide +kernel
theorem dX8_has_14 : decode cX8_has 14 = .ok (.iload_n 2, 1) := by decide +kernel
theorem dX8_has_15 : decode cX8_has 15 = .ok (.invokevirtual 131, 3) := by decide +kernel
theorem dX8_has_18 : decode cX8_has 18 = .ok (.ireturn, 1) := by decide +kernel
theorem dX8_size_0 : decode cX8_size 0 = .ok (.iload_n 1, 1) := by decide +kernel
theorem dX8_size_1 : decode cX8_size 1 = .ok (.invokestatic 107, 3) := by decide +kernel
theorem dX8_size_4 : decode cX8_size 4 = .ok (.aload_n 0, 1) := by decide +kernel
theorem dX8_size_5 : decode cX8_size 5 = .ok (.getfield 64, 3) := by decide +kernel
theorem dX8_size_8 : decode cX8_size 8 = .ok (.iload_n 1, 1) := by decide +kernel
theorem dX8_size_9 : decode cX8_size 9 = .ok (.laload, 1) := by decide +kernel
theorem dX8_size_10 : decode cX8_size 10 = .ok (.invokestatic 125, 3) := by decide +kernel
theorem dX8_size_13 : decode cX8_size 13 = .ok (.ireturn, 1) := by decide +kernel
theorem dX8_at_0 : decode cX8_at 0 = .ok (.iload_n 1, 1) := by decide +kernel
theorem dX8_at_1 : decode cX8_at 1 = .ok (.invokestatic 107, 3) := by decide +kernel
theorem dX8_at_4 : decode cX8_at 4 = .ok (.iload_n 2, 1) := by decide +kernel
theorem dX8_at_5 : decode cX8_at 5 = .ok (.ifCond .lt 16, 3) := by decide +kernel
theorem dX8_at_8 : decode cX8_at 8 = .ok (.iload_n 2, 1) := by decide +kernel
theorem dX8_at_9 : decode cX8_at 9 = .ok (.aload_n 0, 1) := by decide +kernel
theorem dX8_at_10 : decode cX8_at 10 = .ok (.getfield 64, 3) := by decide +kernel
theorem dX8_at_13 : decode cX8_at 13 = .ok (.iload_n 1, 1) := by decide +kernel
theorem dX8_at_14 : decode cX8_at 14 = .ok (.laload, 1) := by decide +kernel
theorem dX8_at_15 : decode cX8_at 15 = .ok (.invokestatic 125, 3) := by decide +kernel
theorem dX8_at_18 : decode cX8_at 18 = .ok (.if_icmp .lt 13, 3) := by decide +kernel
theorem dX8_at_21 : decode cX8_at 21 = .ok (.new 135, 3) := by decide +kernel
theorem dX8_at_24 : decode cX8_at 24 = .ok (.dup, 1) := by decide +kernel
theorem dX8_at_25 : decode cX8_at 25 = .ok (.ldc 137, 2) := by decide +kernel
theorem dX8_at_27 : decode cX8_at 27 = .ok (.invokespecial 139, 3) := by decide +kernel
theorem dX8_at_30 : decode cX8_at 30 = .ok (.athrow, 1) := by decide +kernel
theorem dX8_at_31 : decode cX8_at 31 = .ok (.aload_n 0, 1) := by decide +kernel
theorem dX8_at_32 : decode cX8_at 32 = .ok (.getfield 64, 3) := by decide +kernel
theorem dX8_at_35 : decode cX8_at 35 = .ok (.iload_n 1, 1) := by decide +kernel
theorem dX8_at_36 : decode cX8_at 36 = .ok (.laload, 1) := by decide +kernel
theorem dX8_at_37 : decode cX8_at 37 = .ok (.iload_n 2, 1) := by decide +kernel
theorem dX8_at_38 : decode cX8_at 38 = .ok (.invokestatic 140, 3) := by decide +kernel
theorem dX8_at_41 : decode cX8_at 41 = .ok (.ireturn, 1) := by decide +kernel
theorem dX8_law_0 : decode cX8_law 0 = .ok (.aload_n 0, 1) := by decide +kernel
theorem dX8_law_1 : decode cX8_law 1 = .ok (.getfield 28, 3) := by decide +kernel
theorem dX8_law_4 : decode cX8_law 4 = .ok (.getfield 144, 3) := by decide +kernel
theorem dX8_law_7 : decode cX8_law 7 = .ok (.bipush 6, 2) := by decide +kernel
theorem dX8_law_9 : decode cX8_law 9 = .ok (.if_icmp .ge 14, 3) := by decide +kernel
theorem dX8_law_12 : decode cX8_law 12 = .ok (.iload_n 1, 1) := by decide +kernel
theorem dX8_law_13 : decode cX8_law 13 = .ok (.iload_n 2, 1) := by decide +kernel
theorem dX8_law_14 : decode cX8_law 14 = .ok (.iload_n 3, 1) := by decide +kernel
theorem dX8_law_15 : decode cX8_law 15 = .ok (.iload 4, 2) := by decide +kernel
theorem dX8_law_17 : decode cX8_law 17 = .ok (.invokestatic 147, 3) := by decide +kernel
theorem dX8_law_20 : decode cX8_law 20 = .ok (.ifCond .ne 5, 3) := by decide +kernel
theorem dX8_law_23 : decode cX8_law 23 = .ok (.iconst (-1), 1) := by decide +kernel
theorem dX8_law_24 : decode cX8_law 24 = .ok (.ireturn, 1) := by decide +kernel
theorem dX8_law_25 : decode cX8_law 25 = .ok (.aload_n 0, 1) := by decide +kernel
theorem dX8_law_26 : decode cX8_law 26 = .ok (.getfield 28, 3) := by decide +kernel
theorem dX8_law_29 : decode cX8_law 29 = .ok (.iload_n 1, 1) := by decide +kernel
theorem dX8_law_30 : decode cX8_law 30 = .ok (.iload_n 2, 1) := by decide +kernel
theorem dX8_law_31 : decode cX8_law 31 = .ok (.iload_n 3, 1) := by decide +kernel
theorem dX8_law_32 : decode cX8_law 32 = .ok (.iload 4, 2) := by decide +kernel
theorem dX8_law_34 : decode cX8_law 34 = .ok (.iload 5, 2) := by decide +kernel
theorem dX8_law_36 : decode cX8_law 36 = .ok (.invokevirtual 153, 3) := by decide +kernel
theorem dX8_law_39 : decode cX8_law 39 = .ok (.ireturn, 1) := by decide +kernel
theorem dX8_drop_0 : decode cX8_drop 0 = .ok (.aload_n 0, 1) := by decide +kernel
theorem dX8_drop_1 : decode cX8_drop 1 = .ok (.getfield 28, 3) := by decide +kernel
theorem dX8_drop_4 : decode cX8_drop 4 = .ok (.getfield 144, 3) := by decide +kernel
theorem dX8_drop_7 : decode cX8_drop 7 = .ok (.istore_n 1, 1) := by decide +kernel
theorem dX8_drop_8 : decode cX8_drop 8 = .ok (.aload_n 0, 1) := by decide +kernel
theorem dX8_drop_9 : decode cX8_drop 9 = .ok (.getfield 28, 3) := by decide +kernel
theorem dX8_drop_12 : decode cX8_drop 12 = .ok (.invokevirtual 97, 3) := by decide +kernel
theorem dX8_drop_15 : decode cX8_drop 15 = .ok (.iload_n 1, 1) := by decide +kernel
theorem dX8_drop_16 : decode cX8_drop 16 = .ok (.ireturn, 1) := by decide +kernel
theorem dX8_clash_0 : decode cX8_clash 0 = .ok (.iload_n 1, 1) := by decide +kernel
theorem dX8_clash_1 : decode cX8_clash 1 = .ok (.invokestatic 107, 3) := by decide +kernel
theorem dX8_clash_4 : decode cX8_clash 4 = .ok (.aload_n 0, 1) := by decide +kernel
theorem dX8_clash_5 : decode cX8_clash 5 = .ok (.getfield 28, 3) := by decide +kernel
theorem dX8_clash_8 : decode cX8_clash 8 = .ok (.aload_n 0, 1) := by decide +kernel
theorem dX8_clash_9 : decode cX8_clash 9 = .ok (.getfield 64, 3) := by decide +kernel
theorem dX8_clash_12 : decode cX8_clash 12 = .ok (.iload_n 1, 1) := by decide +kernel
theorem dX8_clash_13 : decode cX8_clash 13 = .ok (.laload, 1) := by decide +kernel
theorem dX8_clash_14 : decode cX8_clash 14 = .ok (.invokevirtual 157, 3) := by decide +kernel
theorem dX8_clash_17 : decode cX8_clash 17 = .ok (.istore_n 2, 1) := by decide +kernel
theorem dX8_clash_18 : decode cX8_clash 18 = .ok (.iload_n 2, 1) := by decide +kernel
theorem dX8_clash_19 : decode cX8_clash 19 = .ok (.iconst (-1), 1) := by decide +kernel
theorem dX8_clash_20 : decode cX8_clash 20 = .ok (.if_icmp .eq 25, 3) := by decide +kernel
theorem dX8_clash_23 : decode cX8_clash 23 = .ok (.aload_n 0, 1) := by decide +kernel
theorem dX8_clash_24 : decode cX8_clash 24 = .ok (.getfield 28, 3) := by decide +kernel
theorem dX8_clash_27 : decode cX8_clash 27 = .ok (.getfield 160, 3) := by decide +kernel
theorem dX8_clash_30 : decode cX8_clash 30 = .ok (.iconst 0, 1) := by decide +kernel
theorem dX8_clash_31 : decode cX8_clash 31 = .ok (.aload_n 0, 1) := by decide +kernel
theorem dX8_clash_32 : decode cX8_clash 32 = .ok (.getfield 68, 3) := by decide +kernel
theorem dX8_clash_35 : decode cX8_clash 35 = .ok (.iconst 0, 1) := by decide +kernel
theorem dX8_clash_36 : decode cX8_clash 36 = .ok (.iconst 4, 1) := by decide +kernel
theorem dX8_clash_37 : decode cX8_clash 37 = .ok (.invokestatic 163, 3) := by decide +kernel
theorem dX8_clash_40 : decode cX8_clash 40 = .ok (.aload_n 0, 1) := by decide +kernel
theorem dX8_clash_41 : decode cX8_clash 41 = .ok (.iconst 1, 1) := by decide +kernel
theorem dX8_clash_42 : decode cX8_clash 42 = .ok (.putfield 72, 3) := by decide +kernel
theorem dX8_clash_45 : decode cX8_clash 45 = .ok (.iload_n 2, 1) := by decide +kernel
theorem dX8_clash_46 : decode cX8_clash 46 = .ok (.ireturn, 1) := by decide +kernel
theorem dX8_witness_0 : decode cX8_witness 0 = .ok (.aload_n 0, 1) := by decide +kernel
theorem dX8_witness_1 : decode cX8_witness 1 = .ok (.getfield 72, 3) := by decide +kernel
theorem dX8_witness_4 : decode cX8_witness 4 = .ok (.ifCond .eq 12, 3) := by decide +kernel
theorem dX8_witness_7 : decode cX8_witness 7 = .ok (.iload_n 1, 1) := by decide +kernel
theorem dX8_witness_8 : decode cX8_witness 8 = .ok (.ifCond .lt 8, 3) := by decide +kernel
theorem dX8_witness_11 : decode cX8_witness 11 = .ok (.iload_n 1, 1) := by decide +kernel
theorem dX8_witness_12 : decode cX8_witness 12 = .ok (.iconst 4, 1) := by decide +kernel
theorem dX8_witness_13 : decode cX8_witness 13 = .ok (.if_icmp .lt 13, 3) := by decide +kernel
theorem dX8_witness_16 : decode cX8_witness 16 = .ok (.new 135, 3) := by decide +kernel
theorem dX8_witness_19 : decode cX8_witness 19 = .ok (.dup, 1) := by decide +kernel
theorem dX8_witness_20 : decode cX8_witness 20 = .ok (.ldc 169, 2) := by decide +kernel
theorem dX8_witness_22 : decode cX8_witness 22 = .ok (.invokespecial 139, 3) := by decide +kernel
theorem dX8_witness_25 : decode cX8_witness 25 = .ok (.athrow, 1) := by decide +kernel
theorem dX8_witness_26 : decode cX8_witness 26 = .ok (.aload_n 0, 1) := by decide +kernel
theorem dX8_witness_27 : decode cX8_witness 27 = .ok (.getfield 68, 3) := by decide +kernel
theorem dX8_witness_30 : decode cX8_witness 30 = .ok (.iload_n 1, 1) := by decide +kernel
theorem dX8_witness_31 : decode cX8_witness 31 = .ok (.iaload, 1) := by decide +kernel
theorem dX8_witness_32 : decode cX8_witness 32 = .ok (.ireturn, 1) := by decide +kernel
theorem dX8_room_0 : decode cX8_room 0 = .ok (.iload_n 1, 1) := by decide +kernel
theorem dX8_room_1 : decode cX8_room 1 = .ok (.invokestatic 107, 3) := by decide +kernel
theorem dX8_room_4 : decode cX8_room 4 = .ok (.aload_n 0, 1) := by decide +kernel
theorem dX8_room_5 : decode cX8_room 5 = .ok (.getfield 28, 3) := by decide +kernel
theorem dX8_room_8 : decode cX8_room 8 = .ok (.aload_n 0, 1) := by decide +kernel
theorem dX8_room_9 : decode cX8_room 9 = .ok (.getfield 64, 3) := by decide +kernel
theorem dX8_room_12 : decode cX8_room 12 = .ok (.iload_n 1, 1) := by decide +kernel
theorem dX8_room_13 : decode cX8_room 13 = .ok (.laload, 1) := by decide +kernel
theorem dX8_room_14 : decode cX8_room 14 = .ok (.invokevirtual 157, 3) := by decide +kernel
theorem dX8_room_17 : decode cX8_room 17 = .ok (.iconst (-1), 1) := by decide +kernel
theorem dX8_room_18 : decode cX8_room 18 = .ok (.if_icmp .eq 6, 3) := by decide +kernel
theorem dX8_room_21 : decode cX8_room 21 = .ok (.bipush (-2), 2) := by decide +kernel
theorem dX8_room_23 : decode cX8_room 23 = .ok (.ireturn, 1) := by decide +kernel
theorem dX8_room_24 : decode cX8_room 24 = .ok (.aload_n 0, 1) := by decide +kernel
theorem dX8_room_25 : decode cX8_room 25 = .ok (.getfield 28, 3) := by decide +kernel
theorem dX8_room_28 : decode cX8_room 28 = .ok (.invokevirtual 171, 3) := by decide +kernel
theorem dX8_room_31 : decode cX8_room 31 = .ok (.aload_n 0, 1) := by decide +kernel
theorem dX8_room_32 : decode cX8_room 32 = .ok (.getfield 19, 3) := by decide +kernel
theorem dX8_room_35 : decode cX8_room 35 = .ok (.getfield 174, 3) := by decide +kernel
theorem dX8_room_38 : decode cX8_room 38 = .ok (.istore_n 2, 1) := by decide +kernel
theorem dX8_room_39 : decode cX8_room 39 = .ok (.iload_n 2, 1) := by decide +kernel
theorem dX8_room_40 : decode cX8_room 40 = .ok (.aload_n 0, 1) := by decide +kernel
theorem dX8_room_41 : decode cX8_room 41 = .ok (.getfield 19, 3) := by decide +kernel
theorem dX8_room_44 : decode cX8_room 44 = .ok (.getfield 177, 3) := by decide +kernel
theorem dX8_room_47 : decode cX8_room 47 = .ok (.if_icmp .gt 45, 3) := by decide +kernel
theorem dX8_room_50 : decode cX8_room 50 = .ok (.aload_n 0, 1) := by decide +kernel
theorem dX8_room_51 : decode cX8_room 51 = .ok (.getfield 19, 3) := by decide +kernel
theorem dX8_room_54 : decode cX8_room 54 = .ok (.aload_n 0, 1) := by decide +kernel
theorem dX8_room_55 : decode cX8_room 55 = .ok (.getfield 64, 3) := by decide +kernel
theorem dX8_room_58 : decode cX8_room 58 = .ok (.iload_n 1, 1) := by decide +kernel
theorem dX8_room_59 : decode cX8_room 59 = .ok (.laload, 1) := by decide +kernel
theorem dX8_room_60 : decode cX8_room 60 = .ok (.iload_n 2, 1) := by decide +kernel
theorem dX8_room_61 : decode cX8_room 61 = .ok (.invokevirtual 131, 3) := by decide +kernel
theorem dX8_room_64 : decode cX8_room 64 = .ok (.ifCond .ne 22, 3) := by decide +kernel
theorem dX8_room_67 : decode cX8_room 67 = .ok (.aload_n 0, 1) := by decide +kernel
theorem dX8_room_68 : decode cX8_room 68 = .ok (.getfield 28, 3) := by decide +kernel
theorem dX8_room_71 : decode cX8_room 71 = .ok (.aload_n 0, 1) := by decide +kernel
theorem dX8_room_72 : decode cX8_room 72 = .ok (.getfield 64, 3) := by decide +kernel
theorem dX8_room_75 : decode cX8_room 75 = .ok (.iload_n 1, 1) := by decide +kernel
theorem dX8_room_76 : decode cX8_room 76 = .ok (.laload, 1) := by decide +kernel
theorem dX8_room_77 : decode cX8_room 77 = .ok (.iload_n 2, 1) := by decide +kernel
theorem dX8_room_78 : decode cX8_room 78 = .ok (.invokevirtual 180, 3) := by decide +kernel
theorem dX8_room_81 : decode cX8_room 81 = .ok (.ifCond .eq 5, 3) := by decide +kernel
theorem dX8_room_84 : decode cX8_room 84 = .ok (.iload_n 2, 1) := by decide +kernel
theorem dX8_room_85 : decode cX8_room 85 = .ok (.ireturn, 1) := by decide +kernel
theorem dX8_room_86 : decode cX8_room 86 = .ok (.iinc 2 1, 3) := by decide +kernel
theorem dX8_room_89 : decode cX8_room 89 = .ok (.goto (-50), 3) := by decide +kernel
theorem dX8_room_92 : decode cX8_room 92 = .ok (.iconst (-1), 1) := by decide +kernel
theorem dX8_room_93 : decode cX8_room 93 = .ok (.ireturn, 1) := by decide +kernel
theorem dX8_greatest_0 : decode cX8_greatest 0 = .ok (.iload_n 1, 1) := by decide +kernel
theorem dX8_greatest_1 : decode cX8_greatest 1 = .ok (.invokestatic 107, 3) := by decide +kernel
theorem dX8_greatest_4 : decode cX8_greatest 4 = .ok (.iload_n 2, 1) := by decide +kernel
theorem dX8_greatest_5 : decode cX8_greatest 5 = .ok (.invokestatic 183, 3) := by decide +kernel
theorem dX8_greatest_8 : decode cX8_greatest 8 = .ok (.aload_n 0, 1) := by decide +kernel
theorem dX8_greatest_9 : decode cX8_greatest 9 = .ok (.getfield 44, 3) := by decide +kernel
theorem dX8_greatest_12 : decode cX8_greatest 12 = .ok (.iconst 0, 1) := by decide +kernel
theorem dX8_greatest_13 : decode cX8_greatest 13 = .ok (.iconst 0, 1) := by decide +kernel
theorem dX8_greatest_14 : decode cX8_greatest 14 = .ok (.iload_n 2, 1) := by decide +kernel
theorem dX8_greatest_15 : decode cX8_greatest 15 = .ok (.invokevirtual 186, 3) := by decide +kernel
theorem dX8_greatest_18 : decode cX8_greatest 18 = .ok (.aload_n 0, 1) := by decide +kernel
theorem dX8_greatest_19 : decode cX8_greatest 19 = .ok (.aload_n 0, 1) := by decide +kernel
theorem dX8_greatest_20 : decode cX8_greatest 20 = .ok (.getfield 44, 3) := by decide +kernel
theorem dX8_greatest_23 : decode cX8_greatest 23 = .ok (.getfield 190, 3) := by decide +kernel
theorem dX8_greatest_26 : decode cX8_greatest 26 = .ok (.putfield 82, 3) := by decide +kernel
theorem dX8_greatest_29 : decode cX8_greatest 29 = .ok (.aload_n 0, 1) := by decide +kernel
theorem dX8_greatest_30 : decode cX8_greatest 30 = .ok (.getfield 44, 3) := by decide +kernel
theorem dX8_greatest_33 : decode cX8_greatest 33 = .ok (.getfield 191, 3) := by decide +kernel
theorem dX8_greatest_36 : decode cX8_greatest 36 = .ok (.iconst (-1), 1) := by decide +kernel
theorem dX8_greatest_37 : decode cX8_greatest 37 = .ok (.if_icmp .ne 5, 3) := by decide +kernel
theorem dX8_greatest_40 : decode cX8_greatest 40 = .ok (.iconst (-1), 1) := by decide +kernel
theorem dX8_greatest_41 : decode cX8_greatest 41 = .ok (.ireturn, 1) := by decide +kernel
theorem dX8_greatest_42 : decode cX8_greatest 42 = .ok (.aload_n 0, 1) := by decide +kernel
theorem dX8_greatest_43 : decode cX8_greatest 43 = .ok (.getfield 64, 3) := by decide +kernel
theorem dX8_greatest_46 : decode cX8_greatest 46 = .ok (.iload_n 1, 1) := by decide +kernel
theorem dX8_greatest_47 : decode cX8_greatest 47 = .ok (.aload_n 0, 1) := by decide +kernel
theorem dX8_greatest_48 : decode cX8_greatest 48 = .ok (.getfield 44, 3) := by decide +kernel
theorem dX8_greatest_51 : decode cX8_greatest 51 = .ok (.getfield 194, 3) := by decide +kernel
theorem dX8_greatest_54 : decode cX8_greatest 54 = .ok (.lastore, 1) := by decide +kernel
theorem dX8_greatest_55 : decode cX8_greatest 55 = .ok (.aload_n 0, 1) := by decide +kernel
theorem dX8_greatest_56 : decode cX8_greatest 56 = .ok (.getfield 44, 3) := by decide +kernel
theorem dX8_greatest_59 : decode cX8_greatest 59 = .ok (.getfield 198, 3) := by decide +kernel
theorem dX8_greatest_62 : decode cX8_greatest 62 = .ok (.ifCond .eq 15, 3) := by decide +kernel
theorem dX8_greatest_65 : decode cX8_greatest 65 = .ok (.iconst (-1), 1) := by decide +kernel
theorem dX8_greatest_66 : decode cX8_greatest 66 = .ok (.aload_n 0, 1) := by decide +kernel
theorem dX8_greatest_67 : decode cX8_greatest 67 = .ok (.getfield 44, 3) := by decide +kernel
theorem dX8_greatest_70 : decode cX8_greatest 70 = .ok (.getfield 191, 3) := by decide +kernel
theorem dX8_greatest_73 : decode cX8_greatest 73 = .ok (.isub, 1) := by decide +kernel
theorem dX8_greatest_74 : decode cX8_greatest 74 = .ok (.goto 10, 3) := by decide +kernel
theorem dX8_greatest_77 : decode cX8_greatest 77 = .ok (.aload_n 0, 1) := by decide +kernel
theorem dX8_greatest_78 : decode cX8_greatest 78 = .ok (.getfield 44, 3) := by decide +kernel
theorem dX8_greatest_81 : decode cX8_greatest 81 = .ok (.getfield 191, 3) := by decide +kernel
theorem dX8_greatest_84 : decode cX8_greatest 84 = .ok (.ireturn, 1) := by decide +kernel
theorem dX8_list_0 : decode cX8_list 0 = .ok (.iload_n 1, 1) := by decide +kernel
theorem dX8_list_1 : decode cX8_list 1 = .ok (.invokestatic 183, 3) := by decide +kernel
theorem dX8_list_4 : decode cX8_list 4 = .ok (.aload_n 0, 1) := by decide +kernel
theorem dX8_list_5 : decode cX8_list 5 = .ok (.getfield 35, 3) := by decide +kernel
theorem dX8_list_8 : decode cX8_list 8 = .ok (.invokevirtual 100, 3) := by decide +kernel
theorem dX8_list_11 : decode cX8_list 11 = .ok (.aload_n 0, 1) := by decide +kernel
theorem dX8_list_12 : decode cX8_list 12 = .ok (.getfield 44, 3) := by decide +kernel
theorem dX8_list_15 : decode cX8_list 15 = .ok (.iconst 0, 1) := by decide +kernel
theorem dX8_list_16 : decode cX8_list 16 = .ok (.iconst 0, 1) := by decide +kernel
theorem dX8_list_17 : decode cX8_list 17 = .ok (.iload_n 1, 1) := by decide +kernel
theorem dX8_list_18 : decode cX8_list 18 = .ok (.invokevirtual 186, 3) := by decide +kernel
theorem dX8_list_21 : decode cX8_list 21 = .ok (.aload_n 0, 1) := by decide +kernel
theorem dX8_list_22 : decode cX8_list 22 = .ok (.aload_n 0, 1) := by decide +kernel
theorem dX8_list_23 : decode cX8_list 23 = .ok (.getfield 44, 3) := by decide +kernel
theorem dX8_list_26 : decode cX8_list 26 = .ok (.getfield 190, 3) := by decide +kernel
theorem dX8_list_29 : decode cX8_list 29 = .ok (.putfield 82, 3) := by decide +kernel
theorem dX8_list_32 : decode cX8_list 32 = .ok (.aload_n 0, 1) := by decide +kernel
theorem dX8_list_33 : decode cX8_list 33 = .ok (.getfield 44, 3) := by decide +kernel
theorem dX8_list_36 : decode cX8_list 36 = .ok (.getfield 198, 3) := by decide +kernel
theorem dX8_list_39 : decode cX8_list 39 = .ok (.ifCond .eq 5, 3) := by decide +kernel
theorem dX8_list_42 : decode cX8_list 42 = .ok (.iconst (-1), 1) := by decide +kernel
theorem dX8_list_43 : decode cX8_list 43 = .ok (.ireturn, 1) := by decide +kernel
theorem dX8_list_44 : decode cX8_list 44 = .ok (.aload_n 0, 1) := by decide +kernel
theorem dX8_list_45 : decode cX8_list 45 = .ok (.getfield 44, 3) := by decide +kernel
theorem dX8_list_48 : decode cX8_list 48 = .ok (.iconst 1, 1) := by decide +kernel
theorem dX8_list_49 : decode cX8_list 49 = .ok (.aload_n 0, 1) := by decide +kernel
theorem dX8_list_50 : decode cX8_list 50 = .ok (.getfield 44, 3) := by decide +kernel
theorem dX8_list_53 : decode cX8_list 53 = .ok (.getfield 191, 3) := by decide +kernel
theorem dX8_list_56 : decode cX8_list 56 = .ok (.iload_n 1, 1) := by decide +kernel
theorem dX8_list_57 : decode cX8_list 57 = .ok (.invokevirtual 186, 3) := by decide +kernel
theorem dX8_list_60 : decode cX8_list 60 = .ok (.aload_n 0, 1) := by decide +kernel
theorem dX8_list_61 : decode cX8_list 61 = .ok (.dup, 1) := by decide +kernel
theorem dX8_list_62 : decode cX8_list 62 = .ok (.getfield 82, 3) := by decide +kernel
theorem dX8_list_65 : decode cX8_list 65 = .ok (.aload_n 0, 1) := by decide +kernel
theorem dX8_list_66 : decode cX8_list 66 = .ok (.getfield 44, 3) := by decide +kernel
theorem dX8_list_69 : decode cX8_list 69 = .ok (.getfield 190, 3) := by decide +kernel
theorem dX8_list_72 : decode cX8_list 72 = .ok (.iadd, 1) := by decide +kernel
theorem dX8_list_73 : decode cX8_list 73 = .ok (.putfield 82, 3) := by decide +kernel
theorem dX8_list_76 : decode cX8_list 76 = .ok (.aload_n 0, 1) := by decide +kernel
theorem dX8_list_77 : decode cX8_list 77 = .ok (.getfield 44, 3) := by decide +kernel
theorem dX8_list_80 : decode cX8_list 80 = .ok (.getfield 198, 3) := by decide +kernel
theorem dX8_list_83 : decode cX8_list 83 = .ok (.ifCond .ne 13, 3) := by decide +kernel
theorem dX8_list_86 : decode cX8_list 86 = .ok (.aload_n 0, 1) := by decide +kernel
theorem dX8_list_87 : decode cX8_list 87 = .ok (.getfield 44, 3) := by decide +kernel
theorem dX8_list_90 : decode cX8_list 90 = .ok (.getfield 201, 3) := by decide +kernel
theorem dX8_list_93 : decode cX8_list 93 = .ok (.ifCond .eq 27, 3) := by decide +kernel
theorem dX8_list_96 : decode cX8_list 96 = .ok (.aload_n 0, 1) := by decide +kernel
theorem dX8_list_97 : decode cX8_list 97 = .ok (.getfield 35, 3) := by decide +kernel
theorem dX8_list_100 : decode cX8_list 100 = .ok (.invokevirtual 100, 3) := by decide +kernel
theorem dX8_list_103 : decode cX8_list 103 = .ok (.aload_n 0, 1) := by decide +kernel
theorem dX8_list_104 : decode cX8_list 104 = .ok (.getfield 44, 3) := by decide +kernel
theorem dX8_list_107 : decode cX8_list 107 = .ok (.getfield 201, 3) := by decide +kernel
theorem dX8_list_110 : decode cX8_list 110 = .ok (.ifCond .eq 8, 3) := by decide +kernel
theorem dX8_list_113 : decode cX8_list 113 = .ok (.bipush (-2), 2) := by decide +kernel
theorem dX8_list_115 : decode cX8_list 115 = .ok (.goto 4, 3) := by decide +kernel
theorem dX8_list_118 : decode cX8_list 118 = .ok (.iconst (-1), 1) := by decide +kernel
theorem dX8_list_119 : decode cX8_list 119 = .ok (.ireturn, 1) := by decide +kernel
theorem dX8_list_120 : decode cX8_list 120 = .ok (.aload_n 0, 1) := by decide +kernel
theorem dX8_list_121 : decode cX8_list 121 = .ok (.getfield 35, 3) := by decide +kernel
theorem dX8_list_124 : decode cX8_list 124 = .ok (.getfield 204, 3) := by decide +kernel
theorem dX8_list_127 : decode cX8_list 127 = .ok (.ireturn, 1) := by decide +kernel
theorem dX8_listed_0 : decode cX8_listed 0 = .ok (.iload_n 1, 1) := by decide +kernel
theorem dX8_listed_1 : decode cX8_listed 1 = .ok (.invokestatic 107, 3) := by decide +kernel
theorem dX8_listed_4 : decode cX8_listed 4 = .ok (.iload_n 2, 1) := by decide +kernel
theorem dX8_listed_5 : decode cX8_listed 5 = .ok (.ifCond .lt 14, 3) := by decide +kernel
theorem dX8_listed_8 : decode cX8_listed 8 = .ok (.iload_n 2, 1) := by decide +kernel
theorem dX8_listed_9 : decode cX8_listed 9 = .ok (.aload_n 0, 1) := by decide +kernel
theorem dX8_listed_10 : decode cX8_listed 10 = .ok (.getfield 35, 3) := by decide +kernel
theorem dX8_listed_13 : decode cX8_listed 13 = .ok (.getfield 204, 3) := by decide +kernel
theorem dX8_listed_16 : decode cX8_listed 16 = .ok (.if_icmp .lt 5, 3) := by decide +kernel
theorem dX8_listed_19 : decode cX8_listed 19 = .ok (.iconst (-1), 1) := by decide +kernel
theorem dX8_listed_20 : decode cX8_listed 20 = .ok (.ireturn, 1) := by decide +kernel
theorem dX8_listed_21 : decode cX8_listed 21 = .ok (.aload_n 0, 1) := by decide +kernel
theorem dX8_listed_22 : decode cX8_listed 22 = .ok (.getfield 64, 3) := by decide +kernel
theorem dX8_listed_25 : decode cX8_listed 25 = .ok (.iload_n 1, 1) := by decide +kernel
theorem dX8_listed_26 : decode cX8_listed 26 = .ok (.aload_n 0, 1) := by decide +kernel
theorem dX8_listed_27 : decode cX8_listed 27 = .ok (.getfield 35, 3) := by decide +kernel
theorem dX8_listed_30 : decode cX8_listed 30 = .ok (.getfield 205, 3) := by decide +kernel
theorem dX8_listed_33 : decode cX8_listed 33 = .ok (.iload_n 2, 1) := by decide +kernel
theorem dX8_listed_34 : decode cX8_listed 34 = .ok (.laload, 1) := by decide +kernel
theorem dX8_listed_35 : decode cX8_listed 35 = .ok (.lastore, 1) := by decide +kernel
theorem dX8_listed_36 : decode cX8_listed 36 = .ok (.aload_n 0, 1) := by decide +kernel
theorem dX8_listed_37 : decode cX8_listed 37 = .ok (.getfield 64, 3) := by decide +kernel
theorem dX8_listed_40 : decode cX8_listed 40 = .ok (.iload_n 1, 1) := by decide +kernel
theorem dX8_listed_41 : decode cX8_listed 41 = .ok (.laload, 1) := by decide +kernel
theorem dX8_listed_42 : decode cX8_listed 42 = .ok (.invokestatic 125, 3) := by decide +kernel
theorem dX8_listed_45 : decode cX8_listed 45 = .ok (.ireturn, 1) := by decide +kernel
theorem dX8_kinds_0 : decode cX8_kinds 0 = .ok (.iload_n 1, 1) := by decide +kernel
theorem dX8_kinds_1 : decode cX8_kinds 1 = .ok (.invokestatic 208, 3) := by decide +kernel
theorem dX8_kinds_4 : decode cX8_kinds 4 = .ok (.aload_n 0, 1) := by decide +kernel
theorem dX8_kinds_5 : decode cX8_kinds 5 = .ok (.getfield 35, 3) := by decide +kernel
theorem dX8_kinds_8 : decode cX8_kinds 8 = .ok (.iload_n 1, 1) := by decide +kernel
theorem dX8_kinds_9 : decode cX8_kinds 9 = .ok (.invokevirtual 211, 3) := by decide +kernel
theorem dX8_kinds_12 : decode cX8_kinds 12 = .ok (.aload_n 0, 1) := by decide +kernel
theorem dX8_kinds_13 : decode cX8_kinds 13 = .ok (.getfield 35, 3) := by decide +kernel
theorem dX8_kinds_16 : decode cX8_kinds 16 = .ok (.getfield 214, 3) := by decide +kernel
theorem dX8_kinds_19 : decode cX8_kinds 19 = .ok (.ireturn, 1) := by decide +kernel
theorem dX8_kind_0 : decode cX8_kind 0 = .ok (.iload_n 1, 1) := by decide +kernel
theorem dX8_kind_1 : decode cX8_kind 1 = .ok (.invokestatic 208, 3) := by decide +kernel
theorem dX8_kind_4 : decode cX8_kind 4 = .ok (.aload_n 0, 1) := by decide +kernel
theorem dX8_kind_5 : decode cX8_kind 5 = .ok (.getfield 35, 3) := by decide +kernel
theorem dX8_kind_8 : decode cX8_kind 8 = .ok (.iload_n 1, 1) := by decide +kernel
theorem dX8_kind_9 : decode cX8_kind 9 = .ok (.invokevirtual 211, 3) := by decide +kernel
theorem dX8_kind_12 : decode cX8_kind 12 = .ok (.iload_n 2, 1) := by decide +kernel
theorem dX8_kind_13 : decode cX8_kind 13 = .ok (.ifCond .lt 14, 3) := by decide +kernel
theorem dX8_kind_16 : decode cX8_kind 16 = .ok (.iload_n 2, 1) := by decide +kernel
theorem dX8_kind_17 : decode cX8_kind 17 = .ok (.aload_n 0, 1) := by decide +kernel
theorem dX8_kind_18 : decode cX8_kind 18 = .ok (.getfield 35, 3) := by decide +kernel
theorem dX8_kind_21 : decode cX8_kind 21 = .ok (.getfield 214, 3) := by decide +kernel
theorem dX8_kind_24 : decode cX8_kind 24 = .ok (.if_icmp .lt 5, 3) := by decide +kernel
theorem dX8_kind_27 : decode cX8_kind 27 = .ok (.iconst (-1), 1) := by decide +kernel
theorem dX8_kind_28 : decode cX8_kind 28 = .ok (.ireturn, 1) := by decide +kernel
theorem dX8_kind_29 : decode cX8_kind 29 = .ok (.iload_n 3, 1) := by decide +kernel
theorem dX8_kind_30 : decode cX8_kind 30 = .ok (.tableswitch 56 0 2 #[26, 36, 46], 26) := by decide +kernel
theorem dX8_kind_56 : decode cX8_kind 56 = .ok (.aload_n 0, 1) := by decide +kernel
theorem dX8_kind_57 : decode cX8_kind 57 = .ok (.getfield 35, 3) := by decide +kernel
theorem dX8_kind_60 : decode cX8_kind 60 = .ok (.getfield 217, 3) := by decide +kernel
theorem dX8_kind_63 : decode cX8_kind 63 = .ok (.iload_n 2, 1) := by decide +kernel
theorem dX8_kind_64 : decode cX8_kind 64 = .ok (.iaload, 1) := by decide +kernel
theorem dX8_kind_65 : decode cX8_kind 65 = .ok (.ireturn, 1) := by decide +kernel
theorem dX8_kind_66 : decode cX8_kind 66 = .ok (.aload_n 0, 1) := by decide +kernel
theorem dX8_kind_67 : decode cX8_kind 67 = .ok (.getfield 35, 3) := by decide +kernel
theorem dX8_kind_70 : decode cX8_kind 70 = .ok (.getfield 220, 3) := by decide +kernel
theorem dX8_kind_73 : decode cX8_kind 73 = .ok (.iload_n 2, 1) := by decide +kernel
theorem dX8_kind_74 : decode cX8_kind 74 = .ok (.iaload, 1) := by decide +kernel
theorem dX8_kind_75 : decode cX8_kind 75 = .ok (.ireturn, 1) := by decide +kernel
theorem dX8_kind_76 : decode cX8_kind 76 = .ok (.aload_n 0, 1) := by decide +kernel
theorem dX8_kind_77 : decode cX8_kind 77 = .ok (.getfield 35, 3) := by decide +kernel
theorem dX8_kind_80 : decode cX8_kind 80 = .ok (.getfield 223, 3) := by decide +kernel
theorem dX8_kind_83 : decode cX8_kind 83 = .ok (.iload_n 2, 1) := by decide +kernel
theorem dX8_kind_84 : decode cX8_kind 84 = .ok (.iaload, 1) := by decide +kernel
theorem dX8_kind_85 : decode cX8_kind 85 = .ok (.ireturn, 1) := by decide +kernel
theorem dX8_kind_86 : decode cX8_kind 86 = .ok (.iconst (-1), 1) := by decide +kernel
theorem dX8_kind_87 : decode cX8_kind 87 = .ok (.ireturn, 1) := by decide +kernel
theorem dX8_count_0 : decode cX8_count 0 = .ok (.iload_n 1, 1) := by decide +kernel
theorem dX8_count_1 : decode cX8_count 1 = .ok (.invokestatic 183, 3) := by decide +kernel
theorem dX8_count_4 : decode cX8_count 4 = .ok (.aload_n 0, 1) := by decide +kernel
theorem dX8_count_5 : decode cX8_count 5 = .ok (.getfield 44, 3) := by decide +kernel
theorem dX8_count_8 : decode cX8_count 8 = .ok (.iconst 2, 1) := by decide +kernel
theorem dX8_count_9 : decode cX8_count 9 = .ok (.iconst 0, 1) := by decide +kernel
theorem dX8_count_10 : decode cX8_count 10 = .ok (.iload_n 1, 1) := by decide +kernel
theorem dX8_count_11 : decode cX8_count 11 = .ok (.invokevirtual 186, 3) := by decide +kernel
theorem dX8_count_14 : decode cX8_count 14 = .ok (.aload_n 0, 1) := by decide +kernel
theorem dX8_count_15 : decode cX8_count 15 = .ok (.aload_n 0, 1) := by decide +kernel
theorem dX8_count_16 : decode cX8_count 16 = .ok (.getfield 44, 3) := by decide +kernel
theorem dX8_count_19 : decode cX8_count 19 = .ok (.getfield 190, 3) := by decide +kernel
theorem dX8_count_22 : decode cX8_count 22 = .ok (.putfield 82, 3) := by decide +kernel
theorem dX8_count_25 : decode cX8_count 25 = .ok (.aload_n 0, 1) := by decide +kernel
theorem dX8_count_26 : decode cX8_count 26 = .ok (.getfield 44, 3) := by decide +kernel
theorem dX8_count_29 : decode cX8_count 29 = .ok (.getfield 198, 3) := by decide +kernel
theorem dX8_count_32 : decode cX8_count 32 = .ok (.ifCond .eq 7, 3) := by decide +kernel
theorem dX8_count_35 : decode cX8_count 35 = .ok (.iconst (-1), 1) := by decide +kernel
theorem dX8_count_36 : decode cX8_count 36 = .ok (.goto 10, 3) := by decide +kernel
theorem dX8_count_39 : decode cX8_count 39 = .ok (.aload_n 0, 1) := by decide +kernel
theorem dX8_count_40 : decode cX8_count 40 = .ok (.getfield 44, 3) := by decide +kernel
theorem dX8_count_43 : decode cX8_count 43 = .ok (.getfield 226, 3) := by decide +kernel
theorem dX8_count_46 : decode cX8_count 46 = .ok (.ireturn, 1) := by decide +kernel
theorem dX8_colours_0 : decode cX8_colours 0 = .ok (.iload_n 1, 1) := by decide +kernel
theorem dX8_colours_1 : decode cX8_colours 1 = .ok (.invokestatic 229, 3) := by decide +kernel
theorem dX8_colours_4 : decode cX8_colours 4 = .ok (.iload_n 2, 1) := by decide +kernel
theorem dX8_colours_5 : decode cX8_colours 5 = .ok (.invokestatic 183, 3) := by decide +kernel
theorem dX8_colours_8 : decode cX8_colours 8 = .ok (.aload_n 0, 1) := by decide +kernel
theorem dX8_colours_9 : decode cX8_colours 9 = .ok (.getfield 53, 3) := by decide +kernel
theorem dX8_colours_12 : decode cX8_colours 12 = .ok (.aload_n 0, 1) := by decide +kernel
theorem dX8_colours_13 : decode cX8_colours 13 = .ok (.getfield 19, 3) := by decide +kernel
theorem dX8_colours_16 : decode cX8_colours 16 = .ok (.getfield 177, 3) := by decide +kernel
theorem dX8_colours_19 : decode cX8_colours 19 = .ok (.iload_n 1, 1) := by decide +kernel
theorem dX8_colours_20 : decode cX8_colours 20 = .ok (.iload_n 2, 1) := by decide +kernel
theorem dX8_colours_21 : decode cX8_colours 21 = .ok (.invokevirtual 232, 3) := by decide +kernel
theorem dX8_colours_24 : decode cX8_colours 24 = .ok (.istore_n 3, 1) := by decide +kernel
theorem dX8_colours_25 : decode cX8_colours 25 = .ok (.aload_n 0, 1) := by decide +kernel
theorem dX8_colours_26 : decode cX8_colours 26 = .ok (.aload_n 0, 1) := by decide +kernel
theorem dX8_colours_27 : decode cX8_colours 27 = .ok (.getfield 53, 3) := by decide +kernel
theorem dX8_colours_30 : decode cX8_colours 30 = .ok (.getfield 236, 3) := by decide +kernel
theorem dX8_colours_33 : decode cX8_colours 33 = .ok (.putfield 82, 3) := by decide +kernel
theorem dX8_colours_36 : decode cX8_colours 36 = .ok (.iload_n 3, 1) := by decide +kernel
theorem dX8_colours_37 : decode cX8_colours 37 = .ok (.ifCond .ne 19, 3) := by decide +kernel
theorem dX8_colours_40 : decode cX8_colours 40 = .ok (.aload_n 0, 1) := by decide +kernel
theorem dX8_colours_41 : decode cX8_colours 41 = .ok (.getfield 53, 3) := by decide +kernel
theorem dX8_colours_44 : decode cX8_colours 44 = .ok (.aload_n 0, 1) := by decide +kernel
theorem dX8_colours_45 : decode cX8_colours 45 = .ok (.getfield 76, 3) := by decide +kernel
theorem dX8_colours_48 : decode cX8_colours 48 = .ok (.invokevirtual 237, 3) := by decide +kernel
theorem dX8_colours_51 : decode cX8_colours 51 = .ok (.aload_n 0, 1) := by decide +kernel
theorem dX8_colours_52 : decode cX8_colours 52 = .ok (.iconst 1, 1) := by decide +kernel
theorem dX8_colours_53 : decode cX8_colours 53 = .ok (.putfield 79, 3) := by decide +kernel
theorem dX8_colours_56 : decode cX8_colours 56 = .ok (.iload_n 3, 1) := by decide +kernel
theorem dX8_colours_57 : decode cX8_colours 57 = .ok (.ireturn, 1) := by decide +kernel
theorem dX8_colour_0 : decode cX8_colour 0 = .ok (.aload_n 0, 1) := by decide +kernel
theorem dX8_colour_1 : decode cX8_colour 1 = .ok (.getfield 79, 3) := by decide +kernel
theorem dX8_colour_4 : decode cX8_colour 4 = .ok (.ifCond .eq 24, 3) := by decide +kernel
theorem dX8_colour_7 : decode cX8_colour 7 = .ok (.aload_n 0, 1) := by decide +kernel
theorem dX8_colour_8 : decode cX8_colour 8 = .ok (.getfield 19, 3) := by decide +kernel
theorem dX8_colour_11 : decode cX8_colour 11 = .ok (.iload_n 1, 1) := by decide +kernel
theorem dX8_colour_12 : decode cX8_colour 12 = .ok (.i2l, 1) := by decide +kernel
theorem dX8_colour_13 : decode cX8_colour 13 = .ok (.invokevirtual 121, 3) := by decide +kernel
theorem dX8_colour_16 : decode cX8_colour 16 = .ok (.ifCond .eq 12, 3) := by decide +kernel
theorem dX8_colour_19 : decode cX8_colour 19 = .ok (.aload_n 0, 1) := by decide +kernel
theorem dX8_colour_20 : decode cX8_colour 20 = .ok (.getfield 76, 3) := by decide +kernel
theorem dX8_colour_23 : decode cX8_colour 23 = .ok (.iload_n 1, 1) := by decide +kernel
theorem dX8_colour_24 : decode cX8_colour 24 = .ok (.iaload, 1) := by decide +kernel
theorem dX8_colour_25 : decode cX8_colour 25 = .ok (.goto 4, 3) := by decide +kernel
theorem dX8_colour_28 : decode cX8_colour 28 = .ok (.iconst (-1), 1) := by decide +kernel
theorem dX8_colour_29 : decode cX8_colour 29 = .ok (.ireturn, 1) := by decide +kernel
theorem dX8_forced_0 : decode cX8_forced 0 = .ok (.iload_n 1, 1) := by decide +kernel
theorem dX8_forced_1 : decode cX8_forced 1 = .ok (.invokestatic 229, 3) := by decide +kernel
theorem dX8_forced_4 : decode cX8_forced 4 = .ok (.iload_n 2, 1) := by decide +kernel
theorem dX8_forced_5 : decode cX8_forced 5 = .ok (.invokestatic 183, 3) := by decide +kernel
theorem dX8_forced_8 : decode cX8_forced 8 = .ok (.aload_n 0, 1) := by decide +kernel
theorem dX8_forced_9 : decode cX8_forced 9 = .ok (.getfield 19, 3) := by decide +kernel
theorem dX8_forced_12 : decode cX8_forced 12 = .ok (.getfield 241, 3) := by decide +kernel
theorem dX8_forced_15 : decode cX8_forced 15 = .ok (.ifCond .eq 6, 3) := by decide +kernel
theorem dX8_forced_18 : decode cX8_forced 18 = .ok (.bipush (-2), 2) := by decide +kernel
theorem dX8_forced_20 : decode cX8_forced 20 = .ok (.ireturn, 1) := by decide +kernel
theorem dX8_forced_21 : decode cX8_forced 21 = .ok (.aload_n 0, 1) := by decide +kernel
theorem dX8_forced_22 : decode cX8_forced 22 = .ok (.iconst 0, 1) := by decide +kernel
theorem dX8_forced_23 : decode cX8_forced 23 = .ok (.putfield 82, 3) := by decide +kernel
theorem dX8_forced_26 : decode cX8_forced 26 = .ok (.iconst 1, 1) := by decide +kernel
theorem dX8_forced_27 : decode cX8_forced 27 = .ok (.istore_n 3, 1) := by decide +kernel
theorem dX8_forced_28 : decode cX8_forced 28 = .ok (.iload_n 3, 1) := by decide +kernel
theorem dX8_forced_29 : decode cX8_forced 29 = .ok (.aload_n 0, 1) := by decide +kernel
theorem dX8_forced_30 : decode cX8_forced 30 = .ok (.getfield 19, 3) := by decide +kernel
theorem dX8_forced_33 : decode cX8_forced 33 = .ok (.getfield 244, 3) := by decide +kernel
theorem dX8_forced_36 : decode cX8_forced 36 = .ok (.if_icmp .gt 54, 3) := by decide +kernel
theorem dX8_forced_39 : decode cX8_forced 39 = .ok (.aload_n 0, 1) := by decide +kernel
theorem dX8_forced_40 : decode cX8_forced 40 = .ok (.getfield 53, 3) := by decide +kernel
theorem dX8_forced_43 : decode cX8_forced 43 = .ok (.iload_n 3, 1) := by decide +kernel
theorem dX8_forced_44 : decode cX8_forced 44 = .ok (.iload_n 1, 1) := by decide +kernel
theorem dX8_forced_45 : decode cX8_forced 45 = .ok (.iload_n 2, 1) := by decide +kernel
theorem dX8_forced_46 : decode cX8_forced 46 = .ok (.invokevirtual 232, 3) := by decide +kernel
theorem dX8_forced_49 : decode cX8_forced 49 = .ok (.istore 4, 2) := by decide +kernel
theorem dX8_forced_51 : decode cX8_forced 51 = .ok (.aload_n 0, 1) := by decide +kernel
theorem dX8_forced_52 : decode cX8_forced 52 = .ok (.dup, 1) := by decide +kernel
theorem dX8_forced_53 : decode cX8_forced 53 = .ok (.getfield 82, 3) := by decide +kernel
theorem dX8_forced_56 : decode cX8_forced 56 = .ok (.aload_n 0, 1) := by decide +kernel
theorem dX8_forced_57 : decode cX8_forced 57 = .ok (.getfield 53, 3) := by decide +kernel
theorem dX8_forced_60 : decode cX8_forced 60 = .ok (.getfield 236, 3) := by decide +kernel
theorem dX8_forced_63 : decode cX8_forced 63 = .ok (.iadd, 1) := by decide +kernel
theorem dX8_forced_64 : decode cX8_forced 64 = .ok (.putfield 82, 3) := by decide +kernel
theorem dX8_forced_67 : decode cX8_forced 67 = .ok (.iload 4, 2) := by decide +kernel
theorem dX8_forced_69 : decode cX8_forced 69 = .ok (.ifCond .eq 15, 3) := by decide +kernel
theorem dX8_forced_72 : decode cX8_forced 72 = .ok (.iload 4, 2) := by decide +kernel
theorem dX8_forced_74 : decode cX8_forced 74 = .ok (.iconst 2, 1) := by decide +kernel
theorem dX8_forced_75 : decode cX8_forced 75 = .ok (.if_icmp .ne 7, 3) := by decide +kernel
theorem dX8_forced_78 : decode cX8_forced 78 = .ok (.iconst (-1), 1) := by decide +kernel
theorem dX8_forced_79 : decode cX8_forced 79 = .ok (.goto 4, 3) := by decide +kernel
theorem dX8_forced_82 : decode cX8_forced 82 = .ok (.iload_n 3, 1) := by decide +kernel
theorem dX8_forced_83 : decode cX8_forced 83 = .ok (.ireturn, 1) := by decide +kernel
theorem dX8_forced_84 : decode cX8_forced 84 = .ok (.iinc 3 1, 3) := by decide +kernel
theorem dX8_forced_87 : decode cX8_forced 87 = .ok (.goto (-59), 3) := by decide +kernel
theorem dX8_forced_90 : decode cX8_forced 90 = .ok (.aload_n 0, 1) := by decide +kernel
theorem dX8_forced_91 : decode cX8_forced 91 = .ok (.getfield 19, 3) := by decide +kernel
theorem dX8_forced_94 : decode cX8_forced 94 = .ok (.getfield 244, 3) := by decide +kernel
theorem dX8_forced_97 : decode cX8_forced 97 = .ok (.iconst 1, 1) := by decide +kernel
theorem dX8_forced_98 : decode cX8_forced 98 = .ok (.iadd, 1) := by decide +kernel
theorem dX8_forced_99 : decode cX8_forced 99 = .ok (.ireturn, 1) := by decide +kernel
theorem dX8_sums_0 : decode cX8_sums 0 = .ok (.iload_n 1, 1) := by decide +kernel
theorem dX8_sums_1 : decode cX8_sums 1 = .ok (.invokestatic 107, 3) := by decide +kernel
theorem dX8_sums_4 : decode cX8_sums 4 = .ok (.iload_n 2, 1) := by decide +kernel
theorem dX8_sums_5 : decode cX8_sums 5 = .ok (.invokestatic 107, 3) := by decide +kernel
theorem dX8_sums_8 : decode cX8_sums 8 = .ok (.iload 4, 2) := by decide +kernel
theorem dX8_sums_10 : decode cX8_sums 10 = .ok (.invokestatic 107, 3) := by decide +kernel
theorem dX8_sums_13 : decode cX8_sums 13 = .ok (.iload_n 3, 1) := by decide +kernel
theorem dX8_sums_14 : decode cX8_sums 14 = .ok (.ifCond .lt 8, 3) := by decide +kernel
theorem dX8_sums_17 : decode cX8_sums 17 = .ok (.iload_n 3, 1) := by decide +kernel
theorem dX8_sums_18 : decode cX8_sums 18 = .ok (.iconst 2, 1) := by decide +kernel
theorem dX8_sums_19 : decode cX8_sums 19 = .ok (.if_icmp .le 5, 3) := by decide +kernel
theorem dX8_sums_22 : decode cX8_sums 22 = .ok (.iconst (-1), 1) := by decide +kernel
theorem dX8_sums_23 : decode cX8_sums 23 = .ok (.ireturn, 1) := by decide +kernel
theorem dX8_sums_24 : decode cX8_sums 24 = .ok (.aload_n 0, 1) := by decide +kernel
theorem dX8_sums_25 : decode cX8_sums 25 = .ok (.getfield 60, 3) := by decide +kernel
theorem dX8_sums_28 : decode cX8_sums 28 = .ok (.aload_n 0, 1) := by decide +kernel
theorem dX8_sums_29 : decode cX8_sums 29 = .ok (.getfield 64, 3) := by decide +kernel
theorem dX8_sums_32 : decode cX8_sums 32 = .ok (.iload_n 1, 1) := by decide +kernel
theorem dX8_sums_33 : decode cX8_sums 33 = .ok (.laload, 1) := by decide +kernel
theorem dX8_sums_34 : decode cX8_sums 34 = .ok (.aload_n 0, 1) := by decide +kernel
theorem dX8_sums_35 : decode cX8_sums 35 = .ok (.getfield 64, 3) := by decide +kernel
theorem dX8_sums_38 : decode cX8_sums 38 = .ok (.iload_n 2, 1) := by decide +kernel
theorem dX8_sums_39 : decode cX8_sums 39 = .ok (.laload, 1) := by decide +kernel
theorem dX8_sums_40 : decode cX8_sums 40 = .ok (.iload_n 3, 1) := by decide +kernel
theorem dX8_sums_41 : decode cX8_sums 41 = .ok (.invokevirtual 247, 3) := by decide +kernel
theorem dX8_sums_44 : decode cX8_sums 44 = .ok (.istore 5, 2) := by decide +kernel
theorem dX8_sums_46 : decode cX8_sums 46 = .ok (.aload_n 0, 1) := by decide +kernel
theorem dX8_sums_47 : decode cX8_sums 47 = .ok (.getfield 64, 3) := by decide +kernel
theorem dX8_sums_50 : decode cX8_sums 50 = .ok (.iload 4, 2) := by decide +kernel
theorem dX8_sums_52 : decode cX8_sums 52 = .ok (.aload_n 0, 1) := by decide +kernel
theorem dX8_sums_53 : decode cX8_sums 53 = .ok (.getfield 60, 3) := by decide +kernel
theorem dX8_sums_56 : decode cX8_sums 56 = .ok (.getfield 251, 3) := by decide +kernel
theorem dX8_sums_59 : decode cX8_sums 59 = .ok (.lastore, 1) := by decide +kernel
theorem dX8_sums_60 : decode cX8_sums 60 = .ok (.iload 5, 2) := by decide +kernel
theorem dX8_sums_62 : decode cX8_sums 62 = .ok (.ireturn, 1) := by decide +kernel
theorem dX8_energy_0 : decode cX8_energy 0 = .ok (.iload_n 1, 1) := by decide +kernel
theorem dX8_energy_1 : decode cX8_energy 1 = .ok (.invokestatic 107, 3) := by decide +kernel
theorem dX8_energy_4 : decode cX8_energy 4 = .ok (.aload_n 0, 1) := by decide +kernel
theorem dX8_energy_5 : decode cX8_energy 5 = .ok (.getfield 60, 3) := by decide +kernel
theorem dX8_energy_8 : decode cX8_energy 8 = .ok (.aload_n 0, 1) := by decide +kernel
theorem dX8_energy_9 : decode cX8_energy 9 = .ok (.getfield 64, 3) := by decide +kernel
theorem dX8_energy_12 : decode cX8_energy 12 = .ok (.iload_n 1, 1) := by decide +kernel
theorem dX8_energy_13 : decode cX8_energy 13 = .ok (.laload, 1) := by decide +kernel
theorem dX8_energy_14 : decode cX8_energy 14 = .ok (.invokevirtual 254, 3) := by decide +kernel
theorem dX8_energy_17 : decode cX8_energy 17 = .ok (.ireturn, 1) := by decide +kernel
theorem dX8_order_0 : decode cX8_order 0 = .ok (.iload_n 1, 1) := by decide +kernel
theorem dX8_order_1 : decode cX8_order 1 = .ok (.invokestatic 107, 3) := by decide +kernel
theorem dX8_order_4 : decode cX8_order 4 = .ok (.aload_n 0, 1) := by decide +kernel
theorem dX8_order_5 : decode cX8_order 5 = .ok (.getfield 19, 3) := by decide +kernel
theorem dX8_order_8 : decode cX8_order 8 = .ok (.getfield 241, 3) := by decide +kernel
theorem dX8_order_11 : decode cX8_order 11 = .ok (.ifCond .ne 20, 3) := by decide +kernel
theorem dX8_order_14 : decode cX8_order 14 = .ok (.aload_n 0, 1) := by decide +kernel
theorem dX8_order_15 : decode cX8_order 15 = .ok (.getfield 19, 3) := by decide +kernel
theorem dX8_order_18 : decode cX8_order 18 = .ok (.aload_n 0, 1) := by decide +kernel
theorem dX8_order_19 : decode cX8_order 19 = .ok (.getfield 64, 3) := by decide +kernel
theorem dX8_order_22 : decode cX8_order 22 = .ok (.iload_n 1, 1) := by decide +kernel
theorem dX8_order_23 : decode cX8_order 23 = .ok (.laload, 1) := by decide +kernel
theorem dX8_order_24 : decode cX8_order 24 = .ok (.iconst 1, 1) := by decide +kernel
theorem dX8_order_25 : decode cX8_order 25 = .ok (.invokevirtual 131, 3) := by decide +kernel
theorem dX8_order_28 : decode cX8_order 28 = .ok (.ifCond .ne 5, 3) := by decide +kernel
theorem dX8_order_31 : decode cX8_order 31 = .ok (.iconst (-1), 1) := by decide +kernel
theorem dX8_order_32 : decode cX8_order 32 = .ok (.ireturn, 1) := by decide +kernel
theorem dX8_order_33 : decode cX8_order 33 = .ok (.aload_n 0, 1) := by decide +kernel
theorem dX8_order_34 : decode cX8_order 34 = .ok (.getfield 60, 3) := by decide +kernel
theorem dX8_order_37 : decode cX8_order 37 = .ok (.aload_n 0, 1) := by decide +kernel
theorem dX8_order_38 : decode cX8_order 38 = .ok (.getfield 64, 3) := by decide +kernel
theorem dX8_order_41 : decode cX8_order 41 = .ok (.iload_n 1, 1) := by decide +kernel
theorem dX8_order_42 : decode cX8_order 42 = .ok (.laload, 1) := by decide +kernel
theorem dX8_order_43 : decode cX8_order 43 = .ok (.invokevirtual 257, 3) := by decide +kernel
theorem dX8_order_46 : decode cX8_order 46 = .ok (.ireturn, 1) := by decide +kernel
theorem dX8_keep_0 : decode cX8_keep 0 = .ok (.iload_n 1, 1) := by decide +kernel
theorem dX8_keep_1 : decode cX8_keep 1 = .ok (.invokestatic 107, 3) := by decide +kernel
theorem dX8_keep_4 : decode cX8_keep 4 = .ok (.iload_n 2, 1) := by decide +kernel
theorem dX8_keep_5 : decode cX8_keep 5 = .ok (.ifCond .lt 10, 3) := by decide +kernel
theorem dX8_keep_8 : decode cX8_keep 8 = .ok (.iload_n 2, 1) := by decide +kernel
theorem dX8_keep_9 : decode cX8_keep 9 = .ok (.ldc_w 260, 3) := by decide +kernel
theorem dX8_keep_12 : decode cX8_keep 12 = .ok (.if_icmp .lt 14, 3) := by decide +kernel
theorem dX8_keep_15 : decode cX8_keep 15 = .ok (.new 110, 3) := by decide +kernel
theorem dX8_keep_18 : decode cX8_keep 18 = .ok (.dup, 1) := by decide +kernel
theorem dX8_keep_19 : decode cX8_keep 19 = .ok (.ldc_w 261, 3) := by decide +kernel
theorem dX8_keep_22 : decode cX8_keep 22 = .ok (.invokespecial 114, 3) := by decide +kernel
theorem dX8_keep_25 : decode cX8_keep 25 = .ok (.athrow, 1) := by decide +kernel
theorem dX8_keep_26 : decode cX8_keep 26 = .ok (.aload_n 0, 1) := by decide +kernel
theorem dX8_keep_27 : decode cX8_keep 27 = .ok (.getfield 28, 3) := by decide +kernel
theorem dX8_keep_30 : decode cX8_keep 30 = .ok (.invokevirtual 171, 3) := by decide +kernel
theorem dX8_keep_33 : decode cX8_keep 33 = .ok (.lconst 0, 1) := by decide +kernel
theorem dX8_keep_34 : decode cX8_keep 34 = .ok (.lstore_n 3, 1) := by decide +kernel
theorem dX8_keep_35 : decode cX8_keep 35 = .ok (.aload_n 0, 1) := by decide +kernel
theorem dX8_keep_36 : decode cX8_keep 36 = .ok (.getfield 19, 3) := by decide +kernel
theorem dX8_keep_39 : decode cX8_keep 39 = .ok (.getfield 263, 3) := by decide +kernel
theorem dX8_keep_42 : decode cX8_keep 42 = .ok (.lstore 5, 2) := by decide +kernel
theorem dX8_keep_44 : decode cX8_keep 44 = .ok (.iload_n 2, 1) := by decide +kernel
theorem dX8_keep_45 : decode cX8_keep 45 = .ok (.istore 7, 2) := by decide +kernel
theorem dX8_keep_47 : decode cX8_keep 47 = .ok (.lload 5, 2) := by decide +kernel
theorem dX8_keep_49 : decode cX8_keep 49 = .ok (.invokestatic 125, 3) := by decide +kernel
theorem dX8_keep_52 : decode cX8_keep 52 = .ok (.istore 8, 2) := by decide +kernel
theorem dX8_keep_54 : decode cX8_keep 54 = .ok (.iload 8, 2) := by decide +kernel
theorem dX8_keep_56 : decode cX8_keep 56 = .ok (.ifCond .le 66, 3) := by decide +kernel
theorem dX8_keep_59 : decode cX8_keep 59 = .ok (.sipush 25173, 3) := by decide +kernel
theorem dX8_keep_62 : decode cX8_keep 62 = .ok (.iload 7, 2) := by decide +kernel
theorem dX8_keep_64 : decode cX8_keep 64 = .ok (.imul, 1) := by decide +kernel
theorem dX8_keep_65 : decode cX8_keep 65 = .ok (.sipush 13849, 3) := by decide +kernel
theorem dX8_keep_68 : decode cX8_keep 68 = .ok (.iadd, 1) := by decide +kernel
theorem dX8_keep_69 : decode cX8_keep 69 = .ok (.ldc_w 260, 3) := by decide +kernel
theorem dX8_keep_72 : decode cX8_keep 72 = .ok (.irem, 1) := by decide +kernel
theorem dX8_keep_73 : decode cX8_keep 73 = .ok (.istore 7, 2) := by decide +kernel
theorem dX8_keep_75 : decode cX8_keep 75 = .ok (.lload 5, 2) := by decide +kernel
theorem dX8_keep_77 : decode cX8_keep 77 = .ok (.iload 7, 2) := by decide +kernel
theorem dX8_keep_79 : decode cX8_keep 79 = .ok (.iload 8, 2) := by decide +kernel
theorem dX8_keep_81 : decode cX8_keep 81 = .ok (.irem, 1) := by decide +kernel
theorem dX8_keep_82 : decode cX8_keep 82 = .ok (.invokestatic 140, 3) := by decide +kernel
theorem dX8_keep_85 : decode cX8_keep 85 = .ok (.istore 9, 2) := by decide +kernel
theorem dX8_keep_87 : decode cX8_keep 87 = .ok (.lload 5, 2) := by decide +kernel
theorem dX8_keep_89 : decode cX8_keep 89 = .ok (.lconst 1, 1) := by decide +kernel
theorem dX8_keep_90 : decode cX8_keep 90 = .ok (.iload 9, 2) := by decide +kernel
theorem dX8_keep_92 : decode cX8_keep 92 = .ok (.lshl, 1) := by decide +kernel
theorem dX8_keep_93 : decode cX8_keep 93 = .ok (.lxor, 1) := by decide +kernel
theorem dX8_keep_94 : decode cX8_keep 94 = .ok (.lstore 5, 2) := by decide +kernel
theorem dX8_keep_96 : decode cX8_keep 96 = .ok (.aload_n 0, 1) := by decide +kernel
theorem dX8_keep_97 : decode cX8_keep 97 = .ok (.getfield 28, 3) := by decide +kernel
theorem dX8_keep_100 : decode cX8_keep 100 = .ok (.lload_n 3, 1) := by decide +kernel
theorem dX8_keep_101 : decode cX8_keep 101 = .ok (.iload 9, 2) := by decide +kernel
theorem dX8_keep_103 : decode cX8_keep 103 = .ok (.invokevirtual 180, 3) := by decide +kernel
theorem dX8_keep_106 : decode cX8_keep 106 = .ok (.ifCond .eq 10, 3) := by decide +kernel
theorem dX8_keep_109 : decode cX8_keep 109 = .ok (.lload_n 3, 1) := by decide +kernel
theorem dX8_keep_110 : decode cX8_keep 110 = .ok (.lconst 1, 1) := by decide +kernel
theorem dX8_keep_111 : decode cX8_keep 111 = .ok (.iload 9, 2) := by decide +kernel
theorem dX8_keep_113 : decode cX8_keep 113 = .ok (.lshl, 1) := by decide +kernel
theorem dX8_keep_114 : decode cX8_keep 114 = .ok (.lor, 1) := by decide +kernel
theorem dX8_keep_115 : decode cX8_keep 115 = .ok (.lstore_n 3, 1) := by decide +kernel
theorem dX8_keep_116 : decode cX8_keep 116 = .ok (.iinc 8 (-1), 3) := by decide +kernel
theorem dX8_keep_119 : decode cX8_keep 119 = .ok (.goto (-65), 3) := by decide +kernel
theorem dX8_keep_122 : decode cX8_keep 122 = .ok (.aload_n 0, 1) := by decide +kernel
theorem dX8_keep_123 : decode cX8_keep 123 = .ok (.getfield 64, 3) := by decide +kernel
theorem dX8_keep_126 : decode cX8_keep 126 = .ok (.iload_n 1, 1) := by decide +kernel
theorem dX8_keep_127 : decode cX8_keep 127 = .ok (.lload_n 3, 1) := by decide +kernel
theorem dX8_keep_128 : decode cX8_keep 128 = .ok (.lastore, 1) := by decide +kernel
theorem dX8_keep_129 : decode cX8_keep 129 = .ok (.lload_n 3, 1) := by decide +kernel
theorem dX8_keep_130 : decode cX8_keep 130 = .ok (.invokestatic 125, 3) := by decide +kernel
theorem dX8_keep_133 : decode cX8_keep 133 = .ok (.ireturn, 1) := by decide +kernel
theorem dX8_look_0 : decode cX8_look 0 = .ok (.iload_n 1, 1) := by decide +kernel
theorem dX8_look_1 : decode cX8_look 1 = .ok (.tableswitch 99 0 6 #[43, 51, 59, 70, 78, 86, 91], 43) := by decide +kernel
theorem dX8_look_44 : decode cX8_look 44 = .ok (.aload_n 0, 1) := by decide +kernel
theorem dX8_look_45 : decode cX8_look 45 = .ok (.getfield 19, 3) := by decide +kernel
theorem dX8_look_48 : decode cX8_look 48 = .ok (.getfield 241, 3) := by decide +kernel
theorem dX8_look_51 : decode cX8_look 51 = .ok (.ireturn, 1) := by decide +kernel
theorem dX8_look_52 : decode cX8_look 52 = .ok (.aload_n 0, 1) := by decide +kernel
theorem dX8_look_53 : decode cX8_look 53 = .ok (.getfield 19, 3) := by decide +kernel
theorem dX8_look_56 : decode cX8_look 56 = .ok (.getfield 244, 3) := by decide +kernel
theorem dX8_look_59 : decode cX8_look 59 = .ok (.ireturn, 1) := by decide +kernel
theorem dX8_look_60 : decode cX8_look 60 = .ok (.aload_n 0, 1) := by decide +kernel
theorem dX8_look_61 : decode cX8_look 61 = .ok (.getfield 19, 3) := by decide +kernel
theorem dX8_look_64 : decode cX8_look 64 = .ok (.getfield 263, 3) := by decide +kernel
theorem dX8_look_67 : decode cX8_look 67 = .ok (.invokestatic 125, 3) := by decide +kernel
theorem dX8_look_70 : decode cX8_look 70 = .ok (.ireturn, 1) := by decide +kernel
theorem dX8_look_71 : decode cX8_look 71 = .ok (.aload_n 0, 1) := by decide +kernel
theorem dX8_look_72 : decode cX8_look 72 = .ok (.getfield 28, 3) := by decide +kernel
theorem dX8_look_75 : decode cX8_look 75 = .ok (.getfield 144, 3) := by decide +kernel
theorem dX8_look_78 : decode cX8_look 78 = .ok (.ireturn, 1) := by decide +kernel
theorem dX8_look_79 : decode cX8_look 79 = .ok (.aload_n 0, 1) := by decide +kernel
theorem dX8_look_80 : decode cX8_look 80 = .ok (.getfield 35, 3) := by decide +kernel
theorem dX8_look_83 : decode cX8_look 83 = .ok (.getfield 204, 3) := by decide +kernel
theorem dX8_look_86 : decode cX8_look 86 = .ok (.ireturn, 1) := by decide +kernel
theorem dX8_look_87 : decode cX8_look 87 = .ok (.aload_n 0, 1) := by decide +kernel
theorem dX8_look_88 : decode cX8_look 88 = .ok (.getfield 82, 3) := by decide +kernel
theorem dX8_look_91 : decode cX8_look 91 = .ok (.ireturn, 1) := by decide +kernel
theorem dX8_look_92 : decode cX8_look 92 = .ok (.aload_n 0, 1) := by decide +kernel
theorem dX8_look_93 : decode cX8_look 93 = .ok (.getfield 12, 3) := by decide +kernel
theorem dX8_look_96 : decode cX8_look 96 = .ok (.getfield 86, 3) := by decide +kernel
theorem dX8_look_99 : decode cX8_look 99 = .ok (.ireturn, 1) := by decide +kernel
theorem dX8_look_100 : decode cX8_look 100 = .ok (.iconst (-1), 1) := by decide +kernel
theorem dX8_look_101 : decode cX8_look 101 = .ok (.ireturn, 1) := by decide +kernel
theorem dX8_requireSet_0 : decode cX8_requireSet 0 = .ok (.iload_n 0, 1) := by decide +kernel
theorem dX8_requireSet_1 : decode cX8_requireSet 1 = .ok (.ifCond .lt 9, 3) := by decide +kernel
theorem dX8_requireSet_4 : decode cX8_requireSet 4 = .ok (.iload_n 0, 1) := by decide +kernel
theorem dX8_requireSet_5 : decode cX8_requireSet 5 = .ok (.bipush 8, 2) := by decide +kernel
theorem dX8_requireSet_7 : decode cX8_requireSet 7 = .ok (.if_icmp .lt 14, 3) := by decide +kernel
theorem dX8_requireSet_10 : decode cX8_requireSet 10 = .ok (.new 266, 3) := by decide +kernel
theorem dX8_requireSet_13 : decode cX8_requireSet 13 = .ok (.dup, 1) := by decide +kernel
theorem dX8_requireSet_14 : decode cX8_requireSet 14 = .ok (.ldc_w 268, 3) := by decide +kernel
theorem dX8_requireSet_17 : decode cX8_requireSet 17 = .ok (.invokespecial 270, 3) := by decide +kernel
theorem dX8_requireSet_20 : decode cX8_requireSet 20 = .ok (.athrow, 1) := by decide +kernel
theorem dX8_requireSet_21 : decode cX8_requireSet 21 = .ok (.return_, 1) := by decide +kernel
theorem dX8_requireLooks_0 : decode cX8_requireLooks 0 = .ok (.iload_n 0, 1) := by decide +kernel
theorem dX8_requireLooks_1 : decode cX8_requireLooks 1 = .ok (.iconst 1, 1) := by decide +kernel
theorem dX8_requireLooks_2 : decode cX8_requireLooks 2 = .ok (.if_icmp .lt 10, 3) := by decide +kernel
theorem dX8_requireLooks_5 : decode cX8_requireLooks 5 = .ok (.iload_n 0, 1) := by decide +kernel
theorem dX8_requireLooks_6 : decode cX8_requireLooks 6 = .ok (.ldc_w 271, 3) := by decide +kernel
theorem dX8_requireLooks_9 : decode cX8_requireLooks 9 = .ok (.if_icmp .le 14, 3) := by decide +kernel
theorem dX8_requireLooks_12 : decode cX8_requireLooks 12 = .ok (.new 110, 3) := by decide +kernel
theorem dX8_requireLooks_15 : decode cX8_requireLooks 15 = .ok (.dup, 1) := by decide +kernel
theorem dX8_requireLooks_16 : decode cX8_requireLooks 16 = .ok (.ldc_w 272, 3) := by decide +kernel
theorem dX8_requireLooks_19 : decode cX8_requireLooks 19 = .ok (.invokespecial 114, 3) := by decide +kernel
theorem dX8_requireLooks_22 : decode cX8_requireLooks 22 = .ok (.athrow, 1) := by decide +kernel
theorem dX8_requireLooks_23 : decode cX8_requireLooks 23 = .ok (.return_, 1) := by decide +kernel
theorem dX8_requireTurns_0 : decode cX8_requireTurns 0 = .ok (.iload_n 0, 1) := by decide +kernel
theorem dX8_requireTurns_1 : decode cX8_requireTurns 1 = .ok (.ifCond .lt 9, 3) := by decide +kernel
theorem dX8_requireTurns_4 : decode cX8_requireTurns 4 = .ok (.iload_n 0, 1) := by decide +kernel
theorem dX8_requireTurns_5 : decode cX8_requireTurns 5 = .ok (.bipush 7, 2) := by decide +kernel
theorem dX8_requireTurns_7 : decode cX8_requireTurns 7 = .ok (.if_icmp .le 14, 3) := by decide +kernel
theorem dX8_requireTurns_10 : decode cX8_requireTurns 10 = .ok (.new 110, 3) := by decide +kernel
theorem dX8_requireTurns_13 : decode cX8_requireTurns 13 = .ok (.dup, 1) := by decide +kernel
theorem dX8_requireTurns_14 : decode cX8_requireTurns 14 = .ok (.ldc_w 274, 3) := by decide +kernel
theorem dX8_requireTurns_17 : decode cX8_requireTurns 17 = .ok (.invokespecial 114, 3) := by decide +kernel
theorem dX8_requireTurns_20 : decode cX8_requireTurns 20 = .ok (.athrow, 1) := by decide +kernel
theorem dX8_requireTurns_21 : decode cX8_requireTurns 21 = .ok (.return_, 1) := by decide +kernel
theorem dX8_requireColours_0 : decode cX8_requireColours 0 = .ok (.iload_n 0, 1) := by decide +kernel
theorem dX8_requireColours_1 : decode cX8_requireColours 1 = .ok (.iconst 1, 1) := by decide +kernel
theorem dX8_requireColours_2 : decode cX8_requireColours 2 = .ok (.if_icmp .lt 9, 3) := by decide +kernel
theorem dX8_requireColours_5 : decode cX8_requireColours 5 = .ok (.iload_n 0, 1) := by decide +kernel
theorem dX8_requireColours_6 : decode cX8_requireColours 6 = .ok (.bipush 8, 2) := by decide +kernel
theorem dX8_requireColours_8 : decode cX8_requireColours 8 = .ok (.if_icmp .le 14, 3) := by decide +kernel
theorem dX8_requireColours_11 : decode cX8_requireColours 11 = .ok (.new 110, 3) := by decide +kernel
theorem dX8_requireColours_14 : decode cX8_requireColours 14 = .ok (.dup, 1) := by decide +kernel
theorem dX8_requireColours_15 : decode cX8_requireColours 15 = .ok (.ldc_w 276, 3) := by decide +kernel
theorem dX8_requireColours_18 : decode cX8_requireColours 18 = .ok (.invokespecial 114, 3) := by decide +kernel
theorem dX8_requireColours_21 : decode cX8_requireColours 21 = .ok (.athrow, 1) := by decide +kernel
theorem dX8_requireColours_22 : decode cX8_requireColours 22 = .ok (.return_, 1) := by decide +kernel
theorem dX8_least_0 : decode cX8_least 0 = .ok (.lload_n 0, 1) := by decide +kernel
theorem dX8_least_1 : decode cX8_least 1 = .ok (.lload_n 0, 1) := by decide +kernel
theorem dX8_least_2 : decode cX8_least 2 = .ok (.lneg, 1) := by decide +kernel
theorem dX8_least_3 : decode cX8_least 3 = .ok (.land, 1) := by decide +kernel
theorem dX8_least_4 : decode cX8_least 4 = .ok (.lconst 1, 1) := by decide +kernel
theorem dX8_least_5 : decode cX8_least 5 = .ok (.lsub, 1) := by decide +kernel
theorem dX8_least_6 : decode cX8_least 6 = .ok (.invokestatic 125, 3) := by decide +kernel
theorem dX8_least_9 : decode cX8_least 9 = .ok (.ireturn, 1) := by decide +kernel
theorem dX8_numberAt_0 : decode cX8_numberAt 0 = .ok (.lload_n 0, 1) := by decide +kernel
theorem dX8_numberAt_1 : decode cX8_numberAt 1 = .ok (.lstore_n 3, 1) := by decide +kernel
theorem dX8_numberAt_2 : decode cX8_numberAt 2 = .ok (.iconst 0, 1) := by decide +kernel
theorem dX8_numberAt_3 : decode cX8_numberAt 3 = .ok (.istore 5, 2) := by decide +kernel
theorem dX8_numberAt_5 : decode cX8_numberAt 5 = .ok (.iload 5, 2) := by decide +kernel
theorem dX8_numberAt_7 : decode cX8_numberAt 7 = .ok (.iload_n 2, 1) := by decide +kernel
theorem dX8_numberAt_8 : decode cX8_numberAt 8 = .ok (.if_icmp .ge 15, 3) := by decide +kernel
theorem dX8_numberAt_11 : decode cX8_numberAt 11 = .ok (.lload_n 3, 1) := by decide +kernel
theorem dX8_numberAt_12 : decode cX8_numberAt 12 = .ok (.lload_n 3, 1) := by decide +kernel
theorem dX8_numberAt_13 : decode cX8_numberAt 13 = .ok (.lconst 1, 1) := by decide +kernel
theorem dX8_numberAt_14 : decode cX8_numberAt 14 = .ok (.lsub, 1) := by decide +kernel
theorem dX8_numberAt_15 : decode cX8_numberAt 15 = .ok (.land, 1) := by decide +kernel
theorem dX8_numberAt_16 : decode cX8_numberAt 16 = .ok (.lstore_n 3, 1) := by decide +kernel
theorem dX8_numberAt_17 : decode cX8_numberAt 17 = .ok (.iinc 5 1, 3) := by decide +kernel
theorem dX8_numberAt_20 : decode cX8_numberAt 20 = .ok (.goto (-15), 3) := by decide +kernel
theorem dX8_numberAt_23 : decode cX8_numberAt 23 = .ok (.lload_n 3, 1) := by decide +kernel
theorem dX8_numberAt_24 : decode cX8_numberAt 24 = .ok (.invokestatic 278, 3) := by decide +kernel
theorem dX8_numberAt_27 : decode cX8_numberAt 27 = .ok (.ireturn, 1) := by decide +kernel
theorem dJ13_bitCount_95d88_0 : decode cJ13_bitCount_95d88 0 = .ok (.lload_n 0, 1) := by decide +kernel
theorem dJ13_bitCount_95d88_1 : decode cJ13_bitCount_95d88 1 = .ok (.lload_n 0, 1) := by decide +kernel
theorem dJ13_bitCount_95d88_2 : decode cJ13_bitCount_95d88 2 = .ok (.iconst 1, 1) := by decide +kernel
theorem dJ13_bitCount_95d88_3 : decode cJ13_bitCount_95d88 3 = .ok (.lushr, 1) := by decide +kernel
theorem dJ13_bitCount_95d88_4 : decode cJ13_bitCount_95d88 4 = .ok (.ldc2_w 314, 3) := by decide +kernel
theorem dJ13_bitCount_95d88_7 : decode cJ13_bitCount_95d88 7 = .ok (.land, 1) := by decide +kernel
theorem dJ13_bitCount_95d88_8 : decode cJ13_bitCount_95d88 8 = .ok (.lsub, 1) := by decide +kernel
theorem dJ13_bitCount_95d88_9 : decode cJ13_bitCount_95d88 9 = .ok (.lstore_n 0, 1) := by decide +kernel
theorem dJ13_bitCount_95d88_10 : decode cJ13_bitCount_95d88 10 = .ok (.lload_n 0, 1) := by decide +kernel
theorem dJ13_bitCount_95d88_11 : decode cJ13_bitCount_95d88 11 = .ok (.ldc2_w 316, 3) := by decide +kernel
theorem dJ13_bitCount_95d88_14 : decode cJ13_bitCount_95d88 14 = .ok (.land, 1) := by decide +kernel
theorem dJ13_bitCount_95d88_15 : decode cJ13_bitCount_95d88 15 = .ok (.lload_n 0, 1) := by decide +kernel
theorem dJ13_bitCount_95d88_16 : decode cJ13_bitCount_95d88 16 = .ok (.iconst 2, 1) := by decide +kernel
theorem dJ13_bitCount_95d88_17 : decode cJ13_bitCount_95d88 17 = .ok (.lushr, 1) := by decide +kernel
theorem dJ13_bitCount_95d88_18 : decode cJ13_bitCount_95d88 18 = .ok (.ldc2_w 316, 3) := by decide +kernel
theorem dJ13_bitCount_95d88_21 : decode cJ13_bitCount_95d88 21 = .ok (.land, 1) := by decide +kernel
theorem dJ13_bitCount_95d88_22 : decode cJ13_bitCount_95d88 22 = .ok (.ladd, 1) := by decide +kernel
theorem dJ13_bitCount_95d88_23 : decode cJ13_bitCount_95d88 23 = .ok (.lstore_n 0, 1) := by decide +kernel
theorem dJ13_bitCount_95d88_24 : decode cJ13_bitCount_95d88 24 = .ok (.lload_n 0, 1) := by decide +kernel
theorem dJ13_bitCount_95d88_25 : decode cJ13_bitCount_95d88 25 = .ok (.lload_n 0, 1) := by decide +kernel
theorem dJ13_bitCount_95d88_26 : decode cJ13_bitCount_95d88 26 = .ok (.iconst 4, 1) := by decide +kernel
theorem dJ13_bitCount_95d88_27 : decode cJ13_bitCount_95d88 27 = .ok (.lushr, 1) := by decide +kernel
theorem dJ13_bitCount_95d88_28 : decode cJ13_bitCount_95d88 28 = .ok (.ladd, 1) := by decide +kernel
theorem dJ13_bitCount_95d88_29 : decode cJ13_bitCount_95d88 29 = .ok (.ldc2_w 318, 3) := by decide +kernel
theorem dJ13_bitCount_95d88_32 : decode cJ13_bitCount_95d88 32 = .ok (.land, 1) := by decide +kernel
theorem dJ13_bitCount_95d88_33 : decode cJ13_bitCount_95d88 33 = .ok (.lstore_n 0, 1) := by decide +kernel
theorem dJ13_bitCount_95d88_34 : decode cJ13_bitCount_95d88 34 = .ok (.lload_n 0, 1) := by decide +kernel
theorem dJ13_bitCount_95d88_35 : decode cJ13_bitCount_95d88 35 = .ok (.lload_n 0, 1) := by decide +kernel
theorem dJ13_bitCount_95d88_36 : decode cJ13_bitCount_95d88 36 = .ok (.bipush 8, 2) := by decide +kernel
theorem dJ13_bitCount_95d88_38 : decode cJ13_bitCount_95d88 38 = .ok (.lushr, 1) := by decide +kernel
theorem dJ13_bitCount_95d88_39 : decode cJ13_bitCount_95d88 39 = .ok (.ladd, 1) := by decide +kernel
theorem dJ13_bitCount_95d88_40 : decode cJ13_bitCount_95d88 40 = .ok (.lstore_n 0, 1) := by decide +kernel
theorem dJ13_bitCount_95d88_41 : decode cJ13_bitCount_95d88 41 = .ok (.lload_n 0, 1) := by decide +kernel
theorem dJ13_bitCount_95d88_42 : decode cJ13_bitCount_95d88 42 = .ok (.lload_n 0, 1) := by decide +kernel
theorem dJ13_bitCount_95d88_43 : decode cJ13_bitCount_95d88 43 = .ok (.bipush 16, 2) := by decide +kernel
theorem dJ13_bitCount_95d88_45 : decode cJ13_bitCount_95d88 45 = .ok (.lushr, 1) := by decide +kernel
theorem dJ13_bitCount_95d88_46 : decode cJ13_bitCount_95d88 46 = .ok (.ladd, 1) := by decide +kernel
theorem dJ13_bitCount_95d88_47 : decode cJ13_bitCount_95d88 47 = .ok (.lstore_n 0, 1) := by decide +kernel
theorem dJ13_bitCount_95d88_48 : decode cJ13_bitCount_95d88 48 = .ok (.lload_n 0, 1) := by decide +kernel
theorem dJ13_bitCount_95d88_49 : decode cJ13_bitCount_95d88 49 = .ok (.lload_n 0, 1) := by decide +kernel
theorem dJ13_bitCount_95d88_50 : decode cJ13_bitCount_95d88 50 = .ok (.bipush 32, 2) := by decide +kernel
theorem dJ13_bitCount_95d88_52 : decode cJ13_bitCount_95d88 52 = .ok (.lushr, 1) := by decide +kernel
theorem dJ13_bitCount_95d88_53 : decode cJ13_bitCount_95d88 53 = .ok (.ladd, 1) := by decide +kernel
theorem dJ13_bitCount_95d88_54 : decode cJ13_bitCount_95d88 54 = .ok (.lstore_n 0, 1) := by decide +kernel
theorem dJ13_bitCount_95d88_55 : decode cJ13_bitCount_95d88 55 = .ok (.lload_n 0, 1) := by decide +kernel
theorem dJ13_bitCount_95d88_56 : decode cJ13_bitCount_95d88 56 = .ok (.l2i, 1) := by decide +kernel
theorem dJ13_bitCount_95d88_57 : decode cJ13_bitCount_95d88 57 = .ok (.bipush 127, 2) := by decide +kernel
theorem dJ13_bitCount_95d88_59 : decode cJ13_bitCount_95d88 59 = .ok (.iand, 1) := by decide +kernel
theorem dJ13_bitCount_95d88_60 : decode cJ13_bitCount_95d88 60 = .ok (.ireturn, 1) := by decide +kernel
theorem dJ9_floorMod_7cf53_0 : decode cJ9_floorMod_7cf53 0 = .ok (.iload_n 0, 1) := by decide +kernel
theorem dJ9_floorMod_7cf53_1 : decode cJ9_floorMod_7cf53 1 = .ok (.iload_n 1, 1) := by decide +kernel
theorem dJ9_floorMod_7cf53_2 : decode cJ9_floorMod_7cf53 2 = .ok (.irem, 1) := by decide +kernel
theorem dJ9_floorMod_7cf53_3 : decode cJ9_floorMod_7cf53 3 = .ok (.istore_n 2, 1) := by decide +kernel
theorem dJ9_floorMod_7cf53_4 : decode cJ9_floorMod_7cf53 4 = .ok (.iload_n 0, 1) := by decide +kernel
theorem dJ9_floorMod_7cf53_5 : decode cJ9_floorMod_7cf53 5 = .ok (.iload_n 1, 1) := by decide +kernel
theorem dJ9_floorMod_7cf53_6 : decode cJ9_floorMod_7cf53 6 = .ok (.ixor, 1) := by decide +kernel
theorem dJ9_floorMod_7cf53_7 : decode cJ9_floorMod_7cf53 7 = .ok (.ifCond .ge 11, 3) := by decide +kernel
theorem dJ9_floorMod_7cf53_10 : decode cJ9_floorMod_7cf53 10 = .ok (.iload_n 2, 1) := by decide +kernel
theorem dJ9_floorMod_7cf53_11 : decode cJ9_floorMod_7cf53 11 = .ok (.ifCond .eq 7, 3) := by decide +kernel
theorem dJ9_floorMod_7cf53_14 : decode cJ9_floorMod_7cf53 14 = .ok (.iload_n 2, 1) := by decide +kernel
theorem dJ9_floorMod_7cf53_15 : decode cJ9_floorMod_7cf53 15 = .ok (.iload_n 1, 1) := by decide +kernel
theorem dJ9_floorMod_7cf53_16 : decode cJ9_floorMod_7cf53 16 = .ok (.iadd, 1) := by decide +kernel
theorem dJ9_floorMod_7cf53_17 : decode cJ9_floorMod_7cf53 17 = .ok (.ireturn, 1) := by decide +kernel
theorem dJ9_floorMod_7cf53_18 : decode cJ9_floorMod_7cf53 18 = .ok (.iload_n 2, 1) := by decide +kernel
theorem dJ9_floorMod_7cf53_19 : decode cJ9_floorMod_7cf53 19 = .ok (.ireturn, 1) := by decide +kernel
theorem dJ9_max_7cf53_0 : decode cJ9_max_7cf53 0 = .ok (.iload_n 0, 1) := by decide +kernel
theorem dJ9_max_7cf53_1 : decode cJ9_max_7cf53 1 = .ok (.iload_n 1, 1) := by decide +kernel
theorem dJ9_max_7cf53_2 : decode cJ9_max_7cf53 2 = .ok (.if_icmp .lt 7, 3) := by decide +kernel
theorem dJ9_max_7cf53_5 : decode cJ9_max_7cf53 5 = .ok (.iload_n 0, 1) := by decide +kernel
theorem dJ9_max_7cf53_6 : decode cJ9_max_7cf53 6 = .ok (.goto 4, 3) := by decide +kernel
theorem dJ9_max_7cf53_9 : decode cJ9_max_7cf53 9 = .ok (.iload_n 1, 1) := by decide +kernel
theorem dJ9_max_7cf53_10 : decode cJ9_max_7cf53 10 = .ok (.ireturn, 1) := by decide +kernel
theorem dJ9_min_7cf53_0 : decode cJ9_min_7cf53 0 = .ok (.iload_n 0, 1) := by decide +kernel
theorem dJ9_min_7cf53_1 : decode cJ9_min_7cf53 1 = .ok (.iload_n 1, 1) := by decide +kernel
theorem dJ9_min_7cf53_2 : decode cJ9_min_7cf53 2 = .ok (.if_icmp .gt 7, 3) := by decide +kernel
theorem dJ9_min_7cf53_5 : decode cJ9_min_7cf53 5 = .ok (.iload_n 0, 1) := by decide +kernel
theorem dJ9_min_7cf53_6 : decode cJ9_min_7cf53 6 = .ok (.goto 4, 3) := by decide +kernel
theorem dJ9_min_7cf53_9 : decode cJ9_min_7cf53 9 = .ok (.iload_n 1, 1) := by decide +kernel
theorem dJ9_min_7cf53_10 : decode cJ9_min_7cf53 10 = .ok (.ireturn, 1) := by decide +kernel
theorem dJ7_fill_d0a16_0 : decode cJ7_fill_d0a16 0 = .ok (.iconst 0, 1) := by decide +kernel
theorem dJ7_fill_d0a16_1 : decode cJ7_fill_d0a16 1 = .ok (.istore_n 3, 1) := by decide +kernel
theorem dJ7_fill_d0a16_2 : decode cJ7_fill_d0a16 2 = .ok (.aload_n 0, 1) := by decide +kernel
theorem dJ7_fill_d0a16_3 : decode cJ7_fill_d0a16 3 = .ok (.arraylength, 1) := by decide +kernel
theorem dJ7_fill_d0a16_4 : decode cJ7_fill_d0a16 4 = .ok (.istore 4, 2) := by decide +kernel
theorem dJ7_fill_d0a16_6 : decode cJ7_fill_d0a16 6 = .ok (.iload_n 3, 1) := by decide +kernel
theorem dJ7_fill_d0a16_7 : decode cJ7_fill_d0a16 7 = .ok (.iload 4, 2) := by decide +kernel
theorem dJ7_fill_d0a16_9 : decode cJ7_fill_d0a16 9 = .ok (.if_icmp .ge 13, 3) := by decide +kernel
theorem dJ7_fill_d0a16_12 : decode cJ7_fill_d0a16 12 = .ok (.aload_n 0, 1) := by decide +kernel
theorem dJ7_fill_d0a16_13 : decode cJ7_fill_d0a16 13 = .ok (.iload_n 3, 1) := by decide +kernel
theorem dJ7_fill_d0a16_14 : decode cJ7_fill_d0a16 14 = .ok (.lload_n 1, 1) := by decide +kernel
theorem dJ7_fill_d0a16_15 : decode cJ7_fill_d0a16 15 = .ok (.lastore, 1) := by decide +kernel
theorem dJ7_fill_d0a16_16 : decode cJ7_fill_d0a16 16 = .ok (.iinc 3 1, 3) := by decide +kernel
theorem dJ7_fill_d0a16_19 : decode cJ7_fill_d0a16 19 = .ok (.goto (-13), 3) := by decide +kernel
theorem dJ7_fill_d0a16_22 : decode cJ7_fill_d0a16 22 = .ok (.return_, 1) := by decide +kernel
theorem dJ7_fill_53178_0 : decode cJ7_fill_53178 0 = .ok (.iconst 0, 1) := by decide +kernel
theorem dJ7_fill_53178_1 : decode cJ7_fill_53178 1 = .ok (.istore_n 2, 1) := by decide +kernel
theorem dJ7_fill_53178_2 : decode cJ7_fill_53178 2 = .ok (.aload_n 0, 1) := by decide +kernel
theorem dJ7_fill_53178_3 : decode cJ7_fill_53178 3 = .ok (.arraylength, 1) := by decide +kernel
theorem dJ7_fill_53178_4 : decode cJ7_fill_53178 4 = .ok (.istore_n 3, 1) := by decide +kernel
theorem dJ7_fill_53178_5 : decode cJ7_fill_53178 5 = .ok (.iload_n 2, 1) := by decide +kernel
theorem dJ7_fill_53178_6 : decode cJ7_fill_53178 6 = .ok (.iload_n 3, 1) := by decide +kernel
theorem dJ7_fill_53178_7 : decode cJ7_fill_53178 7 = .ok (.if_icmp .ge 13, 3) := by decide +kernel
theorem dJ7_fill_53178_10 : decode cJ7_fill_53178 10 = .ok (.aload_n 0, 1) := by decide +kernel
theorem dJ7_fill_53178_11 : decode cJ7_fill_53178 11 = .ok (.iload_n 2, 1) := by decide +kernel
theorem dJ7_fill_53178_12 : decode cJ7_fill_53178 12 = .ok (.iload_n 1, 1) := by decide +kernel
theorem dJ7_fill_53178_13 : decode cJ7_fill_53178 13 = .ok (.iastore, 1) := by decide +kernel
theorem dJ7_fill_53178_14 : decode cJ7_fill_53178 14 = .ok (.iinc 2 1, 3) := by decide +kernel
theorem dJ7_fill_53178_17 : decode cJ7_fill_53178 17 = .ok (.goto (-12), 3) := by decide +kernel
theorem dJ7_fill_53178_20 : decode cJ7_fill_53178 20 = .ok (.return_, 1) := by decide +kernel
