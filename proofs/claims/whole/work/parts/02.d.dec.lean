theorem dX0_init_0 : decode cX0_init 0 = .ok (.aload_n 0, 1) := by decide +kernel
theorem dX0_init_1 : decode cX0_init 1 = .ok (.invokespecial 3, 3) := by decide +kernel
theorem dX0_init_4 : decode cX0_init 4 = .ok (.aload_n 0, 1) := by decide +kernel
theorem dX0_init_5 : decode cX0_init 5 = .ok (.sipush 200, 3) := by decide +kernel
theorem dX0_init_8 : decode cX0_init 8 = .ok (.newarray .int, 2) := by decide +kernel
theorem dX0_init_10 : decode cX0_init 10 = .ok (.putfield 9, 3) := by decide +kernel
theorem dX0_init_13 : decode cX0_init 13 = .ok (.return_, 1) := by decide +kernel
theorem dX0_divide_0 : decode cX0_divide 0 = .ok (.iconst 0, 1) := by decide +kernel
theorem dX0_divide_1 : decode cX0_divide 1 = .ok (.istore_n 3, 1) := by decide +kernel
theorem dX0_divide_2 : decode cX0_divide 2 = .ok (.iconst 0, 1) := by decide +kernel
theorem dX0_divide_3 : decode cX0_divide 3 = .ok (.istore 4, 2) := by decide +kernel
theorem dX0_divide_5 : decode cX0_divide 5 = .ok (.iconst 0, 1) := by decide +kernel
theorem dX0_divide_6 : decode cX0_divide 6 = .ok (.istore 5, 2) := by decide +kernel
theorem dX0_divide_8 : decode cX0_divide 8 = .ok (.iload 5, 2) := by decide +kernel
theorem dX0_divide_10 : decode cX0_divide 10 = .ok (.iload_n 2, 1) := by decide +kernel
theorem dX0_divide_11 : decode cX0_divide 11 = .ok (.if_icmp .ge 110, 3) := by decide +kernel
theorem dX0_divide_14 : decode cX0_divide 14 = .ok (.iload 4, 2) := by decide +kernel
theorem dX0_divide_16 : decode cX0_divide 16 = .ok (.iload_n 2, 1) := by decide +kernel
theorem dX0_divide_17 : decode cX0_divide 17 = .ok (.if_icmp .ge 104, 3) := by decide +kernel
theorem dX0_divide_20 : decode cX0_divide 20 = .ok (.iload 4, 2) := by decide +kernel
theorem dX0_divide_22 : decode cX0_divide 22 = .ok (.istore 6, 2) := by decide +kernel
theorem dX0_divide_24 : decode cX0_divide 24 = .ok (.iload 4, 2) := by decide +kernel
theorem dX0_divide_26 : decode cX0_divide 26 = .ok (.iconst 1, 1) := by decide +kernel
theorem dX0_divide_27 : decode cX0_divide 27 = .ok (.iadd, 1) := by decide +kernel
theorem dX0_divide_28 : decode cX0_divide 28 = .ok (.istore 7, 2) := by decide +kernel
theorem dX0_divide_30 : decode cX0_divide 30 = .ok (.iload 7, 2) := by decide +kernel
theorem dX0_divide_32 : decode cX0_divide 32 = .ok (.iload_n 2, 1) := by decide +kernel
theorem dX0_divide_33 : decode cX0_divide 33 = .ok (.if_icmp .ge 42, 3) := by decide +kernel
theorem dX0_divide_36 : decode cX0_divide 36 = .ok (.aload_n 1, 1) := by decide +kernel
theorem dX0_divide_37 : decode cX0_divide 37 = .ok (.iload 6, 2) := by decide +kernel
theorem dX0_divide_39 : decode cX0_divide 39 = .ok (.iaload, 1) := by decide +kernel
theorem dX0_divide_40 : decode cX0_divide 40 = .ok (.aload_n 1, 1) := by decide +kernel
theorem dX0_divide_41 : decode cX0_divide 41 = .ok (.iload 7, 2) := by decide +kernel
theorem dX0_divide_43 : decode cX0_divide 43 = .ok (.iaload, 1) := by decide +kernel
theorem dX0_divide_44 : decode cX0_divide 44 = .ok (.if_icmp .gt 31, 3) := by decide +kernel
theorem dX0_divide_47 : decode cX0_divide 47 = .ok (.aload_n 1, 1) := by decide +kernel
theorem dX0_divide_48 : decode cX0_divide 48 = .ok (.iload 6, 2) := by decide +kernel
theorem dX0_divide_50 : decode cX0_divide 50 = .ok (.iaload, 1) := by decide +kernel
theorem dX0_divide_51 : decode cX0_divide 51 = .ok (.aload_n 1, 1) := by decide +kernel
theorem dX0_divide_52 : decode cX0_divide 52 = .ok (.iload 7, 2) := by decide +kernel
theorem dX0_divide_54 : decode cX0_divide 54 = .ok (.iaload, 1) := by decide +kernel
theorem dX0_divide_55 : decode cX0_divide 55 = .ok (.if_icmp .ge 8, 3) := by decide +kernel
theorem dX0_divide_58 : decode cX0_divide 58 = .ok (.iload 4, 2) := by decide +kernel
theorem dX0_divide_60 : decode cX0_divide 60 = .ok (.goto 7, 3) := by decide +kernel
theorem dX0_divide_63 : decode cX0_divide 63 = .ok (.iload 6, 2) := by decide +kernel
theorem dX0_divide_65 : decode cX0_divide 65 = .ok (.iconst 1, 1) := by decide +kernel
theorem dX0_divide_66 : decode cX0_divide 66 = .ok (.iadd, 1) := by decide +kernel
theorem dX0_divide_67 : decode cX0_divide 67 = .ok (.istore 6, 2) := by decide +kernel
theorem dX0_divide_69 : decode cX0_divide 69 = .ok (.iinc 7 1, 3) := by decide +kernel
theorem dX0_divide_72 : decode cX0_divide 72 = .ok (.goto (-42), 3) := by decide +kernel
theorem dX0_divide_75 : decode cX0_divide 75 = .ok (.iload 7, 2) := by decide +kernel
theorem dX0_divide_77 : decode cX0_divide 77 = .ok (.iload 6, 2) := by decide +kernel
theorem dX0_divide_79 : decode cX0_divide 79 = .ok (.isub, 1) := by decide +kernel
theorem dX0_divide_80 : decode cX0_divide 80 = .ok (.istore 8, 2) := by decide +kernel
theorem dX0_divide_82 : decode cX0_divide 82 = .ok (.iload 4, 2) := by decide +kernel
theorem dX0_divide_84 : decode cX0_divide 84 = .ok (.iload 6, 2) := by decide +kernel
theorem dX0_divide_86 : decode cX0_divide 86 = .ok (.if_icmp .gt 29, 3) := by decide +kernel
theorem dX0_divide_89 : decode cX0_divide 89 = .ok (.iload_n 3, 1) := by decide +kernel
theorem dX0_divide_90 : decode cX0_divide 90 = .ok (.iload_n 2, 1) := by decide +kernel
theorem dX0_divide_91 : decode cX0_divide 91 = .ok (.if_icmp .ge 24, 3) := by decide +kernel
theorem dX0_divide_94 : decode cX0_divide 94 = .ok (.aload_n 0, 1) := by decide +kernel
theorem dX0_divide_95 : decode cX0_divide 95 = .ok (.getfield 9, 3) := by decide +kernel
theorem dX0_divide_98 : decode cX0_divide 98 = .ok (.iload_n 3, 1) := by decide +kernel
theorem dX0_divide_99 : decode cX0_divide 99 = .ok (.iload 4, 2) := by decide +kernel
theorem dX0_divide_101 : decode cX0_divide 101 = .ok (.iastore, 1) := by decide +kernel
theorem dX0_divide_102 : decode cX0_divide 102 = .ok (.iload 4, 2) := by decide +kernel
theorem dX0_divide_104 : decode cX0_divide 104 = .ok (.iload 8, 2) := by decide +kernel
theorem dX0_divide_106 : decode cX0_divide 106 = .ok (.iadd, 1) := by decide +kernel
theorem dX0_divide_107 : decode cX0_divide 107 = .ok (.istore 4, 2) := by decide +kernel
theorem dX0_divide_109 : decode cX0_divide 109 = .ok (.iinc 3 1, 3) := by decide +kernel
theorem dX0_divide_112 : decode cX0_divide 112 = .ok (.goto (-30), 3) := by decide +kernel
theorem dX0_divide_115 : decode cX0_divide 115 = .ok (.iinc 5 1, 3) := by decide +kernel
theorem dX0_divide_118 : decode cX0_divide 118 = .ok (.goto (-110), 3) := by decide +kernel
theorem dX0_divide_121 : decode cX0_divide 121 = .ok (.iload_n 3, 1) := by decide +kernel
theorem dX0_divide_122 : decode cX0_divide 122 = .ok (.ifCond .le 8, 3) := by decide +kernel
theorem dX0_divide_125 : decode cX0_divide 125 = .ok (.aload_n 0, 1) := by decide +kernel
theorem dX0_divide_126 : decode cX0_divide 126 = .ok (.iload_n 3, 1) := by decide +kernel
theorem dX0_divide_127 : decode cX0_divide 127 = .ok (.putfield 15, 3) := by decide +kernel
theorem dX0_divide_130 : decode cX0_divide 130 = .ok (.iload_n 3, 1) := by decide +kernel
theorem dX0_divide_131 : decode cX0_divide 131 = .ok (.ireturn, 1) := by decide +kernel
theorem dX1_init_0 : decode cX1_init 0 = .ok (.aload_n 0, 1) := by decide +kernel
theorem dX1_init_1 : decode cX1_init 1 = .ok (.invokespecial 3, 3) := by decide +kernel
theorem dX1_init_4 : decode cX1_init 4 = .ok (.aload_n 0, 1) := by decide +kernel
theorem dX1_init_5 : decode cX1_init 5 = .ok (.sipush 201, 3) := by decide +kernel
theorem dX1_init_8 : decode cX1_init 8 = .ok (.newarray .int, 2) := by decide +kernel
theorem dX1_init_10 : decode cX1_init 10 = .ok (.putfield 9, 3) := by decide +kernel
theorem dX1_init_13 : decode cX1_init 13 = .ok (.aload_n 0, 1) := by decide +kernel
theorem dX1_init_14 : decode cX1_init 14 = .ok (.sipush 201, 3) := by decide +kernel
theorem dX1_init_17 : decode cX1_init 17 = .ok (.newarray .int, 2) := by decide +kernel
theorem dX1_init_19 : decode cX1_init 19 = .ok (.putfield 15, 3) := by decide +kernel
theorem dX1_init_22 : decode cX1_init 22 = .ok (.aload_n 0, 1) := by decide +kernel
theorem dX1_init_23 : decode cX1_init 23 = .ok (.sipush 201, 3) := by decide +kernel
theorem dX1_init_26 : decode cX1_init 26 = .ok (.newarray .int, 2) := by decide +kernel
theorem dX1_init_28 : decode cX1_init 28 = .ok (.putfield 18, 3) := by decide +kernel
theorem dX1_init_31 : decode cX1_init 31 = .ok (.aload_n 0, 1) := by decide +kernel
theorem dX1_init_32 : decode cX1_init 32 = .ok (.iconst 2, 1) := by decide +kernel
theorem dX1_init_33 : decode cX1_init 33 = .ok (.putfield 21, 3) := by decide +kernel
theorem dX1_init_36 : decode cX1_init 36 = .ok (.return_, 1) := by decide +kernel
theorem dX1_coefficientAt_0 : decode cX1_coefficientAt 0 = .ok (.aload_n 0, 1) := by decide +kernel
theorem dX1_coefficientAt_1 : decode cX1_coefficientAt 1 = .ok (.getfield 21, 3) := by decide +kernel
theorem dX1_coefficientAt_4 : decode cX1_coefficientAt 4 = .ok (.aload_n 0, 1) := by decide +kernel
theorem dX1_coefficientAt_5 : decode cX1_coefficientAt 5 = .ok (.getfield 9, 3) := by decide +kernel
theorem dX1_coefficientAt_8 : decode cX1_coefficientAt 8 = .ok (.iload_n 1, 1) := by decide +kernel
theorem dX1_coefficientAt_9 : decode cX1_coefficientAt 9 = .ok (.iaload, 1) := by decide +kernel
theorem dX1_coefficientAt_10 : decode cX1_coefficientAt 10 = .ok (.isub, 1) := by decide +kernel
theorem dX1_coefficientAt_11 : decode cX1_coefficientAt 11 = .ok (.aload_n 0, 1) := by decide +kernel
theorem dX1_coefficientAt_12 : decode cX1_coefficientAt 12 = .ok (.getfield 21, 3) := by decide +kernel
theorem dX1_coefficientAt_15 : decode cX1_coefficientAt 15 = .ok (.irem, 1) := by decide +kernel
theorem dX1_coefficientAt_16 : decode cX1_coefficientAt 16 = .ok (.ireturn, 1) := by decide +kernel
theorem dX1_learn_0 : decode cX1_learn 0 = .ok (.aload_n 0, 1) := by decide +kernel
theorem dX1_learn_1 : decode cX1_learn 1 = .ok (.iload_n 3, 1) := by decide +kernel
theorem dX1_learn_2 : decode cX1_learn 2 = .ok (.putfield 21, 3) := by decide +kernel
theorem dX1_learn_5 : decode cX1_learn 5 = .ok (.aload_n 0, 1) := by decide +kernel
theorem dX1_learn_6 : decode cX1_learn 6 = .ok (.iconst 0, 1) := by decide +kernel
theorem dX1_learn_7 : decode cX1_learn 7 = .ok (.putfield 25, 3) := by decide +kernel
theorem dX1_learn_10 : decode cX1_learn 10 = .ok (.aload_n 0, 1) := by decide +kernel
theorem dX1_learn_11 : decode cX1_learn 11 = .ok (.getfield 9, 3) := by decide +kernel
theorem dX1_learn_14 : decode cX1_learn 14 = .ok (.iconst 0, 1) := by decide +kernel
theorem dX1_learn_15 : decode cX1_learn 15 = .ok (.invokestatic 28, 3) := by decide +kernel
theorem dX1_learn_18 : decode cX1_learn 18 = .ok (.aload_n 0, 1) := by decide +kernel
theorem dX1_learn_19 : decode cX1_learn 19 = .ok (.getfield 15, 3) := by decide +kernel
theorem dX1_learn_22 : decode cX1_learn 22 = .ok (.iconst 0, 1) := by decide +kernel
theorem dX1_learn_23 : decode cX1_learn 23 = .ok (.invokestatic 28, 3) := by decide +kernel
theorem dX1_learn_26 : decode cX1_learn 26 = .ok (.aload_n 0, 1) := by decide +kernel
theorem dX1_learn_27 : decode cX1_learn 27 = .ok (.getfield 9, 3) := by decide +kernel
theorem dX1_learn_30 : decode cX1_learn 30 = .ok (.iconst 0, 1) := by decide +kernel
theorem dX1_learn_31 : decode cX1_learn 31 = .ok (.iconst 1, 1) := by decide +kernel
theorem dX1_learn_32 : decode cX1_learn 32 = .ok (.iastore, 1) := by decide +kernel
theorem dX1_learn_33 : decode cX1_learn 33 = .ok (.aload_n 0, 1) := by decide +kernel
theorem dX1_learn_34 : decode cX1_learn 34 = .ok (.getfield 15, 3) := by decide +kernel
theorem dX1_learn_37 : decode cX1_learn 37 = .ok (.iconst 0, 1) := by decide +kernel
theorem dX1_learn_38 : decode cX1_learn 38 = .ok (.iconst 1, 1) := by decide +kernel
theorem dX1_learn_39 : decode cX1_learn 39 = .ok (.iastore, 1) := by decide +kernel
theorem dX1_learn_40 : decode cX1_learn 40 = .ok (.iconst 1, 1) := by decide +kernel
theorem dX1_learn_41 : decode cX1_learn 41 = .ok (.istore 4, 2) := by decide +kernel
theorem dX1_learn_43 : decode cX1_learn 43 = .ok (.iconst 1, 1) := by decide +kernel
theorem dX1_learn_44 : decode cX1_learn 44 = .ok (.istore 5, 2) := by decide +kernel
theorem dX1_learn_46 : decode cX1_learn 46 = .ok (.iconst 0, 1) := by decide +kernel
theorem dX1_learn_47 : decode cX1_learn 47 = .ok (.istore 6, 2) := by decide +kernel
theorem dX1_learn_49 : decode cX1_learn 49 = .ok (.iload 6, 2) := by decide +kernel
theorem dX1_learn_51 : decode cX1_learn 51 = .ok (.iload_n 2, 1) := by decide +kernel
theorem dX1_learn_52 : decode cX1_learn 52 = .ok (.if_icmp .ge 88, 3) := by decide +kernel
theorem dX1_learn_55 : decode cX1_learn 55 = .ok (.aload_n 0, 1) := by decide +kernel
theorem dX1_learn_56 : decode cX1_learn 56 = .ok (.aload_n 1, 1) := by decide +kernel
theorem dX1_learn_57 : decode cX1_learn 57 = .ok (.iload 6, 2) := by decide +kernel
theorem dX1_learn_59 : decode cX1_learn 59 = .ok (.invokevirtual 34, 3) := by decide +kernel
theorem dX1_learn_62 : decode cX1_learn 62 = .ok (.istore 7, 2) := by decide +kernel
theorem dX1_learn_64 : decode cX1_learn 64 = .ok (.iload 7, 2) := by decide +kernel
theorem dX1_learn_66 : decode cX1_learn 66 = .ok (.ifCond .eq 65, 3) := by decide +kernel
theorem dX1_learn_69 : decode cX1_learn 69 = .ok (.iload 7, 2) := by decide +kernel
theorem dX1_learn_71 : decode cX1_learn 71 = .ok (.aload_n 0, 1) := by decide +kernel
theorem dX1_learn_72 : decode cX1_learn 72 = .ok (.iload 4, 2) := by decide +kernel
theorem dX1_learn_74 : decode cX1_learn 74 = .ok (.invokevirtual 38, 3) := by decide +kernel
theorem dX1_learn_77 : decode cX1_learn 77 = .ok (.imul, 1) := by decide +kernel
theorem dX1_learn_78 : decode cX1_learn 78 = .ok (.aload_n 0, 1) := by decide +kernel
theorem dX1_learn_79 : decode cX1_learn 79 = .ok (.getfield 21, 3) := by decide +kernel
theorem dX1_learn_82 : decode cX1_learn 82 = .ok (.irem, 1) := by decide +kernel
theorem dX1_learn_83 : decode cX1_learn 83 = .ok (.istore 8, 2) := by decide +kernel
theorem dX1_learn_85 : decode cX1_learn 85 = .ok (.iconst 2, 1) := by decide +kernel
theorem dX1_learn_86 : decode cX1_learn 86 = .ok (.aload_n 0, 1) := by decide +kernel
theorem dX1_learn_87 : decode cX1_learn 87 = .ok (.getfield 25, 3) := by decide +kernel
theorem dX1_learn_90 : decode cX1_learn 90 = .ok (.imul, 1) := by decide +kernel
theorem dX1_learn_91 : decode cX1_learn 91 = .ok (.iload 6, 2) := by decide +kernel
theorem dX1_learn_93 : decode cX1_learn 93 = .ok (.if_icmp .gt 30, 3) := by decide +kernel
theorem dX1_learn_96 : decode cX1_learn 96 = .ok (.aload_n 0, 1) := by decide +kernel
theorem dX1_learn_97 : decode cX1_learn 97 = .ok (.iload 8, 2) := by decide +kernel
theorem dX1_learn_99 : decode cX1_learn 99 = .ok (.iload 5, 2) := by decide +kernel
theorem dX1_learn_101 : decode cX1_learn 101 = .ok (.iload 6, 2) := by decide +kernel
theorem dX1_learn_103 : decode cX1_learn 103 = .ok (.iconst 1, 1) := by decide +kernel
theorem dX1_learn_104 : decode cX1_learn 104 = .ok (.iadd, 1) := by decide +kernel
theorem dX1_learn_105 : decode cX1_learn 105 = .ok (.aload_n 0, 1) := by decide +kernel
theorem dX1_learn_106 : decode cX1_learn 106 = .ok (.getfield 25, 3) := by decide +kernel
theorem dX1_learn_109 : decode cX1_learn 109 = .ok (.isub, 1) := by decide +kernel
theorem dX1_learn_110 : decode cX1_learn 110 = .ok (.invokevirtual 42, 3) := by decide +kernel
theorem dX1_learn_113 : decode cX1_learn 113 = .ok (.iload 7, 2) := by decide +kernel
theorem dX1_learn_115 : decode cX1_learn 115 = .ok (.istore 4, 2) := by decide +kernel
theorem dX1_learn_117 : decode cX1_learn 117 = .ok (.iconst 0, 1) := by decide +kernel
theorem dX1_learn_118 : decode cX1_learn 118 = .ok (.istore 5, 2) := by decide +kernel
theorem dX1_learn_120 : decode cX1_learn 120 = .ok (.goto 11, 3) := by decide +kernel
theorem dX1_learn_123 : decode cX1_learn 123 = .ok (.aload_n 0, 1) := by decide +kernel
theorem dX1_learn_124 : decode cX1_learn 124 = .ok (.iload 8, 2) := by decide +kernel
theorem dX1_learn_126 : decode cX1_learn 126 = .ok (.iload 5, 2) := by decide +kernel
theorem dX1_learn_128 : decode cX1_learn 128 = .ok (.invokevirtual 46, 3) := by decide +kernel
theorem dX1_learn_131 : decode cX1_learn 131 = .ok (.iinc 5 1, 3) := by decide +kernel
theorem dX1_learn_134 : decode cX1_learn 134 = .ok (.iinc 6 1, 3) := by decide +kernel
theorem dX1_learn_137 : decode cX1_learn 137 = .ok (.goto (-88), 3) := by decide +kernel
theorem dX1_learn_140 : decode cX1_learn 140 = .ok (.aload_n 0, 1) := by decide +kernel
theorem dX1_learn_141 : decode cX1_learn 141 = .ok (.iload 5, 2) := by decide +kernel
theorem dX1_learn_143 : decode cX1_learn 143 = .ok (.iconst 2, 1) := by decide +kernel
theorem dX1_learn_144 : decode cX1_learn 144 = .ok (.aload_n 0, 1) := by decide +kernel
theorem dX1_learn_145 : decode cX1_learn 145 = .ok (.getfield 25, 3) := by decide +kernel
theorem dX1_learn_148 : decode cX1_learn 148 = .ok (.imul, 1) := by decide +kernel
theorem dX1_learn_149 : decode cX1_learn 149 = .ok (.iload_n 2, 1) := by decide +kernel
theorem dX1_learn_150 : decode cX1_learn 150 = .ok (.isub, 1) := by decide +kernel
theorem dX1_learn_151 : decode cX1_learn 151 = .ok (.invokevirtual 50, 3) := by decide +kernel
theorem dX1_learn_154 : decode cX1_learn 154 = .ok (.aload_n 0, 1) := by decide +kernel
theorem dX1_learn_155 : decode cX1_learn 155 = .ok (.getfield 25, 3) := by decide +kernel
theorem dX1_learn_158 : decode cX1_learn 158 = .ok (.ireturn, 1) := by decide +kernel
theorem dX1_gapAt_0 : decode cX1_gapAt 0 = .ok (.iconst 0, 1) := by decide +kernel
theorem dX1_gapAt_1 : decode cX1_gapAt 1 = .ok (.istore_n 3, 1) := by decide +kernel
theorem dX1_gapAt_2 : decode cX1_gapAt 2 = .ok (.iconst 0, 1) := by decide +kernel
theorem dX1_gapAt_3 : decode cX1_gapAt 3 = .ok (.istore 4, 2) := by decide +kernel
theorem dX1_gapAt_5 : decode cX1_gapAt 5 = .ok (.iload 4, 2) := by decide +kernel
theorem dX1_gapAt_7 : decode cX1_gapAt 7 = .ok (.aload_n 0, 1) := by decide +kernel
theorem dX1_gapAt_8 : decode cX1_gapAt 8 = .ok (.getfield 25, 3) := by decide +kernel
theorem dX1_gapAt_11 : decode cX1_gapAt 11 = .ok (.if_icmp .gt 26, 3) := by decide +kernel
theorem dX1_gapAt_14 : decode cX1_gapAt 14 = .ok (.iload_n 3, 1) := by decide +kernel
theorem dX1_gapAt_15 : decode cX1_gapAt 15 = .ok (.aload_n 0, 1) := by decide +kernel
theorem dX1_gapAt_16 : decode cX1_gapAt 16 = .ok (.getfield 9, 3) := by decide +kernel
theorem dX1_gapAt_19 : decode cX1_gapAt 19 = .ok (.iload 4, 2) := by decide +kernel
theorem dX1_gapAt_21 : decode cX1_gapAt 21 = .ok (.iaload, 1) := by decide +kernel
theorem dX1_gapAt_22 : decode cX1_gapAt 22 = .ok (.aload_n 1, 1) := by decide +kernel
theorem dX1_gapAt_23 : decode cX1_gapAt 23 = .ok (.iload_n 2, 1) := by decide +kernel
theorem dX1_gapAt_24 : decode cX1_gapAt 24 = .ok (.iload 4, 2) := by decide +kernel
theorem dX1_gapAt_26 : decode cX1_gapAt 26 = .ok (.isub, 1) := by decide +kernel
theorem dX1_gapAt_27 : decode cX1_gapAt 27 = .ok (.iaload, 1) := by decide +kernel
theorem dX1_gapAt_28 : decode cX1_gapAt 28 = .ok (.imul, 1) := by decide +kernel
theorem dX1_gapAt_29 : decode cX1_gapAt 29 = .ok (.iadd, 1) := by decide +kernel
theorem dX1_gapAt_30 : decode cX1_gapAt 30 = .ok (.istore_n 3, 1) := by decide +kernel
theorem dX1_gapAt_31 : decode cX1_gapAt 31 = .ok (.iinc 4 1, 3) := by decide +kernel
theorem dX1_gapAt_34 : decode cX1_gapAt 34 = .ok (.goto (-29), 3) := by decide +kernel
theorem dX1_gapAt_37 : decode cX1_gapAt 37 = .ok (.iload_n 3, 1) := by decide +kernel
theorem dX1_gapAt_38 : decode cX1_gapAt 38 = .ok (.aload_n 0, 1) := by decide +kernel
theorem dX1_gapAt_39 : decode cX1_gapAt 39 = .ok (.getfield 21, 3) := by decide +kernel
theorem dX1_gapAt_42 : decode cX1_gapAt 42 = .ok (.irem, 1) := by decide +kernel
theorem dX1_gapAt_43 : decode cX1_gapAt 43 = .ok (.ireturn, 1) := by decide +kernel
theorem dX1_inverse_0 : decode cX1_inverse 0 = .ok (.iconst 1, 1) := by decide +kernel
theorem dX1_inverse_1 : decode cX1_inverse 1 = .ok (.istore_n 2, 1) := by decide +kernel
theorem dX1_inverse_2 : decode cX1_inverse 2 = .ok (.iload_n 2, 1) := by decide +kernel
theorem dX1_inverse_3 : decode cX1_inverse 3 = .ok (.aload_n 0, 1) := by decide +kernel
theorem dX1_inverse_4 : decode cX1_inverse 4 = .ok (.getfield 21, 3) := by decide +kernel
theorem dX1_inverse_7 : decode cX1_inverse 7 = .ok (.if_icmp .ge 21, 3) := by decide +kernel
theorem dX1_inverse_10 : decode cX1_inverse 10 = .ok (.iload_n 2, 1) := by decide +kernel
theorem dX1_inverse_11 : decode cX1_inverse 11 = .ok (.iload_n 1, 1) := by decide +kernel
theorem dX1_inverse_12 : decode cX1_inverse 12 = .ok (.imul, 1) := by decide +kernel
theorem dX1_inverse_13 : decode cX1_inverse 13 = .ok (.aload_n 0, 1) := by decide +kernel
theorem dX1_inverse_14 : decode cX1_inverse 14 = .ok (.getfield 21, 3) := by decide +kernel
theorem dX1_inverse_17 : decode cX1_inverse 17 = .ok (.irem, 1) := by decide +kernel
theorem dX1_inverse_18 : decode cX1_inverse 18 = .ok (.iconst 1, 1) := by decide +kernel
theorem dX1_inverse_19 : decode cX1_inverse 19 = .ok (.if_icmp .eq 9, 3) := by decide +kernel
theorem dX1_inverse_22 : decode cX1_inverse 22 = .ok (.iinc 2 1, 3) := by decide +kernel
theorem dX1_inverse_25 : decode cX1_inverse 25 = .ok (.goto (-23), 3) := by decide +kernel
theorem dX1_inverse_28 : decode cX1_inverse 28 = .ok (.iload_n 2, 1) := by decide +kernel
theorem dX1_inverse_29 : decode cX1_inverse 29 = .ok (.ireturn, 1) := by decide +kernel
theorem dX1_lengthen_0 : decode cX1_lengthen 0 = .ok (.aload_n 0, 1) := by decide +kernel
theorem dX1_lengthen_1 : decode cX1_lengthen 1 = .ok (.getfield 9, 3) := by decide +kernel
theorem dX1_lengthen_4 : decode cX1_lengthen 4 = .ok (.iconst 0, 1) := by decide +kernel
theorem dX1_lengthen_5 : decode cX1_lengthen 5 = .ok (.aload_n 0, 1) := by decide +kernel
theorem dX1_lengthen_6 : decode cX1_lengthen 6 = .ok (.getfield 18, 3) := by decide +kernel
theorem dX1_lengthen_9 : decode cX1_lengthen 9 = .ok (.iconst 0, 1) := by decide +kernel
theorem dX1_lengthen_10 : decode cX1_lengthen 10 = .ok (.aload_n 0, 1) := by decide +kernel
theorem dX1_lengthen_11 : decode cX1_lengthen 11 = .ok (.getfield 9, 3) := by decide +kernel
theorem dX1_lengthen_14 : decode cX1_lengthen 14 = .ok (.arraylength, 1) := by decide +kernel
theorem dX1_lengthen_15 : decode cX1_lengthen 15 = .ok (.invokestatic 53, 3) := by decide +kernel
theorem dX1_lengthen_18 : decode cX1_lengthen 18 = .ok (.aload_n 0, 1) := by decide +kernel
theorem dX1_lengthen_19 : decode cX1_lengthen 19 = .ok (.iload_n 1, 1) := by decide +kernel
theorem dX1_lengthen_20 : decode cX1_lengthen 20 = .ok (.iload_n 2, 1) := by decide +kernel
theorem dX1_lengthen_21 : decode cX1_lengthen 21 = .ok (.invokevirtual 46, 3) := by decide +kernel
theorem dX1_lengthen_24 : decode cX1_lengthen 24 = .ok (.aload_n 0, 1) := by decide +kernel
theorem dX1_lengthen_25 : decode cX1_lengthen 25 = .ok (.getfield 18, 3) := by decide +kernel
theorem dX1_lengthen_28 : decode cX1_lengthen 28 = .ok (.iconst 0, 1) := by decide +kernel
theorem dX1_lengthen_29 : decode cX1_lengthen 29 = .ok (.aload_n 0, 1) := by decide +kernel
theorem dX1_lengthen_30 : decode cX1_lengthen 30 = .ok (.getfield 15, 3) := by decide +kernel
theorem dX1_lengthen_33 : decode cX1_lengthen 33 = .ok (.iconst 0, 1) := by decide +kernel
theorem dX1_lengthen_34 : decode cX1_lengthen 34 = .ok (.aload_n 0, 1) := by decide +kernel
theorem dX1_lengthen_35 : decode cX1_lengthen 35 = .ok (.getfield 18, 3) := by decide +kernel
theorem dX1_lengthen_38 : decode cX1_lengthen 38 = .ok (.arraylength, 1) := by decide +kernel
theorem dX1_lengthen_39 : decode cX1_lengthen 39 = .ok (.invokestatic 53, 3) := by decide +kernel
theorem dX1_lengthen_42 : decode cX1_lengthen 42 = .ok (.aload_n 0, 1) := by decide +kernel
theorem dX1_lengthen_43 : decode cX1_lengthen 43 = .ok (.iload_n 3, 1) := by decide +kernel
theorem dX1_lengthen_44 : decode cX1_lengthen 44 = .ok (.putfield 25, 3) := by decide +kernel
theorem dX1_lengthen_47 : decode cX1_lengthen 47 = .ok (.return_, 1) := by decide +kernel
theorem dX1_subtractEarlier_0 : decode cX1_subtractEarlier 0 = .ok (.iconst 0, 1) := by decide +kernel
theorem dX1_subtractEarlier_1 : decode cX1_subtractEarlier 1 = .ok (.istore_n 3, 1) := by decide +kernel
theorem dX1_subtractEarlier_2 : decode cX1_subtractEarlier 2 = .ok (.iload_n 3, 1) := by decide +kernel
theorem dX1_subtractEarlier_3 : decode cX1_subtractEarlier 3 = .ok (.iload_n 2, 1) := by decide +kernel
theorem dX1_subtractEarlier_4 : decode cX1_subtractEarlier 4 = .ok (.iadd, 1) := by decide +kernel
theorem dX1_subtractEarlier_5 : decode cX1_subtractEarlier 5 = .ok (.aload_n 0, 1) := by decide +kernel
theorem dX1_subtractEarlier_6 : decode cX1_subtractEarlier 6 = .ok (.getfield 9, 3) := by decide +kernel
theorem dX1_subtractEarlier_9 : decode cX1_subtractEarlier 9 = .ok (.arraylength, 1) := by decide +kernel
theorem dX1_subtractEarlier_10 : decode cX1_subtractEarlier 10 = .ok (.if_icmp .ge 44, 3) := by decide +kernel
theorem dX1_subtractEarlier_13 : decode cX1_subtractEarlier 13 = .ok (.aload_n 0, 1) := by decide +kernel
theorem dX1_subtractEarlier_14 : decode cX1_subtractEarlier 14 = .ok (.getfield 9, 3) := by decide +kernel
theorem dX1_subtractEarlier_17 : decode cX1_subtractEarlier 17 = .ok (.iload_n 3, 1) := by decide +kernel
theorem dX1_subtractEarlier_18 : decode cX1_subtractEarlier 18 = .ok (.iload_n 2, 1) := by decide +kernel
theorem dX1_subtractEarlier_19 : decode cX1_subtractEarlier 19 = .ok (.iadd, 1) := by decide +kernel
theorem dX1_subtractEarlier_20 : decode cX1_subtractEarlier 20 = .ok (.aload_n 0, 1) := by decide +kernel
theorem dX1_subtractEarlier_21 : decode cX1_subtractEarlier 21 = .ok (.getfield 9, 3) := by decide +kernel
theorem dX1_subtractEarlier_24 : decode cX1_subtractEarlier 24 = .ok (.iload_n 3, 1) := by decide +kernel
theorem dX1_subtractEarlier_25 : decode cX1_subtractEarlier 25 = .ok (.iload_n 2, 1) := by decide +kernel
theorem dX1_subtractEarlier_26 : decode cX1_subtractEarlier 26 = .ok (.iadd, 1) := by decide +kernel
theorem dX1_subtractEarlier_27 : decode cX1_subtractEarlier 27 = .ok (.iaload, 1) := by decide +kernel
theorem dX1_subtractEarlier_28 : decode cX1_subtractEarlier 28 = .ok (.aload_n 0, 1) := by decide +kernel
theorem dX1_subtractEarlier_29 : decode cX1_subtractEarlier 29 = .ok (.getfield 21, 3) := by decide +kernel
theorem dX1_subtractEarlier_32 : decode cX1_subtractEarlier 32 = .ok (.iload_n 1, 1) := by decide +kernel
theorem dX1_subtractEarlier_33 : decode cX1_subtractEarlier 33 = .ok (.isub, 1) := by decide +kernel
theorem dX1_subtractEarlier_34 : decode cX1_subtractEarlier 34 = .ok (.aload_n 0, 1) := by decide +kernel
theorem dX1_subtractEarlier_35 : decode cX1_subtractEarlier 35 = .ok (.getfield 15, 3) := by decide +kernel
theorem dX1_subtractEarlier_38 : decode cX1_subtractEarlier 38 = .ok (.iload_n 3, 1) := by decide +kernel
theorem dX1_subtractEarlier_39 : decode cX1_subtractEarlier 39 = .ok (.iaload, 1) := by decide +kernel
theorem dX1_subtractEarlier_40 : decode cX1_subtractEarlier 40 = .ok (.imul, 1) := by decide +kernel
theorem dX1_subtractEarlier_41 : decode cX1_subtractEarlier 41 = .ok (.iadd, 1) := by decide +kernel
theorem dX1_subtractEarlier_42 : decode cX1_subtractEarlier 42 = .ok (.aload_n 0, 1) := by decide +kernel
theorem dX1_subtractEarlier_43 : decode cX1_subtractEarlier 43 = .ok (.getfield 21, 3) := by decide +kernel
theorem dX1_subtractEarlier_46 : decode cX1_subtractEarlier 46 = .ok (.irem, 1) := by decide +kernel
theorem dX1_subtractEarlier_47 : decode cX1_subtractEarlier 47 = .ok (.iastore, 1) := by decide +kernel
theorem dX1_subtractEarlier_48 : decode cX1_subtractEarlier 48 = .ok (.iinc 3 1, 3) := by decide +kernel
theorem dX1_subtractEarlier_51 : decode cX1_subtractEarlier 51 = .ok (.goto (-49), 3) := by decide +kernel
theorem dX1_subtractEarlier_54 : decode cX1_subtractEarlier 54 = .ok (.return_, 1) := by decide +kernel
theorem dX1_lowerNumbers_0 : decode cX1_lowerNumbers 0 = .ok (.iload_n 1, 1) := by decide +kernel
theorem dX1_lowerNumbers_1 : decode cX1_lowerNumbers 1 = .ok (.istore_n 3, 1) := by decide +kernel
theorem dX1_lowerNumbers_2 : decode cX1_lowerNumbers 2 = .ok (.iload_n 3, 1) := by decide +kernel
theorem dX1_lowerNumbers_3 : decode cX1_lowerNumbers 3 = .ok (.iload_n 1, 1) := by decide +kernel
theorem dX1_lowerNumbers_4 : decode cX1_lowerNumbers 4 = .ok (.iload_n 2, 1) := by decide +kernel
theorem dX1_lowerNumbers_5 : decode cX1_lowerNumbers 5 = .ok (.iadd, 1) := by decide +kernel
theorem dX1_lowerNumbers_6 : decode cX1_lowerNumbers 6 = .ok (.if_icmp .ge 38, 3) := by decide +kernel
theorem dX1_lowerNumbers_9 : decode cX1_lowerNumbers 9 = .ok (.iload_n 3, 1) := by decide +kernel
theorem dX1_lowerNumbers_10 : decode cX1_lowerNumbers 10 = .ok (.aload_n 0, 1) := by decide +kernel
theorem dX1_lowerNumbers_11 : decode cX1_lowerNumbers 11 = .ok (.getfield 9, 3) := by decide +kernel
theorem dX1_lowerNumbers_14 : decode cX1_lowerNumbers 14 = .ok (.arraylength, 1) := by decide +kernel
theorem dX1_lowerNumbers_15 : decode cX1_lowerNumbers 15 = .ok (.if_icmp .ge 29, 3) := by decide +kernel
theorem dX1_lowerNumbers_18 : decode cX1_lowerNumbers 18 = .ok (.aload_n 0, 1) := by decide +kernel
theorem dX1_lowerNumbers_19 : decode cX1_lowerNumbers 19 = .ok (.getfield 9, 3) := by decide +kernel
theorem dX1_lowerNumbers_22 : decode cX1_lowerNumbers 22 = .ok (.iload_n 3, 1) := by decide +kernel
theorem dX1_lowerNumbers_23 : decode cX1_lowerNumbers 23 = .ok (.iaload, 1) := by decide +kernel
theorem dX1_lowerNumbers_24 : decode cX1_lowerNumbers 24 = .ok (.ifCond .eq 14, 3) := by decide +kernel
theorem dX1_lowerNumbers_27 : decode cX1_lowerNumbers 27 = .ok (.aload_n 0, 1) := by decide +kernel
theorem dX1_lowerNumbers_28 : decode cX1_lowerNumbers 28 = .ok (.aload_n 0, 1) := by decide +kernel
theorem dX1_lowerNumbers_29 : decode cX1_lowerNumbers 29 = .ok (.getfield 9, 3) := by decide +kernel
theorem dX1_lowerNumbers_32 : decode cX1_lowerNumbers 32 = .ok (.iload_n 3, 1) := by decide +kernel
theorem dX1_lowerNumbers_33 : decode cX1_lowerNumbers 33 = .ok (.iaload, 1) := by decide +kernel
theorem dX1_lowerNumbers_34 : decode cX1_lowerNumbers 34 = .ok (.iload_n 3, 1) := by decide +kernel
theorem dX1_lowerNumbers_35 : decode cX1_lowerNumbers 35 = .ok (.invokevirtual 46, 3) := by decide +kernel
theorem dX1_lowerNumbers_38 : decode cX1_lowerNumbers 38 = .ok (.iinc 3 1, 3) := by decide +kernel
theorem dX1_lowerNumbers_41 : decode cX1_lowerNumbers 41 = .ok (.goto (-39), 3) := by decide +kernel
theorem dX1_lowerNumbers_44 : decode cX1_lowerNumbers 44 = .ok (.return_, 1) := by decide +kernel
theorem dX2_init_0 : decode cX2_init 0 = .ok (.aload_n 0, 1) := by decide +kernel
theorem dX2_init_1 : decode cX2_init 1 = .ok (.invokespecial 3, 3) := by decide +kernel
theorem dX2_init_4 : decode cX2_init 4 = .ok (.aload_n 0, 1) := by decide +kernel
theorem dX2_init_5 : decode cX2_init 5 = .ok (.bipush 14, 2) := by decide +kernel
theorem dX2_init_7 : decode cX2_init 7 = .ok (.newarray .int, 2) := by decide +kernel
theorem dX2_init_9 : decode cX2_init 9 = .ok (.putfield 9, 3) := by decide +kernel
theorem dX2_init_12 : decode cX2_init 12 = .ok (.aload_n 0, 1) := by decide +kernel
theorem dX2_init_13 : decode cX2_init 13 = .ok (.sipush 400, 3) := by decide +kernel
theorem dX2_init_16 : decode cX2_init 16 = .ok (.newarray .int, 2) := by decide +kernel
theorem dX2_init_18 : decode cX2_init 18 = .ok (.putfield 15, 3) := by decide +kernel
theorem dX2_init_21 : decode cX2_init 21 = .ok (.aload_n 0, 1) := by decide +kernel
theorem dX2_init_22 : decode cX2_init 22 = .ok (.sipush 400, 3) := by decide +kernel
theorem dX2_init_25 : decode cX2_init 25 = .ok (.newarray .int, 2) := by decide +kernel
theorem dX2_init_27 : decode cX2_init 27 = .ok (.putfield 18, 3) := by decide +kernel
theorem dX2_init_30 : decode cX2_init 30 = .ok (.aload_n 0, 1) := by decide +kernel
theorem dX2_init_31 : decode cX2_init 31 = .ok (.sipush 20000, 3) := by decide +kernel
theorem dX2_init_34 : decode cX2_init 34 = .ok (.newarray .int, 2) := by decide +kernel
theorem dX2_init_36 : decode cX2_init 36 = .ok (.putfield 21, 3) := by decide +kernel
theorem dX2_init_39 : decode cX2_init 39 = .ok (.aload_n 0, 1) := by decide +kernel
theorem dX2_init_40 : decode cX2_init 40 = .ok (.sipush 20000, 3) := by decide +kernel
theorem dX2_init_43 : decode cX2_init 43 = .ok (.newarray .int, 2) := by decide +kernel
theorem dX2_init_45 : decode cX2_init 45 = .ok (.putfield 24, 3) := by decide +kernel
theorem dX2_init_48 : decode cX2_init 48 = .ok (.aload_n 0, 1) := by decide +kernel
theorem dX2_init_49 : decode cX2_init 49 = .ok (.sipush 20000, 3) := by decide +kernel
theorem dX2_init_52 : decode cX2_init 52 = .ok (.newarray .int, 2) := by decide +kernel
theorem dX2_init_54 : decode cX2_init 54 = .ok (.putfield 27, 3) := by decide +kernel
theorem dX2_init_57 : decode cX2_init 57 = .ok (.aload_n 0, 1) := by decide +kernel
theorem dX2_init_58 : decode cX2_init 58 = .ok (.sipush 401, 3) := by decide +kernel
theorem dX2_init_61 : decode cX2_init 61 = .ok (.newarray .int, 2) := by decide +kernel
theorem dX2_init_63 : decode cX2_init 63 = .ok (.putfield 30, 3) := by decide +kernel
theorem dX2_init_66 : decode cX2_init 66 = .ok (.aload_n 0, 1) := by decide +kernel
theorem dX2_init_67 : decode cX2_init 67 = .ok (.aload_n 1, 1) := by decide +kernel
theorem dX2_init_68 : decode cX2_init 68 = .ok (.putfield 33, 3) := by decide +kernel
theorem dX2_init_71 : decode cX2_init 71 = .ok (.aload_n 0, 1) := by decide +kernel
theorem dX2_init_72 : decode cX2_init 72 = .ok (.invokevirtual 37, 3) := by decide +kernel
theorem dX2_init_75 : decode cX2_init 75 = .ok (.return_, 1) := by decide +kernel
theorem dX2_becomeTurning_0 : decode cX2_becomeTurning 0 = .ok (.aload_n 0, 1) := by decide +kernel
theorem dX2_becomeTurning_1 : decode cX2_becomeTurning 1 = .ok (.getfield 9, 3) := by decide +kernel
theorem dX2_becomeTurning_4 : decode cX2_becomeTurning 4 = .ok (.iconst 0, 1) := by decide +kernel
theorem dX2_becomeTurning_5 : decode cX2_becomeTurning 5 = .ok (.invokestatic 40, 3) := by decide +kernel
theorem dX2_becomeTurning_8 : decode cX2_becomeTurning 8 = .ok (.aload_n 0, 1) := by decide +kernel
theorem dX2_becomeTurning_9 : decode cX2_becomeTurning 9 = .ok (.getfield 9, 3) := by decide +kernel
theorem dX2_becomeTurning_12 : decode cX2_becomeTurning 12 = .ok (.iconst 0, 1) := by decide +kernel
theorem dX2_becomeTurning_13 : decode cX2_becomeTurning 13 = .ok (.iconst 1, 1) := by decide +kernel
theorem dX2_becomeTurning_14 : decode cX2_becomeTurning 14 = .ok (.iastore, 1) := by decide +kernel
theorem dX2_becomeTurning_15 : decode cX2_becomeTurning 15 = .ok (.aload_n 0, 1) := by decide +kernel
theorem dX2_becomeTurning_16 : decode cX2_becomeTurning 16 = .ok (.iconst 0, 1) := by decide +kernel
theorem dX2_becomeTurning_17 : decode cX2_becomeTurning 17 = .ok (.putfield 46, 3) := by decide +kernel
theorem dX2_becomeTurning_20 : decode cX2_becomeTurning 20 = .ok (.aload_n 0, 1) := by decide +kernel
theorem dX2_becomeTurning_21 : decode cX2_becomeTurning 21 = .ok (.invokevirtual 50, 3) := by decide +kernel
theorem dX2_becomeTurning_24 : decode cX2_becomeTurning 24 = .ok (.return_, 1) := by decide +kernel
theorem dX2_changeFactor_0 : decode cX2_changeFactor 0 = .ok (.aload_n 0, 1) := by decide +kernel
theorem dX2_changeFactor_1 : decode cX2_changeFactor 1 = .ok (.getfield 9, 3) := by decide +kernel
theorem dX2_changeFactor_4 : decode cX2_changeFactor 4 = .ok (.iload_n 1, 1) := by decide +kernel
theorem dX2_changeFactor_5 : decode cX2_changeFactor 5 = .ok (.iaload, 1) := by decide +kernel
theorem dX2_changeFactor_6 : decode cX2_changeFactor 6 = .ok (.istore_n 3, 1) := by decide +kernel
theorem dX2_changeFactor_7 : decode cX2_changeFactor 7 = .ok (.aload_n 0, 1) := by decide +kernel
theorem dX2_changeFactor_8 : decode cX2_changeFactor 8 = .ok (.getfield 9, 3) := by decide +kernel
theorem dX2_changeFactor_11 : decode cX2_changeFactor 11 = .ok (.iload_n 1, 1) := by decide +kernel
theorem dX2_changeFactor_12 : decode cX2_changeFactor 12 = .ok (.iload_n 2, 1) := by decide +kernel
theorem dX2_changeFactor_13 : decode cX2_changeFactor 13 = .ok (.iastore, 1) := by decide +kernel
theorem dX2_changeFactor_14 : decode cX2_changeFactor 14 = .ok (.aload_n 0, 1) := by decide +kernel
theorem dX2_changeFactor_15 : decode cX2_changeFactor 15 = .ok (.invokevirtual 50, 3) := by decide +kernel
theorem dX2_changeFactor_18 : decode cX2_changeFactor 18 = .ok (.iload_n 3, 1) := by decide +kernel
theorem dX2_changeFactor_19 : decode cX2_changeFactor 19 = .ok (.ireturn, 1) := by decide +kernel
theorem dX2_changeSum_0 : decode cX2_changeSum 0 = .ok (.aload_n 0, 1) := by decide +kernel
theorem dX2_changeSum_1 : decode cX2_changeSum 1 = .ok (.getfield 46, 3) := by decide +kernel
theorem dX2_changeSum_4 : decode cX2_changeSum 4 = .ok (.istore_n 2, 1) := by decide +kernel
theorem dX2_changeSum_5 : decode cX2_changeSum 5 = .ok (.aload_n 0, 1) := by decide +kernel
theorem dX2_changeSum_6 : decode cX2_changeSum 6 = .ok (.iload_n 1, 1) := by decide +kernel
theorem dX2_changeSum_7 : decode cX2_changeSum 7 = .ok (.putfield 46, 3) := by decide +kernel
theorem dX2_changeSum_10 : decode cX2_changeSum 10 = .ok (.aload_n 0, 1) := by decide +kernel
theorem dX2_changeSum_11 : decode cX2_changeSum 11 = .ok (.invokevirtual 50, 3) := by decide +kernel
theorem dX2_changeSum_14 : decode cX2_changeSum 14 = .ok (.iload_n 2, 1) := by decide +kernel
theorem dX2_changeSum_15 : decode cX2_changeSum 15 = .ok (.ireturn, 1) := by decide +kernel
theorem dX2_forgetExchanges_0 : decode cX2_forgetExchanges 0 = .ok (.aload_n 0, 1) := by decide +kernel
theorem dX2_forgetExchanges_1 : decode cX2_forgetExchanges 1 = .ok (.iconst 0, 1) := by decide +kernel
theorem dX2_forgetExchanges_2 : decode cX2_forgetExchanges 2 = .ok (.putfield 53, 3) := by decide +kernel
theorem dX2_forgetExchanges_5 : decode cX2_forgetExchanges 5 = .ok (.aload_n 0, 1) := by decide +kernel
theorem dX2_forgetExchanges_6 : decode cX2_forgetExchanges 6 = .ok (.iconst 0, 1) := by decide +kernel
theorem dX2_forgetExchanges_7 : decode cX2_forgetExchanges 7 = .ok (.putfield 56, 3) := by decide +kernel
theorem dX2_forgetExchanges_10 : decode cX2_forgetExchanges 10 = .ok (.aload_n 0, 1) := by decide +kernel
theorem dX2_forgetExchanges_11 : decode cX2_forgetExchanges 11 = .ok (.iconst 0, 1) := by decide +kernel
theorem dX2_forgetExchanges_12 : decode cX2_forgetExchanges 12 = .ok (.putfield 60, 3) := by decide +kernel
theorem dX2_forgetExchanges_15 : decode cX2_forgetExchanges 15 = .ok (.aload_n 0, 1) := by decide +kernel
theorem dX2_forgetExchanges_16 : decode cX2_forgetExchanges 16 = .ok (.iconst 0, 1) := by decide +kernel
theorem dX2_forgetExchanges_17 : decode cX2_forgetExchanges 17 = .ok (.putfield 63, 3) := by decide +kernel
theorem dX2_forgetExchanges_20 : decode cX2_forgetExchanges 20 = .ok (.return_, 1) := by decide +kernel
theorem dX2_isRight_0 : decode cX2_isRight 0 = .ok (.iconst 2, 1) := by decide +kernel
theorem dX2_isRight_1 : decode cX2_isRight 1 = .ok (.istore_n 1, 1) := by decide +kernel
theorem dX2_isRight_2 : decode cX2_isRight 2 = .ok (.iload_n 1, 1) := by decide +kernel
theorem dX2_isRight_3 : decode cX2_isRight 3 = .ok (.aload_n 0, 1) := by decide +kernel
theorem dX2_isRight_4 : decode cX2_isRight 4 = .ok (.getfield 33, 3) := by decide +kernel
theorem dX2_isRight_7 : decode cX2_isRight 7 = .ok (.getfield 66, 3) := by decide +kernel
theorem dX2_isRight_10 : decode cX2_isRight 10 = .ok (.if_icmp .gt 34, 3) := by decide +kernel
theorem dX2_isRight_13 : decode cX2_isRight 13 = .ok (.aload_n 0, 1) := by decide +kernel
theorem dX2_isRight_14 : decode cX2_isRight 14 = .ok (.getfield 33, 3) := by decide +kernel
theorem dX2_isRight_17 : decode cX2_isRight 17 = .ok (.getfield 66, 3) := by decide +kernel
theorem dX2_isRight_20 : decode cX2_isRight 20 = .ok (.iload_n 1, 1) := by decide +kernel
theorem dX2_isRight_21 : decode cX2_isRight 21 = .ok (.irem, 1) := by decide +kernel
theorem dX2_isRight_22 : decode cX2_isRight 22 = .ok (.ifCond .ne 16, 3) := by decide +kernel
theorem dX2_isRight_25 : decode cX2_isRight 25 = .ok (.aload_n 0, 1) := by decide +kernel
theorem dX2_isRight_26 : decode cX2_isRight 26 = .ok (.getfield 9, 3) := by decide +kernel
theorem dX2_isRight_29 : decode cX2_isRight 29 = .ok (.iconst 0, 1) := by decide +kernel
theorem dX2_isRight_30 : decode cX2_isRight 30 = .ok (.iaload, 1) := by decide +kernel
theorem dX2_isRight_31 : decode cX2_isRight 31 = .ok (.iload_n 1, 1) := by decide +kernel
theorem dX2_isRight_32 : decode cX2_isRight 32 = .ok (.irem, 1) := by decide +kernel
theorem dX2_isRight_33 : decode cX2_isRight 33 = .ok (.ifCond .ne 5, 3) := by decide +kernel
theorem dX2_isRight_36 : decode cX2_isRight 36 = .ok (.iconst 0, 1) := by decide +kernel
theorem dX2_isRight_37 : decode cX2_isRight 37 = .ok (.ireturn, 1) := by decide +kernel
theorem dX2_isRight_38 : decode cX2_isRight 38 = .ok (.iinc 1 1, 3) := by decide +kernel
theorem dX2_isRight_41 : decode cX2_isRight 41 = .ok (.goto (-39), 3) := by decide +kernel
theorem dX2_isRight_44 : decode cX2_isRight 44 = .ok (.iconst 1, 1) := by decide +kernel
theorem dX2_isRight_45 : decode cX2_isRight 45 = .ok (.ireturn, 1) := by decide +kernel
theorem dX2_isFull_0 : decode cX2_isFull 0 = .ok (.aload_n 0, 1) := by decide +kernel
theorem dX2_isFull_1 : decode cX2_isFull 1 = .ok (.getfield 53, 3) := by decide +kernel
theorem dX2_isFull_4 : decode cX2_isFull 4 = .ok (.sipush 400, 3) := by decide +kernel
theorem dX2_isFull_7 : decode cX2_isFull 7 = .ok (.if_icmp .lt 7, 3) := by decide +kernel
theorem dX2_isFull_10 : decode cX2_isFull 10 = .ok (.iconst 1, 1) := by decide +kernel
theorem dX2_isFull_11 : decode cX2_isFull 11 = .ok (.goto 4, 3) := by decide +kernel
theorem dX2_isFull_14 : decode cX2_isFull 14 = .ok (.iconst 0, 1) := by decide +kernel
theorem dX2_isFull_15 : decode cX2_isFull 15 = .ok (.ireturn, 1) := by decide +kernel
theorem dX2_leadOf_0 : decode cX2_leadOf 0 = .ok (.aload_n 0, 1) := by decide +kernel
theorem dX2_leadOf_1 : decode cX2_leadOf 1 = .ok (.invokevirtual 71, 3) := by decide +kernel
theorem dX2_leadOf_4 : decode cX2_leadOf 4 = .ok (.iload_n 1, 1) := by decide +kernel
theorem dX2_leadOf_5 : decode cX2_leadOf 5 = .ok (.iaload, 1) := by decide +kernel
theorem dX2_leadOf_6 : decode cX2_leadOf 6 = .ok (.ireturn, 1) := by decide +kernel
theorem dX2_leads_0 : decode cX2_leads 0 = .ok (.aload_n 0, 1) := by decide +kernel
theorem dX2_leads_1 : decode cX2_leads 1 = .ok (.getfield 56, 3) := by decide +kernel
theorem dX2_leads_4 : decode cX2_leads 4 = .ok (.ifCond .ne 57, 3) := by decide +kernel
theorem dX2_leads_7 : decode cX2_leads 7 = .ok (.aload_n 0, 1) := by decide +kernel
theorem dX2_leads_8 : decode cX2_leads 8 = .ok (.invokevirtual 75, 3) := by decide +kernel
theorem dX2_leads_11 : decode cX2_leads 11 = .ok (.iconst 0, 1) := by decide +kernel
theorem dX2_leads_12 : decode cX2_leads 12 = .ok (.istore_n 1, 1) := by decide +kernel
theorem dX2_leads_13 : decode cX2_leads 13 = .ok (.iload_n 1, 1) := by decide +kernel
theorem dX2_leads_14 : decode cX2_leads 14 = .ok (.aload_n 0, 1) := by decide +kernel
theorem dX2_leads_15 : decode cX2_leads 15 = .ok (.getfield 33, 3) := by decide +kernel
theorem dX2_leads_18 : decode cX2_leads 18 = .ok (.getfield 78, 3) := by decide +kernel
theorem dX2_leads_21 : decode cX2_leads 21 = .ok (.if_icmp .ge 35, 3) := by decide +kernel
theorem dX2_leads_24 : decode cX2_leads 24 = .ok (.aload_n 0, 1) := by decide +kernel
theorem dX2_leads_25 : decode cX2_leads 25 = .ok (.getfield 21, 3) := by decide +kernel
theorem dX2_leads_28 : decode cX2_leads 28 = .ok (.iload_n 1, 1) := by decide +kernel
theorem dX2_leads_29 : decode cX2_leads 29 = .ok (.dup2, 1) := by decide +kernel
theorem dX2_leads_30 : decode cX2_leads 30 = .ok (.iaload, 1) := by decide +kernel
theorem dX2_leads_31 : decode cX2_leads 31 = .ok (.iload_n 1, 1) := by decide +kernel
theorem dX2_leads_32 : decode cX2_leads 32 = .ok (.aload_n 0, 1) := by decide +kernel
theorem dX2_leads_33 : decode cX2_leads 33 = .ok (.getfield 33, 3) := by decide +kernel
theorem dX2_leads_36 : decode cX2_leads 36 = .ok (.getfield 81, 3) := by decide +kernel
theorem dX2_leads_39 : decode cX2_leads 39 = .ok (.irem, 1) := by decide +kernel
theorem dX2_leads_40 : decode cX2_leads 40 = .ok (.aload_n 0, 1) := by decide +kernel
theorem dX2_leads_41 : decode cX2_leads 41 = .ok (.getfield 33, 3) := by decide +kernel
theorem dX2_leads_44 : decode cX2_leads 44 = .ok (.getfield 66, 3) := by decide +kernel
theorem dX2_leads_47 : decode cX2_leads 47 = .ok (.imul, 1) := by decide +kernel
theorem dX2_leads_48 : decode cX2_leads 48 = .ok (.iadd, 1) := by decide +kernel
theorem dX2_leads_49 : decode cX2_leads 49 = .ok (.iastore, 1) := by decide +kernel
theorem dX2_leads_50 : decode cX2_leads 50 = .ok (.iinc 1 1, 3) := by decide +kernel
theorem dX2_leads_53 : decode cX2_leads 53 = .ok (.goto (-40), 3) := by decide +kernel
theorem dX2_leads_56 : decode cX2_leads 56 = .ok (.aload_n 0, 1) := by decide +kernel
theorem dX2_leads_57 : decode cX2_leads 57 = .ok (.iconst 1, 1) := by decide +kernel
theorem dX2_leads_58 : decode cX2_leads 58 = .ok (.putfield 56, 3) := by decide +kernel
theorem dX2_leads_61 : decode cX2_leads 61 = .ok (.aload_n 0, 1) := by decide +kernel
theorem dX2_leads_62 : decode cX2_leads 62 = .ok (.getfield 21, 3) := by decide +kernel
theorem dX2_leads_65 : decode cX2_leads 65 = .ok (.areturn, 1) := by decide +kernel
theorem dX2_fillComing_0 : decode cX2_fillComing 0 = .ok (.aload_n 0, 1) := by decide +kernel
theorem dX2_fillComing_1 : decode cX2_fillComing 1 = .ok (.getfield 21, 3) := by decide +kernel
theorem dX2_fillComing_4 : decode cX2_fillComing 4 = .ok (.iconst 0, 1) := by decide +kernel
theorem dX2_fillComing_5 : decode cX2_fillComing 5 = .ok (.aload_n 0, 1) := by decide +kernel
theorem dX2_fillComing_6 : decode cX2_fillComing 6 = .ok (.getfield 46, 3) := by decide +kernel
theorem dX2_fillComing_9 : decode cX2_fillComing 9 = .ok (.iastore, 1) := by decide +kernel
theorem dX2_fillComing_10 : decode cX2_fillComing 10 = .ok (.aload_n 0, 1) := by decide +kernel
theorem dX2_fillComing_11 : decode cX2_fillComing 11 = .ok (.getfield 33, 3) := by decide +kernel
theorem dX2_fillComing_14 : decode cX2_fillComing 14 = .ok (.getfield 84, 3) := by decide +kernel
theorem dX2_fillComing_17 : decode cX2_fillComing 17 = .ok (.iconst 1, 1) := by decide +kernel
theorem dX2_fillComing_18 : decode cX2_fillComing 18 = .ok (.isub, 1) := by decide +kernel
theorem dX2_fillComing_19 : decode cX2_fillComing 19 = .ok (.istore_n 1, 1) := by decide +kernel
theorem dX2_fillComing_20 : decode cX2_fillComing 20 = .ok (.iload_n 1, 1) := by decide +kernel
theorem dX2_fillComing_21 : decode cX2_fillComing 21 = .ok (.ifCond .lt 102, 3) := by decide +kernel
theorem dX2_fillComing_24 : decode cX2_fillComing 24 = .ok (.aload_n 0, 1) := by decide +kernel
theorem dX2_fillComing_25 : decode cX2_fillComing 25 = .ok (.getfield 33, 3) := by decide +kernel
theorem dX2_fillComing_28 : decode cX2_fillComing 28 = .ok (.getfield 87, 3) := by decide +kernel
theorem dX2_fillComing_31 : decode cX2_fillComing 31 = .ok (.aload_n 0, 1) := by decide +kernel
theorem dX2_fillComing_32 : decode cX2_fillComing 32 = .ok (.getfield 33, 3) := by decide +kernel
theorem dX2_fillComing_35 : decode cX2_fillComing 35 = .ok (.getfield 84, 3) := by decide +kernel
theorem dX2_fillComing_38 : decode cX2_fillComing 38 = .ok (.iconst 1, 1) := by decide +kernel
theorem dX2_fillComing_39 : decode cX2_fillComing 39 = .ok (.isub, 1) := by decide +kernel
theorem dX2_fillComing_40 : decode cX2_fillComing 40 = .ok (.iload_n 1, 1) := by decide +kernel
theorem dX2_fillComing_41 : decode cX2_fillComing 41 = .ok (.isub, 1) := by decide +kernel
theorem dX2_fillComing_42 : decode cX2_fillComing 42 = .ok (.iaload, 1) := by decide +kernel
theorem dX2_fillComing_43 : decode cX2_fillComing 43 = .ok (.istore_n 2, 1) := by decide +kernel
theorem dX2_fillComing_44 : decode cX2_fillComing 44 = .ok (.iconst 1, 1) := by decide +kernel
theorem dX2_fillComing_45 : decode cX2_fillComing 45 = .ok (.istore_n 3, 1) := by decide +kernel
theorem dX2_fillComing_46 : decode cX2_fillComing 46 = .ok (.iload_n 3, 1) := by decide +kernel
theorem dX2_fillComing_47 : decode cX2_fillComing 47 = .ok (.aload_n 0, 1) := by decide +kernel
theorem dX2_fillComing_48 : decode cX2_fillComing 48 = .ok (.getfield 33, 3) := by decide +kernel
theorem dX2_fillComing_51 : decode cX2_fillComing 51 = .ok (.getfield 66, 3) := by decide +kernel
theorem dX2_fillComing_54 : decode cX2_fillComing 54 = .ok (.if_icmp .ge 63, 3) := by decide +kernel
theorem dX2_fillComing_57 : decode cX2_fillComing 57 = .ok (.aload_n 0, 1) := by decide +kernel
theorem dX2_fillComing_58 : decode cX2_fillComing 58 = .ok (.getfield 9, 3) := by decide +kernel
theorem dX2_fillComing_61 : decode cX2_fillComing 61 = .ok (.iload_n 1, 1) := by decide +kernel
theorem dX2_fillComing_62 : decode cX2_fillComing 62 = .ok (.iaload, 1) := by decide +kernel
theorem dX2_fillComing_63 : decode cX2_fillComing 63 = .ok (.iload_n 3, 1) := by decide +kernel
theorem dX2_fillComing_64 : decode cX2_fillComing 64 = .ok (.imul, 1) := by decide +kernel
theorem dX2_fillComing_65 : decode cX2_fillComing 65 = .ok (.istore 4, 2) := by decide +kernel
theorem dX2_fillComing_67 : decode cX2_fillComing 67 = .ok (.iconst 0, 1) := by decide +kernel
theorem dX2_fillComing_68 : decode cX2_fillComing 68 = .ok (.istore 5, 2) := by decide +kernel
theorem dX2_fillComing_70 : decode cX2_fillComing 70 = .ok (.iload 5, 2) := by decide +kernel
theorem dX2_fillComing_72 : decode cX2_fillComing 72 = .ok (.iload_n 2, 1) := by decide +kernel
theorem dX2_fillComing_73 : decode cX2_fillComing 73 = .ok (.if_icmp .ge 38, 3) := by decide +kernel
theorem dX2_fillComing_76 : decode cX2_fillComing 76 = .ok (.aload_n 0, 1) := by decide +kernel
theorem dX2_fillComing_77 : decode cX2_fillComing 77 = .ok (.getfield 21, 3) := by decide +kernel
theorem dX2_fillComing_80 : decode cX2_fillComing 80 = .ok (.iload_n 3, 1) := by decide +kernel
theorem dX2_fillComing_81 : decode cX2_fillComing 81 = .ok (.iload_n 2, 1) := by decide +kernel
theorem dX2_fillComing_82 : decode cX2_fillComing 82 = .ok (.imul, 1) := by decide +kernel
theorem dX2_fillComing_83 : decode cX2_fillComing 83 = .ok (.iload 5, 2) := by decide +kernel
theorem dX2_fillComing_85 : decode cX2_fillComing 85 = .ok (.iadd, 1) := by decide +kernel
theorem dX2_fillComing_86 : decode cX2_fillComing 86 = .ok (.aload_n 0, 1) := by decide +kernel
theorem dX2_fillComing_87 : decode cX2_fillComing 87 = .ok (.getfield 21, 3) := by decide +kernel
theorem dX2_fillComing_90 : decode cX2_fillComing 90 = .ok (.iload 5, 2) := by decide +kernel
theorem dX2_fillComing_92 : decode cX2_fillComing 92 = .ok (.iaload, 1) := by decide +kernel
theorem dX2_fillComing_93 : decode cX2_fillComing 93 = .ok (.iload 4, 2) := by decide +kernel
theorem dX2_fillComing_95 : decode cX2_fillComing 95 = .ok (.iadd, 1) := by decide +kernel
theorem dX2_fillComing_96 : decode cX2_fillComing 96 = .ok (.aload_n 0, 1) := by decide +kernel
theorem dX2_fillComing_97 : decode cX2_fillComing 97 = .ok (.getfield 33, 3) := by decide +kernel
theorem dX2_fillComing_100 : decode cX2_fillComing 100 = .ok (.getfield 66, 3) := by decide +kernel
theorem dX2_fillComing_103 : decode cX2_fillComing 103 = .ok (.irem, 1) := by decide +kernel
theorem dX2_fillComing_104 : decode cX2_fillComing 104 = .ok (.iastore, 1) := by decide +kernel
theorem dX2_fillComing_105 : decode cX2_fillComing 105 = .ok (.iinc 5 1, 3) := by decide +kernel
theorem dX2_fillComing_108 : decode cX2_fillComing 108 = .ok (.goto (-38), 3) := by decide +kernel
theorem dX2_fillComing_111 : decode cX2_fillComing 111 = .ok (.iinc 3 1, 3) := by decide +kernel
theorem dX2_fillComing_114 : decode cX2_fillComing 114 = .ok (.goto (-68), 3) := by decide +kernel
theorem dX2_fillComing_117 : decode cX2_fillComing 117 = .ok (.iinc 1 (-1), 3) := by decide +kernel
theorem dX2_fillComing_120 : decode cX2_fillComing 120 = .ok (.goto (-100), 3) := by decide +kernel
theorem dX2_fillComing_123 : decode cX2_fillComing 123 = .ok (.return_, 1) := by decide +kernel
theorem dX2_numberCycles_0 : decode cX2_numberCycles 0 = .ok (.aload_n 0, 1) := by decide +kernel
theorem dX2_numberCycles_1 : decode cX2_numberCycles 1 = .ok (.getfield 60, 3) := by decide +kernel
theorem dX2_numberCycles_4 : decode cX2_numberCycles 4 = .ok (.ifCond .eq 4, 3) := by decide +kernel
theorem dX2_numberCycles_7 : decode cX2_numberCycles 7 = .ok (.return_, 1) := by decide +kernel
theorem dX2_numberCycles_8 : decode cX2_numberCycles 8 = .ok (.aload_n 0, 1) := by decide +kernel
theorem dX2_numberCycles_9 : decode cX2_numberCycles 9 = .ok (.invokevirtual 71, 3) := by decide +kernel
theorem dX2_numberCycles_12 : decode cX2_numberCycles 12 = .ok (.pop, 1) := by decide +kernel
theorem dX2_numberCycles_13 : decode cX2_numberCycles 13 = .ok (.aload_n 0, 1) := by decide +kernel
theorem dX2_numberCycles_14 : decode cX2_numberCycles 14 = .ok (.getfield 24, 3) := by decide +kernel
theorem dX2_numberCycles_17 : decode cX2_numberCycles 17 = .ok (.iconst 0, 1) := by decide +kernel
theorem dX2_numberCycles_18 : decode cX2_numberCycles 18 = .ok (.aload_n 0, 1) := by decide +kernel
theorem dX2_numberCycles_19 : decode cX2_numberCycles 19 = .ok (.getfield 33, 3) := by decide +kernel
theorem dX2_numberCycles_22 : decode cX2_numberCycles 22 = .ok (.getfield 78, 3) := by decide +kernel
theorem dX2_numberCycles_25 : decode cX2_numberCycles 25 = .ok (.iconst (-1), 1) := by decide +kernel
theorem dX2_numberCycles_26 : decode cX2_numberCycles 26 = .ok (.invokestatic 90, 3) := by decide +kernel
theorem dX2_numberCycles_29 : decode cX2_numberCycles 29 = .ok (.aload_n 0, 1) := by decide +kernel
theorem dX2_numberCycles_30 : decode cX2_numberCycles 30 = .ok (.iconst 0, 1) := by decide +kernel
theorem dX2_numberCycles_31 : decode cX2_numberCycles 31 = .ok (.putfield 93, 3) := by decide +kernel
theorem dX2_numberCycles_34 : decode cX2_numberCycles 34 = .ok (.iconst 0, 1) := by decide +kernel
theorem dX2_numberCycles_35 : decode cX2_numberCycles 35 = .ok (.istore_n 1, 1) := by decide +kernel
theorem dX2_numberCycles_36 : decode cX2_numberCycles 36 = .ok (.iload_n 1, 1) := by decide +kernel
theorem dX2_numberCycles_37 : decode cX2_numberCycles 37 = .ok (.aload_n 0, 1) := by decide +kernel
theorem dX2_numberCycles_38 : decode cX2_numberCycles 38 = .ok (.getfield 33, 3) := by decide +kernel
theorem dX2_numberCycles_41 : decode cX2_numberCycles 41 = .ok (.getfield 78, 3) := by decide +kernel
theorem dX2_numberCycles_44 : decode cX2_numberCycles 44 = .ok (.if_icmp .ge 48, 3) := by decide +kernel
theorem dX2_numberCycles_47 : decode cX2_numberCycles 47 = .ok (.aload_n 0, 1) := by decide +kernel
theorem dX2_numberCycles_48 : decode cX2_numberCycles 48 = .ok (.getfield 24, 3) := by decide +kernel
theorem dX2_numberCycles_51 : decode cX2_numberCycles 51 = .ok (.iload_n 1, 1) := by decide +kernel
theorem dX2_numberCycles_52 : decode cX2_numberCycles 52 = .ok (.iaload, 1) := by decide +kernel
theorem dX2_numberCycles_53 : decode cX2_numberCycles 53 = .ok (.iconst (-1), 1) := by decide +kernel
theorem dX2_numberCycles_54 : decode cX2_numberCycles 54 = .ok (.if_icmp .ne 32, 3) := by decide +kernel
theorem dX2_numberCycles_57 : decode cX2_numberCycles 57 = .ok (.aload_n 0, 1) := by decide +kernel
theorem dX2_numberCycles_58 : decode cX2_numberCycles 58 = .ok (.getfield 27, 3) := by decide +kernel
theorem dX2_numberCycles_61 : decode cX2_numberCycles 61 = .ok (.aload_n 0, 1) := by decide +kernel
theorem dX2_numberCycles_62 : decode cX2_numberCycles 62 = .ok (.getfield 93, 3) := by decide +kernel
theorem dX2_numberCycles_65 : decode cX2_numberCycles 65 = .ok (.iload_n 1, 1) := by decide +kernel
theorem dX2_numberCycles_66 : decode cX2_numberCycles 66 = .ok (.iastore, 1) := by decide +kernel
theorem dX2_numberCycles_67 : decode cX2_numberCycles 67 = .ok (.aload_n 0, 1) := by decide +kernel
theorem dX2_numberCycles_68 : decode cX2_numberCycles 68 = .ok (.iload_n 1, 1) := by decide +kernel
theorem dX2_numberCycles_69 : decode cX2_numberCycles 69 = .ok (.aload_n 0, 1) := by decide +kernel
theorem dX2_numberCycles_70 : decode cX2_numberCycles 70 = .ok (.getfield 93, 3) := by decide +kernel
theorem dX2_numberCycles_73 : decode cX2_numberCycles 73 = .ok (.invokevirtual 96, 3) := by decide +kernel
theorem dX2_numberCycles_76 : decode cX2_numberCycles 76 = .ok (.aload_n 0, 1) := by decide +kernel
theorem dX2_numberCycles_77 : decode cX2_numberCycles 77 = .ok (.dup, 1) := by decide +kernel
theorem dX2_numberCycles_78 : decode cX2_numberCycles 78 = .ok (.getfield 93, 3) := by decide +kernel
theorem dX2_numberCycles_81 : decode cX2_numberCycles 81 = .ok (.iconst 1, 1) := by decide +kernel
theorem dX2_numberCycles_82 : decode cX2_numberCycles 82 = .ok (.iadd, 1) := by decide +kernel
theorem dX2_numberCycles_83 : decode cX2_numberCycles 83 = .ok (.putfield 93, 3) := by decide +kernel
theorem dX2_numberCycles_86 : decode cX2_numberCycles 86 = .ok (.iinc 1 1, 3) := by decide +kernel
theorem dX2_numberCycles_89 : decode cX2_numberCycles 89 = .ok (.goto (-53), 3) := by decide +kernel
theorem dX2_numberCycles_92 : decode cX2_numberCycles 92 = .ok (.aload_n 0, 1) := by decide +kernel
theorem dX2_numberCycles_93 : decode cX2_numberCycles 93 = .ok (.iconst 1, 1) := by decide +kernel
theorem dX2_numberCycles_94 : decode cX2_numberCycles 94 = .ok (.putfield 60, 3) := by decide +kernel
theorem dX2_numberCycles_97 : decode cX2_numberCycles 97 = .ok (.aload_n 0, 1) := by decide +kernel
theorem dX2_numberCycles_98 : decode cX2_numberCycles 98 = .ok (.iconst 1, 1) := by decide +kernel
theorem dX2_numberCycles_99 : decode cX2_numberCycles 99 = .ok (.putfield 63, 3) := by decide +kernel
theorem dX2_numberCycles_102 : decode cX2_numberCycles 102 = .ok (.return_, 1) := by decide +kernel
theorem dX2_markCycle_0 : decode cX2_markCycle 0 = .ok (.iload_n 1, 1) := by decide +kernel
theorem dX2_markCycle_1 : decode cX2_markCycle 1 = .ok (.istore_n 3, 1) := by decide +kernel
theorem dX2_markCycle_2 : decode cX2_markCycle 2 = .ok (.iconst 0, 1) := by decide +kernel
theorem dX2_markCycle_3 : decode cX2_markCycle 3 = .ok (.istore 4, 2) := by decide +kernel
theorem dX2_markCycle_5 : decode cX2_markCycle 5 = .ok (.iload 4, 2) := by decide +kernel
theorem dX2_markCycle_7 : decode cX2_markCycle 7 = .ok (.aload_n 0, 1) := by decide +kernel
theorem dX2_markCycle_8 : decode cX2_markCycle 8 = .ok (.getfield 33, 3) := by decide +kernel
theorem dX2_markCycle_11 : decode cX2_markCycle 11 = .ok (.getfield 78, 3) := by decide +kernel
theorem dX2_markCycle_14 : decode cX2_markCycle 14 = .ok (.if_icmp .ge 33, 3) := by decide +kernel
theorem dX2_markCycle_17 : decode cX2_markCycle 17 = .ok (.aload_n 0, 1) := by decide +kernel
theorem dX2_markCycle_18 : decode cX2_markCycle 18 = .ok (.getfield 24, 3) := by decide +kernel
theorem dX2_markCycle_21 : decode cX2_markCycle 21 = .ok (.iload_n 3, 1) := by decide +kernel
theorem dX2_markCycle_22 : decode cX2_markCycle 22 = .ok (.iaload, 1) := by decide +kernel
theorem dX2_markCycle_23 : decode cX2_markCycle 23 = .ok (.iconst (-1), 1) := by decide +kernel
theorem dX2_markCycle_24 : decode cX2_markCycle 24 = .ok (.if_icmp .ne 23, 3) := by decide +kernel
theorem dX2_markCycle_27 : decode cX2_markCycle 27 = .ok (.aload_n 0, 1) := by decide +kernel
theorem dX2_markCycle_28 : decode cX2_markCycle 28 = .ok (.getfield 24, 3) := by decide +kernel
theorem dX2_markCycle_31 : decode cX2_markCycle 31 = .ok (.iload_n 3, 1) := by decide +kernel
theorem dX2_markCycle_32 : decode cX2_markCycle 32 = .ok (.iload_n 2, 1) := by decide +kernel
theorem dX2_markCycle_33 : decode cX2_markCycle 33 = .ok (.iastore, 1) := by decide +kernel
theorem dX2_markCycle_34 : decode cX2_markCycle 34 = .ok (.aload_n 0, 1) := by decide +kernel
theorem dX2_markCycle_35 : decode cX2_markCycle 35 = .ok (.getfield 21, 3) := by decide +kernel
theorem dX2_markCycle_38 : decode cX2_markCycle 38 = .ok (.iload_n 3, 1) := by decide +kernel
theorem dX2_markCycle_39 : decode cX2_markCycle 39 = .ok (.iaload, 1) := by decide +kernel
theorem dX2_markCycle_40 : decode cX2_markCycle 40 = .ok (.istore_n 3, 1) := by decide +kernel
theorem dX2_markCycle_41 : decode cX2_markCycle 41 = .ok (.iinc 4 1, 3) := by decide +kernel
theorem dX2_markCycle_44 : decode cX2_markCycle 44 = .ok (.goto (-39), 3) := by decide +kernel
theorem dX2_markCycle_47 : decode cX2_markCycle 47 = .ok (.return_, 1) := by decide +kernel
theorem dX2_howManyCycles_0 : decode cX2_howManyCycles 0 = .ok (.aload_n 0, 1) := by decide +kernel
theorem dX2_howManyCycles_1 : decode cX2_howManyCycles 1 = .ok (.getfield 63, 3) := by decide +kernel
theorem dX2_howManyCycles_4 : decode cX2_howManyCycles 4 = .ok (.ifCond .ne 7, 3) := by decide +kernel
theorem dX2_howManyCycles_7 : decode cX2_howManyCycles 7 = .ok (.aload_n 0, 1) := by decide +kernel
theorem dX2_howManyCycles_8 : decode cX2_howManyCycles 8 = .ok (.invokevirtual 100, 3) := by decide +kernel
theorem dX2_howManyCycles_11 : decode cX2_howManyCycles 11 = .ok (.aload_n 0, 1) := by decide +kernel
theorem dX2_howManyCycles_12 : decode cX2_howManyCycles 12 = .ok (.getfield 93, 3) := by decide +kernel
theorem dX2_howManyCycles_15 : decode cX2_howManyCycles 15 = .ok (.ireturn, 1) := by decide +kernel
theorem dX2_numberOfCycle_0 : decode cX2_numberOfCycle 0 = .ok (.aload_n 0, 1) := by decide +kernel
theorem dX2_numberOfCycle_1 : decode cX2_numberOfCycle 1 = .ok (.invokevirtual 100, 3) := by decide +kernel
theorem dX2_numberOfCycle_4 : decode cX2_numberOfCycle 4 = .ok (.aload_n 0, 1) := by decide +kernel
theorem dX2_numberOfCycle_5 : decode cX2_numberOfCycle 5 = .ok (.getfield 24, 3) := by decide +kernel
theorem dX2_numberOfCycle_8 : decode cX2_numberOfCycle 8 = .ok (.iload_n 1, 1) := by decide +kernel
theorem dX2_numberOfCycle_9 : decode cX2_numberOfCycle 9 = .ok (.iaload, 1) := by decide +kernel
theorem dX2_numberOfCycle_10 : decode cX2_numberOfCycle 10 = .ok (.ireturn, 1) := by decide +kernel
theorem dX2_leastOfCycle_0 : decode cX2_leastOfCycle 0 = .ok (.aload_n 0, 1) := by decide +kernel
theorem dX2_leastOfCycle_1 : decode cX2_leastOfCycle 1 = .ok (.invokevirtual 100, 3) := by decide +kernel
theorem dX2_leastOfCycle_4 : decode cX2_leastOfCycle 4 = .ok (.aload_n 0, 1) := by decide +kernel
theorem dX2_leastOfCycle_5 : decode cX2_leastOfCycle 5 = .ok (.getfield 27, 3) := by decide +kernel
theorem dX2_leastOfCycle_8 : decode cX2_leastOfCycle 8 = .ok (.iload_n 1, 1) := by decide +kernel
theorem dX2_leastOfCycle_9 : decode cX2_leastOfCycle 9 = .ok (.iaload, 1) := by decide +kernel
theorem dX2_leastOfCycle_10 : decode cX2_leastOfCycle 10 = .ok (.ireturn, 1) := by decide +kernel
theorem dX2_wordsOfCycle_0 : decode cX2_wordsOfCycle 0 = .ok (.aload_n 0, 1) := by decide +kernel
theorem dX2_wordsOfCycle_1 : decode cX2_wordsOfCycle 1 = .ok (.invokevirtual 100, 3) := by decide +kernel
theorem dX2_wordsOfCycle_4 : decode cX2_wordsOfCycle 4 = .ok (.aload_n 0, 1) := by decide +kernel
theorem dX2_wordsOfCycle_5 : decode cX2_wordsOfCycle 5 = .ok (.getfield 27, 3) := by decide +kernel
theorem dX2_wordsOfCycle_8 : decode cX2_wordsOfCycle 8 = .ok (.iload_n 1, 1) := by decide +kernel
theorem dX2_wordsOfCycle_9 : decode cX2_wordsOfCycle 9 = .ok (.iaload, 1) := by decide +kernel
theorem dX2_wordsOfCycle_10 : decode cX2_wordsOfCycle 10 = .ok (.istore_n 2, 1) := by decide +kernel
theorem dX2_wordsOfCycle_11 : decode cX2_wordsOfCycle 11 = .ok (.aload_n 0, 1) := by decide +kernel
theorem dX2_wordsOfCycle_12 : decode cX2_wordsOfCycle 12 = .ok (.getfield 21, 3) := by decide +kernel
theorem dX2_wordsOfCycle_15 : decode cX2_wordsOfCycle 15 = .ok (.iload_n 2, 1) := by decide +kernel
theorem dX2_wordsOfCycle_16 : decode cX2_wordsOfCycle 16 = .ok (.iaload, 1) := by decide +kernel
theorem dX2_wordsOfCycle_17 : decode cX2_wordsOfCycle 17 = .ok (.istore_n 3, 1) := by decide +kernel
theorem dX2_wordsOfCycle_18 : decode cX2_wordsOfCycle 18 = .ok (.iconst 1, 1) := by decide +kernel
theorem dX2_wordsOfCycle_19 : decode cX2_wordsOfCycle 19 = .ok (.istore 4, 2) := by decide +kernel
theorem dX2_wordsOfCycle_21 : decode cX2_wordsOfCycle 21 = .ok (.iload 4, 2) := by decide +kernel
theorem dX2_wordsOfCycle_23 : decode cX2_wordsOfCycle 23 = .ok (.aload_n 0, 1) := by decide +kernel
theorem dX2_wordsOfCycle_24 : decode cX2_wordsOfCycle 24 = .ok (.getfield 33, 3) := by decide +kernel
theorem dX2_wordsOfCycle_27 : decode cX2_wordsOfCycle 27 = .ok (.getfield 78, 3) := by decide +kernel
theorem dX2_wordsOfCycle_30 : decode cX2_wordsOfCycle 30 = .ok (.if_icmp .ge 21, 3) := by decide +kernel
theorem dX2_wordsOfCycle_33 : decode cX2_wordsOfCycle 33 = .ok (.iload_n 3, 1) := by decide +kernel
theorem dX2_wordsOfCycle_34 : decode cX2_wordsOfCycle 34 = .ok (.iload_n 2, 1) := by decide +kernel
theorem dX2_wordsOfCycle_35 : decode cX2_wordsOfCycle 35 = .ok (.if_icmp .eq 16, 3) := by decide +kernel
theorem dX2_wordsOfCycle_38 : decode cX2_wordsOfCycle 38 = .ok (.aload_n 0, 1) := by decide +kernel
theorem dX2_wordsOfCycle_39 : decode cX2_wordsOfCycle 39 = .ok (.getfield 21, 3) := by decide +kernel
theorem dX2_wordsOfCycle_42 : decode cX2_wordsOfCycle 42 = .ok (.iload_n 3, 1) := by decide +kernel
theorem dX2_wordsOfCycle_43 : decode cX2_wordsOfCycle 43 = .ok (.iaload, 1) := by decide +kernel
theorem dX2_wordsOfCycle_44 : decode cX2_wordsOfCycle 44 = .ok (.istore_n 3, 1) := by decide +kernel
theorem dX2_wordsOfCycle_45 : decode cX2_wordsOfCycle 45 = .ok (.iinc 4 1, 3) := by decide +kernel
theorem dX2_wordsOfCycle_48 : decode cX2_wordsOfCycle 48 = .ok (.goto (-27), 3) := by decide +kernel
theorem dX2_wordsOfCycle_51 : decode cX2_wordsOfCycle 51 = .ok (.iload 4, 2) := by decide +kernel
theorem dX2_wordsOfCycle_53 : decode cX2_wordsOfCycle 53 = .ok (.ireturn, 1) := by decide +kernel
theorem dX2_makeExchange_0 : decode cX2_makeExchange 0 = .ok (.aload_n 0, 1) := by decide +kernel
theorem dX2_makeExchange_1 : decode cX2_makeExchange 1 = .ok (.aload_n 0, 1) := by decide +kernel
theorem dX2_makeExchange_2 : decode cX2_makeExchange 2 = .ok (.iload_n 1, 1) := by decide +kernel
theorem dX2_makeExchange_3 : decode cX2_makeExchange 3 = .ok (.iload_n 2, 1) := by decide +kernel
theorem dX2_makeExchange_4 : decode cX2_makeExchange 4 = .ok (.invokevirtual 103, 3) := by decide +kernel
theorem dX2_makeExchange_7 : decode cX2_makeExchange 7 = .ok (.putfield 93, 3) := by decide +kernel
theorem dX2_makeExchange_10 : decode cX2_makeExchange 10 = .ok (.aload_n 0, 1) := by decide +kernel
theorem dX2_makeExchange_11 : decode cX2_makeExchange 11 = .ok (.iload_n 1, 1) := by decide +kernel
theorem dX2_makeExchange_12 : decode cX2_makeExchange 12 = .ok (.iload_n 2, 1) := by decide +kernel
theorem dX2_makeExchange_13 : decode cX2_makeExchange 13 = .ok (.invokevirtual 107, 3) := by decide +kernel
theorem dX2_makeExchange_16 : decode cX2_makeExchange 16 = .ok (.aload_n 0, 1) := by decide +kernel
theorem dX2_makeExchange_17 : decode cX2_makeExchange 17 = .ok (.iload_n 1, 1) := by decide +kernel
theorem dX2_makeExchange_18 : decode cX2_makeExchange 18 = .ok (.iload_n 2, 1) := by decide +kernel
theorem dX2_makeExchange_19 : decode cX2_makeExchange 19 = .ok (.invokevirtual 110, 3) := by decide +kernel
theorem dX2_makeExchange_22 : decode cX2_makeExchange 22 = .ok (.aload_n 0, 1) := by decide +kernel
theorem dX2_makeExchange_23 : decode cX2_makeExchange 23 = .ok (.getfield 93, 3) := by decide +kernel
theorem dX2_makeExchange_26 : decode cX2_makeExchange 26 = .ok (.ireturn, 1) := by decide +kernel
theorem dX2_takeBack_0 : decode cX2_takeBack 0 = .ok (.aload_n 0, 1) := by decide +kernel
theorem dX2_takeBack_1 : decode cX2_takeBack 1 = .ok (.dup, 1) := by decide +kernel
theorem dX2_takeBack_2 : decode cX2_takeBack 2 = .ok (.getfield 53, 3) := by decide +kernel
theorem dX2_takeBack_5 : decode cX2_takeBack 5 = .ok (.iconst 1, 1) := by decide +kernel
theorem dX2_takeBack_6 : decode cX2_takeBack 6 = .ok (.isub, 1) := by decide +kernel
theorem dX2_takeBack_7 : decode cX2_takeBack 7 = .ok (.putfield 53, 3) := by decide +kernel
theorem dX2_takeBack_10 : decode cX2_takeBack 10 = .ok (.aload_n 0, 1) := by decide +kernel
theorem dX2_takeBack_11 : decode cX2_takeBack 11 = .ok (.aload_n 0, 1) := by decide +kernel
theorem dX2_takeBack_12 : decode cX2_takeBack 12 = .ok (.aload_n 0, 1) := by decide +kernel
theorem dX2_takeBack_13 : decode cX2_takeBack 13 = .ok (.getfield 15, 3) := by decide +kernel
theorem dX2_takeBack_16 : decode cX2_takeBack 16 = .ok (.aload_n 0, 1) := by decide +kernel
theorem dX2_takeBack_17 : decode cX2_takeBack 17 = .ok (.getfield 53, 3) := by decide +kernel
theorem dX2_takeBack_20 : decode cX2_takeBack 20 = .ok (.iaload, 1) := by decide +kernel
theorem dX2_takeBack_21 : decode cX2_takeBack 21 = .ok (.aload_n 0, 1) := by decide +kernel
theorem dX2_takeBack_22 : decode cX2_takeBack 22 = .ok (.getfield 18, 3) := by decide +kernel
theorem dX2_takeBack_25 : decode cX2_takeBack 25 = .ok (.aload_n 0, 1) := by decide +kernel
theorem dX2_takeBack_26 : decode cX2_takeBack 26 = .ok (.getfield 53, 3) := by decide +kernel
theorem dX2_takeBack_29 : decode cX2_takeBack 29 = .ok (.iaload, 1) := by decide +kernel
theorem dX2_takeBack_30 : decode cX2_takeBack 30 = .ok (.invokevirtual 103, 3) := by decide +kernel
theorem dX2_takeBack_33 : decode cX2_takeBack 33 = .ok (.putfield 93, 3) := by decide +kernel
theorem dX2_takeBack_36 : decode cX2_takeBack 36 = .ok (.aload_n 0, 1) := by decide +kernel
theorem dX2_takeBack_37 : decode cX2_takeBack 37 = .ok (.aload_n 0, 1) := by decide +kernel
theorem dX2_takeBack_38 : decode cX2_takeBack 38 = .ok (.getfield 15, 3) := by decide +kernel
theorem dX2_takeBack_41 : decode cX2_takeBack 41 = .ok (.aload_n 0, 1) := by decide +kernel
theorem dX2_takeBack_42 : decode cX2_takeBack 42 = .ok (.getfield 53, 3) := by decide +kernel
theorem dX2_takeBack_45 : decode cX2_takeBack 45 = .ok (.iaload, 1) := by decide +kernel
theorem dX2_takeBack_46 : decode cX2_takeBack 46 = .ok (.aload_n 0, 1) := by decide +kernel
theorem dX2_takeBack_47 : decode cX2_takeBack 47 = .ok (.getfield 18, 3) := by decide +kernel
theorem dX2_takeBack_50 : decode cX2_takeBack 50 = .ok (.aload_n 0, 1) := by decide +kernel
theorem dX2_takeBack_51 : decode cX2_takeBack 51 = .ok (.getfield 53, 3) := by decide +kernel
theorem dX2_takeBack_54 : decode cX2_takeBack 54 = .ok (.iaload, 1) := by decide +kernel
theorem dX2_takeBack_55 : decode cX2_takeBack 55 = .ok (.invokevirtual 107, 3) := by decide +kernel
theorem dX2_takeBack_58 : decode cX2_takeBack 58 = .ok (.aload_n 0, 1) := by decide +kernel
theorem dX2_takeBack_59 : decode cX2_takeBack 59 = .ok (.getfield 53, 3) := by decide +kernel
theorem dX2_takeBack_62 : decode cX2_takeBack 62 = .ok (.ireturn, 1) := by decide +kernel
theorem dX2_noteExchange_0 : decode cX2_noteExchange 0 = .ok (.aload_n 0, 1) := by decide +kernel
theorem dX2_noteExchange_1 : decode cX2_noteExchange 1 = .ok (.getfield 15, 3) := by decide +kernel
theorem dX2_noteExchange_4 : decode cX2_noteExchange 4 = .ok (.aload_n 0, 1) := by decide +kernel
theorem dX2_noteExchange_5 : decode cX2_noteExchange 5 = .ok (.getfield 53, 3) := by decide +kernel
theorem dX2_noteExchange_8 : decode cX2_noteExchange 8 = .ok (.iload_n 1, 1) := by decide +kernel
theorem dX2_noteExchange_9 : decode cX2_noteExchange 9 = .ok (.iastore, 1) := by decide +kernel
theorem dX2_noteExchange_10 : decode cX2_noteExchange 10 = .ok (.aload_n 0, 1) := by decide +kernel
theorem dX2_noteExchange_11 : decode cX2_noteExchange 11 = .ok (.getfield 18, 3) := by decide +kernel
theorem dX2_noteExchange_14 : decode cX2_noteExchange 14 = .ok (.aload_n 0, 1) := by decide +kernel
theorem dX2_noteExchange_15 : decode cX2_noteExchange 15 = .ok (.getfield 53, 3) := by decide +kernel
theorem dX2_noteExchange_18 : decode cX2_noteExchange 18 = .ok (.iload_n 2, 1) := by decide +kernel
theorem dX2_noteExchange_19 : decode cX2_noteExchange 19 = .ok (.iastore, 1) := by decide +kernel
theorem dX2_noteExchange_20 : decode cX2_noteExchange 20 = .ok (.aload_n 0, 1) := by decide +kernel
theorem dX2_noteExchange_21 : decode cX2_noteExchange 21 = .ok (.dup, 1) := by decide +kernel
theorem dX2_noteExchange_22 : decode cX2_noteExchange 22 = .ok (.getfield 53, 3) := by decide +kernel
theorem dX2_noteExchange_25 : decode cX2_noteExchange 25 = .ok (.iconst 1, 1) := by decide +kernel
theorem dX2_noteExchange_26 : decode cX2_noteExchange 26 = .ok (.iadd, 1) := by decide +kernel
theorem dX2_noteExchange_27 : decode cX2_noteExchange 27 = .ok (.putfield 53, 3) := by decide +kernel
theorem dX2_noteExchange_30 : decode cX2_noteExchange 30 = .ok (.return_, 1) := by decide +kernel
theorem dX2_swapLeads_0 : decode cX2_swapLeads 0 = .ok (.aload_n 0, 1) := by decide +kernel
theorem dX2_swapLeads_1 : decode cX2_swapLeads 1 = .ok (.getfield 21, 3) := by decide +kernel
theorem dX2_swapLeads_4 : decode cX2_swapLeads 4 = .ok (.iload_n 1, 1) := by decide +kernel
theorem dX2_swapLeads_5 : decode cX2_swapLeads 5 = .ok (.iaload, 1) := by decide +kernel
theorem dX2_swapLeads_6 : decode cX2_swapLeads 6 = .ok (.istore_n 3, 1) := by decide +kernel
theorem dX2_swapLeads_7 : decode cX2_swapLeads 7 = .ok (.aload_n 0, 1) := by decide +kernel
theorem dX2_swapLeads_8 : decode cX2_swapLeads 8 = .ok (.getfield 21, 3) := by decide +kernel
theorem dX2_swapLeads_11 : decode cX2_swapLeads 11 = .ok (.iload_n 1, 1) := by decide +kernel
theorem dX2_swapLeads_12 : decode cX2_swapLeads 12 = .ok (.aload_n 0, 1) := by decide +kernel
theorem dX2_swapLeads_13 : decode cX2_swapLeads 13 = .ok (.getfield 21, 3) := by decide +kernel
theorem dX2_swapLeads_16 : decode cX2_swapLeads 16 = .ok (.iload_n 2, 1) := by decide +kernel
theorem dX2_swapLeads_17 : decode cX2_swapLeads 17 = .ok (.iaload, 1) := by decide +kernel
theorem dX2_swapLeads_18 : decode cX2_swapLeads 18 = .ok (.iastore, 1) := by decide +kernel
theorem dX2_swapLeads_19 : decode cX2_swapLeads 19 = .ok (.aload_n 0, 1) := by decide +kernel
theorem dX2_swapLeads_20 : decode cX2_swapLeads 20 = .ok (.getfield 21, 3) := by decide +kernel
theorem dX2_swapLeads_23 : decode cX2_swapLeads 23 = .ok (.iload_n 2, 1) := by decide +kernel
theorem dX2_swapLeads_24 : decode cX2_swapLeads 24 = .ok (.iload_n 3, 1) := by decide +kernel
theorem dX2_swapLeads_25 : decode cX2_swapLeads 25 = .ok (.iastore, 1) := by decide +kernel
theorem dX2_swapLeads_26 : decode cX2_swapLeads 26 = .ok (.aload_n 0, 1) := by decide +kernel
theorem dX2_swapLeads_27 : decode cX2_swapLeads 27 = .ok (.iconst 0, 1) := by decide +kernel
theorem dX2_swapLeads_28 : decode cX2_swapLeads 28 = .ok (.putfield 60, 3) := by decide +kernel
theorem dX2_swapLeads_31 : decode cX2_swapLeads 31 = .ok (.return_, 1) := by decide +kernel
theorem dX2_countBehindExchange_0 : decode cX2_countBehindExchange 0 = .ok (.aload_n 0, 1) := by decide +kernel
theorem dX2_countBehindExchange_1 : decode cX2_countBehindExchange 1 = .ok (.invokevirtual 113, 3) := by decide +kernel
theorem dX2_countBehindExchange_4 : decode cX2_countBehindExchange 4 = .ok (.istore_n 3, 1) := by decide +kernel
theorem dX2_countBehindExchange_5 : decode cX2_countBehindExchange 5 = .ok (.aload_n 0, 1) := by decide +kernel
theorem dX2_countBehindExchange_6 : decode cX2_countBehindExchange 6 = .ok (.iload_n 1, 1) := by decide +kernel
theorem dX2_countBehindExchange_7 : decode cX2_countBehindExchange 7 = .ok (.iload_n 2, 1) := by decide +kernel
theorem dX2_countBehindExchange_8 : decode cX2_countBehindExchange 8 = .ok (.invokevirtual 117, 3) := by decide +kernel
theorem dX2_countBehindExchange_11 : decode cX2_countBehindExchange 11 = .ok (.ifCond .eq 9, 3) := by decide +kernel
theorem dX2_countBehindExchange_14 : decode cX2_countBehindExchange 14 = .ok (.iload_n 3, 1) := by decide +kernel
theorem dX2_countBehindExchange_15 : decode cX2_countBehindExchange 15 = .ok (.iconst 1, 1) := by decide +kernel
theorem dX2_countBehindExchange_16 : decode cX2_countBehindExchange 16 = .ok (.iadd, 1) := by decide +kernel
theorem dX2_countBehindExchange_17 : decode cX2_countBehindExchange 17 = .ok (.goto 6, 3) := by decide +kernel
theorem dX2_countBehindExchange_20 : decode cX2_countBehindExchange 20 = .ok (.iload_n 3, 1) := by decide +kernel
theorem dX2_countBehindExchange_21 : decode cX2_countBehindExchange 21 = .ok (.iconst 1, 1) := by decide +kernel
theorem dX2_countBehindExchange_22 : decode cX2_countBehindExchange 22 = .ok (.isub, 1) := by decide +kernel
theorem dX2_countBehindExchange_23 : decode cX2_countBehindExchange 23 = .ok (.ireturn, 1) := by decide +kernel
theorem dX2_inOneCycle_0 : decode cX2_inOneCycle 0 = .ok (.aload_n 0, 1) := by decide +kernel
theorem dX2_inOneCycle_1 : decode cX2_inOneCycle 1 = .ok (.getfield 60, 3) := by decide +kernel
theorem dX2_inOneCycle_4 : decode cX2_inOneCycle 4 = .ok (.ifCond .eq 24, 3) := by decide +kernel
theorem dX2_inOneCycle_7 : decode cX2_inOneCycle 7 = .ok (.aload_n 0, 1) := by decide +kernel
theorem dX2_inOneCycle_8 : decode cX2_inOneCycle 8 = .ok (.getfield 24, 3) := by decide +kernel
theorem dX2_inOneCycle_11 : decode cX2_inOneCycle 11 = .ok (.iload_n 1, 1) := by decide +kernel
theorem dX2_inOneCycle_12 : decode cX2_inOneCycle 12 = .ok (.iaload, 1) := by decide +kernel
theorem dX2_inOneCycle_13 : decode cX2_inOneCycle 13 = .ok (.aload_n 0, 1) := by decide +kernel
theorem dX2_inOneCycle_14 : decode cX2_inOneCycle 14 = .ok (.getfield 24, 3) := by decide +kernel
theorem dX2_inOneCycle_17 : decode cX2_inOneCycle 17 = .ok (.iload_n 2, 1) := by decide +kernel
theorem dX2_inOneCycle_18 : decode cX2_inOneCycle 18 = .ok (.iaload, 1) := by decide +kernel
theorem dX2_inOneCycle_19 : decode cX2_inOneCycle 19 = .ok (.if_icmp .ne 7, 3) := by decide +kernel
theorem dX2_inOneCycle_22 : decode cX2_inOneCycle 22 = .ok (.iconst 1, 1) := by decide +kernel
theorem dX2_inOneCycle_23 : decode cX2_inOneCycle 23 = .ok (.goto 4, 3) := by decide +kernel
theorem dX2_inOneCycle_26 : decode cX2_inOneCycle 26 = .ok (.iconst 0, 1) := by decide +kernel
theorem dX2_inOneCycle_27 : decode cX2_inOneCycle 27 = .ok (.ireturn, 1) := by decide +kernel
theorem dX2_inOneCycle_28 : decode cX2_inOneCycle 28 = .ok (.aload_n 0, 1) := by decide +kernel
theorem dX2_inOneCycle_29 : decode cX2_inOneCycle 29 = .ok (.getfield 21, 3) := by decide +kernel
theorem dX2_inOneCycle_32 : decode cX2_inOneCycle 32 = .ok (.iload_n 1, 1) := by decide +kernel
theorem dX2_inOneCycle_33 : decode cX2_inOneCycle 33 = .ok (.iaload, 1) := by decide +kernel
theorem dX2_inOneCycle_34 : decode cX2_inOneCycle 34 = .ok (.istore_n 3, 1) := by decide +kernel
theorem dX2_inOneCycle_35 : decode cX2_inOneCycle 35 = .ok (.iconst 0, 1) := by decide +kernel
theorem dX2_inOneCycle_36 : decode cX2_inOneCycle 36 = .ok (.istore 4, 2) := by decide +kernel
theorem dX2_inOneCycle_38 : decode cX2_inOneCycle 38 = .ok (.iload 4, 2) := by decide +kernel
theorem dX2_inOneCycle_40 : decode cX2_inOneCycle 40 = .ok (.aload_n 0, 1) := by decide +kernel
theorem dX2_inOneCycle_41 : decode cX2_inOneCycle 41 = .ok (.getfield 33, 3) := by decide +kernel
theorem dX2_inOneCycle_44 : decode cX2_inOneCycle 44 = .ok (.getfield 78, 3) := by decide +kernel
theorem dX2_inOneCycle_47 : decode cX2_inOneCycle 47 = .ok (.if_icmp .ge 26, 3) := by decide +kernel
theorem dX2_inOneCycle_50 : decode cX2_inOneCycle 50 = .ok (.iload_n 3, 1) := by decide +kernel
theorem dX2_inOneCycle_51 : decode cX2_inOneCycle 51 = .ok (.iload_n 1, 1) := by decide +kernel
theorem dX2_inOneCycle_52 : decode cX2_inOneCycle 52 = .ok (.if_icmp .eq 21, 3) := by decide +kernel
theorem dX2_inOneCycle_55 : decode cX2_inOneCycle 55 = .ok (.iload_n 3, 1) := by decide +kernel
theorem dX2_inOneCycle_56 : decode cX2_inOneCycle 56 = .ok (.iload_n 2, 1) := by decide +kernel
theorem dX2_inOneCycle_57 : decode cX2_inOneCycle 57 = .ok (.if_icmp .eq 16, 3) := by decide +kernel
theorem dX2_inOneCycle_60 : decode cX2_inOneCycle 60 = .ok (.aload_n 0, 1) := by decide +kernel
theorem dX2_inOneCycle_61 : decode cX2_inOneCycle 61 = .ok (.getfield 21, 3) := by decide +kernel
theorem dX2_inOneCycle_64 : decode cX2_inOneCycle 64 = .ok (.iload_n 3, 1) := by decide +kernel
theorem dX2_inOneCycle_65 : decode cX2_inOneCycle 65 = .ok (.iaload, 1) := by decide +kernel
theorem dX2_inOneCycle_66 : decode cX2_inOneCycle 66 = .ok (.istore_n 3, 1) := by decide +kernel
theorem dX2_inOneCycle_67 : decode cX2_inOneCycle 67 = .ok (.iinc 4 1, 3) := by decide +kernel
theorem dX2_inOneCycle_70 : decode cX2_inOneCycle 70 = .ok (.goto (-32), 3) := by decide +kernel
theorem dX2_inOneCycle_73 : decode cX2_inOneCycle 73 = .ok (.iload_n 3, 1) := by decide +kernel
theorem dX2_inOneCycle_74 : decode cX2_inOneCycle 74 = .ok (.iload_n 2, 1) := by decide +kernel
theorem dX2_inOneCycle_75 : decode cX2_inOneCycle 75 = .ok (.if_icmp .ne 7, 3) := by decide +kernel
theorem dX2_inOneCycle_78 : decode cX2_inOneCycle 78 = .ok (.iconst 1, 1) := by decide +kernel
theorem dX2_inOneCycle_79 : decode cX2_inOneCycle 79 = .ok (.goto 4, 3) := by decide +kernel
theorem dX2_inOneCycle_82 : decode cX2_inOneCycle 82 = .ok (.iconst 0, 1) := by decide +kernel
theorem dX2_inOneCycle_83 : decode cX2_inOneCycle 83 = .ok (.ireturn, 1) := by decide +kernel
theorem dX2_joinCycles_0 : decode cX2_joinCycles 0 = .ok (.aload_n 0, 1) := by decide +kernel
theorem dX2_joinCycles_1 : decode cX2_joinCycles 1 = .ok (.invokevirtual 100, 3) := by decide +kernel
theorem dX2_joinCycles_4 : decode cX2_joinCycles 4 = .ok (.aload_n 0, 1) := by decide +kernel
theorem dX2_joinCycles_5 : decode cX2_joinCycles 5 = .ok (.getfield 93, 3) := by decide +kernel
theorem dX2_joinCycles_8 : decode cX2_joinCycles 8 = .ok (.iconst 1, 1) := by decide +kernel
theorem dX2_joinCycles_9 : decode cX2_joinCycles 9 = .ok (.isub, 1) := by decide +kernel
theorem dX2_joinCycles_10 : decode cX2_joinCycles 10 = .ok (.istore_n 1, 1) := by decide +kernel
theorem dX2_joinCycles_11 : decode cX2_joinCycles 11 = .ok (.aload_n 0, 1) := by decide +kernel
theorem dX2_joinCycles_12 : decode cX2_joinCycles 12 = .ok (.getfield 53, 3) := by decide +kernel
theorem dX2_joinCycles_15 : decode cX2_joinCycles 15 = .ok (.iload_n 1, 1) := by decide +kernel
theorem dX2_joinCycles_16 : decode cX2_joinCycles 16 = .ok (.iadd, 1) := by decide +kernel
theorem dX2_joinCycles_17 : decode cX2_joinCycles 17 = .ok (.sipush 400, 3) := by decide +kernel
theorem dX2_joinCycles_20 : decode cX2_joinCycles 20 = .ok (.if_icmp .le 6, 3) := by decide +kernel
theorem dX2_joinCycles_23 : decode cX2_joinCycles 23 = .ok (.bipush (-4), 2) := by decide +kernel
theorem dX2_joinCycles_25 : decode cX2_joinCycles 25 = .ok (.ireturn, 1) := by decide +kernel
theorem dX2_joinCycles_26 : decode cX2_joinCycles 26 = .ok (.iconst 0, 1) := by decide +kernel
theorem dX2_joinCycles_27 : decode cX2_joinCycles 27 = .ok (.istore_n 2, 1) := by decide +kernel
theorem dX2_joinCycles_28 : decode cX2_joinCycles 28 = .ok (.iload_n 2, 1) := by decide +kernel
theorem dX2_joinCycles_29 : decode cX2_joinCycles 29 = .ok (.aload_n 0, 1) := by decide +kernel
theorem dX2_joinCycles_30 : decode cX2_joinCycles 30 = .ok (.getfield 93, 3) := by decide +kernel
theorem dX2_joinCycles_33 : decode cX2_joinCycles 33 = .ok (.if_icmp .ge 16, 3) := by decide +kernel
theorem dX2_joinCycles_36 : decode cX2_joinCycles 36 = .ok (.aload_n 0, 1) := by decide +kernel
theorem dX2_joinCycles_37 : decode cX2_joinCycles 37 = .ok (.getfield 30, 3) := by decide +kernel
theorem dX2_joinCycles_40 : decode cX2_joinCycles 40 = .ok (.iload_n 2, 1) := by decide +kernel
theorem dX2_joinCycles_41 : decode cX2_joinCycles 41 = .ok (.iload_n 2, 1) := by decide +kernel
theorem dX2_joinCycles_42 : decode cX2_joinCycles 42 = .ok (.iastore, 1) := by decide +kernel
theorem dX2_joinCycles_43 : decode cX2_joinCycles 43 = .ok (.iinc 2 1, 3) := by decide +kernel
theorem dX2_joinCycles_46 : decode cX2_joinCycles 46 = .ok (.goto (-18), 3) := by decide +kernel
theorem dX2_joinCycles_49 : decode cX2_joinCycles 49 = .ok (.iconst 0, 1) := by decide +kernel
theorem dX2_joinCycles_50 : decode cX2_joinCycles 50 = .ok (.istore_n 2, 1) := by decide +kernel
theorem dX2_joinCycles_51 : decode cX2_joinCycles 51 = .ok (.iconst 0, 1) := by decide +kernel
theorem dX2_joinCycles_52 : decode cX2_joinCycles 52 = .ok (.istore_n 3, 1) := by decide +kernel
theorem dX2_joinCycles_53 : decode cX2_joinCycles 53 = .ok (.iload_n 3, 1) := by decide +kernel
theorem dX2_joinCycles_54 : decode cX2_joinCycles 54 = .ok (.aload_n 0, 1) := by decide +kernel
theorem dX2_joinCycles_55 : decode cX2_joinCycles 55 = .ok (.getfield 33, 3) := by decide +kernel
theorem dX2_joinCycles_58 : decode cX2_joinCycles 58 = .ok (.getfield 78, 3) := by decide +kernel
theorem dX2_joinCycles_61 : decode cX2_joinCycles 61 = .ok (.aload_n 0, 1) := by decide +kernel
theorem dX2_joinCycles_62 : decode cX2_joinCycles 62 = .ok (.getfield 33, 3) := by decide +kernel
theorem dX2_joinCycles_65 : decode cX2_joinCycles 65 = .ok (.getfield 81, 3) := by decide +kernel
theorem dX2_joinCycles_68 : decode cX2_joinCycles 68 = .ok (.isub, 1) := by decide +kernel
theorem dX2_joinCycles_69 : decode cX2_joinCycles 69 = .ok (.if_icmp .ge 34, 3) := by decide +kernel
theorem dX2_joinCycles_72 : decode cX2_joinCycles 72 = .ok (.iload_n 2, 1) := by decide +kernel
theorem dX2_joinCycles_73 : decode cX2_joinCycles 73 = .ok (.iload_n 1, 1) := by decide +kernel
theorem dX2_joinCycles_74 : decode cX2_joinCycles 74 = .ok (.if_icmp .ge 29, 3) := by decide +kernel
theorem dX2_joinCycles_77 : decode cX2_joinCycles 77 = .ok (.aload_n 0, 1) := by decide +kernel
theorem dX2_joinCycles_78 : decode cX2_joinCycles 78 = .ok (.iload_n 3, 1) := by decide +kernel
theorem dX2_joinCycles_79 : decode cX2_joinCycles 79 = .ok (.iload_n 3, 1) := by decide +kernel
theorem dX2_joinCycles_80 : decode cX2_joinCycles 80 = .ok (.aload_n 0, 1) := by decide +kernel
theorem dX2_joinCycles_81 : decode cX2_joinCycles 81 = .ok (.getfield 33, 3) := by decide +kernel
theorem dX2_joinCycles_84 : decode cX2_joinCycles 84 = .ok (.getfield 81, 3) := by decide +kernel
theorem dX2_joinCycles_87 : decode cX2_joinCycles 87 = .ok (.iadd, 1) := by decide +kernel
theorem dX2_joinCycles_88 : decode cX2_joinCycles 88 = .ok (.invokevirtual 121, 3) := by decide +kernel
theorem dX2_joinCycles_91 : decode cX2_joinCycles 91 = .ok (.ifCond .eq 6, 3) := by decide +kernel
theorem dX2_joinCycles_94 : decode cX2_joinCycles 94 = .ok (.iinc 2 1, 3) := by decide +kernel
theorem dX2_joinCycles_97 : decode cX2_joinCycles 97 = .ok (.iinc 3 1, 3) := by decide +kernel
theorem dX2_joinCycles_100 : decode cX2_joinCycles 100 = .ok (.goto (-47), 3) := by decide +kernel
theorem dX2_joinCycles_103 : decode cX2_joinCycles 103 = .ok (.aload_n 0, 1) := by decide +kernel
theorem dX2_joinCycles_104 : decode cX2_joinCycles 104 = .ok (.dup, 1) := by decide +kernel
theorem dX2_joinCycles_105 : decode cX2_joinCycles 105 = .ok (.getfield 93, 3) := by decide +kernel
theorem dX2_joinCycles_108 : decode cX2_joinCycles 108 = .ok (.iload_n 2, 1) := by decide +kernel
theorem dX2_joinCycles_109 : decode cX2_joinCycles 109 = .ok (.isub, 1) := by decide +kernel
theorem dX2_joinCycles_110 : decode cX2_joinCycles 110 = .ok (.putfield 93, 3) := by decide +kernel
theorem dX2_joinCycles_113 : decode cX2_joinCycles 113 = .ok (.iload_n 2, 1) := by decide +kernel
theorem dX2_joinCycles_114 : decode cX2_joinCycles 114 = .ok (.ireturn, 1) := by decide +kernel
theorem dX2_joinAt_0 : decode cX2_joinAt 0 = .ok (.aload_n 0, 1) := by decide +kernel
theorem dX2_joinAt_1 : decode cX2_joinAt 1 = .ok (.getfield 30, 3) := by decide +kernel
theorem dX2_joinAt_4 : decode cX2_joinAt 4 = .ok (.aload_n 0, 1) := by decide +kernel
theorem dX2_joinAt_5 : decode cX2_joinAt 5 = .ok (.getfield 24, 3) := by decide +kernel
theorem dX2_joinAt_8 : decode cX2_joinAt 8 = .ok (.iload_n 1, 1) := by decide +kernel
theorem dX2_joinAt_9 : decode cX2_joinAt 9 = .ok (.iaload, 1) := by decide +kernel
theorem dX2_joinAt_10 : decode cX2_joinAt 10 = .ok (.iaload, 1) := by decide +kernel
theorem dX2_joinAt_11 : decode cX2_joinAt 11 = .ok (.istore_n 3, 1) := by decide +kernel
theorem dX2_joinAt_12 : decode cX2_joinAt 12 = .ok (.aload_n 0, 1) := by decide +kernel
theorem dX2_joinAt_13 : decode cX2_joinAt 13 = .ok (.getfield 30, 3) := by decide +kernel
theorem dX2_joinAt_16 : decode cX2_joinAt 16 = .ok (.aload_n 0, 1) := by decide +kernel
theorem dX2_joinAt_17 : decode cX2_joinAt 17 = .ok (.getfield 24, 3) := by decide +kernel
theorem dX2_joinAt_20 : decode cX2_joinAt 20 = .ok (.iload_n 2, 1) := by decide +kernel
theorem dX2_joinAt_21 : decode cX2_joinAt 21 = .ok (.iaload, 1) := by decide +kernel
theorem dX2_joinAt_22 : decode cX2_joinAt 22 = .ok (.iaload, 1) := by decide +kernel
theorem dX2_joinAt_23 : decode cX2_joinAt 23 = .ok (.istore 4, 2) := by decide +kernel
theorem dX2_joinAt_25 : decode cX2_joinAt 25 = .ok (.iload_n 3, 1) := by decide +kernel
theorem dX2_joinAt_26 : decode cX2_joinAt 26 = .ok (.iload 4, 2) := by decide +kernel
theorem dX2_joinAt_28 : decode cX2_joinAt 28 = .ok (.if_icmp .ne 5, 3) := by decide +kernel
theorem dX2_joinAt_31 : decode cX2_joinAt 31 = .ok (.iconst 0, 1) := by decide +kernel
theorem dX2_joinAt_32 : decode cX2_joinAt 32 = .ok (.ireturn, 1) := by decide +kernel
theorem dX2_joinAt_33 : decode cX2_joinAt 33 = .ok (.iconst 0, 1) := by decide +kernel
theorem dX2_joinAt_34 : decode cX2_joinAt 34 = .ok (.istore 5, 2) := by decide +kernel
theorem dX2_joinAt_36 : decode cX2_joinAt 36 = .ok (.iload 5, 2) := by decide +kernel
theorem dX2_joinAt_38 : decode cX2_joinAt 38 = .ok (.aload_n 0, 1) := by decide +kernel
theorem dX2_joinAt_39 : decode cX2_joinAt 39 = .ok (.getfield 93, 3) := by decide +kernel
theorem dX2_joinAt_42 : decode cX2_joinAt 42 = .ok (.if_icmp .ge 29, 3) := by decide +kernel
theorem dX2_joinAt_45 : decode cX2_joinAt 45 = .ok (.aload_n 0, 1) := by decide +kernel
theorem dX2_joinAt_46 : decode cX2_joinAt 46 = .ok (.getfield 30, 3) := by decide +kernel
theorem dX2_joinAt_49 : decode cX2_joinAt 49 = .ok (.iload 5, 2) := by decide +kernel
theorem dX2_joinAt_51 : decode cX2_joinAt 51 = .ok (.iaload, 1) := by decide +kernel
theorem dX2_joinAt_52 : decode cX2_joinAt 52 = .ok (.iload 4, 2) := by decide +kernel
theorem dX2_joinAt_54 : decode cX2_joinAt 54 = .ok (.if_icmp .ne 11, 3) := by decide +kernel
theorem dX2_joinAt_57 : decode cX2_joinAt 57 = .ok (.aload_n 0, 1) := by decide +kernel
theorem dX2_joinAt_58 : decode cX2_joinAt 58 = .ok (.getfield 30, 3) := by decide +kernel
theorem dX2_joinAt_61 : decode cX2_joinAt 61 = .ok (.iload 5, 2) := by decide +kernel
theorem dX2_joinAt_63 : decode cX2_joinAt 63 = .ok (.iload_n 3, 1) := by decide +kernel
theorem dX2_joinAt_64 : decode cX2_joinAt 64 = .ok (.iastore, 1) := by decide +kernel
theorem dX2_joinAt_65 : decode cX2_joinAt 65 = .ok (.iinc 5 1, 3) := by decide +kernel
theorem dX2_joinAt_68 : decode cX2_joinAt 68 = .ok (.goto (-32), 3) := by decide +kernel
theorem dX2_joinAt_71 : decode cX2_joinAt 71 = .ok (.aload_n 0, 1) := by decide +kernel
theorem dX2_joinAt_72 : decode cX2_joinAt 72 = .ok (.iload_n 1, 1) := by decide +kernel
theorem dX2_joinAt_73 : decode cX2_joinAt 73 = .ok (.iload_n 2, 1) := by decide +kernel
theorem dX2_joinAt_74 : decode cX2_joinAt 74 = .ok (.invokevirtual 107, 3) := by decide +kernel
theorem dX2_joinAt_77 : decode cX2_joinAt 77 = .ok (.aload_n 0, 1) := by decide +kernel
theorem dX2_joinAt_78 : decode cX2_joinAt 78 = .ok (.iload_n 1, 1) := by decide +kernel
theorem dX2_joinAt_79 : decode cX2_joinAt 79 = .ok (.iload_n 2, 1) := by decide +kernel
theorem dX2_joinAt_80 : decode cX2_joinAt 80 = .ok (.invokevirtual 110, 3) := by decide +kernel
theorem dX2_joinAt_83 : decode cX2_joinAt 83 = .ok (.iconst 1, 1) := by decide +kernel
theorem dX2_joinAt_84 : decode cX2_joinAt 84 = .ok (.ireturn, 1) := by decide +kernel
theorem dX3_init_0 : decode cX3_init 0 = .ok (.aload_n 0, 1) := by decide +kernel
theorem dX3_init_1 : decode cX3_init 1 = .ok (.invokespecial 3, 3) := by decide +kernel
theorem dX3_init_4 : decode cX3_init 4 = .ok (.aload_n 0, 1) := by decide +kernel
theorem dX3_init_5 : decode cX3_init 5 = .ok (.bipush 14, 2) := by decide +kernel
theorem dX3_init_7 : decode cX3_init 7 = .ok (.newarray .int, 2) := by decide +kernel
theorem dX3_init_9 : decode cX3_init 9 = .ok (.putfield 9, 3) := by decide +kernel
theorem dX3_init_12 : decode cX3_init 12 = .ok (.aload_n 0, 1) := by decide +kernel
theorem dX3_init_13 : decode cX3_init 13 = .ok (.bipush 15, 2) := by decide +kernel
theorem dX3_init_15 : decode cX3_init 15 = .ok (.newarray .int, 2) := by decide +kernel
theorem dX3_init_17 : decode cX3_init 17 = .ok (.putfield 15, 3) := by decide +kernel
theorem dX3_init_20 : decode cX3_init 20 = .ok (.aload_n 0, 1) := by decide +kernel
theorem dX3_init_21 : decode cX3_init 21 = .ok (.iconst 5, 1) := by decide +kernel
theorem dX3_init_22 : decode cX3_init 22 = .ok (.newarray .int, 2) := by decide +kernel
theorem dX3_init_24 : decode cX3_init 24 = .ok (.putfield 18, 3) := by decide +kernel
theorem dX3_init_27 : decode cX3_init 27 = .ok (.aload_n 0, 1) := by decide +kernel
theorem dX3_init_28 : decode cX3_init 28 = .ok (.aload_n 1, 1) := by decide +kernel
theorem dX3_init_29 : decode cX3_init 29 = .ok (.putfield 21, 3) := by decide +kernel
theorem dX3_init_32 : decode cX3_init 32 = .ok (.return_, 1) := by decide +kernel
theorem dX3_ringsUpTo_0 : decode cX3_ringsUpTo 0 = .ok (.iload_n 1, 1) := by decide +kernel
theorem dX3_ringsUpTo_1 : decode cX3_ringsUpTo 1 = .ok (.ifCond .ge 5, 3) := by decide +kernel
theorem dX3_ringsUpTo_4 : decode cX3_ringsUpTo 4 = .ok (.iconst 0, 1) := by decide +kernel
theorem dX3_ringsUpTo_5 : decode cX3_ringsUpTo 5 = .ok (.ireturn, 1) := by decide +kernel
theorem dX3_ringsUpTo_6 : decode cX3_ringsUpTo 6 = .ok (.iconst 0, 1) := by decide +kernel
theorem dX3_ringsUpTo_7 : decode cX3_ringsUpTo 7 = .ok (.istore_n 2, 1) := by decide +kernel
theorem dX3_ringsUpTo_8 : decode cX3_ringsUpTo 8 = .ok (.iconst 1, 1) := by decide +kernel
theorem dX3_ringsUpTo_9 : decode cX3_ringsUpTo 9 = .ok (.istore_n 3, 1) := by decide +kernel
theorem dX3_ringsUpTo_10 : decode cX3_ringsUpTo 10 = .ok (.iload_n 3, 1) := by decide +kernel
theorem dX3_ringsUpTo_11 : decode cX3_ringsUpTo 11 = .ok (.aload_n 0, 1) := by decide +kernel
theorem dX3_ringsUpTo_12 : decode cX3_ringsUpTo 12 = .ok (.getfield 21, 3) := by decide +kernel
theorem dX3_ringsUpTo_15 : decode cX3_ringsUpTo 15 = .ok (.getfield 25, 3) := by decide +kernel
theorem dX3_ringsUpTo_18 : decode cX3_ringsUpTo 18 = .ok (.if_icmp .gt 49, 3) := by decide +kernel
theorem dX3_ringsUpTo_21 : decode cX3_ringsUpTo 21 = .ok (.aload_n 0, 1) := by decide +kernel
theorem dX3_ringsUpTo_22 : decode cX3_ringsUpTo 22 = .ok (.getfield 21, 3) := by decide +kernel
theorem dX3_ringsUpTo_25 : decode cX3_ringsUpTo 25 = .ok (.getfield 25, 3) := by decide +kernel
theorem dX3_ringsUpTo_28 : decode cX3_ringsUpTo 28 = .ok (.iload_n 3, 1) := by decide +kernel
theorem dX3_ringsUpTo_29 : decode cX3_ringsUpTo 29 = .ok (.irem, 1) := by decide +kernel
theorem dX3_ringsUpTo_30 : decode cX3_ringsUpTo 30 = .ok (.ifCond .ne 31, 3) := by decide +kernel
theorem dX3_ringsUpTo_33 : decode cX3_ringsUpTo 33 = .ok (.iload_n 2, 1) := by decide +kernel
theorem dX3_ringsUpTo_34 : decode cX3_ringsUpTo 34 = .ok (.getstatic 31, 3) := by decide +kernel
theorem dX3_ringsUpTo_37 : decode cX3_ringsUpTo 37 = .ok (.aload_n 0, 1) := by decide +kernel
theorem dX3_ringsUpTo_38 : decode cX3_ringsUpTo 38 = .ok (.getfield 21, 3) := by decide +kernel
theorem dX3_ringsUpTo_41 : decode cX3_ringsUpTo 41 = .ok (.getfield 25, 3) := by decide +kernel
theorem dX3_ringsUpTo_44 : decode cX3_ringsUpTo 44 = .ok (.iload_n 3, 1) := by decide +kernel
theorem dX3_ringsUpTo_45 : decode cX3_ringsUpTo 45 = .ok (.idiv, 1) := by decide +kernel
theorem dX3_ringsUpTo_46 : decode cX3_ringsUpTo 46 = .ok (.iaload, 1) := by decide +kernel
theorem dX3_ringsUpTo_47 : decode cX3_ringsUpTo 47 = .ok (.aload_n 0, 1) := by decide +kernel
theorem dX3_ringsUpTo_48 : decode cX3_ringsUpTo 48 = .ok (.iload_n 3, 1) := by decide +kernel
theorem dX3_ringsUpTo_49 : decode cX3_ringsUpTo 49 = .ok (.aload_n 0, 1) := by decide +kernel
theorem dX3_ringsUpTo_50 : decode cX3_ringsUpTo 50 = .ok (.iload_n 3, 1) := by decide +kernel
theorem dX3_ringsUpTo_51 : decode cX3_ringsUpTo 51 = .ok (.iload_n 1, 1) := by decide +kernel
theorem dX3_ringsUpTo_52 : decode cX3_ringsUpTo 52 = .ok (.invokevirtual 34, 3) := by decide +kernel
theorem dX3_ringsUpTo_55 : decode cX3_ringsUpTo 55 = .ok (.invokevirtual 38, 3) := by decide +kernel
theorem dX3_ringsUpTo_58 : decode cX3_ringsUpTo 58 = .ok (.imul, 1) := by decide +kernel
theorem dX3_ringsUpTo_59 : decode cX3_ringsUpTo 59 = .ok (.iadd, 1) := by decide +kernel
theorem dX3_ringsUpTo_60 : decode cX3_ringsUpTo 60 = .ok (.istore_n 2, 1) := by decide +kernel
theorem dX3_ringsUpTo_61 : decode cX3_ringsUpTo 61 = .ok (.iinc 3 1, 3) := by decide +kernel
theorem dX3_ringsUpTo_64 : decode cX3_ringsUpTo 64 = .ok (.goto (-54), 3) := by decide +kernel
theorem dX3_ringsUpTo_67 : decode cX3_ringsUpTo 67 = .ok (.iload_n 2, 1) := by decide +kernel
theorem dX3_ringsUpTo_68 : decode cX3_ringsUpTo 68 = .ok (.aload_n 0, 1) := by decide +kernel
theorem dX3_ringsUpTo_69 : decode cX3_ringsUpTo 69 = .ok (.getfield 21, 3) := by decide +kernel
theorem dX3_ringsUpTo_72 : decode cX3_ringsUpTo 72 = .ok (.getfield 25, 3) := by decide +kernel
theorem dX3_ringsUpTo_75 : decode cX3_ringsUpTo 75 = .ok (.idiv, 1) := by decide +kernel
theorem dX3_ringsUpTo_76 : decode cX3_ringsUpTo 76 = .ok (.ireturn, 1) := by decide +kernel
theorem dX3_greatestRepeated_0 : decode cX3_greatestRepeated 0 = .ok (.iload_n 2, 1) := by decide +kernel
theorem dX3_greatestRepeated_1 : decode cX3_greatestRepeated 1 = .ok (.aload_n 0, 1) := by decide +kernel
theorem dX3_greatestRepeated_2 : decode cX3_greatestRepeated 2 = .ok (.getfield 21, 3) := by decide +kernel
theorem dX3_greatestRepeated_5 : decode cX3_greatestRepeated 5 = .ok (.getfield 41, 3) := by decide +kernel
theorem dX3_greatestRepeated_8 : decode cX3_greatestRepeated 8 = .ok (.aload_n 0, 1) := by decide +kernel
theorem dX3_greatestRepeated_9 : decode cX3_greatestRepeated 9 = .ok (.getfield 21, 3) := by decide +kernel
theorem dX3_greatestRepeated_12 : decode cX3_greatestRepeated 12 = .ok (.getfield 25, 3) := by decide +kernel
theorem dX3_greatestRepeated_15 : decode cX3_greatestRepeated 15 = .ok (.iload_n 1, 1) := by decide +kernel
theorem dX3_greatestRepeated_16 : decode cX3_greatestRepeated 16 = .ok (.isub, 1) := by decide +kernel
theorem dX3_greatestRepeated_17 : decode cX3_greatestRepeated 17 = .ok (.iaload, 1) := by decide +kernel
theorem dX3_greatestRepeated_18 : decode cX3_greatestRepeated 18 = .ok (.idiv, 1) := by decide +kernel
theorem dX3_greatestRepeated_19 : decode cX3_greatestRepeated 19 = .ok (.istore_n 3, 1) := by decide +kernel
theorem dX3_greatestRepeated_20 : decode cX3_greatestRepeated 20 = .ok (.iconst 0, 1) := by decide +kernel
theorem dX3_greatestRepeated_21 : decode cX3_greatestRepeated 21 = .ok (.istore 4, 2) := by decide +kernel
theorem dX3_greatestRepeated_23 : decode cX3_greatestRepeated 23 = .ok (.iconst 0, 1) := by decide +kernel
theorem dX3_greatestRepeated_24 : decode cX3_greatestRepeated 24 = .ok (.istore 5, 2) := by decide +kernel
theorem dX3_greatestRepeated_26 : decode cX3_greatestRepeated 26 = .ok (.iload 5, 2) := by decide +kernel
theorem dX3_greatestRepeated_28 : decode cX3_greatestRepeated 28 = .ok (.aload_n 0, 1) := by decide +kernel
theorem dX3_greatestRepeated_29 : decode cX3_greatestRepeated 29 = .ok (.getfield 21, 3) := by decide +kernel
theorem dX3_greatestRepeated_32 : decode cX3_greatestRepeated 32 = .ok (.getfield 25, 3) := by decide +kernel
theorem dX3_greatestRepeated_35 : decode cX3_greatestRepeated 35 = .ok (.if_icmp .ge 28, 3) := by decide +kernel
theorem dX3_greatestRepeated_38 : decode cX3_greatestRepeated 38 = .ok (.iload 4, 2) := by decide +kernel
theorem dX3_greatestRepeated_40 : decode cX3_greatestRepeated 40 = .ok (.aload_n 0, 1) := by decide +kernel
theorem dX3_greatestRepeated_41 : decode cX3_greatestRepeated 41 = .ok (.getfield 21, 3) := by decide +kernel
theorem dX3_greatestRepeated_44 : decode cX3_greatestRepeated 44 = .ok (.getfield 41, 3) := by decide +kernel
theorem dX3_greatestRepeated_47 : decode cX3_greatestRepeated 47 = .ok (.iload_n 1, 1) := by decide +kernel
theorem dX3_greatestRepeated_48 : decode cX3_greatestRepeated 48 = .ok (.iaload, 1) := by decide +kernel
theorem dX3_greatestRepeated_49 : decode cX3_greatestRepeated 49 = .ok (.imul, 1) := by decide +kernel
theorem dX3_greatestRepeated_50 : decode cX3_greatestRepeated 50 = .ok (.iload_n 3, 1) := by decide +kernel
theorem dX3_greatestRepeated_51 : decode cX3_greatestRepeated 51 = .ok (.iadd, 1) := by decide +kernel
theorem dX3_greatestRepeated_52 : decode cX3_greatestRepeated 52 = .ok (.istore 4, 2) := by decide +kernel
theorem dX3_greatestRepeated_54 : decode cX3_greatestRepeated 54 = .ok (.iload 5, 2) := by decide +kernel
theorem dX3_greatestRepeated_56 : decode cX3_greatestRepeated 56 = .ok (.iload_n 1, 1) := by decide +kernel
theorem dX3_greatestRepeated_57 : decode cX3_greatestRepeated 57 = .ok (.iadd, 1) := by decide +kernel
theorem dX3_greatestRepeated_58 : decode cX3_greatestRepeated 58 = .ok (.istore 5, 2) := by decide +kernel
theorem dX3_greatestRepeated_60 : decode cX3_greatestRepeated 60 = .ok (.goto (-34), 3) := by decide +kernel
theorem dX3_greatestRepeated_63 : decode cX3_greatestRepeated 63 = .ok (.iload 4, 2) := by decide +kernel
theorem dX3_greatestRepeated_65 : decode cX3_greatestRepeated 65 = .ok (.iload_n 2, 1) := by decide +kernel
theorem dX3_greatestRepeated_66 : decode cX3_greatestRepeated 66 = .ok (.if_icmp .gt 7, 3) := by decide +kernel
theorem dX3_greatestRepeated_69 : decode cX3_greatestRepeated 69 = .ok (.iload_n 3, 1) := by decide +kernel
theorem dX3_greatestRepeated_70 : decode cX3_greatestRepeated 70 = .ok (.goto 6, 3) := by decide +kernel
theorem dX3_greatestRepeated_73 : decode cX3_greatestRepeated 73 = .ok (.iload_n 3, 1) := by decide +kernel
theorem dX3_greatestRepeated_74 : decode cX3_greatestRepeated 74 = .ok (.iconst 1, 1) := by decide +kernel
theorem dX3_greatestRepeated_75 : decode cX3_greatestRepeated 75 = .ok (.isub, 1) := by decide +kernel
theorem dX3_greatestRepeated_76 : decode cX3_greatestRepeated 76 = .ok (.ireturn, 1) := by decide +kernel
theorem dX3_leastOfRing_0 : decode cX3_leastOfRing 0 = .ok (.iconst 0, 1) := by decide +kernel
theorem dX3_leastOfRing_1 : decode cX3_leastOfRing 1 = .ok (.istore_n 2, 1) := by decide +kernel
theorem dX3_leastOfRing_2 : decode cX3_leastOfRing 2 = .ok (.aload_n 0, 1) := by decide +kernel
theorem dX3_leastOfRing_3 : decode cX3_leastOfRing 3 = .ok (.getfield 21, 3) := by decide +kernel
theorem dX3_leastOfRing_6 : decode cX3_leastOfRing 6 = .ok (.getfield 44, 3) := by decide +kernel
theorem dX3_leastOfRing_9 : decode cX3_leastOfRing 9 = .ok (.iconst 1, 1) := by decide +kernel
theorem dX3_leastOfRing_10 : decode cX3_leastOfRing 10 = .ok (.isub, 1) := by decide +kernel
theorem dX3_leastOfRing_11 : decode cX3_leastOfRing 11 = .ok (.istore_n 3, 1) := by decide +kernel
theorem dX3_leastOfRing_12 : decode cX3_leastOfRing 12 = .ok (.iconst 0, 1) := by decide +kernel
theorem dX3_leastOfRing_13 : decode cX3_leastOfRing 13 = .ok (.istore 4, 2) := by decide +kernel
theorem dX3_leastOfRing_15 : decode cX3_leastOfRing 15 = .ok (.iload 4, 2) := by decide +kernel
theorem dX3_leastOfRing_17 : decode cX3_leastOfRing 17 = .ok (.sipush 20000, 3) := by decide +kernel
theorem dX3_leastOfRing_20 : decode cX3_leastOfRing 20 = .ok (.if_icmp .ge 42, 3) := by decide +kernel
theorem dX3_leastOfRing_23 : decode cX3_leastOfRing 23 = .ok (.iload_n 2, 1) := by decide +kernel
theorem dX3_leastOfRing_24 : decode cX3_leastOfRing 24 = .ok (.iload_n 3, 1) := by decide +kernel
theorem dX3_leastOfRing_25 : decode cX3_leastOfRing 25 = .ok (.if_icmp .ge 37, 3) := by decide +kernel
theorem dX3_leastOfRing_28 : decode cX3_leastOfRing 28 = .ok (.iload_n 2, 1) := by decide +kernel
theorem dX3_leastOfRing_29 : decode cX3_leastOfRing 29 = .ok (.iload_n 3, 1) := by decide +kernel
theorem dX3_leastOfRing_30 : decode cX3_leastOfRing 30 = .ok (.iadd, 1) := by decide +kernel
theorem dX3_leastOfRing_31 : decode cX3_leastOfRing 31 = .ok (.iconst 2, 1) := by decide +kernel
theorem dX3_leastOfRing_32 : decode cX3_leastOfRing 32 = .ok (.idiv, 1) := by decide +kernel
theorem dX3_leastOfRing_33 : decode cX3_leastOfRing 33 = .ok (.istore 5, 2) := by decide +kernel
theorem dX3_leastOfRing_35 : decode cX3_leastOfRing 35 = .ok (.aload_n 0, 1) := by decide +kernel
theorem dX3_leastOfRing_36 : decode cX3_leastOfRing 36 = .ok (.iload 5, 2) := by decide +kernel
theorem dX3_leastOfRing_38 : decode cX3_leastOfRing 38 = .ok (.invokevirtual 47, 3) := by decide +kernel
theorem dX3_leastOfRing_41 : decode cX3_leastOfRing 41 = .ok (.iload_n 1, 1) := by decide +kernel
theorem dX3_leastOfRing_42 : decode cX3_leastOfRing 42 = .ok (.if_icmp .le 9, 3) := by decide +kernel
theorem dX3_leastOfRing_45 : decode cX3_leastOfRing 45 = .ok (.iload 5, 2) := by decide +kernel
theorem dX3_leastOfRing_47 : decode cX3_leastOfRing 47 = .ok (.istore_n 3, 1) := by decide +kernel
theorem dX3_leastOfRing_48 : decode cX3_leastOfRing 48 = .ok (.goto 8, 3) := by decide +kernel
theorem dX3_leastOfRing_51 : decode cX3_leastOfRing 51 = .ok (.iload 5, 2) := by decide +kernel
theorem dX3_leastOfRing_53 : decode cX3_leastOfRing 53 = .ok (.iconst 1, 1) := by decide +kernel
theorem dX3_leastOfRing_54 : decode cX3_leastOfRing 54 = .ok (.iadd, 1) := by decide +kernel
theorem dX3_leastOfRing_55 : decode cX3_leastOfRing 55 = .ok (.istore_n 2, 1) := by decide +kernel
theorem dX3_leastOfRing_56 : decode cX3_leastOfRing 56 = .ok (.iinc 4 1, 3) := by decide +kernel
theorem dX3_leastOfRing_59 : decode cX3_leastOfRing 59 = .ok (.goto (-44), 3) := by decide +kernel
theorem dX3_leastOfRing_62 : decode cX3_leastOfRing 62 = .ok (.iload_n 2, 1) := by decide +kernel
theorem dX3_leastOfRing_63 : decode cX3_leastOfRing 63 = .ok (.ireturn, 1) := by decide +kernel
theorem dX3_wordsUpTo_0 : decode cX3_wordsUpTo 0 = .ok (.iload_n 2, 1) := by decide +kernel
theorem dX3_wordsUpTo_1 : decode cX3_wordsUpTo 1 = .ok (.ifCond .ge 5, 3) := by decide +kernel
theorem dX3_wordsUpTo_4 : decode cX3_wordsUpTo 4 = .ok (.iconst 0, 1) := by decide +kernel
theorem dX3_wordsUpTo_5 : decode cX3_wordsUpTo 5 = .ok (.ireturn, 1) := by decide +kernel
theorem dX3_wordsUpTo_6 : decode cX3_wordsUpTo 6 = .ok (.iload_n 2, 1) := by decide +kernel
theorem dX3_wordsUpTo_7 : decode cX3_wordsUpTo 7 = .ok (.istore_n 3, 1) := by decide +kernel
theorem dX3_wordsUpTo_8 : decode cX3_wordsUpTo 8 = .ok (.iload_n 1, 1) := by decide +kernel
theorem dX3_wordsUpTo_9 : decode cX3_wordsUpTo 9 = .ok (.iconst 1, 1) := by decide +kernel
theorem dX3_wordsUpTo_10 : decode cX3_wordsUpTo 10 = .ok (.isub, 1) := by decide +kernel
theorem dX3_wordsUpTo_11 : decode cX3_wordsUpTo 11 = .ok (.istore 4, 2) := by decide +kernel
theorem dX3_wordsUpTo_13 : decode cX3_wordsUpTo 13 = .ok (.iload 4, 2) := by decide +kernel
theorem dX3_wordsUpTo_15 : decode cX3_wordsUpTo 15 = .ok (.ifCond .lt 35, 3) := by decide +kernel
theorem dX3_wordsUpTo_18 : decode cX3_wordsUpTo 18 = .ok (.aload_n 0, 1) := by decide +kernel
theorem dX3_wordsUpTo_19 : decode cX3_wordsUpTo 19 = .ok (.getfield 9, 3) := by decide +kernel
theorem dX3_wordsUpTo_22 : decode cX3_wordsUpTo 22 = .ok (.iload 4, 2) := by decide +kernel
theorem dX3_wordsUpTo_24 : decode cX3_wordsUpTo 24 = .ok (.iload_n 3, 1) := by decide +kernel
theorem dX3_wordsUpTo_25 : decode cX3_wordsUpTo 25 = .ok (.aload_n 0, 1) := by decide +kernel
theorem dX3_wordsUpTo_26 : decode cX3_wordsUpTo 26 = .ok (.getfield 21, 3) := by decide +kernel
theorem dX3_wordsUpTo_29 : decode cX3_wordsUpTo 29 = .ok (.getfield 51, 3) := by decide +kernel
theorem dX3_wordsUpTo_32 : decode cX3_wordsUpTo 32 = .ok (.irem, 1) := by decide +kernel
theorem dX3_wordsUpTo_33 : decode cX3_wordsUpTo 33 = .ok (.iastore, 1) := by decide +kernel
theorem dX3_wordsUpTo_34 : decode cX3_wordsUpTo 34 = .ok (.iload_n 3, 1) := by decide +kernel
theorem dX3_wordsUpTo_35 : decode cX3_wordsUpTo 35 = .ok (.aload_n 0, 1) := by decide +kernel
theorem dX3_wordsUpTo_36 : decode cX3_wordsUpTo 36 = .ok (.getfield 21, 3) := by decide +kernel
theorem dX3_wordsUpTo_39 : decode cX3_wordsUpTo 39 = .ok (.getfield 51, 3) := by decide +kernel
theorem dX3_wordsUpTo_42 : decode cX3_wordsUpTo 42 = .ok (.idiv, 1) := by decide +kernel
theorem dX3_wordsUpTo_43 : decode cX3_wordsUpTo 43 = .ok (.istore_n 3, 1) := by decide +kernel
theorem dX3_wordsUpTo_44 : decode cX3_wordsUpTo 44 = .ok (.iinc 4 (-1), 3) := by decide +kernel
theorem dX3_wordsUpTo_47 : decode cX3_wordsUpTo 47 = .ok (.goto (-34), 3) := by decide +kernel
theorem dX3_wordsUpTo_50 : decode cX3_wordsUpTo 50 = .ok (.aload_n 0, 1) := by decide +kernel
theorem dX3_wordsUpTo_51 : decode cX3_wordsUpTo 51 = .ok (.iload_n 1, 1) := by decide +kernel
theorem dX3_wordsUpTo_52 : decode cX3_wordsUpTo 52 = .ok (.invokevirtual 54, 3) := by decide +kernel
theorem dX3_wordsUpTo_55 : decode cX3_wordsUpTo 55 = .ok (.aload_n 0, 1) := by decide +kernel
theorem dX3_wordsUpTo_56 : decode cX3_wordsUpTo 56 = .ok (.getfield 21, 3) := by decide +kernel
theorem dX3_wordsUpTo_59 : decode cX3_wordsUpTo 59 = .ok (.getfield 41, 3) := by decide +kernel
theorem dX3_wordsUpTo_62 : decode cX3_wordsUpTo 62 = .ok (.iload_n 1, 1) := by decide +kernel
theorem dX3_wordsUpTo_63 : decode cX3_wordsUpTo 63 = .ok (.iaload, 1) := by decide +kernel
theorem dX3_wordsUpTo_64 : decode cX3_wordsUpTo 64 = .ok (.aload_n 0, 1) := by decide +kernel
theorem dX3_wordsUpTo_65 : decode cX3_wordsUpTo 65 = .ok (.iload_n 1, 1) := by decide +kernel
theorem dX3_wordsUpTo_66 : decode cX3_wordsUpTo 66 = .ok (.invokevirtual 58, 3) := by decide +kernel
theorem dX3_wordsUpTo_69 : decode cX3_wordsUpTo 69 = .ok (.isub, 1) := by decide +kernel
theorem dX3_wordsUpTo_70 : decode cX3_wordsUpTo 70 = .ok (.ireturn, 1) := by decide +kernel
theorem dX3_lowerToBeginning_0 : decode cX3_lowerToBeginning 0 = .ok (.iconst 0, 1) := by decide +kernel
theorem dX3_lowerToBeginning_1 : decode cX3_lowerToBeginning 1 = .ok (.istore_n 2, 1) := by decide +kernel
theorem dX3_lowerToBeginning_2 : decode cX3_lowerToBeginning 2 = .ok (.iload_n 2, 1) := by decide +kernel
theorem dX3_lowerToBeginning_3 : decode cX3_lowerToBeginning 3 = .ok (.iload_n 1, 1) := by decide +kernel
theorem dX3_lowerToBeginning_4 : decode cX3_lowerToBeginning 4 = .ok (.if_icmp .ge 79, 3) := by decide +kernel
theorem dX3_lowerToBeginning_7 : decode cX3_lowerToBeginning 7 = .ok (.aload_n 0, 1) := by decide +kernel
theorem dX3_lowerToBeginning_8 : decode cX3_lowerToBeginning 8 = .ok (.iload_n 1, 1) := by decide +kernel
theorem dX3_lowerToBeginning_9 : decode cX3_lowerToBeginning 9 = .ok (.invokevirtual 61, 3) := by decide +kernel
theorem dX3_lowerToBeginning_12 : decode cX3_lowerToBeginning 12 = .ok (.istore_n 3, 1) := by decide +kernel
theorem dX3_lowerToBeginning_13 : decode cX3_lowerToBeginning 13 = .ok (.iload_n 3, 1) := by decide +kernel
theorem dX3_lowerToBeginning_14 : decode cX3_lowerToBeginning 14 = .ok (.iload_n 1, 1) := by decide +kernel
theorem dX3_lowerToBeginning_15 : decode cX3_lowerToBeginning 15 = .ok (.if_icmp .ne 4, 3) := by decide +kernel
theorem dX3_lowerToBeginning_18 : decode cX3_lowerToBeginning 18 = .ok (.return_, 1) := by decide +kernel
theorem dX3_lowerToBeginning_19 : decode cX3_lowerToBeginning 19 = .ok (.iload_n 3, 1) := by decide +kernel
theorem dX3_lowerToBeginning_20 : decode cX3_lowerToBeginning 20 = .ok (.iconst 1, 1) := by decide +kernel
theorem dX3_lowerToBeginning_21 : decode cX3_lowerToBeginning 21 = .ok (.isub, 1) := by decide +kernel
theorem dX3_lowerToBeginning_22 : decode cX3_lowerToBeginning 22 = .ok (.istore 4, 2) := by decide +kernel
theorem dX3_lowerToBeginning_24 : decode cX3_lowerToBeginning 24 = .ok (.iload 4, 2) := by decide +kernel
theorem dX3_lowerToBeginning_26 : decode cX3_lowerToBeginning 26 = .ok (.ifCond .le 19, 3) := by decide +kernel
theorem dX3_lowerToBeginning_29 : decode cX3_lowerToBeginning 29 = .ok (.aload_n 0, 1) := by decide +kernel
theorem dX3_lowerToBeginning_30 : decode cX3_lowerToBeginning 30 = .ok (.getfield 9, 3) := by decide +kernel
theorem dX3_lowerToBeginning_33 : decode cX3_lowerToBeginning 33 = .ok (.iload 4, 2) := by decide +kernel
theorem dX3_lowerToBeginning_35 : decode cX3_lowerToBeginning 35 = .ok (.iaload, 1) := by decide +kernel
theorem dX3_lowerToBeginning_36 : decode cX3_lowerToBeginning 36 = .ok (.ifCond .ne 9, 3) := by decide +kernel
theorem dX3_lowerToBeginning_39 : decode cX3_lowerToBeginning 39 = .ok (.iinc 4 (-1), 3) := by decide +kernel
theorem dX3_lowerToBeginning_42 : decode cX3_lowerToBeginning 42 = .ok (.goto (-18), 3) := by decide +kernel
theorem dX3_lowerToBeginning_45 : decode cX3_lowerToBeginning 45 = .ok (.aload_n 0, 1) := by decide +kernel
theorem dX3_lowerToBeginning_46 : decode cX3_lowerToBeginning 46 = .ok (.getfield 9, 3) := by decide +kernel
theorem dX3_lowerToBeginning_49 : decode cX3_lowerToBeginning 49 = .ok (.iload 4, 2) := by decide +kernel
theorem dX3_lowerToBeginning_51 : decode cX3_lowerToBeginning 51 = .ok (.dup2, 1) := by decide +kernel
theorem dX3_lowerToBeginning_52 : decode cX3_lowerToBeginning 52 = .ok (.iaload, 1) := by decide +kernel
theorem dX3_lowerToBeginning_53 : decode cX3_lowerToBeginning 53 = .ok (.iconst 1, 1) := by decide +kernel
theorem dX3_lowerToBeginning_54 : decode cX3_lowerToBeginning 54 = .ok (.isub, 1) := by decide +kernel
theorem dX3_lowerToBeginning_55 : decode cX3_lowerToBeginning 55 = .ok (.iastore, 1) := by decide +kernel
theorem dX3_lowerToBeginning_56 : decode cX3_lowerToBeginning 56 = .ok (.aload_n 0, 1) := by decide +kernel
theorem dX3_lowerToBeginning_57 : decode cX3_lowerToBeginning 57 = .ok (.getfield 9, 3) := by decide +kernel
theorem dX3_lowerToBeginning_60 : decode cX3_lowerToBeginning 60 = .ok (.iload 4, 2) := by decide +kernel
theorem dX3_lowerToBeginning_62 : decode cX3_lowerToBeginning 62 = .ok (.iconst 1, 1) := by decide +kernel
theorem dX3_lowerToBeginning_63 : decode cX3_lowerToBeginning 63 = .ok (.iadd, 1) := by decide +kernel
theorem dX3_lowerToBeginning_64 : decode cX3_lowerToBeginning 64 = .ok (.iload_n 1, 1) := by decide +kernel
theorem dX3_lowerToBeginning_65 : decode cX3_lowerToBeginning 65 = .ok (.aload_n 0, 1) := by decide +kernel
theorem dX3_lowerToBeginning_66 : decode cX3_lowerToBeginning 66 = .ok (.getfield 21, 3) := by decide +kernel
theorem dX3_lowerToBeginning_69 : decode cX3_lowerToBeginning 69 = .ok (.getfield 51, 3) := by decide +kernel
theorem dX3_lowerToBeginning_72 : decode cX3_lowerToBeginning 72 = .ok (.iconst 1, 1) := by decide +kernel
theorem dX3_lowerToBeginning_73 : decode cX3_lowerToBeginning 73 = .ok (.isub, 1) := by decide +kernel
theorem dX3_lowerToBeginning_74 : decode cX3_lowerToBeginning 74 = .ok (.invokestatic 64, 3) := by decide +kernel
theorem dX3_lowerToBeginning_77 : decode cX3_lowerToBeginning 77 = .ok (.iinc 2 1, 3) := by decide +kernel
theorem dX3_lowerToBeginning_80 : decode cX3_lowerToBeginning 80 = .ok (.goto (-78), 3) := by decide +kernel
theorem dX3_lowerToBeginning_83 : decode cX3_lowerToBeginning 83 = .ok (.return_, 1) := by decide +kernel
theorem dX3_firstFault_0 : decode cX3_firstFault 0 = .ok (.iconst 1, 1) := by decide +kernel
theorem dX3_firstFault_1 : decode cX3_firstFault 1 = .ok (.istore_n 2, 1) := by decide +kernel
theorem dX3_firstFault_2 : decode cX3_firstFault 2 = .ok (.iconst 1, 1) := by decide +kernel
theorem dX3_firstFault_3 : decode cX3_firstFault 3 = .ok (.istore_n 3, 1) := by decide +kernel
theorem dX3_firstFault_4 : decode cX3_firstFault 4 = .ok (.iload_n 3, 1) := by decide +kernel
theorem dX3_firstFault_5 : decode cX3_firstFault 5 = .ok (.iload_n 1, 1) := by decide +kernel
theorem dX3_firstFault_6 : decode cX3_firstFault 6 = .ok (.if_icmp .ge 49, 3) := by decide +kernel
theorem dX3_firstFault_9 : decode cX3_firstFault 9 = .ok (.aload_n 0, 1) := by decide +kernel
theorem dX3_firstFault_10 : decode cX3_firstFault 10 = .ok (.getfield 9, 3) := by decide +kernel
theorem dX3_firstFault_13 : decode cX3_firstFault 13 = .ok (.iload_n 3, 1) := by decide +kernel
theorem dX3_firstFault_14 : decode cX3_firstFault 14 = .ok (.iaload, 1) := by decide +kernel
theorem dX3_firstFault_15 : decode cX3_firstFault 15 = .ok (.aload_n 0, 1) := by decide +kernel
theorem dX3_firstFault_16 : decode cX3_firstFault 16 = .ok (.getfield 9, 3) := by decide +kernel
theorem dX3_firstFault_19 : decode cX3_firstFault 19 = .ok (.iload_n 3, 1) := by decide +kernel
theorem dX3_firstFault_20 : decode cX3_firstFault 20 = .ok (.iload_n 2, 1) := by decide +kernel
theorem dX3_firstFault_21 : decode cX3_firstFault 21 = .ok (.isub, 1) := by decide +kernel
theorem dX3_firstFault_22 : decode cX3_firstFault 22 = .ok (.iaload, 1) := by decide +kernel
theorem dX3_firstFault_23 : decode cX3_firstFault 23 = .ok (.if_icmp .ge 5, 3) := by decide +kernel
theorem dX3_firstFault_26 : decode cX3_firstFault 26 = .ok (.iload_n 3, 1) := by decide +kernel
theorem dX3_firstFault_27 : decode cX3_firstFault 27 = .ok (.ireturn, 1) := by decide +kernel
theorem dX3_firstFault_28 : decode cX3_firstFault 28 = .ok (.aload_n 0, 1) := by decide +kernel
theorem dX3_firstFault_29 : decode cX3_firstFault 29 = .ok (.getfield 9, 3) := by decide +kernel
theorem dX3_firstFault_32 : decode cX3_firstFault 32 = .ok (.iload_n 3, 1) := by decide +kernel
theorem dX3_firstFault_33 : decode cX3_firstFault 33 = .ok (.iaload, 1) := by decide +kernel
theorem dX3_firstFault_34 : decode cX3_firstFault 34 = .ok (.aload_n 0, 1) := by decide +kernel
theorem dX3_firstFault_35 : decode cX3_firstFault 35 = .ok (.getfield 9, 3) := by decide +kernel
theorem dX3_firstFault_38 : decode cX3_firstFault 38 = .ok (.iload_n 3, 1) := by decide +kernel
theorem dX3_firstFault_39 : decode cX3_firstFault 39 = .ok (.iload_n 2, 1) := by decide +kernel
theorem dX3_firstFault_40 : decode cX3_firstFault 40 = .ok (.isub, 1) := by decide +kernel
theorem dX3_firstFault_41 : decode cX3_firstFault 41 = .ok (.iaload, 1) := by decide +kernel
theorem dX3_firstFault_42 : decode cX3_firstFault 42 = .ok (.if_icmp .le 7, 3) := by decide +kernel
theorem dX3_firstFault_45 : decode cX3_firstFault 45 = .ok (.iload_n 3, 1) := by decide +kernel
theorem dX3_firstFault_46 : decode cX3_firstFault 46 = .ok (.iconst 1, 1) := by decide +kernel
theorem dX3_firstFault_47 : decode cX3_firstFault 47 = .ok (.iadd, 1) := by decide +kernel
theorem dX3_firstFault_48 : decode cX3_firstFault 48 = .ok (.istore_n 2, 1) := by decide +kernel
theorem dX3_firstFault_49 : decode cX3_firstFault 49 = .ok (.iinc 3 1, 3) := by decide +kernel
theorem dX3_firstFault_52 : decode cX3_firstFault 52 = .ok (.goto (-48), 3) := by decide +kernel
theorem dX3_firstFault_55 : decode cX3_firstFault 55 = .ok (.iload_n 1, 1) := by decide +kernel
theorem dX3_firstFault_56 : decode cX3_firstFault 56 = .ok (.ireturn, 1) := by decide +kernel
theorem dX3_wordsAboveRow_0 : decode cX3_wordsAboveRow 0 = .ok (.iconst 0, 1) := by decide +kernel
theorem dX3_wordsAboveRow_1 : decode cX3_wordsAboveRow 1 = .ok (.istore_n 2, 1) := by decide +kernel
theorem dX3_wordsAboveRow_2 : decode cX3_wordsAboveRow 2 = .ok (.aload_n 0, 1) := by decide +kernel
theorem dX3_wordsAboveRow_3 : decode cX3_wordsAboveRow 3 = .ok (.getfield 15, 3) := by decide +kernel
theorem dX3_wordsAboveRow_6 : decode cX3_wordsAboveRow 6 = .ok (.iconst 0, 1) := by decide +kernel
theorem dX3_wordsAboveRow_7 : decode cX3_wordsAboveRow 7 = .ok (.iconst 1, 1) := by decide +kernel
theorem dX3_wordsAboveRow_8 : decode cX3_wordsAboveRow 8 = .ok (.iastore, 1) := by decide +kernel
theorem dX3_wordsAboveRow_9 : decode cX3_wordsAboveRow 9 = .ok (.iconst 1, 1) := by decide +kernel
theorem dX3_wordsAboveRow_10 : decode cX3_wordsAboveRow 10 = .ok (.istore_n 3, 1) := by decide +kernel
theorem dX3_wordsAboveRow_11 : decode cX3_wordsAboveRow 11 = .ok (.iload_n 3, 1) := by decide +kernel
theorem dX3_wordsAboveRow_12 : decode cX3_wordsAboveRow 12 = .ok (.iload_n 1, 1) := by decide +kernel
theorem dX3_wordsAboveRow_13 : decode cX3_wordsAboveRow 13 = .ok (.if_icmp .gt 58, 3) := by decide +kernel
theorem dX3_wordsAboveRow_16 : decode cX3_wordsAboveRow 16 = .ok (.aload_n 0, 1) := by decide +kernel
theorem dX3_wordsAboveRow_17 : decode cX3_wordsAboveRow 17 = .ok (.getfield 15, 3) := by decide +kernel
theorem dX3_wordsAboveRow_20 : decode cX3_wordsAboveRow 20 = .ok (.iload_n 3, 1) := by decide +kernel
theorem dX3_wordsAboveRow_21 : decode cX3_wordsAboveRow 21 = .ok (.iconst 0, 1) := by decide +kernel
theorem dX3_wordsAboveRow_22 : decode cX3_wordsAboveRow 22 = .ok (.iastore, 1) := by decide +kernel
theorem dX3_wordsAboveRow_23 : decode cX3_wordsAboveRow 23 = .ok (.iconst 1, 1) := by decide +kernel
theorem dX3_wordsAboveRow_24 : decode cX3_wordsAboveRow 24 = .ok (.istore 4, 2) := by decide +kernel
theorem dX3_wordsAboveRow_26 : decode cX3_wordsAboveRow 26 = .ok (.iload 4, 2) := by decide +kernel
theorem dX3_wordsAboveRow_28 : decode cX3_wordsAboveRow 28 = .ok (.iload_n 3, 1) := by decide +kernel
theorem dX3_wordsAboveRow_29 : decode cX3_wordsAboveRow 29 = .ok (.if_icmp .gt 36, 3) := by decide +kernel
theorem dX3_wordsAboveRow_32 : decode cX3_wordsAboveRow 32 = .ok (.aload_n 0, 1) := by decide +kernel
theorem dX3_wordsAboveRow_33 : decode cX3_wordsAboveRow 33 = .ok (.getfield 15, 3) := by decide +kernel
theorem dX3_wordsAboveRow_36 : decode cX3_wordsAboveRow 36 = .ok (.iload_n 3, 1) := by decide +kernel
theorem dX3_wordsAboveRow_37 : decode cX3_wordsAboveRow 37 = .ok (.dup2, 1) := by decide +kernel
theorem dX3_wordsAboveRow_38 : decode cX3_wordsAboveRow 38 = .ok (.iaload, 1) := by decide +kernel
theorem dX3_wordsAboveRow_39 : decode cX3_wordsAboveRow 39 = .ok (.aload_n 0, 1) := by decide +kernel
theorem dX3_wordsAboveRow_40 : decode cX3_wordsAboveRow 40 = .ok (.iload 4, 2) := by decide +kernel
theorem dX3_wordsAboveRow_42 : decode cX3_wordsAboveRow 42 = .ok (.iconst 1, 1) := by decide +kernel
theorem dX3_wordsAboveRow_43 : decode cX3_wordsAboveRow 43 = .ok (.isub, 1) := by decide +kernel
theorem dX3_wordsAboveRow_44 : decode cX3_wordsAboveRow 44 = .ok (.invokevirtual 70, 3) := by decide +kernel
theorem dX3_wordsAboveRow_47 : decode cX3_wordsAboveRow 47 = .ok (.aload_n 0, 1) := by decide +kernel
theorem dX3_wordsAboveRow_48 : decode cX3_wordsAboveRow 48 = .ok (.getfield 15, 3) := by decide +kernel
theorem dX3_wordsAboveRow_51 : decode cX3_wordsAboveRow 51 = .ok (.iload_n 3, 1) := by decide +kernel
theorem dX3_wordsAboveRow_52 : decode cX3_wordsAboveRow 52 = .ok (.iload 4, 2) := by decide +kernel
theorem dX3_wordsAboveRow_54 : decode cX3_wordsAboveRow 54 = .ok (.isub, 1) := by decide +kernel
theorem dX3_wordsAboveRow_55 : decode cX3_wordsAboveRow 55 = .ok (.iaload, 1) := by decide +kernel
theorem dX3_wordsAboveRow_56 : decode cX3_wordsAboveRow 56 = .ok (.imul, 1) := by decide +kernel
theorem dX3_wordsAboveRow_57 : decode cX3_wordsAboveRow 57 = .ok (.iadd, 1) := by decide +kernel
theorem dX3_wordsAboveRow_58 : decode cX3_wordsAboveRow 58 = .ok (.iastore, 1) := by decide +kernel
theorem dX3_wordsAboveRow_59 : decode cX3_wordsAboveRow 59 = .ok (.iinc 4 1, 3) := by decide +kernel
theorem dX3_wordsAboveRow_62 : decode cX3_wordsAboveRow 62 = .ok (.goto (-36), 3) := by decide +kernel
theorem dX3_wordsAboveRow_65 : decode cX3_wordsAboveRow 65 = .ok (.iinc 3 1, 3) := by decide +kernel
theorem dX3_wordsAboveRow_68 : decode cX3_wordsAboveRow 68 = .ok (.goto (-57), 3) := by decide +kernel
theorem dX3_wordsAboveRow_71 : decode cX3_wordsAboveRow 71 = .ok (.iconst 1, 1) := by decide +kernel
theorem dX3_wordsAboveRow_72 : decode cX3_wordsAboveRow 72 = .ok (.istore_n 3, 1) := by decide +kernel
theorem dX3_wordsAboveRow_73 : decode cX3_wordsAboveRow 73 = .ok (.iload_n 3, 1) := by decide +kernel
theorem dX3_wordsAboveRow_74 : decode cX3_wordsAboveRow 74 = .ok (.iload_n 1, 1) := by decide +kernel
theorem dX3_wordsAboveRow_75 : decode cX3_wordsAboveRow 75 = .ok (.if_icmp .gt 30, 3) := by decide +kernel
theorem dX3_wordsAboveRow_78 : decode cX3_wordsAboveRow 78 = .ok (.iload_n 2, 1) := by decide +kernel
theorem dX3_wordsAboveRow_79 : decode cX3_wordsAboveRow 79 = .ok (.iload_n 3, 1) := by decide +kernel
theorem dX3_wordsAboveRow_80 : decode cX3_wordsAboveRow 80 = .ok (.aload_n 0, 1) := by decide +kernel
theorem dX3_wordsAboveRow_81 : decode cX3_wordsAboveRow 81 = .ok (.iload_n 3, 1) := by decide +kernel
theorem dX3_wordsAboveRow_82 : decode cX3_wordsAboveRow 82 = .ok (.iconst 1, 1) := by decide +kernel
theorem dX3_wordsAboveRow_83 : decode cX3_wordsAboveRow 83 = .ok (.isub, 1) := by decide +kernel
theorem dX3_wordsAboveRow_84 : decode cX3_wordsAboveRow 84 = .ok (.invokevirtual 70, 3) := by decide +kernel
theorem dX3_wordsAboveRow_87 : decode cX3_wordsAboveRow 87 = .ok (.imul, 1) := by decide +kernel
theorem dX3_wordsAboveRow_88 : decode cX3_wordsAboveRow 88 = .ok (.aload_n 0, 1) := by decide +kernel
theorem dX3_wordsAboveRow_89 : decode cX3_wordsAboveRow 89 = .ok (.getfield 15, 3) := by decide +kernel
theorem dX3_wordsAboveRow_92 : decode cX3_wordsAboveRow 92 = .ok (.iload_n 1, 1) := by decide +kernel
theorem dX3_wordsAboveRow_93 : decode cX3_wordsAboveRow 93 = .ok (.iload_n 3, 1) := by decide +kernel
theorem dX3_wordsAboveRow_94 : decode cX3_wordsAboveRow 94 = .ok (.isub, 1) := by decide +kernel
theorem dX3_wordsAboveRow_95 : decode cX3_wordsAboveRow 95 = .ok (.iaload, 1) := by decide +kernel
theorem dX3_wordsAboveRow_96 : decode cX3_wordsAboveRow 96 = .ok (.imul, 1) := by decide +kernel
theorem dX3_wordsAboveRow_97 : decode cX3_wordsAboveRow 97 = .ok (.iadd, 1) := by decide +kernel
theorem dX3_wordsAboveRow_98 : decode cX3_wordsAboveRow 98 = .ok (.istore_n 2, 1) := by decide +kernel
theorem dX3_wordsAboveRow_99 : decode cX3_wordsAboveRow 99 = .ok (.iinc 3 1, 3) := by decide +kernel
theorem dX3_wordsAboveRow_102 : decode cX3_wordsAboveRow 102 = .ok (.goto (-29), 3) := by decide +kernel
theorem dX3_wordsAboveRow_105 : decode cX3_wordsAboveRow 105 = .ok (.iload_n 2, 1) := by decide +kernel
theorem dX3_wordsAboveRow_106 : decode cX3_wordsAboveRow 106 = .ok (.ireturn, 1) := by decide +kernel
theorem dX3_greaterThan_0 : decode cX3_greaterThan 0 = .ok (.aload_n 0, 1) := by decide +kernel
theorem dX3_greaterThan_1 : decode cX3_greaterThan 1 = .ok (.getfield 21, 3) := by decide +kernel
theorem dX3_greaterThan_4 : decode cX3_greaterThan 4 = .ok (.getfield 51, 3) := by decide +kernel
theorem dX3_greaterThan_7 : decode cX3_greaterThan 7 = .ok (.iconst 1, 1) := by decide +kernel
theorem dX3_greaterThan_8 : decode cX3_greaterThan 8 = .ok (.isub, 1) := by decide +kernel
theorem dX3_greaterThan_9 : decode cX3_greaterThan 9 = .ok (.aload_n 0, 1) := by decide +kernel
theorem dX3_greaterThan_10 : decode cX3_greaterThan 10 = .ok (.getfield 9, 3) := by decide +kernel
theorem dX3_greaterThan_13 : decode cX3_greaterThan 13 = .ok (.iload_n 1, 1) := by decide +kernel
theorem dX3_greaterThan_14 : decode cX3_greaterThan 14 = .ok (.iaload, 1) := by decide +kernel
theorem dX3_greaterThan_15 : decode cX3_greaterThan 15 = .ok (.isub, 1) := by decide +kernel
theorem dX3_greaterThan_16 : decode cX3_greaterThan 16 = .ok (.ireturn, 1) := by decide +kernel
theorem dX3_takeAmounts_0 : decode cX3_takeAmounts 0 = .ok (.aload_n 0, 1) := by decide +kernel
theorem dX3_takeAmounts_1 : decode cX3_takeAmounts 1 = .ok (.getfield 18, 3) := by decide +kernel
theorem dX3_takeAmounts_4 : decode cX3_takeAmounts 4 = .ok (.iconst 0, 1) := by decide +kernel
theorem dX3_takeAmounts_5 : decode cX3_takeAmounts 5 = .ok (.iload_n 1, 1) := by decide +kernel
theorem dX3_takeAmounts_6 : decode cX3_takeAmounts 6 = .ok (.iastore, 1) := by decide +kernel
theorem dX3_takeAmounts_7 : decode cX3_takeAmounts 7 = .ok (.aload_n 0, 1) := by decide +kernel
theorem dX3_takeAmounts_8 : decode cX3_takeAmounts 8 = .ok (.getfield 18, 3) := by decide +kernel
theorem dX3_takeAmounts_11 : decode cX3_takeAmounts 11 = .ok (.iconst 1, 1) := by decide +kernel
theorem dX3_takeAmounts_12 : decode cX3_takeAmounts 12 = .ok (.iload_n 2, 1) := by decide +kernel
theorem dX3_takeAmounts_13 : decode cX3_takeAmounts 13 = .ok (.iastore, 1) := by decide +kernel
theorem dX3_takeAmounts_14 : decode cX3_takeAmounts 14 = .ok (.aload_n 0, 1) := by decide +kernel
theorem dX3_takeAmounts_15 : decode cX3_takeAmounts 15 = .ok (.getfield 18, 3) := by decide +kernel
theorem dX3_takeAmounts_18 : decode cX3_takeAmounts 18 = .ok (.iconst 2, 1) := by decide +kernel
theorem dX3_takeAmounts_19 : decode cX3_takeAmounts 19 = .ok (.iload_n 3, 1) := by decide +kernel
theorem dX3_takeAmounts_20 : decode cX3_takeAmounts 20 = .ok (.iastore, 1) := by decide +kernel
theorem dX3_takeAmounts_21 : decode cX3_takeAmounts 21 = .ok (.aload_n 0, 1) := by decide +kernel
theorem dX3_takeAmounts_22 : decode cX3_takeAmounts 22 = .ok (.getfield 18, 3) := by decide +kernel
theorem dX3_takeAmounts_25 : decode cX3_takeAmounts 25 = .ok (.iconst 3, 1) := by decide +kernel
theorem dX3_takeAmounts_26 : decode cX3_takeAmounts 26 = .ok (.iload 4, 2) := by decide +kernel
theorem dX3_takeAmounts_28 : decode cX3_takeAmounts 28 = .ok (.iastore, 1) := by decide +kernel
theorem dX3_takeAmounts_29 : decode cX3_takeAmounts 29 = .ok (.aload_n 0, 1) := by decide +kernel
theorem dX3_takeAmounts_30 : decode cX3_takeAmounts 30 = .ok (.getfield 18, 3) := by decide +kernel
theorem dX3_takeAmounts_33 : decode cX3_takeAmounts 33 = .ok (.iconst 4, 1) := by decide +kernel
theorem dX3_takeAmounts_34 : decode cX3_takeAmounts 34 = .ok (.iload 5, 2) := by decide +kernel
theorem dX3_takeAmounts_36 : decode cX3_takeAmounts 36 = .ok (.iastore, 1) := by decide +kernel
theorem dX3_takeAmounts_37 : decode cX3_takeAmounts 37 = .ok (.iconst 0, 1) := by decide +kernel
theorem dX3_takeAmounts_38 : decode cX3_takeAmounts 38 = .ok (.istore 6, 2) := by decide +kernel
theorem dX3_takeAmounts_40 : decode cX3_takeAmounts 40 = .ok (.iconst 0, 1) := by decide +kernel
theorem dX3_takeAmounts_41 : decode cX3_takeAmounts 41 = .ok (.istore 7, 2) := by decide +kernel
theorem dX3_takeAmounts_43 : decode cX3_takeAmounts 43 = .ok (.iload 7, 2) := by decide +kernel
theorem dX3_takeAmounts_45 : decode cX3_takeAmounts 45 = .ok (.iconst 5, 1) := by decide +kernel
theorem dX3_takeAmounts_46 : decode cX3_takeAmounts 46 = .ok (.if_icmp .ge 70, 3) := by decide +kernel
theorem dX3_takeAmounts_49 : decode cX3_takeAmounts 49 = .ok (.aload_n 0, 1) := by decide +kernel
theorem dX3_takeAmounts_50 : decode cX3_takeAmounts 50 = .ok (.getfield 21, 3) := by decide +kernel
theorem dX3_takeAmounts_53 : decode cX3_takeAmounts 53 = .ok (.iload 7, 2) := by decide +kernel
theorem dX3_takeAmounts_55 : decode cX3_takeAmounts 55 = .ok (.invokevirtual 73, 3) := by decide +kernel
theorem dX3_takeAmounts_58 : decode cX3_takeAmounts 58 = .ok (.ifCond .eq 13, 3) := by decide +kernel
theorem dX3_takeAmounts_61 : decode cX3_takeAmounts 61 = .ok (.aload_n 0, 1) := by decide +kernel
theorem dX3_takeAmounts_62 : decode cX3_takeAmounts 62 = .ok (.getfield 21, 3) := by decide +kernel
theorem dX3_takeAmounts_65 : decode cX3_takeAmounts 65 = .ok (.getfield 25, 3) := by decide +kernel
theorem dX3_takeAmounts_68 : decode cX3_takeAmounts 68 = .ok (.goto 4, 3) := by decide +kernel
theorem dX3_takeAmounts_71 : decode cX3_takeAmounts 71 = .ok (.iconst 0, 1) := by decide +kernel
theorem dX3_takeAmounts_72 : decode cX3_takeAmounts 72 = .ok (.istore 8, 2) := by decide +kernel
theorem dX3_takeAmounts_74 : decode cX3_takeAmounts 74 = .ok (.aload_n 0, 1) := by decide +kernel
theorem dX3_takeAmounts_75 : decode cX3_takeAmounts 75 = .ok (.getfield 18, 3) := by decide +kernel
theorem dX3_takeAmounts_78 : decode cX3_takeAmounts 78 = .ok (.iload 7, 2) := by decide +kernel
theorem dX3_takeAmounts_80 : decode cX3_takeAmounts 80 = .ok (.iaload, 1) := by decide +kernel
theorem dX3_takeAmounts_81 : decode cX3_takeAmounts 81 = .ok (.ifCond .lt 15, 3) := by decide +kernel
theorem dX3_takeAmounts_84 : decode cX3_takeAmounts 84 = .ok (.aload_n 0, 1) := by decide +kernel
theorem dX3_takeAmounts_85 : decode cX3_takeAmounts 85 = .ok (.getfield 18, 3) := by decide +kernel
theorem dX3_takeAmounts_88 : decode cX3_takeAmounts 88 = .ok (.iload 7, 2) := by decide +kernel
theorem dX3_takeAmounts_90 : decode cX3_takeAmounts 90 = .ok (.iaload, 1) := by decide +kernel
theorem dX3_takeAmounts_91 : decode cX3_takeAmounts 91 = .ok (.iload 8, 2) := by decide +kernel
theorem dX3_takeAmounts_93 : decode cX3_takeAmounts 93 = .ok (.if_icmp .le 5, 3) := by decide +kernel
theorem dX3_takeAmounts_96 : decode cX3_takeAmounts 96 = .ok (.iconst 0, 1) := by decide +kernel
theorem dX3_takeAmounts_97 : decode cX3_takeAmounts 97 = .ok (.ireturn, 1) := by decide +kernel
theorem dX3_takeAmounts_98 : decode cX3_takeAmounts 98 = .ok (.iload 6, 2) := by decide +kernel
theorem dX3_takeAmounts_100 : decode cX3_takeAmounts 100 = .ok (.aload_n 0, 1) := by decide +kernel
theorem dX3_takeAmounts_101 : decode cX3_takeAmounts 101 = .ok (.getfield 18, 3) := by decide +kernel
theorem dX3_takeAmounts_104 : decode cX3_takeAmounts 104 = .ok (.iload 7, 2) := by decide +kernel
theorem dX3_takeAmounts_106 : decode cX3_takeAmounts 106 = .ok (.iaload, 1) := by decide +kernel
theorem dX3_takeAmounts_107 : decode cX3_takeAmounts 107 = .ok (.iadd, 1) := by decide +kernel
theorem dX3_takeAmounts_108 : decode cX3_takeAmounts 108 = .ok (.istore 6, 2) := by decide +kernel
theorem dX3_takeAmounts_110 : decode cX3_takeAmounts 110 = .ok (.iinc 7 1, 3) := by decide +kernel
theorem dX3_takeAmounts_113 : decode cX3_takeAmounts 113 = .ok (.goto (-70), 3) := by decide +kernel
theorem dX3_takeAmounts_116 : decode cX3_takeAmounts 116 = .ok (.iload 6, 2) := by decide +kernel
theorem dX3_takeAmounts_118 : decode cX3_takeAmounts 118 = .ok (.aload_n 0, 1) := by decide +kernel
theorem dX3_takeAmounts_119 : decode cX3_takeAmounts 119 = .ok (.getfield 21, 3) := by decide +kernel
theorem dX3_takeAmounts_122 : decode cX3_takeAmounts 122 = .ok (.getfield 25, 3) := by decide +kernel
theorem dX3_takeAmounts_125 : decode cX3_takeAmounts 125 = .ok (.if_icmp .ne 7, 3) := by decide +kernel
theorem dX3_takeAmounts_128 : decode cX3_takeAmounts 128 = .ok (.iconst 1, 1) := by decide +kernel
theorem dX3_takeAmounts_129 : decode cX3_takeAmounts 129 = .ok (.goto 4, 3) := by decide +kernel
theorem dX3_takeAmounts_132 : decode cX3_takeAmounts 132 = .ok (.iconst 0, 1) := by decide +kernel
theorem dX3_takeAmounts_133 : decode cX3_takeAmounts 133 = .ok (.ireturn, 1) := by decide +kernel
theorem dX3_ringsOfAmounts_0 : decode cX3_ringsOfAmounts 0 = .ok (.lconst 0, 1) := by decide +kernel
theorem dX3_ringsOfAmounts_1 : decode cX3_ringsOfAmounts 1 = .ok (.lstore_n 1, 1) := by decide +kernel
theorem dX3_ringsOfAmounts_2 : decode cX3_ringsOfAmounts 2 = .ok (.iconst 1, 1) := by decide +kernel
theorem dX3_ringsOfAmounts_3 : decode cX3_ringsOfAmounts 3 = .ok (.istore_n 3, 1) := by decide +kernel
theorem dX3_ringsOfAmounts_4 : decode cX3_ringsOfAmounts 4 = .ok (.iload_n 3, 1) := by decide +kernel
theorem dX3_ringsOfAmounts_5 : decode cX3_ringsOfAmounts 5 = .ok (.aload_n 0, 1) := by decide +kernel
theorem dX3_ringsOfAmounts_6 : decode cX3_ringsOfAmounts 6 = .ok (.getfield 21, 3) := by decide +kernel
theorem dX3_ringsOfAmounts_9 : decode cX3_ringsOfAmounts 9 = .ok (.getfield 25, 3) := by decide +kernel
theorem dX3_ringsOfAmounts_12 : decode cX3_ringsOfAmounts 12 = .ok (.if_icmp .gt 32, 3) := by decide +kernel
theorem dX3_ringsOfAmounts_15 : decode cX3_ringsOfAmounts 15 = .ok (.aload_n 0, 1) := by decide +kernel
theorem dX3_ringsOfAmounts_16 : decode cX3_ringsOfAmounts 16 = .ok (.iload_n 3, 1) := by decide +kernel
theorem dX3_ringsOfAmounts_17 : decode cX3_ringsOfAmounts 17 = .ok (.invokevirtual 77, 3) := by decide +kernel
theorem dX3_ringsOfAmounts_20 : decode cX3_ringsOfAmounts 20 = .ok (.ifCond .eq 18, 3) := by decide +kernel
theorem dX3_ringsOfAmounts_23 : decode cX3_ringsOfAmounts 23 = .ok (.lload_n 1, 1) := by decide +kernel
theorem dX3_ringsOfAmounts_24 : decode cX3_ringsOfAmounts 24 = .ok (.getstatic 31, 3) := by decide +kernel
theorem dX3_ringsOfAmounts_27 : decode cX3_ringsOfAmounts 27 = .ok (.iload_n 3, 1) := by decide +kernel
theorem dX3_ringsOfAmounts_28 : decode cX3_ringsOfAmounts 28 = .ok (.iaload, 1) := by decide +kernel
theorem dX3_ringsOfAmounts_29 : decode cX3_ringsOfAmounts 29 = .ok (.i2l, 1) := by decide +kernel
theorem dX3_ringsOfAmounts_30 : decode cX3_ringsOfAmounts 30 = .ok (.aload_n 0, 1) := by decide +kernel
theorem dX3_ringsOfAmounts_31 : decode cX3_ringsOfAmounts 31 = .ok (.iload_n 3, 1) := by decide +kernel
theorem dX3_ringsOfAmounts_32 : decode cX3_ringsOfAmounts 32 = .ok (.invokevirtual 80, 3) := by decide +kernel
theorem dX3_ringsOfAmounts_35 : decode cX3_ringsOfAmounts 35 = .ok (.lmul, 1) := by decide +kernel
theorem dX3_ringsOfAmounts_36 : decode cX3_ringsOfAmounts 36 = .ok (.ladd, 1) := by decide +kernel
theorem dX3_ringsOfAmounts_37 : decode cX3_ringsOfAmounts 37 = .ok (.lstore_n 1, 1) := by decide +kernel
theorem dX3_ringsOfAmounts_38 : decode cX3_ringsOfAmounts 38 = .ok (.iinc 3 1, 3) := by decide +kernel
theorem dX3_ringsOfAmounts_41 : decode cX3_ringsOfAmounts 41 = .ok (.goto (-37), 3) := by decide +kernel
theorem dX3_ringsOfAmounts_44 : decode cX3_ringsOfAmounts 44 = .ok (.lload_n 1, 1) := by decide +kernel
theorem dX3_ringsOfAmounts_45 : decode cX3_ringsOfAmounts 45 = .ok (.aload_n 0, 1) := by decide +kernel
theorem dX3_ringsOfAmounts_46 : decode cX3_ringsOfAmounts 46 = .ok (.getfield 21, 3) := by decide +kernel
theorem dX3_ringsOfAmounts_49 : decode cX3_ringsOfAmounts 49 = .ok (.getfield 25, 3) := by decide +kernel
theorem dX3_ringsOfAmounts_52 : decode cX3_ringsOfAmounts 52 = .ok (.i2l, 1) := by decide +kernel
theorem dX3_ringsOfAmounts_53 : decode cX3_ringsOfAmounts 53 = .ok (.ldiv, 1) := by decide +kernel
theorem dX3_ringsOfAmounts_54 : decode cX3_ringsOfAmounts 54 = .ok (.l2i, 1) := by decide +kernel
theorem dX3_ringsOfAmounts_55 : decode cX3_ringsOfAmounts 55 = .ok (.ireturn, 1) := by decide +kernel
theorem dX3_allDivisible_0 : decode cX3_allDivisible 0 = .ok (.iconst 0, 1) := by decide +kernel
theorem dX3_allDivisible_1 : decode cX3_allDivisible 1 = .ok (.istore_n 2, 1) := by decide +kernel
theorem dX3_allDivisible_2 : decode cX3_allDivisible 2 = .ok (.iload_n 2, 1) := by decide +kernel
theorem dX3_allDivisible_3 : decode cX3_allDivisible 3 = .ok (.iconst 5, 1) := by decide +kernel
theorem dX3_allDivisible_4 : decode cX3_allDivisible 4 = .ok (.if_icmp .ge 22, 3) := by decide +kernel
theorem dX3_allDivisible_7 : decode cX3_allDivisible 7 = .ok (.aload_n 0, 1) := by decide +kernel
theorem dX3_allDivisible_8 : decode cX3_allDivisible 8 = .ok (.getfield 18, 3) := by decide +kernel
theorem dX3_allDivisible_11 : decode cX3_allDivisible 11 = .ok (.iload_n 2, 1) := by decide +kernel
theorem dX3_allDivisible_12 : decode cX3_allDivisible 12 = .ok (.iaload, 1) := by decide +kernel
theorem dX3_allDivisible_13 : decode cX3_allDivisible 13 = .ok (.iload_n 1, 1) := by decide +kernel
theorem dX3_allDivisible_14 : decode cX3_allDivisible 14 = .ok (.irem, 1) := by decide +kernel
theorem dX3_allDivisible_15 : decode cX3_allDivisible 15 = .ok (.ifCond .eq 5, 3) := by decide +kernel
theorem dX3_allDivisible_18 : decode cX3_allDivisible 18 = .ok (.iconst 0, 1) := by decide +kernel
theorem dX3_allDivisible_19 : decode cX3_allDivisible 19 = .ok (.ireturn, 1) := by decide +kernel
theorem dX3_allDivisible_20 : decode cX3_allDivisible 20 = .ok (.iinc 2 1, 3) := by decide +kernel
theorem dX3_allDivisible_23 : decode cX3_allDivisible 23 = .ok (.goto (-21), 3) := by decide +kernel
theorem dX3_allDivisible_26 : decode cX3_allDivisible 26 = .ok (.iconst 1, 1) := by decide +kernel
theorem dX3_allDivisible_27 : decode cX3_allDivisible 27 = .ok (.ireturn, 1) := by decide +kernel
theorem dX3_arrangements_0 : decode cX3_arrangements 0 = .ok (.lconst 1, 1) := by decide +kernel
theorem dX3_arrangements_1 : decode cX3_arrangements 1 = .ok (.lstore_n 2, 1) := by decide +kernel
theorem dX3_arrangements_2 : decode cX3_arrangements 2 = .ok (.iconst 0, 1) := by decide +kernel
theorem dX3_arrangements_3 : decode cX3_arrangements 3 = .ok (.istore 4, 2) := by decide +kernel
theorem dX3_arrangements_5 : decode cX3_arrangements 5 = .ok (.iconst 0, 1) := by decide +kernel
theorem dX3_arrangements_6 : decode cX3_arrangements 6 = .ok (.istore 5, 2) := by decide +kernel
theorem dX3_arrangements_8 : decode cX3_arrangements 8 = .ok (.iload 5, 2) := by decide +kernel
theorem dX3_arrangements_10 : decode cX3_arrangements 10 = .ok (.iconst 5, 1) := by decide +kernel
theorem dX3_arrangements_11 : decode cX3_arrangements 11 = .ok (.if_icmp .ge 45, 3) := by decide +kernel
theorem dX3_arrangements_14 : decode cX3_arrangements 14 = .ok (.iconst 1, 1) := by decide +kernel
theorem dX3_arrangements_15 : decode cX3_arrangements 15 = .ok (.istore 6, 2) := by decide +kernel
theorem dX3_arrangements_17 : decode cX3_arrangements 17 = .ok (.iload 6, 2) := by decide +kernel
theorem dX3_arrangements_19 : decode cX3_arrangements 19 = .ok (.aload_n 0, 1) := by decide +kernel
theorem dX3_arrangements_20 : decode cX3_arrangements 20 = .ok (.getfield 18, 3) := by decide +kernel
theorem dX3_arrangements_23 : decode cX3_arrangements 23 = .ok (.iload 5, 2) := by decide +kernel
theorem dX3_arrangements_25 : decode cX3_arrangements 25 = .ok (.iaload, 1) := by decide +kernel
theorem dX3_arrangements_26 : decode cX3_arrangements 26 = .ok (.iload_n 1, 1) := by decide +kernel
theorem dX3_arrangements_27 : decode cX3_arrangements 27 = .ok (.idiv, 1) := by decide +kernel
theorem dX3_arrangements_28 : decode cX3_arrangements 28 = .ok (.if_icmp .gt 22, 3) := by decide +kernel
theorem dX3_arrangements_31 : decode cX3_arrangements 31 = .ok (.iinc 4 1, 3) := by decide +kernel
theorem dX3_arrangements_34 : decode cX3_arrangements 34 = .ok (.lload_n 2, 1) := by decide +kernel
theorem dX3_arrangements_35 : decode cX3_arrangements 35 = .ok (.iload 4, 2) := by decide +kernel
theorem dX3_arrangements_37 : decode cX3_arrangements 37 = .ok (.i2l, 1) := by decide +kernel
theorem dX3_arrangements_38 : decode cX3_arrangements 38 = .ok (.lmul, 1) := by decide +kernel
theorem dX3_arrangements_39 : decode cX3_arrangements 39 = .ok (.iload 6, 2) := by decide +kernel
theorem dX3_arrangements_41 : decode cX3_arrangements 41 = .ok (.i2l, 1) := by decide +kernel
theorem dX3_arrangements_42 : decode cX3_arrangements 42 = .ok (.ldiv, 1) := by decide +kernel
theorem dX3_arrangements_43 : decode cX3_arrangements 43 = .ok (.lstore_n 2, 1) := by decide +kernel
theorem dX3_arrangements_44 : decode cX3_arrangements 44 = .ok (.iinc 6 1, 3) := by decide +kernel
theorem dX3_arrangements_47 : decode cX3_arrangements 47 = .ok (.goto (-30), 3) := by decide +kernel
theorem dX3_arrangements_50 : decode cX3_arrangements 50 = .ok (.iinc 5 1, 3) := by decide +kernel
theorem dX3_arrangements_53 : decode cX3_arrangements 53 = .ok (.goto (-45), 3) := by decide +kernel
theorem dX3_arrangements_56 : decode cX3_arrangements 56 = .ok (.lload_n 2, 1) := by decide +kernel
theorem dX3_arrangements_57 : decode cX3_arrangements 57 = .ok (.lreturn, 1) := by decide +kernel
theorem dX4_init_0 : decode cX4_init 0 = .ok (.aload_n 0, 1) := by decide +kernel
theorem dX4_init_1 : decode cX4_init 1 = .ok (.invokespecial 3, 3) := by decide +kernel
theorem dX4_init_4 : decode cX4_init 4 = .ok (.aload_n 0, 1) := by decide +kernel
theorem dX4_init_5 : decode cX4_init 5 = .ok (.sipush 20000, 3) := by decide +kernel
theorem dX4_init_8 : decode cX4_init 8 = .ok (.newarray .byte, 2) := by decide +kernel
theorem dX4_init_10 : decode cX4_init 10 = .ok (.putfield 9, 3) := by decide +kernel
theorem dX4_init_13 : decode cX4_init 13 = .ok (.aload_n 0, 1) := by decide +kernel
theorem dX4_init_14 : decode cX4_init 14 = .ok (.sipush 20000, 3) := by decide +kernel
theorem dX4_init_17 : decode cX4_init 17 = .ok (.newarray .int, 2) := by decide +kernel
theorem dX4_init_19 : decode cX4_init 19 = .ok (.putfield 15, 3) := by decide +kernel
theorem dX4_init_22 : decode cX4_init 22 = .ok (.aload_n 0, 1) := by decide +kernel
theorem dX4_init_23 : decode cX4_init 23 = .ok (.iconst (-1), 1) := by decide +kernel
theorem dX4_init_24 : decode cX4_init 24 = .ok (.putfield 19, 3) := by decide +kernel
theorem dX4_init_27 : decode cX4_init 27 = .ok (.aload_n 0, 1) := by decide +kernel
theorem dX4_init_28 : decode cX4_init 28 = .ok (.bipush 14, 2) := by decide +kernel
theorem dX4_init_30 : decode cX4_init 30 = .ok (.newarray .int, 2) := by decide +kernel
theorem dX4_init_32 : decode cX4_init 32 = .ok (.putfield 23, 3) := by decide +kernel
theorem dX4_init_35 : decode cX4_init 35 = .ok (.aload_n 0, 1) := by decide +kernel
theorem dX4_init_36 : decode cX4_init 36 = .ok (.iconst 5, 1) := by decide +kernel
theorem dX4_init_37 : decode cX4_init 37 = .ok (.newarray .long, 2) := by decide +kernel
theorem dX4_init_39 : decode cX4_init 39 = .ok (.putfield 26, 3) := by decide +kernel
theorem dX4_init_42 : decode cX4_init 42 = .ok (.aload_n 0, 1) := by decide +kernel
theorem dX4_init_43 : decode cX4_init 43 = .ok (.iconst 5, 1) := by decide +kernel
theorem dX4_init_44 : decode cX4_init 44 = .ok (.newarray .long, 2) := by decide +kernel
theorem dX4_init_46 : decode cX4_init 46 = .ok (.putfield 30, 3) := by decide +kernel
theorem dX4_init_49 : decode cX4_init 49 = .ok (.aload_n 0, 1) := by decide +kernel
theorem dX4_init_50 : decode cX4_init 50 = .ok (.iconst (-1), 1) := by decide +kernel
theorem dX4_init_51 : decode cX4_init 51 = .ok (.putfield 33, 3) := by decide +kernel
theorem dX4_init_54 : decode cX4_init 54 = .ok (.aload_n 0, 1) := by decide +kernel
theorem dX4_init_55 : decode cX4_init 55 = .ok (.aload_n 1, 1) := by decide +kernel
theorem dX4_init_56 : decode cX4_init 56 = .ok (.putfield 36, 3) := by decide +kernel
theorem dX4_init_59 : decode cX4_init 59 = .ok (.return_, 1) := by decide +kernel
theorem dX4_drop_0 : decode cX4_drop 0 = .ok (.aload_n 0, 1) := by decide +kernel
theorem dX4_drop_1 : decode cX4_drop 1 = .ok (.iconst (-1), 1) := by decide +kernel
theorem dX4_drop_2 : decode cX4_drop 2 = .ok (.putfield 19, 3) := by decide +kernel
theorem dX4_drop_5 : decode cX4_drop 5 = .ok (.return_, 1) := by decide +kernel
theorem dX4_isThere_0 : decode cX4_isThere 0 = .ok (.aload_n 0, 1) := by decide +kernel
theorem dX4_isThere_1 : decode cX4_isThere 1 = .ok (.getfield 19, 3) := by decide +kernel
theorem dX4_isThere_4 : decode cX4_isThere 4 = .ok (.iconst (-1), 1) := by decide +kernel
theorem dX4_isThere_5 : decode cX4_isThere 5 = .ok (.if_icmp .eq 7, 3) := by decide +kernel
theorem dX4_isThere_8 : decode cX4_isThere 8 = .ok (.iconst 1, 1) := by decide +kernel
theorem dX4_isThere_9 : decode cX4_isThere 9 = .ok (.goto 4, 3) := by decide +kernel
theorem dX4_isThere_12 : decode cX4_isThere 12 = .ok (.iconst 0, 1) := by decide +kernel
theorem dX4_isThere_13 : decode cX4_isThere 13 = .ok (.ireturn, 1) := by decide +kernel
theorem dX4_isPlace_0 : decode cX4_isPlace 0 = .ok (.aload_n 0, 1) := by decide +kernel
theorem dX4_isPlace_1 : decode cX4_isPlace 1 = .ok (.invokevirtual 40, 3) := by decide +kernel
theorem dX4_isPlace_4 : decode cX4_isPlace 4 = .ok (.ifCond .eq 18, 3) := by decide +kernel
theorem dX4_isPlace_7 : decode cX4_isPlace 7 = .ok (.aload_n 0, 1) := by decide +kernel
theorem dX4_isPlace_8 : decode cX4_isPlace 8 = .ok (.getfield 36, 3) := by decide +kernel
theorem dX4_isPlace_11 : decode cX4_isPlace 11 = .ok (.iload_n 1, 1) := by decide +kernel
theorem dX4_isPlace_12 : decode cX4_isPlace 12 = .ok (.invokevirtual 44, 3) := by decide +kernel
theorem dX4_isPlace_15 : decode cX4_isPlace 15 = .ok (.ifCond .eq 7, 3) := by decide +kernel
theorem dX4_isPlace_18 : decode cX4_isPlace 18 = .ok (.iconst 1, 1) := by decide +kernel
theorem dX4_isPlace_19 : decode cX4_isPlace 19 = .ok (.goto 4, 3) := by decide +kernel
theorem dX4_isPlace_22 : decode cX4_isPlace 22 = .ok (.iconst 0, 1) := by decide +kernel
theorem dX4_isPlace_23 : decode cX4_isPlace 23 = .ok (.ireturn, 1) := by decide +kernel
theorem dX4_becomeLeast_0 : decode cX4_becomeLeast 0 = .ok (.iconst 0, 1) := by decide +kernel
theorem dX4_becomeLeast_1 : decode cX4_becomeLeast 1 = .ok (.istore_n 1, 1) := by decide +kernel
theorem dX4_becomeLeast_2 : decode cX4_becomeLeast 2 = .ok (.iconst 1, 1) := by decide +kernel
theorem dX4_becomeLeast_3 : decode cX4_becomeLeast 3 = .ok (.istore_n 2, 1) := by decide +kernel
theorem dX4_becomeLeast_4 : decode cX4_becomeLeast 4 = .ok (.aload_n 0, 1) := by decide +kernel
theorem dX4_becomeLeast_5 : decode cX4_becomeLeast 5 = .ok (.getfield 23, 3) := by decide +kernel
theorem dX4_becomeLeast_8 : decode cX4_becomeLeast 8 = .ok (.iconst 0, 1) := by decide +kernel
theorem dX4_becomeLeast_9 : decode cX4_becomeLeast 9 = .ok (.iconst 0, 1) := by decide +kernel
theorem dX4_becomeLeast_10 : decode cX4_becomeLeast 10 = .ok (.iastore, 1) := by decide +kernel
theorem dX4_becomeLeast_11 : decode cX4_becomeLeast 11 = .ok (.iconst 0, 1) := by decide +kernel
theorem dX4_becomeLeast_12 : decode cX4_becomeLeast 12 = .ok (.istore_n 3, 1) := by decide +kernel
theorem dX4_becomeLeast_13 : decode cX4_becomeLeast 13 = .ok (.iload_n 3, 1) := by decide +kernel
theorem dX4_becomeLeast_14 : decode cX4_becomeLeast 14 = .ok (.ldc 50, 2) := by decide +kernel
theorem dX4_becomeLeast_16 : decode cX4_becomeLeast 16 = .ok (.if_icmp .ge 74, 3) := by decide +kernel
theorem dX4_becomeLeast_19 : decode cX4_becomeLeast 19 = .ok (.iload_n 2, 1) := by decide +kernel
theorem dX4_becomeLeast_20 : decode cX4_becomeLeast 20 = .ok (.ifCond .le 70, 3) := by decide +kernel
theorem dX4_becomeLeast_23 : decode cX4_becomeLeast 23 = .ok (.aload_n 0, 1) := by decide +kernel
theorem dX4_becomeLeast_24 : decode cX4_becomeLeast 24 = .ok (.getfield 36, 3) := by decide +kernel
theorem dX4_becomeLeast_27 : decode cX4_becomeLeast 27 = .ok (.getfield 51, 3) := by decide +kernel
theorem dX4_becomeLeast_30 : decode cX4_becomeLeast 30 = .ok (.iload_n 2, 1) := by decide +kernel
theorem dX4_becomeLeast_31 : decode cX4_becomeLeast 31 = .ok (.irem, 1) := by decide +kernel
theorem dX4_becomeLeast_32 : decode cX4_becomeLeast 32 = .ok (.ifCond .ne 46, 3) := by decide +kernel
theorem dX4_becomeLeast_35 : decode cX4_becomeLeast 35 = .ok (.iconst 0, 1) := by decide +kernel
theorem dX4_becomeLeast_36 : decode cX4_becomeLeast 36 = .ok (.istore 4, 2) := by decide +kernel
theorem dX4_becomeLeast_38 : decode cX4_becomeLeast 38 = .ok (.iload 4, 2) := by decide +kernel
theorem dX4_becomeLeast_40 : decode cX4_becomeLeast 40 = .ok (.iload_n 2, 1) := by decide +kernel
theorem dX4_becomeLeast_41 : decode cX4_becomeLeast 41 = .ok (.if_icmp .ge 37, 3) := by decide +kernel
theorem dX4_becomeLeast_44 : decode cX4_becomeLeast 44 = .ok (.iload_n 1, 1) := by decide +kernel
theorem dX4_becomeLeast_45 : decode cX4_becomeLeast 45 = .ok (.aload_n 0, 1) := by decide +kernel
theorem dX4_becomeLeast_46 : decode cX4_becomeLeast 46 = .ok (.getfield 36, 3) := by decide +kernel
theorem dX4_becomeLeast_49 : decode cX4_becomeLeast 49 = .ok (.getfield 54, 3) := by decide +kernel
theorem dX4_becomeLeast_52 : decode cX4_becomeLeast 52 = .ok (.if_icmp .ge 26, 3) := by decide +kernel
theorem dX4_becomeLeast_55 : decode cX4_becomeLeast 55 = .ok (.aload_n 0, 1) := by decide +kernel
theorem dX4_becomeLeast_56 : decode cX4_becomeLeast 56 = .ok (.getfield 9, 3) := by decide +kernel
theorem dX4_becomeLeast_59 : decode cX4_becomeLeast 59 = .ok (.iload_n 1, 1) := by decide +kernel
theorem dX4_becomeLeast_60 : decode cX4_becomeLeast 60 = .ok (.aload_n 0, 1) := by decide +kernel
theorem dX4_becomeLeast_61 : decode cX4_becomeLeast 61 = .ok (.getfield 23, 3) := by decide +kernel
theorem dX4_becomeLeast_64 : decode cX4_becomeLeast 64 = .ok (.iload 4, 2) := by decide +kernel
theorem dX4_becomeLeast_66 : decode cX4_becomeLeast 66 = .ok (.iaload, 1) := by decide +kernel
theorem dX4_becomeLeast_67 : decode cX4_becomeLeast 67 = .ok (.i2b, 1) := by decide +kernel
theorem dX4_becomeLeast_68 : decode cX4_becomeLeast 68 = .ok (.bastore, 1) := by decide +kernel
theorem dX4_becomeLeast_69 : decode cX4_becomeLeast 69 = .ok (.iinc 1 1, 3) := by decide +kernel
theorem dX4_becomeLeast_72 : decode cX4_becomeLeast 72 = .ok (.iinc 4 1, 3) := by decide +kernel
theorem dX4_becomeLeast_75 : decode cX4_becomeLeast 75 = .ok (.goto (-37), 3) := by decide +kernel
theorem dX4_becomeLeast_78 : decode cX4_becomeLeast 78 = .ok (.aload_n 0, 1) := by decide +kernel
theorem dX4_becomeLeast_79 : decode cX4_becomeLeast 79 = .ok (.iload_n 2, 1) := by decide +kernel
theorem dX4_becomeLeast_80 : decode cX4_becomeLeast 80 = .ok (.invokevirtual 57, 3) := by decide +kernel
theorem dX4_becomeLeast_83 : decode cX4_becomeLeast 83 = .ok (.istore_n 2, 1) := by decide +kernel
theorem dX4_becomeLeast_84 : decode cX4_becomeLeast 84 = .ok (.iinc 3 1, 3) := by decide +kernel
theorem dX4_becomeLeast_87 : decode cX4_becomeLeast 87 = .ok (.goto (-74), 3) := by decide +kernel
theorem dX4_becomeLeast_90 : decode cX4_becomeLeast 90 = .ok (.aload_n 0, 1) := by decide +kernel
theorem dX4_becomeLeast_91 : decode cX4_becomeLeast 91 = .ok (.iconst 0, 1) := by decide +kernel
theorem dX4_becomeLeast_92 : decode cX4_becomeLeast 92 = .ok (.putfield 19, 3) := by decide +kernel
theorem dX4_becomeLeast_95 : decode cX4_becomeLeast 95 = .ok (.aload_n 0, 1) := by decide +kernel
theorem dX4_becomeLeast_96 : decode cX4_becomeLeast 96 = .ok (.invokevirtual 61, 3) := by decide +kernel
theorem dX4_becomeLeast_99 : decode cX4_becomeLeast 99 = .ok (.return_, 1) := by decide +kernel
theorem dX4_nextRow_0 : decode cX4_nextRow 0 = .ok (.iload_n 1, 1) := by decide +kernel
theorem dX4_nextRow_1 : decode cX4_nextRow 1 = .ok (.istore_n 2, 1) := by decide +kernel
theorem dX4_nextRow_2 : decode cX4_nextRow 2 = .ok (.iload_n 2, 1) := by decide +kernel
theorem dX4_nextRow_3 : decode cX4_nextRow 3 = .ok (.aload_n 0, 1) := by decide +kernel
theorem dX4_nextRow_4 : decode cX4_nextRow 4 = .ok (.getfield 36, 3) := by decide +kernel
theorem dX4_nextRow_7 : decode cX4_nextRow 7 = .ok (.getfield 51, 3) := by decide +kernel
theorem dX4_nextRow_10 : decode cX4_nextRow 10 = .ok (.if_icmp .ge 23, 3) := by decide +kernel
theorem dX4_nextRow_13 : decode cX4_nextRow 13 = .ok (.aload_n 0, 1) := by decide +kernel
theorem dX4_nextRow_14 : decode cX4_nextRow 14 = .ok (.getfield 23, 3) := by decide +kernel
theorem dX4_nextRow_17 : decode cX4_nextRow 17 = .ok (.iload_n 2, 1) := by decide +kernel
theorem dX4_nextRow_18 : decode cX4_nextRow 18 = .ok (.aload_n 0, 1) := by decide +kernel
theorem dX4_nextRow_19 : decode cX4_nextRow 19 = .ok (.getfield 23, 3) := by decide +kernel
theorem dX4_nextRow_22 : decode cX4_nextRow 22 = .ok (.iload_n 2, 1) := by decide +kernel
theorem dX4_nextRow_23 : decode cX4_nextRow 23 = .ok (.iload_n 1, 1) := by decide +kernel
theorem dX4_nextRow_24 : decode cX4_nextRow 24 = .ok (.isub, 1) := by decide +kernel
theorem dX4_nextRow_25 : decode cX4_nextRow 25 = .ok (.iaload, 1) := by decide +kernel
theorem dX4_nextRow_26 : decode cX4_nextRow 26 = .ok (.iastore, 1) := by decide +kernel
theorem dX4_nextRow_27 : decode cX4_nextRow 27 = .ok (.iinc 2 1, 3) := by decide +kernel
theorem dX4_nextRow_30 : decode cX4_nextRow 30 = .ok (.goto (-28), 3) := by decide +kernel
theorem dX4_nextRow_33 : decode cX4_nextRow 33 = .ok (.aload_n 0, 1) := by decide +kernel
theorem dX4_nextRow_34 : decode cX4_nextRow 34 = .ok (.getfield 36, 3) := by decide +kernel
theorem dX4_nextRow_37 : decode cX4_nextRow 37 = .ok (.getfield 51, 3) := by decide +kernel
theorem dX4_nextRow_40 : decode cX4_nextRow 40 = .ok (.istore_n 2, 1) := by decide +kernel
theorem dX4_nextRow_41 : decode cX4_nextRow 41 = .ok (.iload_n 2, 1) := by decide +kernel
theorem dX4_nextRow_42 : decode cX4_nextRow 42 = .ok (.ifCond .le 29, 3) := by decide +kernel
theorem dX4_nextRow_45 : decode cX4_nextRow 45 = .ok (.aload_n 0, 1) := by decide +kernel
theorem dX4_nextRow_46 : decode cX4_nextRow 46 = .ok (.getfield 23, 3) := by decide +kernel
theorem dX4_nextRow_49 : decode cX4_nextRow 49 = .ok (.iload_n 2, 1) := by decide +kernel
theorem dX4_nextRow_50 : decode cX4_nextRow 50 = .ok (.iconst 1, 1) := by decide +kernel
theorem dX4_nextRow_51 : decode cX4_nextRow 51 = .ok (.isub, 1) := by decide +kernel
theorem dX4_nextRow_52 : decode cX4_nextRow 52 = .ok (.iaload, 1) := by decide +kernel
theorem dX4_nextRow_53 : decode cX4_nextRow 53 = .ok (.aload_n 0, 1) := by decide +kernel
theorem dX4_nextRow_54 : decode cX4_nextRow 54 = .ok (.getfield 36, 3) := by decide +kernel
theorem dX4_nextRow_57 : decode cX4_nextRow 57 = .ok (.getfield 64, 3) := by decide +kernel
theorem dX4_nextRow_60 : decode cX4_nextRow 60 = .ok (.iconst 1, 1) := by decide +kernel
theorem dX4_nextRow_61 : decode cX4_nextRow 61 = .ok (.isub, 1) := by decide +kernel
theorem dX4_nextRow_62 : decode cX4_nextRow 62 = .ok (.if_icmp .ne 9, 3) := by decide +kernel
theorem dX4_nextRow_65 : decode cX4_nextRow 65 = .ok (.iinc 2 (-1), 3) := by decide +kernel
theorem dX4_nextRow_68 : decode cX4_nextRow 68 = .ok (.goto (-27), 3) := by decide +kernel
theorem dX4_nextRow_71 : decode cX4_nextRow 71 = .ok (.iload_n 2, 1) := by decide +kernel
theorem dX4_nextRow_72 : decode cX4_nextRow 72 = .ok (.ifCond .le 15, 3) := by decide +kernel
theorem dX4_nextRow_75 : decode cX4_nextRow 75 = .ok (.aload_n 0, 1) := by decide +kernel
theorem dX4_nextRow_76 : decode cX4_nextRow 76 = .ok (.getfield 23, 3) := by decide +kernel
theorem dX4_nextRow_79 : decode cX4_nextRow 79 = .ok (.iload_n 2, 1) := by decide +kernel
theorem dX4_nextRow_80 : decode cX4_nextRow 80 = .ok (.iconst 1, 1) := by decide +kernel
theorem dX4_nextRow_81 : decode cX4_nextRow 81 = .ok (.isub, 1) := by decide +kernel
theorem dX4_nextRow_82 : decode cX4_nextRow 82 = .ok (.dup2, 1) := by decide +kernel
theorem dX4_nextRow_83 : decode cX4_nextRow 83 = .ok (.iaload, 1) := by decide +kernel
theorem dX4_nextRow_84 : decode cX4_nextRow 84 = .ok (.iconst 1, 1) := by decide +kernel
theorem dX4_nextRow_85 : decode cX4_nextRow 85 = .ok (.iadd, 1) := by decide +kernel
theorem dX4_nextRow_86 : decode cX4_nextRow 86 = .ok (.iastore, 1) := by decide +kernel
theorem dX4_nextRow_87 : decode cX4_nextRow 87 = .ok (.iload_n 2, 1) := by decide +kernel
theorem dX4_nextRow_88 : decode cX4_nextRow 88 = .ok (.ireturn, 1) := by decide +kernel
theorem dX4_findPlaces_0 : decode cX4_findPlaces 0 = .ok (.iconst 0, 1) := by decide +kernel
theorem dX4_findPlaces_1 : decode cX4_findPlaces 1 = .ok (.istore_n 1, 1) := by decide +kernel
theorem dX4_findPlaces_2 : decode cX4_findPlaces 2 = .ok (.aload_n 0, 1) := by decide +kernel
theorem dX4_findPlaces_3 : decode cX4_findPlaces 3 = .ok (.getfield 36, 3) := by decide +kernel
theorem dX4_findPlaces_6 : decode cX4_findPlaces 6 = .ok (.getfield 51, 3) := by decide +kernel
theorem dX4_findPlaces_9 : decode cX4_findPlaces 9 = .ok (.istore_n 2, 1) := by decide +kernel
theorem dX4_findPlaces_10 : decode cX4_findPlaces 10 = .ok (.iconst 0, 1) := by decide +kernel
theorem dX4_findPlaces_11 : decode cX4_findPlaces 11 = .ok (.istore_n 3, 1) := by decide +kernel
theorem dX4_findPlaces_12 : decode cX4_findPlaces 12 = .ok (.iload_n 3, 1) := by decide +kernel
theorem dX4_findPlaces_13 : decode cX4_findPlaces 13 = .ok (.aload_n 0, 1) := by decide +kernel
theorem dX4_findPlaces_14 : decode cX4_findPlaces 14 = .ok (.getfield 36, 3) := by decide +kernel
theorem dX4_findPlaces_17 : decode cX4_findPlaces 17 = .ok (.getfield 54, 3) := by decide +kernel
theorem dX4_findPlaces_20 : decode cX4_findPlaces 20 = .ok (.if_icmp .ge 62, 3) := by decide +kernel
theorem dX4_findPlaces_23 : decode cX4_findPlaces 23 = .ok (.aload_n 0, 1) := by decide +kernel
theorem dX4_findPlaces_24 : decode cX4_findPlaces 24 = .ok (.getfield 15, 3) := by decide +kernel
theorem dX4_findPlaces_27 : decode cX4_findPlaces 27 = .ok (.iload_n 1, 1) := by decide +kernel
theorem dX4_findPlaces_28 : decode cX4_findPlaces 28 = .ok (.iload_n 3, 1) := by decide +kernel
theorem dX4_findPlaces_29 : decode cX4_findPlaces 29 = .ok (.iastore, 1) := by decide +kernel
theorem dX4_findPlaces_30 : decode cX4_findPlaces 30 = .ok (.iload_n 1, 1) := by decide +kernel
theorem dX4_findPlaces_31 : decode cX4_findPlaces 31 = .ok (.aload_n 0, 1) := by decide +kernel
theorem dX4_findPlaces_32 : decode cX4_findPlaces 32 = .ok (.getfield 36, 3) := by decide +kernel
theorem dX4_findPlaces_35 : decode cX4_findPlaces 35 = .ok (.getfield 66, 3) := by decide +kernel
theorem dX4_findPlaces_38 : decode cX4_findPlaces 38 = .ok (.irem, 1) := by decide +kernel
theorem dX4_findPlaces_39 : decode cX4_findPlaces 39 = .ok (.aload_n 0, 1) := by decide +kernel
theorem dX4_findPlaces_40 : decode cX4_findPlaces 40 = .ok (.getfield 36, 3) := by decide +kernel
theorem dX4_findPlaces_43 : decode cX4_findPlaces 43 = .ok (.getfield 64, 3) := by decide +kernel
theorem dX4_findPlaces_46 : decode cX4_findPlaces 46 = .ok (.imul, 1) := by decide +kernel
theorem dX4_findPlaces_47 : decode cX4_findPlaces 47 = .ok (.aload_n 0, 1) := by decide +kernel
theorem dX4_findPlaces_48 : decode cX4_findPlaces 48 = .ok (.getfield 9, 3) := by decide +kernel
theorem dX4_findPlaces_51 : decode cX4_findPlaces 51 = .ok (.iload_n 2, 1) := by decide +kernel
theorem dX4_findPlaces_52 : decode cX4_findPlaces 52 = .ok (.baload, 1) := by decide +kernel
theorem dX4_findPlaces_53 : decode cX4_findPlaces 53 = .ok (.iadd, 1) := by decide +kernel
theorem dX4_findPlaces_54 : decode cX4_findPlaces 54 = .ok (.istore_n 1, 1) := by decide +kernel
theorem dX4_findPlaces_55 : decode cX4_findPlaces 55 = .ok (.iload_n 2, 1) := by decide +kernel
theorem dX4_findPlaces_56 : decode cX4_findPlaces 56 = .ok (.iconst 1, 1) := by decide +kernel
theorem dX4_findPlaces_57 : decode cX4_findPlaces 57 = .ok (.iadd, 1) := by decide +kernel
theorem dX4_findPlaces_58 : decode cX4_findPlaces 58 = .ok (.aload_n 0, 1) := by decide +kernel
theorem dX4_findPlaces_59 : decode cX4_findPlaces 59 = .ok (.getfield 36, 3) := by decide +kernel
theorem dX4_findPlaces_62 : decode cX4_findPlaces 62 = .ok (.getfield 54, 3) := by decide +kernel
theorem dX4_findPlaces_65 : decode cX4_findPlaces 65 = .ok (.if_icmp .ge 9, 3) := by decide +kernel
theorem dX4_findPlaces_68 : decode cX4_findPlaces 68 = .ok (.iload_n 2, 1) := by decide +kernel
theorem dX4_findPlaces_69 : decode cX4_findPlaces 69 = .ok (.iconst 1, 1) := by decide +kernel
theorem dX4_findPlaces_70 : decode cX4_findPlaces 70 = .ok (.iadd, 1) := by decide +kernel
theorem dX4_findPlaces_71 : decode cX4_findPlaces 71 = .ok (.goto 4, 3) := by decide +kernel
theorem dX4_findPlaces_74 : decode cX4_findPlaces 74 = .ok (.iconst 0, 1) := by decide +kernel
theorem dX4_findPlaces_75 : decode cX4_findPlaces 75 = .ok (.istore_n 2, 1) := by decide +kernel
theorem dX4_findPlaces_76 : decode cX4_findPlaces 76 = .ok (.iinc 3 1, 3) := by decide +kernel
theorem dX4_findPlaces_79 : decode cX4_findPlaces 79 = .ok (.goto (-67), 3) := by decide +kernel
theorem dX4_findPlaces_82 : decode cX4_findPlaces 82 = .ok (.return_, 1) := by decide +kernel
theorem dX4_becomeGreedy_0 : decode cX4_becomeGreedy 0 = .ok (.aload_n 0, 1) := by decide +kernel
theorem dX4_becomeGreedy_1 : decode cX4_becomeGreedy 1 = .ok (.getfield 15, 3) := by decide +kernel
theorem dX4_becomeGreedy_4 : decode cX4_becomeGreedy 4 = .ok (.iconst 0, 1) := by decide +kernel
theorem dX4_becomeGreedy_5 : decode cX4_becomeGreedy 5 = .ok (.aload_n 0, 1) := by decide +kernel
theorem dX4_becomeGreedy_6 : decode cX4_becomeGreedy 6 = .ok (.getfield 36, 3) := by decide +kernel
theorem dX4_becomeGreedy_9 : decode cX4_becomeGreedy 9 = .ok (.getfield 54, 3) := by decide +kernel
theorem dX4_becomeGreedy_12 : decode cX4_becomeGreedy 12 = .ok (.iconst (-1), 1) := by decide +kernel
theorem dX4_becomeGreedy_13 : decode cX4_becomeGreedy 13 = .ok (.invokestatic 69, 3) := by decide +kernel
theorem dX4_becomeGreedy_16 : decode cX4_becomeGreedy 16 = .ok (.aload_n 0, 1) := by decide +kernel
theorem dX4_becomeGreedy_17 : decode cX4_becomeGreedy 17 = .ok (.getfield 9, 3) := by decide +kernel
theorem dX4_becomeGreedy_20 : decode cX4_becomeGreedy 20 = .ok (.iconst 0, 1) := by decide +kernel
theorem dX4_becomeGreedy_21 : decode cX4_becomeGreedy 21 = .ok (.aload_n 0, 1) := by decide +kernel
theorem dX4_becomeGreedy_22 : decode cX4_becomeGreedy 22 = .ok (.getfield 36, 3) := by decide +kernel
theorem dX4_becomeGreedy_25 : decode cX4_becomeGreedy 25 = .ok (.getfield 51, 3) := by decide +kernel
theorem dX4_becomeGreedy_28 : decode cX4_becomeGreedy 28 = .ok (.iconst 0, 1) := by decide +kernel
theorem dX4_becomeGreedy_29 : decode cX4_becomeGreedy 29 = .ok (.invokestatic 75, 3) := by decide +kernel
theorem dX4_becomeGreedy_32 : decode cX4_becomeGreedy 32 = .ok (.aload_n 0, 1) := by decide +kernel
theorem dX4_becomeGreedy_33 : decode cX4_becomeGreedy 33 = .ok (.getfield 15, 3) := by decide +kernel
theorem dX4_becomeGreedy_36 : decode cX4_becomeGreedy 36 = .ok (.iconst 0, 1) := by decide +kernel
theorem dX4_becomeGreedy_37 : decode cX4_becomeGreedy 37 = .ok (.iconst 0, 1) := by decide +kernel
theorem dX4_becomeGreedy_38 : decode cX4_becomeGreedy 38 = .ok (.iastore, 1) := by decide +kernel
theorem dX4_becomeGreedy_39 : decode cX4_becomeGreedy 39 = .ok (.iconst 0, 1) := by decide +kernel
theorem dX4_becomeGreedy_40 : decode cX4_becomeGreedy 40 = .ok (.istore_n 1, 1) := by decide +kernel
theorem dX4_becomeGreedy_41 : decode cX4_becomeGreedy 41 = .ok (.iconst 1, 1) := by decide +kernel
theorem dX4_becomeGreedy_42 : decode cX4_becomeGreedy 42 = .ok (.istore_n 2, 1) := by decide +kernel
theorem dX4_becomeGreedy_43 : decode cX4_becomeGreedy 43 = .ok (.iload_n 2, 1) := by decide +kernel
theorem dX4_becomeGreedy_44 : decode cX4_becomeGreedy 44 = .ok (.aload_n 0, 1) := by decide +kernel
theorem dX4_becomeGreedy_45 : decode cX4_becomeGreedy 45 = .ok (.getfield 36, 3) := by decide +kernel
theorem dX4_becomeGreedy_48 : decode cX4_becomeGreedy 48 = .ok (.getfield 54, 3) := by decide +kernel
theorem dX4_becomeGreedy_51 : decode cX4_becomeGreedy 51 = .ok (.if_icmp .ge 77, 3) := by decide +kernel
theorem dX4_becomeGreedy_54 : decode cX4_becomeGreedy 54 = .ok (.aload_n 0, 1) := by decide +kernel
theorem dX4_becomeGreedy_55 : decode cX4_becomeGreedy 55 = .ok (.iload_n 1, 1) := by decide +kernel
theorem dX4_becomeGreedy_56 : decode cX4_becomeGreedy 56 = .ok (.aload_n 0, 1) := by decide +kernel
theorem dX4_becomeGreedy_57 : decode cX4_becomeGreedy 57 = .ok (.getfield 36, 3) := by decide +kernel
theorem dX4_becomeGreedy_60 : decode cX4_becomeGreedy 60 = .ok (.getfield 66, 3) := by decide +kernel
theorem dX4_becomeGreedy_63 : decode cX4_becomeGreedy 63 = .ok (.irem, 1) := by decide +kernel
theorem dX4_becomeGreedy_64 : decode cX4_becomeGreedy 64 = .ok (.aload_n 0, 1) := by decide +kernel
theorem dX4_becomeGreedy_65 : decode cX4_becomeGreedy 65 = .ok (.getfield 36, 3) := by decide +kernel
theorem dX4_becomeGreedy_68 : decode cX4_becomeGreedy 68 = .ok (.getfield 64, 3) := by decide +kernel
theorem dX4_becomeGreedy_71 : decode cX4_becomeGreedy 71 = .ok (.imul, 1) := by decide +kernel
theorem dX4_becomeGreedy_72 : decode cX4_becomeGreedy 72 = .ok (.invokevirtual 78, 3) := by decide +kernel
theorem dX4_becomeGreedy_75 : decode cX4_becomeGreedy 75 = .ok (.istore_n 1, 1) := by decide +kernel
theorem dX4_becomeGreedy_76 : decode cX4_becomeGreedy 76 = .ok (.aload_n 0, 1) := by decide +kernel
theorem dX4_becomeGreedy_77 : decode cX4_becomeGreedy 77 = .ok (.getfield 15, 3) := by decide +kernel
theorem dX4_becomeGreedy_80 : decode cX4_becomeGreedy 80 = .ok (.iload_n 1, 1) := by decide +kernel
theorem dX4_becomeGreedy_81 : decode cX4_becomeGreedy 81 = .ok (.iload_n 2, 1) := by decide +kernel
theorem dX4_becomeGreedy_82 : decode cX4_becomeGreedy 82 = .ok (.iastore, 1) := by decide +kernel
theorem dX4_becomeGreedy_83 : decode cX4_becomeGreedy 83 = .ok (.iload_n 2, 1) := by decide +kernel
theorem dX4_becomeGreedy_84 : decode cX4_becomeGreedy 84 = .ok (.aload_n 0, 1) := by decide +kernel
theorem dX4_becomeGreedy_85 : decode cX4_becomeGreedy 85 = .ok (.getfield 36, 3) := by decide +kernel
theorem dX4_becomeGreedy_88 : decode cX4_becomeGreedy 88 = .ok (.getfield 51, 3) := by decide +kernel
theorem dX4_becomeGreedy_91 : decode cX4_becomeGreedy 91 = .ok (.iadd, 1) := by decide +kernel
theorem dX4_becomeGreedy_92 : decode cX4_becomeGreedy 92 = .ok (.iconst 1, 1) := by decide +kernel
theorem dX4_becomeGreedy_93 : decode cX4_becomeGreedy 93 = .ok (.isub, 1) := by decide +kernel
theorem dX4_becomeGreedy_94 : decode cX4_becomeGreedy 94 = .ok (.istore_n 3, 1) := by decide +kernel
theorem dX4_becomeGreedy_95 : decode cX4_becomeGreedy 95 = .ok (.iload_n 3, 1) := by decide +kernel
theorem dX4_becomeGreedy_96 : decode cX4_becomeGreedy 96 = .ok (.aload_n 0, 1) := by decide +kernel
theorem dX4_becomeGreedy_97 : decode cX4_becomeGreedy 97 = .ok (.getfield 36, 3) := by decide +kernel
theorem dX4_becomeGreedy_100 : decode cX4_becomeGreedy 100 = .ok (.getfield 54, 3) := by decide +kernel
theorem dX4_becomeGreedy_103 : decode cX4_becomeGreedy 103 = .ok (.if_icmp .ge 19, 3) := by decide +kernel
theorem dX4_becomeGreedy_106 : decode cX4_becomeGreedy 106 = .ok (.aload_n 0, 1) := by decide +kernel
theorem dX4_becomeGreedy_107 : decode cX4_becomeGreedy 107 = .ok (.getfield 9, 3) := by decide +kernel
theorem dX4_becomeGreedy_110 : decode cX4_becomeGreedy 110 = .ok (.iload_n 3, 1) := by decide +kernel
theorem dX4_becomeGreedy_111 : decode cX4_becomeGreedy 111 = .ok (.iload_n 1, 1) := by decide +kernel
theorem dX4_becomeGreedy_112 : decode cX4_becomeGreedy 112 = .ok (.aload_n 0, 1) := by decide +kernel
theorem dX4_becomeGreedy_113 : decode cX4_becomeGreedy 113 = .ok (.getfield 36, 3) := by decide +kernel
theorem dX4_becomeGreedy_116 : decode cX4_becomeGreedy 116 = .ok (.getfield 64, 3) := by decide +kernel
theorem dX4_becomeGreedy_119 : decode cX4_becomeGreedy 119 = .ok (.irem, 1) := by decide +kernel
theorem dX4_becomeGreedy_120 : decode cX4_becomeGreedy 120 = .ok (.i2b, 1) := by decide +kernel
theorem dX4_becomeGreedy_121 : decode cX4_becomeGreedy 121 = .ok (.bastore, 1) := by decide +kernel
theorem dX4_becomeGreedy_122 : decode cX4_becomeGreedy 122 = .ok (.iinc 2 1, 3) := by decide +kernel
theorem dX4_becomeGreedy_125 : decode cX4_becomeGreedy 125 = .ok (.goto (-82), 3) := by decide +kernel
theorem dX4_becomeGreedy_128 : decode cX4_becomeGreedy 128 = .ok (.aload_n 0, 1) := by decide +kernel
theorem dX4_becomeGreedy_129 : decode cX4_becomeGreedy 129 = .ok (.iconst 1, 1) := by decide +kernel
theorem dX4_becomeGreedy_130 : decode cX4_becomeGreedy 130 = .ok (.putfield 19, 3) := by decide +kernel
theorem dX4_becomeGreedy_133 : decode cX4_becomeGreedy 133 = .ok (.return_, 1) := by decide +kernel
theorem dX4_greatestNew_0 : decode cX4_greatestNew 0 = .ok (.iload_n 1, 1) := by decide +kernel
theorem dX4_greatestNew_1 : decode cX4_greatestNew 1 = .ok (.aload_n 0, 1) := by decide +kernel
theorem dX4_greatestNew_2 : decode cX4_greatestNew 2 = .ok (.getfield 36, 3) := by decide +kernel
theorem dX4_greatestNew_5 : decode cX4_greatestNew 5 = .ok (.getfield 64, 3) := by decide +kernel
theorem dX4_greatestNew_8 : decode cX4_greatestNew 8 = .ok (.iadd, 1) := by decide +kernel
theorem dX4_greatestNew_9 : decode cX4_greatestNew 9 = .ok (.iconst 1, 1) := by decide +kernel
theorem dX4_greatestNew_10 : decode cX4_greatestNew 10 = .ok (.isub, 1) := by decide +kernel
theorem dX4_greatestNew_11 : decode cX4_greatestNew 11 = .ok (.istore_n 2, 1) := by decide +kernel
theorem dX4_greatestNew_12 : decode cX4_greatestNew 12 = .ok (.iload_n 2, 1) := by decide +kernel
theorem dX4_greatestNew_13 : decode cX4_greatestNew 13 = .ok (.iload_n 1, 1) := by decide +kernel
theorem dX4_greatestNew_14 : decode cX4_greatestNew 14 = .ok (.if_icmp .le 19, 3) := by decide +kernel
theorem dX4_greatestNew_17 : decode cX4_greatestNew 17 = .ok (.aload_n 0, 1) := by decide +kernel
theorem dX4_greatestNew_18 : decode cX4_greatestNew 18 = .ok (.getfield 15, 3) := by decide +kernel
theorem dX4_greatestNew_21 : decode cX4_greatestNew 21 = .ok (.iload_n 2, 1) := by decide +kernel
theorem dX4_greatestNew_22 : decode cX4_greatestNew 22 = .ok (.iaload, 1) := by decide +kernel
theorem dX4_greatestNew_23 : decode cX4_greatestNew 23 = .ok (.iconst (-1), 1) := by decide +kernel
theorem dX4_greatestNew_24 : decode cX4_greatestNew 24 = .ok (.if_icmp .eq 9, 3) := by decide +kernel
theorem dX4_greatestNew_27 : decode cX4_greatestNew 27 = .ok (.iinc 2 (-1), 3) := by decide +kernel
theorem dX4_greatestNew_30 : decode cX4_greatestNew 30 = .ok (.goto (-18), 3) := by decide +kernel
theorem dX4_greatestNew_33 : decode cX4_greatestNew 33 = .ok (.iload_n 2, 1) := by decide +kernel
theorem dX4_greatestNew_34 : decode cX4_greatestNew 34 = .ok (.ireturn, 1) := by decide +kernel
theorem dX4_becomeCycle_0 : decode cX4_becomeCycle 0 = .ok (.iconst 0, 1) := by decide +kernel
theorem dX4_becomeCycle_1 : decode cX4_becomeCycle 1 = .ok (.istore_n 2, 1) := by decide +kernel
theorem dX4_becomeCycle_2 : decode cX4_becomeCycle 2 = .ok (.iconst 0, 1) := by decide +kernel
theorem dX4_becomeCycle_3 : decode cX4_becomeCycle 3 = .ok (.istore_n 3, 1) := by decide +kernel
theorem dX4_becomeCycle_4 : decode cX4_becomeCycle 4 = .ok (.iload_n 3, 1) := by decide +kernel
theorem dX4_becomeCycle_5 : decode cX4_becomeCycle 5 = .ok (.aload_n 0, 1) := by decide +kernel
theorem dX4_becomeCycle_6 : decode cX4_becomeCycle 6 = .ok (.getfield 36, 3) := by decide +kernel
theorem dX4_becomeCycle_9 : decode cX4_becomeCycle 9 = .ok (.getfield 54, 3) := by decide +kernel
theorem dX4_becomeCycle_12 : decode cX4_becomeCycle 12 = .ok (.if_icmp .ge 36, 3) := by decide +kernel
theorem dX4_becomeCycle_15 : decode cX4_becomeCycle 15 = .ok (.aload_n 0, 1) := by decide +kernel
theorem dX4_becomeCycle_16 : decode cX4_becomeCycle 16 = .ok (.getfield 9, 3) := by decide +kernel
theorem dX4_becomeCycle_19 : decode cX4_becomeCycle 19 = .ok (.iload_n 3, 1) := by decide +kernel
theorem dX4_becomeCycle_20 : decode cX4_becomeCycle 20 = .ok (.iload_n 2, 1) := by decide +kernel
theorem dX4_becomeCycle_21 : decode cX4_becomeCycle 21 = .ok (.aload_n 0, 1) := by decide +kernel
theorem dX4_becomeCycle_22 : decode cX4_becomeCycle 22 = .ok (.getfield 36, 3) := by decide +kernel
theorem dX4_becomeCycle_25 : decode cX4_becomeCycle 25 = .ok (.getfield 66, 3) := by decide +kernel
theorem dX4_becomeCycle_28 : decode cX4_becomeCycle 28 = .ok (.idiv, 1) := by decide +kernel
theorem dX4_becomeCycle_29 : decode cX4_becomeCycle 29 = .ok (.i2b, 1) := by decide +kernel
theorem dX4_becomeCycle_30 : decode cX4_becomeCycle 30 = .ok (.bastore, 1) := by decide +kernel
theorem dX4_becomeCycle_31 : decode cX4_becomeCycle 31 = .ok (.aload_n 0, 1) := by decide +kernel
theorem dX4_becomeCycle_32 : decode cX4_becomeCycle 32 = .ok (.getfield 15, 3) := by decide +kernel
theorem dX4_becomeCycle_35 : decode cX4_becomeCycle 35 = .ok (.iload_n 2, 1) := by decide +kernel
theorem dX4_becomeCycle_36 : decode cX4_becomeCycle 36 = .ok (.iload_n 3, 1) := by decide +kernel
theorem dX4_becomeCycle_37 : decode cX4_becomeCycle 37 = .ok (.iastore, 1) := by decide +kernel
theorem dX4_becomeCycle_38 : decode cX4_becomeCycle 38 = .ok (.aload_n 1, 1) := by decide +kernel
theorem dX4_becomeCycle_39 : decode cX4_becomeCycle 39 = .ok (.iload_n 2, 1) := by decide +kernel
theorem dX4_becomeCycle_40 : decode cX4_becomeCycle 40 = .ok (.iaload, 1) := by decide +kernel
theorem dX4_becomeCycle_41 : decode cX4_becomeCycle 41 = .ok (.istore_n 2, 1) := by decide +kernel
theorem dX4_becomeCycle_42 : decode cX4_becomeCycle 42 = .ok (.iinc 3 1, 3) := by decide +kernel
theorem dX4_becomeCycle_45 : decode cX4_becomeCycle 45 = .ok (.goto (-41), 3) := by decide +kernel
theorem dX4_becomeCycle_48 : decode cX4_becomeCycle 48 = .ok (.aload_n 0, 1) := by decide +kernel
theorem dX4_becomeCycle_49 : decode cX4_becomeCycle 49 = .ok (.iconst 2, 1) := by decide +kernel
theorem dX4_becomeCycle_50 : decode cX4_becomeCycle 50 = .ok (.putfield 19, 3) := by decide +kernel
theorem dX4_becomeCycle_53 : decode cX4_becomeCycle 53 = .ok (.return_, 1) := by decide +kernel
theorem dX4_writeLetters_0 : decode cX4_writeLetters 0 = .ok (.iload_n 1, 1) := by decide +kernel
theorem dX4_writeLetters_1 : decode cX4_writeLetters 1 = .ok (.istore 5, 2) := by decide +kernel
theorem dX4_writeLetters_3 : decode cX4_writeLetters 3 = .ok (.iconst 0, 1) := by decide +kernel
theorem dX4_writeLetters_4 : decode cX4_writeLetters 4 = .ok (.istore 6, 2) := by decide +kernel
theorem dX4_writeLetters_6 : decode cX4_writeLetters 6 = .ok (.iload 6, 2) := by decide +kernel
theorem dX4_writeLetters_8 : decode cX4_writeLetters 8 = .ok (.iload_n 2, 1) := by decide +kernel
theorem dX4_writeLetters_9 : decode cX4_writeLetters 9 = .ok (.if_icmp .ge 47, 3) := by decide +kernel
theorem dX4_writeLetters_12 : decode cX4_writeLetters 12 = .ok (.aload_n 3, 1) := by decide +kernel
theorem dX4_writeLetters_13 : decode cX4_writeLetters 13 = .ok (.iload 4, 2) := by decide +kernel
theorem dX4_writeLetters_15 : decode cX4_writeLetters 15 = .ok (.iload 6, 2) := by decide +kernel
theorem dX4_writeLetters_17 : decode cX4_writeLetters 17 = .ok (.iadd, 1) := by decide +kernel
theorem dX4_writeLetters_18 : decode cX4_writeLetters 18 = .ok (.aload_n 0, 1) := by decide +kernel
theorem dX4_writeLetters_19 : decode cX4_writeLetters 19 = .ok (.getfield 9, 3) := by decide +kernel
theorem dX4_writeLetters_22 : decode cX4_writeLetters 22 = .ok (.iload 5, 2) := by decide +kernel
theorem dX4_writeLetters_24 : decode cX4_writeLetters 24 = .ok (.baload, 1) := by decide +kernel
theorem dX4_writeLetters_25 : decode cX4_writeLetters 25 = .ok (.iastore, 1) := by decide +kernel
theorem dX4_writeLetters_26 : decode cX4_writeLetters 26 = .ok (.iload 5, 2) := by decide +kernel
theorem dX4_writeLetters_28 : decode cX4_writeLetters 28 = .ok (.iconst 1, 1) := by decide +kernel
theorem dX4_writeLetters_29 : decode cX4_writeLetters 29 = .ok (.iadd, 1) := by decide +kernel
theorem dX4_writeLetters_30 : decode cX4_writeLetters 30 = .ok (.aload_n 0, 1) := by decide +kernel
theorem dX4_writeLetters_31 : decode cX4_writeLetters 31 = .ok (.getfield 36, 3) := by decide +kernel
theorem dX4_writeLetters_34 : decode cX4_writeLetters 34 = .ok (.getfield 54, 3) := by decide +kernel
theorem dX4_writeLetters_37 : decode cX4_writeLetters 37 = .ok (.if_icmp .ge 10, 3) := by decide +kernel
theorem dX4_writeLetters_40 : decode cX4_writeLetters 40 = .ok (.iload 5, 2) := by decide +kernel
theorem dX4_writeLetters_42 : decode cX4_writeLetters 42 = .ok (.iconst 1, 1) := by decide +kernel
theorem dX4_writeLetters_43 : decode cX4_writeLetters 43 = .ok (.iadd, 1) := by decide +kernel
theorem dX4_writeLetters_44 : decode cX4_writeLetters 44 = .ok (.goto 4, 3) := by decide +kernel
theorem dX4_writeLetters_47 : decode cX4_writeLetters 47 = .ok (.iconst 0, 1) := by decide +kernel
theorem dX4_writeLetters_48 : decode cX4_writeLetters 48 = .ok (.istore 5, 2) := by decide +kernel
theorem dX4_writeLetters_50 : decode cX4_writeLetters 50 = .ok (.iinc 6 1, 3) := by decide +kernel
theorem dX4_writeLetters_53 : decode cX4_writeLetters 53 = .ok (.goto (-47), 3) := by decide +kernel
theorem dX4_writeLetters_56 : decode cX4_writeLetters 56 = .ok (.return_, 1) := by decide +kernel
theorem dX4_countMatches_0 : decode cX4_countMatches 0 = .ok (.aload_n 0, 1) := by decide +kernel
theorem dX4_countMatches_1 : decode cX4_countMatches 1 = .ok (.aload_n 1, 1) := by decide +kernel
theorem dX4_countMatches_2 : decode cX4_countMatches 2 = .ok (.iload_n 2, 1) := by decide +kernel
theorem dX4_countMatches_3 : decode cX4_countMatches 3 = .ok (.iload_n 3, 1) := by decide +kernel
theorem dX4_countMatches_4 : decode cX4_countMatches 4 = .ok (.invokevirtual 81, 3) := by decide +kernel
theorem dX4_countMatches_7 : decode cX4_countMatches 7 = .ok (.aload_n 0, 1) := by decide +kernel
theorem dX4_countMatches_8 : decode cX4_countMatches 8 = .ok (.iload_n 3, 1) := by decide +kernel
theorem dX4_countMatches_9 : decode cX4_countMatches 9 = .ok (.invokevirtual 85, 3) := by decide +kernel
theorem dX4_countMatches_12 : decode cX4_countMatches 12 = .ok (.istore 5, 2) := by decide +kernel
theorem dX4_countMatches_14 : decode cX4_countMatches 14 = .ok (.lconst 1, 1) := by decide +kernel
theorem dX4_countMatches_15 : decode cX4_countMatches 15 = .ok (.iload_n 3, 1) := by decide +kernel
theorem dX4_countMatches_16 : decode cX4_countMatches 16 = .ok (.iconst 1, 1) := by decide +kernel
theorem dX4_countMatches_17 : decode cX4_countMatches 17 = .ok (.isub, 1) := by decide +kernel
theorem dX4_countMatches_18 : decode cX4_countMatches 18 = .ok (.lshl, 1) := by decide +kernel
theorem dX4_countMatches_19 : decode cX4_countMatches 19 = .ok (.lstore 6, 2) := by decide +kernel
theorem dX4_countMatches_21 : decode cX4_countMatches 21 = .ok (.iconst 0, 1) := by decide +kernel
theorem dX4_countMatches_22 : decode cX4_countMatches 22 = .ok (.istore 8, 2) := by decide +kernel
theorem dX4_countMatches_24 : decode cX4_countMatches 24 = .ok (.iconst 0, 1) := by decide +kernel
theorem dX4_countMatches_25 : decode cX4_countMatches 25 = .ok (.istore 9, 2) := by decide +kernel
theorem dX4_countMatches_27 : decode cX4_countMatches 27 = .ok (.iload 9, 2) := by decide +kernel
theorem dX4_countMatches_29 : decode cX4_countMatches 29 = .ok (.aload_n 0, 1) := by decide +kernel
theorem dX4_countMatches_30 : decode cX4_countMatches 30 = .ok (.getfield 36, 3) := by decide +kernel
theorem dX4_countMatches_33 : decode cX4_countMatches 33 = .ok (.getfield 54, 3) := by decide +kernel
theorem dX4_countMatches_36 : decode cX4_countMatches 36 = .ok (.if_icmp .ge 140, 3) := by decide +kernel
theorem dX4_countMatches_39 : decode cX4_countMatches 39 = .ok (.lconst 0, 1) := by decide +kernel
theorem dX4_countMatches_40 : decode cX4_countMatches 40 = .ok (.lstore 10, 2) := by decide +kernel
theorem dX4_countMatches_42 : decode cX4_countMatches 42 = .ok (.aload_n 0, 1) := by decide +kernel
theorem dX4_countMatches_43 : decode cX4_countMatches 43 = .ok (.getfield 9, 3) := by decide +kernel
theorem dX4_countMatches_46 : decode cX4_countMatches 46 = .ok (.iload 5, 2) := by decide +kernel
theorem dX4_countMatches_48 : decode cX4_countMatches 48 = .ok (.baload, 1) := by decide +kernel
theorem dX4_countMatches_49 : decode cX4_countMatches 49 = .ok (.istore 12, 2) := by decide +kernel
theorem dX4_countMatches_51 : decode cX4_countMatches 51 = .ok (.iconst 0, 1) := by decide +kernel
theorem dX4_countMatches_52 : decode cX4_countMatches 52 = .ok (.istore 13, 2) := by decide +kernel
theorem dX4_countMatches_54 : decode cX4_countMatches 54 = .ok (.iload 13, 2) := by decide +kernel
theorem dX4_countMatches_56 : decode cX4_countMatches 56 = .ok (.aload_n 0, 1) := by decide +kernel
theorem dX4_countMatches_57 : decode cX4_countMatches 57 = .ok (.getfield 36, 3) := by decide +kernel
theorem dX4_countMatches_60 : decode cX4_countMatches 60 = .ok (.getfield 64, 3) := by decide +kernel
theorem dX4_countMatches_63 : decode cX4_countMatches 63 = .ok (.if_icmp .ge 59, 3) := by decide +kernel
theorem dX4_countMatches_66 : decode cX4_countMatches 66 = .ok (.aload_n 0, 1) := by decide +kernel
theorem dX4_countMatches_67 : decode cX4_countMatches 67 = .ok (.getfield 30, 3) := by decide +kernel
theorem dX4_countMatches_70 : decode cX4_countMatches 70 = .ok (.iload 13, 2) := by decide +kernel
theorem dX4_countMatches_72 : decode cX4_countMatches 72 = .ok (.aload_n 0, 1) := by decide +kernel
theorem dX4_countMatches_73 : decode cX4_countMatches 73 = .ok (.getfield 30, 3) := by decide +kernel
theorem dX4_countMatches_76 : decode cX4_countMatches 76 = .ok (.iload 13, 2) := by decide +kernel
theorem dX4_countMatches_78 : decode cX4_countMatches 78 = .ok (.laload, 1) := by decide +kernel
theorem dX4_countMatches_79 : decode cX4_countMatches 79 = .ok (.iconst 1, 1) := by decide +kernel
theorem dX4_countMatches_80 : decode cX4_countMatches 80 = .ok (.lushr, 1) := by decide +kernel
theorem dX4_countMatches_81 : decode cX4_countMatches 81 = .ok (.iload 13, 2) := by decide +kernel
theorem dX4_countMatches_83 : decode cX4_countMatches 83 = .ok (.iload 12, 2) := by decide +kernel
theorem dX4_countMatches_85 : decode cX4_countMatches 85 = .ok (.if_icmp .ne 8, 3) := by decide +kernel
theorem dX4_countMatches_88 : decode cX4_countMatches 88 = .ok (.lload 6, 2) := by decide +kernel
theorem dX4_countMatches_90 : decode cX4_countMatches 90 = .ok (.goto 4, 3) := by decide +kernel
theorem dX4_countMatches_93 : decode cX4_countMatches 93 = .ok (.lconst 0, 1) := by decide +kernel
theorem dX4_countMatches_94 : decode cX4_countMatches 94 = .ok (.lor, 1) := by decide +kernel
theorem dX4_countMatches_95 : decode cX4_countMatches 95 = .ok (.lastore, 1) := by decide +kernel
theorem dX4_countMatches_96 : decode cX4_countMatches 96 = .ok (.lload 10, 2) := by decide +kernel
theorem dX4_countMatches_98 : decode cX4_countMatches 98 = .ok (.aload_n 0, 1) := by decide +kernel
theorem dX4_countMatches_99 : decode cX4_countMatches 99 = .ok (.getfield 30, 3) := by decide +kernel
theorem dX4_countMatches_102 : decode cX4_countMatches 102 = .ok (.iload 13, 2) := by decide +kernel
theorem dX4_countMatches_104 : decode cX4_countMatches 104 = .ok (.laload, 1) := by decide +kernel
theorem dX4_countMatches_105 : decode cX4_countMatches 105 = .ok (.aload_n 0, 1) := by decide +kernel
theorem dX4_countMatches_106 : decode cX4_countMatches 106 = .ok (.getfield 26, 3) := by decide +kernel
theorem dX4_countMatches_109 : decode cX4_countMatches 109 = .ok (.iload 13, 2) := by decide +kernel
theorem dX4_countMatches_111 : decode cX4_countMatches 111 = .ok (.laload, 1) := by decide +kernel
theorem dX4_countMatches_112 : decode cX4_countMatches 112 = .ok (.land, 1) := by decide +kernel
theorem dX4_countMatches_113 : decode cX4_countMatches 113 = .ok (.lor, 1) := by decide +kernel
theorem dX4_countMatches_114 : decode cX4_countMatches 114 = .ok (.lstore 10, 2) := by decide +kernel
theorem dX4_countMatches_116 : decode cX4_countMatches 116 = .ok (.iinc 13 1, 3) := by decide +kernel
theorem dX4_countMatches_119 : decode cX4_countMatches 119 = .ok (.goto (-65), 3) := by decide +kernel
theorem dX4_countMatches_122 : decode cX4_countMatches 122 = .ok (.iload 5, 2) := by decide +kernel
theorem dX4_countMatches_124 : decode cX4_countMatches 124 = .ok (.iconst 1, 1) := by decide +kernel
theorem dX4_countMatches_125 : decode cX4_countMatches 125 = .ok (.iadd, 1) := by decide +kernel
theorem dX4_countMatches_126 : decode cX4_countMatches 126 = .ok (.aload_n 0, 1) := by decide +kernel
theorem dX4_countMatches_127 : decode cX4_countMatches 127 = .ok (.getfield 36, 3) := by decide +kernel
theorem dX4_countMatches_130 : decode cX4_countMatches 130 = .ok (.getfield 54, 3) := by decide +kernel
theorem dX4_countMatches_133 : decode cX4_countMatches 133 = .ok (.if_icmp .ge 10, 3) := by decide +kernel
theorem dX4_countMatches_136 : decode cX4_countMatches 136 = .ok (.iload 5, 2) := by decide +kernel
theorem dX4_countMatches_138 : decode cX4_countMatches 138 = .ok (.iconst 1, 1) := by decide +kernel
theorem dX4_countMatches_139 : decode cX4_countMatches 139 = .ok (.iadd, 1) := by decide +kernel
theorem dX4_countMatches_140 : decode cX4_countMatches 140 = .ok (.goto 4, 3) := by decide +kernel
theorem dX4_countMatches_143 : decode cX4_countMatches 143 = .ok (.iconst 0, 1) := by decide +kernel
theorem dX4_countMatches_144 : decode cX4_countMatches 144 = .ok (.istore 5, 2) := by decide +kernel
theorem dX4_countMatches_146 : decode cX4_countMatches 146 = .ok (.lload 10, 2) := by decide +kernel
theorem dX4_countMatches_148 : decode cX4_countMatches 148 = .ok (.invokestatic 88, 3) := by decide +kernel
theorem dX4_countMatches_151 : decode cX4_countMatches 151 = .ok (.iload 4, 2) := by decide +kernel
theorem dX4_countMatches_153 : decode cX4_countMatches 153 = .ok (.if_icmp .gt 17, 3) := by decide +kernel
theorem dX4_countMatches_156 : decode cX4_countMatches 156 = .ok (.iload 8, 2) := by decide +kernel
theorem dX4_countMatches_158 : decode cX4_countMatches 158 = .ok (.ifCond .ne 9, 3) := by decide +kernel
theorem dX4_countMatches_161 : decode cX4_countMatches 161 = .ok (.aload_n 0, 1) := by decide +kernel
theorem dX4_countMatches_162 : decode cX4_countMatches 162 = .ok (.iload 9, 2) := by decide +kernel
theorem dX4_countMatches_164 : decode cX4_countMatches 164 = .ok (.putfield 33, 3) := by decide +kernel
theorem dX4_countMatches_167 : decode cX4_countMatches 167 = .ok (.iinc 8 1, 3) := by decide +kernel
theorem dX4_countMatches_170 : decode cX4_countMatches 170 = .ok (.iinc 9 1, 3) := by decide +kernel
theorem dX4_countMatches_173 : decode cX4_countMatches 173 = .ok (.goto (-146), 3) := by decide +kernel
theorem dX4_countMatches_176 : decode cX4_countMatches 176 = .ok (.iload 8, 2) := by decide +kernel
theorem dX4_countMatches_178 : decode cX4_countMatches 178 = .ok (.ireturn, 1) := by decide +kernel
theorem dX4_noteSlips_0 : decode cX4_noteSlips 0 = .ok (.aload_n 0, 1) := by decide +kernel
theorem dX4_noteSlips_1 : decode cX4_noteSlips 1 = .ok (.getfield 26, 3) := by decide +kernel
theorem dX4_noteSlips_4 : decode cX4_noteSlips 4 = .ok (.lconst 0, 1) := by decide +kernel
theorem dX4_noteSlips_5 : decode cX4_noteSlips 5 = .ok (.invokestatic 94, 3) := by decide +kernel
theorem dX4_noteSlips_8 : decode cX4_noteSlips 8 = .ok (.iconst 0, 1) := by decide +kernel
theorem dX4_noteSlips_9 : decode cX4_noteSlips 9 = .ok (.istore 4, 2) := by decide +kernel
theorem dX4_noteSlips_11 : decode cX4_noteSlips 11 = .ok (.iload 4, 2) := by decide +kernel
theorem dX4_noteSlips_13 : decode cX4_noteSlips 13 = .ok (.iload_n 3, 1) := by decide +kernel
theorem dX4_noteSlips_14 : decode cX4_noteSlips 14 = .ok (.if_icmp .ge 71, 3) := by decide +kernel
theorem dX4_noteSlips_17 : decode cX4_noteSlips 17 = .ok (.aload_n 1, 1) := by decide +kernel
theorem dX4_noteSlips_18 : decode cX4_noteSlips 18 = .ok (.iload_n 2, 1) := by decide +kernel
theorem dX4_noteSlips_19 : decode cX4_noteSlips 19 = .ok (.iload 4, 2) := by decide +kernel
theorem dX4_noteSlips_21 : decode cX4_noteSlips 21 = .ok (.iadd, 1) := by decide +kernel
theorem dX4_noteSlips_22 : decode cX4_noteSlips 22 = .ok (.iaload, 1) := by decide +kernel
theorem dX4_noteSlips_23 : decode cX4_noteSlips 23 = .ok (.istore 5, 2) := by decide +kernel
theorem dX4_noteSlips_25 : decode cX4_noteSlips 25 = .ok (.iconst 0, 1) := by decide +kernel
theorem dX4_noteSlips_26 : decode cX4_noteSlips 26 = .ok (.istore 6, 2) := by decide +kernel
theorem dX4_noteSlips_28 : decode cX4_noteSlips 28 = .ok (.iload 6, 2) := by decide +kernel
theorem dX4_noteSlips_30 : decode cX4_noteSlips 30 = .ok (.aload_n 0, 1) := by decide +kernel
theorem dX4_noteSlips_31 : decode cX4_noteSlips 31 = .ok (.getfield 36, 3) := by decide +kernel
theorem dX4_noteSlips_34 : decode cX4_noteSlips 34 = .ok (.getfield 64, 3) := by decide +kernel
theorem dX4_noteSlips_37 : decode cX4_noteSlips 37 = .ok (.if_icmp .ge 42, 3) := by decide +kernel
theorem dX4_noteSlips_40 : decode cX4_noteSlips 40 = .ok (.aload_n 0, 1) := by decide +kernel
theorem dX4_noteSlips_41 : decode cX4_noteSlips 41 = .ok (.getfield 36, 3) := by decide +kernel
theorem dX4_noteSlips_44 : decode cX4_noteSlips 44 = .ok (.iload 5, 2) := by decide +kernel
theorem dX4_noteSlips_46 : decode cX4_noteSlips 46 = .ok (.invokevirtual 97, 3) := by decide +kernel
theorem dX4_noteSlips_49 : decode cX4_noteSlips 49 = .ok (.ifCond .eq 30, 3) := by decide +kernel
theorem dX4_noteSlips_52 : decode cX4_noteSlips 52 = .ok (.iload 6, 2) := by decide +kernel
theorem dX4_noteSlips_54 : decode cX4_noteSlips 54 = .ok (.iload 5, 2) := by decide +kernel
theorem dX4_noteSlips_56 : decode cX4_noteSlips 56 = .ok (.if_icmp .eq 17, 3) := by decide +kernel
theorem dX4_noteSlips_59 : decode cX4_noteSlips 59 = .ok (.aload_n 0, 1) := by decide +kernel
theorem dX4_noteSlips_60 : decode cX4_noteSlips 60 = .ok (.getfield 26, 3) := by decide +kernel
theorem dX4_noteSlips_63 : decode cX4_noteSlips 63 = .ok (.iload 6, 2) := by decide +kernel
theorem dX4_noteSlips_65 : decode cX4_noteSlips 65 = .ok (.dup2, 1) := by decide +kernel
theorem dX4_noteSlips_66 : decode cX4_noteSlips 66 = .ok (.laload, 1) := by decide +kernel
theorem dX4_noteSlips_67 : decode cX4_noteSlips 67 = .ok (.lconst 1, 1) := by decide +kernel
theorem dX4_noteSlips_68 : decode cX4_noteSlips 68 = .ok (.iload 4, 2) := by decide +kernel
theorem dX4_noteSlips_70 : decode cX4_noteSlips 70 = .ok (.lshl, 1) := by decide +kernel
theorem dX4_noteSlips_71 : decode cX4_noteSlips 71 = .ok (.lor, 1) := by decide +kernel
theorem dX4_noteSlips_72 : decode cX4_noteSlips 72 = .ok (.lastore, 1) := by decide +kernel
theorem dX4_noteSlips_73 : decode cX4_noteSlips 73 = .ok (.iinc 6 1, 3) := by decide +kernel
theorem dX4_noteSlips_76 : decode cX4_noteSlips 76 = .ok (.goto (-48), 3) := by decide +kernel
theorem dX4_noteSlips_79 : decode cX4_noteSlips 79 = .ok (.iinc 4 1, 3) := by decide +kernel
theorem dX4_noteSlips_82 : decode cX4_noteSlips 82 = .ok (.goto (-71), 3) := by decide +kernel
theorem dX4_noteSlips_85 : decode cX4_noteSlips 85 = .ok (.return_, 1) := by decide +kernel
theorem dX4_noteFirstPlaces_0 : decode cX4_noteFirstPlaces 0 = .ok (.aload_n 0, 1) := by decide +kernel
theorem dX4_noteFirstPlaces_1 : decode cX4_noteFirstPlaces 1 = .ok (.getfield 30, 3) := by decide +kernel
theorem dX4_noteFirstPlaces_4 : decode cX4_noteFirstPlaces 4 = .ok (.lconst 0, 1) := by decide +kernel
theorem dX4_noteFirstPlaces_5 : decode cX4_noteFirstPlaces 5 = .ok (.invokestatic 94, 3) := by decide +kernel
theorem dX4_noteFirstPlaces_8 : decode cX4_noteFirstPlaces 8 = .ok (.iconst 0, 1) := by decide +kernel
theorem dX4_noteFirstPlaces_9 : decode cX4_noteFirstPlaces 9 = .ok (.istore_n 2, 1) := by decide +kernel
theorem dX4_noteFirstPlaces_10 : decode cX4_noteFirstPlaces 10 = .ok (.iconst 1, 1) := by decide +kernel
theorem dX4_noteFirstPlaces_11 : decode cX4_noteFirstPlaces 11 = .ok (.istore_n 3, 1) := by decide +kernel
theorem dX4_noteFirstPlaces_12 : decode cX4_noteFirstPlaces 12 = .ok (.iload_n 3, 1) := by decide +kernel
theorem dX4_noteFirstPlaces_13 : decode cX4_noteFirstPlaces 13 = .ok (.iload_n 1, 1) := by decide +kernel
theorem dX4_noteFirstPlaces_14 : decode cX4_noteFirstPlaces 14 = .ok (.if_icmp .ge 47, 3) := by decide +kernel
theorem dX4_noteFirstPlaces_17 : decode cX4_noteFirstPlaces 17 = .ok (.aload_n 0, 1) := by decide +kernel
theorem dX4_noteFirstPlaces_18 : decode cX4_noteFirstPlaces 18 = .ok (.getfield 30, 3) := by decide +kernel
theorem dX4_noteFirstPlaces_21 : decode cX4_noteFirstPlaces 21 = .ok (.aload_n 0, 1) := by decide +kernel
theorem dX4_noteFirstPlaces_22 : decode cX4_noteFirstPlaces 22 = .ok (.getfield 9, 3) := by decide +kernel
theorem dX4_noteFirstPlaces_25 : decode cX4_noteFirstPlaces 25 = .ok (.iload_n 2, 1) := by decide +kernel
theorem dX4_noteFirstPlaces_26 : decode cX4_noteFirstPlaces 26 = .ok (.baload, 1) := by decide +kernel
theorem dX4_noteFirstPlaces_27 : decode cX4_noteFirstPlaces 27 = .ok (.dup2, 1) := by decide +kernel
theorem dX4_noteFirstPlaces_28 : decode cX4_noteFirstPlaces 28 = .ok (.laload, 1) := by decide +kernel
theorem dX4_noteFirstPlaces_29 : decode cX4_noteFirstPlaces 29 = .ok (.lconst 1, 1) := by decide +kernel
theorem dX4_noteFirstPlaces_30 : decode cX4_noteFirstPlaces 30 = .ok (.iload_n 3, 1) := by decide +kernel
theorem dX4_noteFirstPlaces_31 : decode cX4_noteFirstPlaces 31 = .ok (.lshl, 1) := by decide +kernel
theorem dX4_noteFirstPlaces_32 : decode cX4_noteFirstPlaces 32 = .ok (.lor, 1) := by decide +kernel
theorem dX4_noteFirstPlaces_33 : decode cX4_noteFirstPlaces 33 = .ok (.lastore, 1) := by decide +kernel
theorem dX4_noteFirstPlaces_34 : decode cX4_noteFirstPlaces 34 = .ok (.iload_n 2, 1) := by decide +kernel
theorem dX4_noteFirstPlaces_35 : decode cX4_noteFirstPlaces 35 = .ok (.iconst 1, 1) := by decide +kernel
theorem dX4_noteFirstPlaces_36 : decode cX4_noteFirstPlaces 36 = .ok (.iadd, 1) := by decide +kernel
theorem dX4_noteFirstPlaces_37 : decode cX4_noteFirstPlaces 37 = .ok (.aload_n 0, 1) := by decide +kernel
theorem dX4_noteFirstPlaces_38 : decode cX4_noteFirstPlaces 38 = .ok (.getfield 36, 3) := by decide +kernel
theorem dX4_noteFirstPlaces_41 : decode cX4_noteFirstPlaces 41 = .ok (.getfield 54, 3) := by decide +kernel
theorem dX4_noteFirstPlaces_44 : decode cX4_noteFirstPlaces 44 = .ok (.if_icmp .ge 9, 3) := by decide +kernel
theorem dX4_noteFirstPlaces_47 : decode cX4_noteFirstPlaces 47 = .ok (.iload_n 2, 1) := by decide +kernel
theorem dX4_noteFirstPlaces_48 : decode cX4_noteFirstPlaces 48 = .ok (.iconst 1, 1) := by decide +kernel
theorem dX4_noteFirstPlaces_49 : decode cX4_noteFirstPlaces 49 = .ok (.iadd, 1) := by decide +kernel
theorem dX4_noteFirstPlaces_50 : decode cX4_noteFirstPlaces 50 = .ok (.goto 4, 3) := by decide +kernel
theorem dX4_noteFirstPlaces_53 : decode cX4_noteFirstPlaces 53 = .ok (.iconst 0, 1) := by decide +kernel
theorem dX4_noteFirstPlaces_54 : decode cX4_noteFirstPlaces 54 = .ok (.istore_n 2, 1) := by decide +kernel
theorem dX4_noteFirstPlaces_55 : decode cX4_noteFirstPlaces 55 = .ok (.iinc 3 1, 3) := by decide +kernel
theorem dX4_noteFirstPlaces_58 : decode cX4_noteFirstPlaces 58 = .ok (.goto (-46), 3) := by decide +kernel
theorem dX4_noteFirstPlaces_61 : decode cX4_noteFirstPlaces 61 = .ok (.iload_n 2, 1) := by decide +kernel
theorem dX4_noteFirstPlaces_62 : decode cX4_noteFirstPlaces 62 = .ok (.ireturn, 1) := by decide +kernel
theorem dX5_init_0 : decode cX5_init 0 = .ok (.aload_n 0, 1) := by decide +kernel
theorem dX5_init_1 : decode cX5_init 1 = .ok (.invokespecial 3, 3) := by decide +kernel
theorem dX5_init_4 : decode cX5_init 4 = .ok (.aload_n 0, 1) := by decide +kernel
theorem dX5_init_5 : decode cX5_init 5 = .ok (.sipush 200, 3) := by decide +kernel
theorem dX5_init_8 : decode cX5_init 8 = .ok (.newarray .int, 2) := by decide +kernel
theorem dX5_init_10 : decode cX5_init 10 = .ok (.putfield 9, 3) := by decide +kernel
theorem dX5_init_13 : decode cX5_init 13 = .ok (.aload_n 0, 1) := by decide +kernel
theorem dX5_init_14 : decode cX5_init 14 = .ok (.iconst (-1), 1) := by decide +kernel
theorem dX5_init_15 : decode cX5_init 15 = .ok (.putfield 15, 3) := by decide +kernel
theorem dX5_init_18 : decode cX5_init 18 = .ok (.aload_n 0, 1) := by decide +kernel
theorem dX5_init_19 : decode cX5_init 19 = .ok (.sipush 200, 3) := by decide +kernel
theorem dX5_init_22 : decode cX5_init 22 = .ok (.newarray .int, 2) := by decide +kernel
theorem dX5_init_24 : decode cX5_init 24 = .ok (.putfield 19, 3) := by decide +kernel
theorem dX5_init_27 : decode cX5_init 27 = .ok (.aload_n 0, 1) := by decide +kernel
theorem dX5_init_28 : decode cX5_init 28 = .ok (.aload_n 1, 1) := by decide +kernel
theorem dX5_init_29 : decode cX5_init 29 = .ok (.putfield 22, 3) := by decide +kernel
theorem dX5_init_32 : decode cX5_init 32 = .ok (.return_, 1) := by decide +kernel
theorem dX5_isLost_0 : decode cX5_isLost 0 = .ok (.aload_n 0, 1) := by decide +kernel
theorem dX5_isLost_1 : decode cX5_isLost 1 = .ok (.getfield 15, 3) := by decide +kernel
theorem dX5_isLost_4 : decode cX5_isLost 4 = .ok (.iconst (-1), 1) := by decide +kernel
theorem dX5_isLost_5 : decode cX5_isLost 5 = .ok (.if_icmp .ne 7, 3) := by decide +kernel
theorem dX5_isLost_8 : decode cX5_isLost 8 = .ok (.iconst 1, 1) := by decide +kernel
theorem dX5_isLost_9 : decode cX5_isLost 9 = .ok (.goto 4, 3) := by decide +kernel
theorem dX5_isLost_12 : decode cX5_isLost 12 = .ok (.iconst 0, 1) := by decide +kernel
theorem dX5_isLost_13 : decode cX5_isLost 13 = .ok (.ireturn, 1) := by decide +kernel
theorem dX5_begin_0 : decode cX5_begin 0 = .ok (.aload_n 0, 1) := by decide +kernel
theorem dX5_begin_1 : decode cX5_begin 1 = .ok (.iload_n 1, 1) := by decide +kernel
theorem dX5_begin_2 : decode cX5_begin 2 = .ok (.putfield 15, 3) := by decide +kernel
theorem dX5_begin_5 : decode cX5_begin 5 = .ok (.aload_n 0, 1) := by decide +kernel
theorem dX5_begin_6 : decode cX5_begin 6 = .ok (.iload_n 2, 1) := by decide +kernel
theorem dX5_begin_7 : decode cX5_begin 7 = .ok (.putfield 26, 3) := by decide +kernel
theorem dX5_begin_10 : decode cX5_begin 10 = .ok (.aload_n 0, 1) := by decide +kernel
theorem dX5_begin_11 : decode cX5_begin 11 = .ok (.getfield 9, 3) := by decide +kernel
theorem dX5_begin_14 : decode cX5_begin 14 = .ok (.iconst 0, 1) := by decide +kernel
theorem dX5_begin_15 : decode cX5_begin 15 = .ok (.iload_n 2, 1) := by decide +kernel
theorem dX5_begin_16 : decode cX5_begin 16 = .ok (.iconst 0, 1) := by decide +kernel
theorem dX5_begin_17 : decode cX5_begin 17 = .ok (.invokestatic 29, 3) := by decide +kernel
theorem dX5_begin_20 : decode cX5_begin 20 = .ok (.return_, 1) := by decide +kernel
theorem dX5_drop_0 : decode cX5_drop 0 = .ok (.aload_n 0, 1) := by decide +kernel
theorem dX5_drop_1 : decode cX5_drop 1 = .ok (.iconst (-1), 1) := by decide +kernel
theorem dX5_drop_2 : decode cX5_drop 2 = .ok (.putfield 15, 3) := by decide +kernel
theorem dX5_drop_5 : decode cX5_drop 5 = .ok (.aload_n 0, 1) := by decide +kernel
theorem dX5_drop_6 : decode cX5_drop 6 = .ok (.getfield 26, 3) := by decide +kernel
theorem dX5_drop_9 : decode cX5_drop 9 = .ok (.ireturn, 1) := by decide +kernel
theorem dX5_hasItems_0 : decode cX5_hasItems 0 = .ok (.iload_n 1, 1) := by decide +kernel
theorem dX5_hasItems_1 : decode cX5_hasItems 1 = .ok (.ifCond .lt 21, 3) := by decide +kernel
theorem dX5_hasItems_4 : decode cX5_hasItems 4 = .ok (.iload_n 2, 1) := by decide +kernel
theorem dX5_hasItems_5 : decode cX5_hasItems 5 = .ok (.ifCond .lt 17, 3) := by decide +kernel
theorem dX5_hasItems_8 : decode cX5_hasItems 8 = .ok (.iload_n 1, 1) := by decide +kernel
theorem dX5_hasItems_9 : decode cX5_hasItems 9 = .ok (.aload_n 0, 1) := by decide +kernel
theorem dX5_hasItems_10 : decode cX5_hasItems 10 = .ok (.getfield 26, 3) := by decide +kernel
theorem dX5_hasItems_13 : decode cX5_hasItems 13 = .ok (.iload_n 2, 1) := by decide +kernel
theorem dX5_hasItems_14 : decode cX5_hasItems 14 = .ok (.isub, 1) := by decide +kernel
theorem dX5_hasItems_15 : decode cX5_hasItems 15 = .ok (.if_icmp .gt 7, 3) := by decide +kernel
theorem dX5_hasItems_18 : decode cX5_hasItems 18 = .ok (.iconst 1, 1) := by decide +kernel
theorem dX5_hasItems_19 : decode cX5_hasItems 19 = .ok (.goto 4, 3) := by decide +kernel
theorem dX5_hasItems_22 : decode cX5_hasItems 22 = .ok (.iconst 0, 1) := by decide +kernel
theorem dX5_hasItems_23 : decode cX5_hasItems 23 = .ok (.ireturn, 1) := by decide +kernel
theorem dX5_fitted_0 : decode cX5_fitted 0 = .ok (.aload_n 0, 1) := by decide +kernel
theorem dX5_fitted_1 : decode cX5_fitted 1 = .ok (.getfield 15, 3) := by decide +kernel
theorem dX5_fitted_4 : decode cX5_fitted 4 = .ok (.lookupswitch 34 #[(0, 28), (1, 31)], 28) := by decide +kernel
theorem dX5_fitted_32 : decode cX5_fitted 32 = .ok (.iload_n 1, 1) := by decide +kernel
theorem dX5_fitted_33 : decode cX5_fitted 33 = .ok (.i2b, 1) := by decide +kernel
theorem dX5_fitted_34 : decode cX5_fitted 34 = .ok (.ireturn, 1) := by decide +kernel
theorem dX5_fitted_35 : decode cX5_fitted 35 = .ok (.iload_n 1, 1) := by decide +kernel
theorem dX5_fitted_36 : decode cX5_fitted 36 = .ok (.i2c, 1) := by decide +kernel
theorem dX5_fitted_37 : decode cX5_fitted 37 = .ok (.ireturn, 1) := by decide +kernel
theorem dX5_fitted_38 : decode cX5_fitted 38 = .ok (.iload_n 1, 1) := by decide +kernel
theorem dX5_fitted_39 : decode cX5_fitted 39 = .ok (.i2s, 1) := by decide +kernel
theorem dX5_fitted_40 : decode cX5_fitted 40 = .ok (.ireturn, 1) := by decide +kernel
theorem dX5_hasBlanks_0 : decode cX5_hasBlanks 0 = .ok (.iconst 0, 1) := by decide +kernel
theorem dX5_hasBlanks_1 : decode cX5_hasBlanks 1 = .ok (.istore_n 1, 1) := by decide +kernel
theorem dX5_hasBlanks_2 : decode cX5_hasBlanks 2 = .ok (.iload_n 1, 1) := by decide +kernel
theorem dX5_hasBlanks_3 : decode cX5_hasBlanks 3 = .ok (.aload_n 0, 1) := by decide +kernel
theorem dX5_hasBlanks_4 : decode cX5_hasBlanks 4 = .ok (.getfield 26, 3) := by decide +kernel
theorem dX5_hasBlanks_7 : decode cX5_hasBlanks 7 = .ok (.if_icmp .ge 27, 3) := by decide +kernel
theorem dX5_hasBlanks_10 : decode cX5_hasBlanks 10 = .ok (.aload_n 0, 1) := by decide +kernel
theorem dX5_hasBlanks_11 : decode cX5_hasBlanks 11 = .ok (.getfield 22, 3) := by decide +kernel
theorem dX5_hasBlanks_14 : decode cX5_hasBlanks 14 = .ok (.aload_n 0, 1) := by decide +kernel
theorem dX5_hasBlanks_15 : decode cX5_hasBlanks 15 = .ok (.getfield 9, 3) := by decide +kernel
theorem dX5_hasBlanks_18 : decode cX5_hasBlanks 18 = .ok (.iload_n 1, 1) := by decide +kernel
theorem dX5_hasBlanks_19 : decode cX5_hasBlanks 19 = .ok (.iaload, 1) := by decide +kernel
theorem dX5_hasBlanks_20 : decode cX5_hasBlanks 20 = .ok (.invokevirtual 35, 3) := by decide +kernel
theorem dX5_hasBlanks_23 : decode cX5_hasBlanks 23 = .ok (.ifCond .ne 5, 3) := by decide +kernel
theorem dX5_hasBlanks_26 : decode cX5_hasBlanks 26 = .ok (.iconst 1, 1) := by decide +kernel
theorem dX5_hasBlanks_27 : decode cX5_hasBlanks 27 = .ok (.ireturn, 1) := by decide +kernel
theorem dX5_hasBlanks_28 : decode cX5_hasBlanks 28 = .ok (.iinc 1 1, 3) := by decide +kernel
theorem dX5_hasBlanks_31 : decode cX5_hasBlanks 31 = .ok (.goto (-29), 3) := by decide +kernel
theorem dX5_hasBlanks_34 : decode cX5_hasBlanks 34 = .ok (.iconst 0, 1) := by decide +kernel
theorem dX5_hasBlanks_35 : decode cX5_hasBlanks 35 = .ok (.ireturn, 1) := by decide +kernel
theorem dX5_firstRepeated_0 : decode cX5_firstRepeated 0 = .ok (.iconst 0, 1) := by decide +kernel
theorem dX5_firstRepeated_1 : decode cX5_firstRepeated 1 = .ok (.istore_n 1, 1) := by decide +kernel
theorem dX5_firstRepeated_2 : decode cX5_firstRepeated 2 = .ok (.iload_n 1, 1) := by decide +kernel
theorem dX5_firstRepeated_3 : decode cX5_firstRepeated 3 = .ok (.aload_n 0, 1) := by decide +kernel
theorem dX5_firstRepeated_4 : decode cX5_firstRepeated 4 = .ok (.getfield 26, 3) := by decide +kernel
theorem dX5_firstRepeated_7 : decode cX5_firstRepeated 7 = .ok (.if_icmp .ge 50, 3) := by decide +kernel
theorem dX5_firstRepeated_10 : decode cX5_firstRepeated 10 = .ok (.aload_n 0, 1) := by decide +kernel
theorem dX5_firstRepeated_11 : decode cX5_firstRepeated 11 = .ok (.getfield 19, 3) := by decide +kernel
theorem dX5_firstRepeated_14 : decode cX5_firstRepeated 14 = .ok (.iload_n 1, 1) := by decide +kernel
theorem dX5_firstRepeated_15 : decode cX5_firstRepeated 15 = .ok (.aload_n 0, 1) := by decide +kernel
theorem dX5_firstRepeated_16 : decode cX5_firstRepeated 16 = .ok (.iload_n 1, 1) := by decide +kernel
theorem dX5_firstRepeated_17 : decode cX5_firstRepeated 17 = .ok (.invokevirtual 41, 3) := by decide +kernel
theorem dX5_firstRepeated_20 : decode cX5_firstRepeated 20 = .ok (.iastore, 1) := by decide +kernel
theorem dX5_firstRepeated_21 : decode cX5_firstRepeated 21 = .ok (.iconst 0, 1) := by decide +kernel
theorem dX5_firstRepeated_22 : decode cX5_firstRepeated 22 = .ok (.istore_n 2, 1) := by decide +kernel
theorem dX5_firstRepeated_23 : decode cX5_firstRepeated 23 = .ok (.iload_n 2, 1) := by decide +kernel
theorem dX5_firstRepeated_24 : decode cX5_firstRepeated 24 = .ok (.iload_n 1, 1) := by decide +kernel
theorem dX5_firstRepeated_25 : decode cX5_firstRepeated 25 = .ok (.if_icmp .ge 26, 3) := by decide +kernel
theorem dX5_firstRepeated_28 : decode cX5_firstRepeated 28 = .ok (.aload_n 0, 1) := by decide +kernel
theorem dX5_firstRepeated_29 : decode cX5_firstRepeated 29 = .ok (.getfield 19, 3) := by decide +kernel
theorem dX5_firstRepeated_32 : decode cX5_firstRepeated 32 = .ok (.iload_n 2, 1) := by decide +kernel
theorem dX5_firstRepeated_33 : decode cX5_firstRepeated 33 = .ok (.iaload, 1) := by decide +kernel
theorem dX5_firstRepeated_34 : decode cX5_firstRepeated 34 = .ok (.aload_n 0, 1) := by decide +kernel
theorem dX5_firstRepeated_35 : decode cX5_firstRepeated 35 = .ok (.getfield 19, 3) := by decide +kernel
theorem dX5_firstRepeated_38 : decode cX5_firstRepeated 38 = .ok (.iload_n 1, 1) := by decide +kernel
theorem dX5_firstRepeated_39 : decode cX5_firstRepeated 39 = .ok (.iaload, 1) := by decide +kernel
theorem dX5_firstRepeated_40 : decode cX5_firstRepeated 40 = .ok (.if_icmp .ne 5, 3) := by decide +kernel
theorem dX5_firstRepeated_43 : decode cX5_firstRepeated 43 = .ok (.iload_n 1, 1) := by decide +kernel
theorem dX5_firstRepeated_44 : decode cX5_firstRepeated 44 = .ok (.ireturn, 1) := by decide +kernel
theorem dX5_firstRepeated_45 : decode cX5_firstRepeated 45 = .ok (.iinc 2 1, 3) := by decide +kernel
theorem dX5_firstRepeated_48 : decode cX5_firstRepeated 48 = .ok (.goto (-25), 3) := by decide +kernel
theorem dX5_firstRepeated_51 : decode cX5_firstRepeated 51 = .ok (.iinc 1 1, 3) := by decide +kernel
theorem dX5_firstRepeated_54 : decode cX5_firstRepeated 54 = .ok (.goto (-52), 3) := by decide +kernel
theorem dX5_firstRepeated_57 : decode cX5_firstRepeated 57 = .ok (.iconst (-1), 1) := by decide +kernel
theorem dX5_firstRepeated_58 : decode cX5_firstRepeated 58 = .ok (.ireturn, 1) := by decide +kernel
theorem dX5_wordAt_0 : decode cX5_wordAt 0 = .ok (.iconst 0, 1) := by decide +kernel
theorem dX5_wordAt_1 : decode cX5_wordAt 1 = .ok (.istore_n 2, 1) := by decide +kernel
theorem dX5_wordAt_2 : decode cX5_wordAt 2 = .ok (.iload_n 1, 1) := by decide +kernel
theorem dX5_wordAt_3 : decode cX5_wordAt 3 = .ok (.istore_n 3, 1) := by decide +kernel
theorem dX5_wordAt_4 : decode cX5_wordAt 4 = .ok (.iconst 0, 1) := by decide +kernel
theorem dX5_wordAt_5 : decode cX5_wordAt 5 = .ok (.istore 4, 2) := by decide +kernel
theorem dX5_wordAt_7 : decode cX5_wordAt 7 = .ok (.iload 4, 2) := by decide +kernel
theorem dX5_wordAt_9 : decode cX5_wordAt 9 = .ok (.aload_n 0, 1) := by decide +kernel
theorem dX5_wordAt_10 : decode cX5_wordAt 10 = .ok (.getfield 22, 3) := by decide +kernel
theorem dX5_wordAt_13 : decode cX5_wordAt 13 = .ok (.getfield 45, 3) := by decide +kernel
theorem dX5_wordAt_16 : decode cX5_wordAt 16 = .ok (.if_icmp .ge 44, 3) := by decide +kernel
theorem dX5_wordAt_19 : decode cX5_wordAt 19 = .ok (.iload_n 2, 1) := by decide +kernel
theorem dX5_wordAt_20 : decode cX5_wordAt 20 = .ok (.aload_n 0, 1) := by decide +kernel
theorem dX5_wordAt_21 : decode cX5_wordAt 21 = .ok (.getfield 22, 3) := by decide +kernel
theorem dX5_wordAt_24 : decode cX5_wordAt 24 = .ok (.getfield 46, 3) := by decide +kernel
theorem dX5_wordAt_27 : decode cX5_wordAt 27 = .ok (.imul, 1) := by decide +kernel
theorem dX5_wordAt_28 : decode cX5_wordAt 28 = .ok (.aload_n 0, 1) := by decide +kernel
theorem dX5_wordAt_29 : decode cX5_wordAt 29 = .ok (.getfield 9, 3) := by decide +kernel
theorem dX5_wordAt_32 : decode cX5_wordAt 32 = .ok (.iload_n 3, 1) := by decide +kernel
theorem dX5_wordAt_33 : decode cX5_wordAt 33 = .ok (.iaload, 1) := by decide +kernel
theorem dX5_wordAt_34 : decode cX5_wordAt 34 = .ok (.iadd, 1) := by decide +kernel
theorem dX5_wordAt_35 : decode cX5_wordAt 35 = .ok (.istore_n 2, 1) := by decide +kernel
theorem dX5_wordAt_36 : decode cX5_wordAt 36 = .ok (.iload_n 3, 1) := by decide +kernel
theorem dX5_wordAt_37 : decode cX5_wordAt 37 = .ok (.iconst 1, 1) := by decide +kernel
theorem dX5_wordAt_38 : decode cX5_wordAt 38 = .ok (.iadd, 1) := by decide +kernel
theorem dX5_wordAt_39 : decode cX5_wordAt 39 = .ok (.aload_n 0, 1) := by decide +kernel
theorem dX5_wordAt_40 : decode cX5_wordAt 40 = .ok (.getfield 26, 3) := by decide +kernel
theorem dX5_wordAt_43 : decode cX5_wordAt 43 = .ok (.if_icmp .ge 9, 3) := by decide +kernel
theorem dX5_wordAt_46 : decode cX5_wordAt 46 = .ok (.iload_n 3, 1) := by decide +kernel
theorem dX5_wordAt_47 : decode cX5_wordAt 47 = .ok (.iconst 1, 1) := by decide +kernel
theorem dX5_wordAt_48 : decode cX5_wordAt 48 = .ok (.iadd, 1) := by decide +kernel
theorem dX5_wordAt_49 : decode cX5_wordAt 49 = .ok (.goto 4, 3) := by decide +kernel
theorem dX5_wordAt_52 : decode cX5_wordAt 52 = .ok (.iconst 0, 1) := by decide +kernel
theorem dX5_wordAt_53 : decode cX5_wordAt 53 = .ok (.istore_n 3, 1) := by decide +kernel
theorem dX5_wordAt_54 : decode cX5_wordAt 54 = .ok (.iinc 4 1, 3) := by decide +kernel
theorem dX5_wordAt_57 : decode cX5_wordAt 57 = .ok (.goto (-50), 3) := by decide +kernel
theorem dX5_wordAt_60 : decode cX5_wordAt 60 = .ok (.iload_n 2, 1) := by decide +kernel
theorem dX5_wordAt_61 : decode cX5_wordAt 61 = .ok (.ireturn, 1) := by decide +kernel
theorem dX6_init_0 : decode cX6_init 0 = .ok (.aload_n 0, 1) := by decide +kernel
theorem dX6_init_1 : decode cX6_init 1 = .ok (.invokespecial 3, 3) := by decide +kernel
theorem dX6_init_4 : decode cX6_init 4 = .ok (.aload_n 0, 1) := by decide +kernel
theorem dX6_init_5 : decode cX6_init 5 = .ok (.bipush 15, 2) := by decide +kernel
theorem dX6_init_7 : decode cX6_init 7 = .ok (.newarray .int, 2) := by decide +kernel
theorem dX6_init_9 : decode cX6_init 9 = .ok (.putfield 9, 3) := by decide +kernel
theorem dX6_init_12 : decode cX6_init 12 = .ok (.aload_n 0, 1) := by decide +kernel
theorem dX6_init_13 : decode cX6_init 13 = .ok (.iconst 2, 1) := by decide +kernel
theorem dX6_init_14 : decode cX6_init 14 = .ok (.iconst 3, 1) := by decide +kernel
theorem dX6_init_15 : decode cX6_init 15 = .ok (.invokevirtual 15, 3) := by decide +kernel
theorem dX6_init_18 : decode cX6_init 18 = .ok (.return_, 1) := by decide +kernel
theorem dX6_howMany_0 : decode cX6_howMany 0 = .ok (.iload_n 0, 1) := by decide +kernel
theorem dX6_howMany_1 : decode cX6_howMany 1 = .ok (.iconst 2, 1) := by decide +kernel
theorem dX6_howMany_2 : decode cX6_howMany 2 = .ok (.if_icmp .lt 19, 3) := by decide +kernel
theorem dX6_howMany_5 : decode cX6_howMany 5 = .ok (.iload_n 0, 1) := by decide +kernel
theorem dX6_howMany_6 : decode cX6_howMany 6 = .ok (.iconst 5, 1) := by decide +kernel
theorem dX6_howMany_7 : decode cX6_howMany 7 = .ok (.if_icmp .gt 14, 3) := by decide +kernel
theorem dX6_howMany_10 : decode cX6_howMany 10 = .ok (.iload_n 1, 1) := by decide +kernel
theorem dX6_howMany_11 : decode cX6_howMany 11 = .ok (.iconst 1, 1) := by decide +kernel
theorem dX6_howMany_12 : decode cX6_howMany 12 = .ok (.if_icmp .lt 9, 3) := by decide +kernel
theorem dX6_howMany_15 : decode cX6_howMany 15 = .ok (.iload_n 1, 1) := by decide +kernel
theorem dX6_howMany_16 : decode cX6_howMany 16 = .ok (.bipush 14, 2) := by decide +kernel
theorem dX6_howMany_18 : decode cX6_howMany 18 = .ok (.if_icmp .le 5, 3) := by decide +kernel
theorem dX6_howMany_21 : decode cX6_howMany 21 = .ok (.iconst 0, 1) := by decide +kernel
theorem dX6_howMany_22 : decode cX6_howMany 22 = .ok (.ireturn, 1) := by decide +kernel
theorem dX6_howMany_23 : decode cX6_howMany 23 = .ok (.iconst 1, 1) := by decide +kernel
theorem dX6_howMany_24 : decode cX6_howMany 24 = .ok (.istore_n 2, 1) := by decide +kernel
theorem dX6_howMany_25 : decode cX6_howMany 25 = .ok (.iconst 0, 1) := by decide +kernel
theorem dX6_howMany_26 : decode cX6_howMany 26 = .ok (.istore_n 3, 1) := by decide +kernel
theorem dX6_howMany_27 : decode cX6_howMany 27 = .ok (.iload_n 3, 1) := by decide +kernel
theorem dX6_howMany_28 : decode cX6_howMany 28 = .ok (.iload_n 1, 1) := by decide +kernel
theorem dX6_howMany_29 : decode cX6_howMany 29 = .ok (.if_icmp .ge 22, 3) := by decide +kernel
theorem dX6_howMany_32 : decode cX6_howMany 32 = .ok (.iload_n 2, 1) := by decide +kernel
theorem dX6_howMany_33 : decode cX6_howMany 33 = .ok (.iload_n 0, 1) := by decide +kernel
theorem dX6_howMany_34 : decode cX6_howMany 34 = .ok (.imul, 1) := by decide +kernel
theorem dX6_howMany_35 : decode cX6_howMany 35 = .ok (.istore_n 2, 1) := by decide +kernel
theorem dX6_howMany_36 : decode cX6_howMany 36 = .ok (.iload_n 2, 1) := by decide +kernel
theorem dX6_howMany_37 : decode cX6_howMany 37 = .ok (.sipush 20000, 3) := by decide +kernel
theorem dX6_howMany_40 : decode cX6_howMany 40 = .ok (.if_icmp .le 5, 3) := by decide +kernel
theorem dX6_howMany_43 : decode cX6_howMany 43 = .ok (.iconst 0, 1) := by decide +kernel
theorem dX6_howMany_44 : decode cX6_howMany 44 = .ok (.ireturn, 1) := by decide +kernel
theorem dX6_howMany_45 : decode cX6_howMany 45 = .ok (.iinc 3 1, 3) := by decide +kernel
theorem dX6_howMany_48 : decode cX6_howMany 48 = .ok (.goto (-21), 3) := by decide +kernel
theorem dX6_howMany_51 : decode cX6_howMany 51 = .ok (.iload_n 2, 1) := by decide +kernel
theorem dX6_howMany_52 : decode cX6_howMany 52 = .ok (.ireturn, 1) := by decide +kernel
theorem dX6_become_0 : decode cX6_become 0 = .ok (.aload_n 0, 1) := by decide +kernel
theorem dX6_become_1 : decode cX6_become 1 = .ok (.iload_n 1, 1) := by decide +kernel
theorem dX6_become_2 : decode cX6_become 2 = .ok (.putfield 19, 3) := by decide +kernel
theorem dX6_become_5 : decode cX6_become 5 = .ok (.aload_n 0, 1) := by decide +kernel
theorem dX6_become_6 : decode cX6_become 6 = .ok (.iload_n 2, 1) := by decide +kernel
theorem dX6_become_7 : decode cX6_become 7 = .ok (.putfield 23, 3) := by decide +kernel
theorem dX6_become_10 : decode cX6_become 10 = .ok (.aload_n 0, 1) := by decide +kernel
theorem dX6_become_11 : decode cX6_become 11 = .ok (.getfield 9, 3) := by decide +kernel
theorem dX6_become_14 : decode cX6_become 14 = .ok (.iconst 0, 1) := by decide +kernel
theorem dX6_become_15 : decode cX6_become 15 = .ok (.iconst 1, 1) := by decide +kernel
theorem dX6_become_16 : decode cX6_become 16 = .ok (.iastore, 1) := by decide +kernel
theorem dX6_become_17 : decode cX6_become 17 = .ok (.iconst 1, 1) := by decide +kernel
theorem dX6_become_18 : decode cX6_become 18 = .ok (.istore_n 3, 1) := by decide +kernel
theorem dX6_become_19 : decode cX6_become 19 = .ok (.iload_n 3, 1) := by decide +kernel
theorem dX6_become_20 : decode cX6_become 20 = .ok (.iload_n 2, 1) := by decide +kernel
theorem dX6_become_21 : decode cX6_become 21 = .ok (.if_icmp .gt 25, 3) := by decide +kernel
theorem dX6_become_24 : decode cX6_become 24 = .ok (.aload_n 0, 1) := by decide +kernel
theorem dX6_become_25 : decode cX6_become 25 = .ok (.getfield 9, 3) := by decide +kernel
theorem dX6_become_28 : decode cX6_become 28 = .ok (.iload_n 3, 1) := by decide +kernel
theorem dX6_become_29 : decode cX6_become 29 = .ok (.aload_n 0, 1) := by decide +kernel
theorem dX6_become_30 : decode cX6_become 30 = .ok (.getfield 9, 3) := by decide +kernel
theorem dX6_become_33 : decode cX6_become 33 = .ok (.iload_n 3, 1) := by decide +kernel
theorem dX6_become_34 : decode cX6_become 34 = .ok (.iconst 1, 1) := by decide +kernel
theorem dX6_become_35 : decode cX6_become 35 = .ok (.isub, 1) := by decide +kernel
theorem dX6_become_36 : decode cX6_become 36 = .ok (.iaload, 1) := by decide +kernel
theorem dX6_become_37 : decode cX6_become 37 = .ok (.iload_n 1, 1) := by decide +kernel
theorem dX6_become_38 : decode cX6_become 38 = .ok (.imul, 1) := by decide +kernel
theorem dX6_become_39 : decode cX6_become 39 = .ok (.iastore, 1) := by decide +kernel
theorem dX6_become_40 : decode cX6_become 40 = .ok (.iinc 3 1, 3) := by decide +kernel
theorem dX6_become_43 : decode cX6_become 43 = .ok (.goto (-24), 3) := by decide +kernel
theorem dX6_become_46 : decode cX6_become 46 = .ok (.aload_n 0, 1) := by decide +kernel
theorem dX6_become_47 : decode cX6_become 47 = .ok (.aload_n 0, 1) := by decide +kernel
theorem dX6_become_48 : decode cX6_become 48 = .ok (.getfield 9, 3) := by decide +kernel
theorem dX6_become_51 : decode cX6_become 51 = .ok (.iload_n 2, 1) := by decide +kernel
theorem dX6_become_52 : decode cX6_become 52 = .ok (.iaload, 1) := by decide +kernel
theorem dX6_become_53 : decode cX6_become 53 = .ok (.putfield 26, 3) := by decide +kernel
theorem dX6_become_56 : decode cX6_become 56 = .ok (.aload_n 0, 1) := by decide +kernel
theorem dX6_become_57 : decode cX6_become 57 = .ok (.aload_n 0, 1) := by decide +kernel
theorem dX6_become_58 : decode cX6_become 58 = .ok (.getfield 9, 3) := by decide +kernel
theorem dX6_become_61 : decode cX6_become 61 = .ok (.iload_n 2, 1) := by decide +kernel
theorem dX6_become_62 : decode cX6_become 62 = .ok (.iconst 1, 1) := by decide +kernel
theorem dX6_become_63 : decode cX6_become 63 = .ok (.isub, 1) := by decide +kernel
theorem dX6_become_64 : decode cX6_become 64 = .ok (.iaload, 1) := by decide +kernel
theorem dX6_become_65 : decode cX6_become 65 = .ok (.putfield 29, 3) := by decide +kernel
theorem dX6_become_68 : decode cX6_become 68 = .ok (.return_, 1) := by decide +kernel
theorem dX6_has_0 : decode cX6_has 0 = .ok (.iload_n 1, 1) := by decide +kernel
theorem dX6_has_1 : decode cX6_has 1 = .ok (.ifCond .lt 15, 3) := by decide +kernel
theorem dX6_has_4 : decode cX6_has 4 = .ok (.iload_n 1, 1) := by decide +kernel
theorem dX6_has_5 : decode cX6_has 5 = .ok (.aload_n 0, 1) := by decide +kernel
theorem dX6_has_6 : decode cX6_has 6 = .ok (.getfield 26, 3) := by decide +kernel
theorem dX6_has_9 : decode cX6_has 9 = .ok (.if_icmp .ge 7, 3) := by decide +kernel
theorem dX6_has_12 : decode cX6_has 12 = .ok (.iconst 1, 1) := by decide +kernel
theorem dX6_has_13 : decode cX6_has 13 = .ok (.goto 4, 3) := by decide +kernel
theorem dX6_has_16 : decode cX6_has 16 = .ok (.iconst 0, 1) := by decide +kernel
theorem dX6_has_17 : decode cX6_has 17 = .ok (.ireturn, 1) := by decide +kernel
theorem dX6_isLetter_0 : decode cX6_isLetter 0 = .ok (.iload_n 1, 1) := by decide +kernel
theorem dX6_isLetter_1 : decode cX6_isLetter 1 = .ok (.ifCond .lt 15, 3) := by decide +kernel
theorem dX6_isLetter_4 : decode cX6_isLetter 4 = .ok (.iload_n 1, 1) := by decide +kernel
theorem dX6_isLetter_5 : decode cX6_isLetter 5 = .ok (.aload_n 0, 1) := by decide +kernel
theorem dX6_isLetter_6 : decode cX6_isLetter 6 = .ok (.getfield 19, 3) := by decide +kernel
theorem dX6_isLetter_9 : decode cX6_isLetter 9 = .ok (.if_icmp .ge 7, 3) := by decide +kernel
theorem dX6_isLetter_12 : decode cX6_isLetter 12 = .ok (.iconst 1, 1) := by decide +kernel
theorem dX6_isLetter_13 : decode cX6_isLetter 13 = .ok (.goto 4, 3) := by decide +kernel
theorem dX6_isLetter_16 : decode cX6_isLetter 16 = .ok (.iconst 0, 1) := by decide +kernel
theorem dX6_isLetter_17 : decode cX6_isLetter 17 = .ok (.ireturn, 1) := by decide +kernel
theorem dX6_differInFirst_0 : decode cX6_differInFirst 0 = .ok (.iload_n 1, 1) := by decide +kernel
theorem dX6_differInFirst_1 : decode cX6_differInFirst 1 = .ok (.iload_n 2, 1) := by decide +kernel
theorem dX6_differInFirst_2 : decode cX6_differInFirst 2 = .ok (.if_icmp .eq 22, 3) := by decide +kernel
theorem dX6_differInFirst_5 : decode cX6_differInFirst 5 = .ok (.iload_n 1, 1) := by decide +kernel
theorem dX6_differInFirst_6 : decode cX6_differInFirst 6 = .ok (.aload_n 0, 1) := by decide +kernel
theorem dX6_differInFirst_7 : decode cX6_differInFirst 7 = .ok (.getfield 29, 3) := by decide +kernel
theorem dX6_differInFirst_10 : decode cX6_differInFirst 10 = .ok (.irem, 1) := by decide +kernel
theorem dX6_differInFirst_11 : decode cX6_differInFirst 11 = .ok (.iload_n 2, 1) := by decide +kernel
theorem dX6_differInFirst_12 : decode cX6_differInFirst 12 = .ok (.aload_n 0, 1) := by decide +kernel
theorem dX6_differInFirst_13 : decode cX6_differInFirst 13 = .ok (.getfield 29, 3) := by decide +kernel
theorem dX6_differInFirst_16 : decode cX6_differInFirst 16 = .ok (.irem, 1) := by decide +kernel
theorem dX6_differInFirst_17 : decode cX6_differInFirst 17 = .ok (.if_icmp .ne 7, 3) := by decide +kernel
theorem dX6_differInFirst_20 : decode cX6_differInFirst 20 = .ok (.iconst 1, 1) := by decide +kernel
theorem dX6_differInFirst_21 : decode cX6_differInFirst 21 = .ok (.goto 4, 3) := by decide +kernel
theorem dX6_differInFirst_24 : decode cX6_differInFirst 24 = .ok (.iconst 0, 1) := by decide +kernel
theorem dX6_differInFirst_25 : decode cX6_differInFirst 25 = .ok (.ireturn, 1) := by decide +kernel
theorem dX6_turned_0 : decode cX6_turned 0 = .ok (.iload_n 2, 1) := by decide +kernel
theorem dX6_turned_1 : decode cX6_turned 1 = .ok (.aload_n 0, 1) := by decide +kernel
theorem dX6_turned_2 : decode cX6_turned 2 = .ok (.getfield 23, 3) := by decide +kernel
theorem dX6_turned_5 : decode cX6_turned 5 = .ok (.irem, 1) := by decide +kernel
theorem dX6_turned_6 : decode cX6_turned 6 = .ok (.istore_n 3, 1) := by decide +kernel
theorem dX6_turned_7 : decode cX6_turned 7 = .ok (.aload_n 0, 1) := by decide +kernel
theorem dX6_turned_8 : decode cX6_turned 8 = .ok (.getfield 9, 3) := by decide +kernel
theorem dX6_turned_11 : decode cX6_turned 11 = .ok (.aload_n 0, 1) := by decide +kernel
theorem dX6_turned_12 : decode cX6_turned 12 = .ok (.getfield 23, 3) := by decide +kernel
theorem dX6_turned_15 : decode cX6_turned 15 = .ok (.iload_n 3, 1) := by decide +kernel
theorem dX6_turned_16 : decode cX6_turned 16 = .ok (.isub, 1) := by decide +kernel
theorem dX6_turned_17 : decode cX6_turned 17 = .ok (.iaload, 1) := by decide +kernel
theorem dX6_turned_18 : decode cX6_turned 18 = .ok (.istore 4, 2) := by decide +kernel
theorem dX6_turned_20 : decode cX6_turned 20 = .ok (.iload_n 1, 1) := by decide +kernel
theorem dX6_turned_21 : decode cX6_turned 21 = .ok (.iload 4, 2) := by decide +kernel
theorem dX6_turned_23 : decode cX6_turned 23 = .ok (.irem, 1) := by decide +kernel
theorem dX6_turned_24 : decode cX6_turned 24 = .ok (.aload_n 0, 1) := by decide +kernel
theorem dX6_turned_25 : decode cX6_turned 25 = .ok (.getfield 9, 3) := by decide +kernel
theorem dX6_turned_28 : decode cX6_turned 28 = .ok (.iload_n 3, 1) := by decide +kernel
theorem dX6_turned_29 : decode cX6_turned 29 = .ok (.iaload, 1) := by decide +kernel
theorem dX6_turned_30 : decode cX6_turned 30 = .ok (.imul, 1) := by decide +kernel
theorem dX6_turned_31 : decode cX6_turned 31 = .ok (.iload_n 1, 1) := by decide +kernel
theorem dX6_turned_32 : decode cX6_turned 32 = .ok (.iload 4, 2) := by decide +kernel
theorem dX6_turned_34 : decode cX6_turned 34 = .ok (.idiv, 1) := by decide +kernel
theorem dX6_turned_35 : decode cX6_turned 35 = .ok (.iadd, 1) := by decide +kernel
theorem dX6_turned_36 : decode cX6_turned 36 = .ok (.ireturn, 1) := by decide +kernel
theorem dX6_turnedOnce_0 : decode cX6_turnedOnce 0 = .ok (.iload_n 1, 1) := by decide +kernel
theorem dX6_turnedOnce_1 : decode cX6_turnedOnce 1 = .ok (.aload_n 0, 1) := by decide +kernel
theorem dX6_turnedOnce_2 : decode cX6_turnedOnce 2 = .ok (.getfield 29, 3) := by decide +kernel
theorem dX6_turnedOnce_5 : decode cX6_turnedOnce 5 = .ok (.irem, 1) := by decide +kernel
theorem dX6_turnedOnce_6 : decode cX6_turnedOnce 6 = .ok (.aload_n 0, 1) := by decide +kernel
theorem dX6_turnedOnce_7 : decode cX6_turnedOnce 7 = .ok (.getfield 19, 3) := by decide +kernel
theorem dX6_turnedOnce_10 : decode cX6_turnedOnce 10 = .ok (.imul, 1) := by decide +kernel
theorem dX6_turnedOnce_11 : decode cX6_turnedOnce 11 = .ok (.iload_n 1, 1) := by decide +kernel
theorem dX6_turnedOnce_12 : decode cX6_turnedOnce 12 = .ok (.aload_n 0, 1) := by decide +kernel
theorem dX6_turnedOnce_13 : decode cX6_turnedOnce 13 = .ok (.getfield 29, 3) := by decide +kernel
theorem dX6_turnedOnce_16 : decode cX6_turnedOnce 16 = .ok (.idiv, 1) := by decide +kernel
theorem dX6_turnedOnce_17 : decode cX6_turnedOnce 17 = .ok (.iadd, 1) := by decide +kernel
theorem dX6_turnedOnce_18 : decode cX6_turnedOnce 18 = .ok (.ireturn, 1) := by decide +kernel
theorem dX6_leastOf_0 : decode cX6_leastOf 0 = .ok (.iload_n 1, 1) := by decide +kernel
theorem dX6_leastOf_1 : decode cX6_leastOf 1 = .ok (.istore_n 2, 1) := by decide +kernel
theorem dX6_leastOf_2 : decode cX6_leastOf 2 = .ok (.iload_n 1, 1) := by decide +kernel
theorem dX6_leastOf_3 : decode cX6_leastOf 3 = .ok (.istore_n 3, 1) := by decide +kernel
theorem dX6_leastOf_4 : decode cX6_leastOf 4 = .ok (.iconst 1, 1) := by decide +kernel
theorem dX6_leastOf_5 : decode cX6_leastOf 5 = .ok (.istore 4, 2) := by decide +kernel
theorem dX6_leastOf_7 : decode cX6_leastOf 7 = .ok (.iload 4, 2) := by decide +kernel
theorem dX6_leastOf_9 : decode cX6_leastOf 9 = .ok (.aload_n 0, 1) := by decide +kernel
theorem dX6_leastOf_10 : decode cX6_leastOf 10 = .ok (.getfield 23, 3) := by decide +kernel
theorem dX6_leastOf_13 : decode cX6_leastOf 13 = .ok (.if_icmp .ge 21, 3) := by decide +kernel
theorem dX6_leastOf_16 : decode cX6_leastOf 16 = .ok (.aload_n 0, 1) := by decide +kernel
theorem dX6_leastOf_17 : decode cX6_leastOf 17 = .ok (.iload_n 3, 1) := by decide +kernel
theorem dX6_leastOf_18 : decode cX6_leastOf 18 = .ok (.invokevirtual 32, 3) := by decide +kernel
theorem dX6_leastOf_21 : decode cX6_leastOf 21 = .ok (.istore_n 3, 1) := by decide +kernel
theorem dX6_leastOf_22 : decode cX6_leastOf 22 = .ok (.iload_n 2, 1) := by decide +kernel
theorem dX6_leastOf_23 : decode cX6_leastOf 23 = .ok (.iload_n 3, 1) := by decide +kernel
theorem dX6_leastOf_24 : decode cX6_leastOf 24 = .ok (.invokestatic 36, 3) := by decide +kernel
theorem dX6_leastOf_27 : decode cX6_leastOf 27 = .ok (.istore_n 2, 1) := by decide +kernel
theorem dX6_leastOf_28 : decode cX6_leastOf 28 = .ok (.iinc 4 1, 3) := by decide +kernel
theorem dX6_leastOf_31 : decode cX6_leastOf 31 = .ok (.goto (-24), 3) := by decide +kernel
theorem dX6_leastOf_34 : decode cX6_leastOf 34 = .ok (.iload_n 2, 1) := by decide +kernel
theorem dX6_leastOf_35 : decode cX6_leastOf 35 = .ok (.ireturn, 1) := by decide +kernel
theorem dX6_stepsToLeast_0 : decode cX6_stepsToLeast 0 = .ok (.iload_n 1, 1) := by decide +kernel
theorem dX6_stepsToLeast_1 : decode cX6_stepsToLeast 1 = .ok (.istore_n 2, 1) := by decide +kernel
theorem dX6_stepsToLeast_2 : decode cX6_stepsToLeast 2 = .ok (.iconst 0, 1) := by decide +kernel
theorem dX6_stepsToLeast_3 : decode cX6_stepsToLeast 3 = .ok (.istore_n 3, 1) := by decide +kernel
theorem dX6_stepsToLeast_4 : decode cX6_stepsToLeast 4 = .ok (.iload_n 1, 1) := by decide +kernel
theorem dX6_stepsToLeast_5 : decode cX6_stepsToLeast 5 = .ok (.istore 4, 2) := by decide +kernel
theorem dX6_stepsToLeast_7 : decode cX6_stepsToLeast 7 = .ok (.iconst 1, 1) := by decide +kernel
theorem dX6_stepsToLeast_8 : decode cX6_stepsToLeast 8 = .ok (.istore 5, 2) := by decide +kernel
theorem dX6_stepsToLeast_10 : decode cX6_stepsToLeast 10 = .ok (.iload 5, 2) := by decide +kernel
theorem dX6_stepsToLeast_12 : decode cX6_stepsToLeast 12 = .ok (.aload_n 0, 1) := by decide +kernel
theorem dX6_stepsToLeast_13 : decode cX6_stepsToLeast 13 = .ok (.getfield 23, 3) := by decide +kernel
theorem dX6_stepsToLeast_16 : decode cX6_stepsToLeast 16 = .ok (.if_icmp .ge 29, 3) := by decide +kernel
theorem dX6_stepsToLeast_19 : decode cX6_stepsToLeast 19 = .ok (.aload_n 0, 1) := by decide +kernel
theorem dX6_stepsToLeast_20 : decode cX6_stepsToLeast 20 = .ok (.iload 4, 2) := by decide +kernel
theorem dX6_stepsToLeast_22 : decode cX6_stepsToLeast 22 = .ok (.invokevirtual 32, 3) := by decide +kernel
theorem dX6_stepsToLeast_25 : decode cX6_stepsToLeast 25 = .ok (.istore 4, 2) := by decide +kernel
theorem dX6_stepsToLeast_27 : decode cX6_stepsToLeast 27 = .ok (.iload 4, 2) := by decide +kernel
theorem dX6_stepsToLeast_29 : decode cX6_stepsToLeast 29 = .ok (.iload_n 2, 1) := by decide +kernel
theorem dX6_stepsToLeast_30 : decode cX6_stepsToLeast 30 = .ok (.if_icmp .ge 9, 3) := by decide +kernel
theorem dX6_stepsToLeast_33 : decode cX6_stepsToLeast 33 = .ok (.iload 4, 2) := by decide +kernel
theorem dX6_stepsToLeast_35 : decode cX6_stepsToLeast 35 = .ok (.istore_n 2, 1) := by decide +kernel
theorem dX6_stepsToLeast_36 : decode cX6_stepsToLeast 36 = .ok (.iload 5, 2) := by decide +kernel
theorem dX6_stepsToLeast_38 : decode cX6_stepsToLeast 38 = .ok (.istore_n 3, 1) := by decide +kernel
theorem dX6_stepsToLeast_39 : decode cX6_stepsToLeast 39 = .ok (.iinc 5 1, 3) := by decide +kernel
theorem dX6_stepsToLeast_42 : decode cX6_stepsToLeast 42 = .ok (.goto (-32), 3) := by decide +kernel
theorem dX6_stepsToLeast_45 : decode cX6_stepsToLeast 45 = .ok (.iload_n 3, 1) := by decide +kernel
theorem dX6_stepsToLeast_46 : decode cX6_stepsToLeast 46 = .ok (.ireturn, 1) := by decide +kernel
theorem dX6_ringSize_0 : decode cX6_ringSize 0 = .ok (.aload_n 0, 1) := by decide +kernel
theorem dX6_ringSize_1 : decode cX6_ringSize 1 = .ok (.iload_n 1, 1) := by decide +kernel
theorem dX6_ringSize_2 : decode cX6_ringSize 2 = .ok (.invokevirtual 32, 3) := by decide +kernel
theorem dX6_ringSize_5 : decode cX6_ringSize 5 = .ok (.istore_n 2, 1) := by decide +kernel
theorem dX6_ringSize_6 : decode cX6_ringSize 6 = .ok (.iconst 1, 1) := by decide +kernel
theorem dX6_ringSize_7 : decode cX6_ringSize 7 = .ok (.istore_n 3, 1) := by decide +kernel
theorem dX6_ringSize_8 : decode cX6_ringSize 8 = .ok (.iload_n 3, 1) := by decide +kernel
theorem dX6_ringSize_9 : decode cX6_ringSize 9 = .ok (.aload_n 0, 1) := by decide +kernel
theorem dX6_ringSize_10 : decode cX6_ringSize 10 = .ok (.getfield 23, 3) := by decide +kernel
theorem dX6_ringSize_13 : decode cX6_ringSize 13 = .ok (.if_icmp .ge 20, 3) := by decide +kernel
theorem dX6_ringSize_16 : decode cX6_ringSize 16 = .ok (.iload_n 2, 1) := by decide +kernel
theorem dX6_ringSize_17 : decode cX6_ringSize 17 = .ok (.iload_n 1, 1) := by decide +kernel
theorem dX6_ringSize_18 : decode cX6_ringSize 18 = .ok (.if_icmp .eq 15, 3) := by decide +kernel
theorem dX6_ringSize_21 : decode cX6_ringSize 21 = .ok (.aload_n 0, 1) := by decide +kernel
theorem dX6_ringSize_22 : decode cX6_ringSize 22 = .ok (.iload_n 2, 1) := by decide +kernel
theorem dX6_ringSize_23 : decode cX6_ringSize 23 = .ok (.invokevirtual 32, 3) := by decide +kernel
theorem dX6_ringSize_26 : decode cX6_ringSize 26 = .ok (.istore_n 2, 1) := by decide +kernel
theorem dX6_ringSize_27 : decode cX6_ringSize 27 = .ok (.iinc 3 1, 3) := by decide +kernel
theorem dX6_ringSize_30 : decode cX6_ringSize 30 = .ok (.goto (-22), 3) := by decide +kernel
theorem dX6_ringSize_33 : decode cX6_ringSize 33 = .ok (.iload_n 3, 1) := by decide +kernel
theorem dX6_ringSize_34 : decode cX6_ringSize 34 = .ok (.ireturn, 1) := by decide +kernel
theorem dX6_backward_0 : decode cX6_backward 0 = .ok (.iload_n 1, 1) := by decide +kernel
theorem dX6_backward_1 : decode cX6_backward 1 = .ok (.istore_n 2, 1) := by decide +kernel
theorem dX6_backward_2 : decode cX6_backward 2 = .ok (.iconst 0, 1) := by decide +kernel
theorem dX6_backward_3 : decode cX6_backward 3 = .ok (.istore_n 3, 1) := by decide +kernel
theorem dX6_backward_4 : decode cX6_backward 4 = .ok (.iconst 0, 1) := by decide +kernel
theorem dX6_backward_5 : decode cX6_backward 5 = .ok (.istore 4, 2) := by decide +kernel
theorem dX6_backward_7 : decode cX6_backward 7 = .ok (.iload 4, 2) := by decide +kernel
theorem dX6_backward_9 : decode cX6_backward 9 = .ok (.aload_n 0, 1) := by decide +kernel
theorem dX6_backward_10 : decode cX6_backward 10 = .ok (.getfield 23, 3) := by decide +kernel
theorem dX6_backward_13 : decode cX6_backward 13 = .ok (.if_icmp .ge 30, 3) := by decide +kernel
theorem dX6_backward_16 : decode cX6_backward 16 = .ok (.iload_n 3, 1) := by decide +kernel
theorem dX6_backward_17 : decode cX6_backward 17 = .ok (.aload_n 0, 1) := by decide +kernel
theorem dX6_backward_18 : decode cX6_backward 18 = .ok (.getfield 19, 3) := by decide +kernel
theorem dX6_backward_21 : decode cX6_backward 21 = .ok (.imul, 1) := by decide +kernel
theorem dX6_backward_22 : decode cX6_backward 22 = .ok (.iload_n 2, 1) := by decide +kernel
theorem dX6_backward_23 : decode cX6_backward 23 = .ok (.aload_n 0, 1) := by decide +kernel
theorem dX6_backward_24 : decode cX6_backward 24 = .ok (.getfield 19, 3) := by decide +kernel
theorem dX6_backward_27 : decode cX6_backward 27 = .ok (.irem, 1) := by decide +kernel
theorem dX6_backward_28 : decode cX6_backward 28 = .ok (.iadd, 1) := by decide +kernel
theorem dX6_backward_29 : decode cX6_backward 29 = .ok (.istore_n 3, 1) := by decide +kernel
theorem dX6_backward_30 : decode cX6_backward 30 = .ok (.iload_n 2, 1) := by decide +kernel
theorem dX6_backward_31 : decode cX6_backward 31 = .ok (.aload_n 0, 1) := by decide +kernel
theorem dX6_backward_32 : decode cX6_backward 32 = .ok (.getfield 19, 3) := by decide +kernel
theorem dX6_backward_35 : decode cX6_backward 35 = .ok (.idiv, 1) := by decide +kernel
theorem dX6_backward_36 : decode cX6_backward 36 = .ok (.istore_n 2, 1) := by decide +kernel
theorem dX6_backward_37 : decode cX6_backward 37 = .ok (.iinc 4 1, 3) := by decide +kernel
theorem dX6_backward_40 : decode cX6_backward 40 = .ok (.goto (-33), 3) := by decide +kernel
theorem dX6_backward_43 : decode cX6_backward 43 = .ok (.iload_n 3, 1) := by decide +kernel
theorem dX6_backward_44 : decode cX6_backward 44 = .ok (.ireturn, 1) := by decide +kernel
theorem dJ13_bitCount_95d88_0 : decode cJ13_bitCount_95d88 0 = .ok (.lload_n 0, 1) := by decide +kernel
theorem dJ13_bitCount_95d88_1 : decode cJ13_bitCount_95d88 1 = .ok (.lload_n 0, 1) := by decide +kernel
theorem dJ13_bitCount_95d88_2 : decode cJ13_bitCount_95d88 2 = .ok (.iconst 1, 1) := by decide +kernel
theorem dJ13_bitCount_95d88_3 : decode cJ13_bitCount_95d88 3 = .ok (.lushr, 1) := by decide +kernel
theorem dJ13_bitCount_95d88_4 : decode cJ13_bitCount_95d88 4 = .ok (.ldc2_w 314, 3) := by decide +kernel
theorem dJ13_bitCount_95d88_7 : decode cJ13_bitCount_95d88 7 = .ok (.land, 1) := by decide +kernel
theorem dJ13_bitCount_95d88_8 : decode cJ13_bitCount_95d88 8 = .ok (.lsub, 1) := by decide +kernel
theorem dJ13_bitCount_95d88_9 : decode cJ13_bitCount_95d88 9 = .ok (.lstore_n 0, 1) := by decide +kernel
theorem dJ13_bitCount_95d88_10 : decode cJ13_bitCount_95d88 10 = .ok (.lload_n 0, 1) := by decide +kernel
theorem dJ13_bitCount_95d88_11 : decode cJ13_bitCount_95d88 11 = .ok (.ldc2_w 316, 3) := by decide +kernel
theorem dJ13_bitCount_95d88_14 : decode cJ13_bitCount_95d88 14 = .ok (.land, 1) := by decide +kernel
theorem dJ13_bitCount_95d88_15 : decode cJ13_bitCount_95d88 15 = .ok (.lload_n 0, 1) := by decide +kernel
theorem dJ13_bitCount_95d88_16 : decode cJ13_bitCount_95d88 16 = .ok (.iconst 2, 1) := by decide +kernel
theorem dJ13_bitCount_95d88_17 : decode cJ13_bitCount_95d88 17 = .ok (.lushr, 1) := by decide +kernel
theorem dJ13_bitCount_95d88_18 : decode cJ13_bitCount_95d88 18 = .ok (.ldc2_w 316, 3) := by decide +kernel
theorem dJ13_bitCount_95d88_21 : decode cJ13_bitCount_95d88 21 = .ok (.land, 1) := by decide +kernel
theorem dJ13_bitCount_95d88_22 : decode cJ13_bitCount_95d88 22 = .ok (.ladd, 1) := by decide +kernel
theorem dJ13_bitCount_95d88_23 : decode cJ13_bitCount_95d88 23 = .ok (.lstore_n 0, 1) := by decide +kernel
theorem dJ13_bitCount_95d88_24 : decode cJ13_bitCount_95d88 24 = .ok (.lload_n 0, 1) := by decide +kernel
theorem dJ13_bitCount_95d88_25 : decode cJ13_bitCount_95d88 25 = .ok (.lload_n 0, 1) := by decide +kernel
theorem dJ13_bitCount_95d88_26 : decode cJ13_bitCount_95d88 26 = .ok (.iconst 4, 1) := by decide +kernel
theorem dJ13_bitCount_95d88_27 : decode cJ13_bitCount_95d88 27 = .ok (.lushr, 1) := by decide +kernel
theorem dJ13_bitCount_95d88_28 : decode cJ13_bitCount_95d88 28 = .ok (.ladd, 1) := by decide +kernel
theorem dJ13_bitCount_95d88_29 : decode cJ13_bitCount_95d88 29 = .ok (.ldc2_w 318, 3) := by decide +kernel
theorem dJ13_bitCount_95d88_32 : decode cJ13_bitCount_95d88 32 = .ok (.land, 1) := by decide +kernel
theorem dJ13_bitCount_95d88_33 : decode cJ13_bitCount_95d88 33 = .ok (.lstore_n 0, 1) := by decide +kernel
theorem dJ13_bitCount_95d88_34 : decode cJ13_bitCount_95d88 34 = .ok (.lload_n 0, 1) := by decide +kernel
theorem dJ13_bitCount_95d88_35 : decode cJ13_bitCount_95d88 35 = .ok (.lload_n 0, 1) := by decide +kernel
theorem dJ13_bitCount_95d88_36 : decode cJ13_bitCount_95d88 36 = .ok (.bipush 8, 2) := by decide +kernel
theorem dJ13_bitCount_95d88_38 : decode cJ13_bitCount_95d88 38 = .ok (.lushr, 1) := by decide +kernel
theorem dJ13_bitCount_95d88_39 : decode cJ13_bitCount_95d88 39 = .ok (.ladd, 1) := by decide +kernel
theorem dJ13_bitCount_95d88_40 : decode cJ13_bitCount_95d88 40 = .ok (.lstore_n 0, 1) := by decide +kernel
theorem dJ13_bitCount_95d88_41 : decode cJ13_bitCount_95d88 41 = .ok (.lload_n 0, 1) := by decide +kernel
theorem dJ13_bitCount_95d88_42 : decode cJ13_bitCount_95d88 42 = .ok (.lload_n 0, 1) := by decide +kernel
theorem dJ13_bitCount_95d88_43 : decode cJ13_bitCount_95d88 43 = .ok (.bipush 16, 2) := by decide +kernel
theorem dJ13_bitCount_95d88_45 : decode cJ13_bitCount_95d88 45 = .ok (.lushr, 1) := by decide +kernel
theorem dJ13_bitCount_95d88_46 : decode cJ13_bitCount_95d88 46 = .ok (.ladd, 1) := by decide +kernel
theorem dJ13_bitCount_95d88_47 : decode cJ13_bitCount_95d88 47 = .ok (.lstore_n 0, 1) := by decide +kernel
theorem dJ13_bitCount_95d88_48 : decode cJ13_bitCount_95d88 48 = .ok (.lload_n 0, 1) := by decide +kernel
theorem dJ13_bitCount_95d88_49 : decode cJ13_bitCount_95d88 49 = .ok (.lload_n 0, 1) := by decide +kernel
theorem dJ13_bitCount_95d88_50 : decode cJ13_bitCount_95d88 50 = .ok (.bipush 32, 2) := by decide +kernel
theorem dJ13_bitCount_95d88_52 : decode cJ13_bitCount_95d88 52 = .ok (.lushr, 1) := by decide +kernel
theorem dJ13_bitCount_95d88_53 : decode cJ13_bitCount_95d88 53 = .ok (.ladd, 1) := by decide +kernel
theorem dJ13_bitCount_95d88_54 : decode cJ13_bitCount_95d88 54 = .ok (.lstore_n 0, 1) := by decide +kernel
theorem dJ13_bitCount_95d88_55 : decode cJ13_bitCount_95d88 55 = .ok (.lload_n 0, 1) := by decide +kernel
theorem dJ13_bitCount_95d88_56 : decode cJ13_bitCount_95d88 56 = .ok (.l2i, 1) := by decide +kernel
theorem dJ13_bitCount_95d88_57 : decode cJ13_bitCount_95d88 57 = .ok (.bipush 127, 2) := by decide +kernel
theorem dJ13_bitCount_95d88_59 : decode cJ13_bitCount_95d88 59 = .ok (.iand, 1) := by decide +kernel
theorem dJ13_bitCount_95d88_60 : decode cJ13_bitCount_95d88 60 = .ok (.ireturn, 1) := by decide +kernel
theorem dJ9_min_7cf53_0 : decode cJ9_min_7cf53 0 = .ok (.iload_n 0, 1) := by decide +kernel
theorem dJ9_min_7cf53_1 : decode cJ9_min_7cf53 1 = .ok (.iload_n 1, 1) := by decide +kernel
theorem dJ9_min_7cf53_2 : decode cJ9_min_7cf53 2 = .ok (.if_icmp .gt 7, 3) := by decide +kernel
theorem dJ9_min_7cf53_5 : decode cJ9_min_7cf53 5 = .ok (.iload_n 0, 1) := by decide +kernel
theorem dJ9_min_7cf53_6 : decode cJ9_min_7cf53 6 = .ok (.goto 4, 3) := by decide +kernel
theorem dJ9_min_7cf53_9 : decode cJ9_min_7cf53 9 = .ok (.iload_n 1, 1) := by decide +kernel
theorem dJ9_min_7cf53_10 : decode cJ9_min_7cf53 10 = .ok (.ireturn, 1) := by decide +kernel
theorem dJ7_rangeCheck_23922_0 : decode cJ7_rangeCheck_23922 0 = .ok (.iload_n 1, 1) := by decide +kernel
theorem dJ7_rangeCheck_23922_1 : decode cJ7_rangeCheck_23922 1 = .ok (.iload_n 2, 1) := by decide +kernel
theorem dJ7_rangeCheck_23922_2 : decode cJ7_rangeCheck_23922 2 = .ok (.if_icmp .le 44, 3) := by decide +kernel
theorem dJ7_rangeCheck_23922_46 : decode cJ7_rangeCheck_23922 46 = .ok (.iload_n 1, 1) := by decide +kernel
theorem dJ7_rangeCheck_23922_47 : decode cJ7_rangeCheck_23922 47 = .ok (.ifCond .ge 12, 3) := by decide +kernel
theorem dJ7_rangeCheck_23922_50 : decode cJ7_rangeCheck_23922 50 = .ok (.new 68, 3) := by decide +kernel
theorem dJ7_rangeCheck_23922_53 : decode cJ7_rangeCheck_23922 53 = .ok (.dup, 1) := by decide +kernel
theorem dJ7_rangeCheck_23922_54 : decode cJ7_rangeCheck_23922 54 = .ok (.iload_n 1, 1) := by decide +kernel
theorem dJ7_rangeCheck_23922_55 : decode cJ7_rangeCheck_23922 55 = .ok (.invokespecial 70, 3) := by decide +kernel
theorem dJ7_rangeCheck_23922_58 : decode cJ7_rangeCheck_23922 58 = .ok (.athrow, 1) := by decide +kernel
theorem dJ7_rangeCheck_23922_59 : decode cJ7_rangeCheck_23922 59 = .ok (.iload_n 2, 1) := by decide +kernel
theorem dJ7_rangeCheck_23922_60 : decode cJ7_rangeCheck_23922 60 = .ok (.iload_n 0, 1) := by decide +kernel
theorem dJ7_rangeCheck_23922_61 : decode cJ7_rangeCheck_23922 61 = .ok (.if_icmp .le 12, 3) := by decide +kernel
theorem dJ7_rangeCheck_23922_64 : decode cJ7_rangeCheck_23922 64 = .ok (.new 68, 3) := by decide +kernel
theorem dJ7_rangeCheck_23922_67 : decode cJ7_rangeCheck_23922 67 = .ok (.dup, 1) := by decide +kernel
theorem dJ7_rangeCheck_23922_68 : decode cJ7_rangeCheck_23922 68 = .ok (.iload_n 2, 1) := by decide +kernel
theorem dJ7_rangeCheck_23922_69 : decode cJ7_rangeCheck_23922 69 = .ok (.invokespecial 70, 3) := by decide +kernel
theorem dJ7_rangeCheck_23922_72 : decode cJ7_rangeCheck_23922 72 = .ok (.athrow, 1) := by decide +kernel
theorem dJ7_rangeCheck_23922_73 : decode cJ7_rangeCheck_23922 73 = .ok (.return_, 1) := by decide +kernel
theorem dJ7_fill_d0a16_0 : decode cJ7_fill_d0a16 0 = .ok (.iconst 0, 1) := by decide +kernel
theorem dJ7_fill_d0a16_1 : decode cJ7_fill_d0a16 1 = .ok (.istore_n 3, 1) := by decide +kernel
theorem dJ7_fill_d0a16_2 : decode cJ7_fill_d0a16 2 = .ok (.aload_n 0, 1) := by decide +kernel
theorem dJ7_fill_d0a16_3 : decode cJ7_fill_d0a16 3 = .ok (.arraylength, 1) := by decide +kernel
theorem dJ7_fill_d0a16_4 : decode cJ7_fill_d0a16 4 = .ok (.istore 4, 2) := by decide +kernel
theorem dJ7_fill_d0a16_6 : decode cJ7_fill_d0a16 6 = .ok (.iload_n 3, 1) := by decide +kernel
theorem dJ7_fill_d0a16_7 : decode cJ7_fill_d0a16 7 = .ok (.iload 4, 2) := by decide +kernel
theorem dJ7_fill_d0a16_9 : decode cJ7_fill_d0a16 9 = .ok (.if_icmp .ge 13, 3) := by decide +kernel
theorem dJ7_fill_d0a16_12 : decode cJ7_fill_d0a16 12 = .ok (.aload_n 0, 1) := by decide +kernel
theorem dJ7_fill_d0a16_13 : decode cJ7_fill_d0a16 13 = .ok (.iload_n 3, 1) := by decide +kernel
theorem dJ7_fill_d0a16_14 : decode cJ7_fill_d0a16 14 = .ok (.lload_n 1, 1) := by decide +kernel
theorem dJ7_fill_d0a16_15 : decode cJ7_fill_d0a16 15 = .ok (.lastore, 1) := by decide +kernel
theorem dJ7_fill_d0a16_16 : decode cJ7_fill_d0a16 16 = .ok (.iinc 3 1, 3) := by decide +kernel
theorem dJ7_fill_d0a16_19 : decode cJ7_fill_d0a16 19 = .ok (.goto (-13), 3) := by decide +kernel
theorem dJ7_fill_d0a16_22 : decode cJ7_fill_d0a16 22 = .ok (.return_, 1) := by decide +kernel
theorem dJ7_fill_53178_0 : decode cJ7_fill_53178 0 = .ok (.iconst 0, 1) := by decide +kernel
theorem dJ7_fill_53178_1 : decode cJ7_fill_53178 1 = .ok (.istore_n 2, 1) := by decide +kernel
theorem dJ7_fill_53178_2 : decode cJ7_fill_53178 2 = .ok (.aload_n 0, 1) := by decide +kernel
theorem dJ7_fill_53178_3 : decode cJ7_fill_53178 3 = .ok (.arraylength, 1) := by decide +kernel
theorem dJ7_fill_53178_4 : decode cJ7_fill_53178 4 = .ok (.istore_n 3, 1) := by decide +kernel
theorem dJ7_fill_53178_5 : decode cJ7_fill_53178 5 = .ok (.iload_n 2, 1) := by decide +kernel
theorem dJ7_fill_53178_6 : decode cJ7_fill_53178 6 = .ok (.iload_n 3, 1) := by decide +kernel
theorem dJ7_fill_53178_7 : decode cJ7_fill_53178 7 = .ok (.if_icmp .ge 13, 3) := by decide +kernel
theorem dJ7_fill_53178_10 : decode cJ7_fill_53178 10 = .ok (.aload_n 0, 1) := by decide +kernel
theorem dJ7_fill_53178_11 : decode cJ7_fill_53178 11 = .ok (.iload_n 2, 1) := by decide +kernel
theorem dJ7_fill_53178_12 : decode cJ7_fill_53178 12 = .ok (.iload_n 1, 1) := by decide +kernel
theorem dJ7_fill_53178_13 : decode cJ7_fill_53178 13 = .ok (.iastore, 1) := by decide +kernel
theorem dJ7_fill_53178_14 : decode cJ7_fill_53178 14 = .ok (.iinc 2 1, 3) := by decide +kernel
theorem dJ7_fill_53178_17 : decode cJ7_fill_53178 17 = .ok (.goto (-12), 3) := by decide +kernel
theorem dJ7_fill_53178_20 : decode cJ7_fill_53178 20 = .ok (.return_, 1) := by decide +kernel
theorem dJ7_fill_fda19_0 : decode cJ7_fill_fda19 0 = .ok (.aload_n 0, 1) := by decide +kernel
theorem dJ7_fill_fda19_1 : decode cJ7_fill_fda19 1 = .ok (.arraylength, 1) := by decide +kernel
theorem dJ7_fill_fda19_2 : decode cJ7_fill_fda19 2 = .ok (.iload_n 1, 1) := by decide +kernel
theorem dJ7_fill_fda19_3 : decode cJ7_fill_fda19 3 = .ok (.iload_n 2, 1) := by decide +kernel
theorem dJ7_fill_fda19_4 : decode cJ7_fill_fda19 4 = .ok (.invokestatic 13, 3) := by decide +kernel
theorem dJ7_fill_fda19_7 : decode cJ7_fill_fda19 7 = .ok (.iload_n 1, 1) := by decide +kernel
theorem dJ7_fill_fda19_8 : decode cJ7_fill_fda19 8 = .ok (.istore 4, 2) := by decide +kernel
theorem dJ7_fill_fda19_10 : decode cJ7_fill_fda19 10 = .ok (.iload 4, 2) := by decide +kernel
theorem dJ7_fill_fda19_12 : decode cJ7_fill_fda19 12 = .ok (.iload_n 2, 1) := by decide +kernel
theorem dJ7_fill_fda19_13 : decode cJ7_fill_fda19 13 = .ok (.if_icmp .ge 14, 3) := by decide +kernel
theorem dJ7_fill_fda19_16 : decode cJ7_fill_fda19 16 = .ok (.aload_n 0, 1) := by decide +kernel
theorem dJ7_fill_fda19_17 : decode cJ7_fill_fda19 17 = .ok (.iload 4, 2) := by decide +kernel
theorem dJ7_fill_fda19_19 : decode cJ7_fill_fda19 19 = .ok (.iload_n 3, 1) := by decide +kernel
theorem dJ7_fill_fda19_20 : decode cJ7_fill_fda19 20 = .ok (.iastore, 1) := by decide +kernel
theorem dJ7_fill_fda19_21 : decode cJ7_fill_fda19 21 = .ok (.iinc 4 1, 3) := by decide +kernel
theorem dJ7_fill_fda19_24 : decode cJ7_fill_fda19 24 = .ok (.goto (-14), 3) := by decide +kernel
theorem dJ7_fill_fda19_27 : decode cJ7_fill_fda19 27 = .ok (.return_, 1) := by decide +kernel
theorem dJ7_fill_eb02e_0 : decode cJ7_fill_eb02e 0 = .ok (.aload_n 0, 1) := by decide +kernel
theorem dJ7_fill_eb02e_1 : decode cJ7_fill_eb02e 1 = .ok (.arraylength, 1) := by decide +kernel
theorem dJ7_fill_eb02e_2 : decode cJ7_fill_eb02e 2 = .ok (.iload_n 1, 1) := by decide +kernel
theorem dJ7_fill_eb02e_3 : decode cJ7_fill_eb02e 3 = .ok (.iload_n 2, 1) := by decide +kernel
theorem dJ7_fill_eb02e_4 : decode cJ7_fill_eb02e 4 = .ok (.invokestatic 13, 3) := by decide +kernel
theorem dJ7_fill_eb02e_7 : decode cJ7_fill_eb02e 7 = .ok (.iload_n 1, 1) := by decide +kernel
theorem dJ7_fill_eb02e_8 : decode cJ7_fill_eb02e 8 = .ok (.istore 4, 2) := by decide +kernel
theorem dJ7_fill_eb02e_10 : decode cJ7_fill_eb02e 10 = .ok (.iload 4, 2) := by decide +kernel
theorem dJ7_fill_eb02e_12 : decode cJ7_fill_eb02e 12 = .ok (.iload_n 2, 1) := by decide +kernel
theorem dJ7_fill_eb02e_13 : decode cJ7_fill_eb02e 13 = .ok (.if_icmp .ge 14, 3) := by decide +kernel
theorem dJ7_fill_eb02e_16 : decode cJ7_fill_eb02e 16 = .ok (.aload_n 0, 1) := by decide +kernel
theorem dJ7_fill_eb02e_17 : decode cJ7_fill_eb02e 17 = .ok (.iload 4, 2) := by decide +kernel
theorem dJ7_fill_eb02e_19 : decode cJ7_fill_eb02e 19 = .ok (.iload_n 3, 1) := by decide +kernel
theorem dJ7_fill_eb02e_20 : decode cJ7_fill_eb02e 20 = .ok (.bastore, 1) := by decide +kernel
theorem dJ7_fill_eb02e_21 : decode cJ7_fill_eb02e 21 = .ok (.iinc 4 1, 3) := by decide +kernel
theorem dJ7_fill_eb02e_24 : decode cJ7_fill_eb02e 24 = .ok (.goto (-14), 3) := by decide +kernel
theorem dJ7_fill_eb02e_27 : decode cJ7_fill_eb02e 27 = .ok (.return_, 1) := by decide +kernel
