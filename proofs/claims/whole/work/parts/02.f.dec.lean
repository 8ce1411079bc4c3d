theorem dX8_init_0 : decode cX8_init 0 = .ok (.aload_n 0, 1) := by decide +kernel
theorem dX8_init_1 : decode cX8_init 1 = .ok (.invokespecial 1, 3) := by decide +kernel
theorem dX8_init_4 : decode cX8_init 4 = .ok (.aload_n 0, 1) := by decide +kernel
theorem dX8_init_5 : decode cX8_init 5 = .ok (.sipush 20000, 3) := by decide +kernel
theorem dX8_init_8 : decode cX8_init 8 = .ok (.newarray .int, 2) := by decide +kernel
theorem dX8_init_10 : decode cX8_init 10 = .ok (.putfield 7, 3) := by decide +kernel
theorem dX8_init_13 : decode cX8_init 13 = .ok (.aload_n 0, 1) := by decide +kernel
theorem dX8_init_14 : decode cX8_init 14 = .ok (.iconst 5, 1) := by decide +kernel
theorem dX8_init_15 : decode cX8_init 15 = .ok (.newarray .int, 2) := by decide +kernel
theorem dX8_init_17 : decode cX8_init 17 = .ok (.putfield 13, 3) := by decide +kernel
theorem dX8_init_20 : decode cX8_init 20 = .ok (.aload_n 0, 1) := by decide +kernel
theorem dX8_init_21 : decode cX8_init 21 = .ok (.iconst 5, 1) := by decide +kernel
theorem dX8_init_22 : decode cX8_init 22 = .ok (.newarray .int, 2) := by decide +kernel
theorem dX8_init_24 : decode cX8_init 24 = .ok (.putfield 16, 3) := by decide +kernel
theorem dX8_init_27 : decode cX8_init 27 = .ok (.aload_n 0, 1) := by decide +kernel
theorem dX8_init_28 : decode cX8_init 28 = .ok (.bipush 14, 2) := by decide +kernel
theorem dX8_init_30 : decode cX8_init 30 = .ok (.newarray .int, 2) := by decide +kernel
theorem dX8_init_32 : decode cX8_init 32 = .ok (.putfield 19, 3) := by decide +kernel
theorem dX8_init_35 : decode cX8_init 35 = .ok (.aload_n 0, 1) := by decide +kernel
theorem dX8_init_36 : decode cX8_init 36 = .ok (.sipush 20000, 3) := by decide +kernel
theorem dX8_init_39 : decode cX8_init 39 = .ok (.newarray .int, 2) := by decide +kernel
theorem dX8_init_41 : decode cX8_init 41 = .ok (.putfield 22, 3) := by decide +kernel
theorem dX8_init_44 : decode cX8_init 44 = .ok (.aload_n 0, 1) := by decide +kernel
theorem dX8_init_45 : decode cX8_init 45 = .ok (.sipush 400, 3) := by decide +kernel
theorem dX8_init_48 : decode cX8_init 48 = .ok (.newarray .int, 2) := by decide +kernel
theorem dX8_init_50 : decode cX8_init 50 = .ok (.putfield 25, 3) := by decide +kernel
theorem dX8_init_53 : decode cX8_init 53 = .ok (.aload_n 0, 1) := by decide +kernel
theorem dX8_init_54 : decode cX8_init 54 = .ok (.sipush 400, 3) := by decide +kernel
theorem dX8_init_57 : decode cX8_init 57 = .ok (.newarray .int, 2) := by decide +kernel
theorem dX8_init_59 : decode cX8_init 59 = .ok (.putfield 28, 3) := by decide +kernel
theorem dX8_init_62 : decode cX8_init 62 = .ok (.aload_n 0, 1) := by decide +kernel
theorem dX8_init_63 : decode cX8_init 63 = .ok (.sipush 20000, 3) := by decide +kernel
theorem dX8_init_66 : decode cX8_init 66 = .ok (.newarray .boolean, 2) := by decide +kernel
theorem dX8_init_68 : decode cX8_init 68 = .ok (.putfield 31, 3) := by decide +kernel
theorem dX8_init_71 : decode cX8_init 71 = .ok (.aload_n 0, 1) := by decide +kernel
theorem dX8_init_72 : decode cX8_init 72 = .ok (.sipush 20000, 3) := by decide +kernel
theorem dX8_init_75 : decode cX8_init 75 = .ok (.newarray .int, 2) := by decide +kernel
theorem dX8_init_77 : decode cX8_init 77 = .ok (.putfield 35, 3) := by decide +kernel
theorem dX8_init_80 : decode cX8_init 80 = .ok (.aload_n 0, 1) := by decide +kernel
theorem dX8_init_81 : decode cX8_init 81 = .ok (.sipush 20000, 3) := by decide +kernel
theorem dX8_init_84 : decode cX8_init 84 = .ok (.newarray .int, 2) := by decide +kernel
theorem dX8_init_86 : decode cX8_init 86 = .ok (.putfield 38, 3) := by decide +kernel
theorem dX8_init_89 : decode cX8_init 89 = .ok (.aload_n 0, 1) := by decide +kernel
theorem dX8_init_90 : decode cX8_init 90 = .ok (.sipush 20000, 3) := by decide +kernel
theorem dX8_init_93 : decode cX8_init 93 = .ok (.newarray .int, 2) := by decide +kernel
theorem dX8_init_95 : decode cX8_init 95 = .ok (.putfield 41, 3) := by decide +kernel
theorem dX8_init_98 : decode cX8_init 98 = .ok (.aload_n 0, 1) := by decide +kernel
theorem dX8_init_99 : decode cX8_init 99 = .ok (.sipush 20000, 3) := by decide +kernel
theorem dX8_init_102 : decode cX8_init 102 = .ok (.newarray .int, 2) := by decide +kernel
theorem dX8_init_104 : decode cX8_init 104 = .ok (.putfield 44, 3) := by decide +kernel
theorem dX8_init_107 : decode cX8_init 107 = .ok (.aload_n 0, 1) := by decide +kernel
theorem dX8_init_108 : decode cX8_init 108 = .ok (.iconst 4, 1) := by decide +kernel
theorem dX8_init_109 : decode cX8_init 109 = .ok (.newarray .int, 2) := by decide +kernel
theorem dX8_init_111 : decode cX8_init 111 = .ok (.putfield 47, 3) := by decide +kernel
theorem dX8_init_114 : decode cX8_init 114 = .ok (.aload_n 0, 1) := by decide +kernel
theorem dX8_init_115 : decode cX8_init 115 = .ok (.iconst 4, 1) := by decide +kernel
theorem dX8_init_116 : decode cX8_init 116 = .ok (.newarray .int, 2) := by decide +kernel
theorem dX8_init_118 : decode cX8_init 118 = .ok (.putfield 50, 3) := by decide +kernel
theorem dX8_init_121 : decode cX8_init 121 = .ok (.aload_n 0, 1) := by decide +kernel
theorem dX8_init_122 : decode cX8_init 122 = .ok (.sipush 800, 3) := by decide +kernel
theorem dX8_init_125 : decode cX8_init 125 = .ok (.newarray .int, 2) := by decide +kernel
theorem dX8_init_127 : decode cX8_init 127 = .ok (.putfield 53, 3) := by decide +kernel
theorem dX8_init_130 : decode cX8_init 130 = .ok (.aload_n 0, 1) := by decide +kernel
theorem dX8_init_131 : decode cX8_init 131 = .ok (.sipush 200, 3) := by decide +kernel
theorem dX8_init_134 : decode cX8_init 134 = .ok (.newarray .int, 2) := by decide +kernel
theorem dX8_init_136 : decode cX8_init 136 = .ok (.putfield 56, 3) := by decide +kernel
theorem dX8_init_139 : decode cX8_init 139 = .ok (.aload_n 0, 1) := by decide +kernel
theorem dX8_init_140 : decode cX8_init 140 = .ok (.sipush 200, 3) := by decide +kernel
theorem dX8_init_143 : decode cX8_init 143 = .ok (.newarray .int, 2) := by decide +kernel
theorem dX8_init_145 : decode cX8_init 145 = .ok (.putfield 59, 3) := by decide +kernel
theorem dX8_init_148 : decode cX8_init 148 = .ok (.aload_n 0, 1) := by decide +kernel
theorem dX8_init_149 : decode cX8_init 149 = .ok (.sipush 201, 3) := by decide +kernel
theorem dX8_init_152 : decode cX8_init 152 = .ok (.newarray .int, 2) := by decide +kernel
theorem dX8_init_154 : decode cX8_init 154 = .ok (.putfield 62, 3) := by decide +kernel
theorem dX8_init_157 : decode cX8_init 157 = .ok (.aload_n 0, 1) := by decide +kernel
theorem dX8_init_158 : decode cX8_init 158 = .ok (.sipush 202, 3) := by decide +kernel
theorem dX8_init_161 : decode cX8_init 161 = .ok (.newarray .int, 2) := by decide +kernel
theorem dX8_init_163 : decode cX8_init 163 = .ok (.putfield 65, 3) := by decide +kernel
theorem dX8_init_166 : decode cX8_init 166 = .ok (.aload_n 0, 1) := by decide +kernel
theorem dX8_init_167 : decode cX8_init 167 = .ok (.sipush 202, 3) := by decide +kernel
theorem dX8_init_170 : decode cX8_init 170 = .ok (.newarray .int, 2) := by decide +kernel
theorem dX8_init_172 : decode cX8_init 172 = .ok (.putfield 68, 3) := by decide +kernel
theorem dX8_init_175 : decode cX8_init 175 = .ok (.aload_n 0, 1) := by decide +kernel
theorem dX8_init_176 : decode cX8_init 176 = .ok (.sipush 202, 3) := by decide +kernel
theorem dX8_init_179 : decode cX8_init 179 = .ok (.newarray .int, 2) := by decide +kernel
theorem dX8_init_181 : decode cX8_init 181 = .ok (.putfield 71, 3) := by decide +kernel
theorem dX8_init_184 : decode cX8_init 184 = .ok (.aload_n 0, 1) := by decide +kernel
theorem dX8_init_185 : decode cX8_init 185 = .ok (.ldc 74, 2) := by decide +kernel
theorem dX8_init_187 : decode cX8_init 187 = .ok (.newarray .int, 2) := by decide +kernel
theorem dX8_init_189 : decode cX8_init 189 = .ok (.putfield 75, 3) := by decide +kernel
theorem dX8_init_192 : decode cX8_init 192 = .ok (.iconst 0, 1) := by decide +kernel
theorem dX8_init_193 : decode cX8_init 193 = .ok (.istore_n 1, 1) := by decide +kernel
theorem dX8_init_194 : decode cX8_init 194 = .ok (.iload_n 1, 1) := by decide +kernel
theorem dX8_init_195 : decode cX8_init 195 = .ok (.iconst 4, 1) := by decide +kernel
theorem dX8_init_196 : decode cX8_init 196 = .ok (.if_icmp .ge 16, 3) := by decide +kernel
theorem dX8_init_199 : decode cX8_init 199 = .ok (.aload_n 0, 1) := by decide +kernel
theorem dX8_init_200 : decode cX8_init 200 = .ok (.getfield 47, 3) := by decide +kernel
theorem dX8_init_203 : decode cX8_init 203 = .ok (.iload_n 1, 1) := by decide +kernel
theorem dX8_init_204 : decode cX8_init 204 = .ok (.iconst (-1), 1) := by decide +kernel
theorem dX8_init_205 : decode cX8_init 205 = .ok (.iastore, 1) := by decide +kernel
theorem dX8_init_206 : decode cX8_init 206 = .ok (.iinc 1 1, 3) := by decide +kernel
theorem dX8_init_209 : decode cX8_init 209 = .ok (.goto (-15), 3) := by decide +kernel
theorem dX8_init_212 : decode cX8_init 212 = .ok (.aload_n 0, 1) := by decide +kernel
theorem dX8_init_213 : decode cX8_init 213 = .ok (.iconst 2, 1) := by decide +kernel
theorem dX8_init_214 : decode cX8_init 214 = .ok (.iconst 3, 1) := by decide +kernel
theorem dX8_init_215 : decode cX8_init 215 = .ok (.invokevirtual 78, 3) := by decide +kernel
theorem dX8_init_218 : decode cX8_init 218 = .ok (.pop, 1) := by decide +kernel
theorem dX8_init_219 : decode cX8_init 219 = .ok (.return_, 1) := by decide +kernel
theorem dX8_in_0 : decode cX8_in 0 = .ok (.lload_n 0, 1) := by decide +kernel
theorem dX8_in_1 : decode cX8_in 1 = .ok (.lload_n 2, 1) := by decide +kernel
theorem dX8_in_2 : decode cX8_in 2 = .ok (.lcmp, 1) := by decide +kernel
theorem dX8_in_3 : decode cX8_in 3 = .ok (.ifCond .lt 14, 3) := by decide +kernel
theorem dX8_in_6 : decode cX8_in 6 = .ok (.lload_n 0, 1) := by decide +kernel
theorem dX8_in_7 : decode cX8_in 7 = .ok (.lload 4, 2) := by decide +kernel
theorem dX8_in_9 : decode cX8_in 9 = .ok (.lcmp, 1) := by decide +kernel
theorem dX8_in_10 : decode cX8_in 10 = .ok (.ifCond .gt 7, 3) := by decide +kernel
theorem dX8_in_13 : decode cX8_in 13 = .ok (.iconst 1, 1) := by decide +kernel
theorem dX8_in_14 : decode cX8_in 14 = .ok (.goto 4, 3) := by decide +kernel
theorem dX8_in_17 : decode cX8_in 17 = .ok (.iconst 0, 1) := by decide +kernel
theorem dX8_in_18 : decode cX8_in 18 = .ok (.ireturn, 1) := by decide +kernel
theorem dX8_wheel_0 : decode cX8_wheel 0 = .ok (.iload_n 1, 1) := by decide +kernel
theorem dX8_wheel_1 : decode cX8_wheel 1 = .ok (.i2l, 1) := by decide +kernel
theorem dX8_wheel_2 : decode cX8_wheel 2 = .ok (.ldc2_w 82, 3) := by decide +kernel
theorem dX8_wheel_5 : decode cX8_wheel 5 = .ok (.ldc2_w 84, 3) := by decide +kernel
theorem dX8_wheel_8 : decode cX8_wheel 8 = .ok (.invokestatic 86, 3) := by decide +kernel
theorem dX8_wheel_11 : decode cX8_wheel 11 = .ok (.ifCond .eq 15, 3) := by decide +kernel
theorem dX8_wheel_14 : decode cX8_wheel 14 = .ok (.iload_n 2, 1) := by decide +kernel
theorem dX8_wheel_15 : decode cX8_wheel 15 = .ok (.i2l, 1) := by decide +kernel
theorem dX8_wheel_16 : decode cX8_wheel 16 = .ok (.lconst 1, 1) := by decide +kernel
theorem dX8_wheel_17 : decode cX8_wheel 17 = .ok (.ldc2_w 90, 3) := by decide +kernel
theorem dX8_wheel_20 : decode cX8_wheel 20 = .ok (.invokestatic 86, 3) := by decide +kernel
theorem dX8_wheel_23 : decode cX8_wheel 23 = .ok (.ifCond .ne 6, 3) := by decide +kernel
theorem dX8_wheel_26 : decode cX8_wheel 26 = .ok (.bipush (-2), 2) := by decide +kernel
theorem dX8_wheel_28 : decode cX8_wheel 28 = .ok (.ireturn, 1) := by decide +kernel
theorem dX8_wheel_29 : decode cX8_wheel 29 = .ok (.iconst 1, 1) := by decide +kernel
theorem dX8_wheel_30 : decode cX8_wheel 30 = .ok (.istore_n 3, 1) := by decide +kernel
theorem dX8_wheel_31 : decode cX8_wheel 31 = .ok (.iconst 0, 1) := by decide +kernel
theorem dX8_wheel_32 : decode cX8_wheel 32 = .ok (.istore 4, 2) := by decide +kernel
theorem dX8_wheel_34 : decode cX8_wheel 34 = .ok (.iload 4, 2) := by decide +kernel
theorem dX8_wheel_36 : decode cX8_wheel 36 = .ok (.iload_n 2, 1) := by decide +kernel
theorem dX8_wheel_37 : decode cX8_wheel 37 = .ok (.if_icmp .ge 24, 3) := by decide +kernel
theorem dX8_wheel_40 : decode cX8_wheel 40 = .ok (.iload_n 3, 1) := by decide +kernel
theorem dX8_wheel_41 : decode cX8_wheel 41 = .ok (.sipush 20000, 3) := by decide +kernel
theorem dX8_wheel_44 : decode cX8_wheel 44 = .ok (.if_icmp .le 7, 3) := by decide +kernel
theorem dX8_wheel_47 : decode cX8_wheel 47 = .ok (.iload_n 3, 1) := by decide +kernel
theorem dX8_wheel_48 : decode cX8_wheel 48 = .ok (.goto 6, 3) := by decide +kernel
theorem dX8_wheel_51 : decode cX8_wheel 51 = .ok (.iload_n 3, 1) := by decide +kernel
theorem dX8_wheel_52 : decode cX8_wheel 52 = .ok (.iload_n 1, 1) := by decide +kernel
theorem dX8_wheel_53 : decode cX8_wheel 53 = .ok (.imul, 1) := by decide +kernel
theorem dX8_wheel_54 : decode cX8_wheel 54 = .ok (.istore_n 3, 1) := by decide +kernel
theorem dX8_wheel_55 : decode cX8_wheel 55 = .ok (.iinc 4 1, 3) := by decide +kernel
theorem dX8_wheel_58 : decode cX8_wheel 58 = .ok (.goto (-24), 3) := by decide +kernel
theorem dX8_wheel_61 : decode cX8_wheel 61 = .ok (.iload_n 3, 1) := by decide +kernel
theorem dX8_wheel_62 : decode cX8_wheel 62 = .ok (.sipush 20000, 3) := by decide +kernel
theorem dX8_wheel_65 : decode cX8_wheel 65 = .ok (.if_icmp .le 6, 3) := by decide +kernel
theorem dX8_wheel_68 : decode cX8_wheel 68 = .ok (.bipush (-2), 2) := by decide +kernel
theorem dX8_wheel_70 : decode cX8_wheel 70 = .ok (.ireturn, 1) := by decide +kernel
theorem dX8_wheel_71 : decode cX8_wheel 71 = .ok (.aload_n 0, 1) := by decide +kernel
theorem dX8_wheel_72 : decode cX8_wheel 72 = .ok (.iload_n 1, 1) := by decide +kernel
theorem dX8_wheel_73 : decode cX8_wheel 73 = .ok (.putfield 92, 3) := by decide +kernel
theorem dX8_wheel_76 : decode cX8_wheel 76 = .ok (.aload_n 0, 1) := by decide +kernel
theorem dX8_wheel_77 : decode cX8_wheel 77 = .ok (.iload_n 2, 1) := by decide +kernel
theorem dX8_wheel_78 : decode cX8_wheel 78 = .ok (.putfield 96, 3) := by decide +kernel
theorem dX8_wheel_81 : decode cX8_wheel 81 = .ok (.aload_n 0, 1) := by decide +kernel
theorem dX8_wheel_82 : decode cX8_wheel 82 = .ok (.iload_n 3, 1) := by decide +kernel
theorem dX8_wheel_83 : decode cX8_wheel 83 = .ok (.putfield 99, 3) := by decide +kernel
theorem dX8_wheel_86 : decode cX8_wheel 86 = .ok (.iconst 0, 1) := by decide +kernel
theorem dX8_wheel_87 : decode cX8_wheel 87 = .ok (.istore 4, 2) := by decide +kernel
theorem dX8_wheel_89 : decode cX8_wheel 89 = .ok (.iload 4, 2) := by decide +kernel
theorem dX8_wheel_91 : decode cX8_wheel 91 = .ok (.aload_n 0, 1) := by decide +kernel
theorem dX8_wheel_92 : decode cX8_wheel 92 = .ok (.getfield 99, 3) := by decide +kernel
theorem dX8_wheel_95 : decode cX8_wheel 95 = .ok (.if_icmp .ge 22, 3) := by decide +kernel
theorem dX8_wheel_98 : decode cX8_wheel 98 = .ok (.aload_n 0, 1) := by decide +kernel
theorem dX8_wheel_99 : decode cX8_wheel 99 = .ok (.getfield 7, 3) := by decide +kernel
theorem dX8_wheel_102 : decode cX8_wheel 102 = .ok (.iload 4, 2) := by decide +kernel
theorem dX8_wheel_104 : decode cX8_wheel 104 = .ok (.aload_n 0, 1) := by decide +kernel
theorem dX8_wheel_105 : decode cX8_wheel 105 = .ok (.iload 4, 2) := by decide +kernel
theorem dX8_wheel_107 : decode cX8_wheel 107 = .ok (.invokevirtual 102, 3) := by decide +kernel
theorem dX8_wheel_110 : decode cX8_wheel 110 = .ok (.iastore, 1) := by decide +kernel
theorem dX8_wheel_111 : decode cX8_wheel 111 = .ok (.iinc 4 1, 3) := by decide +kernel
theorem dX8_wheel_114 : decode cX8_wheel 114 = .ok (.goto (-25), 3) := by decide +kernel
theorem dX8_wheel_117 : decode cX8_wheel 117 = .ok (.iconst 0, 1) := by decide +kernel
theorem dX8_wheel_118 : decode cX8_wheel 118 = .ok (.istore 4, 2) := by decide +kernel
theorem dX8_wheel_120 : decode cX8_wheel 120 = .ok (.iload 4, 2) := by decide +kernel
theorem dX8_wheel_122 : decode cX8_wheel 122 = .ok (.bipush 14, 2) := by decide +kernel
theorem dX8_wheel_124 : decode cX8_wheel 124 = .ok (.if_icmp .ge 26, 3) := by decide +kernel
theorem dX8_wheel_127 : decode cX8_wheel 127 = .ok (.aload_n 0, 1) := by decide +kernel
theorem dX8_wheel_128 : decode cX8_wheel 128 = .ok (.getfield 19, 3) := by decide +kernel
theorem dX8_wheel_131 : decode cX8_wheel 131 = .ok (.iload 4, 2) := by decide +kernel
theorem dX8_wheel_133 : decode cX8_wheel 133 = .ok (.iload 4, 2) := by decide +kernel
theorem dX8_wheel_135 : decode cX8_wheel 135 = .ok (.ifCond .ne 7, 3) := by decide +kernel
theorem dX8_wheel_138 : decode cX8_wheel 138 = .ok (.iconst 1, 1) := by decide +kernel
theorem dX8_wheel_139 : decode cX8_wheel 139 = .ok (.goto 4, 3) := by decide +kernel
theorem dX8_wheel_142 : decode cX8_wheel 142 = .ok (.iconst 0, 1) := by decide +kernel
theorem dX8_wheel_143 : decode cX8_wheel 143 = .ok (.iastore, 1) := by decide +kernel
theorem dX8_wheel_144 : decode cX8_wheel 144 = .ok (.iinc 4 1, 3) := by decide +kernel
theorem dX8_wheel_147 : decode cX8_wheel 147 = .ok (.goto (-27), 3) := by decide +kernel
theorem dX8_wheel_150 : decode cX8_wheel 150 = .ok (.aload_n 0, 1) := by decide +kernel
theorem dX8_wheel_151 : decode cX8_wheel 151 = .ok (.iconst 0, 1) := by decide +kernel
theorem dX8_wheel_152 : decode cX8_wheel 152 = .ok (.putfield 106, 3) := by decide +kernel
theorem dX8_wheel_155 : decode cX8_wheel 155 = .ok (.aload_n 0, 1) := by decide +kernel
theorem dX8_wheel_156 : decode cX8_wheel 156 = .ok (.invokevirtual 109, 3) := by decide +kernel
theorem dX8_wheel_159 : decode cX8_wheel 159 = .ok (.aload_n 0, 1) := by decide +kernel
theorem dX8_wheel_160 : decode cX8_wheel 160 = .ok (.iconst (-1), 1) := by decide +kernel
theorem dX8_wheel_161 : decode cX8_wheel 161 = .ok (.putfield 112, 3) := by decide +kernel
theorem dX8_wheel_164 : decode cX8_wheel 164 = .ok (.aload_n 0, 1) := by decide +kernel
theorem dX8_wheel_165 : decode cX8_wheel 165 = .ok (.iconst (-1), 1) := by decide +kernel
theorem dX8_wheel_166 : decode cX8_wheel 166 = .ok (.putfield 115, 3) := by decide +kernel
theorem dX8_wheel_169 : decode cX8_wheel 169 = .ok (.aload_n 0, 1) := by decide +kernel
theorem dX8_wheel_170 : decode cX8_wheel 170 = .ok (.getfield 99, 3) := by decide +kernel
theorem dX8_wheel_173 : decode cX8_wheel 173 = .ok (.ireturn, 1) := by decide +kernel
theorem dX8_isWord_0 : decode cX8_isWord 0 = .ok (.iload_n 1, 1) := by decide +kernel
theorem dX8_isWord_1 : decode cX8_isWord 1 = .ok (.i2l, 1) := by decide +kernel
theorem dX8_isWord_2 : decode cX8_isWord 2 = .ok (.lconst 0, 1) := by decide +kernel
theorem dX8_isWord_3 : decode cX8_isWord 3 = .ok (.aload_n 0, 1) := by decide +kernel
theorem dX8_isWord_4 : decode cX8_isWord 4 = .ok (.getfield 99, 3) := by decide +kernel
theorem dX8_isWord_7 : decode cX8_isWord 7 = .ok (.iconst 1, 1) := by decide +kernel
theorem dX8_isWord_8 : decode cX8_isWord 8 = .ok (.isub, 1) := by decide +kernel
theorem dX8_isWord_9 : decode cX8_isWord 9 = .ok (.i2l, 1) := by decide +kernel
theorem dX8_isWord_10 : decode cX8_isWord 10 = .ok (.invokestatic 86, 3) := by decide +kernel
theorem dX8_isWord_13 : decode cX8_isWord 13 = .ok (.ireturn, 1) := by decide +kernel
theorem dX8_next_0 : decode cX8_next 0 = .ok (.aload_n 0, 1) := by decide +kernel
theorem dX8_next_1 : decode cX8_next 1 = .ok (.getfield 99, 3) := by decide +kernel
theorem dX8_next_4 : decode cX8_next 4 = .ok (.aload_n 0, 1) := by decide +kernel
theorem dX8_next_5 : decode cX8_next 5 = .ok (.getfield 92, 3) := by decide +kernel
theorem dX8_next_8 : decode cX8_next 8 = .ok (.idiv, 1) := by decide +kernel
theorem dX8_next_9 : decode cX8_next 9 = .ok (.istore_n 2, 1) := by decide +kernel
theorem dX8_next_10 : decode cX8_next 10 = .ok (.iload_n 1, 1) := by decide +kernel
theorem dX8_next_11 : decode cX8_next 11 = .ok (.iload_n 2, 1) := by decide +kernel
theorem dX8_next_12 : decode cX8_next 12 = .ok (.irem, 1) := by decide +kernel
theorem dX8_next_13 : decode cX8_next 13 = .ok (.aload_n 0, 1) := by decide +kernel
theorem dX8_next_14 : decode cX8_next 14 = .ok (.getfield 92, 3) := by decide +kernel
theorem dX8_next_17 : decode cX8_next 17 = .ok (.imul, 1) := by decide +kernel
theorem dX8_next_18 : decode cX8_next 18 = .ok (.iload_n 1, 1) := by decide +kernel
theorem dX8_next_19 : decode cX8_next 19 = .ok (.iload_n 2, 1) := by decide +kernel
theorem dX8_next_20 : decode cX8_next 20 = .ok (.idiv, 1) := by decide +kernel
theorem dX8_next_21 : decode cX8_next 21 = .ok (.iadd, 1) := by decide +kernel
theorem dX8_next_22 : decode cX8_next 22 = .ok (.ireturn, 1) := by decide +kernel
theorem dX8_leastOf_0 : decode cX8_leastOf 0 = .ok (.iload_n 1, 1) := by decide +kernel
theorem dX8_leastOf_1 : decode cX8_leastOf 1 = .ok (.istore_n 2, 1) := by decide +kernel
theorem dX8_leastOf_2 : decode cX8_leastOf 2 = .ok (.aload_n 0, 1) := by decide +kernel
theorem dX8_leastOf_3 : decode cX8_leastOf 3 = .ok (.iload_n 1, 1) := by decide +kernel
theorem dX8_leastOf_4 : decode cX8_leastOf 4 = .ok (.invokevirtual 118, 3) := by decide +kernel
theorem dX8_leastOf_7 : decode cX8_leastOf 7 = .ok (.istore_n 3, 1) := by decide +kernel
theorem dX8_leastOf_8 : decode cX8_leastOf 8 = .ok (.iload_n 3, 1) := by decide +kernel
theorem dX8_leastOf_9 : decode cX8_leastOf 9 = .ok (.iload_n 1, 1) := by decide +kernel
theorem dX8_leastOf_10 : decode cX8_leastOf 10 = .ok (.if_icmp .eq 23, 3) := by decide +kernel
theorem dX8_leastOf_13 : decode cX8_leastOf 13 = .ok (.iload_n 3, 1) := by decide +kernel
theorem dX8_leastOf_14 : decode cX8_leastOf 14 = .ok (.iload_n 2, 1) := by decide +kernel
theorem dX8_leastOf_15 : decode cX8_leastOf 15 = .ok (.if_icmp .ge 7, 3) := by decide +kernel
theorem dX8_leastOf_18 : decode cX8_leastOf 18 = .ok (.iload_n 3, 1) := by decide +kernel
theorem dX8_leastOf_19 : decode cX8_leastOf 19 = .ok (.goto 4, 3) := by decide +kernel
theorem dX8_leastOf_22 : decode cX8_leastOf 22 = .ok (.iload_n 2, 1) := by decide +kernel
theorem dX8_leastOf_23 : decode cX8_leastOf 23 = .ok (.istore_n 2, 1) := by decide +kernel
theorem dX8_leastOf_24 : decode cX8_leastOf 24 = .ok (.aload_n 0, 1) := by decide +kernel
theorem dX8_leastOf_25 : decode cX8_leastOf 25 = .ok (.iload_n 3, 1) := by decide +kernel
theorem dX8_leastOf_26 : decode cX8_leastOf 26 = .ok (.invokevirtual 118, 3) := by decide +kernel
theorem dX8_leastOf_29 : decode cX8_leastOf 29 = .ok (.istore_n 3, 1) := by decide +kernel
theorem dX8_leastOf_30 : decode cX8_leastOf 30 = .ok (.goto (-22), 3) := by decide +kernel
theorem dX8_leastOf_33 : decode cX8_leastOf 33 = .ok (.iload_n 2, 1) := by decide +kernel
theorem dX8_leastOf_34 : decode cX8_leastOf 34 = .ok (.ireturn, 1) := by decide +kernel
theorem dX8_turn_0 : decode cX8_turn 0 = .ok (.aload_n 0, 1) := by decide +kernel
theorem dX8_turn_1 : decode cX8_turn 1 = .ok (.iload_n 1, 1) := by decide +kernel
theorem dX8_turn_2 : decode cX8_turn 2 = .ok (.invokevirtual 121, 3) := by decide +kernel
theorem dX8_turn_5 : decode cX8_turn 5 = .ok (.ifCond .eq 15, 3) := by decide +kernel
theorem dX8_turn_8 : decode cX8_turn 8 = .ok (.iload_n 2, 1) := by decide +kernel
theorem dX8_turn_9 : decode cX8_turn 9 = .ok (.i2l, 1) := by decide +kernel
theorem dX8_turn_10 : decode cX8_turn 10 = .ok (.lconst 0, 1) := by decide +kernel
theorem dX8_turn_11 : decode cX8_turn 11 = .ok (.ldc2_w 125, 3) := by decide +kernel
theorem dX8_turn_14 : decode cX8_turn 14 = .ok (.invokestatic 86, 3) := by decide +kernel
theorem dX8_turn_17 : decode cX8_turn 17 = .ok (.ifCond .ne 6, 3) := by decide +kernel
theorem dX8_turn_20 : decode cX8_turn 20 = .ok (.bipush (-2), 2) := by decide +kernel
theorem dX8_turn_22 : decode cX8_turn 22 = .ok (.ireturn, 1) := by decide +kernel
theorem dX8_turn_23 : decode cX8_turn 23 = .ok (.iload_n 1, 1) := by decide +kernel
theorem dX8_turn_24 : decode cX8_turn 24 = .ok (.istore_n 3, 1) := by decide +kernel
theorem dX8_turn_25 : decode cX8_turn 25 = .ok (.iconst 0, 1) := by decide +kernel
theorem dX8_turn_26 : decode cX8_turn 26 = .ok (.istore 4, 2) := by decide +kernel
theorem dX8_turn_28 : decode cX8_turn 28 = .ok (.iload 4, 2) := by decide +kernel
theorem dX8_turn_30 : decode cX8_turn 30 = .ok (.iload_n 2, 1) := by decide +kernel
theorem dX8_turn_31 : decode cX8_turn 31 = .ok (.aload_n 0, 1) := by decide +kernel
theorem dX8_turn_32 : decode cX8_turn 32 = .ok (.getfield 96, 3) := by decide +kernel
theorem dX8_turn_35 : decode cX8_turn 35 = .ok (.irem, 1) := by decide +kernel
theorem dX8_turn_36 : decode cX8_turn 36 = .ok (.if_icmp .ge 15, 3) := by decide +kernel
theorem dX8_turn_39 : decode cX8_turn 39 = .ok (.aload_n 0, 1) := by decide +kernel
theorem dX8_turn_40 : decode cX8_turn 40 = .ok (.iload_n 3, 1) := by decide +kernel
theorem dX8_turn_41 : decode cX8_turn 41 = .ok (.invokevirtual 118, 3) := by decide +kernel
theorem dX8_turn_44 : decode cX8_turn 44 = .ok (.istore_n 3, 1) := by decide +kernel
theorem dX8_turn_45 : decode cX8_turn 45 = .ok (.iinc 4 1, 3) := by decide +kernel
theorem dX8_turn_48 : decode cX8_turn 48 = .ok (.goto (-20), 3) := by decide +kernel
theorem dX8_turn_51 : decode cX8_turn 51 = .ok (.iload_n 3, 1) := by decide +kernel
theorem dX8_turn_52 : decode cX8_turn 52 = .ok (.ireturn, 1) := by decide +kernel
theorem dX8_least_0 : decode cX8_least 0 = .ok (.aload_n 0, 1) := by decide +kernel
theorem dX8_least_1 : decode cX8_least 1 = .ok (.iload_n 1, 1) := by decide +kernel
theorem dX8_least_2 : decode cX8_least 2 = .ok (.invokevirtual 121, 3) := by decide +kernel
theorem dX8_least_5 : decode cX8_least 5 = .ok (.ifCond .eq 12, 3) := by decide +kernel
theorem dX8_least_8 : decode cX8_least 8 = .ok (.aload_n 0, 1) := by decide +kernel
theorem dX8_least_9 : decode cX8_least 9 = .ok (.getfield 7, 3) := by decide +kernel
theorem dX8_least_12 : decode cX8_least 12 = .ok (.iload_n 1, 1) := by decide +kernel
theorem dX8_least_13 : decode cX8_least 13 = .ok (.iaload, 1) := by decide +kernel
theorem dX8_least_14 : decode cX8_least 14 = .ok (.goto 5, 3) := by decide +kernel
theorem dX8_least_17 : decode cX8_least 17 = .ok (.bipush (-2), 2) := by decide +kernel
theorem dX8_least_19 : decode cX8_least 19 = .ok (.ireturn, 1) := by decide +kernel
theorem dX8_steps_0 : decode cX8_steps 0 = .ok (.aload_n 0, 1) := by decide +kernel
theorem dX8_steps_1 : decode cX8_steps 1 = .ok (.iload_n 1, 1) := by decide +kernel
theorem dX8_steps_2 : decode cX8_steps 2 = .ok (.invokevirtual 121, 3) := by decide +kernel
theorem dX8_steps_5 : decode cX8_steps 5 = .ok (.ifCond .ne 6, 3) := by decide +kernel
theorem dX8_steps_8 : decode cX8_steps 8 = .ok (.bipush (-2), 2) := by decide +kernel
theorem dX8_steps_10 : decode cX8_steps 10 = .ok (.ireturn, 1) := by decide +kernel
theorem dX8_steps_11 : decode cX8_steps 11 = .ok (.iconst 0, 1) := by decide +kernel
theorem dX8_steps_12 : decode cX8_steps 12 = .ok (.istore_n 2, 1) := by decide +kernel
theorem dX8_steps_13 : decode cX8_steps 13 = .ok (.iload_n 1, 1) := by decide +kernel
theorem dX8_steps_14 : decode cX8_steps 14 = .ok (.istore_n 3, 1) := by decide +kernel
theorem dX8_steps_15 : decode cX8_steps 15 = .ok (.iload_n 3, 1) := by decide +kernel
theorem dX8_steps_16 : decode cX8_steps 16 = .ok (.aload_n 0, 1) := by decide +kernel
theorem dX8_steps_17 : decode cX8_steps 17 = .ok (.getfield 7, 3) := by decide +kernel
theorem dX8_steps_20 : decode cX8_steps 20 = .ok (.iload_n 1, 1) := by decide +kernel
theorem dX8_steps_21 : decode cX8_steps 21 = .ok (.iaload, 1) := by decide +kernel
theorem dX8_steps_22 : decode cX8_steps 22 = .ok (.if_icmp .eq 15, 3) := by decide +kernel
theorem dX8_steps_25 : decode cX8_steps 25 = .ok (.aload_n 0, 1) := by decide +kernel
theorem dX8_steps_26 : decode cX8_steps 26 = .ok (.iload_n 3, 1) := by decide +kernel
theorem dX8_steps_27 : decode cX8_steps 27 = .ok (.invokevirtual 118, 3) := by decide +kernel
theorem dX8_steps_30 : decode cX8_steps 30 = .ok (.istore_n 3, 1) := by decide +kernel
theorem dX8_steps_31 : decode cX8_steps 31 = .ok (.iinc 2 1, 3) := by decide +kernel
theorem dX8_steps_34 : decode cX8_steps 34 = .ok (.goto (-19), 3) := by decide +kernel
theorem dX8_steps_37 : decode cX8_steps 37 = .ok (.iload_n 2, 1) := by decide +kernel
theorem dX8_steps_38 : decode cX8_steps 38 = .ok (.ireturn, 1) := by decide +kernel
theorem dX8_sizeOf_0 : decode cX8_sizeOf 0 = .ok (.iconst 1, 1) := by decide +kernel
theorem dX8_sizeOf_1 : decode cX8_sizeOf 1 = .ok (.istore_n 2, 1) := by decide +kernel
theorem dX8_sizeOf_2 : decode cX8_sizeOf 2 = .ok (.aload_n 0, 1) := by decide +kernel
theorem dX8_sizeOf_3 : decode cX8_sizeOf 3 = .ok (.iload_n 1, 1) := by decide +kernel
theorem dX8_sizeOf_4 : decode cX8_sizeOf 4 = .ok (.invokevirtual 118, 3) := by decide +kernel
theorem dX8_sizeOf_7 : decode cX8_sizeOf 7 = .ok (.istore_n 3, 1) := by decide +kernel
theorem dX8_sizeOf_8 : decode cX8_sizeOf 8 = .ok (.iload_n 3, 1) := by decide +kernel
theorem dX8_sizeOf_9 : decode cX8_sizeOf 9 = .ok (.iload_n 1, 1) := by decide +kernel
theorem dX8_sizeOf_10 : decode cX8_sizeOf 10 = .ok (.if_icmp .eq 15, 3) := by decide +kernel
theorem dX8_sizeOf_13 : decode cX8_sizeOf 13 = .ok (.iinc 2 1, 3) := by decide +kernel
theorem dX8_sizeOf_16 : decode cX8_sizeOf 16 = .ok (.aload_n 0, 1) := by decide +kernel
theorem dX8_sizeOf_17 : decode cX8_sizeOf 17 = .ok (.iload_n 3, 1) := by decide +kernel
theorem dX8_sizeOf_18 : decode cX8_sizeOf 18 = .ok (.invokevirtual 118, 3) := by decide +kernel
theorem dX8_sizeOf_21 : decode cX8_sizeOf 21 = .ok (.istore_n 3, 1) := by decide +kernel
theorem dX8_sizeOf_22 : decode cX8_sizeOf 22 = .ok (.goto (-14), 3) := by decide +kernel
theorem dX8_sizeOf_25 : decode cX8_sizeOf 25 = .ok (.iload_n 2, 1) := by decide +kernel
theorem dX8_sizeOf_26 : decode cX8_sizeOf 26 = .ok (.ireturn, 1) := by decide +kernel
theorem dX8_size_0 : decode cX8_size 0 = .ok (.aload_n 0, 1) := by decide +kernel
theorem dX8_size_1 : decode cX8_size 1 = .ok (.iload_n 1, 1) := by decide +kernel
theorem dX8_size_2 : decode cX8_size 2 = .ok (.invokevirtual 121, 3) := by decide +kernel
theorem dX8_size_5 : decode cX8_size 5 = .ok (.ifCond .eq 11, 3) := by decide +kernel
theorem dX8_size_8 : decode cX8_size 8 = .ok (.aload_n 0, 1) := by decide +kernel
theorem dX8_size_9 : decode cX8_size 9 = .ok (.iload_n 1, 1) := by decide +kernel
theorem dX8_size_10 : decode cX8_size 10 = .ok (.invokevirtual 127, 3) := by decide +kernel
theorem dX8_size_13 : decode cX8_size 13 = .ok (.goto 5, 3) := by decide +kernel
theorem dX8_size_16 : decode cX8_size 16 = .ok (.bipush (-2), 2) := by decide +kernel
theorem dX8_size_18 : decode cX8_size 18 = .ok (.ireturn, 1) := by decide +kernel
theorem dX8_even_0 : decode cX8_even 0 = .ok (.aload_n 0, 1) := by decide +kernel
theorem dX8_even_1 : decode cX8_even 1 = .ok (.iload_n 1, 1) := by decide +kernel
theorem dX8_even_2 : decode cX8_even 2 = .ok (.invokevirtual 121, 3) := by decide +kernel
theorem dX8_even_5 : decode cX8_even 5 = .ok (.ifCond .ne 6, 3) := by decide +kernel
theorem dX8_even_8 : decode cX8_even 8 = .ok (.bipush (-2), 2) := by decide +kernel
theorem dX8_even_10 : decode cX8_even 10 = .ok (.ireturn, 1) := by decide +kernel
theorem dX8_even_11 : decode cX8_even 11 = .ok (.aload_n 0, 1) := by decide +kernel
theorem dX8_even_12 : decode cX8_even 12 = .ok (.getfield 7, 3) := by decide +kernel
theorem dX8_even_15 : decode cX8_even 15 = .ok (.iload_n 1, 1) := by decide +kernel
theorem dX8_even_16 : decode cX8_even 16 = .ok (.iaload, 1) := by decide +kernel
theorem dX8_even_17 : decode cX8_even 17 = .ok (.istore_n 2, 1) := by decide +kernel
theorem dX8_even_18 : decode cX8_even 18 = .ok (.iconst 0, 1) := by decide +kernel
theorem dX8_even_19 : decode cX8_even 19 = .ok (.istore_n 3, 1) := by decide +kernel
theorem dX8_even_20 : decode cX8_even 20 = .ok (.iconst 0, 1) := by decide +kernel
theorem dX8_even_21 : decode cX8_even 21 = .ok (.istore 4, 2) := by decide +kernel
theorem dX8_even_23 : decode cX8_even 23 = .ok (.iload 4, 2) := by decide +kernel
theorem dX8_even_25 : decode cX8_even 25 = .ok (.aload_n 0, 1) := by decide +kernel
theorem dX8_even_26 : decode cX8_even 26 = .ok (.getfield 96, 3) := by decide +kernel
theorem dX8_even_29 : decode cX8_even 29 = .ok (.if_icmp .ge 30, 3) := by decide +kernel
theorem dX8_even_32 : decode cX8_even 32 = .ok (.iload_n 3, 1) := by decide +kernel
theorem dX8_even_33 : decode cX8_even 33 = .ok (.aload_n 0, 1) := by decide +kernel
theorem dX8_even_34 : decode cX8_even 34 = .ok (.getfield 92, 3) := by decide +kernel
theorem dX8_even_37 : decode cX8_even 37 = .ok (.imul, 1) := by decide +kernel
theorem dX8_even_38 : decode cX8_even 38 = .ok (.iload_n 2, 1) := by decide +kernel
theorem dX8_even_39 : decode cX8_even 39 = .ok (.aload_n 0, 1) := by decide +kernel
theorem dX8_even_40 : decode cX8_even 40 = .ok (.getfield 92, 3) := by decide +kernel
theorem dX8_even_43 : decode cX8_even 43 = .ok (.irem, 1) := by decide +kernel
theorem dX8_even_44 : decode cX8_even 44 = .ok (.iadd, 1) := by decide +kernel
theorem dX8_even_45 : decode cX8_even 45 = .ok (.istore_n 3, 1) := by decide +kernel
theorem dX8_even_46 : decode cX8_even 46 = .ok (.iload_n 2, 1) := by decide +kernel
theorem dX8_even_47 : decode cX8_even 47 = .ok (.aload_n 0, 1) := by decide +kernel
theorem dX8_even_48 : decode cX8_even 48 = .ok (.getfield 92, 3) := by decide +kernel
theorem dX8_even_51 : decode cX8_even 51 = .ok (.idiv, 1) := by decide +kernel
theorem dX8_even_52 : decode cX8_even 52 = .ok (.istore_n 2, 1) := by decide +kernel
theorem dX8_even_53 : decode cX8_even 53 = .ok (.iinc 4 1, 3) := by decide +kernel
theorem dX8_even_56 : decode cX8_even 56 = .ok (.goto (-33), 3) := by decide +kernel
theorem dX8_even_59 : decode cX8_even 59 = .ok (.aload_n 0, 1) := by decide +kernel
theorem dX8_even_60 : decode cX8_even 60 = .ok (.getfield 7, 3) := by decide +kernel
theorem dX8_even_63 : decode cX8_even 63 = .ok (.iload_n 3, 1) := by decide +kernel
theorem dX8_even_64 : decode cX8_even 64 = .ok (.iaload, 1) := by decide +kernel
theorem dX8_even_65 : decode cX8_even 65 = .ok (.aload_n 0, 1) := by decide +kernel
theorem dX8_even_66 : decode cX8_even 66 = .ok (.getfield 7, 3) := by decide +kernel
theorem dX8_even_69 : decode cX8_even 69 = .ok (.iload_n 1, 1) := by decide +kernel
theorem dX8_even_70 : decode cX8_even 70 = .ok (.iaload, 1) := by decide +kernel
theorem dX8_even_71 : decode cX8_even 71 = .ok (.if_icmp .ne 7, 3) := by decide +kernel
theorem dX8_even_74 : decode cX8_even 74 = .ok (.iconst 1, 1) := by decide +kernel
theorem dX8_even_75 : decode cX8_even 75 = .ok (.goto 4, 3) := by decide +kernel
theorem dX8_even_78 : decode cX8_even 78 = .ok (.iconst 0, 1) := by decide +kernel
theorem dX8_even_79 : decode cX8_even 79 = .ok (.ireturn, 1) := by decide +kernel
theorem dX8_rings_0 : decode cX8_rings 0 = .ok (.iconst 0, 1) := by decide +kernel
theorem dX8_rings_1 : decode cX8_rings 1 = .ok (.istore_n 1, 1) := by decide +kernel
theorem dX8_rings_2 : decode cX8_rings 2 = .ok (.iconst 0, 1) := by decide +kernel
theorem dX8_rings_3 : decode cX8_rings 3 = .ok (.istore_n 2, 1) := by decide +kernel
theorem dX8_rings_4 : decode cX8_rings 4 = .ok (.iload_n 2, 1) := by decide +kernel
theorem dX8_rings_5 : decode cX8_rings 5 = .ok (.aload_n 0, 1) := by decide +kernel
theorem dX8_rings_6 : decode cX8_rings 6 = .ok (.getfield 99, 3) := by decide +kernel
theorem dX8_rings_9 : decode cX8_rings 9 = .ok (.if_icmp .ge 27, 3) := by decide +kernel
theorem dX8_rings_12 : decode cX8_rings 12 = .ok (.iload_n 1, 1) := by decide +kernel
theorem dX8_rings_13 : decode cX8_rings 13 = .ok (.aload_n 0, 1) := by decide +kernel
theorem dX8_rings_14 : decode cX8_rings 14 = .ok (.getfield 7, 3) := by decide +kernel
theorem dX8_rings_17 : decode cX8_rings 17 = .ok (.iload_n 2, 1) := by decide +kernel
theorem dX8_rings_18 : decode cX8_rings 18 = .ok (.iaload, 1) := by decide +kernel
theorem dX8_rings_19 : decode cX8_rings 19 = .ok (.iload_n 2, 1) := by decide +kernel
theorem dX8_rings_20 : decode cX8_rings 20 = .ok (.if_icmp .ne 7, 3) := by decide +kernel
theorem dX8_rings_23 : decode cX8_rings 23 = .ok (.iconst 1, 1) := by decide +kernel
theorem dX8_rings_24 : decode cX8_rings 24 = .ok (.goto 4, 3) := by decide +kernel
theorem dX8_rings_27 : decode cX8_rings 27 = .ok (.iconst 0, 1) := by decide +kernel
theorem dX8_rings_28 : decode cX8_rings 28 = .ok (.iadd, 1) := by decide +kernel
theorem dX8_rings_29 : decode cX8_rings 29 = .ok (.istore_n 1, 1) := by decide +kernel
theorem dX8_rings_30 : decode cX8_rings 30 = .ok (.iinc 2 1, 3) := by decide +kernel
theorem dX8_rings_33 : decode cX8_rings 33 = .ok (.goto (-29), 3) := by decide +kernel
theorem dX8_rings_36 : decode cX8_rings 36 = .ok (.iload_n 1, 1) := by decide +kernel
theorem dX8_rings_37 : decode cX8_rings 37 = .ok (.ireturn, 1) := by decide +kernel
theorem dX8_ringOf_0 : decode cX8_ringOf 0 = .ok (.aload_n 0, 1) := by decide +kernel
theorem dX8_ringOf_1 : decode cX8_ringOf 1 = .ok (.iload_n 1, 1) := by decide +kernel
theorem dX8_ringOf_2 : decode cX8_ringOf 2 = .ok (.invokevirtual 121, 3) := by decide +kernel
theorem dX8_ringOf_5 : decode cX8_ringOf 5 = .ok (.ifCond .ne 6, 3) := by decide +kernel
theorem dX8_ringOf_8 : decode cX8_ringOf 8 = .ok (.bipush (-2), 2) := by decide +kernel
theorem dX8_ringOf_10 : decode cX8_ringOf 10 = .ok (.ireturn, 1) := by decide +kernel
theorem dX8_ringOf_11 : decode cX8_ringOf 11 = .ok (.iconst 0, 1) := by decide +kernel
theorem dX8_ringOf_12 : decode cX8_ringOf 12 = .ok (.istore_n 2, 1) := by decide +kernel
theorem dX8_ringOf_13 : decode cX8_ringOf 13 = .ok (.iconst 0, 1) := by decide +kernel
theorem dX8_ringOf_14 : decode cX8_ringOf 14 = .ok (.istore_n 3, 1) := by decide +kernel
theorem dX8_ringOf_15 : decode cX8_ringOf 15 = .ok (.iload_n 3, 1) := by decide +kernel
theorem dX8_ringOf_16 : decode cX8_ringOf 16 = .ok (.aload_n 0, 1) := by decide +kernel
theorem dX8_ringOf_17 : decode cX8_ringOf 17 = .ok (.getfield 7, 3) := by decide +kernel
theorem dX8_ringOf_20 : decode cX8_ringOf 20 = .ok (.iload_n 1, 1) := by decide +kernel
theorem dX8_ringOf_21 : decode cX8_ringOf 21 = .ok (.iaload, 1) := by decide +kernel
theorem dX8_ringOf_22 : decode cX8_ringOf 22 = .ok (.if_icmp .ge 27, 3) := by decide +kernel
theorem dX8_ringOf_25 : decode cX8_ringOf 25 = .ok (.iload_n 2, 1) := by decide +kernel
theorem dX8_ringOf_26 : decode cX8_ringOf 26 = .ok (.aload_n 0, 1) := by decide +kernel
theorem dX8_ringOf_27 : decode cX8_ringOf 27 = .ok (.getfield 7, 3) := by decide +kernel
theorem dX8_ringOf_30 : decode cX8_ringOf 30 = .ok (.iload_n 3, 1) := by decide +kernel
theorem dX8_ringOf_31 : decode cX8_ringOf 31 = .ok (.iaload, 1) := by decide +kernel
theorem dX8_ringOf_32 : decode cX8_ringOf 32 = .ok (.iload_n 3, 1) := by decide +kernel
theorem dX8_ringOf_33 : decode cX8_ringOf 33 = .ok (.if_icmp .ne 7, 3) := by decide +kernel
theorem dX8_ringOf_36 : decode cX8_ringOf 36 = .ok (.iconst 1, 1) := by decide +kernel
theorem dX8_ringOf_37 : decode cX8_ringOf 37 = .ok (.goto 4, 3) := by decide +kernel
theorem dX8_ringOf_40 : decode cX8_ringOf 40 = .ok (.iconst 0, 1) := by decide +kernel
theorem dX8_ringOf_41 : decode cX8_ringOf 41 = .ok (.iadd, 1) := by decide +kernel
theorem dX8_ringOf_42 : decode cX8_ringOf 42 = .ok (.istore_n 2, 1) := by decide +kernel
theorem dX8_ringOf_43 : decode cX8_ringOf 43 = .ok (.iinc 3 1, 3) := by decide +kernel
theorem dX8_ringOf_46 : decode cX8_ringOf 46 = .ok (.goto (-31), 3) := by decide +kernel
theorem dX8_ringOf_49 : decode cX8_ringOf 49 = .ok (.iload_n 2, 1) := by decide +kernel
theorem dX8_ringOf_50 : decode cX8_ringOf 50 = .ok (.ireturn, 1) := by decide +kernel
theorem dX8_ring_0 : decode cX8_ring 0 = .ok (.iload_n 1, 1) := by decide +kernel
theorem dX8_ring_1 : decode cX8_ring 1 = .ok (.istore_n 2, 1) := by decide +kernel
theorem dX8_ring_2 : decode cX8_ring 2 = .ok (.iconst 0, 1) := by decide +kernel
theorem dX8_ring_3 : decode cX8_ring 3 = .ok (.istore_n 3, 1) := by decide +kernel
theorem dX8_ring_4 : decode cX8_ring 4 = .ok (.iload_n 3, 1) := by decide +kernel
theorem dX8_ring_5 : decode cX8_ring 5 = .ok (.aload_n 0, 1) := by decide +kernel
theorem dX8_ring_6 : decode cX8_ring 6 = .ok (.getfield 99, 3) := by decide +kernel
theorem dX8_ring_9 : decode cX8_ring 9 = .ok (.if_icmp .ge 32, 3) := by decide +kernel
theorem dX8_ring_12 : decode cX8_ring 12 = .ok (.iload_n 1, 1) := by decide +kernel
theorem dX8_ring_13 : decode cX8_ring 13 = .ok (.ifCond .lt 28, 3) := by decide +kernel
theorem dX8_ring_16 : decode cX8_ring 16 = .ok (.aload_n 0, 1) := by decide +kernel
theorem dX8_ring_17 : decode cX8_ring 17 = .ok (.getfield 7, 3) := by decide +kernel
theorem dX8_ring_20 : decode cX8_ring 20 = .ok (.iload_n 3, 1) := by decide +kernel
theorem dX8_ring_21 : decode cX8_ring 21 = .ok (.iaload, 1) := by decide +kernel
theorem dX8_ring_22 : decode cX8_ring 22 = .ok (.iload_n 3, 1) := by decide +kernel
theorem dX8_ring_23 : decode cX8_ring 23 = .ok (.if_icmp .ne 12, 3) := by decide +kernel
theorem dX8_ring_26 : decode cX8_ring 26 = .ok (.iload_n 2, 1) := by decide +kernel
theorem dX8_ring_27 : decode cX8_ring 27 = .ok (.ifCond .ne 5, 3) := by decide +kernel
theorem dX8_ring_30 : decode cX8_ring 30 = .ok (.iload_n 3, 1) := by decide +kernel
theorem dX8_ring_31 : decode cX8_ring 31 = .ok (.ireturn, 1) := by decide +kernel
theorem dX8_ring_32 : decode cX8_ring 32 = .ok (.iinc 2 (-1), 3) := by decide +kernel
theorem dX8_ring_35 : decode cX8_ring 35 = .ok (.iinc 3 1, 3) := by decide +kernel
theorem dX8_ring_38 : decode cX8_ring 38 = .ok (.goto (-34), 3) := by decide +kernel
theorem dX8_ring_41 : decode cX8_ring 41 = .ok (.bipush (-2), 2) := by decide +kernel
theorem dX8_ring_43 : decode cX8_ring 43 = .ok (.ireturn, 1) := by decide +kernel
theorem dX8_below_0 : decode cX8_below 0 = .ok (.aload_n 0, 1) := by decide +kernel
theorem dX8_below_1 : decode cX8_below 1 = .ok (.iload_n 1, 1) := by decide +kernel
theorem dX8_below_2 : decode cX8_below 2 = .ok (.invokevirtual 121, 3) := by decide +kernel
theorem dX8_below_5 : decode cX8_below 5 = .ok (.ifCond .ne 6, 3) := by decide +kernel
theorem dX8_below_8 : decode cX8_below 8 = .ok (.bipush (-2), 2) := by decide +kernel
theorem dX8_below_10 : decode cX8_below 10 = .ok (.ireturn, 1) := by decide +kernel
theorem dX8_below_11 : decode cX8_below 11 = .ok (.iconst 0, 1) := by decide +kernel
theorem dX8_below_12 : decode cX8_below 12 = .ok (.istore_n 2, 1) := by decide +kernel
theorem dX8_below_13 : decode cX8_below 13 = .ok (.iconst 0, 1) := by decide +kernel
theorem dX8_below_14 : decode cX8_below 14 = .ok (.istore_n 3, 1) := by decide +kernel
theorem dX8_below_15 : decode cX8_below 15 = .ok (.iload_n 3, 1) := by decide +kernel
theorem dX8_below_16 : decode cX8_below 16 = .ok (.aload_n 0, 1) := by decide +kernel
theorem dX8_below_17 : decode cX8_below 17 = .ok (.getfield 99, 3) := by decide +kernel
theorem dX8_below_20 : decode cX8_below 20 = .ok (.if_icmp .ge 27, 3) := by decide +kernel
theorem dX8_below_23 : decode cX8_below 23 = .ok (.iload_n 2, 1) := by decide +kernel
theorem dX8_below_24 : decode cX8_below 24 = .ok (.aload_n 0, 1) := by decide +kernel
theorem dX8_below_25 : decode cX8_below 25 = .ok (.getfield 7, 3) := by decide +kernel
theorem dX8_below_28 : decode cX8_below 28 = .ok (.iload_n 3, 1) := by decide +kernel
theorem dX8_below_29 : decode cX8_below 29 = .ok (.iaload, 1) := by decide +kernel
theorem dX8_below_30 : decode cX8_below 30 = .ok (.iload_n 1, 1) := by decide +kernel
theorem dX8_below_31 : decode cX8_below 31 = .ok (.if_icmp .ge 7, 3) := by decide +kernel
theorem dX8_below_34 : decode cX8_below 34 = .ok (.iconst 1, 1) := by decide +kernel
theorem dX8_below_35 : decode cX8_below 35 = .ok (.goto 4, 3) := by decide +kernel
theorem dX8_below_38 : decode cX8_below 38 = .ok (.iconst 0, 1) := by decide +kernel
theorem dX8_below_39 : decode cX8_below 39 = .ok (.iadd, 1) := by decide +kernel
theorem dX8_below_40 : decode cX8_below 40 = .ok (.istore_n 2, 1) := by decide +kernel
theorem dX8_below_41 : decode cX8_below 41 = .ok (.iinc 3 1, 3) := by decide +kernel
theorem dX8_below_44 : decode cX8_below 44 = .ok (.goto (-29), 3) := by decide +kernel
theorem dX8_below_47 : decode cX8_below 47 = .ok (.iload_n 2, 1) := by decide +kernel
theorem dX8_below_48 : decode cX8_below 48 = .ok (.ireturn, 1) := by decide +kernel
theorem dX8_content_0 : decode cX8_content 0 = .ok (.aload_n 0, 1) := by decide +kernel
theorem dX8_content_1 : decode cX8_content 1 = .ok (.getfield 13, 3) := by decide +kernel
theorem dX8_content_4 : decode cX8_content 4 = .ok (.iconst 0, 1) := by decide +kernel
theorem dX8_content_5 : decode cX8_content 5 = .ok (.iload_n 1, 1) := by decide +kernel
theorem dX8_content_6 : decode cX8_content 6 = .ok (.iastore, 1) := by decide +kernel
theorem dX8_content_7 : decode cX8_content 7 = .ok (.aload_n 0, 1) := by decide +kernel
theorem dX8_content_8 : decode cX8_content 8 = .ok (.getfield 13, 3) := by decide +kernel
theorem dX8_content_11 : decode cX8_content 11 = .ok (.iconst 1, 1) := by decide +kernel
theorem dX8_content_12 : decode cX8_content 12 = .ok (.iload_n 2, 1) := by decide +kernel
theorem dX8_content_13 : decode cX8_content 13 = .ok (.iastore, 1) := by decide +kernel
theorem dX8_content_14 : decode cX8_content 14 = .ok (.aload_n 0, 1) := by decide +kernel
theorem dX8_content_15 : decode cX8_content 15 = .ok (.getfield 13, 3) := by decide +kernel
theorem dX8_content_18 : decode cX8_content 18 = .ok (.iconst 2, 1) := by decide +kernel
theorem dX8_content_19 : decode cX8_content 19 = .ok (.iload_n 3, 1) := by decide +kernel
theorem dX8_content_20 : decode cX8_content 20 = .ok (.iastore, 1) := by decide +kernel
theorem dX8_content_21 : decode cX8_content 21 = .ok (.aload_n 0, 1) := by decide +kernel
theorem dX8_content_22 : decode cX8_content 22 = .ok (.getfield 13, 3) := by decide +kernel
theorem dX8_content_25 : decode cX8_content 25 = .ok (.iconst 3, 1) := by decide +kernel
theorem dX8_content_26 : decode cX8_content 26 = .ok (.iload 4, 2) := by decide +kernel
theorem dX8_content_28 : decode cX8_content 28 = .ok (.iastore, 1) := by decide +kernel
theorem dX8_content_29 : decode cX8_content 29 = .ok (.aload_n 0, 1) := by decide +kernel
theorem dX8_content_30 : decode cX8_content 30 = .ok (.getfield 13, 3) := by decide +kernel
theorem dX8_content_33 : decode cX8_content 33 = .ok (.iconst 4, 1) := by decide +kernel
theorem dX8_content_34 : decode cX8_content 34 = .ok (.iload 5, 2) := by decide +kernel
theorem dX8_content_36 : decode cX8_content 36 = .ok (.iastore, 1) := by decide +kernel
theorem dX8_content_37 : decode cX8_content 37 = .ok (.lconst 0, 1) := by decide +kernel
theorem dX8_content_38 : decode cX8_content 38 = .ok (.lstore 6, 2) := by decide +kernel
theorem dX8_content_40 : decode cX8_content 40 = .ok (.iconst 1, 1) := by decide +kernel
theorem dX8_content_41 : decode cX8_content 41 = .ok (.istore 8, 2) := by decide +kernel
theorem dX8_content_43 : decode cX8_content 43 = .ok (.iconst 0, 1) := by decide +kernel
theorem dX8_content_44 : decode cX8_content 44 = .ok (.istore 9, 2) := by decide +kernel
theorem dX8_content_46 : decode cX8_content 46 = .ok (.iload 9, 2) := by decide +kernel
theorem dX8_content_48 : decode cX8_content 48 = .ok (.iconst 5, 1) := by decide +kernel
theorem dX8_content_49 : decode cX8_content 49 = .ok (.if_icmp .ge 63, 3) := by decide +kernel
theorem dX8_content_52 : decode cX8_content 52 = .ok (.iload 8, 2) := by decide +kernel
theorem dX8_content_54 : decode cX8_content 54 = .ok (.ifCond .eq 36, 3) := by decide +kernel
theorem dX8_content_57 : decode cX8_content 57 = .ok (.aload_n 0, 1) := by decide +kernel
theorem dX8_content_58 : decode cX8_content 58 = .ok (.getfield 13, 3) := by decide +kernel
theorem dX8_content_61 : decode cX8_content 61 = .ok (.iload 9, 2) := by decide +kernel
theorem dX8_content_63 : decode cX8_content 63 = .ok (.iaload, 1) := by decide +kernel
theorem dX8_content_64 : decode cX8_content 64 = .ok (.ifCond .lt 26, 3) := by decide +kernel
theorem dX8_content_67 : decode cX8_content 67 = .ok (.iload 9, 2) := by decide +kernel
theorem dX8_content_69 : decode cX8_content 69 = .ok (.aload_n 0, 1) := by decide +kernel
theorem dX8_content_70 : decode cX8_content 70 = .ok (.getfield 92, 3) := by decide +kernel
theorem dX8_content_73 : decode cX8_content 73 = .ok (.if_icmp .lt 13, 3) := by decide +kernel
theorem dX8_content_76 : decode cX8_content 76 = .ok (.aload_n 0, 1) := by decide +kernel
theorem dX8_content_77 : decode cX8_content 77 = .ok (.getfield 13, 3) := by decide +kernel
theorem dX8_content_80 : decode cX8_content 80 = .ok (.iload 9, 2) := by decide +kernel
theorem dX8_content_82 : decode cX8_content 82 = .ok (.iaload, 1) := by decide +kernel
theorem dX8_content_83 : decode cX8_content 83 = .ok (.ifCond .ne 7, 3) := by decide +kernel
theorem dX8_content_86 : decode cX8_content 86 = .ok (.iconst 1, 1) := by decide +kernel
theorem dX8_content_87 : decode cX8_content 87 = .ok (.goto 4, 3) := by decide +kernel
theorem dX8_content_90 : decode cX8_content 90 = .ok (.iconst 0, 1) := by decide +kernel
theorem dX8_content_91 : decode cX8_content 91 = .ok (.istore 8, 2) := by decide +kernel
theorem dX8_content_93 : decode cX8_content 93 = .ok (.lload 6, 2) := by decide +kernel
theorem dX8_content_95 : decode cX8_content 95 = .ok (.aload_n 0, 1) := by decide +kernel
theorem dX8_content_96 : decode cX8_content 96 = .ok (.getfield 13, 3) := by decide +kernel
theorem dX8_content_99 : decode cX8_content 99 = .ok (.iload 9, 2) := by decide +kernel
theorem dX8_content_101 : decode cX8_content 101 = .ok (.iaload, 1) := by decide +kernel
theorem dX8_content_102 : decode cX8_content 102 = .ok (.i2l, 1) := by decide +kernel
theorem dX8_content_103 : decode cX8_content 103 = .ok (.ladd, 1) := by decide +kernel
theorem dX8_content_104 : decode cX8_content 104 = .ok (.lstore 6, 2) := by decide +kernel
theorem dX8_content_106 : decode cX8_content 106 = .ok (.iinc 9 1, 3) := by decide +kernel
theorem dX8_content_109 : decode cX8_content 109 = .ok (.goto (-63), 3) := by decide +kernel
theorem dX8_content_112 : decode cX8_content 112 = .ok (.iload 8, 2) := by decide +kernel
theorem dX8_content_114 : decode cX8_content 114 = .ok (.ifCond .eq 14, 3) := by decide +kernel
theorem dX8_content_117 : decode cX8_content 117 = .ok (.lload 6, 2) := by decide +kernel
theorem dX8_content_119 : decode cX8_content 119 = .ok (.aload_n 0, 1) := by decide +kernel
theorem dX8_content_120 : decode cX8_content 120 = .ok (.getfield 96, 3) := by decide +kernel
theorem dX8_content_123 : decode cX8_content 123 = .ok (.i2l, 1) := by decide +kernel
theorem dX8_content_124 : decode cX8_content 124 = .ok (.lcmp, 1) := by decide +kernel
theorem dX8_content_125 : decode cX8_content 125 = .ok (.ifCond .eq 6, 3) := by decide +kernel
theorem dX8_content_128 : decode cX8_content 128 = .ok (.bipush (-2), 2) := by decide +kernel
theorem dX8_content_130 : decode cX8_content 130 = .ok (.ireturn, 1) := by decide +kernel
theorem dX8_content_131 : decode cX8_content 131 = .ok (.iconst 0, 1) := by decide +kernel
theorem dX8_content_132 : decode cX8_content 132 = .ok (.istore 9, 2) := by decide +kernel
theorem dX8_content_134 : decode cX8_content 134 = .ok (.iconst 0, 1) := by decide +kernel
theorem dX8_content_135 : decode cX8_content 135 = .ok (.istore 10, 2) := by decide +kernel
theorem dX8_content_137 : decode cX8_content 137 = .ok (.iload 10, 2) := by decide +kernel
theorem dX8_content_139 : decode cX8_content 139 = .ok (.aload_n 0, 1) := by decide +kernel
theorem dX8_content_140 : decode cX8_content 140 = .ok (.getfield 99, 3) := by decide +kernel
theorem dX8_content_143 : decode cX8_content 143 = .ok (.if_icmp .ge 40, 3) := by decide +kernel
theorem dX8_content_146 : decode cX8_content 146 = .ok (.iload 9, 2) := by decide +kernel
theorem dX8_content_148 : decode cX8_content 148 = .ok (.aload_n 0, 1) := by decide +kernel
theorem dX8_content_149 : decode cX8_content 149 = .ok (.getfield 7, 3) := by decide +kernel
theorem dX8_content_152 : decode cX8_content 152 = .ok (.iload 10, 2) := by decide +kernel
theorem dX8_content_154 : decode cX8_content 154 = .ok (.iaload, 1) := by decide +kernel
theorem dX8_content_155 : decode cX8_content 155 = .ok (.iload 10, 2) := by decide +kernel
theorem dX8_content_157 : decode cX8_content 157 = .ok (.if_icmp .ne 16, 3) := by decide +kernel
theorem dX8_content_160 : decode cX8_content 160 = .ok (.aload_n 0, 1) := by decide +kernel
theorem dX8_content_161 : decode cX8_content 161 = .ok (.iload 10, 2) := by decide +kernel
theorem dX8_content_163 : decode cX8_content 163 = .ok (.invokevirtual 130, 3) := by decide +kernel
theorem dX8_content_166 : decode cX8_content 166 = .ok (.ifCond .eq 7, 3) := by decide +kernel
theorem dX8_content_169 : decode cX8_content 169 = .ok (.iconst 1, 1) := by decide +kernel
theorem dX8_content_170 : decode cX8_content 170 = .ok (.goto 4, 3) := by decide +kernel
theorem dX8_content_173 : decode cX8_content 173 = .ok (.iconst 0, 1) := by decide +kernel
theorem dX8_content_174 : decode cX8_content 174 = .ok (.iadd, 1) := by decide +kernel
theorem dX8_content_175 : decode cX8_content 175 = .ok (.istore 9, 2) := by decide +kernel
theorem dX8_content_177 : decode cX8_content 177 = .ok (.iinc 10 1, 3) := by decide +kernel
theorem dX8_content_180 : decode cX8_content 180 = .ok (.goto (-43), 3) := by decide +kernel
theorem dX8_content_183 : decode cX8_content 183 = .ok (.iload 9, 2) := by decide +kernel
theorem dX8_content_185 : decode cX8_content 185 = .ok (.ireturn, 1) := by decide +kernel
theorem dX8_hasWanted_0 : decode cX8_hasWanted 0 = .ok (.iconst 0, 1) := by decide +kernel
theorem dX8_hasWanted_1 : decode cX8_hasWanted 1 = .ok (.istore_n 2, 1) := by decide +kernel
theorem dX8_hasWanted_2 : decode cX8_hasWanted 2 = .ok (.iload_n 2, 1) := by decide +kernel
theorem dX8_hasWanted_3 : decode cX8_hasWanted 3 = .ok (.iconst 5, 1) := by decide +kernel
theorem dX8_hasWanted_4 : decode cX8_hasWanted 4 = .ok (.if_icmp .ge 16, 3) := by decide +kernel
theorem dX8_hasWanted_7 : decode cX8_hasWanted 7 = .ok (.aload_n 0, 1) := by decide +kernel
theorem dX8_hasWanted_8 : decode cX8_hasWanted 8 = .ok (.getfield 16, 3) := by decide +kernel
theorem dX8_hasWanted_11 : decode cX8_hasWanted 11 = .ok (.iload_n 2, 1) := by decide +kernel
theorem dX8_hasWanted_12 : decode cX8_hasWanted 12 = .ok (.iconst 0, 1) := by decide +kernel
theorem dX8_hasWanted_13 : decode cX8_hasWanted 13 = .ok (.iastore, 1) := by decide +kernel
theorem dX8_hasWanted_14 : decode cX8_hasWanted 14 = .ok (.iinc 2 1, 3) := by decide +kernel
theorem dX8_hasWanted_17 : decode cX8_hasWanted 17 = .ok (.goto (-15), 3) := by decide +kernel
theorem dX8_hasWanted_20 : decode cX8_hasWanted 20 = .ok (.iload_n 1, 1) := by decide +kernel
theorem dX8_hasWanted_21 : decode cX8_hasWanted 21 = .ok (.istore_n 2, 1) := by decide +kernel
theorem dX8_hasWanted_22 : decode cX8_hasWanted 22 = .ok (.iconst 0, 1) := by decide +kernel
theorem dX8_hasWanted_23 : decode cX8_hasWanted 23 = .ok (.istore_n 3, 1) := by decide +kernel
theorem dX8_hasWanted_24 : decode cX8_hasWanted 24 = .ok (.iload_n 3, 1) := by decide +kernel
theorem dX8_hasWanted_25 : decode cX8_hasWanted 25 = .ok (.aload_n 0, 1) := by decide +kernel
theorem dX8_hasWanted_26 : decode cX8_hasWanted 26 = .ok (.getfield 96, 3) := by decide +kernel
theorem dX8_hasWanted_29 : decode cX8_hasWanted 29 = .ok (.if_icmp .ge 31, 3) := by decide +kernel
theorem dX8_hasWanted_32 : decode cX8_hasWanted 32 = .ok (.aload_n 0, 1) := by decide +kernel
theorem dX8_hasWanted_33 : decode cX8_hasWanted 33 = .ok (.getfield 16, 3) := by decide +kernel
theorem dX8_hasWanted_36 : decode cX8_hasWanted 36 = .ok (.iload_n 2, 1) := by decide +kernel
theorem dX8_hasWanted_37 : decode cX8_hasWanted 37 = .ok (.aload_n 0, 1) := by decide +kernel
theorem dX8_hasWanted_38 : decode cX8_hasWanted 38 = .ok (.getfield 92, 3) := by decide +kernel
theorem dX8_hasWanted_41 : decode cX8_hasWanted 41 = .ok (.irem, 1) := by decide +kernel
theorem dX8_hasWanted_42 : decode cX8_hasWanted 42 = .ok (.dup2, 1) := by decide +kernel
theorem dX8_hasWanted_43 : decode cX8_hasWanted 43 = .ok (.iaload, 1) := by decide +kernel
theorem dX8_hasWanted_44 : decode cX8_hasWanted 44 = .ok (.iconst 1, 1) := by decide +kernel
theorem dX8_hasWanted_45 : decode cX8_hasWanted 45 = .ok (.iadd, 1) := by decide +kernel
theorem dX8_hasWanted_46 : decode cX8_hasWanted 46 = .ok (.iastore, 1) := by decide +kernel
theorem dX8_hasWanted_47 : decode cX8_hasWanted 47 = .ok (.iload_n 2, 1) := by decide +kernel
theorem dX8_hasWanted_48 : decode cX8_hasWanted 48 = .ok (.aload_n 0, 1) := by decide +kernel
theorem dX8_hasWanted_49 : decode cX8_hasWanted 49 = .ok (.getfield 92, 3) := by decide +kernel
theorem dX8_hasWanted_52 : decode cX8_hasWanted 52 = .ok (.idiv, 1) := by decide +kernel
theorem dX8_hasWanted_53 : decode cX8_hasWanted 53 = .ok (.istore_n 2, 1) := by decide +kernel
theorem dX8_hasWanted_54 : decode cX8_hasWanted 54 = .ok (.iinc 3 1, 3) := by decide +kernel
theorem dX8_hasWanted_57 : decode cX8_hasWanted 57 = .ok (.goto (-33), 3) := by decide +kernel
theorem dX8_hasWanted_60 : decode cX8_hasWanted 60 = .ok (.iconst 1, 1) := by decide +kernel
theorem dX8_hasWanted_61 : decode cX8_hasWanted 61 = .ok (.istore_n 3, 1) := by decide +kernel
theorem dX8_hasWanted_62 : decode cX8_hasWanted 62 = .ok (.iconst 0, 1) := by decide +kernel
theorem dX8_hasWanted_63 : decode cX8_hasWanted 63 = .ok (.istore 4, 2) := by decide +kernel
theorem dX8_hasWanted_65 : decode cX8_hasWanted 65 = .ok (.iload 4, 2) := by decide +kernel
theorem dX8_hasWanted_67 : decode cX8_hasWanted 67 = .ok (.iconst 5, 1) := by decide +kernel
theorem dX8_hasWanted_68 : decode cX8_hasWanted 68 = .ok (.if_icmp .ge 36, 3) := by decide +kernel
theorem dX8_hasWanted_71 : decode cX8_hasWanted 71 = .ok (.iload_n 3, 1) := by decide +kernel
theorem dX8_hasWanted_72 : decode cX8_hasWanted 72 = .ok (.ifCond .eq 24, 3) := by decide +kernel
theorem dX8_hasWanted_75 : decode cX8_hasWanted 75 = .ok (.aload_n 0, 1) := by decide +kernel
theorem dX8_hasWanted_76 : decode cX8_hasWanted 76 = .ok (.getfield 16, 3) := by decide +kernel
theorem dX8_hasWanted_79 : decode cX8_hasWanted 79 = .ok (.iload 4, 2) := by decide +kernel
theorem dX8_hasWanted_81 : decode cX8_hasWanted 81 = .ok (.iaload, 1) := by decide +kernel
theorem dX8_hasWanted_82 : decode cX8_hasWanted 82 = .ok (.aload_n 0, 1) := by decide +kernel
theorem dX8_hasWanted_83 : decode cX8_hasWanted 83 = .ok (.getfield 13, 3) := by decide +kernel
theorem dX8_hasWanted_86 : decode cX8_hasWanted 86 = .ok (.iload 4, 2) := by decide +kernel
theorem dX8_hasWanted_88 : decode cX8_hasWanted 88 = .ok (.iaload, 1) := by decide +kernel
theorem dX8_hasWanted_89 : decode cX8_hasWanted 89 = .ok (.if_icmp .ne 7, 3) := by decide +kernel
theorem dX8_hasWanted_92 : decode cX8_hasWanted 92 = .ok (.iconst 1, 1) := by decide +kernel
theorem dX8_hasWanted_93 : decode cX8_hasWanted 93 = .ok (.goto 4, 3) := by decide +kernel
theorem dX8_hasWanted_96 : decode cX8_hasWanted 96 = .ok (.iconst 0, 1) := by decide +kernel
theorem dX8_hasWanted_97 : decode cX8_hasWanted 97 = .ok (.istore_n 3, 1) := by decide +kernel
theorem dX8_hasWanted_98 : decode cX8_hasWanted 98 = .ok (.iinc 4 1, 3) := by decide +kernel
theorem dX8_hasWanted_101 : decode cX8_hasWanted 101 = .ok (.goto (-36), 3) := by decide +kernel
theorem dX8_hasWanted_104 : decode cX8_hasWanted 104 = .ok (.iload_n 3, 1) := by decide +kernel
theorem dX8_hasWanted_105 : decode cX8_hasWanted 105 = .ok (.ireturn, 1) := by decide +kernel
theorem dX8_lead_0 : decode cX8_lead 0 = .ok (.aload_n 0, 1) := by decide +kernel
theorem dX8_lead_1 : decode cX8_lead 1 = .ok (.iconst 0, 1) := by decide +kernel
theorem dX8_lead_2 : decode cX8_lead 2 = .ok (.putfield 133, 3) := by decide +kernel
theorem dX8_lead_5 : decode cX8_lead 5 = .ok (.aload_n 0, 1) := by decide +kernel
theorem dX8_lead_6 : decode cX8_lead 6 = .ok (.getfield 99, 3) := by decide +kernel
theorem dX8_lead_9 : decode cX8_lead 9 = .ok (.aload_n 0, 1) := by decide +kernel
theorem dX8_lead_10 : decode cX8_lead 10 = .ok (.getfield 92, 3) := by decide +kernel
theorem dX8_lead_13 : decode cX8_lead 13 = .ok (.idiv, 1) := by decide +kernel
theorem dX8_lead_14 : decode cX8_lead 14 = .ok (.istore_n 1, 1) := by decide +kernel
theorem dX8_lead_15 : decode cX8_lead 15 = .ok (.iconst 0, 1) := by decide +kernel
theorem dX8_lead_16 : decode cX8_lead 16 = .ok (.istore_n 2, 1) := by decide +kernel
theorem dX8_lead_17 : decode cX8_lead 17 = .ok (.iload_n 2, 1) := by decide +kernel
theorem dX8_lead_18 : decode cX8_lead 18 = .ok (.aload_n 0, 1) := by decide +kernel
theorem dX8_lead_19 : decode cX8_lead 19 = .ok (.getfield 99, 3) := by decide +kernel
theorem dX8_lead_22 : decode cX8_lead 22 = .ok (.if_icmp .ge 84, 3) := by decide +kernel
theorem dX8_lead_25 : decode cX8_lead 25 = .ok (.aload_n 0, 1) := by decide +kernel
theorem dX8_lead_26 : decode cX8_lead 26 = .ok (.getfield 106, 3) := by decide +kernel
theorem dX8_lead_29 : decode cX8_lead 29 = .ok (.istore_n 3, 1) := by decide +kernel
theorem dX8_lead_30 : decode cX8_lead 30 = .ok (.iload_n 2, 1) := by decide +kernel
theorem dX8_lead_31 : decode cX8_lead 31 = .ok (.istore 4, 2) := by decide +kernel
theorem dX8_lead_33 : decode cX8_lead 33 = .ok (.aload_n 0, 1) := by decide +kernel
theorem dX8_lead_34 : decode cX8_lead 34 = .ok (.getfield 96, 3) := by decide +kernel
theorem dX8_lead_37 : decode cX8_lead 37 = .ok (.iconst 1, 1) := by decide +kernel
theorem dX8_lead_38 : decode cX8_lead 38 = .ok (.isub, 1) := by decide +kernel
theorem dX8_lead_39 : decode cX8_lead 39 = .ok (.istore 5, 2) := by decide +kernel
theorem dX8_lead_41 : decode cX8_lead 41 = .ok (.iload 5, 2) := by decide +kernel
theorem dX8_lead_43 : decode cX8_lead 43 = .ok (.ifCond .lt 36, 3) := by decide +kernel
theorem dX8_lead_46 : decode cX8_lead 46 = .ok (.iload_n 3, 1) := by decide +kernel
theorem dX8_lead_47 : decode cX8_lead 47 = .ok (.aload_n 0, 1) := by decide +kernel
theorem dX8_lead_48 : decode cX8_lead 48 = .ok (.getfield 19, 3) := by decide +kernel
theorem dX8_lead_51 : decode cX8_lead 51 = .ok (.iload 5, 2) := by decide +kernel
theorem dX8_lead_53 : decode cX8_lead 53 = .ok (.iaload, 1) := by decide +kernel
theorem dX8_lead_54 : decode cX8_lead 54 = .ok (.iload 4, 2) := by decide +kernel
theorem dX8_lead_56 : decode cX8_lead 56 = .ok (.aload_n 0, 1) := by decide +kernel
theorem dX8_lead_57 : decode cX8_lead 57 = .ok (.getfield 92, 3) := by decide +kernel
theorem dX8_lead_60 : decode cX8_lead 60 = .ok (.irem, 1) := by decide +kernel
theorem dX8_lead_61 : decode cX8_lead 61 = .ok (.imul, 1) := by decide +kernel
theorem dX8_lead_62 : decode cX8_lead 62 = .ok (.iadd, 1) := by decide +kernel
theorem dX8_lead_63 : decode cX8_lead 63 = .ok (.istore_n 3, 1) := by decide +kernel
theorem dX8_lead_64 : decode cX8_lead 64 = .ok (.iload 4, 2) := by decide +kernel
theorem dX8_lead_66 : decode cX8_lead 66 = .ok (.aload_n 0, 1) := by decide +kernel
theorem dX8_lead_67 : decode cX8_lead 67 = .ok (.getfield 92, 3) := by decide +kernel
theorem dX8_lead_70 : decode cX8_lead 70 = .ok (.idiv, 1) := by decide +kernel
theorem dX8_lead_71 : decode cX8_lead 71 = .ok (.istore 4, 2) := by decide +kernel
theorem dX8_lead_73 : decode cX8_lead 73 = .ok (.iinc 5 (-1), 3) := by decide +kernel
theorem dX8_lead_76 : decode cX8_lead 76 = .ok (.goto (-35), 3) := by decide +kernel
theorem dX8_lead_79 : decode cX8_lead 79 = .ok (.aload_n 0, 1) := by decide +kernel
theorem dX8_lead_80 : decode cX8_lead 80 = .ok (.getfield 22, 3) := by decide +kernel
theorem dX8_lead_83 : decode cX8_lead 83 = .ok (.iload_n 2, 1) := by decide +kernel
theorem dX8_lead_84 : decode cX8_lead 84 = .ok (.iload_n 2, 1) := by decide +kernel
theorem dX8_lead_85 : decode cX8_lead 85 = .ok (.iload_n 1, 1) := by decide +kernel
theorem dX8_lead_86 : decode cX8_lead 86 = .ok (.irem, 1) := by decide +kernel
theorem dX8_lead_87 : decode cX8_lead 87 = .ok (.aload_n 0, 1) := by decide +kernel
theorem dX8_lead_88 : decode cX8_lead 88 = .ok (.getfield 92, 3) := by decide +kernel
theorem dX8_lead_91 : decode cX8_lead 91 = .ok (.imul, 1) := by decide +kernel
theorem dX8_lead_92 : decode cX8_lead 92 = .ok (.iload_n 3, 1) := by decide +kernel
theorem dX8_lead_93 : decode cX8_lead 93 = .ok (.aload_n 0, 1) := by decide +kernel
theorem dX8_lead_94 : decode cX8_lead 94 = .ok (.getfield 92, 3) := by decide +kernel
theorem dX8_lead_97 : decode cX8_lead 97 = .ok (.irem, 1) := by decide +kernel
theorem dX8_lead_98 : decode cX8_lead 98 = .ok (.iadd, 1) := by decide +kernel
theorem dX8_lead_99 : decode cX8_lead 99 = .ok (.iastore, 1) := by decide +kernel
theorem dX8_lead_100 : decode cX8_lead 100 = .ok (.iinc 2 1, 3) := by decide +kernel
theorem dX8_lead_103 : decode cX8_lead 103 = .ok (.goto (-86), 3) := by decide +kernel
theorem dX8_lead_106 : decode cX8_lead 106 = .ok (.return_, 1) := by decide +kernel
theorem dX8_factor_0 : decode cX8_factor 0 = .ok (.iload_n 1, 1) := by decide +kernel
theorem dX8_factor_1 : decode cX8_factor 1 = .ok (.i2l, 1) := by decide +kernel
theorem dX8_factor_2 : decode cX8_factor 2 = .ok (.lconst 0, 1) := by decide +kernel
theorem dX8_factor_3 : decode cX8_factor 3 = .ok (.aload_n 0, 1) := by decide +kernel
theorem dX8_factor_4 : decode cX8_factor 4 = .ok (.getfield 96, 3) := by decide +kernel
theorem dX8_factor_7 : decode cX8_factor 7 = .ok (.iconst 1, 1) := by decide +kernel
theorem dX8_factor_8 : decode cX8_factor 8 = .ok (.isub, 1) := by decide +kernel
theorem dX8_factor_9 : decode cX8_factor 9 = .ok (.i2l, 1) := by decide +kernel
theorem dX8_factor_10 : decode cX8_factor 10 = .ok (.invokestatic 86, 3) := by decide +kernel
theorem dX8_factor_13 : decode cX8_factor 13 = .ok (.ifCond .eq 19, 3) := by decide +kernel
theorem dX8_factor_16 : decode cX8_factor 16 = .ok (.iload_n 2, 1) := by decide +kernel
theorem dX8_factor_17 : decode cX8_factor 17 = .ok (.i2l, 1) := by decide +kernel
theorem dX8_factor_18 : decode cX8_factor 18 = .ok (.lconst 0, 1) := by decide +kernel
theorem dX8_factor_19 : decode cX8_factor 19 = .ok (.aload_n 0, 1) := by decide +kernel
theorem dX8_factor_20 : decode cX8_factor 20 = .ok (.getfield 92, 3) := by decide +kernel
theorem dX8_factor_23 : decode cX8_factor 23 = .ok (.iconst 1, 1) := by decide +kernel
theorem dX8_factor_24 : decode cX8_factor 24 = .ok (.isub, 1) := by decide +kernel
theorem dX8_factor_25 : decode cX8_factor 25 = .ok (.i2l, 1) := by decide +kernel
theorem dX8_factor_26 : decode cX8_factor 26 = .ok (.invokestatic 86, 3) := by decide +kernel
theorem dX8_factor_29 : decode cX8_factor 29 = .ok (.ifCond .ne 6, 3) := by decide +kernel
theorem dX8_factor_32 : decode cX8_factor 32 = .ok (.bipush (-2), 2) := by decide +kernel
theorem dX8_factor_34 : decode cX8_factor 34 = .ok (.ireturn, 1) := by decide +kernel
theorem dX8_factor_35 : decode cX8_factor 35 = .ok (.aload_n 0, 1) := by decide +kernel
theorem dX8_factor_36 : decode cX8_factor 36 = .ok (.getfield 19, 3) := by decide +kernel
theorem dX8_factor_39 : decode cX8_factor 39 = .ok (.iload_n 1, 1) := by decide +kernel
theorem dX8_factor_40 : decode cX8_factor 40 = .ok (.iaload, 1) := by decide +kernel
theorem dX8_factor_41 : decode cX8_factor 41 = .ok (.istore_n 3, 1) := by decide +kernel
theorem dX8_factor_42 : decode cX8_factor 42 = .ok (.aload_n 0, 1) := by decide +kernel
theorem dX8_factor_43 : decode cX8_factor 43 = .ok (.getfield 19, 3) := by decide +kernel
theorem dX8_factor_46 : decode cX8_factor 46 = .ok (.iload_n 1, 1) := by decide +kernel
theorem dX8_factor_47 : decode cX8_factor 47 = .ok (.iload_n 2, 1) := by decide +kernel
theorem dX8_factor_48 : decode cX8_factor 48 = .ok (.iastore, 1) := by decide +kernel
theorem dX8_factor_49 : decode cX8_factor 49 = .ok (.aload_n 0, 1) := by decide +kernel
theorem dX8_factor_50 : decode cX8_factor 50 = .ok (.invokevirtual 109, 3) := by decide +kernel
theorem dX8_factor_53 : decode cX8_factor 53 = .ok (.iload_n 3, 1) := by decide +kernel
theorem dX8_factor_54 : decode cX8_factor 54 = .ok (.ireturn, 1) := by decide +kernel
theorem dX8_sum_0 : decode cX8_sum 0 = .ok (.iload_n 1, 1) := by decide +kernel
theorem dX8_sum_1 : decode cX8_sum 1 = .ok (.i2l, 1) := by decide +kernel
theorem dX8_sum_2 : decode cX8_sum 2 = .ok (.lconst 0, 1) := by decide +kernel
theorem dX8_sum_3 : decode cX8_sum 3 = .ok (.aload_n 0, 1) := by decide +kernel
theorem dX8_sum_4 : decode cX8_sum 4 = .ok (.getfield 92, 3) := by decide +kernel
theorem dX8_sum_7 : decode cX8_sum 7 = .ok (.iconst 1, 1) := by decide +kernel
theorem dX8_sum_8 : decode cX8_sum 8 = .ok (.isub, 1) := by decide +kernel
theorem dX8_sum_9 : decode cX8_sum 9 = .ok (.i2l, 1) := by decide +kernel
theorem dX8_sum_10 : decode cX8_sum 10 = .ok (.invokestatic 86, 3) := by decide +kernel
theorem dX8_sum_13 : decode cX8_sum 13 = .ok (.ifCond .ne 6, 3) := by decide +kernel
theorem dX8_sum_16 : decode cX8_sum 16 = .ok (.bipush (-2), 2) := by decide +kernel
theorem dX8_sum_18 : decode cX8_sum 18 = .ok (.ireturn, 1) := by decide +kernel
theorem dX8_sum_19 : decode cX8_sum 19 = .ok (.aload_n 0, 1) := by decide +kernel
theorem dX8_sum_20 : decode cX8_sum 20 = .ok (.getfield 106, 3) := by decide +kernel
theorem dX8_sum_23 : decode cX8_sum 23 = .ok (.istore_n 2, 1) := by decide +kernel
theorem dX8_sum_24 : decode cX8_sum 24 = .ok (.aload_n 0, 1) := by decide +kernel
theorem dX8_sum_25 : decode cX8_sum 25 = .ok (.iload_n 1, 1) := by decide +kernel
theorem dX8_sum_26 : decode cX8_sum 26 = .ok (.putfield 106, 3) := by decide +kernel
theorem dX8_sum_29 : decode cX8_sum 29 = .ok (.aload_n 0, 1) := by decide +kernel
theorem dX8_sum_30 : decode cX8_sum 30 = .ok (.invokevirtual 109, 3) := by decide +kernel
theorem dX8_sum_33 : decode cX8_sum 33 = .ok (.iload_n 2, 1) := by decide +kernel
theorem dX8_sum_34 : decode cX8_sum 34 = .ok (.ireturn, 1) := by decide +kernel
theorem dX8_go_0 : decode cX8_go 0 = .ok (.aload_n 0, 1) := by decide +kernel
theorem dX8_go_1 : decode cX8_go 1 = .ok (.iload_n 1, 1) := by decide +kernel
theorem dX8_go_2 : decode cX8_go 2 = .ok (.invokevirtual 121, 3) := by decide +kernel
theorem dX8_go_5 : decode cX8_go 5 = .ok (.ifCond .eq 12, 3) := by decide +kernel
theorem dX8_go_8 : decode cX8_go 8 = .ok (.aload_n 0, 1) := by decide +kernel
theorem dX8_go_9 : decode cX8_go 9 = .ok (.getfield 22, 3) := by decide +kernel
theorem dX8_go_12 : decode cX8_go 12 = .ok (.iload_n 1, 1) := by decide +kernel
theorem dX8_go_13 : decode cX8_go 13 = .ok (.iaload, 1) := by decide +kernel
theorem dX8_go_14 : decode cX8_go 14 = .ok (.goto 5, 3) := by decide +kernel
theorem dX8_go_17 : decode cX8_go 17 = .ok (.bipush (-2), 2) := by decide +kernel
theorem dX8_go_19 : decode cX8_go 19 = .ok (.ireturn, 1) := by decide +kernel
theorem dX8_isRight_0 : decode cX8_isRight 0 = .ok (.iconst 0, 1) := by decide +kernel
theorem dX8_isRight_1 : decode cX8_isRight 1 = .ok (.istore_n 1, 1) := by decide +kernel
theorem dX8_isRight_2 : decode cX8_isRight 2 = .ok (.iload_n 1, 1) := by decide +kernel
theorem dX8_isRight_3 : decode cX8_isRight 3 = .ok (.aload_n 0, 1) := by decide +kernel
theorem dX8_isRight_4 : decode cX8_isRight 4 = .ok (.getfield 99, 3) := by decide +kernel
theorem dX8_isRight_7 : decode cX8_isRight 7 = .ok (.if_icmp .ge 16, 3) := by decide +kernel
theorem dX8_isRight_10 : decode cX8_isRight 10 = .ok (.aload_n 0, 1) := by decide +kernel
theorem dX8_isRight_11 : decode cX8_isRight 11 = .ok (.getfield 31, 3) := by decide +kernel
theorem dX8_isRight_14 : decode cX8_isRight 14 = .ok (.iload_n 1, 1) := by decide +kernel
theorem dX8_isRight_15 : decode cX8_isRight 15 = .ok (.iconst 0, 1) := by decide +kernel
theorem dX8_isRight_16 : decode cX8_isRight 16 = .ok (.bastore, 1) := by decide +kernel
theorem dX8_isRight_17 : decode cX8_isRight 17 = .ok (.iinc 1 1, 3) := by decide +kernel
theorem dX8_isRight_20 : decode cX8_isRight 20 = .ok (.goto (-18), 3) := by decide +kernel
theorem dX8_isRight_23 : decode cX8_isRight 23 = .ok (.iconst 1, 1) := by decide +kernel
theorem dX8_isRight_24 : decode cX8_isRight 24 = .ok (.istore_n 1, 1) := by decide +kernel
theorem dX8_isRight_25 : decode cX8_isRight 25 = .ok (.iconst 0, 1) := by decide +kernel
theorem dX8_isRight_26 : decode cX8_isRight 26 = .ok (.istore_n 2, 1) := by decide +kernel
theorem dX8_isRight_27 : decode cX8_isRight 27 = .ok (.iload_n 2, 1) := by decide +kernel
theorem dX8_isRight_28 : decode cX8_isRight 28 = .ok (.aload_n 0, 1) := by decide +kernel
theorem dX8_isRight_29 : decode cX8_isRight 29 = .ok (.getfield 99, 3) := by decide +kernel
theorem dX8_isRight_32 : decode cX8_isRight 32 = .ok (.if_icmp .ge 45, 3) := by decide +kernel
theorem dX8_isRight_35 : decode cX8_isRight 35 = .ok (.iload_n 1, 1) := by decide +kernel
theorem dX8_isRight_36 : decode cX8_isRight 36 = .ok (.ifCond .eq 21, 3) := by decide +kernel
theorem dX8_isRight_39 : decode cX8_isRight 39 = .ok (.aload_n 0, 1) := by decide +kernel
theorem dX8_isRight_40 : decode cX8_isRight 40 = .ok (.getfield 31, 3) := by decide +kernel
theorem dX8_isRight_43 : decode cX8_isRight 43 = .ok (.aload_n 0, 1) := by decide +kernel
theorem dX8_isRight_44 : decode cX8_isRight 44 = .ok (.getfield 22, 3) := by decide +kernel
theorem dX8_isRight_47 : decode cX8_isRight 47 = .ok (.iload_n 2, 1) := by decide +kernel
theorem dX8_isRight_48 : decode cX8_isRight 48 = .ok (.iaload, 1) := by decide +kernel
theorem dX8_isRight_49 : decode cX8_isRight 49 = .ok (.baload, 1) := by decide +kernel
theorem dX8_isRight_50 : decode cX8_isRight 50 = .ok (.ifCond .ne 7, 3) := by decide +kernel
theorem dX8_isRight_53 : decode cX8_isRight 53 = .ok (.iconst 1, 1) := by decide +kernel
theorem dX8_isRight_54 : decode cX8_isRight 54 = .ok (.goto 4, 3) := by decide +kernel
theorem dX8_isRight_57 : decode cX8_isRight 57 = .ok (.iconst 0, 1) := by decide +kernel
theorem dX8_isRight_58 : decode cX8_isRight 58 = .ok (.istore_n 1, 1) := by decide +kernel
theorem dX8_isRight_59 : decode cX8_isRight 59 = .ok (.aload_n 0, 1) := by decide +kernel
theorem dX8_isRight_60 : decode cX8_isRight 60 = .ok (.getfield 31, 3) := by decide +kernel
theorem dX8_isRight_63 : decode cX8_isRight 63 = .ok (.aload_n 0, 1) := by decide +kernel
theorem dX8_isRight_64 : decode cX8_isRight 64 = .ok (.getfield 22, 3) := by decide +kernel
theorem dX8_isRight_67 : decode cX8_isRight 67 = .ok (.iload_n 2, 1) := by decide +kernel
theorem dX8_isRight_68 : decode cX8_isRight 68 = .ok (.iaload, 1) := by decide +kernel
theorem dX8_isRight_69 : decode cX8_isRight 69 = .ok (.iconst 1, 1) := by decide +kernel
theorem dX8_isRight_70 : decode cX8_isRight 70 = .ok (.bastore, 1) := by decide +kernel
theorem dX8_isRight_71 : decode cX8_isRight 71 = .ok (.iinc 2 1, 3) := by decide +kernel
theorem dX8_isRight_74 : decode cX8_isRight 74 = .ok (.goto (-47), 3) := by decide +kernel
theorem dX8_isRight_77 : decode cX8_isRight 77 = .ok (.iload_n 1, 1) := by decide +kernel
theorem dX8_isRight_78 : decode cX8_isRight 78 = .ok (.ireturn, 1) := by decide +kernel
theorem dX8_right_0 : decode cX8_right 0 = .ok (.aload_n 0, 1) := by decide +kernel
theorem dX8_right_1 : decode cX8_right 1 = .ok (.invokevirtual 136, 3) := by decide +kernel
theorem dX8_right_4 : decode cX8_right 4 = .ok (.ifCond .eq 7, 3) := by decide +kernel
theorem dX8_right_7 : decode cX8_right 7 = .ok (.iconst 1, 1) := by decide +kernel
theorem dX8_right_8 : decode cX8_right 8 = .ok (.goto 4, 3) := by decide +kernel
theorem dX8_right_11 : decode cX8_right 11 = .ok (.iconst 0, 1) := by decide +kernel
theorem dX8_right_12 : decode cX8_right 12 = .ok (.ireturn, 1) := by decide +kernel
theorem dX8_findCycles_0 : decode cX8_findCycles 0 = .ok (.aload_n 0, 1) := by decide +kernel
theorem dX8_findCycles_1 : decode cX8_findCycles 1 = .ok (.iconst 0, 1) := by decide +kernel
theorem dX8_findCycles_2 : decode cX8_findCycles 2 = .ok (.putfield 140, 3) := by decide +kernel
theorem dX8_findCycles_5 : decode cX8_findCycles 5 = .ok (.iconst 0, 1) := by decide +kernel
theorem dX8_findCycles_6 : decode cX8_findCycles 6 = .ok (.istore_n 1, 1) := by decide +kernel
theorem dX8_findCycles_7 : decode cX8_findCycles 7 = .ok (.iload_n 1, 1) := by decide +kernel
theorem dX8_findCycles_8 : decode cX8_findCycles 8 = .ok (.aload_n 0, 1) := by decide +kernel
theorem dX8_findCycles_9 : decode cX8_findCycles 9 = .ok (.getfield 99, 3) := by decide +kernel
theorem dX8_findCycles_12 : decode cX8_findCycles 12 = .ok (.if_icmp .ge 16, 3) := by decide +kernel
theorem dX8_findCycles_15 : decode cX8_findCycles 15 = .ok (.aload_n 0, 1) := by decide +kernel
theorem dX8_findCycles_16 : decode cX8_findCycles 16 = .ok (.getfield 35, 3) := by decide +kernel
theorem dX8_findCycles_19 : decode cX8_findCycles 19 = .ok (.iload_n 1, 1) := by decide +kernel
theorem dX8_findCycles_20 : decode cX8_findCycles 20 = .ok (.iconst (-1), 1) := by decide +kernel
theorem dX8_findCycles_21 : decode cX8_findCycles 21 = .ok (.iastore, 1) := by decide +kernel
theorem dX8_findCycles_22 : decode cX8_findCycles 22 = .ok (.iinc 1 1, 3) := by decide +kernel
theorem dX8_findCycles_25 : decode cX8_findCycles 25 = .ok (.goto (-18), 3) := by decide +kernel
theorem dX8_findCycles_28 : decode cX8_findCycles 28 = .ok (.iconst 0, 1) := by decide +kernel
theorem dX8_findCycles_29 : decode cX8_findCycles 29 = .ok (.istore_n 1, 1) := by decide +kernel
theorem dX8_findCycles_30 : decode cX8_findCycles 30 = .ok (.iload_n 1, 1) := by decide +kernel
theorem dX8_findCycles_31 : decode cX8_findCycles 31 = .ok (.aload_n 0, 1) := by decide +kernel
theorem dX8_findCycles_32 : decode cX8_findCycles 32 = .ok (.getfield 99, 3) := by decide +kernel
theorem dX8_findCycles_35 : decode cX8_findCycles 35 = .ok (.if_icmp .ge 61, 3) := by decide +kernel
theorem dX8_findCycles_38 : decode cX8_findCycles 38 = .ok (.aload_n 0, 1) := by decide +kernel
theorem dX8_findCycles_39 : decode cX8_findCycles 39 = .ok (.getfield 35, 3) := by decide +kernel
theorem dX8_findCycles_42 : decode cX8_findCycles 42 = .ok (.iload_n 1, 1) := by decide +kernel
theorem dX8_findCycles_43 : decode cX8_findCycles 43 = .ok (.iaload, 1) := by decide +kernel
theorem dX8_findCycles_44 : decode cX8_findCycles 44 = .ok (.iconst (-1), 1) := by decide +kernel
theorem dX8_findCycles_45 : decode cX8_findCycles 45 = .ok (.if_icmp .ne 45, 3) := by decide +kernel
theorem dX8_findCycles_48 : decode cX8_findCycles 48 = .ok (.iload_n 1, 1) := by decide +kernel
theorem dX8_findCycles_49 : decode cX8_findCycles 49 = .ok (.istore_n 2, 1) := by decide +kernel
theorem dX8_findCycles_50 : decode cX8_findCycles 50 = .ok (.aload_n 0, 1) := by decide +kernel
theorem dX8_findCycles_51 : decode cX8_findCycles 51 = .ok (.getfield 35, 3) := by decide +kernel
theorem dX8_findCycles_54 : decode cX8_findCycles 54 = .ok (.iload_n 2, 1) := by decide +kernel
theorem dX8_findCycles_55 : decode cX8_findCycles 55 = .ok (.iaload, 1) := by decide +kernel
theorem dX8_findCycles_56 : decode cX8_findCycles 56 = .ok (.iconst (-1), 1) := by decide +kernel
theorem dX8_findCycles_57 : decode cX8_findCycles 57 = .ok (.if_icmp .ne 23, 3) := by decide +kernel
theorem dX8_findCycles_60 : decode cX8_findCycles 60 = .ok (.aload_n 0, 1) := by decide +kernel
theorem dX8_findCycles_61 : decode cX8_findCycles 61 = .ok (.getfield 35, 3) := by decide +kernel
theorem dX8_findCycles_64 : decode cX8_findCycles 64 = .ok (.iload_n 2, 1) := by decide +kernel
theorem dX8_findCycles_65 : decode cX8_findCycles 65 = .ok (.aload_n 0, 1) := by decide +kernel
theorem dX8_findCycles_66 : decode cX8_findCycles 66 = .ok (.getfield 140, 3) := by decide +kernel
theorem dX8_findCycles_69 : decode cX8_findCycles 69 = .ok (.iastore, 1) := by decide +kernel
theorem dX8_findCycles_70 : decode cX8_findCycles 70 = .ok (.aload_n 0, 1) := by decide +kernel
theorem dX8_findCycles_71 : decode cX8_findCycles 71 = .ok (.getfield 22, 3) := by decide +kernel
theorem dX8_findCycles_74 : decode cX8_findCycles 74 = .ok (.iload_n 2, 1) := by decide +kernel
theorem dX8_findCycles_75 : decode cX8_findCycles 75 = .ok (.iaload, 1) := by decide +kernel
theorem dX8_findCycles_76 : decode cX8_findCycles 76 = .ok (.istore_n 2, 1) := by decide +kernel
theorem dX8_findCycles_77 : decode cX8_findCycles 77 = .ok (.goto (-27), 3) := by decide +kernel
theorem dX8_findCycles_80 : decode cX8_findCycles 80 = .ok (.aload_n 0, 1) := by decide +kernel
theorem dX8_findCycles_81 : decode cX8_findCycles 81 = .ok (.dup, 1) := by decide +kernel
theorem dX8_findCycles_82 : decode cX8_findCycles 82 = .ok (.getfield 140, 3) := by decide +kernel
theorem dX8_findCycles_85 : decode cX8_findCycles 85 = .ok (.iconst 1, 1) := by decide +kernel
theorem dX8_findCycles_86 : decode cX8_findCycles 86 = .ok (.iadd, 1) := by decide +kernel
theorem dX8_findCycles_87 : decode cX8_findCycles 87 = .ok (.putfield 140, 3) := by decide +kernel
theorem dX8_findCycles_90 : decode cX8_findCycles 90 = .ok (.iinc 1 1, 3) := by decide +kernel
theorem dX8_findCycles_93 : decode cX8_findCycles 93 = .ok (.goto (-63), 3) := by decide +kernel
theorem dX8_findCycles_96 : decode cX8_findCycles 96 = .ok (.return_, 1) := by decide +kernel
theorem dX8_swap_0 : decode cX8_swap 0 = .ok (.aload_n 0, 1) := by decide +kernel
theorem dX8_swap_1 : decode cX8_swap 1 = .ok (.getfield 22, 3) := by decide +kernel
theorem dX8_swap_4 : decode cX8_swap 4 = .ok (.iload_n 1, 1) := by decide +kernel
theorem dX8_swap_5 : decode cX8_swap 5 = .ok (.iaload, 1) := by decide +kernel
theorem dX8_swap_6 : decode cX8_swap 6 = .ok (.istore_n 3, 1) := by decide +kernel
theorem dX8_swap_7 : decode cX8_swap 7 = .ok (.aload_n 0, 1) := by decide +kernel
theorem dX8_swap_8 : decode cX8_swap 8 = .ok (.getfield 22, 3) := by decide +kernel
theorem dX8_swap_11 : decode cX8_swap 11 = .ok (.iload_n 1, 1) := by decide +kernel
theorem dX8_swap_12 : decode cX8_swap 12 = .ok (.aload_n 0, 1) := by decide +kernel
theorem dX8_swap_13 : decode cX8_swap 13 = .ok (.getfield 22, 3) := by decide +kernel
theorem dX8_swap_16 : decode cX8_swap 16 = .ok (.iload_n 2, 1) := by decide +kernel
theorem dX8_swap_17 : decode cX8_swap 17 = .ok (.iaload, 1) := by decide +kernel
theorem dX8_swap_18 : decode cX8_swap 18 = .ok (.iastore, 1) := by decide +kernel
theorem dX8_swap_19 : decode cX8_swap 19 = .ok (.aload_n 0, 1) := by decide +kernel
theorem dX8_swap_20 : decode cX8_swap 20 = .ok (.getfield 22, 3) := by decide +kernel
theorem dX8_swap_23 : decode cX8_swap 23 = .ok (.iload_n 2, 1) := by decide +kernel
theorem dX8_swap_24 : decode cX8_swap 24 = .ok (.iload_n 3, 1) := by decide +kernel
theorem dX8_swap_25 : decode cX8_swap 25 = .ok (.iastore, 1) := by decide +kernel
theorem dX8_swap_26 : decode cX8_swap 26 = .ok (.return_, 1) := by decide +kernel
theorem dX8_exchange_0 : decode cX8_exchange 0 = .ok (.aload_n 0, 1) := by decide +kernel
theorem dX8_exchange_1 : decode cX8_exchange 1 = .ok (.iload_n 1, 1) := by decide +kernel
theorem dX8_exchange_2 : decode cX8_exchange 2 = .ok (.invokevirtual 121, 3) := by decide +kernel
theorem dX8_exchange_5 : decode cX8_exchange 5 = .ok (.ifCond .eq 41, 3) := by decide +kernel
theorem dX8_exchange_8 : decode cX8_exchange 8 = .ok (.aload_n 0, 1) := by decide +kernel
theorem dX8_exchange_9 : decode cX8_exchange 9 = .ok (.iload_n 2, 1) := by decide +kernel
theorem dX8_exchange_10 : decode cX8_exchange 10 = .ok (.invokevirtual 121, 3) := by decide +kernel
theorem dX8_exchange_13 : decode cX8_exchange 13 = .ok (.ifCond .eq 33, 3) := by decide +kernel
theorem dX8_exchange_16 : decode cX8_exchange 16 = .ok (.iload_n 1, 1) := by decide +kernel
theorem dX8_exchange_17 : decode cX8_exchange 17 = .ok (.iload_n 2, 1) := by decide +kernel
theorem dX8_exchange_18 : decode cX8_exchange 18 = .ok (.if_icmp .eq 28, 3) := by decide +kernel
theorem dX8_exchange_21 : decode cX8_exchange 21 = .ok (.iload_n 1, 1) := by decide +kernel
theorem dX8_exchange_22 : decode cX8_exchange 22 = .ok (.aload_n 0, 1) := by decide +kernel
theorem dX8_exchange_23 : decode cX8_exchange 23 = .ok (.getfield 99, 3) := by decide +kernel
theorem dX8_exchange_26 : decode cX8_exchange 26 = .ok (.aload_n 0, 1) := by decide +kernel
theorem dX8_exchange_27 : decode cX8_exchange 27 = .ok (.getfield 92, 3) := by decide +kernel
theorem dX8_exchange_30 : decode cX8_exchange 30 = .ok (.idiv, 1) := by decide +kernel
theorem dX8_exchange_31 : decode cX8_exchange 31 = .ok (.irem, 1) := by decide +kernel
theorem dX8_exchange_32 : decode cX8_exchange 32 = .ok (.iload_n 2, 1) := by decide +kernel
theorem dX8_exchange_33 : decode cX8_exchange 33 = .ok (.aload_n 0, 1) := by decide +kernel
theorem dX8_exchange_34 : decode cX8_exchange 34 = .ok (.getfield 99, 3) := by decide +kernel
theorem dX8_exchange_37 : decode cX8_exchange 37 = .ok (.aload_n 0, 1) := by decide +kernel
theorem dX8_exchange_38 : decode cX8_exchange 38 = .ok (.getfield 92, 3) := by decide +kernel
theorem dX8_exchange_41 : decode cX8_exchange 41 = .ok (.idiv, 1) := by decide +kernel
theorem dX8_exchange_42 : decode cX8_exchange 42 = .ok (.irem, 1) := by decide +kernel
theorem dX8_exchange_43 : decode cX8_exchange 43 = .ok (.if_icmp .eq 6, 3) := by decide +kernel
theorem dX8_exchange_46 : decode cX8_exchange 46 = .ok (.bipush (-2), 2) := by decide +kernel
theorem dX8_exchange_48 : decode cX8_exchange 48 = .ok (.ireturn, 1) := by decide +kernel
theorem dX8_exchange_49 : decode cX8_exchange 49 = .ok (.aload_n 0, 1) := by decide +kernel
theorem dX8_exchange_50 : decode cX8_exchange 50 = .ok (.invokevirtual 136, 3) := by decide +kernel
theorem dX8_exchange_53 : decode cX8_exchange 53 = .ok (.ifCond .ne 6, 3) := by decide +kernel
theorem dX8_exchange_56 : decode cX8_exchange 56 = .ok (.bipush (-3), 2) := by decide +kernel
theorem dX8_exchange_58 : decode cX8_exchange 58 = .ok (.ireturn, 1) := by decide +kernel
theorem dX8_exchange_59 : decode cX8_exchange 59 = .ok (.aload_n 0, 1) := by decide +kernel
theorem dX8_exchange_60 : decode cX8_exchange 60 = .ok (.getfield 133, 3) := by decide +kernel
theorem dX8_exchange_63 : decode cX8_exchange 63 = .ok (.sipush 400, 3) := by decide +kernel
theorem dX8_exchange_66 : decode cX8_exchange 66 = .ok (.if_icmp .ne 6, 3) := by decide +kernel
theorem dX8_exchange_69 : decode cX8_exchange 69 = .ok (.bipush (-4), 2) := by decide +kernel
theorem dX8_exchange_71 : decode cX8_exchange 71 = .ok (.ireturn, 1) := by decide +kernel
theorem dX8_exchange_72 : decode cX8_exchange 72 = .ok (.aload_n 0, 1) := by decide +kernel
theorem dX8_exchange_73 : decode cX8_exchange 73 = .ok (.iload_n 1, 1) := by decide +kernel
theorem dX8_exchange_74 : decode cX8_exchange 74 = .ok (.iload_n 2, 1) := by decide +kernel
theorem dX8_exchange_75 : decode cX8_exchange 75 = .ok (.invokevirtual 143, 3) := by decide +kernel
theorem dX8_exchange_78 : decode cX8_exchange 78 = .ok (.aload_n 0, 1) := by decide +kernel
theorem dX8_exchange_79 : decode cX8_exchange 79 = .ok (.getfield 25, 3) := by decide +kernel
theorem dX8_exchange_82 : decode cX8_exchange 82 = .ok (.aload_n 0, 1) := by decide +kernel
theorem dX8_exchange_83 : decode cX8_exchange 83 = .ok (.getfield 133, 3) := by decide +kernel
theorem dX8_exchange_86 : decode cX8_exchange 86 = .ok (.iload_n 1, 1) := by decide +kernel
theorem dX8_exchange_87 : decode cX8_exchange 87 = .ok (.iastore, 1) := by decide +kernel
theorem dX8_exchange_88 : decode cX8_exchange 88 = .ok (.aload_n 0, 1) := by decide +kernel
theorem dX8_exchange_89 : decode cX8_exchange 89 = .ok (.getfield 28, 3) := by decide +kernel
theorem dX8_exchange_92 : decode cX8_exchange 92 = .ok (.aload_n 0, 1) := by decide +kernel
theorem dX8_exchange_93 : decode cX8_exchange 93 = .ok (.getfield 133, 3) := by decide +kernel
theorem dX8_exchange_96 : decode cX8_exchange 96 = .ok (.iload_n 2, 1) := by decide +kernel
theorem dX8_exchange_97 : decode cX8_exchange 97 = .ok (.iastore, 1) := by decide +kernel
theorem dX8_exchange_98 : decode cX8_exchange 98 = .ok (.aload_n 0, 1) := by decide +kernel
theorem dX8_exchange_99 : decode cX8_exchange 99 = .ok (.dup, 1) := by decide +kernel
theorem dX8_exchange_100 : decode cX8_exchange 100 = .ok (.getfield 133, 3) := by decide +kernel
theorem dX8_exchange_103 : decode cX8_exchange 103 = .ok (.iconst 1, 1) := by decide +kernel
theorem dX8_exchange_104 : decode cX8_exchange 104 = .ok (.iadd, 1) := by decide +kernel
theorem dX8_exchange_105 : decode cX8_exchange 105 = .ok (.putfield 133, 3) := by decide +kernel
theorem dX8_exchange_108 : decode cX8_exchange 108 = .ok (.aload_n 0, 1) := by decide +kernel
theorem dX8_exchange_109 : decode cX8_exchange 109 = .ok (.invokevirtual 147, 3) := by decide +kernel
theorem dX8_exchange_112 : decode cX8_exchange 112 = .ok (.aload_n 0, 1) := by decide +kernel
theorem dX8_exchange_113 : decode cX8_exchange 113 = .ok (.getfield 140, 3) := by decide +kernel
theorem dX8_exchange_116 : decode cX8_exchange 116 = .ok (.ireturn, 1) := by decide +kernel
theorem dX8_back_0 : decode cX8_back 0 = .ok (.aload_n 0, 1) := by decide +kernel
theorem dX8_back_1 : decode cX8_back 1 = .ok (.getfield 133, 3) := by decide +kernel
theorem dX8_back_4 : decode cX8_back 4 = .ok (.ifCond .ne 6, 3) := by decide +kernel
theorem dX8_back_7 : decode cX8_back 7 = .ok (.bipush (-3), 2) := by decide +kernel
theorem dX8_back_9 : decode cX8_back 9 = .ok (.ireturn, 1) := by decide +kernel
theorem dX8_back_10 : decode cX8_back 10 = .ok (.aload_n 0, 1) := by decide +kernel
theorem dX8_back_11 : decode cX8_back 11 = .ok (.dup, 1) := by decide +kernel
theorem dX8_back_12 : decode cX8_back 12 = .ok (.getfield 133, 3) := by decide +kernel
theorem dX8_back_15 : decode cX8_back 15 = .ok (.iconst 1, 1) := by decide +kernel
theorem dX8_back_16 : decode cX8_back 16 = .ok (.isub, 1) := by decide +kernel
theorem dX8_back_17 : decode cX8_back 17 = .ok (.putfield 133, 3) := by decide +kernel
theorem dX8_back_20 : decode cX8_back 20 = .ok (.aload_n 0, 1) := by decide +kernel
theorem dX8_back_21 : decode cX8_back 21 = .ok (.aload_n 0, 1) := by decide +kernel
theorem dX8_back_22 : decode cX8_back 22 = .ok (.getfield 25, 3) := by decide +kernel
theorem dX8_back_25 : decode cX8_back 25 = .ok (.aload_n 0, 1) := by decide +kernel
theorem dX8_back_26 : decode cX8_back 26 = .ok (.getfield 133, 3) := by decide +kernel
theorem dX8_back_29 : decode cX8_back 29 = .ok (.iaload, 1) := by decide +kernel
theorem dX8_back_30 : decode cX8_back 30 = .ok (.aload_n 0, 1) := by decide +kernel
theorem dX8_back_31 : decode cX8_back 31 = .ok (.getfield 28, 3) := by decide +kernel
theorem dX8_back_34 : decode cX8_back 34 = .ok (.aload_n 0, 1) := by decide +kernel
theorem dX8_back_35 : decode cX8_back 35 = .ok (.getfield 133, 3) := by decide +kernel
theorem dX8_back_38 : decode cX8_back 38 = .ok (.iaload, 1) := by decide +kernel
theorem dX8_back_39 : decode cX8_back 39 = .ok (.invokevirtual 143, 3) := by decide +kernel
theorem dX8_back_42 : decode cX8_back 42 = .ok (.aload_n 0, 1) := by decide +kernel
theorem dX8_back_43 : decode cX8_back 43 = .ok (.getfield 133, 3) := by decide +kernel
theorem dX8_back_46 : decode cX8_back 46 = .ok (.ireturn, 1) := by decide +kernel
theorem dX8_cycles_0 : decode cX8_cycles 0 = .ok (.aload_n 0, 1) := by decide +kernel
theorem dX8_cycles_1 : decode cX8_cycles 1 = .ok (.invokevirtual 136, 3) := by decide +kernel
theorem dX8_cycles_4 : decode cX8_cycles 4 = .ok (.ifCond .ne 6, 3) := by decide +kernel
theorem dX8_cycles_7 : decode cX8_cycles 7 = .ok (.bipush (-3), 2) := by decide +kernel
theorem dX8_cycles_9 : decode cX8_cycles 9 = .ok (.ireturn, 1) := by decide +kernel
theorem dX8_cycles_10 : decode cX8_cycles 10 = .ok (.aload_n 0, 1) := by decide +kernel
theorem dX8_cycles_11 : decode cX8_cycles 11 = .ok (.invokevirtual 147, 3) := by decide +kernel
theorem dX8_cycles_14 : decode cX8_cycles 14 = .ok (.aload_n 0, 1) := by decide +kernel
theorem dX8_cycles_15 : decode cX8_cycles 15 = .ok (.getfield 140, 3) := by decide +kernel
theorem dX8_cycles_18 : decode cX8_cycles 18 = .ok (.ireturn, 1) := by decide +kernel
theorem dX8_cycleOf_0 : decode cX8_cycleOf 0 = .ok (.aload_n 0, 1) := by decide +kernel
theorem dX8_cycleOf_1 : decode cX8_cycleOf 1 = .ok (.invokevirtual 136, 3) := by decide +kernel
theorem dX8_cycleOf_4 : decode cX8_cycleOf 4 = .ok (.ifCond .ne 6, 3) := by decide +kernel
theorem dX8_cycleOf_7 : decode cX8_cycleOf 7 = .ok (.bipush (-3), 2) := by decide +kernel
theorem dX8_cycleOf_9 : decode cX8_cycleOf 9 = .ok (.ireturn, 1) := by decide +kernel
theorem dX8_cycleOf_10 : decode cX8_cycleOf 10 = .ok (.aload_n 0, 1) := by decide +kernel
theorem dX8_cycleOf_11 : decode cX8_cycleOf 11 = .ok (.iload_n 1, 1) := by decide +kernel
theorem dX8_cycleOf_12 : decode cX8_cycleOf 12 = .ok (.invokevirtual 121, 3) := by decide +kernel
theorem dX8_cycleOf_15 : decode cX8_cycleOf 15 = .ok (.ifCond .ne 6, 3) := by decide +kernel
theorem dX8_cycleOf_18 : decode cX8_cycleOf 18 = .ok (.bipush (-2), 2) := by decide +kernel
theorem dX8_cycleOf_20 : decode cX8_cycleOf 20 = .ok (.ireturn, 1) := by decide +kernel
theorem dX8_cycleOf_21 : decode cX8_cycleOf 21 = .ok (.aload_n 0, 1) := by decide +kernel
theorem dX8_cycleOf_22 : decode cX8_cycleOf 22 = .ok (.invokevirtual 147, 3) := by decide +kernel
theorem dX8_cycleOf_25 : decode cX8_cycleOf 25 = .ok (.aload_n 0, 1) := by decide +kernel
theorem dX8_cycleOf_26 : decode cX8_cycleOf 26 = .ok (.getfield 35, 3) := by decide +kernel
theorem dX8_cycleOf_29 : decode cX8_cycleOf 29 = .ok (.iload_n 1, 1) := by decide +kernel
theorem dX8_cycleOf_30 : decode cX8_cycleOf 30 = .ok (.iaload, 1) := by decide +kernel
theorem dX8_cycleOf_31 : decode cX8_cycleOf 31 = .ok (.ireturn, 1) := by decide +kernel
theorem dX8_cycle_0 : decode cX8_cycle 0 = .ok (.aload_n 0, 1) := by decide +kernel
theorem dX8_cycle_1 : decode cX8_cycle 1 = .ok (.invokevirtual 136, 3) := by decide +kernel
theorem dX8_cycle_4 : decode cX8_cycle 4 = .ok (.ifCond .ne 6, 3) := by decide +kernel
theorem dX8_cycle_7 : decode cX8_cycle 7 = .ok (.bipush (-3), 2) := by decide +kernel
theorem dX8_cycle_9 : decode cX8_cycle 9 = .ok (.ireturn, 1) := by decide +kernel
theorem dX8_cycle_10 : decode cX8_cycle 10 = .ok (.aload_n 0, 1) := by decide +kernel
theorem dX8_cycle_11 : decode cX8_cycle 11 = .ok (.invokevirtual 147, 3) := by decide +kernel
theorem dX8_cycle_14 : decode cX8_cycle 14 = .ok (.iload_n 1, 1) := by decide +kernel
theorem dX8_cycle_15 : decode cX8_cycle 15 = .ok (.i2l, 1) := by decide +kernel
theorem dX8_cycle_16 : decode cX8_cycle 16 = .ok (.lconst 0, 1) := by decide +kernel
theorem dX8_cycle_17 : decode cX8_cycle 17 = .ok (.aload_n 0, 1) := by decide +kernel
theorem dX8_cycle_18 : decode cX8_cycle 18 = .ok (.getfield 140, 3) := by decide +kernel
theorem dX8_cycle_21 : decode cX8_cycle 21 = .ok (.iconst 1, 1) := by decide +kernel
theorem dX8_cycle_22 : decode cX8_cycle 22 = .ok (.isub, 1) := by decide +kernel
theorem dX8_cycle_23 : decode cX8_cycle 23 = .ok (.i2l, 1) := by decide +kernel
theorem dX8_cycle_24 : decode cX8_cycle 24 = .ok (.invokestatic 86, 3) := by decide +kernel
theorem dX8_cycle_27 : decode cX8_cycle 27 = .ok (.ifCond .eq 13, 3) := by decide +kernel
theorem dX8_cycle_30 : decode cX8_cycle 30 = .ok (.iload_n 2, 1) := by decide +kernel
theorem dX8_cycle_31 : decode cX8_cycle 31 = .ok (.i2l, 1) := by decide +kernel
theorem dX8_cycle_32 : decode cX8_cycle 32 = .ok (.lconst 0, 1) := by decide +kernel
theorem dX8_cycle_33 : decode cX8_cycle 33 = .ok (.lconst 1, 1) := by decide +kernel
theorem dX8_cycle_34 : decode cX8_cycle 34 = .ok (.invokestatic 86, 3) := by decide +kernel
theorem dX8_cycle_37 : decode cX8_cycle 37 = .ok (.ifCond .ne 6, 3) := by decide +kernel
theorem dX8_cycle_40 : decode cX8_cycle 40 = .ok (.bipush (-2), 2) := by decide +kernel
theorem dX8_cycle_42 : decode cX8_cycle 42 = .ok (.ireturn, 1) := by decide +kernel
theorem dX8_cycle_43 : decode cX8_cycle 43 = .ok (.iconst 0, 1) := by decide +kernel
theorem dX8_cycle_44 : decode cX8_cycle 44 = .ok (.istore_n 3, 1) := by decide +kernel
theorem dX8_cycle_45 : decode cX8_cycle 45 = .ok (.iconst (-1), 1) := by decide +kernel
theorem dX8_cycle_46 : decode cX8_cycle 46 = .ok (.istore 4, 2) := by decide +kernel
theorem dX8_cycle_48 : decode cX8_cycle 48 = .ok (.aload_n 0, 1) := by decide +kernel
theorem dX8_cycle_49 : decode cX8_cycle 49 = .ok (.getfield 99, 3) := by decide +kernel
theorem dX8_cycle_52 : decode cX8_cycle 52 = .ok (.iconst 1, 1) := by decide +kernel
theorem dX8_cycle_53 : decode cX8_cycle 53 = .ok (.isub, 1) := by decide +kernel
theorem dX8_cycle_54 : decode cX8_cycle 54 = .ok (.istore 5, 2) := by decide +kernel
theorem dX8_cycle_56 : decode cX8_cycle 56 = .ok (.iload 5, 2) := by decide +kernel
theorem dX8_cycle_58 : decode cX8_cycle 58 = .ok (.ifCond .lt 27, 3) := by decide +kernel
theorem dX8_cycle_61 : decode cX8_cycle 61 = .ok (.aload_n 0, 1) := by decide +kernel
theorem dX8_cycle_62 : decode cX8_cycle 62 = .ok (.getfield 35, 3) := by decide +kernel
theorem dX8_cycle_65 : decode cX8_cycle 65 = .ok (.iload 5, 2) := by decide +kernel
theorem dX8_cycle_67 : decode cX8_cycle 67 = .ok (.iaload, 1) := by decide +kernel
theorem dX8_cycle_68 : decode cX8_cycle 68 = .ok (.iload_n 1, 1) := by decide +kernel
theorem dX8_cycle_69 : decode cX8_cycle 69 = .ok (.if_icmp .ne 10, 3) := by decide +kernel
theorem dX8_cycle_72 : decode cX8_cycle 72 = .ok (.iinc 3 1, 3) := by decide +kernel
theorem dX8_cycle_75 : decode cX8_cycle 75 = .ok (.iload 5, 2) := by decide +kernel
theorem dX8_cycle_77 : decode cX8_cycle 77 = .ok (.istore 4, 2) := by decide +kernel
theorem dX8_cycle_79 : decode cX8_cycle 79 = .ok (.iinc 5 (-1), 3) := by decide +kernel
theorem dX8_cycle_82 : decode cX8_cycle 82 = .ok (.goto (-26), 3) := by decide +kernel
theorem dX8_cycle_85 : decode cX8_cycle 85 = .ok (.iload_n 2, 1) := by decide +kernel
theorem dX8_cycle_86 : decode cX8_cycle 86 = .ok (.ifCond .ne 8, 3) := by decide +kernel
theorem dX8_cycle_89 : decode cX8_cycle 89 = .ok (.iload 4, 2) := by decide +kernel
theorem dX8_cycle_91 : decode cX8_cycle 91 = .ok (.goto 4, 3) := by decide +kernel
theorem dX8_cycle_94 : decode cX8_cycle 94 = .ok (.iload_n 3, 1) := by decide +kernel
theorem dX8_cycle_95 : decode cX8_cycle 95 = .ok (.ireturn, 1) := by decide +kernel
theorem dX8_groupOf_0 : decode cX8_groupOf 0 = .ok (.iload_n 1, 1) := by decide +kernel
theorem dX8_groupOf_1 : decode cX8_groupOf 1 = .ok (.istore_n 2, 1) := by decide +kernel
theorem dX8_groupOf_2 : decode cX8_groupOf 2 = .ok (.aload_n 0, 1) := by decide +kernel
theorem dX8_groupOf_3 : decode cX8_groupOf 3 = .ok (.getfield 38, 3) := by decide +kernel
theorem dX8_groupOf_6 : decode cX8_groupOf 6 = .ok (.iload_n 2, 1) := by decide +kernel
theorem dX8_groupOf_7 : decode cX8_groupOf 7 = .ok (.iaload, 1) := by decide +kernel
theorem dX8_groupOf_8 : decode cX8_groupOf 8 = .ok (.iload_n 2, 1) := by decide +kernel
theorem dX8_groupOf_9 : decode cX8_groupOf 9 = .ok (.if_icmp .eq 13, 3) := by decide +kernel
theorem dX8_groupOf_12 : decode cX8_groupOf 12 = .ok (.aload_n 0, 1) := by decide +kernel
theorem dX8_groupOf_13 : decode cX8_groupOf 13 = .ok (.getfield 38, 3) := by decide +kernel
theorem dX8_groupOf_16 : decode cX8_groupOf 16 = .ok (.iload_n 2, 1) := by decide +kernel
theorem dX8_groupOf_17 : decode cX8_groupOf 17 = .ok (.iaload, 1) := by decide +kernel
theorem dX8_groupOf_18 : decode cX8_groupOf 18 = .ok (.istore_n 2, 1) := by decide +kernel
theorem dX8_groupOf_19 : decode cX8_groupOf 19 = .ok (.goto (-17), 3) := by decide +kernel
theorem dX8_groupOf_22 : decode cX8_groupOf 22 = .ok (.iload_n 2, 1) := by decide +kernel
theorem dX8_groupOf_23 : decode cX8_groupOf 23 = .ok (.ireturn, 1) := by decide +kernel
theorem dX8_joins_0 : decode cX8_joins 0 = .ok (.aload_n 0, 1) := by decide +kernel
theorem dX8_joins_1 : decode cX8_joins 1 = .ok (.invokevirtual 147, 3) := by decide +kernel
theorem dX8_joins_4 : decode cX8_joins 4 = .ok (.iconst 0, 1) := by decide +kernel
theorem dX8_joins_5 : decode cX8_joins 5 = .ok (.istore_n 2, 1) := by decide +kernel
theorem dX8_joins_6 : decode cX8_joins 6 = .ok (.iload_n 2, 1) := by decide +kernel
theorem dX8_joins_7 : decode cX8_joins 7 = .ok (.aload_n 0, 1) := by decide +kernel
theorem dX8_joins_8 : decode cX8_joins 8 = .ok (.getfield 140, 3) := by decide +kernel
theorem dX8_joins_11 : decode cX8_joins 11 = .ok (.if_icmp .ge 16, 3) := by decide +kernel
theorem dX8_joins_14 : decode cX8_joins 14 = .ok (.aload_n 0, 1) := by decide +kernel
theorem dX8_joins_15 : decode cX8_joins 15 = .ok (.getfield 38, 3) := by decide +kernel
theorem dX8_joins_18 : decode cX8_joins 18 = .ok (.iload_n 2, 1) := by decide +kernel
theorem dX8_joins_19 : decode cX8_joins 19 = .ok (.iload_n 2, 1) := by decide +kernel
theorem dX8_joins_20 : decode cX8_joins 20 = .ok (.iastore, 1) := by decide +kernel
theorem dX8_joins_21 : decode cX8_joins 21 = .ok (.iinc 2 1, 3) := by decide +kernel
theorem dX8_joins_24 : decode cX8_joins 24 = .ok (.goto (-18), 3) := by decide +kernel
theorem dX8_joins_27 : decode cX8_joins 27 = .ok (.aload_n 0, 1) := by decide +kernel
theorem dX8_joins_28 : decode cX8_joins 28 = .ok (.getfield 99, 3) := by decide +kernel
theorem dX8_joins_31 : decode cX8_joins 31 = .ok (.aload_n 0, 1) := by decide +kernel
theorem dX8_joins_32 : decode cX8_joins 32 = .ok (.getfield 92, 3) := by decide +kernel
theorem dX8_joins_35 : decode cX8_joins 35 = .ok (.idiv, 1) := by decide +kernel
theorem dX8_joins_36 : decode cX8_joins 36 = .ok (.istore_n 2, 1) := by decide +kernel
theorem dX8_joins_37 : decode cX8_joins 37 = .ok (.iconst 0, 1) := by decide +kernel
theorem dX8_joins_38 : decode cX8_joins 38 = .ok (.istore_n 3, 1) := by decide +kernel
theorem dX8_joins_39 : decode cX8_joins 39 = .ok (.iconst 0, 1) := by decide +kernel
theorem dX8_joins_40 : decode cX8_joins 40 = .ok (.istore 4, 2) := by decide +kernel
theorem dX8_joins_42 : decode cX8_joins 42 = .ok (.iload 4, 2) := by decide +kernel
theorem dX8_joins_44 : decode cX8_joins 44 = .ok (.iload_n 2, 1) := by decide +kernel
theorem dX8_joins_45 : decode cX8_joins 45 = .ok (.iadd, 1) := by decide +kernel
theorem dX8_joins_46 : decode cX8_joins 46 = .ok (.aload_n 0, 1) := by decide +kernel
theorem dX8_joins_47 : decode cX8_joins 47 = .ok (.getfield 99, 3) := by decide +kernel
theorem dX8_joins_50 : decode cX8_joins 50 = .ok (.if_icmp .ge 128, 3) := by decide +kernel
theorem dX8_joins_53 : decode cX8_joins 53 = .ok (.aload_n 0, 1) := by decide +kernel
theorem dX8_joins_54 : decode cX8_joins 54 = .ok (.aload_n 0, 1) := by decide +kernel
theorem dX8_joins_55 : decode cX8_joins 55 = .ok (.getfield 35, 3) := by decide +kernel
theorem dX8_joins_58 : decode cX8_joins 58 = .ok (.iload 4, 2) := by decide +kernel
theorem dX8_joins_60 : decode cX8_joins 60 = .ok (.iaload, 1) := by decide +kernel
theorem dX8_joins_61 : decode cX8_joins 61 = .ok (.invokevirtual 150, 3) := by decide +kernel
theorem dX8_joins_64 : decode cX8_joins 64 = .ok (.istore 5, 2) := by decide +kernel
theorem dX8_joins_66 : decode cX8_joins 66 = .ok (.aload_n 0, 1) := by decide +kernel
theorem dX8_joins_67 : decode cX8_joins 67 = .ok (.aload_n 0, 1) := by decide +kernel
theorem dX8_joins_68 : decode cX8_joins 68 = .ok (.getfield 35, 3) := by decide +kernel
theorem dX8_joins_71 : decode cX8_joins 71 = .ok (.iload 4, 2) := by decide +kernel
theorem dX8_joins_73 : decode cX8_joins 73 = .ok (.iload_n 2, 1) := by decide +kernel
theorem dX8_joins_74 : decode cX8_joins 74 = .ok (.iadd, 1) := by decide +kernel
theorem dX8_joins_75 : decode cX8_joins 75 = .ok (.iaload, 1) := by decide +kernel
theorem dX8_joins_76 : decode cX8_joins 76 = .ok (.invokevirtual 150, 3) := by decide +kernel
theorem dX8_joins_79 : decode cX8_joins 79 = .ok (.istore 6, 2) := by decide +kernel
theorem dX8_joins_81 : decode cX8_joins 81 = .ok (.iload 5, 2) := by decide +kernel
theorem dX8_joins_83 : decode cX8_joins 83 = .ok (.iload 6, 2) := by decide +kernel
theorem dX8_joins_85 : decode cX8_joins 85 = .ok (.if_icmp .eq 87, 3) := by decide +kernel
theorem dX8_joins_88 : decode cX8_joins 88 = .ok (.aload_n 0, 1) := by decide +kernel
theorem dX8_joins_89 : decode cX8_joins 89 = .ok (.getfield 38, 3) := by decide +kernel
theorem dX8_joins_92 : decode cX8_joins 92 = .ok (.iload 5, 2) := by decide +kernel
theorem dX8_joins_94 : decode cX8_joins 94 = .ok (.iload 6, 2) := by decide +kernel
theorem dX8_joins_96 : decode cX8_joins 96 = .ok (.if_icmp .le 8, 3) := by decide +kernel
theorem dX8_joins_99 : decode cX8_joins 99 = .ok (.iload 5, 2) := by decide +kernel
theorem dX8_joins_101 : decode cX8_joins 101 = .ok (.goto 5, 3) := by decide +kernel
theorem dX8_joins_104 : decode cX8_joins 104 = .ok (.iload 6, 2) := by decide +kernel
theorem dX8_joins_106 : decode cX8_joins 106 = .ok (.iload 5, 2) := by decide +kernel
theorem dX8_joins_108 : decode cX8_joins 108 = .ok (.iload 6, 2) := by decide +kernel
theorem dX8_joins_110 : decode cX8_joins 110 = .ok (.if_icmp .le 8, 3) := by decide +kernel
theorem dX8_joins_113 : decode cX8_joins 113 = .ok (.iload 6, 2) := by decide +kernel
theorem dX8_joins_115 : decode cX8_joins 115 = .ok (.goto 5, 3) := by decide +kernel
theorem dX8_joins_118 : decode cX8_joins 118 = .ok (.iload 5, 2) := by decide +kernel
theorem dX8_joins_120 : decode cX8_joins 120 = .ok (.iastore, 1) := by decide +kernel
theorem dX8_joins_121 : decode cX8_joins 121 = .ok (.iload_n 1, 1) := by decide +kernel
theorem dX8_joins_122 : decode cX8_joins 122 = .ok (.ifCond .eq 47, 3) := by decide +kernel
theorem dX8_joins_125 : decode cX8_joins 125 = .ok (.aload_n 0, 1) := by decide +kernel
theorem dX8_joins_126 : decode cX8_joins 126 = .ok (.iload 4, 2) := by decide +kernel
theorem dX8_joins_128 : decode cX8_joins 128 = .ok (.iload 4, 2) := by decide +kernel
theorem dX8_joins_130 : decode cX8_joins 130 = .ok (.iload_n 2, 1) := by decide +kernel
theorem dX8_joins_131 : decode cX8_joins 131 = .ok (.iadd, 1) := by decide +kernel
theorem dX8_joins_132 : decode cX8_joins 132 = .ok (.invokevirtual 143, 3) := by decide +kernel
theorem dX8_joins_135 : decode cX8_joins 135 = .ok (.aload_n 0, 1) := by decide +kernel
theorem dX8_joins_136 : decode cX8_joins 136 = .ok (.getfield 25, 3) := by decide +kernel
theorem dX8_joins_139 : decode cX8_joins 139 = .ok (.aload_n 0, 1) := by decide +kernel
theorem dX8_joins_140 : decode cX8_joins 140 = .ok (.getfield 133, 3) := by decide +kernel
theorem dX8_joins_143 : decode cX8_joins 143 = .ok (.iload 4, 2) := by decide +kernel
theorem dX8_joins_145 : decode cX8_joins 145 = .ok (.iastore, 1) := by decide +kernel
theorem dX8_joins_146 : decode cX8_joins 146 = .ok (.aload_n 0, 1) := by decide +kernel
theorem dX8_joins_147 : decode cX8_joins 147 = .ok (.getfield 28, 3) := by decide +kernel
theorem dX8_joins_150 : decode cX8_joins 150 = .ok (.aload_n 0, 1) := by decide +kernel
theorem dX8_joins_151 : decode cX8_joins 151 = .ok (.getfield 133, 3) := by decide +kernel
theorem dX8_joins_154 : decode cX8_joins 154 = .ok (.iload 4, 2) := by decide +kernel
theorem dX8_joins_156 : decode cX8_joins 156 = .ok (.iload_n 2, 1) := by decide +kernel
theorem dX8_joins_157 : decode cX8_joins 157 = .ok (.iadd, 1) := by decide +kernel
theorem dX8_joins_158 : decode cX8_joins 158 = .ok (.iastore, 1) := by decide +kernel
theorem dX8_joins_159 : decode cX8_joins 159 = .ok (.aload_n 0, 1) := by decide +kernel
theorem dX8_joins_160 : decode cX8_joins 160 = .ok (.dup, 1) := by decide +kernel
theorem dX8_joins_161 : decode cX8_joins 161 = .ok (.getfield 133, 3) := by decide +kernel
theorem dX8_joins_164 : decode cX8_joins 164 = .ok (.iconst 1, 1) := by decide +kernel
theorem dX8_joins_165 : decode cX8_joins 165 = .ok (.iadd, 1) := by decide +kernel
theorem dX8_joins_166 : decode cX8_joins 166 = .ok (.putfield 133, 3) := by decide +kernel
theorem dX8_joins_169 : decode cX8_joins 169 = .ok (.iinc 3 1, 3) := by decide +kernel
theorem dX8_joins_172 : decode cX8_joins 172 = .ok (.iinc 4 1, 3) := by decide +kernel
theorem dX8_joins_175 : decode cX8_joins 175 = .ok (.goto (-133), 3) := by decide +kernel
theorem dX8_joins_178 : decode cX8_joins 178 = .ok (.iload_n 3, 1) := by decide +kernel
theorem dX8_joins_179 : decode cX8_joins 179 = .ok (.ireturn, 1) := by decide +kernel
theorem dX8_join_0 : decode cX8_join 0 = .ok (.aload_n 0, 1) := by decide +kernel
theorem dX8_join_1 : decode cX8_join 1 = .ok (.invokevirtual 136, 3) := by decide +kernel
theorem dX8_join_4 : decode cX8_join 4 = .ok (.ifCond .ne 6, 3) := by decide +kernel
theorem dX8_join_7 : decode cX8_join 7 = .ok (.bipush (-3), 2) := by decide +kernel
theorem dX8_join_9 : decode cX8_join 9 = .ok (.ireturn, 1) := by decide +kernel
theorem dX8_join_10 : decode cX8_join 10 = .ok (.aload_n 0, 1) := by decide +kernel
theorem dX8_join_11 : decode cX8_join 11 = .ok (.getfield 133, 3) := by decide +kernel
theorem dX8_join_14 : decode cX8_join 14 = .ok (.aload_n 0, 1) := by decide +kernel
theorem dX8_join_15 : decode cX8_join 15 = .ok (.iconst 0, 1) := by decide +kernel
theorem dX8_join_16 : decode cX8_join 16 = .ok (.invokevirtual 153, 3) := by decide +kernel
theorem dX8_join_19 : decode cX8_join 19 = .ok (.iadd, 1) := by decide +kernel
theorem dX8_join_20 : decode cX8_join 20 = .ok (.sipush 400, 3) := by decide +kernel
theorem dX8_join_23 : decode cX8_join 23 = .ok (.if_icmp .le 6, 3) := by decide +kernel
theorem dX8_join_26 : decode cX8_join 26 = .ok (.bipush (-4), 2) := by decide +kernel
theorem dX8_join_28 : decode cX8_join 28 = .ok (.ireturn, 1) := by decide +kernel
theorem dX8_join_29 : decode cX8_join 29 = .ok (.aload_n 0, 1) := by decide +kernel
theorem dX8_join_30 : decode cX8_join 30 = .ok (.iconst 1, 1) := by decide +kernel
theorem dX8_join_31 : decode cX8_join 31 = .ok (.invokevirtual 153, 3) := by decide +kernel
theorem dX8_join_34 : decode cX8_join 34 = .ok (.ireturn, 1) := by decide +kernel
theorem dX8_leastRound_0 : decode cX8_leastRound 0 = .ok (.iconst 0, 1) := by decide +kernel
theorem dX8_leastRound_1 : decode cX8_leastRound 1 = .ok (.istore_n 1, 1) := by decide +kernel
theorem dX8_leastRound_2 : decode cX8_leastRound 2 = .ok (.iconst 0, 1) := by decide +kernel
theorem dX8_leastRound_3 : decode cX8_leastRound 3 = .ok (.istore_n 2, 1) := by decide +kernel
theorem dX8_leastRound_4 : decode cX8_leastRound 4 = .ok (.iload_n 2, 1) := by decide +kernel
theorem dX8_leastRound_5 : decode cX8_leastRound 5 = .ok (.aload_n 0, 1) := by decide +kernel
theorem dX8_leastRound_6 : decode cX8_leastRound 6 = .ok (.getfield 99, 3) := by decide +kernel
theorem dX8_leastRound_9 : decode cX8_leastRound 9 = .ok (.if_icmp .ge 78, 3) := by decide +kernel
theorem dX8_leastRound_12 : decode cX8_leastRound 12 = .ok (.aload_n 0, 1) := by decide +kernel
theorem dX8_leastRound_13 : decode cX8_leastRound 13 = .ok (.getfield 7, 3) := by decide +kernel
theorem dX8_leastRound_16 : decode cX8_leastRound 16 = .ok (.iload_n 2, 1) := by decide +kernel
theorem dX8_leastRound_17 : decode cX8_leastRound 17 = .ok (.iaload, 1) := by decide +kernel
theorem dX8_leastRound_18 : decode cX8_leastRound 18 = .ok (.iload_n 2, 1) := by decide +kernel
theorem dX8_leastRound_19 : decode cX8_leastRound 19 = .ok (.if_icmp .ne 62, 3) := by decide +kernel
theorem dX8_leastRound_22 : decode cX8_leastRound 22 = .ok (.aload_n 0, 1) := by decide +kernel
theorem dX8_leastRound_23 : decode cX8_leastRound 23 = .ok (.iload_n 2, 1) := by decide +kernel
theorem dX8_leastRound_24 : decode cX8_leastRound 24 = .ok (.invokevirtual 127, 3) := by decide +kernel
theorem dX8_leastRound_27 : decode cX8_leastRound 27 = .ok (.istore_n 3, 1) := by decide +kernel
theorem dX8_leastRound_28 : decode cX8_leastRound 28 = .ok (.aload_n 0, 1) := by decide +kernel
theorem dX8_leastRound_29 : decode cX8_leastRound 29 = .ok (.getfield 99, 3) := by decide +kernel
theorem dX8_leastRound_32 : decode cX8_leastRound 32 = .ok (.aload_n 0, 1) := by decide +kernel
theorem dX8_leastRound_33 : decode cX8_leastRound 33 = .ok (.getfield 92, 3) := by decide +kernel
theorem dX8_leastRound_36 : decode cX8_leastRound 36 = .ok (.idiv, 1) := by decide +kernel
theorem dX8_leastRound_37 : decode cX8_leastRound 37 = .ok (.istore 4, 2) := by decide +kernel
theorem dX8_leastRound_39 : decode cX8_leastRound 39 = .ok (.iconst 0, 1) := by decide +kernel
theorem dX8_leastRound_40 : decode cX8_leastRound 40 = .ok (.istore 5, 2) := by decide +kernel
theorem dX8_leastRound_42 : decode cX8_leastRound 42 = .ok (.iload 5, 2) := by decide +kernel
theorem dX8_leastRound_44 : decode cX8_leastRound 44 = .ok (.iload_n 3, 1) := by decide +kernel
theorem dX8_leastRound_45 : decode cX8_leastRound 45 = .ok (.if_icmp .ge 36, 3) := by decide +kernel
theorem dX8_leastRound_48 : decode cX8_leastRound 48 = .ok (.aload_n 0, 1) := by decide +kernel
theorem dX8_leastRound_49 : decode cX8_leastRound 49 = .ok (.getfield 41, 3) := by decide +kernel
theorem dX8_leastRound_52 : decode cX8_leastRound 52 = .ok (.iload_n 1, 1) := by decide +kernel
theorem dX8_leastRound_53 : decode cX8_leastRound 53 = .ok (.iload_n 2, 1) := by decide +kernel
theorem dX8_leastRound_54 : decode cX8_leastRound 54 = .ok (.iload 4, 2) := by decide +kernel
theorem dX8_leastRound_56 : decode cX8_leastRound 56 = .ok (.idiv, 1) := by decide +kernel
theorem dX8_leastRound_57 : decode cX8_leastRound 57 = .ok (.aload_n 0, 1) := by decide +kernel
theorem dX8_leastRound_58 : decode cX8_leastRound 58 = .ok (.getfield 92, 3) := by decide +kernel
theorem dX8_leastRound_61 : decode cX8_leastRound 61 = .ok (.irem, 1) := by decide +kernel
theorem dX8_leastRound_62 : decode cX8_leastRound 62 = .ok (.iastore, 1) := by decide +kernel
theorem dX8_leastRound_63 : decode cX8_leastRound 63 = .ok (.iload 4, 2) := by decide +kernel
theorem dX8_leastRound_65 : decode cX8_leastRound 65 = .ok (.aload_n 0, 1) := by decide +kernel
theorem dX8_leastRound_66 : decode cX8_leastRound 66 = .ok (.getfield 92, 3) := by decide +kernel
theorem dX8_leastRound_69 : decode cX8_leastRound 69 = .ok (.idiv, 1) := by decide +kernel
theorem dX8_leastRound_70 : decode cX8_leastRound 70 = .ok (.istore 4, 2) := by decide +kernel
theorem dX8_leastRound_72 : decode cX8_leastRound 72 = .ok (.iinc 1 1, 3) := by decide +kernel
theorem dX8_leastRound_75 : decode cX8_leastRound 75 = .ok (.iinc 5 1, 3) := by decide +kernel
theorem dX8_leastRound_78 : decode cX8_leastRound 78 = .ok (.goto (-36), 3) := by decide +kernel
theorem dX8_leastRound_81 : decode cX8_leastRound 81 = .ok (.iinc 2 1, 3) := by decide +kernel
theorem dX8_leastRound_84 : decode cX8_leastRound 84 = .ok (.goto (-80), 3) := by decide +kernel
theorem dX8_leastRound_87 : decode cX8_leastRound 87 = .ok (.return_, 1) := by decide +kernel
theorem dX8_greedyRound_0 : decode cX8_greedyRound 0 = .ok (.iconst 0, 1) := by decide +kernel
theorem dX8_greedyRound_1 : decode cX8_greedyRound 1 = .ok (.istore_n 1, 1) := by decide +kernel
theorem dX8_greedyRound_2 : decode cX8_greedyRound 2 = .ok (.iload_n 1, 1) := by decide +kernel
theorem dX8_greedyRound_3 : decode cX8_greedyRound 3 = .ok (.aload_n 0, 1) := by decide +kernel
theorem dX8_greedyRound_4 : decode cX8_greedyRound 4 = .ok (.getfield 99, 3) := by decide +kernel
theorem dX8_greedyRound_7 : decode cX8_greedyRound 7 = .ok (.if_icmp .ge 16, 3) := by decide +kernel
theorem dX8_greedyRound_10 : decode cX8_greedyRound 10 = .ok (.aload_n 0, 1) := by decide +kernel
theorem dX8_greedyRound_11 : decode cX8_greedyRound 11 = .ok (.getfield 31, 3) := by decide +kernel
theorem dX8_greedyRound_14 : decode cX8_greedyRound 14 = .ok (.iload_n 1, 1) := by decide +kernel
theorem dX8_greedyRound_15 : decode cX8_greedyRound 15 = .ok (.iconst 0, 1) := by decide +kernel
theorem dX8_greedyRound_16 : decode cX8_greedyRound 16 = .ok (.bastore, 1) := by decide +kernel
theorem dX8_greedyRound_17 : decode cX8_greedyRound 17 = .ok (.iinc 1 1, 3) := by decide +kernel
theorem dX8_greedyRound_20 : decode cX8_greedyRound 20 = .ok (.goto (-18), 3) := by decide +kernel
theorem dX8_greedyRound_23 : decode cX8_greedyRound 23 = .ok (.aload_n 0, 1) := by decide +kernel
theorem dX8_greedyRound_24 : decode cX8_greedyRound 24 = .ok (.getfield 99, 3) := by decide +kernel
theorem dX8_greedyRound_27 : decode cX8_greedyRound 27 = .ok (.aload_n 0, 1) := by decide +kernel
theorem dX8_greedyRound_28 : decode cX8_greedyRound 28 = .ok (.getfield 92, 3) := by decide +kernel
theorem dX8_greedyRound_31 : decode cX8_greedyRound 31 = .ok (.idiv, 1) := by decide +kernel
theorem dX8_greedyRound_32 : decode cX8_greedyRound 32 = .ok (.istore_n 1, 1) := by decide +kernel
theorem dX8_greedyRound_33 : decode cX8_greedyRound 33 = .ok (.iconst 0, 1) := by decide +kernel
theorem dX8_greedyRound_34 : decode cX8_greedyRound 34 = .ok (.istore_n 2, 1) := by decide +kernel
theorem dX8_greedyRound_35 : decode cX8_greedyRound 35 = .ok (.aload_n 0, 1) := by decide +kernel
theorem dX8_greedyRound_36 : decode cX8_greedyRound 36 = .ok (.getfield 31, 3) := by decide +kernel
theorem dX8_greedyRound_39 : decode cX8_greedyRound 39 = .ok (.iconst 0, 1) := by decide +kernel
theorem dX8_greedyRound_40 : decode cX8_greedyRound 40 = .ok (.iconst 1, 1) := by decide +kernel
theorem dX8_greedyRound_41 : decode cX8_greedyRound 41 = .ok (.bastore, 1) := by decide +kernel
theorem dX8_greedyRound_42 : decode cX8_greedyRound 42 = .ok (.iconst 0, 1) := by decide +kernel
theorem dX8_greedyRound_43 : decode cX8_greedyRound 43 = .ok (.istore_n 3, 1) := by decide +kernel
theorem dX8_greedyRound_44 : decode cX8_greedyRound 44 = .ok (.iload_n 3, 1) := by decide +kernel
theorem dX8_greedyRound_45 : decode cX8_greedyRound 45 = .ok (.aload_n 0, 1) := by decide +kernel
theorem dX8_greedyRound_46 : decode cX8_greedyRound 46 = .ok (.getfield 96, 3) := by decide +kernel
theorem dX8_greedyRound_49 : decode cX8_greedyRound 49 = .ok (.if_icmp .ge 24, 3) := by decide +kernel
theorem dX8_greedyRound_52 : decode cX8_greedyRound 52 = .ok (.iload_n 3, 1) := by decide +kernel
theorem dX8_greedyRound_53 : decode cX8_greedyRound 53 = .ok (.aload_n 0, 1) := by decide +kernel
theorem dX8_greedyRound_54 : decode cX8_greedyRound 54 = .ok (.getfield 99, 3) := by decide +kernel
theorem dX8_greedyRound_57 : decode cX8_greedyRound 57 = .ok (.if_icmp .ge 16, 3) := by decide +kernel
theorem dX8_greedyRound_60 : decode cX8_greedyRound 60 = .ok (.aload_n 0, 1) := by decide +kernel
theorem dX8_greedyRound_61 : decode cX8_greedyRound 61 = .ok (.getfield 41, 3) := by decide +kernel
theorem dX8_greedyRound_64 : decode cX8_greedyRound 64 = .ok (.iload_n 3, 1) := by decide +kernel
theorem dX8_greedyRound_65 : decode cX8_greedyRound 65 = .ok (.iconst 0, 1) := by decide +kernel
theorem dX8_greedyRound_66 : decode cX8_greedyRound 66 = .ok (.iastore, 1) := by decide +kernel
theorem dX8_greedyRound_67 : decode cX8_greedyRound 67 = .ok (.iinc 3 1, 3) := by decide +kernel
theorem dX8_greedyRound_70 : decode cX8_greedyRound 70 = .ok (.goto (-26), 3) := by decide +kernel
theorem dX8_greedyRound_73 : decode cX8_greedyRound 73 = .ok (.aload_n 0, 1) := by decide +kernel
theorem dX8_greedyRound_74 : decode cX8_greedyRound 74 = .ok (.getfield 96, 3) := by decide +kernel
theorem dX8_greedyRound_77 : decode cX8_greedyRound 77 = .ok (.istore_n 3, 1) := by decide +kernel
theorem dX8_greedyRound_78 : decode cX8_greedyRound 78 = .ok (.iload_n 3, 1) := by decide +kernel
theorem dX8_greedyRound_79 : decode cX8_greedyRound 79 = .ok (.aload_n 0, 1) := by decide +kernel
theorem dX8_greedyRound_80 : decode cX8_greedyRound 80 = .ok (.getfield 99, 3) := by decide +kernel
theorem dX8_greedyRound_83 : decode cX8_greedyRound 83 = .ok (.if_icmp .ge 74, 3) := by decide +kernel
theorem dX8_greedyRound_86 : decode cX8_greedyRound 86 = .ok (.aload_n 0, 1) := by decide +kernel
theorem dX8_greedyRound_87 : decode cX8_greedyRound 87 = .ok (.getfield 92, 3) := by decide +kernel
theorem dX8_greedyRound_90 : decode cX8_greedyRound 90 = .ok (.iconst 1, 1) := by decide +kernel
theorem dX8_greedyRound_91 : decode cX8_greedyRound 91 = .ok (.isub, 1) := by decide +kernel
theorem dX8_greedyRound_92 : decode cX8_greedyRound 92 = .ok (.istore 4, 2) := by decide +kernel
theorem dX8_greedyRound_94 : decode cX8_greedyRound 94 = .ok (.iload 4, 2) := by decide +kernel
theorem dX8_greedyRound_96 : decode cX8_greedyRound 96 = .ok (.ifCond .lt 28, 3) := by decide +kernel
theorem dX8_greedyRound_99 : decode cX8_greedyRound 99 = .ok (.aload_n 0, 1) := by decide +kernel
theorem dX8_greedyRound_100 : decode cX8_greedyRound 100 = .ok (.getfield 31, 3) := by decide +kernel
theorem dX8_greedyRound_103 : decode cX8_greedyRound 103 = .ok (.iload_n 2, 1) := by decide +kernel
theorem dX8_greedyRound_104 : decode cX8_greedyRound 104 = .ok (.iload_n 1, 1) := by decide +kernel
theorem dX8_greedyRound_105 : decode cX8_greedyRound 105 = .ok (.irem, 1) := by decide +kernel
theorem dX8_greedyRound_106 : decode cX8_greedyRound 106 = .ok (.aload_n 0, 1) := by decide +kernel
theorem dX8_greedyRound_107 : decode cX8_greedyRound 107 = .ok (.getfield 92, 3) := by decide +kernel
theorem dX8_greedyRound_110 : decode cX8_greedyRound 110 = .ok (.imul, 1) := by decide +kernel
theorem dX8_greedyRound_111 : decode cX8_greedyRound 111 = .ok (.iload 4, 2) := by decide +kernel
theorem dX8_greedyRound_113 : decode cX8_greedyRound 113 = .ok (.iadd, 1) := by decide +kernel
theorem dX8_greedyRound_114 : decode cX8_greedyRound 114 = .ok (.baload, 1) := by decide +kernel
theorem dX8_greedyRound_115 : decode cX8_greedyRound 115 = .ok (.ifCond .eq 9, 3) := by decide +kernel
theorem dX8_greedyRound_118 : decode cX8_greedyRound 118 = .ok (.iinc 4 (-1), 3) := by decide +kernel
theorem dX8_greedyRound_121 : decode cX8_greedyRound 121 = .ok (.goto (-27), 3) := by decide +kernel
theorem dX8_greedyRound_124 : decode cX8_greedyRound 124 = .ok (.iload_n 2, 1) := by decide +kernel
theorem dX8_greedyRound_125 : decode cX8_greedyRound 125 = .ok (.iload_n 1, 1) := by decide +kernel
theorem dX8_greedyRound_126 : decode cX8_greedyRound 126 = .ok (.irem, 1) := by decide +kernel
theorem dX8_greedyRound_127 : decode cX8_greedyRound 127 = .ok (.aload_n 0, 1) := by decide +kernel
theorem dX8_greedyRound_128 : decode cX8_greedyRound 128 = .ok (.getfield 92, 3) := by decide +kernel
theorem dX8_greedyRound_131 : decode cX8_greedyRound 131 = .ok (.imul, 1) := by decide +kernel
theorem dX8_greedyRound_132 : decode cX8_greedyRound 132 = .ok (.iload 4, 2) := by decide +kernel
theorem dX8_greedyRound_134 : decode cX8_greedyRound 134 = .ok (.iadd, 1) := by decide +kernel
theorem dX8_greedyRound_135 : decode cX8_greedyRound 135 = .ok (.istore_n 2, 1) := by decide +kernel
theorem dX8_greedyRound_136 : decode cX8_greedyRound 136 = .ok (.aload_n 0, 1) := by decide +kernel
theorem dX8_greedyRound_137 : decode cX8_greedyRound 137 = .ok (.getfield 31, 3) := by decide +kernel
theorem dX8_greedyRound_140 : decode cX8_greedyRound 140 = .ok (.iload_n 2, 1) := by decide +kernel
theorem dX8_greedyRound_141 : decode cX8_greedyRound 141 = .ok (.iconst 1, 1) := by decide +kernel
theorem dX8_greedyRound_142 : decode cX8_greedyRound 142 = .ok (.bastore, 1) := by decide +kernel
theorem dX8_greedyRound_143 : decode cX8_greedyRound 143 = .ok (.aload_n 0, 1) := by decide +kernel
theorem dX8_greedyRound_144 : decode cX8_greedyRound 144 = .ok (.getfield 41, 3) := by decide +kernel
theorem dX8_greedyRound_147 : decode cX8_greedyRound 147 = .ok (.iload_n 3, 1) := by decide +kernel
theorem dX8_greedyRound_148 : decode cX8_greedyRound 148 = .ok (.iload 4, 2) := by decide +kernel
theorem dX8_greedyRound_150 : decode cX8_greedyRound 150 = .ok (.iastore, 1) := by decide +kernel
theorem dX8_greedyRound_151 : decode cX8_greedyRound 151 = .ok (.iinc 3 1, 3) := by decide +kernel
theorem dX8_greedyRound_154 : decode cX8_greedyRound 154 = .ok (.goto (-76), 3) := by decide +kernel
theorem dX8_greedyRound_157 : decode cX8_greedyRound 157 = .ok (.return_, 1) := by decide +kernel
theorem dX8_round_0 : decode cX8_round 0 = .ok (.iload_n 1, 1) := by decide +kernel
theorem dX8_round_1 : decode cX8_round 1 = .ok (.i2l, 1) := by decide +kernel
theorem dX8_round_2 : decode cX8_round 2 = .ok (.lconst 0, 1) := by decide +kernel
theorem dX8_round_3 : decode cX8_round 3 = .ok (.ldc2_w 82, 3) := by decide +kernel
theorem dX8_round_6 : decode cX8_round 6 = .ok (.invokestatic 86, 3) := by decide +kernel
theorem dX8_round_9 : decode cX8_round 9 = .ok (.ifCond .ne 6, 3) := by decide +kernel
theorem dX8_round_12 : decode cX8_round 12 = .ok (.bipush (-2), 2) := by decide +kernel
theorem dX8_round_14 : decode cX8_round 14 = .ok (.ireturn, 1) := by decide +kernel
theorem dX8_round_15 : decode cX8_round 15 = .ok (.iload_n 1, 1) := by decide +kernel
theorem dX8_round_16 : decode cX8_round 16 = .ok (.iconst 2, 1) := by decide +kernel
theorem dX8_round_17 : decode cX8_round 17 = .ok (.if_icmp .ne 28, 3) := by decide +kernel
theorem dX8_round_20 : decode cX8_round 20 = .ok (.aload_n 0, 1) := by decide +kernel
theorem dX8_round_21 : decode cX8_round 21 = .ok (.invokevirtual 136, 3) := by decide +kernel
theorem dX8_round_24 : decode cX8_round 24 = .ok (.ifCond .ne 6, 3) := by decide +kernel
theorem dX8_round_27 : decode cX8_round 27 = .ok (.bipush (-3), 2) := by decide +kernel
theorem dX8_round_29 : decode cX8_round 29 = .ok (.ireturn, 1) := by decide +kernel
theorem dX8_round_30 : decode cX8_round 30 = .ok (.aload_n 0, 1) := by decide +kernel
theorem dX8_round_31 : decode cX8_round 31 = .ok (.invokevirtual 147, 3) := by decide +kernel
theorem dX8_round_34 : decode cX8_round 34 = .ok (.aload_n 0, 1) := by decide +kernel
theorem dX8_round_35 : decode cX8_round 35 = .ok (.getfield 140, 3) := by decide +kernel
theorem dX8_round_38 : decode cX8_round 38 = .ok (.iconst 1, 1) := by decide +kernel
theorem dX8_round_39 : decode cX8_round 39 = .ok (.if_icmp .le 6, 3) := by decide +kernel
theorem dX8_round_42 : decode cX8_round 42 = .ok (.bipush (-3), 2) := by decide +kernel
theorem dX8_round_44 : decode cX8_round 44 = .ok (.ireturn, 1) := by decide +kernel
theorem dX8_round_45 : decode cX8_round 45 = .ok (.iload_n 1, 1) := by decide +kernel
theorem dX8_round_46 : decode cX8_round 46 = .ok (.ifCond .ne 10, 3) := by decide +kernel
theorem dX8_round_49 : decode cX8_round 49 = .ok (.aload_n 0, 1) := by decide +kernel
theorem dX8_round_50 : decode cX8_round 50 = .ok (.invokevirtual 157, 3) := by decide +kernel
theorem dX8_round_53 : decode cX8_round 53 = .ok (.goto 57, 3) := by decide +kernel
theorem dX8_round_56 : decode cX8_round 56 = .ok (.iload_n 1, 1) := by decide +kernel
theorem dX8_round_57 : decode cX8_round 57 = .ok (.iconst 1, 1) := by decide +kernel
theorem dX8_round_58 : decode cX8_round 58 = .ok (.if_icmp .ne 10, 3) := by decide +kernel
theorem dX8_round_61 : decode cX8_round 61 = .ok (.aload_n 0, 1) := by decide +kernel
theorem dX8_round_62 : decode cX8_round 62 = .ok (.invokevirtual 160, 3) := by decide +kernel
theorem dX8_round_65 : decode cX8_round 65 = .ok (.goto 45, 3) := by decide +kernel
theorem dX8_round_68 : decode cX8_round 68 = .ok (.iconst 0, 1) := by decide +kernel
theorem dX8_round_69 : decode cX8_round 69 = .ok (.istore_n 2, 1) := by decide +kernel
theorem dX8_round_70 : decode cX8_round 70 = .ok (.iconst 0, 1) := by decide +kernel
theorem dX8_round_71 : decode cX8_round 71 = .ok (.istore_n 3, 1) := by decide +kernel
theorem dX8_round_72 : decode cX8_round 72 = .ok (.iload_n 3, 1) := by decide +kernel
theorem dX8_round_73 : decode cX8_round 73 = .ok (.aload_n 0, 1) := by decide +kernel
theorem dX8_round_74 : decode cX8_round 74 = .ok (.getfield 99, 3) := by decide +kernel
theorem dX8_round_77 : decode cX8_round 77 = .ok (.if_icmp .ge 33, 3) := by decide +kernel
theorem dX8_round_80 : decode cX8_round 80 = .ok (.aload_n 0, 1) := by decide +kernel
theorem dX8_round_81 : decode cX8_round 81 = .ok (.getfield 41, 3) := by decide +kernel
theorem dX8_round_84 : decode cX8_round 84 = .ok (.iload_n 3, 1) := by decide +kernel
theorem dX8_round_85 : decode cX8_round 85 = .ok (.iload_n 2, 1) := by decide +kernel
theorem dX8_round_86 : decode cX8_round 86 = .ok (.aload_n 0, 1) := by decide +kernel
theorem dX8_round_87 : decode cX8_round 87 = .ok (.getfield 99, 3) := by decide +kernel
theorem dX8_round_90 : decode cX8_round 90 = .ok (.aload_n 0, 1) := by decide +kernel
theorem dX8_round_91 : decode cX8_round 91 = .ok (.getfield 92, 3) := by decide +kernel
theorem dX8_round_94 : decode cX8_round 94 = .ok (.idiv, 1) := by decide +kernel
theorem dX8_round_95 : decode cX8_round 95 = .ok (.idiv, 1) := by decide +kernel
theorem dX8_round_96 : decode cX8_round 96 = .ok (.iastore, 1) := by decide +kernel
theorem dX8_round_97 : decode cX8_round 97 = .ok (.aload_n 0, 1) := by decide +kernel
theorem dX8_round_98 : decode cX8_round 98 = .ok (.getfield 22, 3) := by decide +kernel
theorem dX8_round_101 : decode cX8_round 101 = .ok (.iload_n 2, 1) := by decide +kernel
theorem dX8_round_102 : decode cX8_round 102 = .ok (.iaload, 1) := by decide +kernel
theorem dX8_round_103 : decode cX8_round 103 = .ok (.istore_n 2, 1) := by decide +kernel
theorem dX8_round_104 : decode cX8_round 104 = .ok (.iinc 3 1, 3) := by decide +kernel
theorem dX8_round_107 : decode cX8_round 107 = .ok (.goto (-35), 3) := by decide +kernel
theorem dX8_round_110 : decode cX8_round 110 = .ok (.aload_n 0, 1) := by decide +kernel
theorem dX8_round_111 : decode cX8_round 111 = .ok (.iload_n 1, 1) := by decide +kernel
theorem dX8_round_112 : decode cX8_round 112 = .ok (.putfield 112, 3) := by decide +kernel
theorem dX8_round_115 : decode cX8_round 115 = .ok (.iconst 0, 1) := by decide +kernel
theorem dX8_round_116 : decode cX8_round 116 = .ok (.istore_n 2, 1) := by decide +kernel
theorem dX8_round_117 : decode cX8_round 117 = .ok (.iload_n 2, 1) := by decide +kernel
theorem dX8_round_118 : decode cX8_round 118 = .ok (.aload_n 0, 1) := by decide +kernel
theorem dX8_round_119 : decode cX8_round 119 = .ok (.getfield 99, 3) := by decide +kernel
theorem dX8_round_122 : decode cX8_round 122 = .ok (.if_icmp .ge 58, 3) := by decide +kernel
theorem dX8_round_125 : decode cX8_round 125 = .ok (.iconst 0, 1) := by decide +kernel
theorem dX8_round_126 : decode cX8_round 126 = .ok (.istore_n 3, 1) := by decide +kernel
theorem dX8_round_127 : decode cX8_round 127 = .ok (.iconst 0, 1) := by decide +kernel
theorem dX8_round_128 : decode cX8_round 128 = .ok (.istore 4, 2) := by decide +kernel
theorem dX8_round_130 : decode cX8_round 130 = .ok (.iload 4, 2) := by decide +kernel
theorem dX8_round_132 : decode cX8_round 132 = .ok (.aload_n 0, 1) := by decide +kernel
theorem dX8_round_133 : decode cX8_round 133 = .ok (.getfield 96, 3) := by decide +kernel
theorem dX8_round_136 : decode cX8_round 136 = .ok (.if_icmp .ge 31, 3) := by decide +kernel
theorem dX8_round_139 : decode cX8_round 139 = .ok (.iload_n 3, 1) := by decide +kernel
theorem dX8_round_140 : decode cX8_round 140 = .ok (.aload_n 0, 1) := by decide +kernel
theorem dX8_round_141 : decode cX8_round 141 = .ok (.getfield 92, 3) := by decide +kernel
theorem dX8_round_144 : decode cX8_round 144 = .ok (.imul, 1) := by decide +kernel
theorem dX8_round_145 : decode cX8_round 145 = .ok (.aload_n 0, 1) := by decide +kernel
theorem dX8_round_146 : decode cX8_round 146 = .ok (.getfield 41, 3) := by decide +kernel
theorem dX8_round_149 : decode cX8_round 149 = .ok (.iload_n 2, 1) := by decide +kernel
theorem dX8_round_150 : decode cX8_round 150 = .ok (.iload 4, 2) := by decide +kernel
theorem dX8_round_152 : decode cX8_round 152 = .ok (.iadd, 1) := by decide +kernel
theorem dX8_round_153 : decode cX8_round 153 = .ok (.aload_n 0, 1) := by decide +kernel
theorem dX8_round_154 : decode cX8_round 154 = .ok (.getfield 99, 3) := by decide +kernel
theorem dX8_round_157 : decode cX8_round 157 = .ok (.irem, 1) := by decide +kernel
theorem dX8_round_158 : decode cX8_round 158 = .ok (.iaload, 1) := by decide +kernel
theorem dX8_round_159 : decode cX8_round 159 = .ok (.iadd, 1) := by decide +kernel
theorem dX8_round_160 : decode cX8_round 160 = .ok (.istore_n 3, 1) := by decide +kernel
theorem dX8_round_161 : decode cX8_round 161 = .ok (.iinc 4 1, 3) := by decide +kernel
theorem dX8_round_164 : decode cX8_round 164 = .ok (.goto (-34), 3) := by decide +kernel
theorem dX8_round_167 : decode cX8_round 167 = .ok (.aload_n 0, 1) := by decide +kernel
theorem dX8_round_168 : decode cX8_round 168 = .ok (.getfield 44, 3) := by decide +kernel
theorem dX8_round_171 : decode cX8_round 171 = .ok (.iload_n 3, 1) := by decide +kernel
theorem dX8_round_172 : decode cX8_round 172 = .ok (.iload_n 2, 1) := by decide +kernel
theorem dX8_round_173 : decode cX8_round 173 = .ok (.iastore, 1) := by decide +kernel
theorem dX8_round_174 : decode cX8_round 174 = .ok (.iinc 2 1, 3) := by decide +kernel
theorem dX8_round_177 : decode cX8_round 177 = .ok (.goto (-60), 3) := by decide +kernel
theorem dX8_round_180 : decode cX8_round 180 = .ok (.aload_n 0, 1) := by decide +kernel
theorem dX8_round_181 : decode cX8_round 181 = .ok (.getfield 99, 3) := by decide +kernel
theorem dX8_round_184 : decode cX8_round 184 = .ok (.ireturn, 1) := by decide +kernel
theorem dX8_letter_0 : decode cX8_letter 0 = .ok (.aload_n 0, 1) := by decide +kernel
theorem dX8_letter_1 : decode cX8_letter 1 = .ok (.getfield 112, 3) := by decide +kernel
theorem dX8_letter_4 : decode cX8_letter 4 = .ok (.iconst (-1), 1) := by decide +kernel
theorem dX8_letter_5 : decode cX8_letter 5 = .ok (.if_icmp .eq 28, 3) := by decide +kernel
theorem dX8_letter_8 : decode cX8_letter 8 = .ok (.iload_n 1, 1) := by decide +kernel
theorem dX8_letter_9 : decode cX8_letter 9 = .ok (.i2l, 1) := by decide +kernel
theorem dX8_letter_10 : decode cX8_letter 10 = .ok (.lconst 0, 1) := by decide +kernel
theorem dX8_letter_11 : decode cX8_letter 11 = .ok (.aload_n 0, 1) := by decide +kernel
theorem dX8_letter_12 : decode cX8_letter 12 = .ok (.getfield 99, 3) := by decide +kernel
theorem dX8_letter_15 : decode cX8_letter 15 = .ok (.iconst 1, 1) := by decide +kernel
theorem dX8_letter_16 : decode cX8_letter 16 = .ok (.isub, 1) := by decide +kernel
theorem dX8_letter_17 : decode cX8_letter 17 = .ok (.i2l, 1) := by decide +kernel
theorem dX8_letter_18 : decode cX8_letter 18 = .ok (.invokestatic 86, 3) := by decide +kernel
theorem dX8_letter_21 : decode cX8_letter 21 = .ok (.ifCond .eq 12, 3) := by decide +kernel
theorem dX8_letter_24 : decode cX8_letter 24 = .ok (.aload_n 0, 1) := by decide +kernel
theorem dX8_letter_25 : decode cX8_letter 25 = .ok (.getfield 41, 3) := by decide +kernel
theorem dX8_letter_28 : decode cX8_letter 28 = .ok (.iload_n 1, 1) := by decide +kernel
theorem dX8_letter_29 : decode cX8_letter 29 = .ok (.iaload, 1) := by decide +kernel
theorem dX8_letter_30 : decode cX8_letter 30 = .ok (.goto 5, 3) := by decide +kernel
theorem dX8_letter_33 : decode cX8_letter 33 = .ok (.bipush (-2), 2) := by decide +kernel
theorem dX8_letter_35 : decode cX8_letter 35 = .ok (.ireturn, 1) := by decide +kernel
theorem dX8_place_0 : decode cX8_place 0 = .ok (.aload_n 0, 1) := by decide +kernel
theorem dX8_place_1 : decode cX8_place 1 = .ok (.iload_n 1, 1) := by decide +kernel
theorem dX8_place_2 : decode cX8_place 2 = .ok (.invokevirtual 121, 3) := by decide +kernel
theorem dX8_place_5 : decode cX8_place 5 = .ok (.ifCond .ne 6, 3) := by decide +kernel
theorem dX8_place_8 : decode cX8_place 8 = .ok (.bipush (-2), 2) := by decide +kernel
theorem dX8_place_10 : decode cX8_place 10 = .ok (.ireturn, 1) := by decide +kernel
theorem dX8_place_11 : decode cX8_place 11 = .ok (.aload_n 0, 1) := by decide +kernel
theorem dX8_place_12 : decode cX8_place 12 = .ok (.getfield 112, 3) := by decide +kernel
theorem dX8_place_15 : decode cX8_place 15 = .ok (.iconst (-1), 1) := by decide +kernel
theorem dX8_place_16 : decode cX8_place 16 = .ok (.if_icmp .ne 8, 3) := by decide +kernel
theorem dX8_place_19 : decode cX8_place 19 = .ok (.bipush (-3), 2) := by decide +kernel
theorem dX8_place_21 : decode cX8_place 21 = .ok (.goto 9, 3) := by decide +kernel
theorem dX8_place_24 : decode cX8_place 24 = .ok (.aload_n 0, 1) := by decide +kernel
theorem dX8_place_25 : decode cX8_place 25 = .ok (.getfield 44, 3) := by decide +kernel
theorem dX8_place_28 : decode cX8_place 28 = .ok (.iload_n 1, 1) := by decide +kernel
theorem dX8_place_29 : decode cX8_place 29 = .ok (.iaload, 1) := by decide +kernel
theorem dX8_place_30 : decode cX8_place 30 = .ok (.ireturn, 1) := by decide +kernel
theorem dX8_way_0 : decode cX8_way 0 = .ok (.aload_n 0, 1) := by decide +kernel
theorem dX8_way_1 : decode cX8_way 1 = .ok (.getfield 112, 3) := by decide +kernel
theorem dX8_way_4 : decode cX8_way 4 = .ok (.iconst (-1), 1) := by decide +kernel
theorem dX8_way_5 : decode cX8_way 5 = .ok (.if_icmp .eq 35, 3) := by decide +kernel
theorem dX8_way_8 : decode cX8_way 8 = .ok (.iload_n 1, 1) := by decide +kernel
theorem dX8_way_9 : decode cX8_way 9 = .ok (.i2l, 1) := by decide +kernel
theorem dX8_way_10 : decode cX8_way 10 = .ok (.lconst 0, 1) := by decide +kernel
theorem dX8_way_11 : decode cX8_way 11 = .ok (.aload_n 0, 1) := by decide +kernel
theorem dX8_way_12 : decode cX8_way 12 = .ok (.getfield 99, 3) := by decide +kernel
theorem dX8_way_15 : decode cX8_way 15 = .ok (.iconst 1, 1) := by decide +kernel
theorem dX8_way_16 : decode cX8_way 16 = .ok (.isub, 1) := by decide +kernel
theorem dX8_way_17 : decode cX8_way 17 = .ok (.i2l, 1) := by decide +kernel
theorem dX8_way_18 : decode cX8_way 18 = .ok (.invokestatic 86, 3) := by decide +kernel
theorem dX8_way_21 : decode cX8_way 21 = .ok (.ifCond .eq 19, 3) := by decide +kernel
theorem dX8_way_24 : decode cX8_way 24 = .ok (.iload_n 2, 1) := by decide +kernel
theorem dX8_way_25 : decode cX8_way 25 = .ok (.i2l, 1) := by decide +kernel
theorem dX8_way_26 : decode cX8_way 26 = .ok (.lconst 0, 1) := by decide +kernel
theorem dX8_way_27 : decode cX8_way 27 = .ok (.aload_n 0, 1) := by decide +kernel
theorem dX8_way_28 : decode cX8_way 28 = .ok (.getfield 99, 3) := by decide +kernel
theorem dX8_way_31 : decode cX8_way 31 = .ok (.iconst 1, 1) := by decide +kernel
theorem dX8_way_32 : decode cX8_way 32 = .ok (.isub, 1) := by decide +kernel
theorem dX8_way_33 : decode cX8_way 33 = .ok (.i2l, 1) := by decide +kernel
theorem dX8_way_34 : decode cX8_way 34 = .ok (.invokestatic 86, 3) := by decide +kernel
theorem dX8_way_37 : decode cX8_way 37 = .ok (.ifCond .ne 6, 3) := by decide +kernel
theorem dX8_way_40 : decode cX8_way 40 = .ok (.bipush (-2), 2) := by decide +kernel
theorem dX8_way_42 : decode cX8_way 42 = .ok (.ireturn, 1) := by decide +kernel
theorem dX8_way_43 : decode cX8_way 43 = .ok (.iload_n 2, 1) := by decide +kernel
theorem dX8_way_44 : decode cX8_way 44 = .ok (.iload_n 1, 1) := by decide +kernel
theorem dX8_way_45 : decode cX8_way 45 = .ok (.if_icmp .lt 9, 3) := by decide +kernel
theorem dX8_way_48 : decode cX8_way 48 = .ok (.iload_n 2, 1) := by decide +kernel
theorem dX8_way_49 : decode cX8_way 49 = .ok (.iload_n 1, 1) := by decide +kernel
theorem dX8_way_50 : decode cX8_way 50 = .ok (.isub, 1) := by decide +kernel
theorem dX8_way_51 : decode cX8_way 51 = .ok (.goto 11, 3) := by decide +kernel
theorem dX8_way_54 : decode cX8_way 54 = .ok (.iload_n 2, 1) := by decide +kernel
theorem dX8_way_55 : decode cX8_way 55 = .ok (.iload_n 1, 1) := by decide +kernel
theorem dX8_way_56 : decode cX8_way 56 = .ok (.isub, 1) := by decide +kernel
theorem dX8_way_57 : decode cX8_way 57 = .ok (.aload_n 0, 1) := by decide +kernel
theorem dX8_way_58 : decode cX8_way 58 = .ok (.getfield 99, 3) := by decide +kernel
theorem dX8_way_61 : decode cX8_way 61 = .ok (.iadd, 1) := by decide +kernel
theorem dX8_way_62 : decode cX8_way 62 = .ok (.ireturn, 1) := by decide +kernel
