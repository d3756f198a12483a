theorem dX0_init_0 : decode cX0_init 0 = .ok (.aload_n 0, 1) := by decide +kernel
theorem dX0_init_1 : decode cX0_init 1 = .ok (.invokespecial 3, 3) := by decide +kernel
theorem dX0_init_4 : decode cX0_init 4 = .ok (.aload_n 0, 1) := by decide +kernel
theorem dX0_init_5 : decode cX0_init 5 = .ok (.aload_n 1, 1) := by decide +kernel
theorem dX0_init_6 : decode cX0_init 6 = .ok (.putfield 9, 3) := by decide +kernel
theorem dX0_init_9 : decode cX0_init 9 = .ok (.aload_n 0, 1) := by decide +kernel
theorem dX0_init_10 : decode cX0_init 10 = .ok (.aload_n 2, 1) := by decide +kernel
theorem dX0_init_11 : decode cX0_init 11 = .ok (.putfield 15, 3) := by decide +kernel
theorem dX0_init_14 : decode cX0_init 14 = .ok (.return_, 1) := by decide +kernel
theorem dX0_passHour_0 : decode cX0_passHour 0 = .ok (.iconst 0, 1) := by decide +kernel
theorem dX0_passHour_1 : decode cX0_passHour 1 = .ok (.istore_n 3, 1) := by decide +kernel
theorem dX0_passHour_2 : decode cX0_passHour 2 = .ok (.aload_n 2, 1) := by decide +kernel
theorem dX0_passHour_3 : decode cX0_passHour 3 = .ok (.aload_n 2, 1) := by decide +kernel
theorem dX0_passHour_4 : decode cX0_passHour 4 = .ok (.invokevirtual 19, 3) := by decide +kernel
theorem dX0_passHour_7 : decode cX0_passHour 7 = .ok (.putfield 25, 3) := by decide +kernel
theorem dX0_passHour_10 : decode cX0_passHour 10 = .ok (.iconst 0, 1) := by decide +kernel
theorem dX0_passHour_11 : decode cX0_passHour 11 = .ok (.istore 4, 2) := by decide +kernel
theorem dX0_passHour_13 : decode cX0_passHour 13 = .ok (.iload 4, 2) := by decide +kernel
theorem dX0_passHour_15 : decode cX0_passHour 15 = .ok (.aload_n 2, 1) := by decide +kernel
theorem dX0_passHour_16 : decode cX0_passHour 16 = .ok (.getfield 29, 3) := by decide +kernel
theorem dX0_passHour_19 : decode cX0_passHour 19 = .ok (.if_icmp .ge 77, 3) := by decide +kernel
theorem dX0_passHour_22 : decode cX0_passHour 22 = .ok (.iload 4, 2) := by decide +kernel
theorem dX0_passHour_24 : decode cX0_passHour 24 = .ok (.bipush 6, 2) := by decide +kernel
theorem dX0_passHour_26 : decode cX0_passHour 26 = .ok (.if_icmp .ge 70, 3) := by decide +kernel
theorem dX0_passHour_29 : decode cX0_passHour 29 = .ok (.aload_n 2, 1) := by decide +kernel
theorem dX0_passHour_30 : decode cX0_passHour 30 = .ok (.getfield 32, 3) := by decide +kernel
theorem dX0_passHour_33 : decode cX0_passHour 33 = .ok (.iload 4, 2) := by decide +kernel
theorem dX0_passHour_35 : decode cX0_passHour 35 = .ok (.iaload, 1) := by decide +kernel
theorem dX0_passHour_36 : decode cX0_passHour 36 = .ok (.istore 5, 2) := by decide +kernel
theorem dX0_passHour_38 : decode cX0_passHour 38 = .ok (.iload 5, 2) := by decide +kernel
theorem dX0_passHour_40 : decode cX0_passHour 40 = .ok (.iconst (-1), 1) := by decide +kernel
theorem dX0_passHour_41 : decode cX0_passHour 41 = .ok (.if_icmp .ne 28, 3) := by decide +kernel
theorem dX0_passHour_44 : decode cX0_passHour 44 = .ok (.aload_n 0, 1) := by decide +kernel
theorem dX0_passHour_45 : decode cX0_passHour 45 = .ok (.getfield 15, 3) := by decide +kernel
theorem dX0_passHour_48 : decode cX0_passHour 48 = .ok (.aload_n 1, 1) := by decide +kernel
theorem dX0_passHour_49 : decode cX0_passHour 49 = .ok (.aload_n 2, 1) := by decide +kernel
theorem dX0_passHour_50 : decode cX0_passHour 50 = .ok (.iload 4, 2) := by decide +kernel
theorem dX0_passHour_52 : decode cX0_passHour 52 = .ok (.invokevirtual 36, 3) := by decide +kernel
theorem dX0_passHour_55 : decode cX0_passHour 55 = .ok (.ifCond .le 35, 3) := by decide +kernel
theorem dX0_passHour_58 : decode cX0_passHour 58 = .ok (.aload_n 2, 1) := by decide +kernel
theorem dX0_passHour_59 : decode cX0_passHour 59 = .ok (.getfield 32, 3) := by decide +kernel
theorem dX0_passHour_62 : decode cX0_passHour 62 = .ok (.iload 4, 2) := by decide +kernel
theorem dX0_passHour_64 : decode cX0_passHour 64 = .ok (.iconst 0, 1) := by decide +kernel
theorem dX0_passHour_65 : decode cX0_passHour 65 = .ok (.iastore, 1) := by decide +kernel
theorem dX0_passHour_66 : decode cX0_passHour 66 = .ok (.goto 24, 3) := by decide +kernel
theorem dX0_passHour_69 : decode cX0_passHour 69 = .ok (.iload 5, 2) := by decide +kernel
theorem dX0_passHour_71 : decode cX0_passHour 71 = .ok (.bipush 10, 2) := by decide +kernel
theorem dX0_passHour_73 : decode cX0_passHour 73 = .ok (.if_icmp .ge 17, 3) := by decide +kernel
theorem dX0_passHour_76 : decode cX0_passHour 76 = .ok (.aload_n 0, 1) := by decide +kernel
theorem dX0_passHour_77 : decode cX0_passHour 77 = .ok (.aload_n 1, 1) := by decide +kernel
theorem dX0_passHour_78 : decode cX0_passHour 78 = .ok (.aload_n 2, 1) := by decide +kernel
theorem dX0_passHour_79 : decode cX0_passHour 79 = .ok (.iload 4, 2) := by decide +kernel
theorem dX0_passHour_81 : decode cX0_passHour 81 = .ok (.invokevirtual 42, 3) := by decide +kernel
theorem dX0_passHour_84 : decode cX0_passHour 84 = .ok (.ifCond .eq 6, 3) := by decide +kernel
theorem dX0_passHour_87 : decode cX0_passHour 87 = .ok (.iinc 3 1, 3) := by decide +kernel
theorem dX0_passHour_90 : decode cX0_passHour 90 = .ok (.iinc 4 1, 3) := by decide +kernel
theorem dX0_passHour_93 : decode cX0_passHour 93 = .ok (.goto (-80), 3) := by decide +kernel
theorem dX0_passHour_96 : decode cX0_passHour 96 = .ok (.aload_n 2, 1) := by decide +kernel
theorem dX0_passHour_97 : decode cX0_passHour 97 = .ok (.dup, 1) := by decide +kernel
theorem dX0_passHour_98 : decode cX0_passHour 98 = .ok (.getfield 46, 3) := by decide +kernel
theorem dX0_passHour_101 : decode cX0_passHour 101 = .ok (.iconst 1, 1) := by decide +kernel
theorem dX0_passHour_102 : decode cX0_passHour 102 = .ok (.iadd, 1) := by decide +kernel
theorem dX0_passHour_103 : decode cX0_passHour 103 = .ok (.putfield 46, 3) := by decide +kernel
theorem dX0_passHour_106 : decode cX0_passHour 106 = .ok (.iload_n 3, 1) := by decide +kernel
theorem dX0_passHour_107 : decode cX0_passHour 107 = .ok (.ireturn, 1) := by decide +kernel
theorem dX0_drift_0 : decode cX0_drift 0 = .ok (.aload_n 2, 1) := by decide +kernel
theorem dX0_drift_1 : decode cX0_drift 1 = .ok (.getfield 32, 3) := by decide +kernel
theorem dX0_drift_4 : decode cX0_drift 4 = .ok (.iload_n 3, 1) := by decide +kernel
theorem dX0_drift_5 : decode cX0_drift 5 = .ok (.iaload, 1) := by decide +kernel
theorem dX0_drift_6 : decode cX0_drift 6 = .ok (.istore 4, 2) := by decide +kernel
theorem dX0_drift_8 : decode cX0_drift 8 = .ok (.aload_n 0, 1) := by decide +kernel
theorem dX0_drift_9 : decode cX0_drift 9 = .ok (.getfield 9, 3) := by decide +kernel
theorem dX0_drift_12 : decode cX0_drift 12 = .ok (.getfield 49, 3) := by decide +kernel
theorem dX0_drift_15 : decode cX0_drift 15 = .ok (.iload 4, 2) := by decide +kernel
theorem dX0_drift_17 : decode cX0_drift 17 = .ok (.invokestatic 54, 3) := by decide +kernel
theorem dX0_drift_20 : decode cX0_drift 20 = .ok (.ifCond .eq 14, 3) := by decide +kernel
theorem dX0_drift_23 : decode cX0_drift 23 = .ok (.aload_n 2, 1) := by decide +kernel
theorem dX0_drift_24 : decode cX0_drift 24 = .ok (.invokevirtual 58, 3) := by decide +kernel
theorem dX0_drift_27 : decode cX0_drift 27 = .ok (.ifCond .ne 7, 3) := by decide +kernel
theorem dX0_drift_30 : decode cX0_drift 30 = .ok (.iconst 1, 1) := by decide +kernel
theorem dX0_drift_31 : decode cX0_drift 31 = .ok (.goto 4, 3) := by decide +kernel
theorem dX0_drift_34 : decode cX0_drift 34 = .ok (.iconst 0, 1) := by decide +kernel
theorem dX0_drift_35 : decode cX0_drift 35 = .ok (.istore 5, 2) := by decide +kernel
theorem dX0_drift_37 : decode cX0_drift 37 = .ok (.iload 5, 2) := by decide +kernel
theorem dX0_drift_39 : decode cX0_drift 39 = .ok (.ifCond .ne 131, 3) := by decide +kernel
theorem dX0_drift_42 : decode cX0_drift 42 = .ok (.iload 4, 2) := by decide +kernel
theorem dX0_drift_44 : decode cX0_drift 44 = .ok (.aload_n 2, 1) := by decide +kernel
theorem dX0_drift_45 : decode cX0_drift 45 = .ok (.getfield 25, 3) := by decide +kernel
theorem dX0_drift_48 : decode cX0_drift 48 = .ok (.iconst 4, 1) := by decide +kernel
theorem dX0_drift_49 : decode cX0_drift 49 = .ok (.if_icmp .le 7, 3) := by decide +kernel
theorem dX0_drift_52 : decode cX0_drift 52 = .ok (.iconst 2, 1) := by decide +kernel
theorem dX0_drift_53 : decode cX0_drift 53 = .ok (.goto 4, 3) := by decide +kernel
theorem dX0_drift_56 : decode cX0_drift 56 = .ok (.iconst 1, 1) := by decide +kernel
theorem dX0_drift_57 : decode cX0_drift 57 = .ok (.iadd, 1) := by decide +kernel
theorem dX0_drift_58 : decode cX0_drift 58 = .ok (.istore 4, 2) := by decide +kernel
theorem dX0_drift_60 : decode cX0_drift 60 = .ok (.iload 4, 2) := by decide +kernel
theorem dX0_drift_62 : decode cX0_drift 62 = .ok (.bipush 9, 2) := by decide +kernel
theorem dX0_drift_64 : decode cX0_drift 64 = .ok (.if_icmp .lt 21, 3) := by decide +kernel
theorem dX0_drift_67 : decode cX0_drift 67 = .ok (.aload_n 2, 1) := by decide +kernel
theorem dX0_drift_68 : decode cX0_drift 68 = .ok (.getfield 32, 3) := by decide +kernel
theorem dX0_drift_71 : decode cX0_drift 71 = .ok (.iload_n 3, 1) := by decide +kernel
theorem dX0_drift_72 : decode cX0_drift 72 = .ok (.bipush 10, 2) := by decide +kernel
theorem dX0_drift_74 : decode cX0_drift 74 = .ok (.iastore, 1) := by decide +kernel
theorem dX0_drift_75 : decode cX0_drift 75 = .ok (.aload_n 2, 1) := by decide +kernel
theorem dX0_drift_76 : decode cX0_drift 76 = .ok (.iload_n 3, 1) := by decide +kernel
theorem dX0_drift_77 : decode cX0_drift 77 = .ok (.iconst 1, 1) := by decide +kernel
theorem dX0_drift_78 : decode cX0_drift 78 = .ok (.bipush 9, 2) := by decide +kernel
theorem dX0_drift_80 : decode cX0_drift 80 = .ok (.invokevirtual 61, 3) := by decide +kernel
theorem dX0_drift_83 : decode cX0_drift 83 = .ok (.iconst 0, 1) := by decide +kernel
theorem dX0_drift_84 : decode cX0_drift 84 = .ok (.ireturn, 1) := by decide +kernel
theorem dX0_drift_85 : decode cX0_drift 85 = .ok (.aload_n 2, 1) := by decide +kernel
theorem dX0_drift_86 : decode cX0_drift 86 = .ok (.getfield 32, 3) := by decide +kernel
theorem dX0_drift_89 : decode cX0_drift 89 = .ok (.iload_n 3, 1) := by decide +kernel
theorem dX0_drift_90 : decode cX0_drift 90 = .ok (.iload 4, 2) := by decide +kernel
theorem dX0_drift_92 : decode cX0_drift 92 = .ok (.iastore, 1) := by decide +kernel
theorem dX0_drift_93 : decode cX0_drift 93 = .ok (.aload_n 2, 1) := by decide +kernel
theorem dX0_drift_94 : decode cX0_drift 94 = .ok (.getfield 65, 3) := by decide +kernel
theorem dX0_drift_97 : decode cX0_drift 97 = .ok (.iload 4, 2) := by decide +kernel
theorem dX0_drift_99 : decode cX0_drift 99 = .ok (.invokestatic 54, 3) := by decide +kernel
theorem dX0_drift_102 : decode cX0_drift 102 = .ok (.ifCond .eq 17, 3) := by decide +kernel
theorem dX0_drift_105 : decode cX0_drift 105 = .ok (.aload_n 2, 1) := by decide +kernel
theorem dX0_drift_106 : decode cX0_drift 106 = .ok (.getfield 68, 3) := by decide +kernel
theorem dX0_drift_109 : decode cX0_drift 109 = .ok (.iload_n 3, 1) := by decide +kernel
theorem dX0_drift_110 : decode cX0_drift 110 = .ok (.iaload, 1) := by decide +kernel
theorem dX0_drift_111 : decode cX0_drift 111 = .ok (.iconst 1, 1) := by decide +kernel
theorem dX0_drift_112 : decode cX0_drift 112 = .ok (.if_icmp .le 7, 3) := by decide +kernel
theorem dX0_drift_115 : decode cX0_drift 115 = .ok (.iconst 1, 1) := by decide +kernel
theorem dX0_drift_116 : decode cX0_drift 116 = .ok (.goto 4, 3) := by decide +kernel
theorem dX0_drift_119 : decode cX0_drift 119 = .ok (.iconst 0, 1) := by decide +kernel
theorem dX0_drift_120 : decode cX0_drift 120 = .ok (.istore 6, 2) := by decide +kernel
theorem dX0_drift_122 : decode cX0_drift 122 = .ok (.iload 6, 2) := by decide +kernel
theorem dX0_drift_124 : decode cX0_drift 124 = .ok (.ifCond .eq 46, 3) := by decide +kernel
theorem dX0_drift_127 : decode cX0_drift 127 = .ok (.aload_n 2, 1) := by decide +kernel
theorem dX0_drift_128 : decode cX0_drift 128 = .ok (.invokevirtual 19, 3) := by decide +kernel
theorem dX0_drift_131 : decode cX0_drift 131 = .ok (.aload_n 0, 1) := by decide +kernel
theorem dX0_drift_132 : decode cX0_drift 132 = .ok (.getfield 15, 3) := by decide +kernel
theorem dX0_drift_135 : decode cX0_drift 135 = .ok (.aload_n 1, 1) := by decide +kernel
theorem dX0_drift_136 : decode cX0_drift 136 = .ok (.aload_n 2, 1) := by decide +kernel
theorem dX0_drift_137 : decode cX0_drift 137 = .ok (.iload_n 3, 1) := by decide +kernel
theorem dX0_drift_138 : decode cX0_drift 138 = .ok (.iload 4, 2) := by decide +kernel
theorem dX0_drift_140 : decode cX0_drift 140 = .ok (.invokevirtual 71, 3) := by decide +kernel
theorem dX0_drift_143 : decode cX0_drift 143 = .ok (.if_icmp .ge 27, 3) := by decide +kernel
theorem dX0_drift_146 : decode cX0_drift 146 = .ok (.aload_n 2, 1) := by decide +kernel
theorem dX0_drift_147 : decode cX0_drift 147 = .ok (.getfield 68, 3) := by decide +kernel
theorem dX0_drift_150 : decode cX0_drift 150 = .ok (.iload_n 3, 1) := by decide +kernel
theorem dX0_drift_151 : decode cX0_drift 151 = .ok (.aload_n 2, 1) := by decide +kernel
theorem dX0_drift_152 : decode cX0_drift 152 = .ok (.getfield 68, 3) := by decide +kernel
theorem dX0_drift_155 : decode cX0_drift 155 = .ok (.iload_n 3, 1) := by decide +kernel
theorem dX0_drift_156 : decode cX0_drift 156 = .ok (.iaload, 1) := by decide +kernel
theorem dX0_drift_157 : decode cX0_drift 157 = .ok (.iconst 1, 1) := by decide +kernel
theorem dX0_drift_158 : decode cX0_drift 158 = .ok (.iadd, 1) := by decide +kernel
theorem dX0_drift_159 : decode cX0_drift 159 = .ok (.iconst 2, 1) := by decide +kernel
theorem dX0_drift_160 : decode cX0_drift 160 = .ok (.idiv, 1) := by decide +kernel
theorem dX0_drift_161 : decode cX0_drift 161 = .ok (.iastore, 1) := by decide +kernel
theorem dX0_drift_162 : decode cX0_drift 162 = .ok (.aload_n 2, 1) := by decide +kernel
theorem dX0_drift_163 : decode cX0_drift 163 = .ok (.iload_n 3, 1) := by decide +kernel
theorem dX0_drift_164 : decode cX0_drift 164 = .ok (.iconst 2, 1) := by decide +kernel
theorem dX0_drift_165 : decode cX0_drift 165 = .ok (.iload 4, 2) := by decide +kernel
theorem dX0_drift_167 : decode cX0_drift 167 = .ok (.invokevirtual 61, 3) := by decide +kernel
theorem dX0_drift_170 : decode cX0_drift 170 = .ok (.iconst 0, 1) := by decide +kernel
theorem dX0_drift_171 : decode cX0_drift 171 = .ok (.istore 6, 2) := by decide +kernel
theorem dX0_drift_173 : decode cX0_drift 173 = .ok (.iload 6, 2) := by decide +kernel
theorem dX0_drift_175 : decode cX0_drift 175 = .ok (.aload_n 2, 1) := by decide +kernel
theorem dX0_drift_176 : decode cX0_drift 176 = .ok (.getfield 75, 3) := by decide +kernel
theorem dX0_drift_179 : decode cX0_drift 179 = .ok (.if_icmp .ge 96, 3) := by decide +kernel
theorem dX0_drift_182 : decode cX0_drift 182 = .ok (.iload 6, 2) := by decide +kernel
theorem dX0_drift_184 : decode cX0_drift 184 = .ok (.iconst 5, 1) := by decide +kernel
theorem dX0_drift_185 : decode cX0_drift 185 = .ok (.if_icmp .ge 90, 3) := by decide +kernel
theorem dX0_drift_188 : decode cX0_drift 188 = .ok (.aload_n 2, 1) := by decide +kernel
theorem dX0_drift_189 : decode cX0_drift 189 = .ok (.getfield 78, 3) := by decide +kernel
theorem dX0_drift_192 : decode cX0_drift 192 = .ok (.iload 6, 2) := by decide +kernel
theorem dX0_drift_194 : decode cX0_drift 194 = .ok (.iaload, 1) := by decide +kernel
theorem dX0_drift_195 : decode cX0_drift 195 = .ok (.iload 4, 2) := by decide +kernel
theorem dX0_drift_197 : decode cX0_drift 197 = .ok (.if_icmp .ne 26, 3) := by decide +kernel
theorem dX0_drift_200 : decode cX0_drift 200 = .ok (.aload_n 0, 1) := by decide +kernel
theorem dX0_drift_201 : decode cX0_drift 201 = .ok (.getfield 9, 3) := by decide +kernel
theorem dX0_drift_204 : decode cX0_drift 204 = .ok (.getfield 81, 3) := by decide +kernel
theorem dX0_drift_207 : decode cX0_drift 207 = .ok (.iload 6, 2) := by decide +kernel
theorem dX0_drift_209 : decode cX0_drift 209 = .ok (.iaload, 1) := by decide +kernel
theorem dX0_drift_210 : decode cX0_drift 210 = .ok (.aload_n 2, 1) := by decide +kernel
theorem dX0_drift_211 : decode cX0_drift 211 = .ok (.getfield 68, 3) := by decide +kernel
theorem dX0_drift_214 : decode cX0_drift 214 = .ok (.iload_n 3, 1) := by decide +kernel
theorem dX0_drift_215 : decode cX0_drift 215 = .ok (.iaload, 1) := by decide +kernel
theorem dX0_drift_216 : decode cX0_drift 216 = .ok (.if_icmp .lt 7, 3) := by decide +kernel
theorem dX0_drift_219 : decode cX0_drift 219 = .ok (.iconst 1, 1) := by decide +kernel
theorem dX0_drift_220 : decode cX0_drift 220 = .ok (.goto 4, 3) := by decide +kernel
theorem dX0_drift_223 : decode cX0_drift 223 = .ok (.iconst 0, 1) := by decide +kernel
theorem dX0_drift_224 : decode cX0_drift 224 = .ok (.istore 7, 2) := by decide +kernel
theorem dX0_drift_226 : decode cX0_drift 226 = .ok (.iload 7, 2) := by decide +kernel
theorem dX0_drift_228 : decode cX0_drift 228 = .ok (.ifCond .eq 41, 3) := by decide +kernel
theorem dX0_drift_231 : decode cX0_drift 231 = .ok (.aload_n 0, 1) := by decide +kernel
theorem dX0_drift_232 : decode cX0_drift 232 = .ok (.getfield 15, 3) := by decide +kernel
theorem dX0_drift_235 : decode cX0_drift 235 = .ok (.aload_n 1, 1) := by decide +kernel
theorem dX0_drift_236 : decode cX0_drift 236 = .ok (.aload_n 2, 1) := by decide +kernel
theorem dX0_drift_237 : decode cX0_drift 237 = .ok (.iload_n 3, 1) := by decide +kernel
theorem dX0_drift_238 : decode cX0_drift 238 = .ok (.iload 4, 2) := by decide +kernel
theorem dX0_drift_240 : decode cX0_drift 240 = .ok (.iload 6, 2) := by decide +kernel
theorem dX0_drift_242 : decode cX0_drift 242 = .ok (.invokevirtual 84, 3) := by decide +kernel
theorem dX0_drift_245 : decode cX0_drift 245 = .ok (.ifCond .le 24, 3) := by decide +kernel
theorem dX0_drift_248 : decode cX0_drift 248 = .ok (.aload_n 2, 1) := by decide +kernel
theorem dX0_drift_249 : decode cX0_drift 249 = .ok (.getfield 32, 3) := by decide +kernel
theorem dX0_drift_252 : decode cX0_drift 252 = .ok (.iload_n 3, 1) := by decide +kernel
theorem dX0_drift_253 : decode cX0_drift 253 = .ok (.bipush 20, 2) := by decide +kernel
theorem dX0_drift_255 : decode cX0_drift 255 = .ok (.iload 6, 2) := by decide +kernel
theorem dX0_drift_257 : decode cX0_drift 257 = .ok (.iadd, 1) := by decide +kernel
theorem dX0_drift_258 : decode cX0_drift 258 = .ok (.iastore, 1) := by decide +kernel
theorem dX0_drift_259 : decode cX0_drift 259 = .ok (.aload_n 2, 1) := by decide +kernel
theorem dX0_drift_260 : decode cX0_drift 260 = .ok (.iload_n 3, 1) := by decide +kernel
theorem dX0_drift_261 : decode cX0_drift 261 = .ok (.iconst 0, 1) := by decide +kernel
theorem dX0_drift_262 : decode cX0_drift 262 = .ok (.iload 6, 2) := by decide +kernel
theorem dX0_drift_264 : decode cX0_drift 264 = .ok (.invokevirtual 61, 3) := by decide +kernel
theorem dX0_drift_267 : decode cX0_drift 267 = .ok (.iconst 1, 1) := by decide +kernel
theorem dX0_drift_268 : decode cX0_drift 268 = .ok (.ireturn, 1) := by decide +kernel
theorem dX0_drift_269 : decode cX0_drift 269 = .ok (.iinc 6 1, 3) := by decide +kernel
theorem dX0_drift_272 : decode cX0_drift 272 = .ok (.goto (-99), 3) := by decide +kernel
theorem dX0_drift_275 : decode cX0_drift 275 = .ok (.iconst 0, 1) := by decide +kernel
theorem dX0_drift_276 : decode cX0_drift 276 = .ok (.ireturn, 1) := by decide +kernel
theorem dX1_init_0 : decode cX1_init 0 = .ok (.aload_n 0, 1) := by decide +kernel
theorem dX1_init_1 : decode cX1_init 1 = .ok (.invokespecial 3, 3) := by decide +kernel
theorem dX1_init_4 : decode cX1_init 4 = .ok (.aload_n 0, 1) := by decide +kernel
theorem dX1_init_5 : decode cX1_init 5 = .ok (.bipush 64, 2) := by decide +kernel
theorem dX1_init_7 : decode cX1_init 7 = .ok (.newarray .int, 2) := by decide +kernel
theorem dX1_init_9 : decode cX1_init 9 = .ok (.putfield 9, 3) := by decide +kernel
theorem dX1_init_12 : decode cX1_init 12 = .ok (.aload_n 0, 1) := by decide +kernel
theorem dX1_init_13 : decode cX1_init 13 = .ok (.sipush 256, 3) := by decide +kernel
theorem dX1_init_16 : decode cX1_init 16 = .ok (.newarray .int, 2) := by decide +kernel
theorem dX1_init_18 : decode cX1_init 18 = .ok (.putfield 15, 3) := by decide +kernel
theorem dX1_init_21 : decode cX1_init 21 = .ok (.aload_n 0, 1) := by decide +kernel
theorem dX1_init_22 : decode cX1_init 22 = .ok (.iconst 4, 1) := by decide +kernel
theorem dX1_init_23 : decode cX1_init 23 = .ok (.newarray .int, 2) := by decide +kernel
theorem dX1_init_25 : decode cX1_init 25 = .ok (.putfield 18, 3) := by decide +kernel
theorem dX1_init_28 : decode cX1_init 28 = .ok (.aload_n 0, 1) := by decide +kernel
theorem dX1_init_29 : decode cX1_init 29 = .ok (.aload_n 1, 1) := by decide +kernel
theorem dX1_init_30 : decode cX1_init 30 = .ok (.putfield 21, 3) := by decide +kernel
theorem dX1_init_33 : decode cX1_init 33 = .ok (.return_, 1) := by decide +kernel
theorem dX1_join_0 : decode cX1_join 0 = .ok (.aload_n 0, 1) := by decide +kernel
theorem dX1_join_1 : decode cX1_join 1 = .ok (.getfield 21, 3) := by decide +kernel
theorem dX1_join_4 : decode cX1_join 4 = .ok (.getfield 25, 3) := by decide +kernel
theorem dX1_join_7 : decode cX1_join 7 = .ok (.bipush 8, 2) := by decide +kernel
theorem dX1_join_9 : decode cX1_join 9 = .ok (.invokestatic 31, 3) := by decide +kernel
theorem dX1_join_12 : decode cX1_join 12 = .ok (.istore_n 1, 1) := by decide +kernel
theorem dX1_join_13 : decode cX1_join 13 = .ok (.aload_n 0, 1) := by decide +kernel
theorem dX1_join_14 : decode cX1_join 14 = .ok (.iload_n 1, 1) := by decide +kernel
theorem dX1_join_15 : decode cX1_join 15 = .ok (.invokevirtual 37, 3) := by decide +kernel
theorem dX1_join_18 : decode cX1_join 18 = .ok (.aload_n 0, 1) := by decide +kernel
theorem dX1_join_19 : decode cX1_join 19 = .ok (.iload_n 1, 1) := by decide +kernel
theorem dX1_join_20 : decode cX1_join 20 = .ok (.invokevirtual 41, 3) := by decide +kernel
theorem dX1_join_23 : decode cX1_join 23 = .ok (.aload_n 0, 1) := by decide +kernel
theorem dX1_join_24 : decode cX1_join 24 = .ok (.iconst 0, 1) := by decide +kernel
theorem dX1_join_25 : decode cX1_join 25 = .ok (.putfield 44, 3) := by decide +kernel
theorem dX1_join_28 : decode cX1_join 28 = .ok (.iconst 1, 1) := by decide +kernel
theorem dX1_join_29 : decode cX1_join 29 = .ok (.iload_n 1, 1) := by decide +kernel
theorem dX1_join_30 : decode cX1_join 30 = .ok (.ishl, 1) := by decide +kernel
theorem dX1_join_31 : decode cX1_join 31 = .ok (.iconst 1, 1) := by decide +kernel
theorem dX1_join_32 : decode cX1_join 32 = .ok (.isub, 1) := by decide +kernel
theorem dX1_join_33 : decode cX1_join 33 = .ok (.istore_n 2, 1) := by decide +kernel
theorem dX1_join_34 : decode cX1_join 34 = .ok (.iconst 0, 1) := by decide +kernel
theorem dX1_join_35 : decode cX1_join 35 = .ok (.istore_n 3, 1) := by decide +kernel
theorem dX1_join_36 : decode cX1_join 36 = .ok (.iload_n 3, 1) := by decide +kernel
theorem dX1_join_37 : decode cX1_join 37 = .ok (.iload_n 1, 1) := by decide +kernel
theorem dX1_join_38 : decode cX1_join 38 = .ok (.if_icmp .ge 136, 3) := by decide +kernel
theorem dX1_join_41 : decode cX1_join 41 = .ok (.iconst 0, 1) := by decide +kernel
theorem dX1_join_42 : decode cX1_join 42 = .ok (.istore 4, 2) := by decide +kernel
theorem dX1_join_44 : decode cX1_join 44 = .ok (.iload 4, 2) := by decide +kernel
theorem dX1_join_46 : decode cX1_join 46 = .ok (.iload_n 1, 1) := by decide +kernel
theorem dX1_join_47 : decode cX1_join 47 = .ok (.if_icmp .ge 121, 3) := by decide +kernel
theorem dX1_join_50 : decode cX1_join 50 = .ok (.iconst 1, 1) := by decide +kernel
theorem dX1_join_51 : decode cX1_join 51 = .ok (.iload_n 3, 1) := by decide +kernel
theorem dX1_join_52 : decode cX1_join 52 = .ok (.ishl, 1) := by decide +kernel
theorem dX1_join_53 : decode cX1_join 53 = .ok (.iconst 1, 1) := by decide +kernel
theorem dX1_join_54 : decode cX1_join 54 = .ok (.iload 4, 2) := by decide +kernel
theorem dX1_join_56 : decode cX1_join 56 = .ok (.ishl, 1) := by decide +kernel
theorem dX1_join_57 : decode cX1_join 57 = .ok (.ior, 1) := by decide +kernel
theorem dX1_join_58 : decode cX1_join 58 = .ok (.istore 5, 2) := by decide +kernel
theorem dX1_join_60 : decode cX1_join 60 = .ok (.aload_n 0, 1) := by decide +kernel
theorem dX1_join_61 : decode cX1_join 61 = .ok (.getfield 9, 3) := by decide +kernel
theorem dX1_join_64 : decode cX1_join 64 = .ok (.iload_n 3, 1) := by decide +kernel
theorem dX1_join_65 : decode cX1_join 65 = .ok (.bipush 8, 2) := by decide +kernel
theorem dX1_join_67 : decode cX1_join 67 = .ok (.imul, 1) := by decide +kernel
theorem dX1_join_68 : decode cX1_join 68 = .ok (.iload 4, 2) := by decide +kernel
theorem dX1_join_70 : decode cX1_join 70 = .ok (.iadd, 1) := by decide +kernel
theorem dX1_join_71 : decode cX1_join 71 = .ok (.iaload, 1) := by decide +kernel
theorem dX1_join_72 : decode cX1_join 72 = .ok (.istore 6, 2) := by decide +kernel
theorem dX1_join_74 : decode cX1_join 74 = .ok (.iload 6, 2) := by decide +kernel
theorem dX1_join_76 : decode cX1_join 76 = .ok (.iconst (-1), 1) := by decide +kernel
theorem dX1_join_77 : decode cX1_join 77 = .ok (.if_icmp .eq 85, 3) := by decide +kernel
theorem dX1_join_80 : decode cX1_join 80 = .ok (.iload_n 2, 1) := by decide +kernel
theorem dX1_join_81 : decode cX1_join 81 = .ok (.iload 5, 2) := by decide +kernel
theorem dX1_join_83 : decode cX1_join 83 = .ok (.iand, 1) := by decide +kernel
theorem dX1_join_84 : decode cX1_join 84 = .ok (.iload 5, 2) := by decide +kernel
theorem dX1_join_86 : decode cX1_join 86 = .ok (.if_icmp .ne 76, 3) := by decide +kernel
theorem dX1_join_89 : decode cX1_join 89 = .ok (.aload_n 0, 1) := by decide +kernel
theorem dX1_join_90 : decode cX1_join 90 = .ok (.getfield 15, 3) := by decide +kernel
theorem dX1_join_93 : decode cX1_join 93 = .ok (.iload_n 2, 1) := by decide +kernel
theorem dX1_join_94 : decode cX1_join 94 = .ok (.iload 5, 2) := by decide +kernel
theorem dX1_join_96 : decode cX1_join 96 = .ok (.iconst (-1), 1) := by decide +kernel
theorem dX1_join_97 : decode cX1_join 97 = .ok (.ixor, 1) := by decide +kernel
theorem dX1_join_98 : decode cX1_join 98 = .ok (.iand, 1) := by decide +kernel
theorem dX1_join_99 : decode cX1_join 99 = .ok (.iaload, 1) := by decide +kernel
theorem dX1_join_100 : decode cX1_join 100 = .ok (.iconst 1, 1) := by decide +kernel
theorem dX1_join_101 : decode cX1_join 101 = .ok (.iadd, 1) := by decide +kernel
theorem dX1_join_102 : decode cX1_join 102 = .ok (.aload_n 0, 1) := by decide +kernel
theorem dX1_join_103 : decode cX1_join 103 = .ok (.getfield 15, 3) := by decide +kernel
theorem dX1_join_106 : decode cX1_join 106 = .ok (.iload_n 2, 1) := by decide +kernel
theorem dX1_join_107 : decode cX1_join 107 = .ok (.iaload, 1) := by decide +kernel
theorem dX1_join_108 : decode cX1_join 108 = .ok (.if_icmp .ne 54, 3) := by decide +kernel
theorem dX1_join_111 : decode cX1_join 111 = .ok (.aload_n 0, 1) := by decide +kernel
theorem dX1_join_112 : decode cX1_join 112 = .ok (.getfield 44, 3) := by decide +kernel
theorem dX1_join_115 : decode cX1_join 115 = .ok (.aload_n 0, 1) := by decide +kernel
theorem dX1_join_116 : decode cX1_join 116 = .ok (.getfield 18, 3) := by decide +kernel
theorem dX1_join_119 : decode cX1_join 119 = .ok (.arraylength, 1) := by decide +kernel
theorem dX1_join_120 : decode cX1_join 120 = .ok (.if_icmp .ge 42, 3) := by decide +kernel
theorem dX1_join_123 : decode cX1_join 123 = .ok (.aload_n 0, 1) := by decide +kernel
theorem dX1_join_124 : decode cX1_join 124 = .ok (.getfield 18, 3) := by decide +kernel
theorem dX1_join_127 : decode cX1_join 127 = .ok (.aload_n 0, 1) := by decide +kernel
theorem dX1_join_128 : decode cX1_join 128 = .ok (.getfield 44, 3) := by decide +kernel
theorem dX1_join_131 : decode cX1_join 131 = .ok (.bipush 100, 2) := by decide +kernel
theorem dX1_join_133 : decode cX1_join 133 = .ok (.iload_n 3, 1) := by decide +kernel
theorem dX1_join_134 : decode cX1_join 134 = .ok (.imul, 1) := by decide +kernel
theorem dX1_join_135 : decode cX1_join 135 = .ok (.bipush 10, 2) := by decide +kernel
theorem dX1_join_137 : decode cX1_join 137 = .ok (.iload 4, 2) := by decide +kernel
theorem dX1_join_139 : decode cX1_join 139 = .ok (.imul, 1) := by decide +kernel
theorem dX1_join_140 : decode cX1_join 140 = .ok (.iadd, 1) := by decide +kernel
theorem dX1_join_141 : decode cX1_join 141 = .ok (.iload 6, 2) := by decide +kernel
theorem dX1_join_143 : decode cX1_join 143 = .ok (.iadd, 1) := by decide +kernel
theorem dX1_join_144 : decode cX1_join 144 = .ok (.iastore, 1) := by decide +kernel
theorem dX1_join_145 : decode cX1_join 145 = .ok (.aload_n 0, 1) := by decide +kernel
theorem dX1_join_146 : decode cX1_join 146 = .ok (.dup, 1) := by decide +kernel
theorem dX1_join_147 : decode cX1_join 147 = .ok (.getfield 44, 3) := by decide +kernel
theorem dX1_join_150 : decode cX1_join 150 = .ok (.iconst 1, 1) := by decide +kernel
theorem dX1_join_151 : decode cX1_join 151 = .ok (.iadd, 1) := by decide +kernel
theorem dX1_join_152 : decode cX1_join 152 = .ok (.putfield 44, 3) := by decide +kernel
theorem dX1_join_155 : decode cX1_join 155 = .ok (.iload_n 2, 1) := by decide +kernel
theorem dX1_join_156 : decode cX1_join 156 = .ok (.iload 5, 2) := by decide +kernel
theorem dX1_join_158 : decode cX1_join 158 = .ok (.iconst (-1), 1) := by decide +kernel
theorem dX1_join_159 : decode cX1_join 159 = .ok (.ixor, 1) := by decide +kernel
theorem dX1_join_160 : decode cX1_join 160 = .ok (.iand, 1) := by decide +kernel
theorem dX1_join_161 : decode cX1_join 161 = .ok (.istore_n 2, 1) := by decide +kernel
theorem dX1_join_162 : decode cX1_join 162 = .ok (.iinc 4 1, 3) := by decide +kernel
theorem dX1_join_165 : decode cX1_join 165 = .ok (.goto (-121), 3) := by decide +kernel
theorem dX1_join_168 : decode cX1_join 168 = .ok (.iinc 3 1, 3) := by decide +kernel
theorem dX1_join_171 : decode cX1_join 171 = .ok (.goto (-135), 3) := by decide +kernel
theorem dX1_join_174 : decode cX1_join 174 = .ok (.return_, 1) := by decide +kernel
theorem dX1_findJoints_0 : decode cX1_findJoints 0 = .ok (.iconst 0, 1) := by decide +kernel
theorem dX1_findJoints_1 : decode cX1_findJoints 1 = .ok (.istore_n 2, 1) := by decide +kernel
theorem dX1_findJoints_2 : decode cX1_findJoints 2 = .ok (.iload_n 2, 1) := by decide +kernel
theorem dX1_findJoints_3 : decode cX1_findJoints 3 = .ok (.iload_n 1, 1) := by decide +kernel
theorem dX1_findJoints_4 : decode cX1_findJoints 4 = .ok (.if_icmp .ge 64, 3) := by decide +kernel
theorem dX1_findJoints_7 : decode cX1_findJoints 7 = .ok (.iconst 0, 1) := by decide +kernel
theorem dX1_findJoints_8 : decode cX1_findJoints 8 = .ok (.istore_n 3, 1) := by decide +kernel
theorem dX1_findJoints_9 : decode cX1_findJoints 9 = .ok (.iload_n 3, 1) := by decide +kernel
theorem dX1_findJoints_10 : decode cX1_findJoints 10 = .ok (.iload_n 1, 1) := by decide +kernel
theorem dX1_findJoints_11 : decode cX1_findJoints 11 = .ok (.if_icmp .ge 51, 3) := by decide +kernel
theorem dX1_findJoints_14 : decode cX1_findJoints 14 = .ok (.aload_n 0, 1) := by decide +kernel
theorem dX1_findJoints_15 : decode cX1_findJoints 15 = .ok (.getfield 9, 3) := by decide +kernel
theorem dX1_findJoints_18 : decode cX1_findJoints 18 = .ok (.iload_n 2, 1) := by decide +kernel
theorem dX1_findJoints_19 : decode cX1_findJoints 19 = .ok (.bipush 8, 2) := by decide +kernel
theorem dX1_findJoints_21 : decode cX1_findJoints 21 = .ok (.imul, 1) := by decide +kernel
theorem dX1_findJoints_22 : decode cX1_findJoints 22 = .ok (.iload_n 3, 1) := by decide +kernel
theorem dX1_findJoints_23 : decode cX1_findJoints 23 = .ok (.iadd, 1) := by decide +kernel
theorem dX1_findJoints_24 : decode cX1_findJoints 24 = .ok (.iload_n 2, 1) := by decide +kernel
theorem dX1_findJoints_25 : decode cX1_findJoints 25 = .ok (.iload_n 3, 1) := by decide +kernel
theorem dX1_findJoints_26 : decode cX1_findJoints 26 = .ok (.if_icmp .ne 7, 3) := by decide +kernel
theorem dX1_findJoints_29 : decode cX1_findJoints 29 = .ok (.iconst (-1), 1) := by decide +kernel
theorem dX1_findJoints_30 : decode cX1_findJoints 30 = .ok (.goto 25, 3) := by decide +kernel
theorem dX1_findJoints_33 : decode cX1_findJoints 33 = .ok (.aload_n 0, 1) := by decide +kernel
theorem dX1_findJoints_34 : decode cX1_findJoints 34 = .ok (.aload_n 0, 1) := by decide +kernel
theorem dX1_findJoints_35 : decode cX1_findJoints 35 = .ok (.getfield 21, 3) := by decide +kernel
theorem dX1_findJoints_38 : decode cX1_findJoints 38 = .ok (.getfield 47, 3) := by decide +kernel
theorem dX1_findJoints_41 : decode cX1_findJoints 41 = .ok (.iload_n 2, 1) := by decide +kernel
theorem dX1_findJoints_42 : decode cX1_findJoints 42 = .ok (.iaload, 1) := by decide +kernel
theorem dX1_findJoints_43 : decode cX1_findJoints 43 = .ok (.aload_n 0, 1) := by decide +kernel
theorem dX1_findJoints_44 : decode cX1_findJoints 44 = .ok (.getfield 21, 3) := by decide +kernel
theorem dX1_findJoints_47 : decode cX1_findJoints 47 = .ok (.getfield 47, 3) := by decide +kernel
theorem dX1_findJoints_50 : decode cX1_findJoints 50 = .ok (.iload_n 3, 1) := by decide +kernel
theorem dX1_findJoints_51 : decode cX1_findJoints 51 = .ok (.iaload, 1) := by decide +kernel
theorem dX1_findJoints_52 : decode cX1_findJoints 52 = .ok (.invokevirtual 50, 3) := by decide +kernel
theorem dX1_findJoints_55 : decode cX1_findJoints 55 = .ok (.iastore, 1) := by decide +kernel
theorem dX1_findJoints_56 : decode cX1_findJoints 56 = .ok (.iinc 3 1, 3) := by decide +kernel
theorem dX1_findJoints_59 : decode cX1_findJoints 59 = .ok (.goto (-50), 3) := by decide +kernel
theorem dX1_findJoints_62 : decode cX1_findJoints 62 = .ok (.iinc 2 1, 3) := by decide +kernel
theorem dX1_findJoints_65 : decode cX1_findJoints 65 = .ok (.goto (-63), 3) := by decide +kernel
theorem dX1_findJoints_68 : decode cX1_findJoints 68 = .ok (.return_, 1) := by decide +kernel
theorem dX1_jointOf_0 : decode cX1_jointOf 0 = .ok (.iload_n 1, 1) := by decide +kernel
theorem dX1_jointOf_1 : decode cX1_jointOf 1 = .ok (.i2l, 1) := by decide +kernel
theorem dX1_jointOf_2 : decode cX1_jointOf 2 = .ok (.lstore_n 3, 1) := by decide +kernel
theorem dX1_jointOf_3 : decode cX1_jointOf 3 = .ok (.iload_n 2, 1) := by decide +kernel
theorem dX1_jointOf_4 : decode cX1_jointOf 4 = .ok (.invokestatic 53, 3) := by decide +kernel
theorem dX1_jointOf_7 : decode cX1_jointOf 7 = .ok (.istore 5, 2) := by decide +kernel
theorem dX1_jointOf_9 : decode cX1_jointOf 9 = .ok (.iload 5, 2) := by decide +kernel
theorem dX1_jointOf_11 : decode cX1_jointOf 11 = .ok (.ifCond .le 15, 3) := by decide +kernel
theorem dX1_jointOf_14 : decode cX1_jointOf 14 = .ok (.lload_n 3, 1) := by decide +kernel
theorem dX1_jointOf_15 : decode cX1_jointOf 15 = .ok (.ldc2_w 57, 3) := by decide +kernel
theorem dX1_jointOf_18 : decode cX1_jointOf 18 = .ok (.lmul, 1) := by decide +kernel
theorem dX1_jointOf_19 : decode cX1_jointOf 19 = .ok (.lstore_n 3, 1) := by decide +kernel
theorem dX1_jointOf_20 : decode cX1_jointOf 20 = .ok (.iinc 5 (-1), 3) := by decide +kernel
theorem dX1_jointOf_23 : decode cX1_jointOf 23 = .ok (.goto (-14), 3) := by decide +kernel
theorem dX1_jointOf_26 : decode cX1_jointOf 26 = .ok (.lload_n 3, 1) := by decide +kernel
theorem dX1_jointOf_27 : decode cX1_jointOf 27 = .ok (.iload_n 2, 1) := by decide +kernel
theorem dX1_jointOf_28 : decode cX1_jointOf 28 = .ok (.i2l, 1) := by decide +kernel
theorem dX1_jointOf_29 : decode cX1_jointOf 29 = .ok (.ladd, 1) := by decide +kernel
theorem dX1_jointOf_30 : decode cX1_jointOf 30 = .ok (.lstore_n 3, 1) := by decide +kernel
theorem dX1_jointOf_31 : decode cX1_jointOf 31 = .ok (.iconst 0, 1) := by decide +kernel
theorem dX1_jointOf_32 : decode cX1_jointOf 32 = .ok (.istore 5, 2) := by decide +kernel
theorem dX1_jointOf_34 : decode cX1_jointOf 34 = .ok (.iload 5, 2) := by decide +kernel
theorem dX1_jointOf_36 : decode cX1_jointOf 36 = .ok (.aload_n 0, 1) := by decide +kernel
theorem dX1_jointOf_37 : decode cX1_jointOf 37 = .ok (.getfield 21, 3) := by decide +kernel
theorem dX1_jointOf_40 : decode cX1_jointOf 40 = .ok (.getfield 59, 3) := by decide +kernel
theorem dX1_jointOf_43 : decode cX1_jointOf 43 = .ok (.getfield 63, 3) := by decide +kernel
theorem dX1_jointOf_46 : decode cX1_jointOf 46 = .ok (.if_icmp .ge 35, 3) := by decide +kernel
theorem dX1_jointOf_49 : decode cX1_jointOf 49 = .ok (.iload 5, 2) := by decide +kernel
theorem dX1_jointOf_51 : decode cX1_jointOf 51 = .ok (.bipush 6, 2) := by decide +kernel
theorem dX1_jointOf_53 : decode cX1_jointOf 53 = .ok (.if_icmp .ge 28, 3) := by decide +kernel
theorem dX1_jointOf_56 : decode cX1_jointOf 56 = .ok (.aload_n 0, 1) := by decide +kernel
theorem dX1_jointOf_57 : decode cX1_jointOf 57 = .ok (.getfield 21, 3) := by decide +kernel
theorem dX1_jointOf_60 : decode cX1_jointOf 60 = .ok (.getfield 68, 3) := by decide +kernel
theorem dX1_jointOf_63 : decode cX1_jointOf 63 = .ok (.iload 5, 2) := by decide +kernel
theorem dX1_jointOf_65 : decode cX1_jointOf 65 = .ok (.iaload, 1) := by decide +kernel
theorem dX1_jointOf_66 : decode cX1_jointOf 66 = .ok (.i2l, 1) := by decide +kernel
theorem dX1_jointOf_67 : decode cX1_jointOf 67 = .ok (.lload_n 3, 1) := by decide +kernel
theorem dX1_jointOf_68 : decode cX1_jointOf 68 = .ok (.lcmp, 1) := by decide +kernel
theorem dX1_jointOf_69 : decode cX1_jointOf 69 = .ok (.ifCond .ne 6, 3) := by decide +kernel
theorem dX1_jointOf_72 : decode cX1_jointOf 72 = .ok (.iload 5, 2) := by decide +kernel
theorem dX1_jointOf_74 : decode cX1_jointOf 74 = .ok (.ireturn, 1) := by decide +kernel
theorem dX1_jointOf_75 : decode cX1_jointOf 75 = .ok (.iinc 5 1, 3) := by decide +kernel
theorem dX1_jointOf_78 : decode cX1_jointOf 78 = .ok (.goto (-44), 3) := by decide +kernel
theorem dX1_jointOf_81 : decode cX1_jointOf 81 = .ok (.iconst (-1), 1) := by decide +kernel
theorem dX1_jointOf_82 : decode cX1_jointOf 82 = .ok (.ireturn, 1) := by decide +kernel
theorem dX1_findMost_0 : decode cX1_findMost 0 = .ok (.aload_n 0, 1) := by decide +kernel
theorem dX1_findMost_1 : decode cX1_findMost 1 = .ok (.getfield 15, 3) := by decide +kernel
theorem dX1_findMost_4 : decode cX1_findMost 4 = .ok (.iconst 0, 1) := by decide +kernel
theorem dX1_findMost_5 : decode cX1_findMost 5 = .ok (.iconst 0, 1) := by decide +kernel
theorem dX1_findMost_6 : decode cX1_findMost 6 = .ok (.iastore, 1) := by decide +kernel
theorem dX1_findMost_7 : decode cX1_findMost 7 = .ok (.iconst 1, 1) := by decide +kernel
theorem dX1_findMost_8 : decode cX1_findMost 8 = .ok (.istore_n 2, 1) := by decide +kernel
theorem dX1_findMost_9 : decode cX1_findMost 9 = .ok (.iload_n 2, 1) := by decide +kernel
theorem dX1_findMost_10 : decode cX1_findMost 10 = .ok (.iconst 1, 1) := by decide +kernel
theorem dX1_findMost_11 : decode cX1_findMost 11 = .ok (.iload_n 1, 1) := by decide +kernel
theorem dX1_findMost_12 : decode cX1_findMost 12 = .ok (.ishl, 1) := by decide +kernel
theorem dX1_findMost_13 : decode cX1_findMost 13 = .ok (.if_icmp .ge 134, 3) := by decide +kernel
theorem dX1_findMost_16 : decode cX1_findMost 16 = .ok (.iload_n 2, 1) := by decide +kernel
theorem dX1_findMost_17 : decode cX1_findMost 17 = .ok (.invokestatic 71, 3) := by decide +kernel
theorem dX1_findMost_20 : decode cX1_findMost 20 = .ok (.istore_n 3, 1) := by decide +kernel
theorem dX1_findMost_21 : decode cX1_findMost 21 = .ok (.iload_n 2, 1) := by decide +kernel
theorem dX1_findMost_22 : decode cX1_findMost 22 = .ok (.iconst 1, 1) := by decide +kernel
theorem dX1_findMost_23 : decode cX1_findMost 23 = .ok (.iload_n 3, 1) := by decide +kernel
theorem dX1_findMost_24 : decode cX1_findMost 24 = .ok (.ishl, 1) := by decide +kernel
theorem dX1_findMost_25 : decode cX1_findMost 25 = .ok (.iconst (-1), 1) := by decide +kernel
theorem dX1_findMost_26 : decode cX1_findMost 26 = .ok (.ixor, 1) := by decide +kernel
theorem dX1_findMost_27 : decode cX1_findMost 27 = .ok (.iand, 1) := by decide +kernel
theorem dX1_findMost_28 : decode cX1_findMost 28 = .ok (.istore 4, 2) := by decide +kernel
theorem dX1_findMost_30 : decode cX1_findMost 30 = .ok (.aload_n 0, 1) := by decide +kernel
theorem dX1_findMost_31 : decode cX1_findMost 31 = .ok (.getfield 15, 3) := by decide +kernel
theorem dX1_findMost_34 : decode cX1_findMost 34 = .ok (.iload 4, 2) := by decide +kernel
theorem dX1_findMost_36 : decode cX1_findMost 36 = .ok (.iaload, 1) := by decide +kernel
theorem dX1_findMost_37 : decode cX1_findMost 37 = .ok (.istore 5, 2) := by decide +kernel
theorem dX1_findMost_39 : decode cX1_findMost 39 = .ok (.iload_n 3, 1) := by decide +kernel
theorem dX1_findMost_40 : decode cX1_findMost 40 = .ok (.iconst 1, 1) := by decide +kernel
theorem dX1_findMost_41 : decode cX1_findMost 41 = .ok (.iadd, 1) := by decide +kernel
theorem dX1_findMost_42 : decode cX1_findMost 42 = .ok (.istore 6, 2) := by decide +kernel
theorem dX1_findMost_44 : decode cX1_findMost 44 = .ok (.iload 6, 2) := by decide +kernel
theorem dX1_findMost_46 : decode cX1_findMost 46 = .ok (.iload_n 1, 1) := by decide +kernel
theorem dX1_findMost_47 : decode cX1_findMost 47 = .ok (.if_icmp .ge 86, 3) := by decide +kernel
theorem dX1_findMost_50 : decode cX1_findMost 50 = .ok (.aload_n 0, 1) := by decide +kernel
theorem dX1_findMost_51 : decode cX1_findMost 51 = .ok (.getfield 9, 3) := by decide +kernel
theorem dX1_findMost_54 : decode cX1_findMost 54 = .ok (.iload_n 3, 1) := by decide +kernel
theorem dX1_findMost_55 : decode cX1_findMost 55 = .ok (.bipush 8, 2) := by decide +kernel
theorem dX1_findMost_57 : decode cX1_findMost 57 = .ok (.imul, 1) := by decide +kernel
theorem dX1_findMost_58 : decode cX1_findMost 58 = .ok (.iload 6, 2) := by decide +kernel
theorem dX1_findMost_60 : decode cX1_findMost 60 = .ok (.iadd, 1) := by decide +kernel
theorem dX1_findMost_61 : decode cX1_findMost 61 = .ok (.iaload, 1) := by decide +kernel
theorem dX1_findMost_62 : decode cX1_findMost 62 = .ok (.iconst (-1), 1) := by decide +kernel
theorem dX1_findMost_63 : decode cX1_findMost 63 = .ok (.if_icmp .ne 19, 3) := by decide +kernel
theorem dX1_findMost_66 : decode cX1_findMost 66 = .ok (.aload_n 0, 1) := by decide +kernel
theorem dX1_findMost_67 : decode cX1_findMost 67 = .ok (.getfield 9, 3) := by decide +kernel
theorem dX1_findMost_70 : decode cX1_findMost 70 = .ok (.iload 6, 2) := by decide +kernel
theorem dX1_findMost_72 : decode cX1_findMost 72 = .ok (.bipush 8, 2) := by decide +kernel
theorem dX1_findMost_74 : decode cX1_findMost 74 = .ok (.imul, 1) := by decide +kernel
theorem dX1_findMost_75 : decode cX1_findMost 75 = .ok (.iload_n 3, 1) := by decide +kernel
theorem dX1_findMost_76 : decode cX1_findMost 76 = .ok (.iadd, 1) := by decide +kernel
theorem dX1_findMost_77 : decode cX1_findMost 77 = .ok (.iaload, 1) := by decide +kernel
theorem dX1_findMost_78 : decode cX1_findMost 78 = .ok (.iconst (-1), 1) := by decide +kernel
theorem dX1_findMost_79 : decode cX1_findMost 79 = .ok (.if_icmp .eq 7, 3) := by decide +kernel
theorem dX1_findMost_82 : decode cX1_findMost 82 = .ok (.iconst 1, 1) := by decide +kernel
theorem dX1_findMost_83 : decode cX1_findMost 83 = .ok (.goto 4, 3) := by decide +kernel
theorem dX1_findMost_86 : decode cX1_findMost 86 = .ok (.iconst 0, 1) := by decide +kernel
theorem dX1_findMost_87 : decode cX1_findMost 87 = .ok (.istore 7, 2) := by decide +kernel
theorem dX1_findMost_89 : decode cX1_findMost 89 = .ok (.iload 7, 2) := by decide +kernel
theorem dX1_findMost_91 : decode cX1_findMost 91 = .ok (.ifCond .eq 36, 3) := by decide +kernel
theorem dX1_findMost_94 : decode cX1_findMost 94 = .ok (.iload 4, 2) := by decide +kernel
theorem dX1_findMost_96 : decode cX1_findMost 96 = .ok (.iload 6, 2) := by decide +kernel
theorem dX1_findMost_98 : decode cX1_findMost 98 = .ok (.invokestatic 76, 3) := by decide +kernel
theorem dX1_findMost_101 : decode cX1_findMost 101 = .ok (.ifCond .eq 26, 3) := by decide +kernel
theorem dX1_findMost_104 : decode cX1_findMost 104 = .ok (.iload 5, 2) := by decide +kernel
theorem dX1_findMost_106 : decode cX1_findMost 106 = .ok (.aload_n 0, 1) := by decide +kernel
theorem dX1_findMost_107 : decode cX1_findMost 107 = .ok (.getfield 15, 3) := by decide +kernel
theorem dX1_findMost_110 : decode cX1_findMost 110 = .ok (.iload 4, 2) := by decide +kernel
theorem dX1_findMost_112 : decode cX1_findMost 112 = .ok (.iconst 1, 1) := by decide +kernel
theorem dX1_findMost_113 : decode cX1_findMost 113 = .ok (.iload 6, 2) := by decide +kernel
theorem dX1_findMost_115 : decode cX1_findMost 115 = .ok (.ishl, 1) := by decide +kernel
theorem dX1_findMost_116 : decode cX1_findMost 116 = .ok (.iconst (-1), 1) := by decide +kernel
theorem dX1_findMost_117 : decode cX1_findMost 117 = .ok (.ixor, 1) := by decide +kernel
theorem dX1_findMost_118 : decode cX1_findMost 118 = .ok (.iand, 1) := by decide +kernel
theorem dX1_findMost_119 : decode cX1_findMost 119 = .ok (.iaload, 1) := by decide +kernel
theorem dX1_findMost_120 : decode cX1_findMost 120 = .ok (.iconst 1, 1) := by decide +kernel
theorem dX1_findMost_121 : decode cX1_findMost 121 = .ok (.iadd, 1) := by decide +kernel
theorem dX1_findMost_122 : decode cX1_findMost 122 = .ok (.invokestatic 80, 3) := by decide +kernel
theorem dX1_findMost_125 : decode cX1_findMost 125 = .ok (.istore 5, 2) := by decide +kernel
theorem dX1_findMost_127 : decode cX1_findMost 127 = .ok (.iinc 6 1, 3) := by decide +kernel
theorem dX1_findMost_130 : decode cX1_findMost 130 = .ok (.goto (-86), 3) := by decide +kernel
theorem dX1_findMost_133 : decode cX1_findMost 133 = .ok (.aload_n 0, 1) := by decide +kernel
theorem dX1_findMost_134 : decode cX1_findMost 134 = .ok (.getfield 15, 3) := by decide +kernel
theorem dX1_findMost_137 : decode cX1_findMost 137 = .ok (.iload_n 2, 1) := by decide +kernel
theorem dX1_findMost_138 : decode cX1_findMost 138 = .ok (.iload 5, 2) := by decide +kernel
theorem dX1_findMost_140 : decode cX1_findMost 140 = .ok (.iastore, 1) := by decide +kernel
theorem dX1_findMost_141 : decode cX1_findMost 141 = .ok (.iinc 2 1, 3) := by decide +kernel
theorem dX1_findMost_144 : decode cX1_findMost 144 = .ok (.goto (-135), 3) := by decide +kernel
theorem dX1_findMost_147 : decode cX1_findMost 147 = .ok (.return_, 1) := by decide +kernel
theorem dX2_init_0 : decode cX2_init 0 = .ok (.aload_n 0, 1) := by decide +kernel
theorem dX2_init_1 : decode cX2_init 1 = .ok (.invokespecial 3, 3) := by decide +kernel
theorem dX2_init_4 : decode cX2_init 4 = .ok (.aload_n 0, 1) := by decide +kernel
theorem dX2_init_5 : decode cX2_init 5 = .ok (.bipush 9, 2) := by decide +kernel
theorem dX2_init_7 : decode cX2_init 7 = .ok (.newarray .int, 2) := by decide +kernel
theorem dX2_init_9 : decode cX2_init 9 = .ok (.putfield 9, 3) := by decide +kernel
theorem dX2_init_12 : decode cX2_init 12 = .ok (.aload_n 0, 1) := by decide +kernel
theorem dX2_init_13 : decode cX2_init 13 = .ok (.bipush 96, 2) := by decide +kernel
theorem dX2_init_15 : decode cX2_init 15 = .ok (.newarray .int, 2) := by decide +kernel
theorem dX2_init_17 : decode cX2_init 17 = .ok (.putfield 15, 3) := by decide +kernel
theorem dX2_init_20 : decode cX2_init 20 = .ok (.aload_n 0, 1) := by decide +kernel
theorem dX2_init_21 : decode cX2_init 21 = .ok (.aload_n 1, 1) := by decide +kernel
theorem dX2_init_22 : decode cX2_init 22 = .ok (.putfield 18, 3) := by decide +kernel
theorem dX2_init_25 : decode cX2_init 25 = .ok (.return_, 1) := by decide +kernel
theorem dX2_askMelts_0 : decode cX2_askMelts 0 = .ok (.iload_n 3, 1) := by decide +kernel
theorem dX2_askMelts_1 : decode cX2_askMelts 1 = .ok (.ifCond .lt 9, 3) := by decide +kernel
theorem dX2_askMelts_4 : decode cX2_askMelts 4 = .ok (.iload_n 3, 1) := by decide +kernel
theorem dX2_askMelts_5 : decode cX2_askMelts 5 = .ok (.bipush 6, 2) := by decide +kernel
theorem dX2_askMelts_7 : decode cX2_askMelts 7 = .ok (.if_icmp .lt 5, 3) := by decide +kernel
theorem dX2_askMelts_10 : decode cX2_askMelts 10 = .ok (.iconst 0, 1) := by decide +kernel
theorem dX2_askMelts_11 : decode cX2_askMelts 11 = .ok (.ireturn, 1) := by decide +kernel
theorem dX2_askMelts_12 : decode cX2_askMelts 12 = .ok (.aload_n 1, 1) := by decide +kernel
theorem dX2_askMelts_13 : decode cX2_askMelts 13 = .ok (.ifnull 11, 3) := by decide +kernel
theorem dX2_askMelts_16 : decode cX2_askMelts 16 = .ok (.aload_n 1, 1) := by decide +kernel
theorem dX2_askMelts_17 : decode cX2_askMelts 17 = .ok (.iconst 0, 1) := by decide +kernel
theorem dX2_askMelts_18 : decode cX2_askMelts 18 = .ok (.invokevirtual 22, 3) := by decide +kernel
theorem dX2_askMelts_21 : decode cX2_askMelts 21 = .ok (.ifCond .ne 18, 3) := by decide +kernel
theorem dX2_askMelts_24 : decode cX2_askMelts 24 = .ok (.aload_n 2, 1) := by decide +kernel
theorem dX2_askMelts_25 : decode cX2_askMelts 25 = .ok (.getfield 28, 3) := by decide +kernel
theorem dX2_askMelts_28 : decode cX2_askMelts 28 = .ok (.aload_n 0, 1) := by decide +kernel
theorem dX2_askMelts_29 : decode cX2_askMelts 29 = .ok (.getfield 18, 3) := by decide +kernel
theorem dX2_askMelts_32 : decode cX2_askMelts 32 = .ok (.getfield 34, 3) := by decide +kernel
theorem dX2_askMelts_35 : decode cX2_askMelts 35 = .ok (.iload_n 3, 1) := by decide +kernel
theorem dX2_askMelts_36 : decode cX2_askMelts 36 = .ok (.iaload, 1) := by decide +kernel
theorem dX2_askMelts_37 : decode cX2_askMelts 37 = .ok (.isub, 1) := by decide +kernel
theorem dX2_askMelts_38 : decode cX2_askMelts 38 = .ok (.ireturn, 1) := by decide +kernel
theorem dX2_askMelts_39 : decode cX2_askMelts 39 = .ok (.aload_n 0, 1) := by decide +kernel
theorem dX2_askMelts_40 : decode cX2_askMelts 40 = .ok (.aload_n 2, 1) := by decide +kernel
theorem dX2_askMelts_41 : decode cX2_askMelts 41 = .ok (.iload_n 3, 1) := by decide +kernel
theorem dX2_askMelts_42 : decode cX2_askMelts 42 = .ok (.iconst 0, 1) := by decide +kernel
theorem dX2_askMelts_43 : decode cX2_askMelts 43 = .ok (.invokevirtual 39, 3) := by decide +kernel
theorem dX2_askMelts_46 : decode cX2_askMelts 46 = .ok (.aload_n 0, 1) := by decide +kernel
theorem dX2_askMelts_47 : decode cX2_askMelts 47 = .ok (.aload_n 1, 1) := by decide +kernel
theorem dX2_askMelts_48 : decode cX2_askMelts 48 = .ok (.iconst 0, 1) := by decide +kernel
theorem dX2_askMelts_49 : decode cX2_askMelts 49 = .ok (.aload_n 2, 1) := by decide +kernel
theorem dX2_askMelts_50 : decode cX2_askMelts 50 = .ok (.invokevirtual 43, 3) := by decide +kernel
theorem dX2_askMelts_53 : decode cX2_askMelts 53 = .ok (.i2l, 1) := by decide +kernel
theorem dX2_askMelts_54 : decode cX2_askMelts 54 = .ok (.bipush (-99), 2) := by decide +kernel
theorem dX2_askMelts_56 : decode cX2_askMelts 56 = .ok (.bipush 99, 2) := by decide +kernel
theorem dX2_askMelts_58 : decode cX2_askMelts 58 = .ok (.invokestatic 47, 3) := by decide +kernel
theorem dX2_askMelts_61 : decode cX2_askMelts 61 = .ok (.ireturn, 1) := by decide +kernel
theorem dX2_askBreaks_0 : decode cX2_askBreaks 0 = .ok (.aload_n 1, 1) := by decide +kernel
theorem dX2_askBreaks_1 : decode cX2_askBreaks 1 = .ok (.ifnull 11, 3) := by decide +kernel
theorem dX2_askBreaks_4 : decode cX2_askBreaks 4 = .ok (.aload_n 1, 1) := by decide +kernel
theorem dX2_askBreaks_5 : decode cX2_askBreaks 5 = .ok (.iconst 1, 1) := by decide +kernel
theorem dX2_askBreaks_6 : decode cX2_askBreaks 6 = .ok (.invokevirtual 22, 3) := by decide +kernel
theorem dX2_askBreaks_9 : decode cX2_askBreaks 9 = .ok (.ifCond .ne 5, 3) := by decide +kernel
theorem dX2_askBreaks_12 : decode cX2_askBreaks 12 = .ok (.iconst 3, 1) := by decide +kernel
theorem dX2_askBreaks_13 : decode cX2_askBreaks 13 = .ok (.ireturn, 1) := by decide +kernel
theorem dX2_askBreaks_14 : decode cX2_askBreaks 14 = .ok (.aload_n 0, 1) := by decide +kernel
theorem dX2_askBreaks_15 : decode cX2_askBreaks 15 = .ok (.aload_n 2, 1) := by decide +kernel
theorem dX2_askBreaks_16 : decode cX2_askBreaks 16 = .ok (.iload_n 3, 1) := by decide +kernel
theorem dX2_askBreaks_17 : decode cX2_askBreaks 17 = .ok (.iload 4, 2) := by decide +kernel
theorem dX2_askBreaks_19 : decode cX2_askBreaks 19 = .ok (.invokevirtual 39, 3) := by decide +kernel
theorem dX2_askBreaks_22 : decode cX2_askBreaks 22 = .ok (.aload_n 0, 1) := by decide +kernel
theorem dX2_askBreaks_23 : decode cX2_askBreaks 23 = .ok (.aload_n 1, 1) := by decide +kernel
theorem dX2_askBreaks_24 : decode cX2_askBreaks 24 = .ok (.iconst 1, 1) := by decide +kernel
theorem dX2_askBreaks_25 : decode cX2_askBreaks 25 = .ok (.aload_n 2, 1) := by decide +kernel
theorem dX2_askBreaks_26 : decode cX2_askBreaks 26 = .ok (.invokevirtual 43, 3) := by decide +kernel
theorem dX2_askBreaks_29 : decode cX2_askBreaks 29 = .ok (.i2l, 1) := by decide +kernel
theorem dX2_askBreaks_30 : decode cX2_askBreaks 30 = .ok (.iconst 0, 1) := by decide +kernel
theorem dX2_askBreaks_31 : decode cX2_askBreaks 31 = .ok (.bipush 10, 2) := by decide +kernel
theorem dX2_askBreaks_33 : decode cX2_askBreaks 33 = .ok (.invokestatic 47, 3) := by decide +kernel
theorem dX2_askBreaks_36 : decode cX2_askBreaks 36 = .ok (.ireturn, 1) := by decide +kernel
theorem dX2_askClaims_0 : decode cX2_askClaims 0 = .ok (.aload_n 1, 1) := by decide +kernel
theorem dX2_askClaims_1 : decode cX2_askClaims 1 = .ok (.ifnull 22, 3) := by decide +kernel
theorem dX2_askClaims_4 : decode cX2_askClaims 4 = .ok (.aload_n 1, 1) := by decide +kernel
theorem dX2_askClaims_5 : decode cX2_askClaims 5 = .ok (.iconst 2, 1) := by decide +kernel
theorem dX2_askClaims_6 : decode cX2_askClaims 6 = .ok (.invokevirtual 22, 3) := by decide +kernel
theorem dX2_askClaims_9 : decode cX2_askClaims 9 = .ok (.ifCond .eq 14, 3) := by decide +kernel
theorem dX2_askClaims_12 : decode cX2_askClaims 12 = .ok (.iload 5, 2) := by decide +kernel
theorem dX2_askClaims_14 : decode cX2_askClaims 14 = .ok (.ifCond .lt 9, 3) := by decide +kernel
theorem dX2_askClaims_17 : decode cX2_askClaims 17 = .ok (.iload 5, 2) := by decide +kernel
theorem dX2_askClaims_19 : decode cX2_askClaims 19 = .ok (.iconst 5, 1) := by decide +kernel
theorem dX2_askClaims_20 : decode cX2_askClaims 20 = .ok (.if_icmp .lt 5, 3) := by decide +kernel
theorem dX2_askClaims_23 : decode cX2_askClaims 23 = .ok (.iconst 1, 1) := by decide +kernel
theorem dX2_askClaims_24 : decode cX2_askClaims 24 = .ok (.ireturn, 1) := by decide +kernel
theorem dX2_askClaims_25 : decode cX2_askClaims 25 = .ok (.aload_n 0, 1) := by decide +kernel
theorem dX2_askClaims_26 : decode cX2_askClaims 26 = .ok (.aload_n 2, 1) := by decide +kernel
theorem dX2_askClaims_27 : decode cX2_askClaims 27 = .ok (.iload_n 3, 1) := by decide +kernel
theorem dX2_askClaims_28 : decode cX2_askClaims 28 = .ok (.iload 4, 2) := by decide +kernel
theorem dX2_askClaims_30 : decode cX2_askClaims 30 = .ok (.invokevirtual 39, 3) := by decide +kernel
theorem dX2_askClaims_33 : decode cX2_askClaims 33 = .ok (.aload_n 0, 1) := by decide +kernel
theorem dX2_askClaims_34 : decode cX2_askClaims 34 = .ok (.getfield 9, 3) := by decide +kernel
theorem dX2_askClaims_37 : decode cX2_askClaims 37 = .ok (.bipush 7, 2) := by decide +kernel
theorem dX2_askClaims_39 : decode cX2_askClaims 39 = .ok (.aload_n 0, 1) := by decide +kernel
theorem dX2_askClaims_40 : decode cX2_askClaims 40 = .ok (.getfield 18, 3) := by decide +kernel
theorem dX2_askClaims_43 : decode cX2_askClaims 43 = .ok (.getfield 51, 3) := by decide +kernel
theorem dX2_askClaims_46 : decode cX2_askClaims 46 = .ok (.iload 5, 2) := by decide +kernel
theorem dX2_askClaims_48 : decode cX2_askClaims 48 = .ok (.iaload, 1) := by decide +kernel
theorem dX2_askClaims_49 : decode cX2_askClaims 49 = .ok (.iastore, 1) := by decide +kernel
theorem dX2_askClaims_50 : decode cX2_askClaims 50 = .ok (.aload_n 0, 1) := by decide +kernel
theorem dX2_askClaims_51 : decode cX2_askClaims 51 = .ok (.getfield 9, 3) := by decide +kernel
theorem dX2_askClaims_54 : decode cX2_askClaims 54 = .ok (.bipush 8, 2) := by decide +kernel
theorem dX2_askClaims_56 : decode cX2_askClaims 56 = .ok (.iload 5, 2) := by decide +kernel
theorem dX2_askClaims_58 : decode cX2_askClaims 58 = .ok (.iastore, 1) := by decide +kernel
theorem dX2_askClaims_59 : decode cX2_askClaims 59 = .ok (.aload_n 0, 1) := by decide +kernel
theorem dX2_askClaims_60 : decode cX2_askClaims 60 = .ok (.aload_n 1, 1) := by decide +kernel
theorem dX2_askClaims_61 : decode cX2_askClaims 61 = .ok (.iconst 2, 1) := by decide +kernel
theorem dX2_askClaims_62 : decode cX2_askClaims 62 = .ok (.aload_n 2, 1) := by decide +kernel
theorem dX2_askClaims_63 : decode cX2_askClaims 63 = .ok (.invokevirtual 43, 3) := by decide +kernel
theorem dX2_askClaims_66 : decode cX2_askClaims 66 = .ok (.i2l, 1) := by decide +kernel
theorem dX2_askClaims_67 : decode cX2_askClaims 67 = .ok (.bipush (-99), 2) := by decide +kernel
theorem dX2_askClaims_69 : decode cX2_askClaims 69 = .ok (.bipush 99, 2) := by decide +kernel
theorem dX2_askClaims_71 : decode cX2_askClaims 71 = .ok (.invokestatic 47, 3) := by decide +kernel
theorem dX2_askClaims_74 : decode cX2_askClaims 74 = .ok (.ireturn, 1) := by decide +kernel
theorem dX2_learn_0 : decode cX2_learn 0 = .ok (.iload_n 2, 1) := by decide +kernel
theorem dX2_learn_1 : decode cX2_learn 1 = .ok (.ifCond .lt 9, 3) := by decide +kernel
theorem dX2_learn_4 : decode cX2_learn 4 = .ok (.iload_n 2, 1) := by decide +kernel
theorem dX2_learn_5 : decode cX2_learn 5 = .ok (.bipush 6, 2) := by decide +kernel
theorem dX2_learn_7 : decode cX2_learn 7 = .ok (.if_icmp .lt 4, 3) := by decide +kernel
theorem dX2_learn_10 : decode cX2_learn 10 = .ok (.return_, 1) := by decide +kernel
theorem dX2_learn_11 : decode cX2_learn 11 = .ok (.aload_n 0, 1) := by decide +kernel
theorem dX2_learn_12 : decode cX2_learn 12 = .ok (.getfield 9, 3) := by decide +kernel
theorem dX2_learn_15 : decode cX2_learn 15 = .ok (.iconst 0, 1) := by decide +kernel
theorem dX2_learn_16 : decode cX2_learn 16 = .ok (.aload_n 1, 1) := by decide +kernel
theorem dX2_learn_17 : decode cX2_learn 17 = .ok (.getfield 54, 3) := by decide +kernel
theorem dX2_learn_20 : decode cX2_learn 20 = .ok (.iastore, 1) := by decide +kernel
theorem dX2_learn_21 : decode cX2_learn 21 = .ok (.aload_n 0, 1) := by decide +kernel
theorem dX2_learn_22 : decode cX2_learn 22 = .ok (.getfield 9, 3) := by decide +kernel
theorem dX2_learn_25 : decode cX2_learn 25 = .ok (.iconst 1, 1) := by decide +kernel
theorem dX2_learn_26 : decode cX2_learn 26 = .ok (.aload_n 1, 1) := by decide +kernel
theorem dX2_learn_27 : decode cX2_learn 27 = .ok (.getfield 28, 3) := by decide +kernel
theorem dX2_learn_30 : decode cX2_learn 30 = .ok (.iastore, 1) := by decide +kernel
theorem dX2_learn_31 : decode cX2_learn 31 = .ok (.aload_n 0, 1) := by decide +kernel
theorem dX2_learn_32 : decode cX2_learn 32 = .ok (.getfield 9, 3) := by decide +kernel
theorem dX2_learn_35 : decode cX2_learn 35 = .ok (.iconst 2, 1) := by decide +kernel
theorem dX2_learn_36 : decode cX2_learn 36 = .ok (.aload_n 0, 1) := by decide +kernel
theorem dX2_learn_37 : decode cX2_learn 37 = .ok (.getfield 18, 3) := by decide +kernel
theorem dX2_learn_40 : decode cX2_learn 40 = .ok (.getfield 34, 3) := by decide +kernel
theorem dX2_learn_43 : decode cX2_learn 43 = .ok (.iload_n 2, 1) := by decide +kernel
theorem dX2_learn_44 : decode cX2_learn 44 = .ok (.iaload, 1) := by decide +kernel
theorem dX2_learn_45 : decode cX2_learn 45 = .ok (.iastore, 1) := by decide +kernel
theorem dX2_learn_46 : decode cX2_learn 46 = .ok (.aload_n 0, 1) := by decide +kernel
theorem dX2_learn_47 : decode cX2_learn 47 = .ok (.getfield 9, 3) := by decide +kernel
theorem dX2_learn_50 : decode cX2_learn 50 = .ok (.iconst 3, 1) := by decide +kernel
theorem dX2_learn_51 : decode cX2_learn 51 = .ok (.aload_n 1, 1) := by decide +kernel
theorem dX2_learn_52 : decode cX2_learn 52 = .ok (.getfield 57, 3) := by decide +kernel
theorem dX2_learn_55 : decode cX2_learn 55 = .ok (.iload_n 2, 1) := by decide +kernel
theorem dX2_learn_56 : decode cX2_learn 56 = .ok (.iaload, 1) := by decide +kernel
theorem dX2_learn_57 : decode cX2_learn 57 = .ok (.iastore, 1) := by decide +kernel
theorem dX2_learn_58 : decode cX2_learn 58 = .ok (.aload_n 0, 1) := by decide +kernel
theorem dX2_learn_59 : decode cX2_learn 59 = .ok (.getfield 9, 3) := by decide +kernel
theorem dX2_learn_62 : decode cX2_learn 62 = .ok (.iconst 4, 1) := by decide +kernel
theorem dX2_learn_63 : decode cX2_learn 63 = .ok (.iload_n 2, 1) := by decide +kernel
theorem dX2_learn_64 : decode cX2_learn 64 = .ok (.iastore, 1) := by decide +kernel
theorem dX2_learn_65 : decode cX2_learn 65 = .ok (.aload_n 0, 1) := by decide +kernel
theorem dX2_learn_66 : decode cX2_learn 66 = .ok (.getfield 9, 3) := by decide +kernel
theorem dX2_learn_69 : decode cX2_learn 69 = .ok (.iconst 5, 1) := by decide +kernel
theorem dX2_learn_70 : decode cX2_learn 70 = .ok (.aload_n 0, 1) := by decide +kernel
theorem dX2_learn_71 : decode cX2_learn 71 = .ok (.getfield 18, 3) := by decide +kernel
theorem dX2_learn_74 : decode cX2_learn 74 = .ok (.getfield 60, 3) := by decide +kernel
theorem dX2_learn_77 : decode cX2_learn 77 = .ok (.iload_n 2, 1) := by decide +kernel
theorem dX2_learn_78 : decode cX2_learn 78 = .ok (.iaload, 1) := by decide +kernel
theorem dX2_learn_79 : decode cX2_learn 79 = .ok (.iastore, 1) := by decide +kernel
theorem dX2_learn_80 : decode cX2_learn 80 = .ok (.aload_n 0, 1) := by decide +kernel
theorem dX2_learn_81 : decode cX2_learn 81 = .ok (.getfield 9, 3) := by decide +kernel
theorem dX2_learn_84 : decode cX2_learn 84 = .ok (.bipush 6, 2) := by decide +kernel
theorem dX2_learn_86 : decode cX2_learn 86 = .ok (.iload_n 3, 1) := by decide +kernel
theorem dX2_learn_87 : decode cX2_learn 87 = .ok (.iastore, 1) := by decide +kernel
theorem dX2_learn_88 : decode cX2_learn 88 = .ok (.return_, 1) := by decide +kernel
theorem dX2_run_0 : decode cX2_run 0 = .ok (.aload_n 1, 1) := by decide +kernel
theorem dX2_run_1 : decode cX2_run 1 = .ok (.getfield 63, 3) := by decide +kernel
theorem dX2_run_4 : decode cX2_run 4 = .ok (.iload_n 2, 1) := by decide +kernel
theorem dX2_run_5 : decode cX2_run 5 = .ok (.iaload, 1) := by decide +kernel
theorem dX2_run_6 : decode cX2_run 6 = .ok (.istore 4, 2) := by decide +kernel
theorem dX2_run_8 : decode cX2_run 8 = .ok (.iconst 0, 1) := by decide +kernel
theorem dX2_run_9 : decode cX2_run 9 = .ok (.istore 5, 2) := by decide +kernel
theorem dX2_run_11 : decode cX2_run 11 = .ok (.iconst 0, 1) := by decide +kernel
theorem dX2_run_12 : decode cX2_run 12 = .ok (.istore 6, 2) := by decide +kernel
theorem dX2_run_14 : decode cX2_run 14 = .ok (.iload 6, 2) := by decide +kernel
theorem dX2_run_16 : decode cX2_run 16 = .ok (.sipush 320, 3) := by decide +kernel
theorem dX2_run_19 : decode cX2_run 19 = .ok (.if_icmp .ge 328, 3) := by decide +kernel
theorem dX2_run_22 : decode cX2_run 22 = .ok (.iload 4, 2) := by decide +kernel
theorem dX2_run_24 : decode cX2_run 24 = .ok (.ifCond .lt 323, 3) := by decide +kernel
theorem dX2_run_27 : decode cX2_run 27 = .ok (.iload 4, 2) := by decide +kernel
theorem dX2_run_29 : decode cX2_run 29 = .ok (.sipush 320, 3) := by decide +kernel
theorem dX2_run_32 : decode cX2_run 32 = .ok (.if_icmp .ge 315, 3) := by decide +kernel
theorem dX2_run_35 : decode cX2_run 35 = .ok (.iload 5, 2) := by decide +kernel
theorem dX2_run_37 : decode cX2_run 37 = .ok (.bipush 96, 2) := by decide +kernel
theorem dX2_run_39 : decode cX2_run 39 = .ok (.if_icmp .ge 308, 3) := by decide +kernel
theorem dX2_run_42 : decode cX2_run 42 = .ok (.aload_n 1, 1) := by decide +kernel
theorem dX2_run_43 : decode cX2_run 43 = .ok (.getfield 66, 3) := by decide +kernel
theorem dX2_run_46 : decode cX2_run 46 = .ok (.iload 4, 2) := by decide +kernel
theorem dX2_run_48 : decode cX2_run 48 = .ok (.iaload, 1) := by decide +kernel
theorem dX2_run_49 : decode cX2_run 49 = .ok (.istore 7, 2) := by decide +kernel
theorem dX2_run_51 : decode cX2_run 51 = .ok (.aload_n 1, 1) := by decide +kernel
theorem dX2_run_52 : decode cX2_run 52 = .ok (.getfield 69, 3) := by decide +kernel
theorem dX2_run_55 : decode cX2_run 55 = .ok (.iload 4, 2) := by decide +kernel
theorem dX2_run_57 : decode cX2_run 57 = .ok (.iaload, 1) := by decide +kernel
theorem dX2_run_58 : decode cX2_run 58 = .ok (.istore 8, 2) := by decide +kernel
theorem dX2_run_60 : decode cX2_run 60 = .ok (.iinc 4 1, 3) := by decide +kernel
theorem dX2_run_63 : decode cX2_run 63 = .ok (.iload 7, 2) := by decide +kernel
theorem dX2_run_65 : decode cX2_run 65 = .ok (.bipush 32, 2) := by decide +kernel
theorem dX2_run_67 : decode cX2_run 67 = .ok (.if_icmp .ne 18, 3) := by decide +kernel
theorem dX2_run_70 : decode cX2_run 70 = .ok (.aload_n 0, 1) := by decide +kernel
theorem dX2_run_71 : decode cX2_run 71 = .ok (.getfield 15, 3) := by decide +kernel
theorem dX2_run_74 : decode cX2_run 74 = .ok (.iload 5, 2) := by decide +kernel
theorem dX2_run_76 : decode cX2_run 76 = .ok (.iload 8, 2) := by decide +kernel
theorem dX2_run_78 : decode cX2_run 78 = .ok (.iastore, 1) := by decide +kernel
theorem dX2_run_79 : decode cX2_run 79 = .ok (.iinc 5 1, 3) := by decide +kernel
theorem dX2_run_82 : decode cX2_run 82 = .ok (.goto 259, 3) := by decide +kernel
theorem dX2_run_85 : decode cX2_run 85 = .ok (.iload 7, 2) := by decide +kernel
theorem dX2_run_87 : decode cX2_run 87 = .ok (.bipush 10, 2) := by decide +kernel
theorem dX2_run_89 : decode cX2_run 89 = .ok (.if_icmp .ne 42, 3) := by decide +kernel
theorem dX2_run_92 : decode cX2_run 92 = .ok (.aload_n 0, 1) := by decide +kernel
theorem dX2_run_93 : decode cX2_run 93 = .ok (.getfield 15, 3) := by decide +kernel
theorem dX2_run_96 : decode cX2_run 96 = .ok (.iload 5, 2) := by decide +kernel
theorem dX2_run_98 : decode cX2_run 98 = .ok (.iload 8, 2) := by decide +kernel
theorem dX2_run_100 : decode cX2_run 100 = .ok (.ifCond .lt 23, 3) := by decide +kernel
theorem dX2_run_103 : decode cX2_run 103 = .ok (.iload 8, 2) := by decide +kernel
theorem dX2_run_105 : decode cX2_run 105 = .ok (.aload_n 0, 1) := by decide +kernel
theorem dX2_run_106 : decode cX2_run 106 = .ok (.getfield 9, 3) := by decide +kernel
theorem dX2_run_109 : decode cX2_run 109 = .ok (.arraylength, 1) := by decide +kernel
theorem dX2_run_110 : decode cX2_run 110 = .ok (.if_icmp .ge 13, 3) := by decide +kernel
theorem dX2_run_113 : decode cX2_run 113 = .ok (.aload_n 0, 1) := by decide +kernel
theorem dX2_run_114 : decode cX2_run 114 = .ok (.getfield 9, 3) := by decide +kernel
theorem dX2_run_117 : decode cX2_run 117 = .ok (.iload 8, 2) := by decide +kernel
theorem dX2_run_119 : decode cX2_run 119 = .ok (.iaload, 1) := by decide +kernel
theorem dX2_run_120 : decode cX2_run 120 = .ok (.goto 4, 3) := by decide +kernel
theorem dX2_run_123 : decode cX2_run 123 = .ok (.iconst 0, 1) := by decide +kernel
theorem dX2_run_124 : decode cX2_run 124 = .ok (.iastore, 1) := by decide +kernel
theorem dX2_run_125 : decode cX2_run 125 = .ok (.iinc 5 1, 3) := by decide +kernel
theorem dX2_run_128 : decode cX2_run 128 = .ok (.goto 213, 3) := by decide +kernel
theorem dX2_run_131 : decode cX2_run 131 = .ok (.iload 7, 2) := by decide +kernel
theorem dX2_run_133 : decode cX2_run 133 = .ok (.bipush 24, 2) := by decide +kernel
theorem dX2_run_135 : decode cX2_run 135 = .ok (.if_icmp .ne 10, 3) := by decide +kernel
theorem dX2_run_138 : decode cX2_run 138 = .ok (.iload 8, 2) := by decide +kernel
theorem dX2_run_140 : decode cX2_run 140 = .ok (.istore 4, 2) := by decide +kernel
theorem dX2_run_142 : decode cX2_run 142 = .ok (.goto 199, 3) := by decide +kernel
theorem dX2_run_145 : decode cX2_run 145 = .ok (.iload 7, 2) := by decide +kernel
theorem dX2_run_147 : decode cX2_run 147 = .ok (.bipush 53, 2) := by decide +kernel
theorem dX2_run_149 : decode cX2_run 149 = .ok (.if_icmp .eq 198, 3) := by decide +kernel
theorem dX2_run_152 : decode cX2_run 152 = .ok (.iload 5, 2) := by decide +kernel
theorem dX2_run_154 : decode cX2_run 154 = .ok (.iconst 1, 1) := by decide +kernel
theorem dX2_run_155 : decode cX2_run 155 = .ok (.if_icmp .ge 6, 3) := by decide +kernel
theorem dX2_run_158 : decode cX2_run 158 = .ok (.goto 189, 3) := by decide +kernel
theorem dX2_run_161 : decode cX2_run 161 = .ok (.iload 7, 2) := by decide +kernel
theorem dX2_run_163 : decode cX2_run 163 = .ok (.bipush 23, 2) := by decide +kernel
theorem dX2_run_165 : decode cX2_run 165 = .ok (.if_icmp .ne 28, 3) := by decide +kernel
theorem dX2_run_168 : decode cX2_run 168 = .ok (.iinc 5 (-1), 3) := by decide +kernel
theorem dX2_run_171 : decode cX2_run 171 = .ok (.aload_n 0, 1) := by decide +kernel
theorem dX2_run_172 : decode cX2_run 172 = .ok (.getfield 15, 3) := by decide +kernel
theorem dX2_run_175 : decode cX2_run 175 = .ok (.iload 5, 2) := by decide +kernel
theorem dX2_run_177 : decode cX2_run 177 = .ok (.iaload, 1) := by decide +kernel
theorem dX2_run_178 : decode cX2_run 178 = .ok (.ifCond .ne 8, 3) := by decide +kernel
theorem dX2_run_181 : decode cX2_run 181 = .ok (.iload 8, 2) := by decide +kernel
theorem dX2_run_183 : decode cX2_run 183 = .ok (.goto 5, 3) := by decide +kernel
theorem dX2_run_186 : decode cX2_run 186 = .ok (.iload 4, 2) := by decide +kernel
theorem dX2_run_188 : decode cX2_run 188 = .ok (.istore 4, 2) := by decide +kernel
theorem dX2_run_190 : decode cX2_run 190 = .ok (.goto 151, 3) := by decide +kernel
theorem dX2_run_193 : decode cX2_run 193 = .ok (.iload 7, 2) := by decide +kernel
theorem dX2_run_195 : decode cX2_run 195 = .ok (.bipush 55, 2) := by decide +kernel
theorem dX2_run_197 : decode cX2_run 197 = .ok (.if_icmp .ne 25, 3) := by decide +kernel
theorem dX2_run_200 : decode cX2_run 200 = .ok (.aload_n 0, 1) := by decide +kernel
theorem dX2_run_201 : decode cX2_run 201 = .ok (.getfield 15, 3) := by decide +kernel
theorem dX2_run_204 : decode cX2_run 204 = .ok (.iload 5, 2) := by decide +kernel
theorem dX2_run_206 : decode cX2_run 206 = .ok (.iconst 1, 1) := by decide +kernel
theorem dX2_run_207 : decode cX2_run 207 = .ok (.isub, 1) := by decide +kernel
theorem dX2_run_208 : decode cX2_run 208 = .ok (.aload_n 0, 1) := by decide +kernel
theorem dX2_run_209 : decode cX2_run 209 = .ok (.getfield 15, 3) := by decide +kernel
theorem dX2_run_212 : decode cX2_run 212 = .ok (.iload 5, 2) := by decide +kernel
theorem dX2_run_214 : decode cX2_run 214 = .ok (.iconst 1, 1) := by decide +kernel
theorem dX2_run_215 : decode cX2_run 215 = .ok (.isub, 1) := by decide +kernel
theorem dX2_run_216 : decode cX2_run 216 = .ok (.iaload, 1) := by decide +kernel
theorem dX2_run_217 : decode cX2_run 217 = .ok (.ineg, 1) := by decide +kernel
theorem dX2_run_218 : decode cX2_run 218 = .ok (.iastore, 1) := by decide +kernel
theorem dX2_run_219 : decode cX2_run 219 = .ok (.goto 122, 3) := by decide +kernel
theorem dX2_run_222 : decode cX2_run 222 = .ok (.iload 7, 2) := by decide +kernel
theorem dX2_run_224 : decode cX2_run 224 = .ok (.bipush 28, 2) := by decide +kernel
theorem dX2_run_226 : decode cX2_run 226 = .ok (.if_icmp .ne 26, 3) := by decide +kernel
theorem dX2_run_229 : decode cX2_run 229 = .ok (.aload_n 0, 1) := by decide +kernel
theorem dX2_run_230 : decode cX2_run 230 = .ok (.getfield 15, 3) := by decide +kernel
theorem dX2_run_233 : decode cX2_run 233 = .ok (.iload 5, 2) := by decide +kernel
theorem dX2_run_235 : decode cX2_run 235 = .ok (.iconst 1, 1) := by decide +kernel
theorem dX2_run_236 : decode cX2_run 236 = .ok (.isub, 1) := by decide +kernel
theorem dX2_run_237 : decode cX2_run 237 = .ok (.iconst 1, 1) := by decide +kernel
theorem dX2_run_238 : decode cX2_run 238 = .ok (.aload_n 0, 1) := by decide +kernel
theorem dX2_run_239 : decode cX2_run 239 = .ok (.getfield 15, 3) := by decide +kernel
theorem dX2_run_242 : decode cX2_run 242 = .ok (.iload 5, 2) := by decide +kernel
theorem dX2_run_244 : decode cX2_run 244 = .ok (.iconst 1, 1) := by decide +kernel
theorem dX2_run_245 : decode cX2_run 245 = .ok (.isub, 1) := by decide +kernel
theorem dX2_run_246 : decode cX2_run 246 = .ok (.iaload, 1) := by decide +kernel
theorem dX2_run_247 : decode cX2_run 247 = .ok (.isub, 1) := by decide +kernel
theorem dX2_run_248 : decode cX2_run 248 = .ok (.iastore, 1) := by decide +kernel
theorem dX2_run_249 : decode cX2_run 249 = .ok (.goto 92, 3) := by decide +kernel
theorem dX2_run_252 : decode cX2_run 252 = .ok (.iload 7, 2) := by decide +kernel
theorem dX2_run_254 : decode cX2_run 254 = .ok (.bipush 30, 2) := by decide +kernel
theorem dX2_run_256 : decode cX2_run 256 = .ok (.if_icmp .ne 36, 3) := by decide +kernel
theorem dX2_run_259 : decode cX2_run 259 = .ok (.aload_n 0, 1) := by decide +kernel
theorem dX2_run_260 : decode cX2_run 260 = .ok (.getfield 15, 3) := by decide +kernel
theorem dX2_run_263 : decode cX2_run 263 = .ok (.iload 5, 2) := by decide +kernel
theorem dX2_run_265 : decode cX2_run 265 = .ok (.iconst 1, 1) := by decide +kernel
theorem dX2_run_266 : decode cX2_run 266 = .ok (.isub, 1) := by decide +kernel
theorem dX2_run_267 : decode cX2_run 267 = .ok (.aload_n 3, 1) := by decide +kernel
theorem dX2_run_268 : decode cX2_run 268 = .ok (.aload_n 0, 1) := by decide +kernel
theorem dX2_run_269 : decode cX2_run 269 = .ok (.getfield 15, 3) := by decide +kernel
theorem dX2_run_272 : decode cX2_run 272 = .ok (.iload 5, 2) := by decide +kernel
theorem dX2_run_274 : decode cX2_run 274 = .ok (.iconst 1, 1) := by decide +kernel
theorem dX2_run_275 : decode cX2_run 275 = .ok (.isub, 1) := by decide +kernel
theorem dX2_run_276 : decode cX2_run 276 = .ok (.iaload, 1) := by decide +kernel
theorem dX2_run_277 : decode cX2_run 277 = .ok (.invokevirtual 72, 3) := by decide +kernel
theorem dX2_run_280 : decode cX2_run 280 = .ok (.ifCond .eq 7, 3) := by decide +kernel
theorem dX2_run_283 : decode cX2_run 283 = .ok (.iconst 1, 1) := by decide +kernel
theorem dX2_run_284 : decode cX2_run 284 = .ok (.goto 4, 3) := by decide +kernel
theorem dX2_run_287 : decode cX2_run 287 = .ok (.iconst 0, 1) := by decide +kernel
theorem dX2_run_288 : decode cX2_run 288 = .ok (.iastore, 1) := by decide +kernel
theorem dX2_run_289 : decode cX2_run 289 = .ok (.goto 52, 3) := by decide +kernel
theorem dX2_run_292 : decode cX2_run 292 = .ok (.iload 5, 2) := by decide +kernel
theorem dX2_run_294 : decode cX2_run 294 = .ok (.iconst 2, 1) := by decide +kernel
theorem dX2_run_295 : decode cX2_run 295 = .ok (.if_icmp .ge 6, 3) := by decide +kernel
theorem dX2_run_298 : decode cX2_run 298 = .ok (.goto 49, 3) := by decide +kernel
theorem dX2_run_301 : decode cX2_run 301 = .ok (.iinc 5 (-1), 3) := by decide +kernel
theorem dX2_run_304 : decode cX2_run 304 = .ok (.aload_n 0, 1) := by decide +kernel
theorem dX2_run_305 : decode cX2_run 305 = .ok (.getfield 15, 3) := by decide +kernel
theorem dX2_run_308 : decode cX2_run 308 = .ok (.iload 5, 2) := by decide +kernel
theorem dX2_run_310 : decode cX2_run 310 = .ok (.iconst 1, 1) := by decide +kernel
theorem dX2_run_311 : decode cX2_run 311 = .ok (.isub, 1) := by decide +kernel
theorem dX2_run_312 : decode cX2_run 312 = .ok (.iload 7, 2) := by decide +kernel
theorem dX2_run_314 : decode cX2_run 314 = .ok (.aload_n 0, 1) := by decide +kernel
theorem dX2_run_315 : decode cX2_run 315 = .ok (.getfield 15, 3) := by decide +kernel
theorem dX2_run_318 : decode cX2_run 318 = .ok (.iload 5, 2) := by decide +kernel
theorem dX2_run_320 : decode cX2_run 320 = .ok (.iconst 1, 1) := by decide +kernel
theorem dX2_run_321 : decode cX2_run 321 = .ok (.isub, 1) := by decide +kernel
theorem dX2_run_322 : decode cX2_run 322 = .ok (.iaload, 1) := by decide +kernel
theorem dX2_run_323 : decode cX2_run 323 = .ok (.aload_n 0, 1) := by decide +kernel
theorem dX2_run_324 : decode cX2_run 324 = .ok (.getfield 15, 3) := by decide +kernel
theorem dX2_run_327 : decode cX2_run 327 = .ok (.iload 5, 2) := by decide +kernel
theorem dX2_run_329 : decode cX2_run 329 = .ok (.iaload, 1) := by decide +kernel
theorem dX2_run_330 : decode cX2_run 330 = .ok (.invokestatic 75, 3) := by decide +kernel
theorem dX2_run_333 : decode cX2_run 333 = .ok (.ldc 79, 2) := by decide +kernel
theorem dX2_run_335 : decode cX2_run 335 = .ok (.ldc 80, 2) := by decide +kernel
theorem dX2_run_337 : decode cX2_run 337 = .ok (.invokestatic 47, 3) := by decide +kernel
theorem dX2_run_340 : decode cX2_run 340 = .ok (.iastore, 1) := by decide +kernel
theorem dX2_run_341 : decode cX2_run 341 = .ok (.iinc 6 1, 3) := by decide +kernel
theorem dX2_run_344 : decode cX2_run 344 = .ok (.goto (-330), 3) := by decide +kernel
theorem dX2_run_347 : decode cX2_run 347 = .ok (.iload 5, 2) := by decide +kernel
theorem dX2_run_349 : decode cX2_run 349 = .ok (.ifCond .le 15, 3) := by decide +kernel
theorem dX2_run_352 : decode cX2_run 352 = .ok (.aload_n 0, 1) := by decide +kernel
theorem dX2_run_353 : decode cX2_run 353 = .ok (.getfield 15, 3) := by decide +kernel
theorem dX2_run_356 : decode cX2_run 356 = .ok (.iload 5, 2) := by decide +kernel
theorem dX2_run_358 : decode cX2_run 358 = .ok (.iconst 1, 1) := by decide +kernel
theorem dX2_run_359 : decode cX2_run 359 = .ok (.isub, 1) := by decide +kernel
theorem dX2_run_360 : decode cX2_run 360 = .ok (.iaload, 1) := by decide +kernel
theorem dX2_run_361 : decode cX2_run 361 = .ok (.goto 4, 3) := by decide +kernel
theorem dX2_run_364 : decode cX2_run 364 = .ok (.iconst 0, 1) := by decide +kernel
theorem dX2_run_365 : decode cX2_run 365 = .ok (.ireturn, 1) := by decide +kernel
theorem dX2_work_0 : decode cX2_work 0 = .ok (.iload_n 0, 1) := by decide +kernel
theorem dX2_work_1 : decode cX2_work 1 = .ok (.tableswitch 246 26 51 #[186, 181, 246, 150, 246, 246, 246, 246, 246, 246, 246, 246, 246, 246, 191, 202, 213, 224, 119, 125, 131, 137, 246, 246, 246, 235], 119) := by decide +kernel
theorem dX2_work_120 : decode cX2_work 120 = .ok (.iload_n 1, 1) := by decide +kernel
theorem dX2_work_121 : decode cX2_work 121 = .ok (.i2l, 1) := by decide +kernel
theorem dX2_work_122 : decode cX2_work 122 = .ok (.iload_n 2, 1) := by decide +kernel
theorem dX2_work_123 : decode cX2_work 123 = .ok (.i2l, 1) := by decide +kernel
theorem dX2_work_124 : decode cX2_work 124 = .ok (.ladd, 1) := by decide +kernel
theorem dX2_work_125 : decode cX2_work 125 = .ok (.lreturn, 1) := by decide +kernel
theorem dX2_work_126 : decode cX2_work 126 = .ok (.iload_n 1, 1) := by decide +kernel
theorem dX2_work_127 : decode cX2_work 127 = .ok (.i2l, 1) := by decide +kernel
theorem dX2_work_128 : decode cX2_work 128 = .ok (.iload_n 2, 1) := by decide +kernel
theorem dX2_work_129 : decode cX2_work 129 = .ok (.i2l, 1) := by decide +kernel
theorem dX2_work_130 : decode cX2_work 130 = .ok (.lsub, 1) := by decide +kernel
theorem dX2_work_131 : decode cX2_work 131 = .ok (.lreturn, 1) := by decide +kernel
theorem dX2_work_132 : decode cX2_work 132 = .ok (.iload_n 1, 1) := by decide +kernel
theorem dX2_work_133 : decode cX2_work 133 = .ok (.i2l, 1) := by decide +kernel
theorem dX2_work_134 : decode cX2_work 134 = .ok (.iload_n 2, 1) := by decide +kernel
theorem dX2_work_135 : decode cX2_work 135 = .ok (.i2l, 1) := by decide +kernel
theorem dX2_work_136 : decode cX2_work 136 = .ok (.lmul, 1) := by decide +kernel
theorem dX2_work_137 : decode cX2_work 137 = .ok (.lreturn, 1) := by decide +kernel
theorem dX2_work_138 : decode cX2_work 138 = .ok (.iload_n 2, 1) := by decide +kernel
theorem dX2_work_139 : decode cX2_work 139 = .ok (.ifCond .ne 7, 3) := by decide +kernel
theorem dX2_work_142 : decode cX2_work 142 = .ok (.lconst 0, 1) := by decide +kernel
theorem dX2_work_143 : decode cX2_work 143 = .ok (.goto 7, 3) := by decide +kernel
theorem dX2_work_146 : decode cX2_work 146 = .ok (.iload_n 1, 1) := by decide +kernel
theorem dX2_work_147 : decode cX2_work 147 = .ok (.iload_n 2, 1) := by decide +kernel
theorem dX2_work_148 : decode cX2_work 148 = .ok (.idiv, 1) := by decide +kernel
theorem dX2_work_149 : decode cX2_work 149 = .ok (.i2l, 1) := by decide +kernel
theorem dX2_work_150 : decode cX2_work 150 = .ok (.lreturn, 1) := by decide +kernel
theorem dX2_work_151 : decode cX2_work 151 = .ok (.iload_n 1, 1) := by decide +kernel
theorem dX2_work_152 : decode cX2_work 152 = .ok (.ifCond .lt 11, 3) := by decide +kernel
theorem dX2_work_155 : decode cX2_work 155 = .ok (.iload_n 1, 1) := by decide +kernel
theorem dX2_work_156 : decode cX2_work 156 = .ok (.getstatic 81, 3) := by decide +kernel
theorem dX2_work_159 : decode cX2_work 159 = .ok (.arraylength, 1) := by decide +kernel
theorem dX2_work_160 : decode cX2_work 160 = .ok (.if_icmp .lt 7, 3) := by decide +kernel
theorem dX2_work_163 : decode cX2_work 163 = .ok (.lconst 0, 1) := by decide +kernel
theorem dX2_work_164 : decode cX2_work 164 = .ok (.goto 17, 3) := by decide +kernel
theorem dX2_work_167 : decode cX2_work 167 = .ok (.iload_n 2, 1) := by decide +kernel
theorem dX2_work_168 : decode cX2_work 168 = .ok (.invokestatic 84, 3) := by decide +kernel
theorem dX2_work_171 : decode cX2_work 171 = .ok (.getstatic 81, 3) := by decide +kernel
theorem dX2_work_174 : decode cX2_work 174 = .ok (.iload_n 1, 1) := by decide +kernel
theorem dX2_work_175 : decode cX2_work 175 = .ok (.iaload, 1) := by decide +kernel
theorem dX2_work_176 : decode cX2_work 176 = .ok (.idiv, 1) := by decide +kernel
theorem dX2_work_177 : decode cX2_work 177 = .ok (.bipush 10, 2) := by decide +kernel
theorem dX2_work_179 : decode cX2_work 179 = .ok (.irem, 1) := by decide +kernel
theorem dX2_work_180 : decode cX2_work 180 = .ok (.i2l, 1) := by decide +kernel
theorem dX2_work_181 : decode cX2_work 181 = .ok (.lreturn, 1) := by decide +kernel
theorem dX2_work_182 : decode cX2_work 182 = .ok (.iload_n 1, 1) := by decide +kernel
theorem dX2_work_183 : decode cX2_work 183 = .ok (.iload_n 2, 1) := by decide +kernel
theorem dX2_work_184 : decode cX2_work 184 = .ok (.iand, 1) := by decide +kernel
theorem dX2_work_185 : decode cX2_work 185 = .ok (.i2l, 1) := by decide +kernel
theorem dX2_work_186 : decode cX2_work 186 = .ok (.lreturn, 1) := by decide +kernel
theorem dX2_work_187 : decode cX2_work 187 = .ok (.iload_n 1, 1) := by decide +kernel
theorem dX2_work_188 : decode cX2_work 188 = .ok (.iload_n 2, 1) := by decide +kernel
theorem dX2_work_189 : decode cX2_work 189 = .ok (.ior, 1) := by decide +kernel
theorem dX2_work_190 : decode cX2_work 190 = .ok (.i2l, 1) := by decide +kernel
theorem dX2_work_191 : decode cX2_work 191 = .ok (.lreturn, 1) := by decide +kernel
theorem dX2_work_192 : decode cX2_work 192 = .ok (.iload_n 1, 1) := by decide +kernel
theorem dX2_work_193 : decode cX2_work 193 = .ok (.iload_n 2, 1) := by decide +kernel
theorem dX2_work_194 : decode cX2_work 194 = .ok (.if_icmp .ge 7, 3) := by decide +kernel
theorem dX2_work_197 : decode cX2_work 197 = .ok (.lconst 1, 1) := by decide +kernel
theorem dX2_work_198 : decode cX2_work 198 = .ok (.goto 4, 3) := by decide +kernel
theorem dX2_work_201 : decode cX2_work 201 = .ok (.lconst 0, 1) := by decide +kernel
theorem dX2_work_202 : decode cX2_work 202 = .ok (.lreturn, 1) := by decide +kernel
theorem dX2_work_203 : decode cX2_work 203 = .ok (.iload_n 1, 1) := by decide +kernel
theorem dX2_work_204 : decode cX2_work 204 = .ok (.iload_n 2, 1) := by decide +kernel
theorem dX2_work_205 : decode cX2_work 205 = .ok (.if_icmp .le 7, 3) := by decide +kernel
theorem dX2_work_208 : decode cX2_work 208 = .ok (.lconst 1, 1) := by decide +kernel
theorem dX2_work_209 : decode cX2_work 209 = .ok (.goto 4, 3) := by decide +kernel
theorem dX2_work_212 : decode cX2_work 212 = .ok (.lconst 0, 1) := by decide +kernel
theorem dX2_work_213 : decode cX2_work 213 = .ok (.lreturn, 1) := by decide +kernel
theorem dX2_work_214 : decode cX2_work 214 = .ok (.iload_n 1, 1) := by decide +kernel
theorem dX2_work_215 : decode cX2_work 215 = .ok (.iload_n 2, 1) := by decide +kernel
theorem dX2_work_216 : decode cX2_work 216 = .ok (.if_icmp .ne 7, 3) := by decide +kernel
theorem dX2_work_219 : decode cX2_work 219 = .ok (.lconst 1, 1) := by decide +kernel
theorem dX2_work_220 : decode cX2_work 220 = .ok (.goto 4, 3) := by decide +kernel
theorem dX2_work_223 : decode cX2_work 223 = .ok (.lconst 0, 1) := by decide +kernel
theorem dX2_work_224 : decode cX2_work 224 = .ok (.lreturn, 1) := by decide +kernel
theorem dX2_work_225 : decode cX2_work 225 = .ok (.iload_n 1, 1) := by decide +kernel
theorem dX2_work_226 : decode cX2_work 226 = .ok (.iload_n 2, 1) := by decide +kernel
theorem dX2_work_227 : decode cX2_work 227 = .ok (.if_icmp .eq 7, 3) := by decide +kernel
theorem dX2_work_230 : decode cX2_work 230 = .ok (.lconst 1, 1) := by decide +kernel
theorem dX2_work_231 : decode cX2_work 231 = .ok (.goto 4, 3) := by decide +kernel
theorem dX2_work_234 : decode cX2_work 234 = .ok (.lconst 0, 1) := by decide +kernel
theorem dX2_work_235 : decode cX2_work 235 = .ok (.lreturn, 1) := by decide +kernel
theorem dX2_work_236 : decode cX2_work 236 = .ok (.iload_n 1, 1) := by decide +kernel
theorem dX2_work_237 : decode cX2_work 237 = .ok (.iload_n 2, 1) := by decide +kernel
theorem dX2_work_238 : decode cX2_work 238 = .ok (.if_icmp .gt 7, 3) := by decide +kernel
theorem dX2_work_241 : decode cX2_work 241 = .ok (.lconst 1, 1) := by decide +kernel
theorem dX2_work_242 : decode cX2_work 242 = .ok (.goto 4, 3) := by decide +kernel
theorem dX2_work_245 : decode cX2_work 245 = .ok (.lconst 0, 1) := by decide +kernel
theorem dX2_work_246 : decode cX2_work 246 = .ok (.lreturn, 1) := by decide +kernel
theorem dX2_work_247 : decode cX2_work 247 = .ok (.iload_n 1, 1) := by decide +kernel
theorem dX2_work_248 : decode cX2_work 248 = .ok (.iload_n 2, 1) := by decide +kernel
theorem dX2_work_249 : decode cX2_work 249 = .ok (.if_icmp .lt 7, 3) := by decide +kernel
theorem dX2_work_252 : decode cX2_work 252 = .ok (.lconst 1, 1) := by decide +kernel
theorem dX2_work_253 : decode cX2_work 253 = .ok (.goto 4, 3) := by decide +kernel
theorem dX2_work_256 : decode cX2_work 256 = .ok (.lconst 0, 1) := by decide +kernel
theorem dX2_work_257 : decode cX2_work 257 = .ok (.lreturn, 1) := by decide +kernel
theorem dX2_within_0 : decode cX2_within 0 = .ok (.iload_n 2, 1) := by decide +kernel
theorem dX2_within_1 : decode cX2_within 1 = .ok (.i2l, 1) := by decide +kernel
theorem dX2_within_2 : decode cX2_within 2 = .ok (.iload_n 3, 1) := by decide +kernel
theorem dX2_within_3 : decode cX2_within 3 = .ok (.i2l, 1) := by decide +kernel
theorem dX2_within_4 : decode cX2_within 4 = .ok (.lload_n 0, 1) := by decide +kernel
theorem dX2_within_5 : decode cX2_within 5 = .ok (.invokestatic 90, 3) := by decide +kernel
theorem dX2_within_8 : decode cX2_within 8 = .ok (.invokestatic 94, 3) := by decide +kernel
theorem dX2_within_11 : decode cX2_within 11 = .ok (.l2i, 1) := by decide +kernel
theorem dX2_within_12 : decode cX2_within 12 = .ok (.ireturn, 1) := by decide +kernel
theorem dX3_init_0 : decode cX3_init 0 = .ok (.aload_n 0, 1) := by decide +kernel
theorem dX3_init_1 : decode cX3_init 1 = .ok (.invokespecial 3, 3) := by decide +kernel
theorem dX3_init_4 : decode cX3_init 4 = .ok (.aload_n 0, 1) := by decide +kernel
theorem dX3_init_5 : decode cX3_init 5 = .ok (.aload_n 1, 1) := by decide +kernel
theorem dX3_init_6 : decode cX3_init 6 = .ok (.putfield 9, 3) := by decide +kernel
theorem dX3_init_9 : decode cX3_init 9 = .ok (.return_, 1) := by decide +kernel
theorem dX3_reachesQuota_0 : decode cX3_reachesQuota 0 = .ok (.aload_n 0, 1) := by decide +kernel
theorem dX3_reachesQuota_1 : decode cX3_reachesQuota 1 = .ok (.iload_n 1, 1) := by decide +kernel
theorem dX3_reachesQuota_2 : decode cX3_reachesQuota 2 = .ok (.invokevirtual 15, 3) := by decide +kernel
theorem dX3_reachesQuota_5 : decode cX3_reachesQuota 5 = .ok (.aload_n 0, 1) := by decide +kernel
theorem dX3_reachesQuota_6 : decode cX3_reachesQuota 6 = .ok (.getfield 9, 3) := by decide +kernel
theorem dX3_reachesQuota_9 : decode cX3_reachesQuota 9 = .ok (.getfield 19, 3) := by decide +kernel
theorem dX3_reachesQuota_12 : decode cX3_reachesQuota 12 = .ok (.if_icmp .lt 7, 3) := by decide +kernel
theorem dX3_reachesQuota_15 : decode cX3_reachesQuota 15 = .ok (.iconst 1, 1) := by decide +kernel
theorem dX3_reachesQuota_16 : decode cX3_reachesQuota 16 = .ok (.goto 4, 3) := by decide +kernel
theorem dX3_reachesQuota_19 : decode cX3_reachesQuota 19 = .ok (.iconst 0, 1) := by decide +kernel
theorem dX3_reachesQuota_20 : decode cX3_reachesQuota 20 = .ok (.ireturn, 1) := by decide +kernel
theorem dX3_countPivots_0 : decode cX3_countPivots 0 = .ok (.aload_n 0, 1) := by decide +kernel
theorem dX3_countPivots_1 : decode cX3_countPivots 1 = .ok (.getfield 9, 3) := by decide +kernel
theorem dX3_countPivots_4 : decode cX3_countPivots 4 = .ok (.getfield 25, 3) := by decide +kernel
theorem dX3_countPivots_7 : decode cX3_countPivots 7 = .ok (.getfield 29, 3) := by decide +kernel
theorem dX3_countPivots_10 : decode cX3_countPivots 10 = .ok (.iconst 5, 1) := by decide +kernel
theorem dX3_countPivots_11 : decode cX3_countPivots 11 = .ok (.invokestatic 34, 3) := by decide +kernel
theorem dX3_countPivots_14 : decode cX3_countPivots 14 = .ok (.istore_n 2, 1) := by decide +kernel
theorem dX3_countPivots_15 : decode cX3_countPivots 15 = .ok (.iconst 0, 1) := by decide +kernel
theorem dX3_countPivots_16 : decode cX3_countPivots 16 = .ok (.istore_n 3, 1) := by decide +kernel
theorem dX3_countPivots_17 : decode cX3_countPivots 17 = .ok (.iload_n 1, 1) := by decide +kernel
theorem dX3_countPivots_18 : decode cX3_countPivots 18 = .ok (.ifCond .lt 8, 3) := by decide +kernel
theorem dX3_countPivots_21 : decode cX3_countPivots 21 = .ok (.iload_n 1, 1) := by decide +kernel
theorem dX3_countPivots_22 : decode cX3_countPivots 22 = .ok (.iload_n 2, 1) := by decide +kernel
theorem dX3_countPivots_23 : decode cX3_countPivots 23 = .ok (.if_icmp .lt 5, 3) := by decide +kernel
theorem dX3_countPivots_26 : decode cX3_countPivots 26 = .ok (.iload_n 3, 1) := by decide +kernel
theorem dX3_countPivots_27 : decode cX3_countPivots 27 = .ok (.ireturn, 1) := by decide +kernel
theorem dX3_countPivots_28 : decode cX3_countPivots 28 = .ok (.iconst 0, 1) := by decide +kernel
theorem dX3_countPivots_29 : decode cX3_countPivots 29 = .ok (.istore 4, 2) := by decide +kernel
theorem dX3_countPivots_31 : decode cX3_countPivots 31 = .ok (.iload 4, 2) := by decide +kernel
theorem dX3_countPivots_33 : decode cX3_countPivots 33 = .ok (.iconst 1, 1) := by decide +kernel
theorem dX3_countPivots_34 : decode cX3_countPivots 34 = .ok (.iload_n 2, 1) := by decide +kernel
theorem dX3_countPivots_35 : decode cX3_countPivots 35 = .ok (.ishl, 1) := by decide +kernel
theorem dX3_countPivots_36 : decode cX3_countPivots 36 = .ok (.if_icmp .ge 77, 3) := by decide +kernel
theorem dX3_countPivots_39 : decode cX3_countPivots 39 = .ok (.iload 4, 2) := by decide +kernel
theorem dX3_countPivots_41 : decode cX3_countPivots 41 = .ok (.iload_n 1, 1) := by decide +kernel
theorem dX3_countPivots_42 : decode cX3_countPivots 42 = .ok (.invokestatic 40, 3) := by decide +kernel
theorem dX3_countPivots_45 : decode cX3_countPivots 45 = .ok (.ifCond .ne 62, 3) := by decide +kernel
theorem dX3_countPivots_48 : decode cX3_countPivots 48 = .ok (.aload_n 0, 1) := by decide +kernel
theorem dX3_countPivots_49 : decode cX3_countPivots 49 = .ok (.iload 4, 2) := by decide +kernel
theorem dX3_countPivots_51 : decode cX3_countPivots 51 = .ok (.invokevirtual 44, 3) := by decide +kernel
theorem dX3_countPivots_54 : decode cX3_countPivots 54 = .ok (.ifCond .ne 53, 3) := by decide +kernel
theorem dX3_countPivots_57 : decode cX3_countPivots 57 = .ok (.aload_n 0, 1) := by decide +kernel
theorem dX3_countPivots_58 : decode cX3_countPivots 58 = .ok (.iload 4, 2) := by decide +kernel
theorem dX3_countPivots_60 : decode cX3_countPivots 60 = .ok (.iconst 1, 1) := by decide +kernel
theorem dX3_countPivots_61 : decode cX3_countPivots 61 = .ok (.iload_n 1, 1) := by decide +kernel
theorem dX3_countPivots_62 : decode cX3_countPivots 62 = .ok (.ishl, 1) := by decide +kernel
theorem dX3_countPivots_63 : decode cX3_countPivots 63 = .ok (.ior, 1) := by decide +kernel
theorem dX3_countPivots_64 : decode cX3_countPivots 64 = .ok (.invokevirtual 44, 3) := by decide +kernel
theorem dX3_countPivots_67 : decode cX3_countPivots 67 = .ok (.ifCond .eq 40, 3) := by decide +kernel
theorem dX3_countPivots_70 : decode cX3_countPivots 70 = .ok (.iload 4, 2) := by decide +kernel
theorem dX3_countPivots_72 : decode cX3_countPivots 72 = .ok (.invokestatic 48, 3) := by decide +kernel
theorem dX3_countPivots_75 : decode cX3_countPivots 75 = .ok (.istore 5, 2) := by decide +kernel
theorem dX3_countPivots_77 : decode cX3_countPivots 77 = .ok (.iload_n 3, 1) := by decide +kernel
theorem dX3_countPivots_78 : decode cX3_countPivots 78 = .ok (.iload 5, 2) := by decide +kernel
theorem dX3_countPivots_80 : decode cX3_countPivots 80 = .ok (.iload_n 2, 1) := by decide +kernel
theorem dX3_countPivots_81 : decode cX3_countPivots 81 = .ok (.if_icmp .ge 23, 3) := by decide +kernel
theorem dX3_countPivots_84 : decode cX3_countPivots 84 = .ok (.getstatic 53, 3) := by decide +kernel
theorem dX3_countPivots_87 : decode cX3_countPivots 87 = .ok (.iload 5, 2) := by decide +kernel
theorem dX3_countPivots_89 : decode cX3_countPivots 89 = .ok (.iaload, 1) := by decide +kernel
theorem dX3_countPivots_90 : decode cX3_countPivots 90 = .ok (.getstatic 53, 3) := by decide +kernel
theorem dX3_countPivots_93 : decode cX3_countPivots 93 = .ok (.iload_n 2, 1) := by decide +kernel
theorem dX3_countPivots_94 : decode cX3_countPivots 94 = .ok (.iconst 1, 1) := by decide +kernel
theorem dX3_countPivots_95 : decode cX3_countPivots 95 = .ok (.isub, 1) := by decide +kernel
theorem dX3_countPivots_96 : decode cX3_countPivots 96 = .ok (.iload 5, 2) := by decide +kernel
theorem dX3_countPivots_98 : decode cX3_countPivots 98 = .ok (.isub, 1) := by decide +kernel
theorem dX3_countPivots_99 : decode cX3_countPivots 99 = .ok (.iaload, 1) := by decide +kernel
theorem dX3_countPivots_100 : decode cX3_countPivots 100 = .ok (.imul, 1) := by decide +kernel
theorem dX3_countPivots_101 : decode cX3_countPivots 101 = .ok (.goto 4, 3) := by decide +kernel
theorem dX3_countPivots_104 : decode cX3_countPivots 104 = .ok (.iconst 0, 1) := by decide +kernel
theorem dX3_countPivots_105 : decode cX3_countPivots 105 = .ok (.iadd, 1) := by decide +kernel
theorem dX3_countPivots_106 : decode cX3_countPivots 106 = .ok (.istore_n 3, 1) := by decide +kernel
theorem dX3_countPivots_107 : decode cX3_countPivots 107 = .ok (.iinc 4 1, 3) := by decide +kernel
theorem dX3_countPivots_110 : decode cX3_countPivots 110 = .ok (.goto (-79), 3) := by decide +kernel
theorem dX3_countPivots_113 : decode cX3_countPivots 113 = .ok (.iload_n 3, 1) := by decide +kernel
theorem dX3_countPivots_114 : decode cX3_countPivots 114 = .ok (.ireturn, 1) := by decide +kernel
theorem dX3_sumOf_0 : decode cX3_sumOf 0 = .ok (.iconst 0, 1) := by decide +kernel
theorem dX3_sumOf_1 : decode cX3_sumOf 1 = .ok (.istore_n 2, 1) := by decide +kernel
theorem dX3_sumOf_2 : decode cX3_sumOf 2 = .ok (.iconst 0, 1) := by decide +kernel
theorem dX3_sumOf_3 : decode cX3_sumOf 3 = .ok (.istore_n 3, 1) := by decide +kernel
theorem dX3_sumOf_4 : decode cX3_sumOf 4 = .ok (.iload_n 3, 1) := by decide +kernel
theorem dX3_sumOf_5 : decode cX3_sumOf 5 = .ok (.aload_n 0, 1) := by decide +kernel
theorem dX3_sumOf_6 : decode cX3_sumOf 6 = .ok (.getfield 9, 3) := by decide +kernel
theorem dX3_sumOf_9 : decode cX3_sumOf 9 = .ok (.getfield 25, 3) := by decide +kernel
theorem dX3_sumOf_12 : decode cX3_sumOf 12 = .ok (.getfield 29, 3) := by decide +kernel
theorem dX3_sumOf_15 : decode cX3_sumOf 15 = .ok (.if_icmp .ge 34, 3) := by decide +kernel
theorem dX3_sumOf_18 : decode cX3_sumOf 18 = .ok (.iload_n 3, 1) := by decide +kernel
theorem dX3_sumOf_19 : decode cX3_sumOf 19 = .ok (.iconst 5, 1) := by decide +kernel
theorem dX3_sumOf_20 : decode cX3_sumOf 20 = .ok (.if_icmp .ge 29, 3) := by decide +kernel
theorem dX3_sumOf_23 : decode cX3_sumOf 23 = .ok (.iload_n 1, 1) := by decide +kernel
theorem dX3_sumOf_24 : decode cX3_sumOf 24 = .ok (.iload_n 3, 1) := by decide +kernel
theorem dX3_sumOf_25 : decode cX3_sumOf 25 = .ok (.invokestatic 40, 3) := by decide +kernel
theorem dX3_sumOf_28 : decode cX3_sumOf 28 = .ok (.ifCond .eq 15, 3) := by decide +kernel
theorem dX3_sumOf_31 : decode cX3_sumOf 31 = .ok (.iload_n 2, 1) := by decide +kernel
theorem dX3_sumOf_32 : decode cX3_sumOf 32 = .ok (.aload_n 0, 1) := by decide +kernel
theorem dX3_sumOf_33 : decode cX3_sumOf 33 = .ok (.getfield 9, 3) := by decide +kernel
theorem dX3_sumOf_36 : decode cX3_sumOf 36 = .ok (.getfield 57, 3) := by decide +kernel
theorem dX3_sumOf_39 : decode cX3_sumOf 39 = .ok (.iload_n 3, 1) := by decide +kernel
theorem dX3_sumOf_40 : decode cX3_sumOf 40 = .ok (.iaload, 1) := by decide +kernel
theorem dX3_sumOf_41 : decode cX3_sumOf 41 = .ok (.iadd, 1) := by decide +kernel
theorem dX3_sumOf_42 : decode cX3_sumOf 42 = .ok (.istore_n 2, 1) := by decide +kernel
theorem dX3_sumOf_43 : decode cX3_sumOf 43 = .ok (.iinc 3 1, 3) := by decide +kernel
theorem dX3_sumOf_46 : decode cX3_sumOf 46 = .ok (.goto (-42), 3) := by decide +kernel
theorem dX3_sumOf_49 : decode cX3_sumOf 49 = .ok (.iload_n 2, 1) := by decide +kernel
theorem dX3_sumOf_50 : decode cX3_sumOf 50 = .ok (.ireturn, 1) := by decide +kernel
theorem dX4_init_0 : decode cX4_init 0 = .ok (.aload_n 0, 1) := by decide +kernel
theorem dX4_init_1 : decode cX4_init 1 = .ok (.invokespecial 3, 3) := by decide +kernel
theorem dX4_init_4 : decode cX4_init 4 = .ok (.aload_n 0, 1) := by decide +kernel
theorem dX4_init_5 : decode cX4_init 5 = .ok (.iconst 5, 1) := by decide +kernel
theorem dX4_init_6 : decode cX4_init 6 = .ok (.newarray .int, 2) := by decide +kernel
theorem dX4_init_8 : decode cX4_init 8 = .ok (.putfield 9, 3) := by decide +kernel
theorem dX4_init_11 : decode cX4_init 11 = .ok (.aload_n 0, 1) := by decide +kernel
theorem dX4_init_12 : decode cX4_init 12 = .ok (.bipush 6, 2) := by decide +kernel
theorem dX4_init_14 : decode cX4_init 14 = .ok (.newarray .int, 2) := by decide +kernel
theorem dX4_init_16 : decode cX4_init 16 = .ok (.putfield 15, 3) := by decide +kernel
theorem dX4_init_19 : decode cX4_init 19 = .ok (.aload_n 0, 1) := by decide +kernel
theorem dX4_init_20 : decode cX4_init 20 = .ok (.bipush 6, 2) := by decide +kernel
theorem dX4_init_22 : decode cX4_init 22 = .ok (.newarray .int, 2) := by decide +kernel
theorem dX4_init_24 : decode cX4_init 24 = .ok (.putfield 18, 3) := by decide +kernel
theorem dX4_init_27 : decode cX4_init 27 = .ok (.aload_n 0, 1) := by decide +kernel
theorem dX4_init_28 : decode cX4_init 28 = .ok (.iconst 5, 1) := by decide +kernel
theorem dX4_init_29 : decode cX4_init 29 = .ok (.newarray .int, 2) := by decide +kernel
theorem dX4_init_31 : decode cX4_init 31 = .ok (.putfield 21, 3) := by decide +kernel
theorem dX4_init_34 : decode cX4_init 34 = .ok (.aload_n 0, 1) := by decide +kernel
theorem dX4_init_35 : decode cX4_init 35 = .ok (.iconst 5, 1) := by decide +kernel
theorem dX4_init_36 : decode cX4_init 36 = .ok (.newarray .int, 2) := by decide +kernel
theorem dX4_init_38 : decode cX4_init 38 = .ok (.putfield 24, 3) := by decide +kernel
theorem dX4_init_41 : decode cX4_init 41 = .ok (.aload_n 0, 1) := by decide +kernel
theorem dX4_init_42 : decode cX4_init 42 = .ok (.iconst 5, 1) := by decide +kernel
theorem dX4_init_43 : decode cX4_init 43 = .ok (.newarray .int, 2) := by decide +kernel
theorem dX4_init_45 : decode cX4_init 45 = .ok (.putfield 27, 3) := by decide +kernel
theorem dX4_init_48 : decode cX4_init 48 = .ok (.aload_n 0, 1) := by decide +kernel
theorem dX4_init_49 : decode cX4_init 49 = .ok (.aload_n 1, 1) := by decide +kernel
theorem dX4_init_50 : decode cX4_init 50 = .ok (.putfield 30, 3) := by decide +kernel
theorem dX4_init_53 : decode cX4_init 53 = .ok (.return_, 1) := by decide +kernel
theorem dX4_isWanted_0 : decode cX4_isWanted 0 = .ok (.aload_n 0, 1) := by decide +kernel
theorem dX4_isWanted_1 : decode cX4_isWanted 1 = .ok (.iload_n 1, 1) := by decide +kernel
theorem dX4_isWanted_2 : decode cX4_isWanted 2 = .ok (.iload_n 2, 1) := by decide +kernel
theorem dX4_isWanted_3 : decode cX4_isWanted 3 = .ok (.invokevirtual 34, 3) := by decide +kernel
theorem dX4_isWanted_6 : decode cX4_isWanted 6 = .ok (.ifCond .le 7, 3) := by decide +kernel
theorem dX4_isWanted_9 : decode cX4_isWanted 9 = .ok (.iconst 1, 1) := by decide +kernel
theorem dX4_isWanted_10 : decode cX4_isWanted 10 = .ok (.goto 4, 3) := by decide +kernel
theorem dX4_isWanted_13 : decode cX4_isWanted 13 = .ok (.iconst 0, 1) := by decide +kernel
theorem dX4_isWanted_14 : decode cX4_isWanted 14 = .ok (.ireturn, 1) := by decide +kernel
theorem dX4_likesMore_0 : decode cX4_likesMore 0 = .ok (.iload 4, 2) := by decide +kernel
theorem dX4_likesMore_2 : decode cX4_likesMore 2 = .ok (.iconst (-1), 1) := by decide +kernel
theorem dX4_likesMore_3 : decode cX4_likesMore 3 = .ok (.if_icmp .ne 5, 3) := by decide +kernel
theorem dX4_likesMore_6 : decode cX4_likesMore 6 = .ok (.iconst 1, 1) := by decide +kernel
theorem dX4_likesMore_7 : decode cX4_likesMore 7 = .ok (.ireturn, 1) := by decide +kernel
theorem dX4_likesMore_8 : decode cX4_likesMore 8 = .ok (.iload_n 1, 1) := by decide +kernel
theorem dX4_likesMore_9 : decode cX4_likesMore 9 = .ok (.ifCond .eq 12, 3) := by decide +kernel
theorem dX4_likesMore_12 : decode cX4_likesMore 12 = .ok (.aload_n 0, 1) := by decide +kernel
theorem dX4_likesMore_13 : decode cX4_likesMore 13 = .ok (.iload_n 2, 1) := by decide +kernel
theorem dX4_likesMore_14 : decode cX4_likesMore 14 = .ok (.iload_n 3, 1) := by decide +kernel
theorem dX4_likesMore_15 : decode cX4_likesMore 15 = .ok (.invokevirtual 34, 3) := by decide +kernel
theorem dX4_likesMore_18 : decode cX4_likesMore 18 = .ok (.goto 9, 3) := by decide +kernel
theorem dX4_likesMore_21 : decode cX4_likesMore 21 = .ok (.aload_n 0, 1) := by decide +kernel
theorem dX4_likesMore_22 : decode cX4_likesMore 22 = .ok (.iload_n 2, 1) := by decide +kernel
theorem dX4_likesMore_23 : decode cX4_likesMore 23 = .ok (.iload_n 3, 1) := by decide +kernel
theorem dX4_likesMore_24 : decode cX4_likesMore 24 = .ok (.invokevirtual 38, 3) := by decide +kernel
theorem dX4_likesMore_27 : decode cX4_likesMore 27 = .ok (.istore 5, 2) := by decide +kernel
theorem dX4_likesMore_29 : decode cX4_likesMore 29 = .ok (.iload_n 1, 1) := by decide +kernel
theorem dX4_likesMore_30 : decode cX4_likesMore 30 = .ok (.ifCond .eq 13, 3) := by decide +kernel
theorem dX4_likesMore_33 : decode cX4_likesMore 33 = .ok (.aload_n 0, 1) := by decide +kernel
theorem dX4_likesMore_34 : decode cX4_likesMore 34 = .ok (.iload_n 2, 1) := by decide +kernel
theorem dX4_likesMore_35 : decode cX4_likesMore 35 = .ok (.iload 4, 2) := by decide +kernel
theorem dX4_likesMore_37 : decode cX4_likesMore 37 = .ok (.invokevirtual 34, 3) := by decide +kernel
theorem dX4_likesMore_40 : decode cX4_likesMore 40 = .ok (.goto 10, 3) := by decide +kernel
theorem dX4_likesMore_43 : decode cX4_likesMore 43 = .ok (.aload_n 0, 1) := by decide +kernel
theorem dX4_likesMore_44 : decode cX4_likesMore 44 = .ok (.iload_n 2, 1) := by decide +kernel
theorem dX4_likesMore_45 : decode cX4_likesMore 45 = .ok (.iload 4, 2) := by decide +kernel
theorem dX4_likesMore_47 : decode cX4_likesMore 47 = .ok (.invokevirtual 38, 3) := by decide +kernel
theorem dX4_likesMore_50 : decode cX4_likesMore 50 = .ok (.istore 6, 2) := by decide +kernel
theorem dX4_likesMore_52 : decode cX4_likesMore 52 = .ok (.iload 5, 2) := by decide +kernel
theorem dX4_likesMore_54 : decode cX4_likesMore 54 = .ok (.iload 6, 2) := by decide +kernel
theorem dX4_likesMore_56 : decode cX4_likesMore 56 = .ok (.if_icmp .gt 16, 3) := by decide +kernel
theorem dX4_likesMore_59 : decode cX4_likesMore 59 = .ok (.iload 5, 2) := by decide +kernel
theorem dX4_likesMore_61 : decode cX4_likesMore 61 = .ok (.iload 6, 2) := by decide +kernel
theorem dX4_likesMore_63 : decode cX4_likesMore 63 = .ok (.if_icmp .ne 13, 3) := by decide +kernel
theorem dX4_likesMore_66 : decode cX4_likesMore 66 = .ok (.iload_n 3, 1) := by decide +kernel
theorem dX4_likesMore_67 : decode cX4_likesMore 67 = .ok (.iload 4, 2) := by decide +kernel
theorem dX4_likesMore_69 : decode cX4_likesMore 69 = .ok (.if_icmp .ge 7, 3) := by decide +kernel
theorem dX4_likesMore_72 : decode cX4_likesMore 72 = .ok (.iconst 1, 1) := by decide +kernel
theorem dX4_likesMore_73 : decode cX4_likesMore 73 = .ok (.goto 4, 3) := by decide +kernel
theorem dX4_likesMore_76 : decode cX4_likesMore 76 = .ok (.iconst 0, 1) := by decide +kernel
theorem dX4_likesMore_77 : decode cX4_likesMore 77 = .ok (.ireturn, 1) := by decide +kernel
theorem dX4_wantOf_0 : decode cX4_wantOf 0 = .ok (.iload_n 1, 1) := by decide +kernel
theorem dX4_wantOf_1 : decode cX4_wantOf 1 = .ok (.iload_n 2, 1) := by decide +kernel
theorem dX4_wantOf_2 : decode cX4_wantOf 2 = .ok (.iconst 0, 1) := by decide +kernel
theorem dX4_wantOf_3 : decode cX4_wantOf 3 = .ok (.invokestatic 41, 3) := by decide +kernel
theorem dX4_wantOf_6 : decode cX4_wantOf 6 = .ok (.ifCond .eq 20, 3) := by decide +kernel
theorem dX4_wantOf_9 : decode cX4_wantOf 9 = .ok (.aload_n 0, 1) := by decide +kernel
theorem dX4_wantOf_10 : decode cX4_wantOf 10 = .ok (.getfield 30, 3) := by decide +kernel
theorem dX4_wantOf_13 : decode cX4_wantOf 13 = .ok (.getfield 45, 3) := by decide +kernel
theorem dX4_wantOf_16 : decode cX4_wantOf 16 = .ok (.iload_n 1, 1) := by decide +kernel
theorem dX4_wantOf_17 : decode cX4_wantOf 17 = .ok (.bipush 6, 2) := by decide +kernel
theorem dX4_wantOf_19 : decode cX4_wantOf 19 = .ok (.imul, 1) := by decide +kernel
theorem dX4_wantOf_20 : decode cX4_wantOf 20 = .ok (.iload_n 2, 1) := by decide +kernel
theorem dX4_wantOf_21 : decode cX4_wantOf 21 = .ok (.iadd, 1) := by decide +kernel
theorem dX4_wantOf_22 : decode cX4_wantOf 22 = .ok (.iaload, 1) := by decide +kernel
theorem dX4_wantOf_23 : decode cX4_wantOf 23 = .ok (.goto 4, 3) := by decide +kernel
theorem dX4_wantOf_26 : decode cX4_wantOf 26 = .ok (.iconst 0, 1) := by decide +kernel
theorem dX4_wantOf_27 : decode cX4_wantOf 27 = .ok (.ireturn, 1) := by decide +kernel
theorem dX4_favourOf_0 : decode cX4_favourOf 0 = .ok (.iload_n 2, 1) := by decide +kernel
theorem dX4_favourOf_1 : decode cX4_favourOf 1 = .ok (.iload_n 1, 1) := by decide +kernel
theorem dX4_favourOf_2 : decode cX4_favourOf 2 = .ok (.iconst 0, 1) := by decide +kernel
theorem dX4_favourOf_3 : decode cX4_favourOf 3 = .ok (.invokestatic 41, 3) := by decide +kernel
theorem dX4_favourOf_6 : decode cX4_favourOf 6 = .ok (.ifCond .eq 19, 3) := by decide +kernel
theorem dX4_favourOf_9 : decode cX4_favourOf 9 = .ok (.aload_n 0, 1) := by decide +kernel
theorem dX4_favourOf_10 : decode cX4_favourOf 10 = .ok (.getfield 30, 3) := by decide +kernel
theorem dX4_favourOf_13 : decode cX4_favourOf 13 = .ok (.getfield 50, 3) := by decide +kernel
theorem dX4_favourOf_16 : decode cX4_favourOf 16 = .ok (.iload_n 1, 1) := by decide +kernel
theorem dX4_favourOf_17 : decode cX4_favourOf 17 = .ok (.iconst 5, 1) := by decide +kernel
theorem dX4_favourOf_18 : decode cX4_favourOf 18 = .ok (.imul, 1) := by decide +kernel
theorem dX4_favourOf_19 : decode cX4_favourOf 19 = .ok (.iload_n 2, 1) := by decide +kernel
theorem dX4_favourOf_20 : decode cX4_favourOf 20 = .ok (.iadd, 1) := by decide +kernel
theorem dX4_favourOf_21 : decode cX4_favourOf 21 = .ok (.iaload, 1) := by decide +kernel
theorem dX4_favourOf_22 : decode cX4_favourOf 22 = .ok (.goto 4, 3) := by decide +kernel
theorem dX4_favourOf_25 : decode cX4_favourOf 25 = .ok (.iconst 0, 1) := by decide +kernel
theorem dX4_favourOf_26 : decode cX4_favourOf 26 = .ok (.ireturn, 1) := by decide +kernel
theorem dX4_ownerOf_0 : decode cX4_ownerOf 0 = .ok (.iconst 0, 1) := by decide +kernel
theorem dX4_ownerOf_1 : decode cX4_ownerOf 1 = .ok (.istore_n 3, 1) := by decide +kernel
theorem dX4_ownerOf_2 : decode cX4_ownerOf 2 = .ok (.iload_n 3, 1) := by decide +kernel
theorem dX4_ownerOf_3 : decode cX4_ownerOf 3 = .ok (.aload_n 0, 1) := by decide +kernel
theorem dX4_ownerOf_4 : decode cX4_ownerOf 4 = .ok (.getfield 30, 3) := by decide +kernel
theorem dX4_ownerOf_7 : decode cX4_ownerOf 7 = .ok (.getfield 53, 3) := by decide +kernel
theorem dX4_ownerOf_10 : decode cX4_ownerOf 10 = .ok (.getfield 57, 3) := by decide +kernel
theorem dX4_ownerOf_13 : decode cX4_ownerOf 13 = .ok (.if_icmp .ge 24, 3) := by decide +kernel
theorem dX4_ownerOf_16 : decode cX4_ownerOf 16 = .ok (.iload_n 3, 1) := by decide +kernel
theorem dX4_ownerOf_17 : decode cX4_ownerOf 17 = .ok (.aload_n 1, 1) := by decide +kernel
theorem dX4_ownerOf_18 : decode cX4_ownerOf 18 = .ok (.arraylength, 1) := by decide +kernel
theorem dX4_ownerOf_19 : decode cX4_ownerOf 19 = .ok (.if_icmp .ge 18, 3) := by decide +kernel
theorem dX4_ownerOf_22 : decode cX4_ownerOf 22 = .ok (.aload_n 1, 1) := by decide +kernel
theorem dX4_ownerOf_23 : decode cX4_ownerOf 23 = .ok (.iload_n 3, 1) := by decide +kernel
theorem dX4_ownerOf_24 : decode cX4_ownerOf 24 = .ok (.iaload, 1) := by decide +kernel
theorem dX4_ownerOf_25 : decode cX4_ownerOf 25 = .ok (.iload_n 2, 1) := by decide +kernel
theorem dX4_ownerOf_26 : decode cX4_ownerOf 26 = .ok (.if_icmp .ne 5, 3) := by decide +kernel
theorem dX4_ownerOf_29 : decode cX4_ownerOf 29 = .ok (.iload_n 3, 1) := by decide +kernel
theorem dX4_ownerOf_30 : decode cX4_ownerOf 30 = .ok (.ireturn, 1) := by decide +kernel
theorem dX4_ownerOf_31 : decode cX4_ownerOf 31 = .ok (.iinc 3 1, 3) := by decide +kernel
theorem dX4_ownerOf_34 : decode cX4_ownerOf 34 = .ok (.goto (-32), 3) := by decide +kernel
theorem dX4_ownerOf_37 : decode cX4_ownerOf 37 = .ok (.iconst (-1), 1) := by decide +kernel
theorem dX4_ownerOf_38 : decode cX4_ownerOf 38 = .ok (.ireturn, 1) := by decide +kernel
theorem dX4_countRather_0 : decode cX4_countRather 0 = .ok (.iconst 0, 1) := by decide +kernel
theorem dX4_countRather_1 : decode cX4_countRather 1 = .ok (.istore_n 2, 1) := by decide +kernel
theorem dX4_countRather_2 : decode cX4_countRather 2 = .ok (.iconst 0, 1) := by decide +kernel
theorem dX4_countRather_3 : decode cX4_countRather 3 = .ok (.istore_n 3, 1) := by decide +kernel
theorem dX4_countRather_4 : decode cX4_countRather 4 = .ok (.iload_n 3, 1) := by decide +kernel
theorem dX4_countRather_5 : decode cX4_countRather 5 = .ok (.aload_n 0, 1) := by decide +kernel
theorem dX4_countRather_6 : decode cX4_countRather 6 = .ok (.getfield 30, 3) := by decide +kernel
theorem dX4_countRather_9 : decode cX4_countRather 9 = .ok (.getfield 53, 3) := by decide +kernel
theorem dX4_countRather_12 : decode cX4_countRather 12 = .ok (.getfield 63, 3) := by decide +kernel
theorem dX4_countRather_15 : decode cX4_countRather 15 = .ok (.if_icmp .ge 95, 3) := by decide +kernel
theorem dX4_countRather_18 : decode cX4_countRather 18 = .ok (.iload_n 3, 1) := by decide +kernel
theorem dX4_countRather_19 : decode cX4_countRather 19 = .ok (.bipush 6, 2) := by decide +kernel
theorem dX4_countRather_21 : decode cX4_countRather 21 = .ok (.if_icmp .ge 89, 3) := by decide +kernel
theorem dX4_countRather_24 : decode cX4_countRather 24 = .ok (.aload_n 0, 1) := by decide +kernel
theorem dX4_countRather_25 : decode cX4_countRather 25 = .ok (.aload_n 1, 1) := by decide +kernel
theorem dX4_countRather_26 : decode cX4_countRather 26 = .ok (.iload_n 3, 1) := by decide +kernel
theorem dX4_countRather_27 : decode cX4_countRather 27 = .ok (.invokevirtual 66, 3) := by decide +kernel
theorem dX4_countRather_30 : decode cX4_countRather 30 = .ok (.istore 4, 2) := by decide +kernel
theorem dX4_countRather_32 : decode cX4_countRather 32 = .ok (.iconst 0, 1) := by decide +kernel
theorem dX4_countRather_33 : decode cX4_countRather 33 = .ok (.istore 5, 2) := by decide +kernel
theorem dX4_countRather_35 : decode cX4_countRather 35 = .ok (.iload 5, 2) := by decide +kernel
theorem dX4_countRather_37 : decode cX4_countRather 37 = .ok (.aload_n 0, 1) := by decide +kernel
theorem dX4_countRather_38 : decode cX4_countRather 38 = .ok (.getfield 30, 3) := by decide +kernel
theorem dX4_countRather_41 : decode cX4_countRather 41 = .ok (.getfield 53, 3) := by decide +kernel
theorem dX4_countRather_44 : decode cX4_countRather 44 = .ok (.getfield 57, 3) := by decide +kernel
theorem dX4_countRather_47 : decode cX4_countRather 47 = .ok (.if_icmp .ge 57, 3) := by decide +kernel
theorem dX4_countRather_50 : decode cX4_countRather 50 = .ok (.iload 5, 2) := by decide +kernel
theorem dX4_countRather_52 : decode cX4_countRather 52 = .ok (.aload_n 1, 1) := by decide +kernel
theorem dX4_countRather_53 : decode cX4_countRather 53 = .ok (.arraylength, 1) := by decide +kernel
theorem dX4_countRather_54 : decode cX4_countRather 54 = .ok (.if_icmp .ge 50, 3) := by decide +kernel
theorem dX4_countRather_57 : decode cX4_countRather 57 = .ok (.aload_n 0, 1) := by decide +kernel
theorem dX4_countRather_58 : decode cX4_countRather 58 = .ok (.iload 5, 2) := by decide +kernel
theorem dX4_countRather_60 : decode cX4_countRather 60 = .ok (.iload_n 3, 1) := by decide +kernel
theorem dX4_countRather_61 : decode cX4_countRather 61 = .ok (.invokevirtual 70, 3) := by decide +kernel
theorem dX4_countRather_64 : decode cX4_countRather 64 = .ok (.ifCond .eq 34, 3) := by decide +kernel
theorem dX4_countRather_67 : decode cX4_countRather 67 = .ok (.aload_n 0, 1) := by decide +kernel
theorem dX4_countRather_68 : decode cX4_countRather 68 = .ok (.iconst 1, 1) := by decide +kernel
theorem dX4_countRather_69 : decode cX4_countRather 69 = .ok (.iload 5, 2) := by decide +kernel
theorem dX4_countRather_71 : decode cX4_countRather 71 = .ok (.iload_n 3, 1) := by decide +kernel
theorem dX4_countRather_72 : decode cX4_countRather 72 = .ok (.aload_n 1, 1) := by decide +kernel
theorem dX4_countRather_73 : decode cX4_countRather 73 = .ok (.iload 5, 2) := by decide +kernel
theorem dX4_countRather_75 : decode cX4_countRather 75 = .ok (.iaload, 1) := by decide +kernel
theorem dX4_countRather_76 : decode cX4_countRather 76 = .ok (.invokevirtual 74, 3) := by decide +kernel
theorem dX4_countRather_79 : decode cX4_countRather 79 = .ok (.ifCond .eq 19, 3) := by decide +kernel
theorem dX4_countRather_82 : decode cX4_countRather 82 = .ok (.aload_n 0, 1) := by decide +kernel
theorem dX4_countRather_83 : decode cX4_countRather 83 = .ok (.iconst 0, 1) := by decide +kernel
theorem dX4_countRather_84 : decode cX4_countRather 84 = .ok (.iload_n 3, 1) := by decide +kernel
theorem dX4_countRather_85 : decode cX4_countRather 85 = .ok (.iload 5, 2) := by decide +kernel
theorem dX4_countRather_87 : decode cX4_countRather 87 = .ok (.iload 4, 2) := by decide +kernel
theorem dX4_countRather_89 : decode cX4_countRather 89 = .ok (.invokevirtual 74, 3) := by decide +kernel
theorem dX4_countRather_92 : decode cX4_countRather 92 = .ok (.ifCond .eq 6, 3) := by decide +kernel
theorem dX4_countRather_95 : decode cX4_countRather 95 = .ok (.iinc 2 1, 3) := by decide +kernel
theorem dX4_countRather_98 : decode cX4_countRather 98 = .ok (.iinc 5 1, 3) := by decide +kernel
theorem dX4_countRather_101 : decode cX4_countRather 101 = .ok (.goto (-66), 3) := by decide +kernel
theorem dX4_countRather_104 : decode cX4_countRather 104 = .ok (.iinc 3 1, 3) := by decide +kernel
theorem dX4_countRather_107 : decode cX4_countRather 107 = .ok (.goto (-103), 3) := by decide +kernel
theorem dX4_countRather_110 : decode cX4_countRather 110 = .ok (.iload_n 2, 1) := by decide +kernel
theorem dX4_countRather_111 : decode cX4_countRather 111 = .ok (.ireturn, 1) := by decide +kernel
theorem dX4_settle_0 : decode cX4_settle 0 = .ok (.aload_n 0, 1) := by decide +kernel
theorem dX4_settle_1 : decode cX4_settle 1 = .ok (.getfield 9, 3) := by decide +kernel
theorem dX4_settle_4 : decode cX4_settle 4 = .ok (.iconst (-1), 1) := by decide +kernel
theorem dX4_settle_5 : decode cX4_settle 5 = .ok (.invokestatic 78, 3) := by decide +kernel
theorem dX4_settle_8 : decode cX4_settle 8 = .ok (.aload_n 0, 1) := by decide +kernel
theorem dX4_settle_9 : decode cX4_settle 9 = .ok (.getfield 15, 3) := by decide +kernel
theorem dX4_settle_12 : decode cX4_settle 12 = .ok (.iconst (-1), 1) := by decide +kernel
theorem dX4_settle_13 : decode cX4_settle 13 = .ok (.invokestatic 78, 3) := by decide +kernel
theorem dX4_settle_16 : decode cX4_settle 16 = .ok (.aload_n 0, 1) := by decide +kernel
theorem dX4_settle_17 : decode cX4_settle 17 = .ok (.getfield 18, 3) := by decide +kernel
theorem dX4_settle_20 : decode cX4_settle 20 = .ok (.iconst 0, 1) := by decide +kernel
theorem dX4_settle_21 : decode cX4_settle 21 = .ok (.invokestatic 78, 3) := by decide +kernel
theorem dX4_settle_24 : decode cX4_settle 24 = .ok (.iload_n 1, 1) := by decide +kernel
theorem dX4_settle_25 : decode cX4_settle 25 = .ok (.ifCond .eq 20, 3) := by decide +kernel
theorem dX4_settle_28 : decode cX4_settle 28 = .ok (.aload_n 0, 1) := by decide +kernel
theorem dX4_settle_29 : decode cX4_settle 29 = .ok (.getfield 30, 3) := by decide +kernel
theorem dX4_settle_32 : decode cX4_settle 32 = .ok (.getfield 53, 3) := by decide +kernel
theorem dX4_settle_35 : decode cX4_settle 35 = .ok (.getfield 57, 3) := by decide +kernel
theorem dX4_settle_38 : decode cX4_settle 38 = .ok (.iconst 5, 1) := by decide +kernel
theorem dX4_settle_39 : decode cX4_settle 39 = .ok (.invokestatic 84, 3) := by decide +kernel
theorem dX4_settle_42 : decode cX4_settle 42 = .ok (.goto 18, 3) := by decide +kernel
theorem dX4_settle_45 : decode cX4_settle 45 = .ok (.aload_n 0, 1) := by decide +kernel
theorem dX4_settle_46 : decode cX4_settle 46 = .ok (.getfield 30, 3) := by decide +kernel
theorem dX4_settle_49 : decode cX4_settle 49 = .ok (.getfield 53, 3) := by decide +kernel
theorem dX4_settle_52 : decode cX4_settle 52 = .ok (.getfield 63, 3) := by decide +kernel
theorem dX4_settle_55 : decode cX4_settle 55 = .ok (.bipush 6, 2) := by decide +kernel
theorem dX4_settle_57 : decode cX4_settle 57 = .ok (.invokestatic 84, 3) := by decide +kernel
theorem dX4_settle_60 : decode cX4_settle 60 = .ok (.istore_n 2, 1) := by decide +kernel
theorem dX4_settle_61 : decode cX4_settle 61 = .ok (.iload_n 1, 1) := by decide +kernel
theorem dX4_settle_62 : decode cX4_settle 62 = .ok (.ifCond .eq 10, 3) := by decide +kernel
theorem dX4_settle_65 : decode cX4_settle 65 = .ok (.aload_n 0, 1) := by decide +kernel
theorem dX4_settle_66 : decode cX4_settle 66 = .ok (.getfield 9, 3) := by decide +kernel
theorem dX4_settle_69 : decode cX4_settle 69 = .ok (.goto 7, 3) := by decide +kernel
theorem dX4_settle_72 : decode cX4_settle 72 = .ok (.aload_n 0, 1) := by decide +kernel
theorem dX4_settle_73 : decode cX4_settle 73 = .ok (.getfield 15, 3) := by decide +kernel
theorem dX4_settle_76 : decode cX4_settle 76 = .ok (.astore_n 3, 1) := by decide +kernel
theorem dX4_settle_77 : decode cX4_settle 77 = .ok (.iload_n 1, 1) := by decide +kernel
theorem dX4_settle_78 : decode cX4_settle 78 = .ok (.ifCond .eq 10, 3) := by decide +kernel
theorem dX4_settle_81 : decode cX4_settle 81 = .ok (.aload_n 0, 1) := by decide +kernel
theorem dX4_settle_82 : decode cX4_settle 82 = .ok (.getfield 15, 3) := by decide +kernel
theorem dX4_settle_85 : decode cX4_settle 85 = .ok (.goto 7, 3) := by decide +kernel
theorem dX4_settle_88 : decode cX4_settle 88 = .ok (.aload_n 0, 1) := by decide +kernel
theorem dX4_settle_89 : decode cX4_settle 89 = .ok (.getfield 9, 3) := by decide +kernel
theorem dX4_settle_92 : decode cX4_settle 92 = .ok (.astore 4, 2) := by decide +kernel
theorem dX4_settle_94 : decode cX4_settle 94 = .ok (.iconst 0, 1) := by decide +kernel
theorem dX4_settle_95 : decode cX4_settle 95 = .ok (.istore 5, 2) := by decide +kernel
theorem dX4_settle_97 : decode cX4_settle 97 = .ok (.iload 5, 2) := by decide +kernel
theorem dX4_settle_99 : decode cX4_settle 99 = .ok (.iload_n 2, 1) := by decide +kernel
theorem dX4_settle_100 : decode cX4_settle 100 = .ok (.if_icmp .ge 124, 3) := by decide +kernel
theorem dX4_settle_103 : decode cX4_settle 103 = .ok (.iload 5, 2) := by decide +kernel
theorem dX4_settle_105 : decode cX4_settle 105 = .ok (.istore 6, 2) := by decide +kernel
theorem dX4_settle_107 : decode cX4_settle 107 = .ok (.iconst 0, 1) := by decide +kernel
theorem dX4_settle_108 : decode cX4_settle 108 = .ok (.istore 7, 2) := by decide +kernel
theorem dX4_settle_110 : decode cX4_settle 110 = .ok (.iload 7, 2) := by decide +kernel
theorem dX4_settle_112 : decode cX4_settle 112 = .ok (.bipush 30, 2) := by decide +kernel
theorem dX4_settle_114 : decode cX4_settle 114 = .ok (.if_icmp .gt 104, 3) := by decide +kernel
theorem dX4_settle_117 : decode cX4_settle 117 = .ok (.iload 6, 2) := by decide +kernel
theorem dX4_settle_119 : decode cX4_settle 119 = .ok (.iconst (-1), 1) := by decide +kernel
theorem dX4_settle_120 : decode cX4_settle 120 = .ok (.if_icmp .eq 98, 3) := by decide +kernel
theorem dX4_settle_123 : decode cX4_settle 123 = .ok (.aload_n 0, 1) := by decide +kernel
theorem dX4_settle_124 : decode cX4_settle 124 = .ok (.iload_n 1, 1) := by decide +kernel
theorem dX4_settle_125 : decode cX4_settle 125 = .ok (.iload 6, 2) := by decide +kernel
theorem dX4_settle_127 : decode cX4_settle 127 = .ok (.invokevirtual 89, 3) := by decide +kernel
theorem dX4_settle_130 : decode cX4_settle 130 = .ok (.istore 8, 2) := by decide +kernel
theorem dX4_settle_132 : decode cX4_settle 132 = .ok (.iload 8, 2) := by decide +kernel
theorem dX4_settle_134 : decode cX4_settle 134 = .ok (.iconst (-1), 1) := by decide +kernel
theorem dX4_settle_135 : decode cX4_settle 135 = .ok (.if_icmp .ne 6, 3) := by decide +kernel
theorem dX4_settle_138 : decode cX4_settle 138 = .ok (.goto 80, 3) := by decide +kernel
theorem dX4_settle_141 : decode cX4_settle 141 = .ok (.aload_n 0, 1) := by decide +kernel
theorem dX4_settle_142 : decode cX4_settle 142 = .ok (.getfield 18, 3) := by decide +kernel
theorem dX4_settle_145 : decode cX4_settle 145 = .ok (.iload 6, 2) := by decide +kernel
theorem dX4_settle_147 : decode cX4_settle 147 = .ok (.dup2, 1) := by decide +kernel
theorem dX4_settle_148 : decode cX4_settle 148 = .ok (.iaload, 1) := by decide +kernel
theorem dX4_settle_149 : decode cX4_settle 149 = .ok (.iconst 1, 1) := by decide +kernel
theorem dX4_settle_150 : decode cX4_settle 150 = .ok (.iload 8, 2) := by decide +kernel
theorem dX4_settle_152 : decode cX4_settle 152 = .ok (.ishl, 1) := by decide +kernel
theorem dX4_settle_153 : decode cX4_settle 153 = .ok (.ior, 1) := by decide +kernel
theorem dX4_settle_154 : decode cX4_settle 154 = .ok (.iastore, 1) := by decide +kernel
theorem dX4_settle_155 : decode cX4_settle 155 = .ok (.aload 4, 2) := by decide +kernel
theorem dX4_settle_157 : decode cX4_settle 157 = .ok (.iload 8, 2) := by decide +kernel
theorem dX4_settle_159 : decode cX4_settle 159 = .ok (.iaload, 1) := by decide +kernel
theorem dX4_settle_160 : decode cX4_settle 160 = .ok (.istore 9, 2) := by decide +kernel
theorem dX4_settle_162 : decode cX4_settle 162 = .ok (.aload_n 0, 1) := by decide +kernel
theorem dX4_settle_163 : decode cX4_settle 163 = .ok (.iload_n 1, 1) := by decide +kernel
theorem dX4_settle_164 : decode cX4_settle 164 = .ok (.ifCond .ne 7, 3) := by decide +kernel
theorem dX4_settle_167 : decode cX4_settle 167 = .ok (.iconst 1, 1) := by decide +kernel
theorem dX4_settle_168 : decode cX4_settle 168 = .ok (.goto 4, 3) := by decide +kernel
theorem dX4_settle_171 : decode cX4_settle 171 = .ok (.iconst 0, 1) := by decide +kernel
theorem dX4_settle_172 : decode cX4_settle 172 = .ok (.iload 8, 2) := by decide +kernel
theorem dX4_settle_174 : decode cX4_settle 174 = .ok (.iload 6, 2) := by decide +kernel
theorem dX4_settle_176 : decode cX4_settle 176 = .ok (.iload 9, 2) := by decide +kernel
theorem dX4_settle_178 : decode cX4_settle 178 = .ok (.invokevirtual 74, 3) := by decide +kernel
theorem dX4_settle_181 : decode cX4_settle 181 = .ok (.ifCond .eq 31, 3) := by decide +kernel
theorem dX4_settle_184 : decode cX4_settle 184 = .ok (.aload_n 3, 1) := by decide +kernel
theorem dX4_settle_185 : decode cX4_settle 185 = .ok (.iload 6, 2) := by decide +kernel
theorem dX4_settle_187 : decode cX4_settle 187 = .ok (.iload 8, 2) := by decide +kernel
theorem dX4_settle_189 : decode cX4_settle 189 = .ok (.iastore, 1) := by decide +kernel
theorem dX4_settle_190 : decode cX4_settle 190 = .ok (.aload 4, 2) := by decide +kernel
theorem dX4_settle_192 : decode cX4_settle 192 = .ok (.iload 8, 2) := by decide +kernel
theorem dX4_settle_194 : decode cX4_settle 194 = .ok (.iload 6, 2) := by decide +kernel
theorem dX4_settle_196 : decode cX4_settle 196 = .ok (.iastore, 1) := by decide +kernel
theorem dX4_settle_197 : decode cX4_settle 197 = .ok (.iload 9, 2) := by decide +kernel
theorem dX4_settle_199 : decode cX4_settle 199 = .ok (.iconst (-1), 1) := by decide +kernel
theorem dX4_settle_200 : decode cX4_settle 200 = .ok (.if_icmp .eq 8, 3) := by decide +kernel
theorem dX4_settle_203 : decode cX4_settle 203 = .ok (.aload_n 3, 1) := by decide +kernel
theorem dX4_settle_204 : decode cX4_settle 204 = .ok (.iload 9, 2) := by decide +kernel
theorem dX4_settle_206 : decode cX4_settle 206 = .ok (.iconst (-1), 1) := by decide +kernel
theorem dX4_settle_207 : decode cX4_settle 207 = .ok (.iastore, 1) := by decide +kernel
theorem dX4_settle_208 : decode cX4_settle 208 = .ok (.iload 9, 2) := by decide +kernel
theorem dX4_settle_210 : decode cX4_settle 210 = .ok (.istore 6, 2) := by decide +kernel
theorem dX4_settle_212 : decode cX4_settle 212 = .ok (.iinc 7 1, 3) := by decide +kernel
theorem dX4_settle_215 : decode cX4_settle 215 = .ok (.goto (-105), 3) := by decide +kernel
theorem dX4_settle_218 : decode cX4_settle 218 = .ok (.iinc 5 1, 3) := by decide +kernel
theorem dX4_settle_221 : decode cX4_settle 221 = .ok (.goto (-124), 3) := by decide +kernel
theorem dX4_settle_224 : decode cX4_settle 224 = .ok (.return_, 1) := by decide +kernel
theorem dX4_bestToAsk_0 : decode cX4_bestToAsk 0 = .ok (.iload_n 1, 1) := by decide +kernel
theorem dX4_bestToAsk_1 : decode cX4_bestToAsk 1 = .ok (.ifCond .eq 21, 3) := by decide +kernel
theorem dX4_bestToAsk_4 : decode cX4_bestToAsk 4 = .ok (.aload_n 0, 1) := by decide +kernel
theorem dX4_bestToAsk_5 : decode cX4_bestToAsk 5 = .ok (.getfield 30, 3) := by decide +kernel
theorem dX4_bestToAsk_8 : decode cX4_bestToAsk 8 = .ok (.getfield 53, 3) := by decide +kernel
theorem dX4_bestToAsk_11 : decode cX4_bestToAsk 11 = .ok (.getfield 63, 3) := by decide +kernel
theorem dX4_bestToAsk_14 : decode cX4_bestToAsk 14 = .ok (.bipush 6, 2) := by decide +kernel
theorem dX4_bestToAsk_16 : decode cX4_bestToAsk 16 = .ok (.invokestatic 84, 3) := by decide +kernel
theorem dX4_bestToAsk_19 : decode cX4_bestToAsk 19 = .ok (.goto 17, 3) := by decide +kernel
theorem dX4_bestToAsk_22 : decode cX4_bestToAsk 22 = .ok (.aload_n 0, 1) := by decide +kernel
theorem dX4_bestToAsk_23 : decode cX4_bestToAsk 23 = .ok (.getfield 30, 3) := by decide +kernel
theorem dX4_bestToAsk_26 : decode cX4_bestToAsk 26 = .ok (.getfield 53, 3) := by decide +kernel
theorem dX4_bestToAsk_29 : decode cX4_bestToAsk 29 = .ok (.getfield 57, 3) := by decide +kernel
theorem dX4_bestToAsk_32 : decode cX4_bestToAsk 32 = .ok (.iconst 5, 1) := by decide +kernel
theorem dX4_bestToAsk_33 : decode cX4_bestToAsk 33 = .ok (.invokestatic 84, 3) := by decide +kernel
theorem dX4_bestToAsk_36 : decode cX4_bestToAsk 36 = .ok (.istore_n 3, 1) := by decide +kernel
theorem dX4_bestToAsk_37 : decode cX4_bestToAsk 37 = .ok (.iconst (-1), 1) := by decide +kernel
theorem dX4_bestToAsk_38 : decode cX4_bestToAsk 38 = .ok (.istore 4, 2) := by decide +kernel
theorem dX4_bestToAsk_40 : decode cX4_bestToAsk 40 = .ok (.iconst 0, 1) := by decide +kernel
theorem dX4_bestToAsk_41 : decode cX4_bestToAsk 41 = .ok (.istore 5, 2) := by decide +kernel
theorem dX4_bestToAsk_43 : decode cX4_bestToAsk 43 = .ok (.iload 5, 2) := by decide +kernel
theorem dX4_bestToAsk_45 : decode cX4_bestToAsk 45 = .ok (.iload_n 3, 1) := by decide +kernel
theorem dX4_bestToAsk_46 : decode cX4_bestToAsk 46 = .ok (.if_icmp .ge 68, 3) := by decide +kernel
theorem dX4_bestToAsk_49 : decode cX4_bestToAsk 49 = .ok (.iload_n 1, 1) := by decide +kernel
theorem dX4_bestToAsk_50 : decode cX4_bestToAsk 50 = .ok (.ifCond .eq 13, 3) := by decide +kernel
theorem dX4_bestToAsk_53 : decode cX4_bestToAsk 53 = .ok (.aload_n 0, 1) := by decide +kernel
theorem dX4_bestToAsk_54 : decode cX4_bestToAsk 54 = .ok (.iload_n 2, 1) := by decide +kernel
theorem dX4_bestToAsk_55 : decode cX4_bestToAsk 55 = .ok (.iload 5, 2) := by decide +kernel
theorem dX4_bestToAsk_57 : decode cX4_bestToAsk 57 = .ok (.invokevirtual 70, 3) := by decide +kernel
theorem dX4_bestToAsk_60 : decode cX4_bestToAsk 60 = .ok (.goto 10, 3) := by decide +kernel
theorem dX4_bestToAsk_63 : decode cX4_bestToAsk 63 = .ok (.aload_n 0, 1) := by decide +kernel
theorem dX4_bestToAsk_64 : decode cX4_bestToAsk 64 = .ok (.iload 5, 2) := by decide +kernel
theorem dX4_bestToAsk_66 : decode cX4_bestToAsk 66 = .ok (.iload_n 2, 1) := by decide +kernel
theorem dX4_bestToAsk_67 : decode cX4_bestToAsk 67 = .ok (.invokevirtual 70, 3) := by decide +kernel
theorem dX4_bestToAsk_70 : decode cX4_bestToAsk 70 = .ok (.istore 6, 2) := by decide +kernel
theorem dX4_bestToAsk_72 : decode cX4_bestToAsk 72 = .ok (.iload 6, 2) := by decide +kernel
theorem dX4_bestToAsk_74 : decode cX4_bestToAsk 74 = .ok (.ifCond .eq 34, 3) := by decide +kernel
theorem dX4_bestToAsk_77 : decode cX4_bestToAsk 77 = .ok (.aload_n 0, 1) := by decide +kernel
theorem dX4_bestToAsk_78 : decode cX4_bestToAsk 78 = .ok (.getfield 18, 3) := by decide +kernel
theorem dX4_bestToAsk_81 : decode cX4_bestToAsk 81 = .ok (.iload_n 2, 1) := by decide +kernel
theorem dX4_bestToAsk_82 : decode cX4_bestToAsk 82 = .ok (.iaload, 1) := by decide +kernel
theorem dX4_bestToAsk_83 : decode cX4_bestToAsk 83 = .ok (.iload 5, 2) := by decide +kernel
theorem dX4_bestToAsk_85 : decode cX4_bestToAsk 85 = .ok (.invokestatic 93, 3) := by decide +kernel
theorem dX4_bestToAsk_88 : decode cX4_bestToAsk 88 = .ok (.ifCond .ne 20, 3) := by decide +kernel
theorem dX4_bestToAsk_91 : decode cX4_bestToAsk 91 = .ok (.aload_n 0, 1) := by decide +kernel
theorem dX4_bestToAsk_92 : decode cX4_bestToAsk 92 = .ok (.iload_n 1, 1) := by decide +kernel
theorem dX4_bestToAsk_93 : decode cX4_bestToAsk 93 = .ok (.iload_n 2, 1) := by decide +kernel
theorem dX4_bestToAsk_94 : decode cX4_bestToAsk 94 = .ok (.iload 5, 2) := by decide +kernel
theorem dX4_bestToAsk_96 : decode cX4_bestToAsk 96 = .ok (.iload 4, 2) := by decide +kernel
theorem dX4_bestToAsk_98 : decode cX4_bestToAsk 98 = .ok (.invokevirtual 74, 3) := by decide +kernel
theorem dX4_bestToAsk_101 : decode cX4_bestToAsk 101 = .ok (.ifCond .eq 7, 3) := by decide +kernel
theorem dX4_bestToAsk_104 : decode cX4_bestToAsk 104 = .ok (.iload 5, 2) := by decide +kernel
theorem dX4_bestToAsk_106 : decode cX4_bestToAsk 106 = .ok (.istore 4, 2) := by decide +kernel
theorem dX4_bestToAsk_108 : decode cX4_bestToAsk 108 = .ok (.iinc 5 1, 3) := by decide +kernel
theorem dX4_bestToAsk_111 : decode cX4_bestToAsk 111 = .ok (.goto (-68), 3) := by decide +kernel
theorem dX4_bestToAsk_114 : decode cX4_bestToAsk 114 = .ok (.iload 4, 2) := by decide +kernel
theorem dX4_bestToAsk_116 : decode cX4_bestToAsk 116 = .ok (.ireturn, 1) := by decide +kernel
theorem dX4_hasOf_0 : decode cX4_hasOf 0 = .ok (.iload_n 1, 1) := by decide +kernel
theorem dX4_hasOf_1 : decode cX4_hasOf 1 = .ok (.ifCond .lt 17, 3) := by decide +kernel
theorem dX4_hasOf_4 : decode cX4_hasOf 4 = .ok (.iload_n 1, 1) := by decide +kernel
theorem dX4_hasOf_5 : decode cX4_hasOf 5 = .ok (.iconst 5, 1) := by decide +kernel
theorem dX4_hasOf_6 : decode cX4_hasOf 6 = .ok (.if_icmp .ge 12, 3) := by decide +kernel
theorem dX4_hasOf_9 : decode cX4_hasOf 9 = .ok (.aload_n 0, 1) := by decide +kernel
theorem dX4_hasOf_10 : decode cX4_hasOf 10 = .ok (.getfield 9, 3) := by decide +kernel
theorem dX4_hasOf_13 : decode cX4_hasOf 13 = .ok (.iload_n 1, 1) := by decide +kernel
theorem dX4_hasOf_14 : decode cX4_hasOf 14 = .ok (.iaload, 1) := by decide +kernel
theorem dX4_hasOf_15 : decode cX4_hasOf 15 = .ok (.goto 4, 3) := by decide +kernel
theorem dX4_hasOf_18 : decode cX4_hasOf 18 = .ok (.iconst (-1), 1) := by decide +kernel
theorem dX4_hasOf_19 : decode cX4_hasOf 19 = .ok (.ireturn, 1) := by decide +kernel
theorem dX4_countStable_0 : decode cX4_countStable 0 = .ok (.aload_n 0, 1) := by decide +kernel
theorem dX4_countStable_1 : decode cX4_countStable 1 = .ok (.iconst 1, 1) := by decide +kernel
theorem dX4_countStable_2 : decode cX4_countStable 2 = .ok (.invokevirtual 96, 3) := by decide +kernel
theorem dX4_countStable_5 : decode cX4_countStable 5 = .ok (.aload_n 0, 1) := by decide +kernel
theorem dX4_countStable_6 : decode cX4_countStable 6 = .ok (.getfield 9, 3) := by decide +kernel
theorem dX4_countStable_9 : decode cX4_countStable 9 = .ok (.iconst 0, 1) := by decide +kernel
theorem dX4_countStable_10 : decode cX4_countStable 10 = .ok (.aload_n 0, 1) := by decide +kernel
theorem dX4_countStable_11 : decode cX4_countStable 11 = .ok (.getfield 21, 3) := by decide +kernel
theorem dX4_countStable_14 : decode cX4_countStable 14 = .ok (.iconst 0, 1) := by decide +kernel
theorem dX4_countStable_15 : decode cX4_countStable 15 = .ok (.iconst 5, 1) := by decide +kernel
theorem dX4_countStable_16 : decode cX4_countStable 16 = .ok (.invokestatic 100, 3) := by decide +kernel
theorem dX4_countStable_19 : decode cX4_countStable 19 = .ok (.aload_n 0, 1) := by decide +kernel
theorem dX4_countStable_20 : decode cX4_countStable 20 = .ok (.iconst 0, 1) := by decide +kernel
theorem dX4_countStable_21 : decode cX4_countStable 21 = .ok (.invokevirtual 96, 3) := by decide +kernel
theorem dX4_countStable_24 : decode cX4_countStable 24 = .ok (.aload_n 0, 1) := by decide +kernel
theorem dX4_countStable_25 : decode cX4_countStable 25 = .ok (.getfield 9, 3) := by decide +kernel
theorem dX4_countStable_28 : decode cX4_countStable 28 = .ok (.iconst 0, 1) := by decide +kernel
theorem dX4_countStable_29 : decode cX4_countStable 29 = .ok (.aload_n 0, 1) := by decide +kernel
theorem dX4_countStable_30 : decode cX4_countStable 30 = .ok (.getfield 24, 3) := by decide +kernel
theorem dX4_countStable_33 : decode cX4_countStable 33 = .ok (.iconst 0, 1) := by decide +kernel
theorem dX4_countStable_34 : decode cX4_countStable 34 = .ok (.iconst 5, 1) := by decide +kernel
theorem dX4_countStable_35 : decode cX4_countStable 35 = .ok (.invokestatic 100, 3) := by decide +kernel
theorem dX4_countStable_38 : decode cX4_countStable 38 = .ok (.aload_n 0, 1) := by decide +kernel
theorem dX4_countStable_39 : decode cX4_countStable 39 = .ok (.getfield 27, 3) := by decide +kernel
theorem dX4_countStable_42 : decode cX4_countStable 42 = .ok (.iconst (-1), 1) := by decide +kernel
theorem dX4_countStable_43 : decode cX4_countStable 43 = .ok (.invokestatic 78, 3) := by decide +kernel
theorem dX4_countStable_46 : decode cX4_countStable 46 = .ok (.aload_n 0, 1) := by decide +kernel
theorem dX4_countStable_47 : decode cX4_countStable 47 = .ok (.iconst 0, 1) := by decide +kernel
theorem dX4_countStable_48 : decode cX4_countStable 48 = .ok (.iconst 0, 1) := by decide +kernel
theorem dX4_countStable_49 : decode cX4_countStable 49 = .ok (.invokevirtual 106, 3) := by decide +kernel
theorem dX4_countStable_52 : decode cX4_countStable 52 = .ok (.ireturn, 1) := by decide +kernel
theorem dX4_countFrom_0 : decode cX4_countFrom 0 = .ok (.iload_n 1, 1) := by decide +kernel
theorem dX4_countFrom_1 : decode cX4_countFrom 1 = .ok (.aload_n 0, 1) := by decide +kernel
theorem dX4_countFrom_2 : decode cX4_countFrom 2 = .ok (.getfield 30, 3) := by decide +kernel
theorem dX4_countFrom_5 : decode cX4_countFrom 5 = .ok (.getfield 53, 3) := by decide +kernel
theorem dX4_countFrom_8 : decode cX4_countFrom 8 = .ok (.getfield 57, 3) := by decide +kernel
theorem dX4_countFrom_11 : decode cX4_countFrom 11 = .ok (.if_icmp .ge 8, 3) := by decide +kernel
theorem dX4_countFrom_14 : decode cX4_countFrom 14 = .ok (.iload_n 1, 1) := by decide +kernel
theorem dX4_countFrom_15 : decode cX4_countFrom 15 = .ok (.iconst 5, 1) := by decide +kernel
theorem dX4_countFrom_16 : decode cX4_countFrom 16 = .ok (.if_icmp .lt 20, 3) := by decide +kernel
theorem dX4_countFrom_19 : decode cX4_countFrom 19 = .ok (.aload_n 0, 1) := by decide +kernel
theorem dX4_countFrom_20 : decode cX4_countFrom 20 = .ok (.aload_n 0, 1) := by decide +kernel
theorem dX4_countFrom_21 : decode cX4_countFrom 21 = .ok (.getfield 27, 3) := by decide +kernel
theorem dX4_countFrom_24 : decode cX4_countFrom 24 = .ok (.invokevirtual 109, 3) := by decide +kernel
theorem dX4_countFrom_27 : decode cX4_countFrom 27 = .ok (.ifCond .ne 7, 3) := by decide +kernel
theorem dX4_countFrom_30 : decode cX4_countFrom 30 = .ok (.iconst 1, 1) := by decide +kernel
theorem dX4_countFrom_31 : decode cX4_countFrom 31 = .ok (.goto 4, 3) := by decide +kernel
theorem dX4_countFrom_34 : decode cX4_countFrom 34 = .ok (.iconst 0, 1) := by decide +kernel
theorem dX4_countFrom_35 : decode cX4_countFrom 35 = .ok (.ireturn, 1) := by decide +kernel
theorem dX4_countFrom_36 : decode cX4_countFrom 36 = .ok (.aload_n 0, 1) := by decide +kernel
theorem dX4_countFrom_37 : decode cX4_countFrom 37 = .ok (.getfield 21, 3) := by decide +kernel
theorem dX4_countFrom_40 : decode cX4_countFrom 40 = .ok (.iload_n 1, 1) := by decide +kernel
theorem dX4_countFrom_41 : decode cX4_countFrom 41 = .ok (.iaload, 1) := by decide +kernel
theorem dX4_countFrom_42 : decode cX4_countFrom 42 = .ok (.iconst (-1), 1) := by decide +kernel
theorem dX4_countFrom_43 : decode cX4_countFrom 43 = .ok (.if_icmp .eq 13, 3) := by decide +kernel
theorem dX4_countFrom_46 : decode cX4_countFrom 46 = .ok (.aload_n 0, 1) := by decide +kernel
theorem dX4_countFrom_47 : decode cX4_countFrom 47 = .ok (.getfield 24, 3) := by decide +kernel
theorem dX4_countFrom_50 : decode cX4_countFrom 50 = .ok (.iload_n 1, 1) := by decide +kernel
theorem dX4_countFrom_51 : decode cX4_countFrom 51 = .ok (.iaload, 1) := by decide +kernel
theorem dX4_countFrom_52 : decode cX4_countFrom 52 = .ok (.iconst (-1), 1) := by decide +kernel
theorem dX4_countFrom_53 : decode cX4_countFrom 53 = .ok (.if_icmp .ne 12, 3) := by decide +kernel
theorem dX4_countFrom_56 : decode cX4_countFrom 56 = .ok (.aload_n 0, 1) := by decide +kernel
theorem dX4_countFrom_57 : decode cX4_countFrom 57 = .ok (.iload_n 1, 1) := by decide +kernel
theorem dX4_countFrom_58 : decode cX4_countFrom 58 = .ok (.iconst 1, 1) := by decide +kernel
theorem dX4_countFrom_59 : decode cX4_countFrom 59 = .ok (.iadd, 1) := by decide +kernel
theorem dX4_countFrom_60 : decode cX4_countFrom 60 = .ok (.iload_n 2, 1) := by decide +kernel
theorem dX4_countFrom_61 : decode cX4_countFrom 61 = .ok (.invokevirtual 106, 3) := by decide +kernel
theorem dX4_countFrom_64 : decode cX4_countFrom 64 = .ok (.ireturn, 1) := by decide +kernel
theorem dX4_countFrom_65 : decode cX4_countFrom 65 = .ok (.iconst 0, 1) := by decide +kernel
theorem dX4_countFrom_66 : decode cX4_countFrom 66 = .ok (.istore_n 3, 1) := by decide +kernel
theorem dX4_countFrom_67 : decode cX4_countFrom 67 = .ok (.iconst 0, 1) := by decide +kernel
theorem dX4_countFrom_68 : decode cX4_countFrom 68 = .ok (.istore 4, 2) := by decide +kernel
theorem dX4_countFrom_70 : decode cX4_countFrom 70 = .ok (.iload 4, 2) := by decide +kernel
theorem dX4_countFrom_72 : decode cX4_countFrom 72 = .ok (.aload_n 0, 1) := by decide +kernel
theorem dX4_countFrom_73 : decode cX4_countFrom 73 = .ok (.getfield 30, 3) := by decide +kernel
theorem dX4_countFrom_76 : decode cX4_countFrom 76 = .ok (.getfield 53, 3) := by decide +kernel
theorem dX4_countFrom_79 : decode cX4_countFrom 79 = .ok (.getfield 63, 3) := by decide +kernel
theorem dX4_countFrom_82 : decode cX4_countFrom 82 = .ok (.if_icmp .ge 95, 3) := by decide +kernel
theorem dX4_countFrom_85 : decode cX4_countFrom 85 = .ok (.iload 4, 2) := by decide +kernel
theorem dX4_countFrom_87 : decode cX4_countFrom 87 = .ok (.bipush 6, 2) := by decide +kernel
theorem dX4_countFrom_89 : decode cX4_countFrom 89 = .ok (.if_icmp .ge 88, 3) := by decide +kernel
theorem dX4_countFrom_92 : decode cX4_countFrom 92 = .ok (.aload_n 0, 1) := by decide +kernel
theorem dX4_countFrom_93 : decode cX4_countFrom 93 = .ok (.iconst 1, 1) := by decide +kernel
theorem dX4_countFrom_94 : decode cX4_countFrom 94 = .ok (.iload_n 1, 1) := by decide +kernel
theorem dX4_countFrom_95 : decode cX4_countFrom 95 = .ok (.iload 4, 2) := by decide +kernel
theorem dX4_countFrom_97 : decode cX4_countFrom 97 = .ok (.aload_n 0, 1) := by decide +kernel
theorem dX4_countFrom_98 : decode cX4_countFrom 98 = .ok (.getfield 21, 3) := by decide +kernel
theorem dX4_countFrom_101 : decode cX4_countFrom 101 = .ok (.iload_n 1, 1) := by decide +kernel
theorem dX4_countFrom_102 : decode cX4_countFrom 102 = .ok (.iaload, 1) := by decide +kernel
theorem dX4_countFrom_103 : decode cX4_countFrom 103 = .ok (.invokevirtual 74, 3) := by decide +kernel
theorem dX4_countFrom_106 : decode cX4_countFrom 106 = .ok (.ifCond .ne 24, 3) := by decide +kernel
theorem dX4_countFrom_109 : decode cX4_countFrom 109 = .ok (.aload_n 0, 1) := by decide +kernel
theorem dX4_countFrom_110 : decode cX4_countFrom 110 = .ok (.iconst 1, 1) := by decide +kernel
theorem dX4_countFrom_111 : decode cX4_countFrom 111 = .ok (.iload_n 1, 1) := by decide +kernel
theorem dX4_countFrom_112 : decode cX4_countFrom 112 = .ok (.aload_n 0, 1) := by decide +kernel
theorem dX4_countFrom_113 : decode cX4_countFrom 113 = .ok (.getfield 24, 3) := by decide +kernel
theorem dX4_countFrom_116 : decode cX4_countFrom 116 = .ok (.iload_n 1, 1) := by decide +kernel
theorem dX4_countFrom_117 : decode cX4_countFrom 117 = .ok (.iaload, 1) := by decide +kernel
theorem dX4_countFrom_118 : decode cX4_countFrom 118 = .ok (.iload 4, 2) := by decide +kernel
theorem dX4_countFrom_120 : decode cX4_countFrom 120 = .ok (.invokevirtual 74, 3) := by decide +kernel
theorem dX4_countFrom_123 : decode cX4_countFrom 123 = .ok (.ifCond .ne 7, 3) := by decide +kernel
theorem dX4_countFrom_126 : decode cX4_countFrom 126 = .ok (.iconst 1, 1) := by decide +kernel
theorem dX4_countFrom_127 : decode cX4_countFrom 127 = .ok (.goto 4, 3) := by decide +kernel
theorem dX4_countFrom_130 : decode cX4_countFrom 130 = .ok (.iconst 0, 1) := by decide +kernel
theorem dX4_countFrom_131 : decode cX4_countFrom 131 = .ok (.istore 5, 2) := by decide +kernel
theorem dX4_countFrom_133 : decode cX4_countFrom 133 = .ok (.iload 5, 2) := by decide +kernel
theorem dX4_countFrom_135 : decode cX4_countFrom 135 = .ok (.ifCond .eq 36, 3) := by decide +kernel
theorem dX4_countFrom_138 : decode cX4_countFrom 138 = .ok (.iload_n 2, 1) := by decide +kernel
theorem dX4_countFrom_139 : decode cX4_countFrom 139 = .ok (.iload 4, 2) := by decide +kernel
theorem dX4_countFrom_141 : decode cX4_countFrom 141 = .ok (.invokestatic 93, 3) := by decide +kernel
theorem dX4_countFrom_144 : decode cX4_countFrom 144 = .ok (.ifCond .ne 27, 3) := by decide +kernel
theorem dX4_countFrom_147 : decode cX4_countFrom 147 = .ok (.aload_n 0, 1) := by decide +kernel
theorem dX4_countFrom_148 : decode cX4_countFrom 148 = .ok (.getfield 27, 3) := by decide +kernel
theorem dX4_countFrom_151 : decode cX4_countFrom 151 = .ok (.iload_n 1, 1) := by decide +kernel
theorem dX4_countFrom_152 : decode cX4_countFrom 152 = .ok (.iload 4, 2) := by decide +kernel
theorem dX4_countFrom_154 : decode cX4_countFrom 154 = .ok (.iastore, 1) := by decide +kernel
theorem dX4_countFrom_155 : decode cX4_countFrom 155 = .ok (.iload_n 3, 1) := by decide +kernel
theorem dX4_countFrom_156 : decode cX4_countFrom 156 = .ok (.aload_n 0, 1) := by decide +kernel
theorem dX4_countFrom_157 : decode cX4_countFrom 157 = .ok (.iload_n 1, 1) := by decide +kernel
theorem dX4_countFrom_158 : decode cX4_countFrom 158 = .ok (.iconst 1, 1) := by decide +kernel
theorem dX4_countFrom_159 : decode cX4_countFrom 159 = .ok (.iadd, 1) := by decide +kernel
theorem dX4_countFrom_160 : decode cX4_countFrom 160 = .ok (.iload_n 2, 1) := by decide +kernel
theorem dX4_countFrom_161 : decode cX4_countFrom 161 = .ok (.iconst 1, 1) := by decide +kernel
theorem dX4_countFrom_162 : decode cX4_countFrom 162 = .ok (.iload 4, 2) := by decide +kernel
theorem dX4_countFrom_164 : decode cX4_countFrom 164 = .ok (.ishl, 1) := by decide +kernel
theorem dX4_countFrom_165 : decode cX4_countFrom 165 = .ok (.ior, 1) := by decide +kernel
theorem dX4_countFrom_166 : decode cX4_countFrom 166 = .ok (.invokevirtual 106, 3) := by decide +kernel
theorem dX4_countFrom_169 : decode cX4_countFrom 169 = .ok (.iadd, 1) := by decide +kernel
theorem dX4_countFrom_170 : decode cX4_countFrom 170 = .ok (.istore_n 3, 1) := by decide +kernel
theorem dX4_countFrom_171 : decode cX4_countFrom 171 = .ok (.iinc 4 1, 3) := by decide +kernel
theorem dX4_countFrom_174 : decode cX4_countFrom 174 = .ok (.goto (-104), 3) := by decide +kernel
theorem dX4_countFrom_177 : decode cX4_countFrom 177 = .ok (.iload_n 3, 1) := by decide +kernel
theorem dX4_countFrom_178 : decode cX4_countFrom 178 = .ok (.ireturn, 1) := by decide +kernel
theorem dX5_init_0 : decode cX5_init 0 = .ok (.aload_n 0, 1) := by decide +kernel
theorem dX5_init_1 : decode cX5_init 1 = .ok (.invokespecial 3, 3) := by decide +kernel
theorem dX5_init_4 : decode cX5_init 4 = .ok (.aload_n 0, 1) := by decide +kernel
theorem dX5_init_5 : decode cX5_init 5 = .ok (.bipush 10, 2) := by decide +kernel
theorem dX5_init_7 : decode cX5_init 7 = .ok (.newarray .int, 2) := by decide +kernel
theorem dX5_init_9 : decode cX5_init 9 = .ok (.putfield 9, 3) := by decide +kernel
theorem dX5_init_12 : decode cX5_init 12 = .ok (.aload_n 0, 1) := by decide +kernel
theorem dX5_init_13 : decode cX5_init 13 = .ok (.aload_n 1, 1) := by decide +kernel
theorem dX5_init_14 : decode cX5_init 14 = .ok (.putfield 15, 3) := by decide +kernel
theorem dX5_init_17 : decode cX5_init 17 = .ok (.return_, 1) := by decide +kernel
theorem dX5_look_0 : decode cX5_look 0 = .ok (.aload_n 0, 1) := by decide +kernel
theorem dX5_look_1 : decode cX5_look 1 = .ok (.iconst 0, 1) := by decide +kernel
theorem dX5_look_2 : decode cX5_look 2 = .ok (.putfield 19, 3) := by decide +kernel
theorem dX5_look_5 : decode cX5_look 5 = .ok (.iload_n 3, 1) := by decide +kernel
theorem dX5_look_6 : decode cX5_look 6 = .ok (.ifCond .lt 24, 3) := by decide +kernel
theorem dX5_look_9 : decode cX5_look 9 = .ok (.iload_n 3, 1) := by decide +kernel
theorem dX5_look_10 : decode cX5_look 10 = .ok (.bipush 6, 2) := by decide +kernel
theorem dX5_look_12 : decode cX5_look 12 = .ok (.if_icmp .ge 18, 3) := by decide +kernel
theorem dX5_look_15 : decode cX5_look 15 = .ok (.aload_n 2, 1) := by decide +kernel
theorem dX5_look_16 : decode cX5_look 16 = .ok (.getfield 23, 3) := by decide +kernel
theorem dX5_look_19 : decode cX5_look 19 = .ok (.iload_n 3, 1) := by decide +kernel
theorem dX5_look_20 : decode cX5_look 20 = .ok (.iaload, 1) := by decide +kernel
theorem dX5_look_21 : decode cX5_look 21 = .ok (.iconst 1, 1) := by decide +kernel
theorem dX5_look_22 : decode cX5_look 22 = .ok (.if_icmp .le 8, 3) := by decide +kernel
theorem dX5_look_25 : decode cX5_look 25 = .ok (.iload 4, 2) := by decide +kernel
theorem dX5_look_27 : decode cX5_look 27 = .ok (.ifCond .ge 4, 3) := by decide +kernel
theorem dX5_look_30 : decode cX5_look 30 = .ok (.return_, 1) := by decide +kernel
theorem dX5_look_31 : decode cX5_look 31 = .ok (.iload 4, 2) := by decide +kernel
theorem dX5_look_33 : decode cX5_look 33 = .ok (.iconst 1, 1) := by decide +kernel
theorem dX5_look_34 : decode cX5_look 34 = .ok (.iadd, 1) := by decide +kernel
theorem dX5_look_35 : decode cX5_look 35 = .ok (.istore 6, 2) := by decide +kernel
theorem dX5_look_37 : decode cX5_look 37 = .ok (.iload 6, 2) := by decide +kernel
theorem dX5_look_39 : decode cX5_look 39 = .ok (.iload 5, 2) := by decide +kernel
theorem dX5_look_41 : decode cX5_look 41 = .ok (.if_icmp .gt 63, 3) := by decide +kernel
theorem dX5_look_44 : decode cX5_look 44 = .ok (.iload 6, 2) := by decide +kernel
theorem dX5_look_46 : decode cX5_look 46 = .ok (.bipush 10, 2) := by decide +kernel
theorem dX5_look_48 : decode cX5_look 48 = .ok (.if_icmp .ge 56, 3) := by decide +kernel
theorem dX5_look_51 : decode cX5_look 51 = .ok (.aload_n 2, 1) := by decide +kernel
theorem dX5_look_52 : decode cX5_look 52 = .ok (.getfield 28, 3) := by decide +kernel
theorem dX5_look_55 : decode cX5_look 55 = .ok (.iload 6, 2) := by decide +kernel
theorem dX5_look_57 : decode cX5_look 57 = .ok (.invokestatic 29, 3) := by decide +kernel
theorem dX5_look_60 : decode cX5_look 60 = .ok (.ifCond .eq 38, 3) := by decide +kernel
theorem dX5_look_63 : decode cX5_look 63 = .ok (.aload_n 0, 1) := by decide +kernel
theorem dX5_look_64 : decode cX5_look 64 = .ok (.dup, 1) := by decide +kernel
theorem dX5_look_65 : decode cX5_look 65 = .ok (.getfield 19, 3) := by decide +kernel
theorem dX5_look_68 : decode cX5_look 68 = .ok (.iconst 1, 1) := by decide +kernel
theorem dX5_look_69 : decode cX5_look 69 = .ok (.iload 6, 2) := by decide +kernel
theorem dX5_look_71 : decode cX5_look 71 = .ok (.ishl, 1) := by decide +kernel
theorem dX5_look_72 : decode cX5_look 72 = .ok (.ior, 1) := by decide +kernel
theorem dX5_look_73 : decode cX5_look 73 = .ok (.putfield 19, 3) := by decide +kernel
theorem dX5_look_76 : decode cX5_look 76 = .ok (.aload_n 0, 1) := by decide +kernel
theorem dX5_look_77 : decode cX5_look 77 = .ok (.getfield 9, 3) := by decide +kernel
theorem dX5_look_80 : decode cX5_look 80 = .ok (.iload 6, 2) := by decide +kernel
theorem dX5_look_82 : decode cX5_look 82 = .ok (.bipush 10, 2) := by decide +kernel
theorem dX5_look_84 : decode cX5_look 84 = .ok (.aload_n 0, 1) := by decide +kernel
theorem dX5_look_85 : decode cX5_look 85 = .ok (.getfield 15, 3) := by decide +kernel
theorem dX5_look_88 : decode cX5_look 88 = .ok (.aload_n 1, 1) := by decide +kernel
theorem dX5_look_89 : decode cX5_look 89 = .ok (.aload_n 2, 1) := by decide +kernel
theorem dX5_look_90 : decode cX5_look 90 = .ok (.iload_n 3, 1) := by decide +kernel
theorem dX5_look_91 : decode cX5_look 91 = .ok (.iload 6, 2) := by decide +kernel
theorem dX5_look_93 : decode cX5_look 93 = .ok (.invokevirtual 33, 3) := by decide +kernel
theorem dX5_look_96 : decode cX5_look 96 = .ok (.isub, 1) := by decide +kernel
theorem dX5_look_97 : decode cX5_look 97 = .ok (.iastore, 1) := by decide +kernel
theorem dX5_look_98 : decode cX5_look 98 = .ok (.iinc 6 1, 3) := by decide +kernel
theorem dX5_look_101 : decode cX5_look 101 = .ok (.goto (-64), 3) := by decide +kernel
theorem dX5_look_104 : decode cX5_look 104 = .ok (.return_, 1) := by decide +kernel
theorem dX5_upperWithout_0 : decode cX5_upperWithout 0 = .ok (.lconst 1, 1) := by decide +kernel
theorem dX5_upperWithout_1 : decode cX5_upperWithout 1 = .ok (.lstore_n 2, 1) := by decide +kernel
theorem dX5_upperWithout_2 : decode cX5_upperWithout 2 = .ok (.iconst 0, 1) := by decide +kernel
theorem dX5_upperWithout_3 : decode cX5_upperWithout 3 = .ok (.istore 4, 2) := by decide +kernel
theorem dX5_upperWithout_5 : decode cX5_upperWithout 5 = .ok (.iload 4, 2) := by decide +kernel
theorem dX5_upperWithout_7 : decode cX5_upperWithout 7 = .ok (.bipush 10, 2) := by decide +kernel
theorem dX5_upperWithout_9 : decode cX5_upperWithout 9 = .ok (.if_icmp .ge 36, 3) := by decide +kernel
theorem dX5_upperWithout_12 : decode cX5_upperWithout 12 = .ok (.aload_n 0, 1) := by decide +kernel
theorem dX5_upperWithout_13 : decode cX5_upperWithout 13 = .ok (.getfield 19, 3) := by decide +kernel
theorem dX5_upperWithout_16 : decode cX5_upperWithout 16 = .ok (.iload_n 1, 1) := by decide +kernel
theorem dX5_upperWithout_17 : decode cX5_upperWithout 17 = .ok (.iconst (-1), 1) := by decide +kernel
theorem dX5_upperWithout_18 : decode cX5_upperWithout 18 = .ok (.ixor, 1) := by decide +kernel
theorem dX5_upperWithout_19 : decode cX5_upperWithout 19 = .ok (.iand, 1) := by decide +kernel
theorem dX5_upperWithout_20 : decode cX5_upperWithout 20 = .ok (.iload 4, 2) := by decide +kernel
theorem dX5_upperWithout_22 : decode cX5_upperWithout 22 = .ok (.invokestatic 29, 3) := by decide +kernel
theorem dX5_upperWithout_25 : decode cX5_upperWithout 25 = .ok (.ifCond .eq 14, 3) := by decide +kernel
theorem dX5_upperWithout_28 : decode cX5_upperWithout 28 = .ok (.lload_n 2, 1) := by decide +kernel
theorem dX5_upperWithout_29 : decode cX5_upperWithout 29 = .ok (.aload_n 0, 1) := by decide +kernel
theorem dX5_upperWithout_30 : decode cX5_upperWithout 30 = .ok (.getfield 9, 3) := by decide +kernel
theorem dX5_upperWithout_33 : decode cX5_upperWithout 33 = .ok (.iload 4, 2) := by decide +kernel
theorem dX5_upperWithout_35 : decode cX5_upperWithout 35 = .ok (.iaload, 1) := by decide +kernel
theorem dX5_upperWithout_36 : decode cX5_upperWithout 36 = .ok (.i2l, 1) := by decide +kernel
theorem dX5_upperWithout_37 : decode cX5_upperWithout 37 = .ok (.lmul, 1) := by decide +kernel
theorem dX5_upperWithout_38 : decode cX5_upperWithout 38 = .ok (.lstore_n 2, 1) := by decide +kernel
theorem dX5_upperWithout_39 : decode cX5_upperWithout 39 = .ok (.iinc 4 1, 3) := by decide +kernel
theorem dX5_upperWithout_42 : decode cX5_upperWithout 42 = .ok (.goto (-37), 3) := by decide +kernel
theorem dX5_upperWithout_45 : decode cX5_upperWithout 45 = .ok (.lload_n 2, 1) := by decide +kernel
theorem dX5_upperWithout_46 : decode cX5_upperWithout 46 = .ok (.lreturn, 1) := by decide +kernel
theorem dX5_lowerWithout_0 : decode cX5_lowerWithout 0 = .ok (.lconst 1, 1) := by decide +kernel
theorem dX5_lowerWithout_1 : decode cX5_lowerWithout 1 = .ok (.lstore_n 2, 1) := by decide +kernel
theorem dX5_lowerWithout_2 : decode cX5_lowerWithout 2 = .ok (.aload_n 0, 1) := by decide +kernel
theorem dX5_lowerWithout_3 : decode cX5_lowerWithout 3 = .ok (.getfield 19, 3) := by decide +kernel
theorem dX5_lowerWithout_6 : decode cX5_lowerWithout 6 = .ok (.iload_n 1, 1) := by decide +kernel
theorem dX5_lowerWithout_7 : decode cX5_lowerWithout 7 = .ok (.iconst (-1), 1) := by decide +kernel
theorem dX5_lowerWithout_8 : decode cX5_lowerWithout 8 = .ok (.ixor, 1) := by decide +kernel
theorem dX5_lowerWithout_9 : decode cX5_lowerWithout 9 = .ok (.iand, 1) := by decide +kernel
theorem dX5_lowerWithout_10 : decode cX5_lowerWithout 10 = .ok (.invokestatic 39, 3) := by decide +kernel
theorem dX5_lowerWithout_13 : decode cX5_lowerWithout 13 = .ok (.istore 4, 2) := by decide +kernel
theorem dX5_lowerWithout_15 : decode cX5_lowerWithout 15 = .ok (.iload 4, 2) := by decide +kernel
theorem dX5_lowerWithout_17 : decode cX5_lowerWithout 17 = .ok (.ifCond .le 15, 3) := by decide +kernel
theorem dX5_lowerWithout_20 : decode cX5_lowerWithout 20 = .ok (.lload_n 2, 1) := by decide +kernel
theorem dX5_lowerWithout_21 : decode cX5_lowerWithout 21 = .ok (.ldc2_w 45, 3) := by decide +kernel
theorem dX5_lowerWithout_24 : decode cX5_lowerWithout 24 = .ok (.lmul, 1) := by decide +kernel
theorem dX5_lowerWithout_25 : decode cX5_lowerWithout 25 = .ok (.lstore_n 2, 1) := by decide +kernel
theorem dX5_lowerWithout_26 : decode cX5_lowerWithout 26 = .ok (.iinc 4 (-1), 3) := by decide +kernel
theorem dX5_lowerWithout_29 : decode cX5_lowerWithout 29 = .ok (.goto (-14), 3) := by decide +kernel
theorem dX5_lowerWithout_32 : decode cX5_lowerWithout 32 = .ok (.lload_n 2, 1) := by decide +kernel
theorem dX5_lowerWithout_33 : decode cX5_lowerWithout 33 = .ok (.lreturn, 1) := by decide +kernel
theorem dX5_fewestToClear_0 : decode cX5_fewestToClear 0 = .ok (.aload_n 0, 1) := by decide +kernel
theorem dX5_fewestToClear_1 : decode cX5_fewestToClear 1 = .ok (.getfield 19, 3) := by decide +kernel
theorem dX5_fewestToClear_4 : decode cX5_fewestToClear 4 = .ok (.istore_n 2, 1) := by decide +kernel
theorem dX5_fewestToClear_5 : decode cX5_fewestToClear 5 = .ok (.iconst 0, 1) := by decide +kernel
theorem dX5_fewestToClear_6 : decode cX5_fewestToClear 6 = .ok (.istore_n 3, 1) := by decide +kernel
theorem dX5_fewestToClear_7 : decode cX5_fewestToClear 7 = .ok (.iconst 0, 1) := by decide +kernel
theorem dX5_fewestToClear_8 : decode cX5_fewestToClear 8 = .ok (.istore 4, 2) := by decide +kernel
theorem dX5_fewestToClear_10 : decode cX5_fewestToClear 10 = .ok (.iload 4, 2) := by decide +kernel
theorem dX5_fewestToClear_12 : decode cX5_fewestToClear 12 = .ok (.sipush 1024, 3) := by decide +kernel
theorem dX5_fewestToClear_15 : decode cX5_fewestToClear 15 = .ok (.if_icmp .ge 75, 3) := by decide +kernel
theorem dX5_fewestToClear_18 : decode cX5_fewestToClear 18 = .ok (.iload_n 3, 1) := by decide +kernel
theorem dX5_fewestToClear_19 : decode cX5_fewestToClear 19 = .ok (.aload_n 0, 1) := by decide +kernel
theorem dX5_fewestToClear_20 : decode cX5_fewestToClear 20 = .ok (.getfield 19, 3) := by decide +kernel
theorem dX5_fewestToClear_23 : decode cX5_fewestToClear 23 = .ok (.if_icmp .eq 67, 3) := by decide +kernel
theorem dX5_fewestToClear_26 : decode cX5_fewestToClear 26 = .ok (.iload_n 3, 1) := by decide +kernel
theorem dX5_fewestToClear_27 : decode cX5_fewestToClear 27 = .ok (.invokestatic 39, 3) := by decide +kernel
theorem dX5_fewestToClear_30 : decode cX5_fewestToClear 30 = .ok (.iload_n 2, 1) := by decide +kernel
theorem dX5_fewestToClear_31 : decode cX5_fewestToClear 31 = .ok (.invokestatic 39, 3) := by decide +kernel
theorem dX5_fewestToClear_34 : decode cX5_fewestToClear 34 = .ok (.if_icmp .ge 7, 3) := by decide +kernel
theorem dX5_fewestToClear_37 : decode cX5_fewestToClear 37 = .ok (.iconst 1, 1) := by decide +kernel
theorem dX5_fewestToClear_38 : decode cX5_fewestToClear 38 = .ok (.goto 4, 3) := by decide +kernel
theorem dX5_fewestToClear_41 : decode cX5_fewestToClear 41 = .ok (.iconst 0, 1) := by decide +kernel
theorem dX5_fewestToClear_42 : decode cX5_fewestToClear 42 = .ok (.istore 5, 2) := by decide +kernel
theorem dX5_fewestToClear_44 : decode cX5_fewestToClear 44 = .ok (.iload 5, 2) := by decide +kernel
theorem dX5_fewestToClear_46 : decode cX5_fewestToClear 46 = .ok (.ifCond .eq 26, 3) := by decide +kernel
theorem dX5_fewestToClear_49 : decode cX5_fewestToClear 49 = .ok (.aload_n 0, 1) := by decide +kernel
theorem dX5_fewestToClear_50 : decode cX5_fewestToClear 50 = .ok (.iload_n 3, 1) := by decide +kernel
theorem dX5_fewestToClear_51 : decode cX5_fewestToClear 51 = .ok (.invokevirtual 47, 3) := by decide +kernel
theorem dX5_fewestToClear_54 : decode cX5_fewestToClear 54 = .ok (.ldc2_w 45, 3) := by decide +kernel
theorem dX5_fewestToClear_57 : decode cX5_fewestToClear 57 = .ok (.lmul, 1) := by decide +kernel
theorem dX5_fewestToClear_58 : decode cX5_fewestToClear 58 = .ok (.aload_n 0, 1) := by decide +kernel
theorem dX5_fewestToClear_59 : decode cX5_fewestToClear 59 = .ok (.iload_n 3, 1) := by decide +kernel
theorem dX5_fewestToClear_60 : decode cX5_fewestToClear 60 = .ok (.invokevirtual 51, 3) := by decide +kernel
theorem dX5_fewestToClear_63 : decode cX5_fewestToClear 63 = .ok (.iload_n 1, 1) := by decide +kernel
theorem dX5_fewestToClear_64 : decode cX5_fewestToClear 64 = .ok (.i2l, 1) := by decide +kernel
theorem dX5_fewestToClear_65 : decode cX5_fewestToClear 65 = .ok (.lmul, 1) := by decide +kernel
theorem dX5_fewestToClear_66 : decode cX5_fewestToClear 66 = .ok (.lcmp, 1) := by decide +kernel
theorem dX5_fewestToClear_67 : decode cX5_fewestToClear 67 = .ok (.ifCond .lt 5, 3) := by decide +kernel
theorem dX5_fewestToClear_70 : decode cX5_fewestToClear 70 = .ok (.iload_n 3, 1) := by decide +kernel
theorem dX5_fewestToClear_71 : decode cX5_fewestToClear 71 = .ok (.istore_n 2, 1) := by decide +kernel
theorem dX5_fewestToClear_72 : decode cX5_fewestToClear 72 = .ok (.iload_n 3, 1) := by decide +kernel
theorem dX5_fewestToClear_73 : decode cX5_fewestToClear 73 = .ok (.aload_n 0, 1) := by decide +kernel
theorem dX5_fewestToClear_74 : decode cX5_fewestToClear 74 = .ok (.getfield 19, 3) := by decide +kernel
theorem dX5_fewestToClear_77 : decode cX5_fewestToClear 77 = .ok (.isub, 1) := by decide +kernel
theorem dX5_fewestToClear_78 : decode cX5_fewestToClear 78 = .ok (.aload_n 0, 1) := by decide +kernel
theorem dX5_fewestToClear_79 : decode cX5_fewestToClear 79 = .ok (.getfield 19, 3) := by decide +kernel
theorem dX5_fewestToClear_82 : decode cX5_fewestToClear 82 = .ok (.iand, 1) := by decide +kernel
theorem dX5_fewestToClear_83 : decode cX5_fewestToClear 83 = .ok (.istore_n 3, 1) := by decide +kernel
theorem dX5_fewestToClear_84 : decode cX5_fewestToClear 84 = .ok (.iinc 4 1, 3) := by decide +kernel
theorem dX5_fewestToClear_87 : decode cX5_fewestToClear 87 = .ok (.goto (-77), 3) := by decide +kernel
theorem dX5_fewestToClear_90 : decode cX5_fewestToClear 90 = .ok (.iload_n 2, 1) := by decide +kernel
theorem dX5_fewestToClear_91 : decode cX5_fewestToClear 91 = .ok (.ireturn, 1) := by decide +kernel
theorem dX6_init_0 : decode cX6_init 0 = .ok (.aload_n 0, 1) := by decide +kernel
theorem dX6_init_1 : decode cX6_init 1 = .ok (.invokespecial 3, 3) := by decide +kernel
theorem dX6_init_4 : decode cX6_init 4 = .ok (.aload_n 0, 1) := by decide +kernel
theorem dX6_init_5 : decode cX6_init 5 = .ok (.sipush 301, 3) := by decide +kernel
theorem dX6_init_8 : decode cX6_init 8 = .ok (.newarray .int, 2) := by decide +kernel
theorem dX6_init_10 : decode cX6_init 10 = .ok (.putfield 9, 3) := by decide +kernel
theorem dX6_init_13 : decode cX6_init 13 = .ok (.aload_n 0, 1) := by decide +kernel
theorem dX6_init_14 : decode cX6_init 14 = .ok (.sipush 301, 3) := by decide +kernel
theorem dX6_init_17 : decode cX6_init 17 = .ok (.newarray .int, 2) := by decide +kernel
theorem dX6_init_19 : decode cX6_init 19 = .ok (.putfield 15, 3) := by decide +kernel
theorem dX6_init_22 : decode cX6_init 22 = .ok (.aload_n 0, 1) := by decide +kernel
theorem dX6_init_23 : decode cX6_init 23 = .ok (.sipush 301, 3) := by decide +kernel
theorem dX6_init_26 : decode cX6_init 26 = .ok (.newarray .int, 2) := by decide +kernel
theorem dX6_init_28 : decode cX6_init 28 = .ok (.putfield 18, 3) := by decide +kernel
theorem dX6_init_31 : decode cX6_init 31 = .ok (.aload_n 0, 1) := by decide +kernel
theorem dX6_init_32 : decode cX6_init 32 = .ok (.aload_n 1, 1) := by decide +kernel
theorem dX6_init_33 : decode cX6_init 33 = .ok (.putfield 21, 3) := by decide +kernel
theorem dX6_init_36 : decode cX6_init 36 = .ok (.aload_n 0, 1) := by decide +kernel
theorem dX6_init_37 : decode cX6_init 37 = .ok (.new 24, 3) := by decide +kernel
theorem dX6_init_40 : decode cX6_init 40 = .ok (.dup, 1) := by decide +kernel
theorem dX6_init_41 : decode cX6_init 41 = .ok (.invokespecial 26, 3) := by decide +kernel
theorem dX6_init_44 : decode cX6_init 44 = .ok (.putfield 27, 3) := by decide +kernel
theorem dX6_init_47 : decode cX6_init 47 = .ok (.return_, 1) := by decide +kernel
theorem dX6_readInto_0 : decode cX6_readInto 0 = .ok (.aload_n 0, 1) := by decide +kernel
theorem dX6_readInto_1 : decode cX6_readInto 1 = .ok (.aload_n 1, 1) := by decide +kernel
theorem dX6_readInto_2 : decode cX6_readInto 2 = .ok (.putfield 27, 3) := by decide +kernel
theorem dX6_readInto_5 : decode cX6_readInto 5 = .ok (.aload_n 0, 1) := by decide +kernel
theorem dX6_readInto_6 : decode cX6_readInto 6 = .ok (.getfield 27, 3) := by decide +kernel
theorem dX6_readInto_9 : decode cX6_readInto 9 = .ok (.invokevirtual 31, 3) := by decide +kernel
theorem dX6_readInto_12 : decode cX6_readInto 12 = .ok (.aload_n 0, 1) := by decide +kernel
theorem dX6_readInto_13 : decode cX6_readInto 13 = .ok (.iconst 0, 1) := by decide +kernel
theorem dX6_readInto_14 : decode cX6_readInto 14 = .ok (.putfield 34, 3) := by decide +kernel
theorem dX6_readInto_17 : decode cX6_readInto 17 = .ok (.aload_n 0, 1) := by decide +kernel
theorem dX6_readInto_18 : decode cX6_readInto 18 = .ok (.iconst (-1), 1) := by decide +kernel
theorem dX6_readInto_19 : decode cX6_readInto 19 = .ok (.putfield 38, 3) := by decide +kernel
theorem dX6_readInto_22 : decode cX6_readInto 22 = .ok (.aload_n 0, 1) := by decide +kernel
theorem dX6_readInto_23 : decode cX6_readInto 23 = .ok (.iload_n 2, 1) := by decide +kernel
theorem dX6_readInto_24 : decode cX6_readInto 24 = .ok (.sipush 300, 3) := by decide +kernel
theorem dX6_readInto_27 : decode cX6_readInto 27 = .ok (.aload_n 0, 1) := by decide +kernel
theorem dX6_readInto_28 : decode cX6_readInto 28 = .ok (.getfield 21, 3) := by decide +kernel
theorem dX6_readInto_31 : decode cX6_readInto 31 = .ok (.arraylength, 1) := by decide +kernel
theorem dX6_readInto_32 : decode cX6_readInto 32 = .ok (.invokestatic 41, 3) := by decide +kernel
theorem dX6_readInto_35 : decode cX6_readInto 35 = .ok (.invokestatic 41, 3) := by decide +kernel
theorem dX6_readInto_38 : decode cX6_readInto 38 = .ok (.invokevirtual 47, 3) := by decide +kernel
theorem dX6_readInto_41 : decode cX6_readInto 41 = .ok (.aload_n 0, 1) := by decide +kernel
theorem dX6_readInto_42 : decode cX6_readInto 42 = .ok (.iconst 0, 1) := by decide +kernel
theorem dX6_readInto_43 : decode cX6_readInto 43 = .ok (.putfield 51, 3) := by decide +kernel
theorem dX6_readInto_46 : decode cX6_readInto 46 = .ok (.aload_n 0, 1) := by decide +kernel
theorem dX6_readInto_47 : decode cX6_readInto 47 = .ok (.aload_n 0, 1) := by decide +kernel
theorem dX6_readInto_48 : decode cX6_readInto 48 = .ok (.getfield 9, 3) := by decide +kernel
theorem dX6_readInto_51 : decode cX6_readInto 51 = .ok (.iconst 0, 1) := by decide +kernel
theorem dX6_readInto_52 : decode cX6_readInto 52 = .ok (.iaload, 1) := by decide +kernel
theorem dX6_readInto_53 : decode cX6_readInto 53 = .ok (.putfield 54, 3) := by decide +kernel
theorem dX6_readInto_56 : decode cX6_readInto 56 = .ok (.iconst 0, 1) := by decide +kernel
theorem dX6_readInto_57 : decode cX6_readInto 57 = .ok (.istore_n 3, 1) := by decide +kernel
theorem dX6_readInto_58 : decode cX6_readInto 58 = .ok (.iload_n 3, 1) := by decide +kernel
theorem dX6_readInto_59 : decode cX6_readInto 59 = .ok (.bipush 24, 2) := by decide +kernel
theorem dX6_readInto_61 : decode cX6_readInto 61 = .ok (.if_icmp .gt 22, 3) := by decide +kernel
theorem dX6_readInto_64 : decode cX6_readInto 64 = .ok (.aload_n 0, 1) := by decide +kernel
theorem dX6_readInto_65 : decode cX6_readInto 65 = .ok (.getfield 54, 3) := by decide +kernel
theorem dX6_readInto_68 : decode cX6_readInto 68 = .ok (.bipush 53, 2) := by decide +kernel
theorem dX6_readInto_70 : decode cX6_readInto 70 = .ok (.if_icmp .eq 13, 3) := by decide +kernel
theorem dX6_readInto_73 : decode cX6_readInto 73 = .ok (.aload_n 0, 1) := by decide +kernel
theorem dX6_readInto_74 : decode cX6_readInto 74 = .ok (.invokevirtual 57, 3) := by decide +kernel
theorem dX6_readInto_77 : decode cX6_readInto 77 = .ok (.iinc 3 1, 3) := by decide +kernel
theorem dX6_readInto_80 : decode cX6_readInto 80 = .ok (.goto (-22), 3) := by decide +kernel
theorem dX6_readInto_83 : decode cX6_readInto 83 = .ok (.return_, 1) := by decide +kernel
theorem dX6_splitTape_0 : decode cX6_splitTape 0 = .ok (.iconst 0, 1) := by decide +kernel
theorem dX6_splitTape_1 : decode cX6_splitTape 1 = .ok (.istore_n 2, 1) := by decide +kernel
theorem dX6_splitTape_2 : decode cX6_splitTape 2 = .ok (.iconst 0, 1) := by decide +kernel
theorem dX6_splitTape_3 : decode cX6_splitTape 3 = .ok (.istore_n 3, 1) := by decide +kernel
theorem dX6_splitTape_4 : decode cX6_splitTape 4 = .ok (.iload_n 3, 1) := by decide +kernel
theorem dX6_splitTape_5 : decode cX6_splitTape 5 = .ok (.iload_n 1, 1) := by decide +kernel
theorem dX6_splitTape_6 : decode cX6_splitTape 6 = .ok (.if_icmp .ge 235, 3) := by decide +kernel
theorem dX6_splitTape_9 : decode cX6_splitTape 9 = .ok (.iload_n 2, 1) := by decide +kernel
theorem dX6_splitTape_10 : decode cX6_splitTape 10 = .ok (.sipush 300, 3) := by decide +kernel
theorem dX6_splitTape_13 : decode cX6_splitTape 13 = .ok (.if_icmp .ge 228, 3) := by decide +kernel
theorem dX6_splitTape_16 : decode cX6_splitTape 16 = .ok (.aload_n 0, 1) := by decide +kernel
theorem dX6_splitTape_17 : decode cX6_splitTape 17 = .ok (.getfield 21, 3) := by decide +kernel
theorem dX6_splitTape_20 : decode cX6_splitTape 20 = .ok (.iload_n 3, 1) := by decide +kernel
theorem dX6_splitTape_21 : decode cX6_splitTape 21 = .ok (.iaload, 1) := by decide +kernel
theorem dX6_splitTape_22 : decode cX6_splitTape 22 = .ok (.istore 4, 2) := by decide +kernel
theorem dX6_splitTape_24 : decode cX6_splitTape 24 = .ok (.iload_n 3, 1) := by decide +kernel
theorem dX6_splitTape_25 : decode cX6_splitTape 25 = .ok (.iconst 1, 1) := by decide +kernel
theorem dX6_splitTape_26 : decode cX6_splitTape 26 = .ok (.iadd, 1) := by decide +kernel
theorem dX6_splitTape_27 : decode cX6_splitTape 27 = .ok (.istore 5, 2) := by decide +kernel
theorem dX6_splitTape_29 : decode cX6_splitTape 29 = .ok (.iload 4, 2) := by decide +kernel
theorem dX6_splitTape_31 : decode cX6_splitTape 31 = .ok (.bipush 32, 2) := by decide +kernel
theorem dX6_splitTape_33 : decode cX6_splitTape 33 = .ok (.if_icmp .eq 10, 3) := by decide +kernel
theorem dX6_splitTape_36 : decode cX6_splitTape 36 = .ok (.iload 4, 2) := by decide +kernel
theorem dX6_splitTape_38 : decode cX6_splitTape 38 = .ok (.bipush 10, 2) := by decide +kernel
theorem dX6_splitTape_40 : decode cX6_splitTape 40 = .ok (.if_icmp .ne 9, 3) := by decide +kernel
theorem dX6_splitTape_43 : decode cX6_splitTape 43 = .ok (.iload 5, 2) := by decide +kernel
theorem dX6_splitTape_45 : decode cX6_splitTape 45 = .ok (.istore_n 3, 1) := by decide +kernel
theorem dX6_splitTape_46 : decode cX6_splitTape 46 = .ok (.goto (-42), 3) := by decide +kernel
theorem dX6_splitTape_49 : decode cX6_splitTape 49 = .ok (.iload 4, 2) := by decide +kernel
theorem dX6_splitTape_51 : decode cX6_splitTape 51 = .ok (.invokestatic 60, 3) := by decide +kernel
theorem dX6_splitTape_54 : decode cX6_splitTape 54 = .ok (.ifCond .eq 44, 3) := by decide +kernel
theorem dX6_splitTape_57 : decode cX6_splitTape 57 = .ok (.iload 5, 2) := by decide +kernel
theorem dX6_splitTape_59 : decode cX6_splitTape 59 = .ok (.iload_n 1, 1) := by decide +kernel
theorem dX6_splitTape_60 : decode cX6_splitTape 60 = .ok (.if_icmp .ge 22, 3) := by decide +kernel
theorem dX6_splitTape_63 : decode cX6_splitTape 63 = .ok (.aload_n 0, 1) := by decide +kernel
theorem dX6_splitTape_64 : decode cX6_splitTape 64 = .ok (.getfield 21, 3) := by decide +kernel
theorem dX6_splitTape_67 : decode cX6_splitTape 67 = .ok (.iload 5, 2) := by decide +kernel
theorem dX6_splitTape_69 : decode cX6_splitTape 69 = .ok (.iaload, 1) := by decide +kernel
theorem dX6_splitTape_70 : decode cX6_splitTape 70 = .ok (.invokestatic 60, 3) := by decide +kernel
theorem dX6_splitTape_73 : decode cX6_splitTape 73 = .ok (.ifCond .eq 9, 3) := by decide +kernel
theorem dX6_splitTape_76 : decode cX6_splitTape 76 = .ok (.iinc 5 1, 3) := by decide +kernel
theorem dX6_splitTape_79 : decode cX6_splitTape 79 = .ok (.goto (-22), 3) := by decide +kernel
theorem dX6_splitTape_82 : decode cX6_splitTape 82 = .ok (.aload_n 0, 1) := by decide +kernel
theorem dX6_splitTape_83 : decode cX6_splitTape 83 = .ok (.getfield 9, 3) := by decide +kernel
theorem dX6_splitTape_86 : decode cX6_splitTape 86 = .ok (.iload_n 2, 1) := by decide +kernel
theorem dX6_splitTape_87 : decode cX6_splitTape 87 = .ok (.aload_n 0, 1) := by decide +kernel
theorem dX6_splitTape_88 : decode cX6_splitTape 88 = .ok (.iload_n 3, 1) := by decide +kernel
theorem dX6_splitTape_89 : decode cX6_splitTape 89 = .ok (.iload 5, 2) := by decide +kernel
theorem dX6_splitTape_91 : decode cX6_splitTape 91 = .ok (.invokevirtual 64, 3) := by decide +kernel
theorem dX6_splitTape_94 : decode cX6_splitTape 94 = .ok (.iastore, 1) := by decide +kernel
theorem dX6_splitTape_95 : decode cX6_splitTape 95 = .ok (.goto 130, 3) := by decide +kernel
theorem dX6_splitTape_98 : decode cX6_splitTape 98 = .ok (.iload 4, 2) := by decide +kernel
theorem dX6_splitTape_100 : decode cX6_splitTape 100 = .ok (.invokestatic 67, 3) := by decide +kernel
theorem dX6_splitTape_103 : decode cX6_splitTape 103 = .ok (.ifCond .eq 52, 3) := by decide +kernel
theorem dX6_splitTape_106 : decode cX6_splitTape 106 = .ok (.iload 5, 2) := by decide +kernel
theorem dX6_splitTape_108 : decode cX6_splitTape 108 = .ok (.iload_n 1, 1) := by decide +kernel
theorem dX6_splitTape_109 : decode cX6_splitTape 109 = .ok (.if_icmp .ge 22, 3) := by decide +kernel
theorem dX6_splitTape_112 : decode cX6_splitTape 112 = .ok (.aload_n 0, 1) := by decide +kernel
theorem dX6_splitTape_113 : decode cX6_splitTape 113 = .ok (.getfield 21, 3) := by decide +kernel
theorem dX6_splitTape_116 : decode cX6_splitTape 116 = .ok (.iload 5, 2) := by decide +kernel
theorem dX6_splitTape_118 : decode cX6_splitTape 118 = .ok (.iaload, 1) := by decide +kernel
theorem dX6_splitTape_119 : decode cX6_splitTape 119 = .ok (.invokestatic 67, 3) := by decide +kernel
theorem dX6_splitTape_122 : decode cX6_splitTape 122 = .ok (.ifCond .eq 9, 3) := by decide +kernel
theorem dX6_splitTape_125 : decode cX6_splitTape 125 = .ok (.iinc 5 1, 3) := by decide +kernel
theorem dX6_splitTape_128 : decode cX6_splitTape 128 = .ok (.goto (-22), 3) := by decide +kernel
theorem dX6_splitTape_131 : decode cX6_splitTape 131 = .ok (.aload_n 0, 1) := by decide +kernel
theorem dX6_splitTape_132 : decode cX6_splitTape 132 = .ok (.getfield 9, 3) := by decide +kernel
theorem dX6_splitTape_135 : decode cX6_splitTape 135 = .ok (.iload_n 2, 1) := by decide +kernel
theorem dX6_splitTape_136 : decode cX6_splitTape 136 = .ok (.bipush 32, 2) := by decide +kernel
theorem dX6_splitTape_138 : decode cX6_splitTape 138 = .ok (.iastore, 1) := by decide +kernel
theorem dX6_splitTape_139 : decode cX6_splitTape 139 = .ok (.aload_n 0, 1) := by decide +kernel
theorem dX6_splitTape_140 : decode cX6_splitTape 140 = .ok (.getfield 18, 3) := by decide +kernel
theorem dX6_splitTape_143 : decode cX6_splitTape 143 = .ok (.iload_n 2, 1) := by decide +kernel
theorem dX6_splitTape_144 : decode cX6_splitTape 144 = .ok (.aload_n 0, 1) := by decide +kernel
theorem dX6_splitTape_145 : decode cX6_splitTape 145 = .ok (.iload_n 3, 1) := by decide +kernel
theorem dX6_splitTape_146 : decode cX6_splitTape 146 = .ok (.iload 5, 2) := by decide +kernel
theorem dX6_splitTape_148 : decode cX6_splitTape 148 = .ok (.invokevirtual 70, 3) := by decide +kernel
theorem dX6_splitTape_151 : decode cX6_splitTape 151 = .ok (.iastore, 1) := by decide +kernel
theorem dX6_splitTape_152 : decode cX6_splitTape 152 = .ok (.goto 73, 3) := by decide +kernel
theorem dX6_splitTape_155 : decode cX6_splitTape 155 = .ok (.iload 5, 2) := by decide +kernel
theorem dX6_splitTape_157 : decode cX6_splitTape 157 = .ok (.iload_n 1, 1) := by decide +kernel
theorem dX6_splitTape_158 : decode cX6_splitTape 158 = .ok (.if_icmp .ge 19, 3) := by decide +kernel
theorem dX6_splitTape_161 : decode cX6_splitTape 161 = .ok (.aload_n 0, 1) := by decide +kernel
theorem dX6_splitTape_162 : decode cX6_splitTape 162 = .ok (.getfield 21, 3) := by decide +kernel
theorem dX6_splitTape_165 : decode cX6_splitTape 165 = .ok (.iload 5, 2) := by decide +kernel
theorem dX6_splitTape_167 : decode cX6_splitTape 167 = .ok (.iaload, 1) := by decide +kernel
theorem dX6_splitTape_168 : decode cX6_splitTape 168 = .ok (.bipush 61, 2) := by decide +kernel
theorem dX6_splitTape_170 : decode cX6_splitTape 170 = .ok (.if_icmp .ne 7, 3) := by decide +kernel
theorem dX6_splitTape_173 : decode cX6_splitTape 173 = .ok (.iconst 1, 1) := by decide +kernel
theorem dX6_splitTape_174 : decode cX6_splitTape 174 = .ok (.goto 4, 3) := by decide +kernel
theorem dX6_splitTape_177 : decode cX6_splitTape 177 = .ok (.iconst 0, 1) := by decide +kernel
theorem dX6_splitTape_178 : decode cX6_splitTape 178 = .ok (.istore 6, 2) := by decide +kernel
theorem dX6_splitTape_180 : decode cX6_splitTape 180 = .ok (.aload_n 0, 1) := by decide +kernel
theorem dX6_splitTape_181 : decode cX6_splitTape 181 = .ok (.getfield 9, 3) := by decide +kernel
theorem dX6_splitTape_184 : decode cX6_splitTape 184 = .ok (.iload_n 2, 1) := by decide +kernel
theorem dX6_splitTape_185 : decode cX6_splitTape 185 = .ok (.iload 4, 2) := by decide +kernel
theorem dX6_splitTape_187 : decode cX6_splitTape 187 = .ok (.iload 6, 2) := by decide +kernel
theorem dX6_splitTape_189 : decode cX6_splitTape 189 = .ok (.invokestatic 73, 3) := by decide +kernel
theorem dX6_splitTape_192 : decode cX6_splitTape 192 = .ok (.iastore, 1) := by decide +kernel
theorem dX6_splitTape_193 : decode cX6_splitTape 193 = .ok (.iload 5, 2) := by decide +kernel
theorem dX6_splitTape_195 : decode cX6_splitTape 195 = .ok (.aload_n 0, 1) := by decide +kernel
theorem dX6_splitTape_196 : decode cX6_splitTape 196 = .ok (.getfield 9, 3) := by decide +kernel
theorem dX6_splitTape_199 : decode cX6_splitTape 199 = .ok (.iload_n 2, 1) := by decide +kernel
theorem dX6_splitTape_200 : decode cX6_splitTape 200 = .ok (.iaload, 1) := by decide +kernel
theorem dX6_splitTape_201 : decode cX6_splitTape 201 = .ok (.bipush 51, 2) := by decide +kernel
theorem dX6_splitTape_203 : decode cX6_splitTape 203 = .ok (.if_icmp .eq 14, 3) := by decide +kernel
theorem dX6_splitTape_206 : decode cX6_splitTape 206 = .ok (.aload_n 0, 1) := by decide +kernel
theorem dX6_splitTape_207 : decode cX6_splitTape 207 = .ok (.getfield 9, 3) := by decide +kernel
theorem dX6_splitTape_210 : decode cX6_splitTape 210 = .ok (.iload_n 2, 1) := by decide +kernel
theorem dX6_splitTape_211 : decode cX6_splitTape 211 = .ok (.iaload, 1) := by decide +kernel
theorem dX6_splitTape_212 : decode cX6_splitTape 212 = .ok (.bipush 52, 2) := by decide +kernel
theorem dX6_splitTape_214 : decode cX6_splitTape 214 = .ok (.if_icmp .ne 7, 3) := by decide +kernel
theorem dX6_splitTape_217 : decode cX6_splitTape 217 = .ok (.iconst 1, 1) := by decide +kernel
theorem dX6_splitTape_218 : decode cX6_splitTape 218 = .ok (.goto 4, 3) := by decide +kernel
theorem dX6_splitTape_221 : decode cX6_splitTape 221 = .ok (.iconst 0, 1) := by decide +kernel
theorem dX6_splitTape_222 : decode cX6_splitTape 222 = .ok (.iadd, 1) := by decide +kernel
theorem dX6_splitTape_223 : decode cX6_splitTape 223 = .ok (.istore 5, 2) := by decide +kernel
theorem dX6_splitTape_225 : decode cX6_splitTape 225 = .ok (.aload_n 0, 1) := by decide +kernel
theorem dX6_splitTape_226 : decode cX6_splitTape 226 = .ok (.getfield 15, 3) := by decide +kernel
theorem dX6_splitTape_229 : decode cX6_splitTape 229 = .ok (.iload_n 2, 1) := by decide +kernel
theorem dX6_splitTape_230 : decode cX6_splitTape 230 = .ok (.iload_n 3, 1) := by decide +kernel
theorem dX6_splitTape_231 : decode cX6_splitTape 231 = .ok (.iastore, 1) := by decide +kernel
theorem dX6_splitTape_232 : decode cX6_splitTape 232 = .ok (.iinc 2 1, 3) := by decide +kernel
theorem dX6_splitTape_235 : decode cX6_splitTape 235 = .ok (.iload 5, 2) := by decide +kernel
theorem dX6_splitTape_237 : decode cX6_splitTape 237 = .ok (.istore_n 3, 1) := by decide +kernel
theorem dX6_splitTape_238 : decode cX6_splitTape 238 = .ok (.goto (-234), 3) := by decide +kernel
theorem dX6_splitTape_241 : decode cX6_splitTape 241 = .ok (.aload_n 0, 1) := by decide +kernel
theorem dX6_splitTape_242 : decode cX6_splitTape 242 = .ok (.getfield 9, 3) := by decide +kernel
theorem dX6_splitTape_245 : decode cX6_splitTape 245 = .ok (.iload_n 2, 1) := by decide +kernel
theorem dX6_splitTape_246 : decode cX6_splitTape 246 = .ok (.bipush 53, 2) := by decide +kernel
theorem dX6_splitTape_248 : decode cX6_splitTape 248 = .ok (.iastore, 1) := by decide +kernel
theorem dX6_splitTape_249 : decode cX6_splitTape 249 = .ok (.aload_n 0, 1) := by decide +kernel
theorem dX6_splitTape_250 : decode cX6_splitTape 250 = .ok (.getfield 15, 3) := by decide +kernel
theorem dX6_splitTape_253 : decode cX6_splitTape 253 = .ok (.iload_n 2, 1) := by decide +kernel
theorem dX6_splitTape_254 : decode cX6_splitTape 254 = .ok (.iload_n 1, 1) := by decide +kernel
theorem dX6_splitTape_255 : decode cX6_splitTape 255 = .ok (.iastore, 1) := by decide +kernel
theorem dX6_splitTape_256 : decode cX6_splitTape 256 = .ok (.return_, 1) := by decide +kernel
theorem dX6_findWord_0 : decode cX6_findWord 0 = .ok (.iconst 0, 1) := by decide +kernel
theorem dX6_findWord_1 : decode cX6_findWord 1 = .ok (.istore_n 3, 1) := by decide +kernel
theorem dX6_findWord_2 : decode cX6_findWord 2 = .ok (.iconst 0, 1) := by decide +kernel
theorem dX6_findWord_3 : decode cX6_findWord 3 = .ok (.istore 4, 2) := by decide +kernel
theorem dX6_findWord_5 : decode cX6_findWord 5 = .ok (.iconst 0, 1) := by decide +kernel
theorem dX6_findWord_6 : decode cX6_findWord 6 = .ok (.istore 5, 2) := by decide +kernel
theorem dX6_findWord_8 : decode cX6_findWord 8 = .ok (.iload 5, 2) := by decide +kernel
theorem dX6_findWord_10 : decode cX6_findWord 10 = .ok (.ldc 77, 2) := by decide +kernel
theorem dX6_findWord_12 : decode cX6_findWord 12 = .ok (.invokevirtual 79, 3) := by decide +kernel
theorem dX6_findWord_15 : decode cX6_findWord 15 = .ok (.if_icmp .ge 55, 3) := by decide +kernel
theorem dX6_findWord_18 : decode cX6_findWord 18 = .ok (.ldc 77, 2) := by decide +kernel
theorem dX6_findWord_20 : decode cX6_findWord 20 = .ok (.iload 5, 2) := by decide +kernel
theorem dX6_findWord_22 : decode cX6_findWord 22 = .ok (.invokevirtual 85, 3) := by decide +kernel
theorem dX6_findWord_25 : decode cX6_findWord 25 = .ok (.bipush 32, 2) := by decide +kernel
theorem dX6_findWord_27 : decode cX6_findWord 27 = .ok (.if_icmp .ne 37, 3) := by decide +kernel
theorem dX6_findWord_30 : decode cX6_findWord 30 = .ok (.iload 5, 2) := by decide +kernel
theorem dX6_findWord_32 : decode cX6_findWord 32 = .ok (.iload 4, 2) := by decide +kernel
theorem dX6_findWord_34 : decode cX6_findWord 34 = .ok (.isub, 1) := by decide +kernel
theorem dX6_findWord_35 : decode cX6_findWord 35 = .ok (.iload_n 2, 1) := by decide +kernel
theorem dX6_findWord_36 : decode cX6_findWord 36 = .ok (.iload_n 1, 1) := by decide +kernel
theorem dX6_findWord_37 : decode cX6_findWord 37 = .ok (.isub, 1) := by decide +kernel
theorem dX6_findWord_38 : decode cX6_findWord 38 = .ok (.if_icmp .ne 17, 3) := by decide +kernel
theorem dX6_findWord_41 : decode cX6_findWord 41 = .ok (.aload_n 0, 1) := by decide +kernel
theorem dX6_findWord_42 : decode cX6_findWord 42 = .ok (.iload 4, 2) := by decide +kernel
theorem dX6_findWord_44 : decode cX6_findWord 44 = .ok (.iload 5, 2) := by decide +kernel
theorem dX6_findWord_46 : decode cX6_findWord 46 = .ok (.iload_n 1, 1) := by decide +kernel
theorem dX6_findWord_47 : decode cX6_findWord 47 = .ok (.invokevirtual 89, 3) := by decide +kernel
theorem dX6_findWord_50 : decode cX6_findWord 50 = .ok (.ifCond .eq 5, 3) := by decide +kernel
theorem dX6_findWord_53 : decode cX6_findWord 53 = .ok (.iload_n 3, 1) := by decide +kernel
theorem dX6_findWord_54 : decode cX6_findWord 54 = .ok (.ireturn, 1) := by decide +kernel
theorem dX6_findWord_55 : decode cX6_findWord 55 = .ok (.iinc 3 1, 3) := by decide +kernel
theorem dX6_findWord_58 : decode cX6_findWord 58 = .ok (.iload 5, 2) := by decide +kernel
theorem dX6_findWord_60 : decode cX6_findWord 60 = .ok (.iconst 1, 1) := by decide +kernel
theorem dX6_findWord_61 : decode cX6_findWord 61 = .ok (.iadd, 1) := by decide +kernel
theorem dX6_findWord_62 : decode cX6_findWord 62 = .ok (.istore 4, 2) := by decide +kernel
theorem dX6_findWord_64 : decode cX6_findWord 64 = .ok (.iinc 5 1, 3) := by decide +kernel
theorem dX6_findWord_67 : decode cX6_findWord 67 = .ok (.goto (-59), 3) := by decide +kernel
theorem dX6_findWord_70 : decode cX6_findWord 70 = .ok (.bipush 31, 2) := by decide +kernel
theorem dX6_findWord_72 : decode cX6_findWord 72 = .ok (.ireturn, 1) := by decide +kernel
theorem dX6_spells_0 : decode cX6_spells 0 = .ok (.iload_n 1, 1) := by decide +kernel
theorem dX6_spells_1 : decode cX6_spells 1 = .ok (.istore 4, 2) := by decide +kernel
theorem dX6_spells_3 : decode cX6_spells 3 = .ok (.iload 4, 2) := by decide +kernel
theorem dX6_spells_5 : decode cX6_spells 5 = .ok (.iload_n 2, 1) := by decide +kernel
theorem dX6_spells_6 : decode cX6_spells 6 = .ok (.if_icmp .ge 51, 3) := by decide +kernel
theorem dX6_spells_9 : decode cX6_spells 9 = .ok (.iload_n 3, 1) := by decide +kernel
theorem dX6_spells_10 : decode cX6_spells 10 = .ok (.iload 4, 2) := by decide +kernel
theorem dX6_spells_12 : decode cX6_spells 12 = .ok (.iadd, 1) := by decide +kernel
theorem dX6_spells_13 : decode cX6_spells 13 = .ok (.iload_n 1, 1) := by decide +kernel
theorem dX6_spells_14 : decode cX6_spells 14 = .ok (.isub, 1) := by decide +kernel
theorem dX6_spells_15 : decode cX6_spells 15 = .ok (.istore 5, 2) := by decide +kernel
theorem dX6_spells_17 : decode cX6_spells 17 = .ok (.iload 5, 2) := by decide +kernel
theorem dX6_spells_19 : decode cX6_spells 19 = .ok (.ifCond .lt 30, 3) := by decide +kernel
theorem dX6_spells_22 : decode cX6_spells 22 = .ok (.iload 5, 2) := by decide +kernel
theorem dX6_spells_24 : decode cX6_spells 24 = .ok (.aload_n 0, 1) := by decide +kernel
theorem dX6_spells_25 : decode cX6_spells 25 = .ok (.getfield 21, 3) := by decide +kernel
theorem dX6_spells_28 : decode cX6_spells 28 = .ok (.arraylength, 1) := by decide +kernel
theorem dX6_spells_29 : decode cX6_spells 29 = .ok (.if_icmp .ge 20, 3) := by decide +kernel
theorem dX6_spells_32 : decode cX6_spells 32 = .ok (.ldc 77, 2) := by decide +kernel
theorem dX6_spells_34 : decode cX6_spells 34 = .ok (.iload 4, 2) := by decide +kernel
theorem dX6_spells_36 : decode cX6_spells 36 = .ok (.invokevirtual 85, 3) := by decide +kernel
theorem dX6_spells_39 : decode cX6_spells 39 = .ok (.aload_n 0, 1) := by decide +kernel
theorem dX6_spells_40 : decode cX6_spells 40 = .ok (.getfield 21, 3) := by decide +kernel
theorem dX6_spells_43 : decode cX6_spells 43 = .ok (.iload 5, 2) := by decide +kernel
theorem dX6_spells_45 : decode cX6_spells 45 = .ok (.iaload, 1) := by decide +kernel
theorem dX6_spells_46 : decode cX6_spells 46 = .ok (.if_icmp .eq 5, 3) := by decide +kernel
theorem dX6_spells_49 : decode cX6_spells 49 = .ok (.iconst 0, 1) := by decide +kernel
theorem dX6_spells_50 : decode cX6_spells 50 = .ok (.ireturn, 1) := by decide +kernel
theorem dX6_spells_51 : decode cX6_spells 51 = .ok (.iinc 4 1, 3) := by decide +kernel
theorem dX6_spells_54 : decode cX6_spells 54 = .ok (.goto (-51), 3) := by decide +kernel
theorem dX6_spells_57 : decode cX6_spells 57 = .ok (.iconst 1, 1) := by decide +kernel
theorem dX6_spells_58 : decode cX6_spells 58 = .ok (.ireturn, 1) := by decide +kernel
theorem dX6_valueOf_0 : decode cX6_valueOf 0 = .ok (.iconst 0, 1) := by decide +kernel
theorem dX6_valueOf_1 : decode cX6_valueOf 1 = .ok (.istore_n 3, 1) := by decide +kernel
theorem dX6_valueOf_2 : decode cX6_valueOf 2 = .ok (.iload_n 1, 1) := by decide +kernel
theorem dX6_valueOf_3 : decode cX6_valueOf 3 = .ok (.istore 4, 2) := by decide +kernel
theorem dX6_valueOf_5 : decode cX6_valueOf 5 = .ok (.iload 4, 2) := by decide +kernel
theorem dX6_valueOf_7 : decode cX6_valueOf 7 = .ok (.ifCond .lt 47, 3) := by decide +kernel
theorem dX6_valueOf_10 : decode cX6_valueOf 10 = .ok (.iload 4, 2) := by decide +kernel
theorem dX6_valueOf_12 : decode cX6_valueOf 12 = .ok (.iload_n 2, 1) := by decide +kernel
theorem dX6_valueOf_13 : decode cX6_valueOf 13 = .ok (.if_icmp .ge 41, 3) := by decide +kernel
theorem dX6_valueOf_16 : decode cX6_valueOf 16 = .ok (.iload 4, 2) := by decide +kernel
theorem dX6_valueOf_18 : decode cX6_valueOf 18 = .ok (.aload_n 0, 1) := by decide +kernel
theorem dX6_valueOf_19 : decode cX6_valueOf 19 = .ok (.getfield 21, 3) := by decide +kernel
theorem dX6_valueOf_22 : decode cX6_valueOf 22 = .ok (.arraylength, 1) := by decide +kernel
theorem dX6_valueOf_23 : decode cX6_valueOf 23 = .ok (.if_icmp .ge 31, 3) := by decide +kernel
theorem dX6_valueOf_26 : decode cX6_valueOf 26 = .ok (.iload_n 3, 1) := by decide +kernel
theorem dX6_valueOf_27 : decode cX6_valueOf 27 = .ok (.bipush 10, 2) := by decide +kernel
theorem dX6_valueOf_29 : decode cX6_valueOf 29 = .ok (.imul, 1) := by decide +kernel
theorem dX6_valueOf_30 : decode cX6_valueOf 30 = .ok (.aload_n 0, 1) := by decide +kernel
theorem dX6_valueOf_31 : decode cX6_valueOf 31 = .ok (.getfield 21, 3) := by decide +kernel
theorem dX6_valueOf_34 : decode cX6_valueOf 34 = .ok (.iload 4, 2) := by decide +kernel
theorem dX6_valueOf_36 : decode cX6_valueOf 36 = .ok (.iaload, 1) := by decide +kernel
theorem dX6_valueOf_37 : decode cX6_valueOf 37 = .ok (.iadd, 1) := by decide +kernel
theorem dX6_valueOf_38 : decode cX6_valueOf 38 = .ok (.bipush 48, 2) := by decide +kernel
theorem dX6_valueOf_40 : decode cX6_valueOf 40 = .ok (.isub, 1) := by decide +kernel
theorem dX6_valueOf_41 : decode cX6_valueOf 41 = .ok (.sipush 10000, 3) := by decide +kernel
theorem dX6_valueOf_44 : decode cX6_valueOf 44 = .ok (.invokestatic 41, 3) := by decide +kernel
theorem dX6_valueOf_47 : decode cX6_valueOf 47 = .ok (.istore_n 3, 1) := by decide +kernel
theorem dX6_valueOf_48 : decode cX6_valueOf 48 = .ok (.iinc 4 1, 3) := by decide +kernel
theorem dX6_valueOf_51 : decode cX6_valueOf 51 = .ok (.goto (-46), 3) := by decide +kernel
theorem dX6_valueOf_54 : decode cX6_valueOf 54 = .ok (.iload_n 3, 1) := by decide +kernel
theorem dX6_valueOf_55 : decode cX6_valueOf 55 = .ok (.ireturn, 1) := by decide +kernel
theorem dX6_findSign_0 : decode cX6_findSign 0 = .ok (.iload_n 1, 1) := by decide +kernel
theorem dX6_findSign_1 : decode cX6_findSign 1 = .ok (.ifCond .eq 12, 3) := by decide +kernel
theorem dX6_findSign_4 : decode cX6_findSign 4 = .ok (.iload_n 0, 1) := by decide +kernel
theorem dX6_findSign_5 : decode cX6_findSign 5 = .ok (.bipush 60, 2) := by decide +kernel
theorem dX6_findSign_7 : decode cX6_findSign 7 = .ok (.if_icmp .ne 6, 3) := by decide +kernel
theorem dX6_findSign_10 : decode cX6_findSign 10 = .ok (.bipush 51, 2) := by decide +kernel
theorem dX6_findSign_12 : decode cX6_findSign 12 = .ok (.ireturn, 1) := by decide +kernel
theorem dX6_findSign_13 : decode cX6_findSign 13 = .ok (.iload_n 1, 1) := by decide +kernel
theorem dX6_findSign_14 : decode cX6_findSign 14 = .ok (.ifCond .eq 12, 3) := by decide +kernel
theorem dX6_findSign_17 : decode cX6_findSign 17 = .ok (.iload_n 0, 1) := by decide +kernel
theorem dX6_findSign_18 : decode cX6_findSign 18 = .ok (.bipush 62, 2) := by decide +kernel
theorem dX6_findSign_20 : decode cX6_findSign 20 = .ok (.if_icmp .ne 6, 3) := by decide +kernel
theorem dX6_findSign_23 : decode cX6_findSign 23 = .ok (.bipush 52, 2) := by decide +kernel
theorem dX6_findSign_25 : decode cX6_findSign 25 = .ok (.ireturn, 1) := by decide +kernel
theorem dX6_findSign_26 : decode cX6_findSign 26 = .ok (.ldc 93, 2) := by decide +kernel
theorem dX6_findSign_28 : decode cX6_findSign 28 = .ok (.iload_n 0, 1) := by decide +kernel
theorem dX6_findSign_29 : decode cX6_findSign 29 = .ok (.i2c, 1) := by decide +kernel
theorem dX6_findSign_30 : decode cX6_findSign 30 = .ok (.invokevirtual 95, 3) := by decide +kernel
theorem dX6_findSign_33 : decode cX6_findSign 33 = .ok (.istore_n 2, 1) := by decide +kernel
theorem dX6_findSign_34 : decode cX6_findSign 34 = .ok (.iload_n 2, 1) := by decide +kernel
theorem dX6_findSign_35 : decode cX6_findSign 35 = .ok (.ifCond .ge 8, 3) := by decide +kernel
theorem dX6_findSign_38 : decode cX6_findSign 38 = .ok (.bipush 54, 2) := by decide +kernel
theorem dX6_findSign_40 : decode cX6_findSign 40 = .ok (.goto 7, 3) := by decide +kernel
theorem dX6_findSign_43 : decode cX6_findSign 43 = .ok (.bipush 40, 2) := by decide +kernel
theorem dX6_findSign_45 : decode cX6_findSign 45 = .ok (.iload_n 2, 1) := by decide +kernel
theorem dX6_findSign_46 : decode cX6_findSign 46 = .ok (.iadd, 1) := by decide +kernel
theorem dX6_findSign_47 : decode cX6_findSign 47 = .ok (.ireturn, 1) := by decide +kernel
theorem dX6_refuse_0 : decode cX6_refuse 0 = .ok (.aload_n 0, 1) := by decide +kernel
theorem dX6_refuse_1 : decode cX6_refuse 1 = .ok (.getfield 34, 3) := by decide +kernel
theorem dX6_refuse_4 : decode cX6_refuse 4 = .ok (.ifCond .ne 38, 3) := by decide +kernel
theorem dX6_refuse_7 : decode cX6_refuse 7 = .ok (.aload_n 0, 1) := by decide +kernel
theorem dX6_refuse_8 : decode cX6_refuse 8 = .ok (.getfield 51, 3) := by decide +kernel
theorem dX6_refuse_11 : decode cX6_refuse 11 = .ok (.ifCond .lt 31, 3) := by decide +kernel
theorem dX6_refuse_14 : decode cX6_refuse 14 = .ok (.aload_n 0, 1) := by decide +kernel
theorem dX6_refuse_15 : decode cX6_refuse 15 = .ok (.getfield 51, 3) := by decide +kernel
theorem dX6_refuse_18 : decode cX6_refuse 18 = .ok (.sipush 300, 3) := by decide +kernel
theorem dX6_refuse_21 : decode cX6_refuse 21 = .ok (.if_icmp .gt 21, 3) := by decide +kernel
theorem dX6_refuse_24 : decode cX6_refuse 24 = .ok (.aload_n 0, 1) := by decide +kernel
theorem dX6_refuse_25 : decode cX6_refuse 25 = .ok (.iload_n 1, 1) := by decide +kernel
theorem dX6_refuse_26 : decode cX6_refuse 26 = .ok (.putfield 34, 3) := by decide +kernel
theorem dX6_refuse_29 : decode cX6_refuse 29 = .ok (.aload_n 0, 1) := by decide +kernel
theorem dX6_refuse_30 : decode cX6_refuse 30 = .ok (.aload_n 0, 1) := by decide +kernel
theorem dX6_refuse_31 : decode cX6_refuse 31 = .ok (.getfield 15, 3) := by decide +kernel
theorem dX6_refuse_34 : decode cX6_refuse 34 = .ok (.aload_n 0, 1) := by decide +kernel
theorem dX6_refuse_35 : decode cX6_refuse 35 = .ok (.getfield 51, 3) := by decide +kernel
theorem dX6_refuse_38 : decode cX6_refuse 38 = .ok (.iaload, 1) := by decide +kernel
theorem dX6_refuse_39 : decode cX6_refuse 39 = .ok (.putfield 38, 3) := by decide +kernel
theorem dX6_refuse_42 : decode cX6_refuse 42 = .ok (.aload_n 0, 1) := by decide +kernel
theorem dX6_refuse_43 : decode cX6_refuse 43 = .ok (.bipush 53, 2) := by decide +kernel
theorem dX6_refuse_45 : decode cX6_refuse 45 = .ok (.putfield 54, 3) := by decide +kernel
theorem dX6_refuse_48 : decode cX6_refuse 48 = .ok (.return_, 1) := by decide +kernel
theorem dX6_advance_0 : decode cX6_advance 0 = .ok (.aload_n 0, 1) := by decide +kernel
theorem dX6_advance_1 : decode cX6_advance 1 = .ok (.getfield 54, 3) := by decide +kernel
theorem dX6_advance_4 : decode cX6_advance 4 = .ok (.bipush 53, 2) := by decide +kernel
theorem dX6_advance_6 : decode cX6_advance 6 = .ok (.if_icmp .eq 43, 3) := by decide +kernel
theorem dX6_advance_9 : decode cX6_advance 9 = .ok (.aload_n 0, 1) := by decide +kernel
theorem dX6_advance_10 : decode cX6_advance 10 = .ok (.getfield 51, 3) := by decide +kernel
theorem dX6_advance_13 : decode cX6_advance 13 = .ok (.ifCond .lt 36, 3) := by decide +kernel
theorem dX6_advance_16 : decode cX6_advance 16 = .ok (.aload_n 0, 1) := by decide +kernel
theorem dX6_advance_17 : decode cX6_advance 17 = .ok (.getfield 51, 3) := by decide +kernel
theorem dX6_advance_20 : decode cX6_advance 20 = .ok (.sipush 300, 3) := by decide +kernel
theorem dX6_advance_23 : decode cX6_advance 23 = .ok (.if_icmp .ge 26, 3) := by decide +kernel
theorem dX6_advance_26 : decode cX6_advance 26 = .ok (.aload_n 0, 1) := by decide +kernel
theorem dX6_advance_27 : decode cX6_advance 27 = .ok (.dup, 1) := by decide +kernel
theorem dX6_advance_28 : decode cX6_advance 28 = .ok (.getfield 51, 3) := by decide +kernel
theorem dX6_advance_31 : decode cX6_advance 31 = .ok (.iconst 1, 1) := by decide +kernel
theorem dX6_advance_32 : decode cX6_advance 32 = .ok (.iadd, 1) := by decide +kernel
theorem dX6_advance_33 : decode cX6_advance 33 = .ok (.putfield 51, 3) := by decide +kernel
theorem dX6_advance_36 : decode cX6_advance 36 = .ok (.aload_n 0, 1) := by decide +kernel
theorem dX6_advance_37 : decode cX6_advance 37 = .ok (.aload_n 0, 1) := by decide +kernel
theorem dX6_advance_38 : decode cX6_advance 38 = .ok (.getfield 9, 3) := by decide +kernel
theorem dX6_advance_41 : decode cX6_advance 41 = .ok (.aload_n 0, 1) := by decide +kernel
theorem dX6_advance_42 : decode cX6_advance 42 = .ok (.getfield 51, 3) := by decide +kernel
theorem dX6_advance_45 : decode cX6_advance 45 = .ok (.iaload, 1) := by decide +kernel
theorem dX6_advance_46 : decode cX6_advance 46 = .ok (.putfield 54, 3) := by decide +kernel
theorem dX6_advance_49 : decode cX6_advance 49 = .ok (.return_, 1) := by decide +kernel
theorem dX6_readClause_0 : decode cX6_readClause 0 = .ok (.aload_n 0, 1) := by decide +kernel
theorem dX6_readClause_1 : decode cX6_readClause 1 = .ok (.getfield 54, 3) := by decide +kernel
theorem dX6_readClause_4 : decode cX6_readClause 4 = .ok (.istore_n 1, 1) := by decide +kernel
theorem dX6_readClause_5 : decode cX6_readClause 5 = .ok (.iload_n 1, 1) := by decide +kernel
theorem dX6_readClause_6 : decode cX6_readClause 6 = .ok (.ifCond .lt 9, 3) := by decide +kernel
theorem dX6_readClause_9 : decode cX6_readClause 9 = .ok (.iload_n 1, 1) := by decide +kernel
theorem dX6_readClause_10 : decode cX6_readClause 10 = .ok (.bipush 10, 2) := by decide +kernel
theorem dX6_readClause_12 : decode cX6_readClause 12 = .ok (.if_icmp .le 9, 3) := by decide +kernel
theorem dX6_readClause_15 : decode cX6_readClause 15 = .ok (.aload_n 0, 1) := by decide +kernel
theorem dX6_readClause_16 : decode cX6_readClause 16 = .ok (.iconst 1, 1) := by decide +kernel
theorem dX6_readClause_17 : decode cX6_readClause 17 = .ok (.invokevirtual 99, 3) := by decide +kernel
theorem dX6_readClause_20 : decode cX6_readClause 20 = .ok (.return_, 1) := by decide +kernel
theorem dX6_readClause_21 : decode cX6_readClause 21 = .ok (.aload_n 0, 1) := by decide +kernel
theorem dX6_readClause_22 : decode cX6_readClause 22 = .ok (.getfield 27, 3) := by decide +kernel
theorem dX6_readClause_25 : decode cX6_readClause 25 = .ok (.iload_n 1, 1) := by decide +kernel
theorem dX6_readClause_26 : decode cX6_readClause 26 = .ok (.invokevirtual 102, 3) := by decide +kernel
theorem dX6_readClause_29 : decode cX6_readClause 29 = .ok (.ifCond .eq 9, 3) := by decide +kernel
theorem dX6_readClause_32 : decode cX6_readClause 32 = .ok (.aload_n 0, 1) := by decide +kernel
theorem dX6_readClause_33 : decode cX6_readClause 33 = .ok (.iconst 4, 1) := by decide +kernel
theorem dX6_readClause_34 : decode cX6_readClause 34 = .ok (.invokevirtual 99, 3) := by decide +kernel
theorem dX6_readClause_37 : decode cX6_readClause 37 = .ok (.return_, 1) := by decide +kernel
theorem dX6_readClause_38 : decode cX6_readClause 38 = .ok (.aload_n 0, 1) := by decide +kernel
theorem dX6_readClause_39 : decode cX6_readClause 39 = .ok (.getfield 27, 3) := by decide +kernel
theorem dX6_readClause_42 : decode cX6_readClause 42 = .ok (.getfield 105, 3) := by decide +kernel
theorem dX6_readClause_45 : decode cX6_readClause 45 = .ok (.bipush 24, 2) := by decide +kernel
theorem dX6_readClause_47 : decode cX6_readClause 47 = .ok (.if_icmp .lt 10, 3) := by decide +kernel
theorem dX6_readClause_50 : decode cX6_readClause 50 = .ok (.aload_n 0, 1) := by decide +kernel
theorem dX6_readClause_51 : decode cX6_readClause 51 = .ok (.bipush 6, 2) := by decide +kernel
theorem dX6_readClause_53 : decode cX6_readClause 53 = .ok (.invokevirtual 99, 3) := by decide +kernel
theorem dX6_readClause_56 : decode cX6_readClause 56 = .ok (.return_, 1) := by decide +kernel
theorem dX6_readClause_57 : decode cX6_readClause 57 = .ok (.aload_n 0, 1) := by decide +kernel
theorem dX6_readClause_58 : decode cX6_readClause 58 = .ok (.invokevirtual 108, 3) := by decide +kernel
theorem dX6_readClause_61 : decode cX6_readClause 61 = .ok (.iconst 0, 1) := by decide +kernel
theorem dX6_readClause_62 : decode cX6_readClause 62 = .ok (.istore_n 2, 1) := by decide +kernel
theorem dX6_readClause_63 : decode cX6_readClause 63 = .ok (.iconst 0, 1) := by decide +kernel
theorem dX6_readClause_64 : decode cX6_readClause 64 = .ok (.istore_n 3, 1) := by decide +kernel
theorem dX6_readClause_65 : decode cX6_readClause 65 = .ok (.iload_n 1, 1) := by decide +kernel
theorem dX6_readClause_66 : decode cX6_readClause 66 = .ok (.ifCond .eq 13, 3) := by decide +kernel
theorem dX6_readClause_69 : decode cX6_readClause 69 = .ok (.iload_n 1, 1) := by decide +kernel
theorem dX6_readClause_70 : decode cX6_readClause 70 = .ok (.iconst 1, 1) := by decide +kernel
theorem dX6_readClause_71 : decode cX6_readClause 71 = .ok (.if_icmp .eq 8, 3) := by decide +kernel
theorem dX6_readClause_74 : decode cX6_readClause 74 = .ok (.iload_n 1, 1) := by decide +kernel
theorem dX6_readClause_75 : decode cX6_readClause 75 = .ok (.iconst 2, 1) := by decide +kernel
theorem dX6_readClause_76 : decode cX6_readClause 76 = .ok (.if_icmp .ne 63, 3) := by decide +kernel
theorem dX6_readClause_79 : decode cX6_readClause 79 = .ok (.aload_n 0, 1) := by decide +kernel
theorem dX6_readClause_80 : decode cX6_readClause 80 = .ok (.iload_n 1, 1) := by decide +kernel
theorem dX6_readClause_81 : decode cX6_readClause 81 = .ok (.ifCond .ne 8, 3) := by decide +kernel
theorem dX6_readClause_84 : decode cX6_readClause 84 = .ok (.bipush 15, 2) := by decide +kernel
theorem dX6_readClause_86 : decode cX6_readClause 86 = .ok (.goto 15, 3) := by decide +kernel
theorem dX6_readClause_89 : decode cX6_readClause 89 = .ok (.iload_n 1, 1) := by decide +kernel
theorem dX6_readClause_90 : decode cX6_readClause 90 = .ok (.iconst 1, 1) := by decide +kernel
theorem dX6_readClause_91 : decode cX6_readClause 91 = .ok (.if_icmp .ne 8, 3) := by decide +kernel
theorem dX6_readClause_94 : decode cX6_readClause 94 = .ok (.bipush 16, 2) := by decide +kernel
theorem dX6_readClause_96 : decode cX6_readClause 96 = .ok (.goto 5, 3) := by decide +kernel
theorem dX6_readClause_99 : decode cX6_readClause 99 = .ok (.bipush 18, 2) := by decide +kernel
theorem dX6_readClause_101 : decode cX6_readClause 101 = .ok (.putfield 111, 3) := by decide +kernel
theorem dX6_readClause_104 : decode cX6_readClause 104 = .ok (.aload_n 0, 1) := by decide +kernel
theorem dX6_readClause_105 : decode cX6_readClause 105 = .ok (.getfield 27, 3) := by decide +kernel
theorem dX6_readClause_108 : decode cX6_readClause 108 = .ok (.getfield 114, 3) := by decide +kernel
theorem dX6_readClause_111 : decode cX6_readClause 111 = .ok (.iload_n 1, 1) := by decide +kernel
theorem dX6_readClause_112 : decode cX6_readClause 112 = .ok (.aload_n 0, 1) := by decide +kernel
theorem dX6_readClause_113 : decode cX6_readClause 113 = .ok (.getfield 27, 3) := by decide +kernel
theorem dX6_readClause_116 : decode cX6_readClause 116 = .ok (.getfield 117, 3) := by decide +kernel
theorem dX6_readClause_119 : decode cX6_readClause 119 = .ok (.iastore, 1) := by decide +kernel
theorem dX6_readClause_120 : decode cX6_readClause 120 = .ok (.aload_n 0, 1) := by decide +kernel
theorem dX6_readClause_121 : decode cX6_readClause 121 = .ok (.iconst 0, 1) := by decide +kernel
theorem dX6_readClause_122 : decode cX6_readClause 122 = .ok (.invokevirtual 119, 3) := by decide +kernel
theorem dX6_readClause_125 : decode cX6_readClause 125 = .ok (.aload_n 0, 1) := by decide +kernel
theorem dX6_readClause_126 : decode cX6_readClause 126 = .ok (.getfield 27, 3) := by decide +kernel
theorem dX6_readClause_129 : decode cX6_readClause 129 = .ok (.bipush 53, 2) := by decide +kernel
theorem dX6_readClause_131 : decode cX6_readClause 131 = .ok (.iconst 0, 1) := by decide +kernel
theorem dX6_readClause_132 : decode cX6_readClause 132 = .ok (.invokevirtual 122, 3) := by decide +kernel
theorem dX6_readClause_135 : decode cX6_readClause 135 = .ok (.pop, 1) := by decide +kernel
theorem dX6_readClause_136 : decode cX6_readClause 136 = .ok (.goto 61, 3) := by decide +kernel
theorem dX6_readClause_139 : decode cX6_readClause 139 = .ok (.iload_n 1, 1) := by decide +kernel
theorem dX6_readClause_140 : decode cX6_readClause 140 = .ok (.iconst 3, 1) := by decide +kernel
theorem dX6_readClause_141 : decode cX6_readClause 141 = .ok (.if_icmp .ne 25, 3) := by decide +kernel
theorem dX6_readClause_144 : decode cX6_readClause 144 = .ok (.aload_n 0, 1) := by decide +kernel
theorem dX6_readClause_145 : decode cX6_readClause 145 = .ok (.invokevirtual 125, 3) := by decide +kernel
theorem dX6_readClause_148 : decode cX6_readClause 148 = .ok (.istore_n 2, 1) := by decide +kernel
theorem dX6_readClause_149 : decode cX6_readClause 149 = .ok (.aload_n 0, 1) := by decide +kernel
theorem dX6_readClause_150 : decode cX6_readClause 150 = .ok (.bipush 19, 2) := by decide +kernel
theorem dX6_readClause_152 : decode cX6_readClause 152 = .ok (.invokevirtual 128, 3) := by decide +kernel
theorem dX6_readClause_155 : decode cX6_readClause 155 = .ok (.aload_n 0, 1) := by decide +kernel
theorem dX6_readClause_156 : decode cX6_readClause 156 = .ok (.iconst 0, 1) := by decide +kernel
theorem dX6_readClause_157 : decode cX6_readClause 157 = .ok (.bipush 9, 2) := by decide +kernel
theorem dX6_readClause_159 : decode cX6_readClause 159 = .ok (.invokevirtual 131, 3) := by decide +kernel
theorem dX6_readClause_162 : decode cX6_readClause 162 = .ok (.istore_n 3, 1) := by decide +kernel
theorem dX6_readClause_163 : decode cX6_readClause 163 = .ok (.goto 34, 3) := by decide +kernel
theorem dX6_readClause_166 : decode cX6_readClause 166 = .ok (.aload_n 0, 1) := by decide +kernel
theorem dX6_readClause_167 : decode cX6_readClause 167 = .ok (.iload_n 1, 1) := by decide +kernel
theorem dX6_readClause_168 : decode cX6_readClause 168 = .ok (.invokevirtual 134, 3) := by decide +kernel
theorem dX6_readClause_171 : decode cX6_readClause 171 = .ok (.istore_n 2, 1) := by decide +kernel
theorem dX6_readClause_172 : decode cX6_readClause 172 = .ok (.iload_n 1, 1) := by decide +kernel
theorem dX6_readClause_173 : decode cX6_readClause 173 = .ok (.iconst 4, 1) := by decide +kernel
theorem dX6_readClause_174 : decode cX6_readClause 174 = .ok (.if_icmp .eq 9, 3) := by decide +kernel
theorem dX6_readClause_177 : decode cX6_readClause 177 = .ok (.iload_n 1, 1) := by decide +kernel
theorem dX6_readClause_178 : decode cX6_readClause 178 = .ok (.bipush 8, 2) := by decide +kernel
theorem dX6_readClause_180 : decode cX6_readClause 180 = .ok (.if_icmp .ne 17, 3) := by decide +kernel
theorem dX6_readClause_183 : decode cX6_readClause 183 = .ok (.aload_n 0, 1) := by decide +kernel
theorem dX6_readClause_184 : decode cX6_readClause 184 = .ok (.bipush 20, 2) := by decide +kernel
theorem dX6_readClause_186 : decode cX6_readClause 186 = .ok (.invokevirtual 128, 3) := by decide +kernel
theorem dX6_readClause_189 : decode cX6_readClause 189 = .ok (.aload_n 0, 1) := by decide +kernel
theorem dX6_readClause_190 : decode cX6_readClause 190 = .ok (.iconst 0, 1) := by decide +kernel
theorem dX6_readClause_191 : decode cX6_readClause 191 = .ok (.bipush 9, 2) := by decide +kernel
theorem dX6_readClause_193 : decode cX6_readClause 193 = .ok (.invokevirtual 131, 3) := by decide +kernel
theorem dX6_readClause_196 : decode cX6_readClause 196 = .ok (.istore_n 3, 1) := by decide +kernel
theorem dX6_readClause_197 : decode cX6_readClause 197 = .ok (.aload_n 0, 1) := by decide +kernel
theorem dX6_readClause_198 : decode cX6_readClause 198 = .ok (.bipush 50, 2) := by decide +kernel
theorem dX6_readClause_200 : decode cX6_readClause 200 = .ok (.invokevirtual 128, 3) := by decide +kernel
theorem dX6_readClause_203 : decode cX6_readClause 203 = .ok (.aload_n 0, 1) := by decide +kernel
theorem dX6_readClause_204 : decode cX6_readClause 204 = .ok (.getfield 27, 3) := by decide +kernel
theorem dX6_readClause_207 : decode cX6_readClause 207 = .ok (.iload_n 1, 1) := by decide +kernel
theorem dX6_readClause_208 : decode cX6_readClause 208 = .ok (.iload_n 2, 1) := by decide +kernel
theorem dX6_readClause_209 : decode cX6_readClause 209 = .ok (.iload_n 3, 1) := by decide +kernel
theorem dX6_readClause_210 : decode cX6_readClause 210 = .ok (.invokevirtual 137, 3) := by decide +kernel
theorem dX6_readClause_213 : decode cX6_readClause 213 = .ok (.return_, 1) := by decide +kernel
theorem dX6_takeFirst_0 : decode cX6_takeFirst 0 = .ok (.iload_n 1, 1) := by decide +kernel
theorem dX6_takeFirst_1 : decode cX6_takeFirst 1 = .ok (.tableswitch 74 4 10 #[43, 74, 58, 58, 51, 74, 66], 43) := by decide +kernel
theorem dX6_takeFirst_44 : decode cX6_takeFirst 44 = .ok (.aload_n 0, 1) := by decide +kernel
theorem dX6_takeFirst_45 : decode cX6_takeFirst 45 = .ok (.iconst 1, 1) := by decide +kernel
theorem dX6_takeFirst_46 : decode cX6_takeFirst 46 = .ok (.bipush 9, 2) := by decide +kernel
theorem dX6_takeFirst_48 : decode cX6_takeFirst 48 = .ok (.invokevirtual 131, 3) := by decide +kernel
theorem dX6_takeFirst_51 : decode cX6_takeFirst 51 = .ok (.ireturn, 1) := by decide +kernel
theorem dX6_takeFirst_52 : decode cX6_takeFirst 52 = .ok (.aload_n 0, 1) := by decide +kernel
theorem dX6_takeFirst_53 : decode cX6_takeFirst 53 = .ok (.iconst 0, 1) := by decide +kernel
theorem dX6_takeFirst_54 : decode cX6_takeFirst 54 = .ok (.iconst 4, 1) := by decide +kernel
theorem dX6_takeFirst_55 : decode cX6_takeFirst 55 = .ok (.invokevirtual 131, 3) := by decide +kernel
theorem dX6_takeFirst_58 : decode cX6_takeFirst 58 = .ok (.ireturn, 1) := by decide +kernel
theorem dX6_takeFirst_59 : decode cX6_takeFirst 59 = .ok (.aload_n 0, 1) := by decide +kernel
theorem dX6_takeFirst_60 : decode cX6_takeFirst 60 = .ok (.iconst 0, 1) := by decide +kernel
theorem dX6_takeFirst_61 : decode cX6_takeFirst 61 = .ok (.bipush 9, 2) := by decide +kernel
theorem dX6_takeFirst_63 : decode cX6_takeFirst 63 = .ok (.invokevirtual 131, 3) := by decide +kernel
theorem dX6_takeFirst_66 : decode cX6_takeFirst 66 = .ok (.ireturn, 1) := by decide +kernel
theorem dX6_takeFirst_67 : decode cX6_takeFirst 67 = .ok (.aload_n 0, 1) := by decide +kernel
theorem dX6_takeFirst_68 : decode cX6_takeFirst 68 = .ok (.iconst 1, 1) := by decide +kernel
theorem dX6_takeFirst_69 : decode cX6_takeFirst 69 = .ok (.bipush 60, 2) := by decide +kernel
theorem dX6_takeFirst_71 : decode cX6_takeFirst 71 = .ok (.invokevirtual 131, 3) := by decide +kernel
theorem dX6_takeFirst_74 : decode cX6_takeFirst 74 = .ok (.ireturn, 1) := by decide +kernel
theorem dX6_takeFirst_75 : decode cX6_takeFirst 75 = .ok (.aload_n 0, 1) := by decide +kernel
theorem dX6_takeFirst_76 : decode cX6_takeFirst 76 = .ok (.iconst 0, 1) := by decide +kernel
theorem dX6_takeFirst_77 : decode cX6_takeFirst 77 = .ok (.iconst 5, 1) := by decide +kernel
theorem dX6_takeFirst_78 : decode cX6_takeFirst 78 = .ok (.invokevirtual 131, 3) := by decide +kernel
theorem dX6_takeFirst_81 : decode cX6_takeFirst 81 = .ok (.ireturn, 1) := by decide +kernel
theorem dX6_takeWithin_0 : decode cX6_takeWithin 0 = .ok (.aload_n 0, 1) := by decide +kernel
theorem dX6_takeWithin_1 : decode cX6_takeWithin 1 = .ok (.getfield 54, 3) := by decide +kernel
theorem dX6_takeWithin_4 : decode cX6_takeWithin 4 = .ok (.bipush 32, 2) := by decide +kernel
theorem dX6_takeWithin_6 : decode cX6_takeWithin 6 = .ok (.if_icmp .eq 10, 3) := by decide +kernel
theorem dX6_takeWithin_9 : decode cX6_takeWithin 9 = .ok (.aload_n 0, 1) := by decide +kernel
theorem dX6_takeWithin_10 : decode cX6_takeWithin 10 = .ok (.iconst 1, 1) := by decide +kernel
theorem dX6_takeWithin_11 : decode cX6_takeWithin 11 = .ok (.invokevirtual 99, 3) := by decide +kernel
theorem dX6_takeWithin_14 : decode cX6_takeWithin 14 = .ok (.iload_n 1, 1) := by decide +kernel
theorem dX6_takeWithin_15 : decode cX6_takeWithin 15 = .ok (.ireturn, 1) := by decide +kernel
theorem dX6_takeWithin_16 : decode cX6_takeWithin 16 = .ok (.aload_n 0, 1) := by decide +kernel
theorem dX6_takeWithin_17 : decode cX6_takeWithin 17 = .ok (.invokevirtual 141, 3) := by decide +kernel
theorem dX6_takeWithin_20 : decode cX6_takeWithin 20 = .ok (.istore_n 3, 1) := by decide +kernel
theorem dX6_takeWithin_21 : decode cX6_takeWithin 21 = .ok (.iload_n 3, 1) := by decide +kernel
theorem dX6_takeWithin_22 : decode cX6_takeWithin 22 = .ok (.iload_n 1, 1) := by decide +kernel
theorem dX6_takeWithin_23 : decode cX6_takeWithin 23 = .ok (.if_icmp .lt 8, 3) := by decide +kernel
theorem dX6_takeWithin_26 : decode cX6_takeWithin 26 = .ok (.iload_n 3, 1) := by decide +kernel
theorem dX6_takeWithin_27 : decode cX6_takeWithin 27 = .ok (.iload_n 2, 1) := by decide +kernel
theorem dX6_takeWithin_28 : decode cX6_takeWithin 28 = .ok (.if_icmp .le 10, 3) := by decide +kernel
theorem dX6_takeWithin_31 : decode cX6_takeWithin 31 = .ok (.aload_n 0, 1) := by decide +kernel
theorem dX6_takeWithin_32 : decode cX6_takeWithin 32 = .ok (.iconst 2, 1) := by decide +kernel
theorem dX6_takeWithin_33 : decode cX6_takeWithin 33 = .ok (.invokevirtual 99, 3) := by decide +kernel
theorem dX6_takeWithin_36 : decode cX6_takeWithin 36 = .ok (.iload_n 1, 1) := by decide +kernel
theorem dX6_takeWithin_37 : decode cX6_takeWithin 37 = .ok (.ireturn, 1) := by decide +kernel
theorem dX6_takeWithin_38 : decode cX6_takeWithin 38 = .ok (.aload_n 0, 1) := by decide +kernel
theorem dX6_takeWithin_39 : decode cX6_takeWithin 39 = .ok (.invokevirtual 108, 3) := by decide +kernel
theorem dX6_takeWithin_42 : decode cX6_takeWithin 42 = .ok (.iload_n 3, 1) := by decide +kernel
theorem dX6_takeWithin_43 : decode cX6_takeWithin 43 = .ok (.ireturn, 1) := by decide +kernel
theorem dX6_valueHere_0 : decode cX6_valueHere 0 = .ok (.aload_n 0, 1) := by decide +kernel
theorem dX6_valueHere_1 : decode cX6_valueHere 1 = .ok (.getfield 51, 3) := by decide +kernel
theorem dX6_valueHere_4 : decode cX6_valueHere 4 = .ok (.ifCond .lt 25, 3) := by decide +kernel
theorem dX6_valueHere_7 : decode cX6_valueHere 7 = .ok (.aload_n 0, 1) := by decide +kernel
theorem dX6_valueHere_8 : decode cX6_valueHere 8 = .ok (.getfield 51, 3) := by decide +kernel
theorem dX6_valueHere_11 : decode cX6_valueHere 11 = .ok (.sipush 300, 3) := by decide +kernel
theorem dX6_valueHere_14 : decode cX6_valueHere 14 = .ok (.if_icmp .gt 15, 3) := by decide +kernel
theorem dX6_valueHere_17 : decode cX6_valueHere 17 = .ok (.aload_n 0, 1) := by decide +kernel
theorem dX6_valueHere_18 : decode cX6_valueHere 18 = .ok (.getfield 18, 3) := by decide +kernel
theorem dX6_valueHere_21 : decode cX6_valueHere 21 = .ok (.aload_n 0, 1) := by decide +kernel
theorem dX6_valueHere_22 : decode cX6_valueHere 22 = .ok (.getfield 51, 3) := by decide +kernel
theorem dX6_valueHere_25 : decode cX6_valueHere 25 = .ok (.iaload, 1) := by decide +kernel
theorem dX6_valueHere_26 : decode cX6_valueHere 26 = .ok (.goto 4, 3) := by decide +kernel
theorem dX6_valueHere_29 : decode cX6_valueHere 29 = .ok (.iconst 0, 1) := by decide +kernel
theorem dX6_valueHere_30 : decode cX6_valueHere 30 = .ok (.ireturn, 1) := by decide +kernel
theorem dX6_takeSounds_0 : decode cX6_takeSounds 0 = .ok (.aload_n 0, 1) := by decide +kernel
theorem dX6_takeSounds_1 : decode cX6_takeSounds 1 = .ok (.invokevirtual 141, 3) := by decide +kernel
theorem dX6_takeSounds_4 : decode cX6_takeSounds 4 = .ok (.istore_n 1, 1) := by decide +kernel
theorem dX6_takeSounds_5 : decode cX6_takeSounds 5 = .ok (.aload_n 0, 1) := by decide +kernel
theorem dX6_takeSounds_6 : decode cX6_takeSounds 6 = .ok (.getfield 54, 3) := by decide +kernel
theorem dX6_takeSounds_9 : decode cX6_takeSounds 9 = .ok (.bipush 32, 2) := by decide +kernel
theorem dX6_takeSounds_11 : decode cX6_takeSounds 11 = .ok (.if_icmp .ne 28, 3) := by decide +kernel
theorem dX6_takeSounds_14 : decode cX6_takeSounds 14 = .ok (.iload_n 1, 1) := by decide +kernel
theorem dX6_takeSounds_15 : decode cX6_takeSounds 15 = .ok (.iconst 1, 1) := by decide +kernel
theorem dX6_takeSounds_16 : decode cX6_takeSounds 16 = .ok (.if_icmp .lt 23, 3) := by decide +kernel
theorem dX6_takeSounds_19 : decode cX6_takeSounds 19 = .ok (.iload_n 1, 1) := by decide +kernel
theorem dX6_takeSounds_20 : decode cX6_takeSounds 20 = .ok (.sipush 9999, 3) := by decide +kernel
theorem dX6_takeSounds_23 : decode cX6_takeSounds 23 = .ok (.if_icmp .gt 16, 3) := by decide +kernel
theorem dX6_takeSounds_26 : decode cX6_takeSounds 26 = .ok (.iload_n 1, 1) := by decide +kernel
theorem dX6_takeSounds_27 : decode cX6_takeSounds 27 = .ok (.invokestatic 144, 3) := by decide +kernel
theorem dX6_takeSounds_30 : decode cX6_takeSounds 30 = .ok (.ifCond .ne 9, 3) := by decide +kernel
theorem dX6_takeSounds_33 : decode cX6_takeSounds 33 = .ok (.aload_n 0, 1) := by decide +kernel
theorem dX6_takeSounds_34 : decode cX6_takeSounds 34 = .ok (.bipush 7, 2) := by decide +kernel
theorem dX6_takeSounds_36 : decode cX6_takeSounds 36 = .ok (.invokevirtual 99, 3) := by decide +kernel
theorem dX6_takeSounds_39 : decode cX6_takeSounds 39 = .ok (.aload_n 0, 1) := by decide +kernel
theorem dX6_takeSounds_40 : decode cX6_takeSounds 40 = .ok (.iconst 1, 1) := by decide +kernel
theorem dX6_takeSounds_41 : decode cX6_takeSounds 41 = .ok (.sipush 9999, 3) := by decide +kernel
theorem dX6_takeSounds_44 : decode cX6_takeSounds 44 = .ok (.invokevirtual 131, 3) := by decide +kernel
theorem dX6_takeSounds_47 : decode cX6_takeSounds 47 = .ok (.ireturn, 1) := by decide +kernel
theorem dX6_expect_0 : decode cX6_expect 0 = .ok (.aload_n 0, 1) := by decide +kernel
theorem dX6_expect_1 : decode cX6_expect 1 = .ok (.getfield 54, 3) := by decide +kernel
theorem dX6_expect_4 : decode cX6_expect 4 = .ok (.iload_n 1, 1) := by decide +kernel
theorem dX6_expect_5 : decode cX6_expect 5 = .ok (.if_icmp .ne 10, 3) := by decide +kernel
theorem dX6_expect_8 : decode cX6_expect 8 = .ok (.aload_n 0, 1) := by decide +kernel
theorem dX6_expect_9 : decode cX6_expect 9 = .ok (.invokevirtual 108, 3) := by decide +kernel
theorem dX6_expect_12 : decode cX6_expect 12 = .ok (.goto 8, 3) := by decide +kernel
theorem dX6_expect_15 : decode cX6_expect 15 = .ok (.aload_n 0, 1) := by decide +kernel
theorem dX6_expect_16 : decode cX6_expect 16 = .ok (.iconst 1, 1) := by decide +kernel
theorem dX6_expect_17 : decode cX6_expect 17 = .ok (.invokevirtual 99, 3) := by decide +kernel
theorem dX6_expect_20 : decode cX6_expect 20 = .ok (.return_, 1) := by decide +kernel
theorem dX6_opens_0 : decode cX6_opens 0 = .ok (.iload_n 1, 1) := by decide +kernel
theorem dX6_opens_1 : decode cX6_opens 1 = .ok (.bipush 8, 2) := by decide +kernel
theorem dX6_opens_3 : decode cX6_opens 3 = .ok (.if_icmp .lt 10, 3) := by decide +kernel
theorem dX6_opens_6 : decode cX6_opens 6 = .ok (.aload_n 0, 1) := by decide +kernel
theorem dX6_opens_7 : decode cX6_opens 7 = .ok (.iconst 3, 1) := by decide +kernel
theorem dX6_opens_8 : decode cX6_opens 8 = .ok (.invokevirtual 99, 3) := by decide +kernel
theorem dX6_opens_11 : decode cX6_opens 11 = .ok (.iconst 0, 1) := by decide +kernel
theorem dX6_opens_12 : decode cX6_opens 12 = .ok (.ireturn, 1) := by decide +kernel
theorem dX6_opens_13 : decode cX6_opens 13 = .ok (.aload_n 0, 1) := by decide +kernel
theorem dX6_opens_14 : decode cX6_opens 14 = .ok (.invokevirtual 108, 3) := by decide +kernel
theorem dX6_opens_17 : decode cX6_opens 17 = .ok (.iconst 1, 1) := by decide +kernel
theorem dX6_opens_18 : decode cX6_opens 18 = .ok (.ireturn, 1) := by decide +kernel
theorem dX6_readSum_0 : decode cX6_readSum 0 = .ok (.aload_n 0, 1) := by decide +kernel
theorem dX6_readSum_1 : decode cX6_readSum 1 = .ok (.iload_n 1, 1) := by decide +kernel
theorem dX6_readSum_2 : decode cX6_readSum 2 = .ok (.invokevirtual 147, 3) := by decide +kernel
theorem dX6_readSum_5 : decode cX6_readSum 5 = .ok (.iconst 0, 1) := by decide +kernel
theorem dX6_readSum_6 : decode cX6_readSum 6 = .ok (.istore_n 2, 1) := by decide +kernel
theorem dX6_readSum_7 : decode cX6_readSum 7 = .ok (.iload_n 2, 1) := by decide +kernel
theorem dX6_readSum_8 : decode cX6_readSum 8 = .ok (.sipush 300, 3) := by decide +kernel
theorem dX6_readSum_11 : decode cX6_readSum 11 = .ok (.if_icmp .ge 51, 3) := by decide +kernel
theorem dX6_readSum_14 : decode cX6_readSum 14 = .ok (.aload_n 0, 1) := by decide +kernel
theorem dX6_readSum_15 : decode cX6_readSum 15 = .ok (.getfield 54, 3) := by decide +kernel
theorem dX6_readSum_18 : decode cX6_readSum 18 = .ok (.bipush 44, 2) := by decide +kernel
theorem dX6_readSum_20 : decode cX6_readSum 20 = .ok (.if_icmp .eq 12, 3) := by decide +kernel
theorem dX6_readSum_23 : decode cX6_readSum 23 = .ok (.aload_n 0, 1) := by decide +kernel
theorem dX6_readSum_24 : decode cX6_readSum 24 = .ok (.getfield 54, 3) := by decide +kernel
theorem dX6_readSum_27 : decode cX6_readSum 27 = .ok (.bipush 45, 2) := by decide +kernel
theorem dX6_readSum_29 : decode cX6_readSum 29 = .ok (.if_icmp .ne 33, 3) := by decide +kernel
theorem dX6_readSum_32 : decode cX6_readSum 32 = .ok (.aload_n 0, 1) := by decide +kernel
theorem dX6_readSum_33 : decode cX6_readSum 33 = .ok (.getfield 54, 3) := by decide +kernel
theorem dX6_readSum_36 : decode cX6_readSum 36 = .ok (.istore_n 3, 1) := by decide +kernel
theorem dX6_readSum_37 : decode cX6_readSum 37 = .ok (.aload_n 0, 1) := by decide +kernel
theorem dX6_readSum_38 : decode cX6_readSum 38 = .ok (.invokevirtual 108, 3) := by decide +kernel
theorem dX6_readSum_41 : decode cX6_readSum 41 = .ok (.aload_n 0, 1) := by decide +kernel
theorem dX6_readSum_42 : decode cX6_readSum 42 = .ok (.iload_n 1, 1) := by decide +kernel
theorem dX6_readSum_43 : decode cX6_readSum 43 = .ok (.invokevirtual 147, 3) := by decide +kernel
theorem dX6_readSum_46 : decode cX6_readSum 46 = .ok (.aload_n 0, 1) := by decide +kernel
theorem dX6_readSum_47 : decode cX6_readSum 47 = .ok (.getfield 27, 3) := by decide +kernel
theorem dX6_readSum_50 : decode cX6_readSum 50 = .ok (.iload_n 3, 1) := by decide +kernel
theorem dX6_readSum_51 : decode cX6_readSum 51 = .ok (.iconst 0, 1) := by decide +kernel
theorem dX6_readSum_52 : decode cX6_readSum 52 = .ok (.invokevirtual 122, 3) := by decide +kernel
theorem dX6_readSum_55 : decode cX6_readSum 55 = .ok (.pop, 1) := by decide +kernel
theorem dX6_readSum_56 : decode cX6_readSum 56 = .ok (.iinc 2 1, 3) := by decide +kernel
theorem dX6_readSum_59 : decode cX6_readSum 59 = .ok (.goto (-52), 3) := by decide +kernel
theorem dX6_readSum_62 : decode cX6_readSum 62 = .ok (.return_, 1) := by decide +kernel
theorem dX6_readProduct_0 : decode cX6_readProduct 0 = .ok (.aload_n 0, 1) := by decide +kernel
theorem dX6_readProduct_1 : decode cX6_readProduct 1 = .ok (.iload_n 1, 1) := by decide +kernel
theorem dX6_readProduct_2 : decode cX6_readProduct 2 = .ok (.invokevirtual 150, 3) := by decide +kernel
theorem dX6_readProduct_5 : decode cX6_readProduct 5 = .ok (.iconst 0, 1) := by decide +kernel
theorem dX6_readProduct_6 : decode cX6_readProduct 6 = .ok (.istore_n 2, 1) := by decide +kernel
theorem dX6_readProduct_7 : decode cX6_readProduct 7 = .ok (.iload_n 2, 1) := by decide +kernel
theorem dX6_readProduct_8 : decode cX6_readProduct 8 = .ok (.sipush 300, 3) := by decide +kernel
theorem dX6_readProduct_11 : decode cX6_readProduct 11 = .ok (.if_icmp .ge 51, 3) := by decide +kernel
theorem dX6_readProduct_14 : decode cX6_readProduct 14 = .ok (.aload_n 0, 1) := by decide +kernel
theorem dX6_readProduct_15 : decode cX6_readProduct 15 = .ok (.getfield 54, 3) := by decide +kernel
theorem dX6_readProduct_18 : decode cX6_readProduct 18 = .ok (.bipush 46, 2) := by decide +kernel
theorem dX6_readProduct_20 : decode cX6_readProduct 20 = .ok (.if_icmp .eq 12, 3) := by decide +kernel
theorem dX6_readProduct_23 : decode cX6_readProduct 23 = .ok (.aload_n 0, 1) := by decide +kernel
theorem dX6_readProduct_24 : decode cX6_readProduct 24 = .ok (.getfield 54, 3) := by decide +kernel
theorem dX6_readProduct_27 : decode cX6_readProduct 27 = .ok (.bipush 47, 2) := by decide +kernel
theorem dX6_readProduct_29 : decode cX6_readProduct 29 = .ok (.if_icmp .ne 33, 3) := by decide +kernel
theorem dX6_readProduct_32 : decode cX6_readProduct 32 = .ok (.aload_n 0, 1) := by decide +kernel
theorem dX6_readProduct_33 : decode cX6_readProduct 33 = .ok (.getfield 54, 3) := by decide +kernel
theorem dX6_readProduct_36 : decode cX6_readProduct 36 = .ok (.istore_n 3, 1) := by decide +kernel
theorem dX6_readProduct_37 : decode cX6_readProduct 37 = .ok (.aload_n 0, 1) := by decide +kernel
theorem dX6_readProduct_38 : decode cX6_readProduct 38 = .ok (.invokevirtual 108, 3) := by decide +kernel
theorem dX6_readProduct_41 : decode cX6_readProduct 41 = .ok (.aload_n 0, 1) := by decide +kernel
theorem dX6_readProduct_42 : decode cX6_readProduct 42 = .ok (.iload_n 1, 1) := by decide +kernel
theorem dX6_readProduct_43 : decode cX6_readProduct 43 = .ok (.invokevirtual 150, 3) := by decide +kernel
theorem dX6_readProduct_46 : decode cX6_readProduct 46 = .ok (.aload_n 0, 1) := by decide +kernel
theorem dX6_readProduct_47 : decode cX6_readProduct 47 = .ok (.getfield 27, 3) := by decide +kernel
theorem dX6_readProduct_50 : decode cX6_readProduct 50 = .ok (.iload_n 3, 1) := by decide +kernel
theorem dX6_readProduct_51 : decode cX6_readProduct 51 = .ok (.iconst 0, 1) := by decide +kernel
theorem dX6_readProduct_52 : decode cX6_readProduct 52 = .ok (.invokevirtual 122, 3) := by decide +kernel
theorem dX6_readProduct_55 : decode cX6_readProduct 55 = .ok (.pop, 1) := by decide +kernel
theorem dX6_readProduct_56 : decode cX6_readProduct 56 = .ok (.iinc 2 1, 3) := by decide +kernel
theorem dX6_readProduct_59 : decode cX6_readProduct 59 = .ok (.goto (-52), 3) := by decide +kernel
theorem dX6_readProduct_62 : decode cX6_readProduct 62 = .ok (.return_, 1) := by decide +kernel
theorem dX6_readOne_0 : decode cX6_readOne 0 = .ok (.aload_n 0, 1) := by decide +kernel
theorem dX6_readOne_1 : decode cX6_readOne 1 = .ok (.getfield 54, 3) := by decide +kernel
theorem dX6_readOne_4 : decode cX6_readOne 4 = .ok (.bipush 10, 2) := by decide +kernel
theorem dX6_readOne_6 : decode cX6_readOne 6 = .ok (.if_icmp .lt 17, 3) := by decide +kernel
theorem dX6_readOne_9 : decode cX6_readOne 9 = .ok (.aload_n 0, 1) := by decide +kernel
theorem dX6_readOne_10 : decode cX6_readOne 10 = .ok (.getfield 54, 3) := by decide +kernel
theorem dX6_readOne_13 : decode cX6_readOne 13 = .ok (.bipush 18, 2) := by decide +kernel
theorem dX6_readOne_15 : decode cX6_readOne 15 = .ok (.if_icmp .gt 8, 3) := by decide +kernel
theorem dX6_readOne_18 : decode cX6_readOne 18 = .ok (.aload_n 0, 1) := by decide +kernel
theorem dX6_readOne_19 : decode cX6_readOne 19 = .ok (.invokevirtual 153, 3) := by decide +kernel
theorem dX6_readOne_22 : decode cX6_readOne 22 = .ok (.return_, 1) := by decide +kernel
theorem dX6_readOne_23 : decode cX6_readOne 23 = .ok (.aload_n 0, 1) := by decide +kernel
theorem dX6_readOne_24 : decode cX6_readOne 24 = .ok (.getfield 54, 3) := by decide +kernel
theorem dX6_readOne_27 : decode cX6_readOne 27 = .ok (.lookupswitch 220 #[(22, 202), (29, 131), (30, 173), (32, 57), (45, 102), (48, 78)], 57) := by decide +kernel
theorem dX6_readOne_84 : decode cX6_readOne 84 = .ok (.aload_n 0, 1) := by decide +kernel
theorem dX6_readOne_85 : decode cX6_readOne 85 = .ok (.getfield 27, 3) := by decide +kernel
theorem dX6_readOne_88 : decode cX6_readOne 88 = .ok (.bipush 32, 2) := by decide +kernel
theorem dX6_readOne_90 : decode cX6_readOne 90 = .ok (.aload_n 0, 1) := by decide +kernel
theorem dX6_readOne_91 : decode cX6_readOne 91 = .ok (.iconst 0, 1) := by decide +kernel
theorem dX6_readOne_92 : decode cX6_readOne 92 = .ok (.sipush 9999, 3) := by decide +kernel
theorem dX6_readOne_95 : decode cX6_readOne 95 = .ok (.invokevirtual 131, 3) := by decide +kernel
theorem dX6_readOne_98 : decode cX6_readOne 98 = .ok (.invokevirtual 122, 3) := by decide +kernel
theorem dX6_readOne_101 : decode cX6_readOne 101 = .ok (.pop, 1) := by decide +kernel
theorem dX6_readOne_102 : decode cX6_readOne 102 = .ok (.goto 150, 3) := by decide +kernel
theorem dX6_readOne_105 : decode cX6_readOne 105 = .ok (.aload_n 0, 1) := by decide +kernel
theorem dX6_readOne_106 : decode cX6_readOne 106 = .ok (.iload_n 1, 1) := by decide +kernel
theorem dX6_readOne_107 : decode cX6_readOne 107 = .ok (.invokevirtual 156, 3) := by decide +kernel
theorem dX6_readOne_110 : decode cX6_readOne 110 = .ok (.ifCond .eq 142, 3) := by decide +kernel
theorem dX6_readOne_113 : decode cX6_readOne 113 = .ok (.aload_n 0, 1) := by decide +kernel
theorem dX6_readOne_114 : decode cX6_readOne 114 = .ok (.iload_n 1, 1) := by decide +kernel
theorem dX6_readOne_115 : decode cX6_readOne 115 = .ok (.iconst 1, 1) := by decide +kernel
theorem dX6_readOne_116 : decode cX6_readOne 116 = .ok (.iadd, 1) := by decide +kernel
theorem dX6_readOne_117 : decode cX6_readOne 117 = .ok (.invokevirtual 119, 3) := by decide +kernel
theorem dX6_readOne_120 : decode cX6_readOne 120 = .ok (.aload_n 0, 1) := by decide +kernel
theorem dX6_readOne_121 : decode cX6_readOne 121 = .ok (.bipush 49, 2) := by decide +kernel
theorem dX6_readOne_123 : decode cX6_readOne 123 = .ok (.invokevirtual 128, 3) := by decide +kernel
theorem dX6_readOne_126 : decode cX6_readOne 126 = .ok (.goto 126, 3) := by decide +kernel
theorem dX6_readOne_129 : decode cX6_readOne 129 = .ok (.aload_n 0, 1) := by decide +kernel
theorem dX6_readOne_130 : decode cX6_readOne 130 = .ok (.iload_n 1, 1) := by decide +kernel
theorem dX6_readOne_131 : decode cX6_readOne 131 = .ok (.invokevirtual 156, 3) := by decide +kernel
theorem dX6_readOne_134 : decode cX6_readOne 134 = .ok (.ifCond .eq 118, 3) := by decide +kernel
theorem dX6_readOne_137 : decode cX6_readOne 137 = .ok (.aload_n 0, 1) := by decide +kernel
theorem dX6_readOne_138 : decode cX6_readOne 138 = .ok (.iload_n 1, 1) := by decide +kernel
theorem dX6_readOne_139 : decode cX6_readOne 139 = .ok (.iconst 1, 1) := by decide +kernel
theorem dX6_readOne_140 : decode cX6_readOne 140 = .ok (.iadd, 1) := by decide +kernel
theorem dX6_readOne_141 : decode cX6_readOne 141 = .ok (.invokevirtual 150, 3) := by decide +kernel
theorem dX6_readOne_144 : decode cX6_readOne 144 = .ok (.aload_n 0, 1) := by decide +kernel
theorem dX6_readOne_145 : decode cX6_readOne 145 = .ok (.getfield 27, 3) := by decide +kernel
theorem dX6_readOne_148 : decode cX6_readOne 148 = .ok (.bipush 55, 2) := by decide +kernel
theorem dX6_readOne_150 : decode cX6_readOne 150 = .ok (.iconst 0, 1) := by decide +kernel
theorem dX6_readOne_151 : decode cX6_readOne 151 = .ok (.invokevirtual 122, 3) := by decide +kernel
theorem dX6_readOne_154 : decode cX6_readOne 154 = .ok (.pop, 1) := by decide +kernel
theorem dX6_readOne_155 : decode cX6_readOne 155 = .ok (.goto 97, 3) := by decide +kernel
theorem dX6_readOne_158 : decode cX6_readOne 158 = .ok (.aload_n 0, 1) := by decide +kernel
theorem dX6_readOne_159 : decode cX6_readOne 159 = .ok (.iload_n 1, 1) := by decide +kernel
theorem dX6_readOne_160 : decode cX6_readOne 160 = .ok (.invokevirtual 156, 3) := by decide +kernel
theorem dX6_readOne_163 : decode cX6_readOne 163 = .ok (.ifCond .eq 89, 3) := by decide +kernel
theorem dX6_readOne_166 : decode cX6_readOne 166 = .ok (.aload_n 0, 1) := by decide +kernel
theorem dX6_readOne_167 : decode cX6_readOne 167 = .ok (.iload_n 1, 1) := by decide +kernel
theorem dX6_readOne_168 : decode cX6_readOne 168 = .ok (.iconst 1, 1) := by decide +kernel
theorem dX6_readOne_169 : decode cX6_readOne 169 = .ok (.iadd, 1) := by decide +kernel
theorem dX6_readOne_170 : decode cX6_readOne 170 = .ok (.invokevirtual 150, 3) := by decide +kernel
theorem dX6_readOne_173 : decode cX6_readOne 173 = .ok (.aload_n 0, 1) := by decide +kernel
theorem dX6_readOne_174 : decode cX6_readOne 174 = .ok (.bipush 21, 2) := by decide +kernel
theorem dX6_readOne_176 : decode cX6_readOne 176 = .ok (.invokevirtual 128, 3) := by decide +kernel
theorem dX6_readOne_179 : decode cX6_readOne 179 = .ok (.aload_n 0, 1) := by decide +kernel
theorem dX6_readOne_180 : decode cX6_readOne 180 = .ok (.iload_n 1, 1) := by decide +kernel
theorem dX6_readOne_181 : decode cX6_readOne 181 = .ok (.iconst 1, 1) := by decide +kernel
theorem dX6_readOne_182 : decode cX6_readOne 182 = .ok (.iadd, 1) := by decide +kernel
theorem dX6_readOne_183 : decode cX6_readOne 183 = .ok (.invokevirtual 150, 3) := by decide +kernel
theorem dX6_readOne_186 : decode cX6_readOne 186 = .ok (.aload_n 0, 1) := by decide +kernel
theorem dX6_readOne_187 : decode cX6_readOne 187 = .ok (.getfield 27, 3) := by decide +kernel
theorem dX6_readOne_190 : decode cX6_readOne 190 = .ok (.bipush 29, 2) := by decide +kernel
theorem dX6_readOne_192 : decode cX6_readOne 192 = .ok (.iconst 0, 1) := by decide +kernel
theorem dX6_readOne_193 : decode cX6_readOne 193 = .ok (.invokevirtual 122, 3) := by decide +kernel
theorem dX6_readOne_196 : decode cX6_readOne 196 = .ok (.pop, 1) := by decide +kernel
theorem dX6_readOne_197 : decode cX6_readOne 197 = .ok (.goto 55, 3) := by decide +kernel
theorem dX6_readOne_200 : decode cX6_readOne 200 = .ok (.aload_n 0, 1) := by decide +kernel
theorem dX6_readOne_201 : decode cX6_readOne 201 = .ok (.iload_n 1, 1) := by decide +kernel
theorem dX6_readOne_202 : decode cX6_readOne 202 = .ok (.invokevirtual 156, 3) := by decide +kernel
theorem dX6_readOne_205 : decode cX6_readOne 205 = .ok (.ifCond .eq 47, 3) := by decide +kernel
theorem dX6_readOne_208 : decode cX6_readOne 208 = .ok (.aload_n 0, 1) := by decide +kernel
theorem dX6_readOne_209 : decode cX6_readOne 209 = .ok (.iload_n 1, 1) := by decide +kernel
theorem dX6_readOne_210 : decode cX6_readOne 210 = .ok (.iconst 1, 1) := by decide +kernel
theorem dX6_readOne_211 : decode cX6_readOne 211 = .ok (.iadd, 1) := by decide +kernel
theorem dX6_readOne_212 : decode cX6_readOne 212 = .ok (.invokevirtual 150, 3) := by decide +kernel
theorem dX6_readOne_215 : decode cX6_readOne 215 = .ok (.aload_n 0, 1) := by decide +kernel
theorem dX6_readOne_216 : decode cX6_readOne 216 = .ok (.getfield 27, 3) := by decide +kernel
theorem dX6_readOne_219 : decode cX6_readOne 219 = .ok (.bipush 30, 2) := by decide +kernel
theorem dX6_readOne_221 : decode cX6_readOne 221 = .ok (.iconst 0, 1) := by decide +kernel
theorem dX6_readOne_222 : decode cX6_readOne 222 = .ok (.invokevirtual 122, 3) := by decide +kernel
theorem dX6_readOne_225 : decode cX6_readOne 225 = .ok (.pop, 1) := by decide +kernel
theorem dX6_readOne_226 : decode cX6_readOne 226 = .ok (.goto 26, 3) := by decide +kernel
theorem dX6_readOne_229 : decode cX6_readOne 229 = .ok (.aload_n 0, 1) := by decide +kernel
theorem dX6_readOne_230 : decode cX6_readOne 230 = .ok (.iload_n 1, 1) := by decide +kernel
theorem dX6_readOne_231 : decode cX6_readOne 231 = .ok (.invokevirtual 156, 3) := by decide +kernel
theorem dX6_readOne_234 : decode cX6_readOne 234 = .ok (.ifCond .eq 18, 3) := by decide +kernel
theorem dX6_readOne_237 : decode cX6_readOne 237 = .ok (.aload_n 0, 1) := by decide +kernel
theorem dX6_readOne_238 : decode cX6_readOne 238 = .ok (.iload_n 1, 1) := by decide +kernel
theorem dX6_readOne_239 : decode cX6_readOne 239 = .ok (.iconst 1, 1) := by decide +kernel
theorem dX6_readOne_240 : decode cX6_readOne 240 = .ok (.iadd, 1) := by decide +kernel
theorem dX6_readOne_241 : decode cX6_readOne 241 = .ok (.invokevirtual 159, 3) := by decide +kernel
theorem dX6_readOne_244 : decode cX6_readOne 244 = .ok (.goto 8, 3) := by decide +kernel
theorem dX6_readOne_247 : decode cX6_readOne 247 = .ok (.aload_n 0, 1) := by decide +kernel
theorem dX6_readOne_248 : decode cX6_readOne 248 = .ok (.iconst 1, 1) := by decide +kernel
theorem dX6_readOne_249 : decode cX6_readOne 249 = .ok (.invokevirtual 99, 3) := by decide +kernel
theorem dX6_readOne_252 : decode cX6_readOne 252 = .ok (.return_, 1) := by decide +kernel
theorem dX6_readKnown_0 : decode cX6_readKnown 0 = .ok (.aload_n 0, 1) := by decide +kernel
theorem dX6_readKnown_1 : decode cX6_readKnown 1 = .ok (.getfield 54, 3) := by decide +kernel
theorem dX6_readKnown_4 : decode cX6_readKnown 4 = .ok (.aload_n 0, 1) := by decide +kernel
theorem dX6_readKnown_5 : decode cX6_readKnown 5 = .ok (.getfield 111, 3) := by decide +kernel
theorem dX6_readKnown_8 : decode cX6_readKnown 8 = .ok (.if_icmp .le 9, 3) := by decide +kernel
theorem dX6_readKnown_11 : decode cX6_readKnown 11 = .ok (.aload_n 0, 1) := by decide +kernel
theorem dX6_readKnown_12 : decode cX6_readKnown 12 = .ok (.iconst 5, 1) := by decide +kernel
theorem dX6_readKnown_13 : decode cX6_readKnown 13 = .ok (.invokevirtual 99, 3) := by decide +kernel
theorem dX6_readKnown_16 : decode cX6_readKnown 16 = .ok (.return_, 1) := by decide +kernel
theorem dX6_readKnown_17 : decode cX6_readKnown 17 = .ok (.aload_n 0, 1) := by decide +kernel
theorem dX6_readKnown_18 : decode cX6_readKnown 18 = .ok (.getfield 27, 3) := by decide +kernel
theorem dX6_readKnown_21 : decode cX6_readKnown 21 = .ok (.bipush 10, 2) := by decide +kernel
theorem dX6_readKnown_23 : decode cX6_readKnown 23 = .ok (.aload_n 0, 1) := by decide +kernel
theorem dX6_readKnown_24 : decode cX6_readKnown 24 = .ok (.getfield 54, 3) := by decide +kernel
theorem dX6_readKnown_27 : decode cX6_readKnown 27 = .ok (.bipush 10, 2) := by decide +kernel
theorem dX6_readKnown_29 : decode cX6_readKnown 29 = .ok (.isub, 1) := by decide +kernel
theorem dX6_readKnown_30 : decode cX6_readKnown 30 = .ok (.invokevirtual 122, 3) := by decide +kernel
theorem dX6_readKnown_33 : decode cX6_readKnown 33 = .ok (.pop, 1) := by decide +kernel
theorem dX6_readKnown_34 : decode cX6_readKnown 34 = .ok (.aload_n 0, 1) := by decide +kernel
theorem dX6_readKnown_35 : decode cX6_readKnown 35 = .ok (.invokevirtual 108, 3) := by decide +kernel
theorem dX6_readKnown_38 : decode cX6_readKnown 38 = .ok (.return_, 1) := by decide +kernel
theorem dX6_readChoice_0 : decode cX6_readChoice 0 = .ok (.aload_n 0, 1) := by decide +kernel
theorem dX6_readChoice_1 : decode cX6_readChoice 1 = .ok (.iload_n 1, 1) := by decide +kernel
theorem dX6_readChoice_2 : decode cX6_readChoice 2 = .ok (.invokevirtual 162, 3) := by decide +kernel
theorem dX6_readChoice_5 : decode cX6_readChoice 5 = .ok (.aload_n 0, 1) := by decide +kernel
theorem dX6_readChoice_6 : decode cX6_readChoice 6 = .ok (.bipush 23, 2) := by decide +kernel
theorem dX6_readChoice_8 : decode cX6_readChoice 8 = .ok (.invokevirtual 128, 3) := by decide +kernel
theorem dX6_readChoice_11 : decode cX6_readChoice 11 = .ok (.aload_n 0, 1) := by decide +kernel
theorem dX6_readChoice_12 : decode cX6_readChoice 12 = .ok (.getfield 27, 3) := by decide +kernel
theorem dX6_readChoice_15 : decode cX6_readChoice 15 = .ok (.bipush 23, 2) := by decide +kernel
theorem dX6_readChoice_17 : decode cX6_readChoice 17 = .ok (.iconst 0, 1) := by decide +kernel
theorem dX6_readChoice_18 : decode cX6_readChoice 18 = .ok (.invokevirtual 122, 3) := by decide +kernel
theorem dX6_readChoice_21 : decode cX6_readChoice 21 = .ok (.istore_n 2, 1) := by decide +kernel
theorem dX6_readChoice_22 : decode cX6_readChoice 22 = .ok (.aload_n 0, 1) := by decide +kernel
theorem dX6_readChoice_23 : decode cX6_readChoice 23 = .ok (.iload_n 1, 1) := by decide +kernel
theorem dX6_readChoice_24 : decode cX6_readChoice 24 = .ok (.invokevirtual 119, 3) := by decide +kernel
theorem dX6_readChoice_27 : decode cX6_readChoice 27 = .ok (.aload_n 0, 1) := by decide +kernel
theorem dX6_readChoice_28 : decode cX6_readChoice 28 = .ok (.bipush 24, 2) := by decide +kernel
theorem dX6_readChoice_30 : decode cX6_readChoice 30 = .ok (.invokevirtual 128, 3) := by decide +kernel
theorem dX6_readChoice_33 : decode cX6_readChoice 33 = .ok (.aload_n 0, 1) := by decide +kernel
theorem dX6_readChoice_34 : decode cX6_readChoice 34 = .ok (.getfield 27, 3) := by decide +kernel
theorem dX6_readChoice_37 : decode cX6_readChoice 37 = .ok (.bipush 24, 2) := by decide +kernel
theorem dX6_readChoice_39 : decode cX6_readChoice 39 = .ok (.iconst 0, 1) := by decide +kernel
theorem dX6_readChoice_40 : decode cX6_readChoice 40 = .ok (.invokevirtual 122, 3) := by decide +kernel
theorem dX6_readChoice_43 : decode cX6_readChoice 43 = .ok (.istore_n 3, 1) := by decide +kernel
theorem dX6_readChoice_44 : decode cX6_readChoice 44 = .ok (.aload_n 0, 1) := by decide +kernel
theorem dX6_readChoice_45 : decode cX6_readChoice 45 = .ok (.getfield 27, 3) := by decide +kernel
theorem dX6_readChoice_48 : decode cX6_readChoice 48 = .ok (.iload_n 2, 1) := by decide +kernel
theorem dX6_readChoice_49 : decode cX6_readChoice 49 = .ok (.invokevirtual 165, 3) := by decide +kernel
theorem dX6_readChoice_52 : decode cX6_readChoice 52 = .ok (.aload_n 0, 1) := by decide +kernel
theorem dX6_readChoice_53 : decode cX6_readChoice 53 = .ok (.iload_n 1, 1) := by decide +kernel
theorem dX6_readChoice_54 : decode cX6_readChoice 54 = .ok (.invokevirtual 119, 3) := by decide +kernel
theorem dX6_readChoice_57 : decode cX6_readChoice 57 = .ok (.aload_n 0, 1) := by decide +kernel
theorem dX6_readChoice_58 : decode cX6_readChoice 58 = .ok (.bipush 25, 2) := by decide +kernel
theorem dX6_readChoice_60 : decode cX6_readChoice 60 = .ok (.invokevirtual 128, 3) := by decide +kernel
theorem dX6_readChoice_63 : decode cX6_readChoice 63 = .ok (.aload_n 0, 1) := by decide +kernel
theorem dX6_readChoice_64 : decode cX6_readChoice 64 = .ok (.getfield 27, 3) := by decide +kernel
theorem dX6_readChoice_67 : decode cX6_readChoice 67 = .ok (.iload_n 3, 1) := by decide +kernel
theorem dX6_readChoice_68 : decode cX6_readChoice 68 = .ok (.invokevirtual 165, 3) := by decide +kernel
theorem dX6_readChoice_71 : decode cX6_readChoice 71 = .ok (.return_, 1) := by decide +kernel
theorem dX6_readEither_0 : decode cX6_readEither 0 = .ok (.aload_n 0, 1) := by decide +kernel
theorem dX6_readEither_1 : decode cX6_readEither 1 = .ok (.iload_n 1, 1) := by decide +kernel
theorem dX6_readEither_2 : decode cX6_readEither 2 = .ok (.invokevirtual 168, 3) := by decide +kernel
theorem dX6_readEither_5 : decode cX6_readEither 5 = .ok (.iconst 0, 1) := by decide +kernel
theorem dX6_readEither_6 : decode cX6_readEither 6 = .ok (.istore_n 2, 1) := by decide +kernel
theorem dX6_readEither_7 : decode cX6_readEither 7 = .ok (.iload_n 2, 1) := by decide +kernel
theorem dX6_readEither_8 : decode cX6_readEither 8 = .ok (.sipush 300, 3) := by decide +kernel
theorem dX6_readEither_11 : decode cX6_readEither 11 = .ok (.if_icmp .ge 38, 3) := by decide +kernel
theorem dX6_readEither_14 : decode cX6_readEither 14 = .ok (.aload_n 0, 1) := by decide +kernel
theorem dX6_readEither_15 : decode cX6_readEither 15 = .ok (.getfield 54, 3) := by decide +kernel
theorem dX6_readEither_18 : decode cX6_readEither 18 = .ok (.bipush 26, 2) := by decide +kernel
theorem dX6_readEither_20 : decode cX6_readEither 20 = .ok (.if_icmp .ne 29, 3) := by decide +kernel
theorem dX6_readEither_23 : decode cX6_readEither 23 = .ok (.aload_n 0, 1) := by decide +kernel
theorem dX6_readEither_24 : decode cX6_readEither 24 = .ok (.invokevirtual 108, 3) := by decide +kernel
theorem dX6_readEither_27 : decode cX6_readEither 27 = .ok (.aload_n 0, 1) := by decide +kernel
theorem dX6_readEither_28 : decode cX6_readEither 28 = .ok (.iload_n 1, 1) := by decide +kernel
theorem dX6_readEither_29 : decode cX6_readEither 29 = .ok (.invokevirtual 168, 3) := by decide +kernel
theorem dX6_readEither_32 : decode cX6_readEither 32 = .ok (.aload_n 0, 1) := by decide +kernel
theorem dX6_readEither_33 : decode cX6_readEither 33 = .ok (.getfield 27, 3) := by decide +kernel
theorem dX6_readEither_36 : decode cX6_readEither 36 = .ok (.bipush 26, 2) := by decide +kernel
theorem dX6_readEither_38 : decode cX6_readEither 38 = .ok (.iconst 0, 1) := by decide +kernel
theorem dX6_readEither_39 : decode cX6_readEither 39 = .ok (.invokevirtual 122, 3) := by decide +kernel
theorem dX6_readEither_42 : decode cX6_readEither 42 = .ok (.pop, 1) := by decide +kernel
theorem dX6_readEither_43 : decode cX6_readEither 43 = .ok (.iinc 2 1, 3) := by decide +kernel
theorem dX6_readEither_46 : decode cX6_readEither 46 = .ok (.goto (-39), 3) := by decide +kernel
theorem dX6_readEither_49 : decode cX6_readEither 49 = .ok (.return_, 1) := by decide +kernel
theorem dX6_readBoth_0 : decode cX6_readBoth 0 = .ok (.aload_n 0, 1) := by decide +kernel
theorem dX6_readBoth_1 : decode cX6_readBoth 1 = .ok (.iload_n 1, 1) := by decide +kernel
theorem dX6_readBoth_2 : decode cX6_readBoth 2 = .ok (.invokevirtual 171, 3) := by decide +kernel
theorem dX6_readBoth_5 : decode cX6_readBoth 5 = .ok (.iconst 0, 1) := by decide +kernel
theorem dX6_readBoth_6 : decode cX6_readBoth 6 = .ok (.istore_n 2, 1) := by decide +kernel
theorem dX6_readBoth_7 : decode cX6_readBoth 7 = .ok (.iload_n 2, 1) := by decide +kernel
theorem dX6_readBoth_8 : decode cX6_readBoth 8 = .ok (.sipush 300, 3) := by decide +kernel
theorem dX6_readBoth_11 : decode cX6_readBoth 11 = .ok (.if_icmp .ge 38, 3) := by decide +kernel
theorem dX6_readBoth_14 : decode cX6_readBoth 14 = .ok (.aload_n 0, 1) := by decide +kernel
theorem dX6_readBoth_15 : decode cX6_readBoth 15 = .ok (.getfield 54, 3) := by decide +kernel
theorem dX6_readBoth_18 : decode cX6_readBoth 18 = .ok (.bipush 27, 2) := by decide +kernel
theorem dX6_readBoth_20 : decode cX6_readBoth 20 = .ok (.if_icmp .ne 29, 3) := by decide +kernel
theorem dX6_readBoth_23 : decode cX6_readBoth 23 = .ok (.aload_n 0, 1) := by decide +kernel
theorem dX6_readBoth_24 : decode cX6_readBoth 24 = .ok (.invokevirtual 108, 3) := by decide +kernel
theorem dX6_readBoth_27 : decode cX6_readBoth 27 = .ok (.aload_n 0, 1) := by decide +kernel
theorem dX6_readBoth_28 : decode cX6_readBoth 28 = .ok (.iload_n 1, 1) := by decide +kernel
theorem dX6_readBoth_29 : decode cX6_readBoth 29 = .ok (.invokevirtual 171, 3) := by decide +kernel
theorem dX6_readBoth_32 : decode cX6_readBoth 32 = .ok (.aload_n 0, 1) := by decide +kernel
theorem dX6_readBoth_33 : decode cX6_readBoth 33 = .ok (.getfield 27, 3) := by decide +kernel
theorem dX6_readBoth_36 : decode cX6_readBoth 36 = .ok (.bipush 27, 2) := by decide +kernel
theorem dX6_readBoth_38 : decode cX6_readBoth 38 = .ok (.iconst 0, 1) := by decide +kernel
theorem dX6_readBoth_39 : decode cX6_readBoth 39 = .ok (.invokevirtual 122, 3) := by decide +kernel
theorem dX6_readBoth_42 : decode cX6_readBoth 42 = .ok (.pop, 1) := by decide +kernel
theorem dX6_readBoth_43 : decode cX6_readBoth 43 = .ok (.iinc 2 1, 3) := by decide +kernel
theorem dX6_readBoth_46 : decode cX6_readBoth 46 = .ok (.goto (-39), 3) := by decide +kernel
theorem dX6_readBoth_49 : decode cX6_readBoth 49 = .ok (.return_, 1) := by decide +kernel
theorem dX6_readAsk_0 : decode cX6_readAsk 0 = .ok (.aload_n 0, 1) := by decide +kernel
theorem dX6_readAsk_1 : decode cX6_readAsk 1 = .ok (.getfield 54, 3) := by decide +kernel
theorem dX6_readAsk_4 : decode cX6_readAsk 4 = .ok (.bipush 28, 2) := by decide +kernel
theorem dX6_readAsk_6 : decode cX6_readAsk 6 = .ok (.if_icmp .ne 30, 3) := by decide +kernel
theorem dX6_readAsk_9 : decode cX6_readAsk 9 = .ok (.aload_n 0, 1) := by decide +kernel
theorem dX6_readAsk_10 : decode cX6_readAsk 10 = .ok (.iload_n 1, 1) := by decide +kernel
theorem dX6_readAsk_11 : decode cX6_readAsk 11 = .ok (.invokevirtual 156, 3) := by decide +kernel
theorem dX6_readAsk_14 : decode cX6_readAsk 14 = .ok (.ifCond .eq 21, 3) := by decide +kernel
theorem dX6_readAsk_17 : decode cX6_readAsk 17 = .ok (.aload_n 0, 1) := by decide +kernel
theorem dX6_readAsk_18 : decode cX6_readAsk 18 = .ok (.iload_n 1, 1) := by decide +kernel
theorem dX6_readAsk_19 : decode cX6_readAsk 19 = .ok (.iconst 1, 1) := by decide +kernel
theorem dX6_readAsk_20 : decode cX6_readAsk 20 = .ok (.iadd, 1) := by decide +kernel
theorem dX6_readAsk_21 : decode cX6_readAsk 21 = .ok (.invokevirtual 171, 3) := by decide +kernel
theorem dX6_readAsk_24 : decode cX6_readAsk 24 = .ok (.aload_n 0, 1) := by decide +kernel
theorem dX6_readAsk_25 : decode cX6_readAsk 25 = .ok (.getfield 27, 3) := by decide +kernel
theorem dX6_readAsk_28 : decode cX6_readAsk 28 = .ok (.bipush 28, 2) := by decide +kernel
theorem dX6_readAsk_30 : decode cX6_readAsk 30 = .ok (.iconst 0, 1) := by decide +kernel
theorem dX6_readAsk_31 : decode cX6_readAsk 31 = .ok (.invokevirtual 122, 3) := by decide +kernel
theorem dX6_readAsk_34 : decode cX6_readAsk 34 = .ok (.pop, 1) := by decide +kernel
theorem dX6_readAsk_35 : decode cX6_readAsk 35 = .ok (.return_, 1) := by decide +kernel
theorem dX6_readAsk_36 : decode cX6_readAsk 36 = .ok (.aload_n 0, 1) := by decide +kernel
theorem dX6_readAsk_37 : decode cX6_readAsk 37 = .ok (.iload_n 1, 1) := by decide +kernel
theorem dX6_readAsk_38 : decode cX6_readAsk 38 = .ok (.invokevirtual 119, 3) := by decide +kernel
theorem dX6_readAsk_41 : decode cX6_readAsk 41 = .ok (.aload_n 0, 1) := by decide +kernel
theorem dX6_readAsk_42 : decode cX6_readAsk 42 = .ok (.getfield 54, 3) := by decide +kernel
theorem dX6_readAsk_45 : decode cX6_readAsk 45 = .ok (.istore_n 2, 1) := by decide +kernel
theorem dX6_readAsk_46 : decode cX6_readAsk 46 = .ok (.iload_n 2, 1) := by decide +kernel
theorem dX6_readAsk_47 : decode cX6_readAsk 47 = .ok (.bipush 40, 2) := by decide +kernel
theorem dX6_readAsk_49 : decode cX6_readAsk 49 = .ok (.if_icmp .lt 9, 3) := by decide +kernel
theorem dX6_readAsk_52 : decode cX6_readAsk 52 = .ok (.iload_n 2, 1) := by decide +kernel
theorem dX6_readAsk_53 : decode cX6_readAsk 53 = .ok (.bipush 43, 2) := by decide +kernel
theorem dX6_readAsk_55 : decode cX6_readAsk 55 = .ok (.if_icmp .le 15, 3) := by decide +kernel
theorem dX6_readAsk_58 : decode cX6_readAsk 58 = .ok (.iload_n 2, 1) := by decide +kernel
theorem dX6_readAsk_59 : decode cX6_readAsk 59 = .ok (.bipush 51, 2) := by decide +kernel
theorem dX6_readAsk_61 : decode cX6_readAsk 61 = .ok (.if_icmp .eq 9, 3) := by decide +kernel
theorem dX6_readAsk_64 : decode cX6_readAsk 64 = .ok (.iload_n 2, 1) := by decide +kernel
theorem dX6_readAsk_65 : decode cX6_readAsk 65 = .ok (.bipush 52, 2) := by decide +kernel
theorem dX6_readAsk_67 : decode cX6_readAsk 67 = .ok (.if_icmp .ne 25, 3) := by decide +kernel
theorem dX6_readAsk_70 : decode cX6_readAsk 70 = .ok (.aload_n 0, 1) := by decide +kernel
theorem dX6_readAsk_71 : decode cX6_readAsk 71 = .ok (.invokevirtual 108, 3) := by decide +kernel
theorem dX6_readAsk_74 : decode cX6_readAsk 74 = .ok (.aload_n 0, 1) := by decide +kernel
theorem dX6_readAsk_75 : decode cX6_readAsk 75 = .ok (.iload_n 1, 1) := by decide +kernel
theorem dX6_readAsk_76 : decode cX6_readAsk 76 = .ok (.invokevirtual 119, 3) := by decide +kernel
theorem dX6_readAsk_79 : decode cX6_readAsk 79 = .ok (.aload_n 0, 1) := by decide +kernel
theorem dX6_readAsk_80 : decode cX6_readAsk 80 = .ok (.getfield 27, 3) := by decide +kernel
theorem dX6_readAsk_83 : decode cX6_readAsk 83 = .ok (.iload_n 2, 1) := by decide +kernel
theorem dX6_readAsk_84 : decode cX6_readAsk 84 = .ok (.iconst 0, 1) := by decide +kernel
theorem dX6_readAsk_85 : decode cX6_readAsk 85 = .ok (.invokevirtual 122, 3) := by decide +kernel
theorem dX6_readAsk_88 : decode cX6_readAsk 88 = .ok (.pop, 1) := by decide +kernel
theorem dX6_readAsk_89 : decode cX6_readAsk 89 = .ok (.goto 8, 3) := by decide +kernel
theorem dX6_readAsk_92 : decode cX6_readAsk 92 = .ok (.aload_n 0, 1) := by decide +kernel
theorem dX6_readAsk_93 : decode cX6_readAsk 93 = .ok (.iconst 1, 1) := by decide +kernel
theorem dX6_readAsk_94 : decode cX6_readAsk 94 = .ok (.invokevirtual 99, 3) := by decide +kernel
theorem dX6_readAsk_97 : decode cX6_readAsk 97 = .ok (.return_, 1) := by decide +kernel
theorem dX6_isLetter_0 : decode cX6_isLetter 0 = .ok (.iload_n 0, 1) := by decide +kernel
theorem dX6_isLetter_1 : decode cX6_isLetter 1 = .ok (.bipush 97, 2) := by decide +kernel
theorem dX6_isLetter_3 : decode cX6_isLetter 3 = .ok (.if_icmp .lt 9, 3) := by decide +kernel
theorem dX6_isLetter_6 : decode cX6_isLetter 6 = .ok (.iload_n 0, 1) := by decide +kernel
theorem dX6_isLetter_7 : decode cX6_isLetter 7 = .ok (.bipush 122, 2) := by decide +kernel
theorem dX6_isLetter_9 : decode cX6_isLetter 9 = .ok (.if_icmp .le 15, 3) := by decide +kernel
theorem dX6_isLetter_12 : decode cX6_isLetter 12 = .ok (.iload_n 0, 1) := by decide +kernel
theorem dX6_isLetter_13 : decode cX6_isLetter 13 = .ok (.bipush 65, 2) := by decide +kernel
theorem dX6_isLetter_15 : decode cX6_isLetter 15 = .ok (.if_icmp .lt 13, 3) := by decide +kernel
theorem dX6_isLetter_18 : decode cX6_isLetter 18 = .ok (.iload_n 0, 1) := by decide +kernel
theorem dX6_isLetter_19 : decode cX6_isLetter 19 = .ok (.bipush 90, 2) := by decide +kernel
theorem dX6_isLetter_21 : decode cX6_isLetter 21 = .ok (.if_icmp .gt 7, 3) := by decide +kernel
theorem dX6_isLetter_24 : decode cX6_isLetter 24 = .ok (.iconst 1, 1) := by decide +kernel
theorem dX6_isLetter_25 : decode cX6_isLetter 25 = .ok (.goto 4, 3) := by decide +kernel
theorem dX6_isLetter_28 : decode cX6_isLetter 28 = .ok (.iconst 0, 1) := by decide +kernel
theorem dX6_isLetter_29 : decode cX6_isLetter 29 = .ok (.ireturn, 1) := by decide +kernel
theorem dX6_isDigit_0 : decode cX6_isDigit 0 = .ok (.iload_n 0, 1) := by decide +kernel
theorem dX6_isDigit_1 : decode cX6_isDigit 1 = .ok (.bipush 48, 2) := by decide +kernel
theorem dX6_isDigit_3 : decode cX6_isDigit 3 = .ok (.if_icmp .lt 13, 3) := by decide +kernel
theorem dX6_isDigit_6 : decode cX6_isDigit 6 = .ok (.iload_n 0, 1) := by decide +kernel
theorem dX6_isDigit_7 : decode cX6_isDigit 7 = .ok (.bipush 57, 2) := by decide +kernel
theorem dX6_isDigit_9 : decode cX6_isDigit 9 = .ok (.if_icmp .gt 7, 3) := by decide +kernel
theorem dX6_isDigit_12 : decode cX6_isDigit 12 = .ok (.iconst 1, 1) := by decide +kernel
theorem dX6_isDigit_13 : decode cX6_isDigit 13 = .ok (.goto 4, 3) := by decide +kernel
theorem dX6_isDigit_16 : decode cX6_isDigit 16 = .ok (.iconst 0, 1) := by decide +kernel
theorem dX6_isDigit_17 : decode cX6_isDigit 17 = .ok (.ireturn, 1) := by decide +kernel
theorem dX7_init_0 : decode cX7_init 0 = .ok (.aload_n 0, 1) := by decide +kernel
theorem dX7_init_1 : decode cX7_init 1 = .ok (.invokespecial 3, 3) := by decide +kernel
theorem dX7_init_4 : decode cX7_init 4 = .ok (.aload_n 0, 1) := by decide +kernel
theorem dX7_init_5 : decode cX7_init 5 = .ok (.bipush 30, 2) := by decide +kernel
theorem dX7_init_7 : decode cX7_init 7 = .ok (.anewarray 9, 3) := by decide +kernel
theorem dX7_init_10 : decode cX7_init 10 = .ok (.putfield 11, 3) := by decide +kernel
theorem dX7_init_13 : decode cX7_init 13 = .ok (.iconst 0, 1) := by decide +kernel
theorem dX7_init_14 : decode cX7_init 14 = .ok (.istore_n 1, 1) := by decide +kernel
theorem dX7_init_15 : decode cX7_init 15 = .ok (.iload_n 1, 1) := by decide +kernel
theorem dX7_init_16 : decode cX7_init 16 = .ok (.bipush 30, 2) := by decide +kernel
theorem dX7_init_18 : decode cX7_init 18 = .ok (.if_icmp .ge 22, 3) := by decide +kernel
theorem dX7_init_21 : decode cX7_init 21 = .ok (.aload_n 0, 1) := by decide +kernel
theorem dX7_init_22 : decode cX7_init 22 = .ok (.getfield 11, 3) := by decide +kernel
theorem dX7_init_25 : decode cX7_init 25 = .ok (.iload_n 1, 1) := by decide +kernel
theorem dX7_init_26 : decode cX7_init 26 = .ok (.new 9, 3) := by decide +kernel
theorem dX7_init_29 : decode cX7_init 29 = .ok (.dup, 1) := by decide +kernel
theorem dX7_init_30 : decode cX7_init 30 = .ok (.invokespecial 17, 3) := by decide +kernel
theorem dX7_init_33 : decode cX7_init 33 = .ok (.aastore, 1) := by decide +kernel
theorem dX7_init_34 : decode cX7_init 34 = .ok (.iinc 1 1, 3) := by decide +kernel
theorem dX7_init_37 : decode cX7_init 37 = .ok (.goto (-22), 3) := by decide +kernel
theorem dX7_init_40 : decode cX7_init 40 = .ok (.return_, 1) := by decide +kernel
theorem dX7_keep_0 : decode cX7_keep 0 = .ok (.aload_n 0, 1) := by decide +kernel
theorem dX7_keep_1 : decode cX7_keep 1 = .ok (.getfield 18, 3) := by decide +kernel
theorem dX7_keep_4 : decode cX7_keep 4 = .ok (.bipush 30, 2) := by decide +kernel
theorem dX7_keep_6 : decode cX7_keep 6 = .ok (.if_icmp .lt 22, 3) := by decide +kernel
theorem dX7_keep_9 : decode cX7_keep 9 = .ok (.aload_n 0, 1) := by decide +kernel
theorem dX7_keep_10 : decode cX7_keep 10 = .ok (.aload_n 0, 1) := by decide +kernel
theorem dX7_keep_11 : decode cX7_keep 11 = .ok (.getfield 22, 3) := by decide +kernel
theorem dX7_keep_14 : decode cX7_keep 14 = .ok (.iconst 1, 1) := by decide +kernel
theorem dX7_keep_15 : decode cX7_keep 15 = .ok (.iadd, 1) := by decide +kernel
theorem dX7_keep_16 : decode cX7_keep 16 = .ok (.bipush 30, 2) := by decide +kernel
theorem dX7_keep_18 : decode cX7_keep 18 = .ok (.irem, 1) := by decide +kernel
theorem dX7_keep_19 : decode cX7_keep 19 = .ok (.putfield 22, 3) := by decide +kernel
theorem dX7_keep_22 : decode cX7_keep 22 = .ok (.aload_n 0, 1) := by decide +kernel
theorem dX7_keep_23 : decode cX7_keep 23 = .ok (.bipush 29, 2) := by decide +kernel
theorem dX7_keep_25 : decode cX7_keep 25 = .ok (.putfield 18, 3) := by decide +kernel
theorem dX7_keep_28 : decode cX7_keep 28 = .ok (.aload_n 0, 1) := by decide +kernel
theorem dX7_keep_29 : decode cX7_keep 29 = .ok (.aload_n 0, 1) := by decide +kernel
theorem dX7_keep_30 : decode cX7_keep 30 = .ok (.getfield 18, 3) := by decide +kernel
theorem dX7_keep_33 : decode cX7_keep 33 = .ok (.invokevirtual 25, 3) := by decide +kernel
theorem dX7_keep_36 : decode cX7_keep 36 = .ok (.astore_n 2, 1) := by decide +kernel
theorem dX7_keep_37 : decode cX7_keep 37 = .ok (.aload_n 2, 1) := by decide +kernel
theorem dX7_keep_38 : decode cX7_keep 38 = .ok (.ifnull 8, 3) := by decide +kernel
theorem dX7_keep_41 : decode cX7_keep 41 = .ok (.aload_n 2, 1) := by decide +kernel
theorem dX7_keep_42 : decode cX7_keep 42 = .ok (.aload_n 1, 1) := by decide +kernel
theorem dX7_keep_43 : decode cX7_keep 43 = .ok (.invokevirtual 29, 3) := by decide +kernel
theorem dX7_keep_46 : decode cX7_keep 46 = .ok (.aload_n 0, 1) := by decide +kernel
theorem dX7_keep_47 : decode cX7_keep 47 = .ok (.dup, 1) := by decide +kernel
theorem dX7_keep_48 : decode cX7_keep 48 = .ok (.getfield 18, 3) := by decide +kernel
theorem dX7_keep_51 : decode cX7_keep 51 = .ok (.iconst 1, 1) := by decide +kernel
theorem dX7_keep_52 : decode cX7_keep 52 = .ok (.iadd, 1) := by decide +kernel
theorem dX7_keep_53 : decode cX7_keep 53 = .ok (.putfield 18, 3) := by decide +kernel
theorem dX7_keep_56 : decode cX7_keep 56 = .ok (.return_, 1) := by decide +kernel
theorem dX7_takeLatest_0 : decode cX7_takeLatest 0 = .ok (.aload_n 0, 1) := by decide +kernel
theorem dX7_takeLatest_1 : decode cX7_takeLatest 1 = .ok (.getfield 18, 3) := by decide +kernel
theorem dX7_takeLatest_4 : decode cX7_takeLatest 4 = .ok (.ifCond .gt 5, 3) := by decide +kernel
theorem dX7_takeLatest_7 : decode cX7_takeLatest 7 = .ok (.aconst_null, 1) := by decide +kernel
theorem dX7_takeLatest_8 : decode cX7_takeLatest 8 = .ok (.areturn, 1) := by decide +kernel
theorem dX7_takeLatest_9 : decode cX7_takeLatest 9 = .ok (.aload_n 0, 1) := by decide +kernel
theorem dX7_takeLatest_10 : decode cX7_takeLatest 10 = .ok (.dup, 1) := by decide +kernel
theorem dX7_takeLatest_11 : decode cX7_takeLatest 11 = .ok (.getfield 18, 3) := by decide +kernel
theorem dX7_takeLatest_14 : decode cX7_takeLatest 14 = .ok (.iconst 1, 1) := by decide +kernel
theorem dX7_takeLatest_15 : decode cX7_takeLatest 15 = .ok (.isub, 1) := by decide +kernel
theorem dX7_takeLatest_16 : decode cX7_takeLatest 16 = .ok (.putfield 18, 3) := by decide +kernel
theorem dX7_takeLatest_19 : decode cX7_takeLatest 19 = .ok (.aload_n 0, 1) := by decide +kernel
theorem dX7_takeLatest_20 : decode cX7_takeLatest 20 = .ok (.aload_n 0, 1) := by decide +kernel
theorem dX7_takeLatest_21 : decode cX7_takeLatest 21 = .ok (.getfield 18, 3) := by decide +kernel
theorem dX7_takeLatest_24 : decode cX7_takeLatest 24 = .ok (.invokevirtual 25, 3) := by decide +kernel
theorem dX7_takeLatest_27 : decode cX7_takeLatest 27 = .ok (.areturn, 1) := by decide +kernel
theorem dX7_slotOf_0 : decode cX7_slotOf 0 = .ok (.aload_n 0, 1) := by decide +kernel
theorem dX7_slotOf_1 : decode cX7_slotOf 1 = .ok (.getfield 22, 3) := by decide +kernel
theorem dX7_slotOf_4 : decode cX7_slotOf 4 = .ok (.iload_n 1, 1) := by decide +kernel
theorem dX7_slotOf_5 : decode cX7_slotOf 5 = .ok (.iadd, 1) := by decide +kernel
theorem dX7_slotOf_6 : decode cX7_slotOf 6 = .ok (.bipush 30, 2) := by decide +kernel
theorem dX7_slotOf_8 : decode cX7_slotOf 8 = .ok (.irem, 1) := by decide +kernel
theorem dX7_slotOf_9 : decode cX7_slotOf 9 = .ok (.istore_n 2, 1) := by decide +kernel
theorem dX7_slotOf_10 : decode cX7_slotOf 10 = .ok (.iload_n 2, 1) := by decide +kernel
theorem dX7_slotOf_11 : decode cX7_slotOf 11 = .ok (.ifCond .lt 12, 3) := by decide +kernel
theorem dX7_slotOf_14 : decode cX7_slotOf 14 = .ok (.aload_n 0, 1) := by decide +kernel
theorem dX7_slotOf_15 : decode cX7_slotOf 15 = .ok (.getfield 11, 3) := by decide +kernel
theorem dX7_slotOf_18 : decode cX7_slotOf 18 = .ok (.iload_n 2, 1) := by decide +kernel
theorem dX7_slotOf_19 : decode cX7_slotOf 19 = .ok (.aaload, 1) := by decide +kernel
theorem dX7_slotOf_20 : decode cX7_slotOf 20 = .ok (.goto 4, 3) := by decide +kernel
theorem dX7_slotOf_23 : decode cX7_slotOf 23 = .ok (.aconst_null, 1) := by decide +kernel
theorem dX7_slotOf_24 : decode cX7_slotOf 24 = .ok (.areturn, 1) := by decide +kernel
theorem dX7_become_0 : decode cX7_become 0 = .ok (.iconst 0, 1) := by decide +kernel
theorem dX7_become_1 : decode cX7_become 1 = .ok (.istore_n 2, 1) := by decide +kernel
theorem dX7_become_2 : decode cX7_become 2 = .ok (.iload_n 2, 1) := by decide +kernel
theorem dX7_become_3 : decode cX7_become 3 = .ok (.aload_n 1, 1) := by decide +kernel
theorem dX7_become_4 : decode cX7_become 4 = .ok (.getfield 18, 3) := by decide +kernel
theorem dX7_become_7 : decode cX7_become 7 = .ok (.if_icmp .ge 44, 3) := by decide +kernel
theorem dX7_become_10 : decode cX7_become 10 = .ok (.iload_n 2, 1) := by decide +kernel
theorem dX7_become_11 : decode cX7_become 11 = .ok (.bipush 30, 2) := by decide +kernel
theorem dX7_become_13 : decode cX7_become 13 = .ok (.if_icmp .ge 38, 3) := by decide +kernel
theorem dX7_become_16 : decode cX7_become 16 = .ok (.aload_n 1, 1) := by decide +kernel
theorem dX7_become_17 : decode cX7_become 17 = .ok (.iload_n 2, 1) := by decide +kernel
theorem dX7_become_18 : decode cX7_become 18 = .ok (.invokevirtual 25, 3) := by decide +kernel
theorem dX7_become_21 : decode cX7_become 21 = .ok (.astore_n 3, 1) := by decide +kernel
theorem dX7_become_22 : decode cX7_become 22 = .ok (.aload_n 0, 1) := by decide +kernel
theorem dX7_become_23 : decode cX7_become 23 = .ok (.getfield 11, 3) := by decide +kernel
theorem dX7_become_26 : decode cX7_become 26 = .ok (.iload_n 2, 1) := by decide +kernel
theorem dX7_become_27 : decode cX7_become 27 = .ok (.aaload, 1) := by decide +kernel
theorem dX7_become_28 : decode cX7_become 28 = .ok (.astore 4, 2) := by decide +kernel
theorem dX7_become_30 : decode cX7_become 30 = .ok (.aload_n 3, 1) := by decide +kernel
theorem dX7_become_31 : decode cX7_become 31 = .ok (.ifnull 14, 3) := by decide +kernel
theorem dX7_become_34 : decode cX7_become 34 = .ok (.aload 4, 2) := by decide +kernel
theorem dX7_become_36 : decode cX7_become 36 = .ok (.ifnull 9, 3) := by decide +kernel
theorem dX7_become_39 : decode cX7_become 39 = .ok (.aload 4, 2) := by decide +kernel
theorem dX7_become_41 : decode cX7_become 41 = .ok (.aload_n 3, 1) := by decide +kernel
theorem dX7_become_42 : decode cX7_become 42 = .ok (.invokevirtual 29, 3) := by decide +kernel
theorem dX7_become_45 : decode cX7_become 45 = .ok (.iinc 2 1, 3) := by decide +kernel
theorem dX7_become_48 : decode cX7_become 48 = .ok (.goto (-46), 3) := by decide +kernel
theorem dX7_become_51 : decode cX7_become 51 = .ok (.aload_n 0, 1) := by decide +kernel
theorem dX7_become_52 : decode cX7_become 52 = .ok (.iconst 0, 1) := by decide +kernel
theorem dX7_become_53 : decode cX7_become 53 = .ok (.putfield 22, 3) := by decide +kernel
theorem dX7_become_56 : decode cX7_become 56 = .ok (.aload_n 0, 1) := by decide +kernel
theorem dX7_become_57 : decode cX7_become 57 = .ok (.aload_n 1, 1) := by decide +kernel
theorem dX7_become_58 : decode cX7_become 58 = .ok (.getfield 18, 3) := by decide +kernel
theorem dX7_become_61 : decode cX7_become 61 = .ok (.putfield 18, 3) := by decide +kernel
theorem dX7_become_64 : decode cX7_become 64 = .ok (.return_, 1) := by decide +kernel
theorem dX8_init_0 : decode cX8_init 0 = .ok (.aload_n 0, 1) := by decide +kernel
theorem dX8_init_1 : decode cX8_init 1 = .ok (.invokespecial 3, 3) := by decide +kernel
theorem dX8_init_4 : decode cX8_init 4 = .ok (.aload_n 0, 1) := by decide +kernel
theorem dX8_init_5 : decode cX8_init 5 = .ok (.bipush 24, 2) := by decide +kernel
theorem dX8_init_7 : decode cX8_init 7 = .ok (.newarray .int, 2) := by decide +kernel
theorem dX8_init_9 : decode cX8_init 9 = .ok (.putfield 9, 3) := by decide +kernel
theorem dX8_init_12 : decode cX8_init 12 = .ok (.aload_n 0, 1) := by decide +kernel
theorem dX8_init_13 : decode cX8_init 13 = .ok (.bipush 24, 2) := by decide +kernel
theorem dX8_init_15 : decode cX8_init 15 = .ok (.newarray .int, 2) := by decide +kernel
theorem dX8_init_17 : decode cX8_init 17 = .ok (.putfield 15, 3) := by decide +kernel
theorem dX8_init_20 : decode cX8_init 20 = .ok (.aload_n 0, 1) := by decide +kernel
theorem dX8_init_21 : decode cX8_init 21 = .ok (.bipush 24, 2) := by decide +kernel
theorem dX8_init_23 : decode cX8_init 23 = .ok (.newarray .int, 2) := by decide +kernel
theorem dX8_init_25 : decode cX8_init 25 = .ok (.putfield 18, 3) := by decide +kernel
theorem dX8_init_28 : decode cX8_init 28 = .ok (.aload_n 0, 1) := by decide +kernel
theorem dX8_init_29 : decode cX8_init 29 = .ok (.iconst 3, 1) := by decide +kernel
theorem dX8_init_30 : decode cX8_init 30 = .ok (.newarray .int, 2) := by decide +kernel
theorem dX8_init_32 : decode cX8_init 32 = .ok (.putfield 21, 3) := by decide +kernel
theorem dX8_init_35 : decode cX8_init 35 = .ok (.aload_n 0, 1) := by decide +kernel
theorem dX8_init_36 : decode cX8_init 36 = .ok (.sipush 320, 3) := by decide +kernel
theorem dX8_init_39 : decode cX8_init 39 = .ok (.newarray .int, 2) := by decide +kernel
theorem dX8_init_41 : decode cX8_init 41 = .ok (.putfield 24, 3) := by decide +kernel
theorem dX8_init_44 : decode cX8_init 44 = .ok (.aload_n 0, 1) := by decide +kernel
theorem dX8_init_45 : decode cX8_init 45 = .ok (.sipush 320, 3) := by decide +kernel
theorem dX8_init_48 : decode cX8_init 48 = .ok (.newarray .int, 2) := by decide +kernel
theorem dX8_init_50 : decode cX8_init 50 = .ok (.putfield 27, 3) := by decide +kernel
theorem dX8_init_53 : decode cX8_init 53 = .ok (.return_, 1) := by decide +kernel
theorem dX8_empty_0 : decode cX8_empty 0 = .ok (.aload_n 0, 1) := by decide +kernel
theorem dX8_empty_1 : decode cX8_empty 1 = .ok (.iconst 0, 1) := by decide +kernel
theorem dX8_empty_2 : decode cX8_empty 2 = .ok (.putfield 30, 3) := by decide +kernel
theorem dX8_empty_5 : decode cX8_empty 5 = .ok (.aload_n 0, 1) := by decide +kernel
theorem dX8_empty_6 : decode cX8_empty 6 = .ok (.iconst 0, 1) := by decide +kernel
theorem dX8_empty_7 : decode cX8_empty 7 = .ok (.putfield 34, 3) := by decide +kernel
theorem dX8_empty_10 : decode cX8_empty 10 = .ok (.aload_n 0, 1) := by decide +kernel
theorem dX8_empty_11 : decode cX8_empty 11 = .ok (.getfield 21, 3) := by decide +kernel
theorem dX8_empty_14 : decode cX8_empty 14 = .ok (.iconst (-1), 1) := by decide +kernel
theorem dX8_empty_15 : decode cX8_empty 15 = .ok (.invokestatic 37, 3) := by decide +kernel
theorem dX8_empty_18 : decode cX8_empty 18 = .ok (.return_, 1) := by decide +kernel
theorem dX8_hasLaw_0 : decode cX8_hasLaw 0 = .ok (.iload_n 1, 1) := by decide +kernel
theorem dX8_hasLaw_1 : decode cX8_hasLaw 1 = .ok (.ifCond .lt 26, 3) := by decide +kernel
theorem dX8_hasLaw_4 : decode cX8_hasLaw 4 = .ok (.iload_n 1, 1) := by decide +kernel
theorem dX8_hasLaw_5 : decode cX8_hasLaw 5 = .ok (.aload_n 0, 1) := by decide +kernel
theorem dX8_hasLaw_6 : decode cX8_hasLaw 6 = .ok (.getfield 21, 3) := by decide +kernel
theorem dX8_hasLaw_9 : decode cX8_hasLaw 9 = .ok (.arraylength, 1) := by decide +kernel
theorem dX8_hasLaw_10 : decode cX8_hasLaw 10 = .ok (.if_icmp .ge 17, 3) := by decide +kernel
theorem dX8_hasLaw_13 : decode cX8_hasLaw 13 = .ok (.aload_n 0, 1) := by decide +kernel
theorem dX8_hasLaw_14 : decode cX8_hasLaw 14 = .ok (.getfield 21, 3) := by decide +kernel
theorem dX8_hasLaw_17 : decode cX8_hasLaw 17 = .ok (.iload_n 1, 1) := by decide +kernel
theorem dX8_hasLaw_18 : decode cX8_hasLaw 18 = .ok (.iaload, 1) := by decide +kernel
theorem dX8_hasLaw_19 : decode cX8_hasLaw 19 = .ok (.iconst (-1), 1) := by decide +kernel
theorem dX8_hasLaw_20 : decode cX8_hasLaw 20 = .ok (.if_icmp .eq 7, 3) := by decide +kernel
theorem dX8_hasLaw_23 : decode cX8_hasLaw 23 = .ok (.iconst 1, 1) := by decide +kernel
theorem dX8_hasLaw_24 : decode cX8_hasLaw 24 = .ok (.goto 4, 3) := by decide +kernel
theorem dX8_hasLaw_27 : decode cX8_hasLaw 27 = .ok (.iconst 0, 1) := by decide +kernel
theorem dX8_hasLaw_28 : decode cX8_hasLaw 28 = .ok (.ireturn, 1) := by decide +kernel
theorem dX8_addClause_0 : decode cX8_addClause 0 = .ok (.aload_n 0, 1) := by decide +kernel
theorem dX8_addClause_1 : decode cX8_addClause 1 = .ok (.getfield 30, 3) := by decide +kernel
theorem dX8_addClause_4 : decode cX8_addClause 4 = .ok (.ifCond .lt 52, 3) := by decide +kernel
theorem dX8_addClause_7 : decode cX8_addClause 7 = .ok (.aload_n 0, 1) := by decide +kernel
theorem dX8_addClause_8 : decode cX8_addClause 8 = .ok (.getfield 30, 3) := by decide +kernel
theorem dX8_addClause_11 : decode cX8_addClause 11 = .ok (.bipush 24, 2) := by decide +kernel
theorem dX8_addClause_13 : decode cX8_addClause 13 = .ok (.if_icmp .ge 43, 3) := by decide +kernel
theorem dX8_addClause_16 : decode cX8_addClause 16 = .ok (.aload_n 0, 1) := by decide +kernel
theorem dX8_addClause_17 : decode cX8_addClause 17 = .ok (.getfield 9, 3) := by decide +kernel
theorem dX8_addClause_20 : decode cX8_addClause 20 = .ok (.aload_n 0, 1) := by decide +kernel
theorem dX8_addClause_21 : decode cX8_addClause 21 = .ok (.getfield 30, 3) := by decide +kernel
theorem dX8_addClause_24 : decode cX8_addClause 24 = .ok (.iload_n 1, 1) := by decide +kernel
theorem dX8_addClause_25 : decode cX8_addClause 25 = .ok (.iastore, 1) := by decide +kernel
theorem dX8_addClause_26 : decode cX8_addClause 26 = .ok (.aload_n 0, 1) := by decide +kernel
theorem dX8_addClause_27 : decode cX8_addClause 27 = .ok (.getfield 15, 3) := by decide +kernel
theorem dX8_addClause_30 : decode cX8_addClause 30 = .ok (.aload_n 0, 1) := by decide +kernel
theorem dX8_addClause_31 : decode cX8_addClause 31 = .ok (.getfield 30, 3) := by decide +kernel
theorem dX8_addClause_34 : decode cX8_addClause 34 = .ok (.iload_n 2, 1) := by decide +kernel
theorem dX8_addClause_35 : decode cX8_addClause 35 = .ok (.iastore, 1) := by decide +kernel
theorem dX8_addClause_36 : decode cX8_addClause 36 = .ok (.aload_n 0, 1) := by decide +kernel
theorem dX8_addClause_37 : decode cX8_addClause 37 = .ok (.getfield 18, 3) := by decide +kernel
theorem dX8_addClause_40 : decode cX8_addClause 40 = .ok (.aload_n 0, 1) := by decide +kernel
theorem dX8_addClause_41 : decode cX8_addClause 41 = .ok (.getfield 30, 3) := by decide +kernel
theorem dX8_addClause_44 : decode cX8_addClause 44 = .ok (.iload_n 3, 1) := by decide +kernel
theorem dX8_addClause_45 : decode cX8_addClause 45 = .ok (.iastore, 1) := by decide +kernel
theorem dX8_addClause_46 : decode cX8_addClause 46 = .ok (.aload_n 0, 1) := by decide +kernel
theorem dX8_addClause_47 : decode cX8_addClause 47 = .ok (.dup, 1) := by decide +kernel
theorem dX8_addClause_48 : decode cX8_addClause 48 = .ok (.getfield 30, 3) := by decide +kernel
theorem dX8_addClause_51 : decode cX8_addClause 51 = .ok (.iconst 1, 1) := by decide +kernel
theorem dX8_addClause_52 : decode cX8_addClause 52 = .ok (.iadd, 1) := by decide +kernel
theorem dX8_addClause_53 : decode cX8_addClause 53 = .ok (.putfield 30, 3) := by decide +kernel
theorem dX8_addClause_56 : decode cX8_addClause 56 = .ok (.return_, 1) := by decide +kernel
theorem dX8_emit_0 : decode cX8_emit 0 = .ok (.aload_n 0, 1) := by decide +kernel
theorem dX8_emit_1 : decode cX8_emit 1 = .ok (.getfield 34, 3) := by decide +kernel
theorem dX8_emit_4 : decode cX8_emit 4 = .ok (.istore_n 3, 1) := by decide +kernel
theorem dX8_emit_5 : decode cX8_emit 5 = .ok (.iload_n 3, 1) := by decide +kernel
theorem dX8_emit_6 : decode cX8_emit 6 = .ok (.ifCond .lt 34, 3) := by decide +kernel
theorem dX8_emit_9 : decode cX8_emit 9 = .ok (.iload_n 3, 1) := by decide +kernel
theorem dX8_emit_10 : decode cX8_emit 10 = .ok (.sipush 320, 3) := by decide +kernel
theorem dX8_emit_13 : decode cX8_emit 13 = .ok (.if_icmp .ge 27, 3) := by decide +kernel
theorem dX8_emit_16 : decode cX8_emit 16 = .ok (.aload_n 0, 1) := by decide +kernel
theorem dX8_emit_17 : decode cX8_emit 17 = .ok (.getfield 24, 3) := by decide +kernel
theorem dX8_emit_20 : decode cX8_emit 20 = .ok (.iload_n 3, 1) := by decide +kernel
theorem dX8_emit_21 : decode cX8_emit 21 = .ok (.iload_n 1, 1) := by decide +kernel
theorem dX8_emit_22 : decode cX8_emit 22 = .ok (.iastore, 1) := by decide +kernel
theorem dX8_emit_23 : decode cX8_emit 23 = .ok (.aload_n 0, 1) := by decide +kernel
theorem dX8_emit_24 : decode cX8_emit 24 = .ok (.getfield 27, 3) := by decide +kernel
theorem dX8_emit_27 : decode cX8_emit 27 = .ok (.iload_n 3, 1) := by decide +kernel
theorem dX8_emit_28 : decode cX8_emit 28 = .ok (.iload_n 2, 1) := by decide +kernel
theorem dX8_emit_29 : decode cX8_emit 29 = .ok (.iastore, 1) := by decide +kernel
theorem dX8_emit_30 : decode cX8_emit 30 = .ok (.aload_n 0, 1) := by decide +kernel
theorem dX8_emit_31 : decode cX8_emit 31 = .ok (.dup, 1) := by decide +kernel
theorem dX8_emit_32 : decode cX8_emit 32 = .ok (.getfield 34, 3) := by decide +kernel
theorem dX8_emit_35 : decode cX8_emit 35 = .ok (.iconst 1, 1) := by decide +kernel
theorem dX8_emit_36 : decode cX8_emit 36 = .ok (.iadd, 1) := by decide +kernel
theorem dX8_emit_37 : decode cX8_emit 37 = .ok (.putfield 34, 3) := by decide +kernel
theorem dX8_emit_40 : decode cX8_emit 40 = .ok (.iload_n 3, 1) := by decide +kernel
theorem dX8_emit_41 : decode cX8_emit 41 = .ok (.ireturn, 1) := by decide +kernel
theorem dX8_aimHere_0 : decode cX8_aimHere 0 = .ok (.iload_n 1, 1) := by decide +kernel
theorem dX8_aimHere_1 : decode cX8_aimHere 1 = .ok (.ifCond .lt 20, 3) := by decide +kernel
theorem dX8_aimHere_4 : decode cX8_aimHere 4 = .ok (.iload_n 1, 1) := by decide +kernel
theorem dX8_aimHere_5 : decode cX8_aimHere 5 = .ok (.sipush 320, 3) := by decide +kernel
theorem dX8_aimHere_8 : decode cX8_aimHere 8 = .ok (.if_icmp .ge 13, 3) := by decide +kernel
theorem dX8_aimHere_11 : decode cX8_aimHere 11 = .ok (.aload_n 0, 1) := by decide +kernel
theorem dX8_aimHere_12 : decode cX8_aimHere 12 = .ok (.getfield 27, 3) := by decide +kernel
theorem dX8_aimHere_15 : decode cX8_aimHere 15 = .ok (.iload_n 1, 1) := by decide +kernel
theorem dX8_aimHere_16 : decode cX8_aimHere 16 = .ok (.aload_n 0, 1) := by decide +kernel
theorem dX8_aimHere_17 : decode cX8_aimHere 17 = .ok (.getfield 34, 3) := by decide +kernel
theorem dX8_aimHere_20 : decode cX8_aimHere 20 = .ok (.iastore, 1) := by decide +kernel
theorem dX8_aimHere_21 : decode cX8_aimHere 21 = .ok (.return_, 1) := by decide +kernel
theorem dX9_init_0 : decode cX9_init 0 = .ok (.aload_n 0, 1) := by decide +kernel
theorem dX9_init_1 : decode cX9_init 1 = .ok (.invokespecial 3, 3) := by decide +kernel
theorem dX9_init_4 : decode cX9_init 4 = .ok (.aload_n 0, 1) := by decide +kernel
theorem dX9_init_5 : decode cX9_init 5 = .ok (.bipush 6, 2) := by decide +kernel
theorem dX9_init_7 : decode cX9_init 7 = .ok (.newarray .int, 2) := by decide +kernel
theorem dX9_init_9 : decode cX9_init 9 = .ok (.putfield 9, 3) := by decide +kernel
theorem dX9_init_12 : decode cX9_init 12 = .ok (.aload_n 0, 1) := by decide +kernel
theorem dX9_init_13 : decode cX9_init 13 = .ok (.bipush 6, 2) := by decide +kernel
theorem dX9_init_15 : decode cX9_init 15 = .ok (.newarray .int, 2) := by decide +kernel
theorem dX9_init_17 : decode cX9_init 17 = .ok (.putfield 15, 3) := by decide +kernel
theorem dX9_init_20 : decode cX9_init 20 = .ok (.aload_n 0, 1) := by decide +kernel
theorem dX9_init_21 : decode cX9_init 21 = .ok (.iconst 5, 1) := by decide +kernel
theorem dX9_init_22 : decode cX9_init 22 = .ok (.newarray .int, 2) := by decide +kernel
theorem dX9_init_24 : decode cX9_init 24 = .ok (.putfield 18, 3) := by decide +kernel
theorem dX9_init_27 : decode cX9_init 27 = .ok (.aload_n 0, 1) := by decide +kernel
theorem dX9_init_28 : decode cX9_init 28 = .ok (.iconst 5, 1) := by decide +kernel
theorem dX9_init_29 : decode cX9_init 29 = .ok (.newarray .int, 2) := by decide +kernel
theorem dX9_init_31 : decode cX9_init 31 = .ok (.putfield 21, 3) := by decide +kernel
theorem dX9_init_34 : decode cX9_init 34 = .ok (.aload_n 0, 1) := by decide +kernel
theorem dX9_init_35 : decode cX9_init 35 = .ok (.bipush 30, 2) := by decide +kernel
theorem dX9_init_37 : decode cX9_init 37 = .ok (.newarray .int, 2) := by decide +kernel
theorem dX9_init_39 : decode cX9_init 39 = .ok (.putfield 24, 3) := by decide +kernel
theorem dX9_init_42 : decode cX9_init 42 = .ok (.aload_n 0, 1) := by decide +kernel
theorem dX9_init_43 : decode cX9_init 43 = .ok (.bipush 30, 2) := by decide +kernel
theorem dX9_init_45 : decode cX9_init 45 = .ok (.newarray .int, 2) := by decide +kernel
theorem dX9_init_47 : decode cX9_init 47 = .ok (.putfield 27, 3) := by decide +kernel
theorem dX9_init_50 : decode cX9_init 50 = .ok (.aload_n 0, 1) := by decide +kernel
theorem dX9_init_51 : decode cX9_init 51 = .ok (.iconst 5, 1) := by decide +kernel
theorem dX9_init_52 : decode cX9_init 52 = .ok (.newarray .int, 2) := by decide +kernel
theorem dX9_init_54 : decode cX9_init 54 = .ok (.putfield 30, 3) := by decide +kernel
theorem dX9_init_57 : decode cX9_init 57 = .ok (.aload_n 0, 1) := by decide +kernel
theorem dX9_init_58 : decode cX9_init 58 = .ok (.bipush 8, 2) := by decide +kernel
theorem dX9_init_60 : decode cX9_init 60 = .ok (.newarray .int, 2) := by decide +kernel
theorem dX9_init_62 : decode cX9_init 62 = .ok (.putfield 33, 3) := by decide +kernel
theorem dX9_init_65 : decode cX9_init 65 = .ok (.aload_n 0, 1) := by decide +kernel
theorem dX9_init_66 : decode cX9_init 66 = .ok (.bipush 8, 2) := by decide +kernel
theorem dX9_init_68 : decode cX9_init 68 = .ok (.newarray .int, 2) := by decide +kernel
theorem dX9_init_70 : decode cX9_init 70 = .ok (.putfield 36, 3) := by decide +kernel
theorem dX9_init_73 : decode cX9_init 73 = .ok (.aload_n 0, 1) := by decide +kernel
theorem dX9_init_74 : decode cX9_init 74 = .ok (.bipush 8, 2) := by decide +kernel
theorem dX9_init_76 : decode cX9_init 76 = .ok (.newarray .int, 2) := by decide +kernel
theorem dX9_init_78 : decode cX9_init 78 = .ok (.putfield 39, 3) := by decide +kernel
theorem dX9_init_81 : decode cX9_init 81 = .ok (.aload_n 0, 1) := by decide +kernel
theorem dX9_init_82 : decode cX9_init 82 = .ok (.new 42, 3) := by decide +kernel
theorem dX9_init_85 : decode cX9_init 85 = .ok (.dup, 1) := by decide +kernel
theorem dX9_init_86 : decode cX9_init 86 = .ok (.invokespecial 44, 3) := by decide +kernel
theorem dX9_init_89 : decode cX9_init 89 = .ok (.putfield 45, 3) := by decide +kernel
theorem dX9_init_92 : decode cX9_init 92 = .ok (.aload_n 0, 1) := by decide +kernel
theorem dX9_init_93 : decode cX9_init 93 = .ok (.new 49, 3) := by decide +kernel
theorem dX9_init_96 : decode cX9_init 96 = .ok (.dup, 1) := by decide +kernel
theorem dX9_init_97 : decode cX9_init 97 = .ok (.invokespecial 51, 3) := by decide +kernel
theorem dX9_init_100 : decode cX9_init 100 = .ok (.putfield 52, 3) := by decide +kernel
theorem dX9_init_103 : decode cX9_init 103 = .ok (.aload_n 0, 1) := by decide +kernel
theorem dX9_init_104 : decode cX9_init 104 = .ok (.iconst (-1), 1) := by decide +kernel
theorem dX9_init_105 : decode cX9_init 105 = .ok (.putfield 56, 3) := by decide +kernel
theorem dX9_init_108 : decode cX9_init 108 = .ok (.aload_n 0, 1) := by decide +kernel
theorem dX9_init_109 : decode cX9_init 109 = .ok (.bipush 10, 2) := by decide +kernel
theorem dX9_init_111 : decode cX9_init 111 = .ok (.putfield 60, 3) := by decide +kernel
theorem dX9_init_114 : decode cX9_init 114 = .ok (.aload_n 0, 1) := by decide +kernel
theorem dX9_init_115 : decode cX9_init 115 = .ok (.getfield 30, 3) := by decide +kernel
theorem dX9_init_118 : decode cX9_init 118 = .ok (.iconst (-1), 1) := by decide +kernel
theorem dX9_init_119 : decode cX9_init 119 = .ok (.invokestatic 63, 3) := by decide +kernel
theorem dX9_init_122 : decode cX9_init 122 = .ok (.return_, 1) := by decide +kernel
theorem dX9_become_0 : decode cX9_become 0 = .ok (.aload_n 1, 1) := by decide +kernel
theorem dX9_become_1 : decode cX9_become 1 = .ok (.getfield 9, 3) := by decide +kernel
theorem dX9_become_4 : decode cX9_become 4 = .ok (.iconst 0, 1) := by decide +kernel
theorem dX9_become_5 : decode cX9_become 5 = .ok (.aload_n 0, 1) := by decide +kernel
theorem dX9_become_6 : decode cX9_become 6 = .ok (.getfield 9, 3) := by decide +kernel
theorem dX9_become_9 : decode cX9_become 9 = .ok (.iconst 0, 1) := by decide +kernel
theorem dX9_become_10 : decode cX9_become 10 = .ok (.bipush 6, 2) := by decide +kernel
theorem dX9_become_12 : decode cX9_become 12 = .ok (.invokestatic 69, 3) := by decide +kernel
theorem dX9_become_15 : decode cX9_become 15 = .ok (.aload_n 1, 1) := by decide +kernel
theorem dX9_become_16 : decode cX9_become 16 = .ok (.getfield 15, 3) := by decide +kernel
theorem dX9_become_19 : decode cX9_become 19 = .ok (.iconst 0, 1) := by decide +kernel
theorem dX9_become_20 : decode cX9_become 20 = .ok (.aload_n 0, 1) := by decide +kernel
theorem dX9_become_21 : decode cX9_become 21 = .ok (.getfield 15, 3) := by decide +kernel
theorem dX9_become_24 : decode cX9_become 24 = .ok (.iconst 0, 1) := by decide +kernel
theorem dX9_become_25 : decode cX9_become 25 = .ok (.bipush 6, 2) := by decide +kernel
theorem dX9_become_27 : decode cX9_become 27 = .ok (.invokestatic 69, 3) := by decide +kernel
theorem dX9_become_30 : decode cX9_become 30 = .ok (.aload_n 1, 1) := by decide +kernel
theorem dX9_become_31 : decode cX9_become 31 = .ok (.getfield 18, 3) := by decide +kernel
theorem dX9_become_34 : decode cX9_become 34 = .ok (.iconst 0, 1) := by decide +kernel
theorem dX9_become_35 : decode cX9_become 35 = .ok (.aload_n 0, 1) := by decide +kernel
theorem dX9_become_36 : decode cX9_become 36 = .ok (.getfield 18, 3) := by decide +kernel
theorem dX9_become_39 : decode cX9_become 39 = .ok (.iconst 0, 1) := by decide +kernel
theorem dX9_become_40 : decode cX9_become 40 = .ok (.iconst 5, 1) := by decide +kernel
theorem dX9_become_41 : decode cX9_become 41 = .ok (.invokestatic 69, 3) := by decide +kernel
theorem dX9_become_44 : decode cX9_become 44 = .ok (.aload_n 1, 1) := by decide +kernel
theorem dX9_become_45 : decode cX9_become 45 = .ok (.getfield 21, 3) := by decide +kernel
theorem dX9_become_48 : decode cX9_become 48 = .ok (.iconst 0, 1) := by decide +kernel
theorem dX9_become_49 : decode cX9_become 49 = .ok (.aload_n 0, 1) := by decide +kernel
theorem dX9_become_50 : decode cX9_become 50 = .ok (.getfield 21, 3) := by decide +kernel
theorem dX9_become_53 : decode cX9_become 53 = .ok (.iconst 0, 1) := by decide +kernel
theorem dX9_become_54 : decode cX9_become 54 = .ok (.iconst 5, 1) := by decide +kernel
theorem dX9_become_55 : decode cX9_become 55 = .ok (.invokestatic 69, 3) := by decide +kernel
theorem dX9_become_58 : decode cX9_become 58 = .ok (.aload_n 1, 1) := by decide +kernel
theorem dX9_become_59 : decode cX9_become 59 = .ok (.getfield 24, 3) := by decide +kernel
theorem dX9_become_62 : decode cX9_become 62 = .ok (.iconst 0, 1) := by decide +kernel
theorem dX9_become_63 : decode cX9_become 63 = .ok (.aload_n 0, 1) := by decide +kernel
theorem dX9_become_64 : decode cX9_become 64 = .ok (.getfield 24, 3) := by decide +kernel
theorem dX9_become_67 : decode cX9_become 67 = .ok (.iconst 0, 1) := by decide +kernel
theorem dX9_become_68 : decode cX9_become 68 = .ok (.bipush 30, 2) := by decide +kernel
theorem dX9_become_70 : decode cX9_become 70 = .ok (.invokestatic 69, 3) := by decide +kernel
theorem dX9_become_73 : decode cX9_become 73 = .ok (.aload_n 1, 1) := by decide +kernel
theorem dX9_become_74 : decode cX9_become 74 = .ok (.getfield 27, 3) := by decide +kernel
theorem dX9_become_77 : decode cX9_become 77 = .ok (.iconst 0, 1) := by decide +kernel
theorem dX9_become_78 : decode cX9_become 78 = .ok (.aload_n 0, 1) := by decide +kernel
theorem dX9_become_79 : decode cX9_become 79 = .ok (.getfield 27, 3) := by decide +kernel
theorem dX9_become_82 : decode cX9_become 82 = .ok (.iconst 0, 1) := by decide +kernel
theorem dX9_become_83 : decode cX9_become 83 = .ok (.bipush 30, 2) := by decide +kernel
theorem dX9_become_85 : decode cX9_become 85 = .ok (.invokestatic 69, 3) := by decide +kernel
theorem dX9_become_88 : decode cX9_become 88 = .ok (.aload_n 1, 1) := by decide +kernel
theorem dX9_become_89 : decode cX9_become 89 = .ok (.getfield 30, 3) := by decide +kernel
theorem dX9_become_92 : decode cX9_become 92 = .ok (.iconst 0, 1) := by decide +kernel
theorem dX9_become_93 : decode cX9_become 93 = .ok (.aload_n 0, 1) := by decide +kernel
theorem dX9_become_94 : decode cX9_become 94 = .ok (.getfield 30, 3) := by decide +kernel
theorem dX9_become_97 : decode cX9_become 97 = .ok (.iconst 0, 1) := by decide +kernel
theorem dX9_become_98 : decode cX9_become 98 = .ok (.iconst 5, 1) := by decide +kernel
theorem dX9_become_99 : decode cX9_become 99 = .ok (.invokestatic 69, 3) := by decide +kernel
theorem dX9_become_102 : decode cX9_become 102 = .ok (.aload_n 1, 1) := by decide +kernel
theorem dX9_become_103 : decode cX9_become 103 = .ok (.getfield 33, 3) := by decide +kernel
theorem dX9_become_106 : decode cX9_become 106 = .ok (.iconst 0, 1) := by decide +kernel
theorem dX9_become_107 : decode cX9_become 107 = .ok (.aload_n 0, 1) := by decide +kernel
theorem dX9_become_108 : decode cX9_become 108 = .ok (.getfield 33, 3) := by decide +kernel
theorem dX9_become_111 : decode cX9_become 111 = .ok (.iconst 0, 1) := by decide +kernel
theorem dX9_become_112 : decode cX9_become 112 = .ok (.bipush 8, 2) := by decide +kernel
theorem dX9_become_114 : decode cX9_become 114 = .ok (.invokestatic 69, 3) := by decide +kernel
theorem dX9_become_117 : decode cX9_become 117 = .ok (.aload_n 1, 1) := by decide +kernel
theorem dX9_become_118 : decode cX9_become 118 = .ok (.getfield 36, 3) := by decide +kernel
theorem dX9_become_121 : decode cX9_become 121 = .ok (.iconst 0, 1) := by decide +kernel
theorem dX9_become_122 : decode cX9_become 122 = .ok (.aload_n 0, 1) := by decide +kernel
theorem dX9_become_123 : decode cX9_become 123 = .ok (.getfield 36, 3) := by decide +kernel
theorem dX9_become_126 : decode cX9_become 126 = .ok (.iconst 0, 1) := by decide +kernel
theorem dX9_become_127 : decode cX9_become 127 = .ok (.bipush 8, 2) := by decide +kernel
theorem dX9_become_129 : decode cX9_become 129 = .ok (.invokestatic 69, 3) := by decide +kernel
theorem dX9_become_132 : decode cX9_become 132 = .ok (.aload_n 1, 1) := by decide +kernel
theorem dX9_become_133 : decode cX9_become 133 = .ok (.getfield 39, 3) := by decide +kernel
theorem dX9_become_136 : decode cX9_become 136 = .ok (.iconst 0, 1) := by decide +kernel
theorem dX9_become_137 : decode cX9_become 137 = .ok (.aload_n 0, 1) := by decide +kernel
theorem dX9_become_138 : decode cX9_become 138 = .ok (.getfield 39, 3) := by decide +kernel
theorem dX9_become_141 : decode cX9_become 141 = .ok (.iconst 0, 1) := by decide +kernel
theorem dX9_become_142 : decode cX9_become 142 = .ok (.bipush 8, 2) := by decide +kernel
theorem dX9_become_144 : decode cX9_become 144 = .ok (.invokestatic 69, 3) := by decide +kernel
theorem dX9_become_147 : decode cX9_become 147 = .ok (.aload_n 0, 1) := by decide +kernel
theorem dX9_become_148 : decode cX9_become 148 = .ok (.getfield 45, 3) := by decide +kernel
theorem dX9_become_151 : decode cX9_become 151 = .ok (.aload_n 1, 1) := by decide +kernel
theorem dX9_become_152 : decode cX9_become 152 = .ok (.getfield 45, 3) := by decide +kernel
theorem dX9_become_155 : decode cX9_become 155 = .ok (.invokevirtual 75, 3) := by decide +kernel
theorem dX9_become_158 : decode cX9_become 158 = .ok (.aload_n 0, 1) := by decide +kernel
theorem dX9_become_159 : decode cX9_become 159 = .ok (.getfield 52, 3) := by decide +kernel
theorem dX9_become_162 : decode cX9_become 162 = .ok (.aload_n 1, 1) := by decide +kernel
theorem dX9_become_163 : decode cX9_become 163 = .ok (.getfield 52, 3) := by decide +kernel
theorem dX9_become_166 : decode cX9_become 166 = .ok (.invokevirtual 79, 3) := by decide +kernel
theorem dX9_become_169 : decode cX9_become 169 = .ok (.aload_n 0, 1) := by decide +kernel
theorem dX9_become_170 : decode cX9_become 170 = .ok (.aload_n 1, 1) := by decide +kernel
theorem dX9_become_171 : decode cX9_become 171 = .ok (.getfield 82, 3) := by decide +kernel
theorem dX9_become_174 : decode cX9_become 174 = .ok (.putfield 82, 3) := by decide +kernel
theorem dX9_become_177 : decode cX9_become 177 = .ok (.aload_n 0, 1) := by decide +kernel
theorem dX9_become_178 : decode cX9_become 178 = .ok (.aload_n 1, 1) := by decide +kernel
theorem dX9_become_179 : decode cX9_become 179 = .ok (.getfield 85, 3) := by decide +kernel
theorem dX9_become_182 : decode cX9_become 182 = .ok (.putfield 85, 3) := by decide +kernel
theorem dX9_become_185 : decode cX9_become 185 = .ok (.aload_n 0, 1) := by decide +kernel
theorem dX9_become_186 : decode cX9_become 186 = .ok (.aload_n 1, 1) := by decide +kernel
theorem dX9_become_187 : decode cX9_become 187 = .ok (.getfield 56, 3) := by decide +kernel
theorem dX9_become_190 : decode cX9_become 190 = .ok (.putfield 56, 3) := by decide +kernel
theorem dX9_become_193 : decode cX9_become 193 = .ok (.aload_n 0, 1) := by decide +kernel
theorem dX9_become_194 : decode cX9_become 194 = .ok (.aload_n 1, 1) := by decide +kernel
theorem dX9_become_195 : decode cX9_become 195 = .ok (.getfield 60, 3) := by decide +kernel
theorem dX9_become_198 : decode cX9_become 198 = .ok (.putfield 60, 3) := by decide +kernel
theorem dX9_become_201 : decode cX9_become 201 = .ok (.aload_n 0, 1) := by decide +kernel
theorem dX9_become_202 : decode cX9_become 202 = .ok (.aload_n 1, 1) := by decide +kernel
theorem dX9_become_203 : decode cX9_become 203 = .ok (.getfield 88, 3) := by decide +kernel
theorem dX9_become_206 : decode cX9_become 206 = .ok (.putfield 88, 3) := by decide +kernel
theorem dX9_become_209 : decode cX9_become 209 = .ok (.aload_n 0, 1) := by decide +kernel
theorem dX9_become_210 : decode cX9_become 210 = .ok (.aload_n 1, 1) := by decide +kernel
theorem dX9_become_211 : decode cX9_become 211 = .ok (.getfield 91, 3) := by decide +kernel
theorem dX9_become_214 : decode cX9_become 214 = .ok (.putfield 91, 3) := by decide +kernel
theorem dX9_become_217 : decode cX9_become 217 = .ok (.return_, 1) := by decide +kernel
theorem dX9_takeBack_0 : decode cX9_takeBack 0 = .ok (.aload_n 0, 1) := by decide +kernel
theorem dX9_takeBack_1 : decode cX9_takeBack 1 = .ok (.getfield 52, 3) := by decide +kernel
theorem dX9_takeBack_4 : decode cX9_takeBack 4 = .ok (.invokevirtual 94, 3) := by decide +kernel
theorem dX9_takeBack_7 : decode cX9_takeBack 7 = .ok (.astore_n 1, 1) := by decide +kernel
theorem dX9_takeBack_8 : decode cX9_takeBack 8 = .ok (.aload_n 1, 1) := by decide +kernel
theorem dX9_takeBack_9 : decode cX9_takeBack 9 = .ok (.ifnonnull 5, 3) := by decide +kernel
theorem dX9_takeBack_12 : decode cX9_takeBack 12 = .ok (.iconst 0, 1) := by decide +kernel
theorem dX9_takeBack_13 : decode cX9_takeBack 13 = .ok (.ireturn, 1) := by decide +kernel
theorem dX9_takeBack_14 : decode cX9_takeBack 14 = .ok (.aload_n 0, 1) := by decide +kernel
theorem dX9_takeBack_15 : decode cX9_takeBack 15 = .ok (.getfield 45, 3) := by decide +kernel
theorem dX9_takeBack_18 : decode cX9_takeBack 18 = .ok (.getfield 98, 3) := by decide +kernel
theorem dX9_takeBack_21 : decode cX9_takeBack 21 = .ok (.istore_n 2, 1) := by decide +kernel
theorem dX9_takeBack_22 : decode cX9_takeBack 22 = .ok (.aload_n 0, 1) := by decide +kernel
theorem dX9_takeBack_23 : decode cX9_takeBack 23 = .ok (.getfield 45, 3) := by decide +kernel
theorem dX9_takeBack_26 : decode cX9_takeBack 26 = .ok (.getfield 101, 3) := by decide +kernel
theorem dX9_takeBack_29 : decode cX9_takeBack 29 = .ok (.istore_n 3, 1) := by decide +kernel
theorem dX9_takeBack_30 : decode cX9_takeBack 30 = .ok (.aload_n 0, 1) := by decide +kernel
theorem dX9_takeBack_31 : decode cX9_takeBack 31 = .ok (.getfield 45, 3) := by decide +kernel
theorem dX9_takeBack_34 : decode cX9_takeBack 34 = .ok (.aload_n 1, 1) := by decide +kernel
theorem dX9_takeBack_35 : decode cX9_takeBack 35 = .ok (.invokevirtual 75, 3) := by decide +kernel
theorem dX9_takeBack_38 : decode cX9_takeBack 38 = .ok (.aload_n 1, 1) := by decide +kernel
theorem dX9_takeBack_39 : decode cX9_takeBack 39 = .ok (.getfield 98, 3) := by decide +kernel
theorem dX9_takeBack_42 : decode cX9_takeBack 42 = .ok (.istore 4, 2) := by decide +kernel
theorem dX9_takeBack_44 : decode cX9_takeBack 44 = .ok (.iload 4, 2) := by decide +kernel
theorem dX9_takeBack_46 : decode cX9_takeBack 46 = .ok (.iload_n 2, 1) := by decide +kernel
theorem dX9_takeBack_47 : decode cX9_takeBack 47 = .ok (.if_icmp .ge 47, 3) := by decide +kernel
theorem dX9_takeBack_50 : decode cX9_takeBack 50 = .ok (.iload 4, 2) := by decide +kernel
theorem dX9_takeBack_52 : decode cX9_takeBack 52 = .ok (.bipush 6, 2) := by decide +kernel
theorem dX9_takeBack_54 : decode cX9_takeBack 54 = .ok (.if_icmp .ge 40, 3) := by decide +kernel
theorem dX9_takeBack_57 : decode cX9_takeBack 57 = .ok (.aload_n 0, 1) := by decide +kernel
theorem dX9_takeBack_58 : decode cX9_takeBack 58 = .ok (.getfield 45, 3) := by decide +kernel
theorem dX9_takeBack_61 : decode cX9_takeBack 61 = .ok (.getfield 104, 3) := by decide +kernel
theorem dX9_takeBack_64 : decode cX9_takeBack 64 = .ok (.iload 4, 2) := by decide +kernel
theorem dX9_takeBack_66 : decode cX9_takeBack 66 = .ok (.iconst (-1), 1) := by decide +kernel
theorem dX9_takeBack_67 : decode cX9_takeBack 67 = .ok (.iastore, 1) := by decide +kernel
theorem dX9_takeBack_68 : decode cX9_takeBack 68 = .ok (.aload_n 0, 1) := by decide +kernel
theorem dX9_takeBack_69 : decode cX9_takeBack 69 = .ok (.getfield 45, 3) := by decide +kernel
theorem dX9_takeBack_72 : decode cX9_takeBack 72 = .ok (.getfield 107, 3) := by decide +kernel
theorem dX9_takeBack_75 : decode cX9_takeBack 75 = .ok (.iload 4, 2) := by decide +kernel
theorem dX9_takeBack_77 : decode cX9_takeBack 77 = .ok (.aload_n 0, 1) := by decide +kernel
theorem dX9_takeBack_78 : decode cX9_takeBack 78 = .ok (.getfield 9, 3) := by decide +kernel
theorem dX9_takeBack_81 : decode cX9_takeBack 81 = .ok (.iload 4, 2) := by decide +kernel
theorem dX9_takeBack_83 : decode cX9_takeBack 83 = .ok (.iaload, 1) := by decide +kernel
theorem dX9_takeBack_84 : decode cX9_takeBack 84 = .ok (.invokestatic 110, 3) := by decide +kernel
theorem dX9_takeBack_87 : decode cX9_takeBack 87 = .ok (.iastore, 1) := by decide +kernel
theorem dX9_takeBack_88 : decode cX9_takeBack 88 = .ok (.iinc 4 1, 3) := by decide +kernel
theorem dX9_takeBack_91 : decode cX9_takeBack 91 = .ok (.goto (-47), 3) := by decide +kernel
theorem dX9_takeBack_94 : decode cX9_takeBack 94 = .ok (.aload_n 1, 1) := by decide +kernel
theorem dX9_takeBack_95 : decode cX9_takeBack 95 = .ok (.getfield 101, 3) := by decide +kernel
theorem dX9_takeBack_98 : decode cX9_takeBack 98 = .ok (.istore 4, 2) := by decide +kernel
theorem dX9_takeBack_100 : decode cX9_takeBack 100 = .ok (.iload 4, 2) := by decide +kernel
theorem dX9_takeBack_102 : decode cX9_takeBack 102 = .ok (.iload_n 3, 1) := by decide +kernel
theorem dX9_takeBack_103 : decode cX9_takeBack 103 = .ok (.if_icmp .ge 32, 3) := by decide +kernel
theorem dX9_takeBack_106 : decode cX9_takeBack 106 = .ok (.iload 4, 2) := by decide +kernel
theorem dX9_takeBack_108 : decode cX9_takeBack 108 = .ok (.iconst 5, 1) := by decide +kernel
theorem dX9_takeBack_109 : decode cX9_takeBack 109 = .ok (.if_icmp .ge 26, 3) := by decide +kernel
theorem dX9_takeBack_112 : decode cX9_takeBack 112 = .ok (.aload_n 0, 1) := by decide +kernel
theorem dX9_takeBack_113 : decode cX9_takeBack 113 = .ok (.getfield 45, 3) := by decide +kernel
theorem dX9_takeBack_116 : decode cX9_takeBack 116 = .ok (.getfield 114, 3) := by decide +kernel
theorem dX9_takeBack_119 : decode cX9_takeBack 119 = .ok (.iload 4, 2) := by decide +kernel
theorem dX9_takeBack_121 : decode cX9_takeBack 121 = .ok (.aload_n 0, 1) := by decide +kernel
theorem dX9_takeBack_122 : decode cX9_takeBack 122 = .ok (.getfield 21, 3) := by decide +kernel
theorem dX9_takeBack_125 : decode cX9_takeBack 125 = .ok (.iload 4, 2) := by decide +kernel
theorem dX9_takeBack_127 : decode cX9_takeBack 127 = .ok (.iaload, 1) := by decide +kernel
theorem dX9_takeBack_128 : decode cX9_takeBack 128 = .ok (.iastore, 1) := by decide +kernel
theorem dX9_takeBack_129 : decode cX9_takeBack 129 = .ok (.iinc 4 1, 3) := by decide +kernel
theorem dX9_takeBack_132 : decode cX9_takeBack 132 = .ok (.goto (-32), 3) := by decide +kernel
theorem dX9_takeBack_135 : decode cX9_takeBack 135 = .ok (.aload_n 0, 1) := by decide +kernel
theorem dX9_takeBack_136 : decode cX9_takeBack 136 = .ok (.getfield 45, 3) := by decide +kernel
theorem dX9_takeBack_139 : decode cX9_takeBack 139 = .ok (.iload_n 2, 1) := by decide +kernel
theorem dX9_takeBack_140 : decode cX9_takeBack 140 = .ok (.putfield 98, 3) := by decide +kernel
theorem dX9_takeBack_143 : decode cX9_takeBack 143 = .ok (.aload_n 0, 1) := by decide +kernel
theorem dX9_takeBack_144 : decode cX9_takeBack 144 = .ok (.getfield 45, 3) := by decide +kernel
theorem dX9_takeBack_147 : decode cX9_takeBack 147 = .ok (.iload_n 3, 1) := by decide +kernel
theorem dX9_takeBack_148 : decode cX9_takeBack 148 = .ok (.putfield 101, 3) := by decide +kernel
theorem dX9_takeBack_151 : decode cX9_takeBack 151 = .ok (.iconst 1, 1) := by decide +kernel
theorem dX9_takeBack_152 : decode cX9_takeBack 152 = .ok (.ireturn, 1) := by decide +kernel
theorem dX10_init_0 : decode cX10_init 0 = .ok (.aload_n 0, 1) := by decide +kernel
theorem dX10_init_1 : decode cX10_init 1 = .ok (.invokespecial 3, 3) := by decide +kernel
theorem dX10_init_4 : decode cX10_init 4 = .ok (.aload_n 0, 1) := by decide +kernel
theorem dX10_init_5 : decode cX10_init 5 = .ok (.bipush 6, 2) := by decide +kernel
theorem dX10_init_7 : decode cX10_init 7 = .ok (.newarray .int, 2) := by decide +kernel
theorem dX10_init_9 : decode cX10_init 9 = .ok (.putfield 9, 3) := by decide +kernel
theorem dX10_init_12 : decode cX10_init 12 = .ok (.aload_n 0, 1) := by decide +kernel
theorem dX10_init_13 : decode cX10_init 13 = .ok (.bipush 6, 2) := by decide +kernel
theorem dX10_init_15 : decode cX10_init 15 = .ok (.newarray .int, 2) := by decide +kernel
theorem dX10_init_17 : decode cX10_init 17 = .ok (.putfield 15, 3) := by decide +kernel
theorem dX10_init_20 : decode cX10_init 20 = .ok (.aload_n 0, 1) := by decide +kernel
theorem dX10_init_21 : decode cX10_init 21 = .ok (.iconst 5, 1) := by decide +kernel
theorem dX10_init_22 : decode cX10_init 22 = .ok (.newarray .int, 2) := by decide +kernel
theorem dX10_init_24 : decode cX10_init 24 = .ok (.putfield 18, 3) := by decide +kernel
theorem dX10_init_27 : decode cX10_init 27 = .ok (.aload_n 0, 1) := by decide +kernel
theorem dX10_init_28 : decode cX10_init 28 = .ok (.bipush 30, 2) := by decide +kernel
theorem dX10_init_30 : decode cX10_init 30 = .ok (.newarray .int, 2) := by decide +kernel
theorem dX10_init_32 : decode cX10_init 32 = .ok (.putfield 21, 3) := by decide +kernel
theorem dX10_init_35 : decode cX10_init 35 = .ok (.aload_n 0, 1) := by decide +kernel
theorem dX10_init_36 : decode cX10_init 36 = .ok (.sipush 307, 3) := by decide +kernel
theorem dX10_init_39 : decode cX10_init 39 = .ok (.putfield 24, 3) := by decide +kernel
theorem dX10_init_42 : decode cX10_init 42 = .ok (.return_, 1) := by decide +kernel
theorem dX10_become_0 : decode cX10_become 0 = .ok (.aload_n 1, 1) := by decide +kernel
theorem dX10_become_1 : decode cX10_become 1 = .ok (.getfield 9, 3) := by decide +kernel
theorem dX10_become_4 : decode cX10_become 4 = .ok (.iconst 0, 1) := by decide +kernel
theorem dX10_become_5 : decode cX10_become 5 = .ok (.aload_n 0, 1) := by decide +kernel
theorem dX10_become_6 : decode cX10_become 6 = .ok (.getfield 9, 3) := by decide +kernel
theorem dX10_become_9 : decode cX10_become 9 = .ok (.iconst 0, 1) := by decide +kernel
theorem dX10_become_10 : decode cX10_become 10 = .ok (.bipush 6, 2) := by decide +kernel
theorem dX10_become_12 : decode cX10_become 12 = .ok (.invokestatic 28, 3) := by decide +kernel
theorem dX10_become_15 : decode cX10_become 15 = .ok (.aload_n 1, 1) := by decide +kernel
theorem dX10_become_16 : decode cX10_become 16 = .ok (.getfield 15, 3) := by decide +kernel
theorem dX10_become_19 : decode cX10_become 19 = .ok (.iconst 0, 1) := by decide +kernel
theorem dX10_become_20 : decode cX10_become 20 = .ok (.aload_n 0, 1) := by decide +kernel
theorem dX10_become_21 : decode cX10_become 21 = .ok (.getfield 15, 3) := by decide +kernel
theorem dX10_become_24 : decode cX10_become 24 = .ok (.iconst 0, 1) := by decide +kernel
theorem dX10_become_25 : decode cX10_become 25 = .ok (.bipush 6, 2) := by decide +kernel
theorem dX10_become_27 : decode cX10_become 27 = .ok (.invokestatic 28, 3) := by decide +kernel
theorem dX10_become_30 : decode cX10_become 30 = .ok (.aload_n 1, 1) := by decide +kernel
theorem dX10_become_31 : decode cX10_become 31 = .ok (.getfield 18, 3) := by decide +kernel
theorem dX10_become_34 : decode cX10_become 34 = .ok (.iconst 0, 1) := by decide +kernel
theorem dX10_become_35 : decode cX10_become 35 = .ok (.aload_n 0, 1) := by decide +kernel
theorem dX10_become_36 : decode cX10_become 36 = .ok (.getfield 18, 3) := by decide +kernel
theorem dX10_become_39 : decode cX10_become 39 = .ok (.iconst 0, 1) := by decide +kernel
theorem dX10_become_40 : decode cX10_become 40 = .ok (.iconst 5, 1) := by decide +kernel
theorem dX10_become_41 : decode cX10_become 41 = .ok (.invokestatic 28, 3) := by decide +kernel
theorem dX10_become_44 : decode cX10_become 44 = .ok (.aload_n 1, 1) := by decide +kernel
theorem dX10_become_45 : decode cX10_become 45 = .ok (.getfield 21, 3) := by decide +kernel
theorem dX10_become_48 : decode cX10_become 48 = .ok (.iconst 0, 1) := by decide +kernel
theorem dX10_become_49 : decode cX10_become 49 = .ok (.aload_n 0, 1) := by decide +kernel
theorem dX10_become_50 : decode cX10_become 50 = .ok (.getfield 21, 3) := by decide +kernel
theorem dX10_become_53 : decode cX10_become 53 = .ok (.iconst 0, 1) := by decide +kernel
theorem dX10_become_54 : decode cX10_become 54 = .ok (.bipush 30, 2) := by decide +kernel
theorem dX10_become_56 : decode cX10_become 56 = .ok (.invokestatic 28, 3) := by decide +kernel
theorem dX10_become_59 : decode cX10_become 59 = .ok (.aload_n 0, 1) := by decide +kernel
theorem dX10_become_60 : decode cX10_become 60 = .ok (.aload_n 1, 1) := by decide +kernel
theorem dX10_become_61 : decode cX10_become 61 = .ok (.getfield 34, 3) := by decide +kernel
theorem dX10_become_64 : decode cX10_become 64 = .ok (.putfield 34, 3) := by decide +kernel
theorem dX10_become_67 : decode cX10_become 67 = .ok (.aload_n 0, 1) := by decide +kernel
theorem dX10_become_68 : decode cX10_become 68 = .ok (.aload_n 1, 1) := by decide +kernel
theorem dX10_become_69 : decode cX10_become 69 = .ok (.getfield 37, 3) := by decide +kernel
theorem dX10_become_72 : decode cX10_become 72 = .ok (.putfield 37, 3) := by decide +kernel
theorem dX10_become_75 : decode cX10_become 75 = .ok (.aload_n 0, 1) := by decide +kernel
theorem dX10_become_76 : decode cX10_become 76 = .ok (.aload_n 1, 1) := by decide +kernel
theorem dX10_become_77 : decode cX10_become 77 = .ok (.getfield 40, 3) := by decide +kernel
theorem dX10_become_80 : decode cX10_become 80 = .ok (.putfield 40, 3) := by decide +kernel
theorem dX10_become_83 : decode cX10_become 83 = .ok (.aload_n 0, 1) := by decide +kernel
theorem dX10_become_84 : decode cX10_become 84 = .ok (.aload_n 1, 1) := by decide +kernel
theorem dX10_become_85 : decode cX10_become 85 = .ok (.getfield 43, 3) := by decide +kernel
theorem dX10_become_88 : decode cX10_become 88 = .ok (.putfield 43, 3) := by decide +kernel
theorem dX10_become_91 : decode cX10_become 91 = .ok (.aload_n 0, 1) := by decide +kernel
theorem dX10_become_92 : decode cX10_become 92 = .ok (.aload_n 1, 1) := by decide +kernel
theorem dX10_become_93 : decode cX10_become 93 = .ok (.getfield 46, 3) := by decide +kernel
theorem dX10_become_96 : decode cX10_become 96 = .ok (.putfield 46, 3) := by decide +kernel
theorem dX10_become_99 : decode cX10_become 99 = .ok (.aload_n 0, 1) := by decide +kernel
theorem dX10_become_100 : decode cX10_become 100 = .ok (.aload_n 1, 1) := by decide +kernel
theorem dX10_become_101 : decode cX10_become 101 = .ok (.getfield 49, 3) := by decide +kernel
theorem dX10_become_104 : decode cX10_become 104 = .ok (.putfield 49, 3) := by decide +kernel
theorem dX10_become_107 : decode cX10_become 107 = .ok (.aload_n 0, 1) := by decide +kernel
theorem dX10_become_108 : decode cX10_become 108 = .ok (.aload_n 1, 1) := by decide +kernel
theorem dX10_become_109 : decode cX10_become 109 = .ok (.getfield 24, 3) := by decide +kernel
theorem dX10_become_112 : decode cX10_become 112 = .ok (.putfield 24, 3) := by decide +kernel
theorem dX10_become_115 : decode cX10_become 115 = .ok (.return_, 1) := by decide +kernel
theorem dX10_renewX_0 : decode cX10_renewX 0 = .ok (.aload_n 0, 1) := by decide +kernel
theorem dX10_renewX_1 : decode cX10_renewX 1 = .ok (.aload_n 0, 1) := by decide +kernel
theorem dX10_renewX_2 : decode cX10_renewX 2 = .ok (.getfield 24, 3) := by decide +kernel
theorem dX10_renewX_5 : decode cX10_renewX 5 = .ok (.sipush 563, 3) := by decide +kernel
theorem dX10_renewX_8 : decode cX10_renewX 8 = .ok (.imul, 1) := by decide +kernel
theorem dX10_renewX_9 : decode cX10_renewX 9 = .ok (.sipush 433, 3) := by decide +kernel
theorem dX10_renewX_12 : decode cX10_renewX 12 = .ok (.iadd, 1) := by decide +kernel
theorem dX10_renewX_13 : decode cX10_renewX 13 = .ok (.sipush 30773, 3) := by decide +kernel
theorem dX10_renewX_16 : decode cX10_renewX 16 = .ok (.irem, 1) := by decide +kernel
theorem dX10_renewX_17 : decode cX10_renewX 17 = .ok (.putfield 24, 3) := by decide +kernel
theorem dX10_renewX_20 : decode cX10_renewX 20 = .ok (.return_, 1) := by decide +kernel
theorem dX10_drawTenth_0 : decode cX10_drawTenth 0 = .ok (.aload_n 0, 1) := by decide +kernel
theorem dX10_drawTenth_1 : decode cX10_drawTenth 1 = .ok (.getfield 24, 3) := by decide +kernel
theorem dX10_drawTenth_4 : decode cX10_drawTenth 4 = .ok (.bipush 10, 2) := by decide +kernel
theorem dX10_drawTenth_6 : decode cX10_drawTenth 6 = .ok (.irem, 1) := by decide +kernel
theorem dX10_drawTenth_7 : decode cX10_drawTenth 7 = .ok (.istore_n 1, 1) := by decide +kernel
theorem dX10_drawTenth_8 : decode cX10_drawTenth 8 = .ok (.aload_n 0, 1) := by decide +kernel
theorem dX10_drawTenth_9 : decode cX10_drawTenth 9 = .ok (.invokevirtual 52, 3) := by decide +kernel
theorem dX10_drawTenth_12 : decode cX10_drawTenth 12 = .ok (.iload_n 1, 1) := by decide +kernel
theorem dX10_drawTenth_13 : decode cX10_drawTenth 13 = .ok (.ireturn, 1) := by decide +kernel
theorem dX10_drawSide_0 : decode cX10_drawSide 0 = .ok (.aload_n 0, 1) := by decide +kernel
theorem dX10_drawSide_1 : decode cX10_drawSide 1 = .ok (.getfield 24, 3) := by decide +kernel
theorem dX10_drawSide_4 : decode cX10_drawSide 4 = .ok (.iconst 2, 1) := by decide +kernel
theorem dX10_drawSide_5 : decode cX10_drawSide 5 = .ok (.irem, 1) := by decide +kernel
theorem dX10_drawSide_6 : decode cX10_drawSide 6 = .ok (.istore_n 1, 1) := by decide +kernel
theorem dX10_drawSide_7 : decode cX10_drawSide 7 = .ok (.aload_n 0, 1) := by decide +kernel
theorem dX10_drawSide_8 : decode cX10_drawSide 8 = .ok (.invokevirtual 52, 3) := by decide +kernel
theorem dX10_drawSide_11 : decode cX10_drawSide 11 = .ok (.iload_n 1, 1) := by decide +kernel
theorem dX10_drawSide_12 : decode cX10_drawSide 12 = .ok (.ireturn, 1) := by decide +kernel
theorem dX10_writeLine_0 : decode cX10_writeLine 0 = .ok (.aload_n 0, 1) := by decide +kernel
theorem dX10_writeLine_1 : decode cX10_writeLine 1 = .ok (.getfield 34, 3) := by decide +kernel
theorem dX10_writeLine_4 : decode cX10_writeLine 4 = .ok (.bipush 30, 2) := by decide +kernel
theorem dX10_writeLine_6 : decode cX10_writeLine 6 = .ok (.if_icmp .lt 24, 3) := by decide +kernel
theorem dX10_writeLine_9 : decode cX10_writeLine 9 = .ok (.aload_n 0, 1) := by decide +kernel
theorem dX10_writeLine_10 : decode cX10_writeLine 10 = .ok (.getfield 21, 3) := by decide +kernel
theorem dX10_writeLine_13 : decode cX10_writeLine 13 = .ok (.iconst 1, 1) := by decide +kernel
theorem dX10_writeLine_14 : decode cX10_writeLine 14 = .ok (.aload_n 0, 1) := by decide +kernel
theorem dX10_writeLine_15 : decode cX10_writeLine 15 = .ok (.getfield 21, 3) := by decide +kernel
theorem dX10_writeLine_18 : decode cX10_writeLine 18 = .ok (.iconst 0, 1) := by decide +kernel
theorem dX10_writeLine_19 : decode cX10_writeLine 19 = .ok (.bipush 29, 2) := by decide +kernel
theorem dX10_writeLine_21 : decode cX10_writeLine 21 = .ok (.invokestatic 28, 3) := by decide +kernel
theorem dX10_writeLine_24 : decode cX10_writeLine 24 = .ok (.aload_n 0, 1) := by decide +kernel
theorem dX10_writeLine_25 : decode cX10_writeLine 25 = .ok (.bipush 29, 2) := by decide +kernel
theorem dX10_writeLine_27 : decode cX10_writeLine 27 = .ok (.putfield 34, 3) := by decide +kernel
theorem dX10_writeLine_30 : decode cX10_writeLine 30 = .ok (.aload_n 0, 1) := by decide +kernel
theorem dX10_writeLine_31 : decode cX10_writeLine 31 = .ok (.getfield 34, 3) := by decide +kernel
theorem dX10_writeLine_34 : decode cX10_writeLine 34 = .ok (.ifCond .lt 42, 3) := by decide +kernel
theorem dX10_writeLine_37 : decode cX10_writeLine 37 = .ok (.aload_n 0, 1) := by decide +kernel
theorem dX10_writeLine_38 : decode cX10_writeLine 38 = .ok (.getfield 21, 3) := by decide +kernel
theorem dX10_writeLine_41 : decode cX10_writeLine 41 = .ok (.aload_n 0, 1) := by decide +kernel
theorem dX10_writeLine_42 : decode cX10_writeLine 42 = .ok (.getfield 34, 3) := by decide +kernel
theorem dX10_writeLine_45 : decode cX10_writeLine 45 = .ok (.aload_n 0, 1) := by decide +kernel
theorem dX10_writeLine_46 : decode cX10_writeLine 46 = .ok (.getfield 49, 3) := by decide +kernel
theorem dX10_writeLine_49 : decode cX10_writeLine 49 = .ok (.sipush 1000, 3) := by decide +kernel
theorem dX10_writeLine_52 : decode cX10_writeLine 52 = .ok (.imul, 1) := by decide +kernel
theorem dX10_writeLine_53 : decode cX10_writeLine 53 = .ok (.iload_n 1, 1) := by decide +kernel
theorem dX10_writeLine_54 : decode cX10_writeLine 54 = .ok (.bipush 100, 2) := by decide +kernel
theorem dX10_writeLine_56 : decode cX10_writeLine 56 = .ok (.imul, 1) := by decide +kernel
theorem dX10_writeLine_57 : decode cX10_writeLine 57 = .ok (.iadd, 1) := by decide +kernel
theorem dX10_writeLine_58 : decode cX10_writeLine 58 = .ok (.iload_n 2, 1) := by decide +kernel
theorem dX10_writeLine_59 : decode cX10_writeLine 59 = .ok (.bipush 10, 2) := by decide +kernel
theorem dX10_writeLine_61 : decode cX10_writeLine 61 = .ok (.imul, 1) := by decide +kernel
theorem dX10_writeLine_62 : decode cX10_writeLine 62 = .ok (.iadd, 1) := by decide +kernel
theorem dX10_writeLine_63 : decode cX10_writeLine 63 = .ok (.iload_n 3, 1) := by decide +kernel
theorem dX10_writeLine_64 : decode cX10_writeLine 64 = .ok (.iadd, 1) := by decide +kernel
theorem dX10_writeLine_65 : decode cX10_writeLine 65 = .ok (.iastore, 1) := by decide +kernel
theorem dX10_writeLine_66 : decode cX10_writeLine 66 = .ok (.aload_n 0, 1) := by decide +kernel
theorem dX10_writeLine_67 : decode cX10_writeLine 67 = .ok (.dup, 1) := by decide +kernel
theorem dX10_writeLine_68 : decode cX10_writeLine 68 = .ok (.getfield 34, 3) := by decide +kernel
theorem dX10_writeLine_71 : decode cX10_writeLine 71 = .ok (.iconst 1, 1) := by decide +kernel
theorem dX10_writeLine_72 : decode cX10_writeLine 72 = .ok (.iadd, 1) := by decide +kernel
theorem dX10_writeLine_73 : decode cX10_writeLine 73 = .ok (.putfield 34, 3) := by decide +kernel
theorem dX10_writeLine_76 : decode cX10_writeLine 76 = .ok (.return_, 1) := by decide +kernel
theorem dX10_isFrozen_0 : decode cX10_isFrozen 0 = .ok (.iload_n 1, 1) := by decide +kernel
theorem dX10_isFrozen_1 : decode cX10_isFrozen 1 = .ok (.ifCond .lt 31, 3) := by decide +kernel
theorem dX10_isFrozen_4 : decode cX10_isFrozen 4 = .ok (.iload_n 1, 1) := by decide +kernel
theorem dX10_isFrozen_5 : decode cX10_isFrozen 5 = .ok (.aload_n 0, 1) := by decide +kernel
theorem dX10_isFrozen_6 : decode cX10_isFrozen 6 = .ok (.getfield 37, 3) := by decide +kernel
theorem dX10_isFrozen_9 : decode cX10_isFrozen 9 = .ok (.if_icmp .ge 23, 3) := by decide +kernel
theorem dX10_isFrozen_12 : decode cX10_isFrozen 12 = .ok (.iload_n 1, 1) := by decide +kernel
theorem dX10_isFrozen_13 : decode cX10_isFrozen 13 = .ok (.bipush 6, 2) := by decide +kernel
theorem dX10_isFrozen_15 : decode cX10_isFrozen 15 = .ok (.if_icmp .ge 17, 3) := by decide +kernel
theorem dX10_isFrozen_18 : decode cX10_isFrozen 18 = .ok (.aload_n 0, 1) := by decide +kernel
theorem dX10_isFrozen_19 : decode cX10_isFrozen 19 = .ok (.getfield 9, 3) := by decide +kernel
theorem dX10_isFrozen_22 : decode cX10_isFrozen 22 = .ok (.iload_n 1, 1) := by decide +kernel
theorem dX10_isFrozen_23 : decode cX10_isFrozen 23 = .ok (.iaload, 1) := by decide +kernel
theorem dX10_isFrozen_24 : decode cX10_isFrozen 24 = .ok (.iconst (-1), 1) := by decide +kernel
theorem dX10_isFrozen_25 : decode cX10_isFrozen 25 = .ok (.if_icmp .ne 7, 3) := by decide +kernel
theorem dX10_isFrozen_28 : decode cX10_isFrozen 28 = .ok (.iconst 1, 1) := by decide +kernel
theorem dX10_isFrozen_29 : decode cX10_isFrozen 29 = .ok (.goto 4, 3) := by decide +kernel
theorem dX10_isFrozen_32 : decode cX10_isFrozen 32 = .ok (.iconst 0, 1) := by decide +kernel
theorem dX10_isFrozen_33 : decode cX10_isFrozen 33 = .ok (.ireturn, 1) := by decide +kernel
theorem dX10_isClaimed_0 : decode cX10_isClaimed 0 = .ok (.iload_n 1, 1) := by decide +kernel
theorem dX10_isClaimed_1 : decode cX10_isClaimed 1 = .ok (.ifCond .lt 32, 3) := by decide +kernel
theorem dX10_isClaimed_4 : decode cX10_isClaimed 4 = .ok (.iload_n 1, 1) := by decide +kernel
theorem dX10_isClaimed_5 : decode cX10_isClaimed 5 = .ok (.aload_n 0, 1) := by decide +kernel
theorem dX10_isClaimed_6 : decode cX10_isClaimed 6 = .ok (.getfield 37, 3) := by decide +kernel
theorem dX10_isClaimed_9 : decode cX10_isClaimed 9 = .ok (.if_icmp .ge 24, 3) := by decide +kernel
theorem dX10_isClaimed_12 : decode cX10_isClaimed 12 = .ok (.iload_n 1, 1) := by decide +kernel
theorem dX10_isClaimed_13 : decode cX10_isClaimed 13 = .ok (.bipush 6, 2) := by decide +kernel
theorem dX10_isClaimed_15 : decode cX10_isClaimed 15 = .ok (.if_icmp .ge 18, 3) := by decide +kernel
theorem dX10_isClaimed_18 : decode cX10_isClaimed 18 = .ok (.aload_n 0, 1) := by decide +kernel
theorem dX10_isClaimed_19 : decode cX10_isClaimed 19 = .ok (.getfield 9, 3) := by decide +kernel
theorem dX10_isClaimed_22 : decode cX10_isClaimed 22 = .ok (.iload_n 1, 1) := by decide +kernel
theorem dX10_isClaimed_23 : decode cX10_isClaimed 23 = .ok (.iaload, 1) := by decide +kernel
theorem dX10_isClaimed_24 : decode cX10_isClaimed 24 = .ok (.bipush 20, 2) := by decide +kernel
theorem dX10_isClaimed_26 : decode cX10_isClaimed 26 = .ok (.if_icmp .lt 7, 3) := by decide +kernel
theorem dX10_isClaimed_29 : decode cX10_isClaimed 29 = .ok (.iconst 1, 1) := by decide +kernel
theorem dX10_isClaimed_30 : decode cX10_isClaimed 30 = .ok (.goto 4, 3) := by decide +kernel
theorem dX10_isClaimed_33 : decode cX10_isClaimed 33 = .ok (.iconst 0, 1) := by decide +kernel
theorem dX10_isClaimed_34 : decode cX10_isClaimed 34 = .ok (.ireturn, 1) := by decide +kernel
theorem dX10_cellOf_0 : decode cX10_cellOf 0 = .ok (.iload_n 1, 1) := by decide +kernel
theorem dX10_cellOf_1 : decode cX10_cellOf 1 = .ok (.ifCond .lt 18, 3) := by decide +kernel
theorem dX10_cellOf_4 : decode cX10_cellOf 4 = .ok (.iload_n 1, 1) := by decide +kernel
theorem dX10_cellOf_5 : decode cX10_cellOf 5 = .ok (.bipush 6, 2) := by decide +kernel
theorem dX10_cellOf_7 : decode cX10_cellOf 7 = .ok (.if_icmp .ge 12, 3) := by decide +kernel
theorem dX10_cellOf_10 : decode cX10_cellOf 10 = .ok (.aload_n 0, 1) := by decide +kernel
theorem dX10_cellOf_11 : decode cX10_cellOf 11 = .ok (.getfield 9, 3) := by decide +kernel
theorem dX10_cellOf_14 : decode cX10_cellOf 14 = .ok (.iload_n 1, 1) := by decide +kernel
theorem dX10_cellOf_15 : decode cX10_cellOf 15 = .ok (.iaload, 1) := by decide +kernel
theorem dX10_cellOf_16 : decode cX10_cellOf 16 = .ok (.goto 4, 3) := by decide +kernel
theorem dX10_cellOf_19 : decode cX10_cellOf 19 = .ok (.iconst (-1), 1) := by decide +kernel
theorem dX10_cellOf_20 : decode cX10_cellOf 20 = .ok (.istore_n 2, 1) := by decide +kernel
theorem dX10_cellOf_21 : decode cX10_cellOf 21 = .ok (.iload_n 2, 1) := by decide +kernel
theorem dX10_cellOf_22 : decode cX10_cellOf 22 = .ok (.invokestatic 55, 3) := by decide +kernel
theorem dX10_cellOf_25 : decode cX10_cellOf 25 = .ok (.ifCond .eq 7, 3) := by decide +kernel
theorem dX10_cellOf_28 : decode cX10_cellOf 28 = .ok (.iload_n 2, 1) := by decide +kernel
theorem dX10_cellOf_29 : decode cX10_cellOf 29 = .ok (.goto 4, 3) := by decide +kernel
theorem dX10_cellOf_32 : decode cX10_cellOf 32 = .ok (.iconst 0, 1) := by decide +kernel
theorem dX10_cellOf_33 : decode cX10_cellOf 33 = .ok (.ireturn, 1) := by decide +kernel
theorem dX10_namesIn_0 : decode cX10_namesIn 0 = .ok (.iconst 0, 1) := by decide +kernel
theorem dX10_namesIn_1 : decode cX10_namesIn 1 = .ok (.istore_n 2, 1) := by decide +kernel
theorem dX10_namesIn_2 : decode cX10_namesIn 2 = .ok (.iconst 0, 1) := by decide +kernel
theorem dX10_namesIn_3 : decode cX10_namesIn 3 = .ok (.istore_n 3, 1) := by decide +kernel
theorem dX10_namesIn_4 : decode cX10_namesIn 4 = .ok (.iload_n 3, 1) := by decide +kernel
theorem dX10_namesIn_5 : decode cX10_namesIn 5 = .ok (.aload_n 0, 1) := by decide +kernel
theorem dX10_namesIn_6 : decode cX10_namesIn 6 = .ok (.getfield 37, 3) := by decide +kernel
theorem dX10_namesIn_9 : decode cX10_namesIn 9 = .ok (.if_icmp .ge 31, 3) := by decide +kernel
theorem dX10_namesIn_12 : decode cX10_namesIn 12 = .ok (.iload_n 3, 1) := by decide +kernel
theorem dX10_namesIn_13 : decode cX10_namesIn 13 = .ok (.bipush 6, 2) := by decide +kernel
theorem dX10_namesIn_15 : decode cX10_namesIn 15 = .ok (.if_icmp .ge 25, 3) := by decide +kernel
theorem dX10_namesIn_18 : decode cX10_namesIn 18 = .ok (.aload_n 0, 1) := by decide +kernel
theorem dX10_namesIn_19 : decode cX10_namesIn 19 = .ok (.getfield 9, 3) := by decide +kernel
theorem dX10_namesIn_22 : decode cX10_namesIn 22 = .ok (.iload_n 3, 1) := by decide +kernel
theorem dX10_namesIn_23 : decode cX10_namesIn 23 = .ok (.iaload, 1) := by decide +kernel
theorem dX10_namesIn_24 : decode cX10_namesIn 24 = .ok (.iload_n 1, 1) := by decide +kernel
theorem dX10_namesIn_25 : decode cX10_namesIn 25 = .ok (.if_icmp .ne 9, 3) := by decide +kernel
theorem dX10_namesIn_28 : decode cX10_namesIn 28 = .ok (.iload_n 2, 1) := by decide +kernel
theorem dX10_namesIn_29 : decode cX10_namesIn 29 = .ok (.iconst 1, 1) := by decide +kernel
theorem dX10_namesIn_30 : decode cX10_namesIn 30 = .ok (.iload_n 3, 1) := by decide +kernel
theorem dX10_namesIn_31 : decode cX10_namesIn 31 = .ok (.ishl, 1) := by decide +kernel
theorem dX10_namesIn_32 : decode cX10_namesIn 32 = .ok (.ior, 1) := by decide +kernel
theorem dX10_namesIn_33 : decode cX10_namesIn 33 = .ok (.istore_n 2, 1) := by decide +kernel
theorem dX10_namesIn_34 : decode cX10_namesIn 34 = .ok (.iinc 3 1, 3) := by decide +kernel
theorem dX10_namesIn_37 : decode cX10_namesIn 37 = .ok (.goto (-33), 3) := by decide +kernel
theorem dX10_namesIn_40 : decode cX10_namesIn 40 = .ok (.iload_n 2, 1) := by decide +kernel
theorem dX10_namesIn_41 : decode cX10_namesIn 41 = .ok (.ireturn, 1) := by decide +kernel
theorem dJ11_isValidCodePoint_9a6ad_0 : decode cJ11_isValidCodePoint_9a6ad 0 = .ok (.iload_n 0, 1) := by decide +kernel
theorem dJ11_isValidCodePoint_9a6ad_1 : decode cJ11_isValidCodePoint_9a6ad 1 = .ok (.bipush 16, 2) := by decide +kernel
theorem dJ11_isValidCodePoint_9a6ad_3 : decode cJ11_isValidCodePoint_9a6ad 3 = .ok (.iushr, 1) := by decide +kernel
theorem dJ11_isValidCodePoint_9a6ad_4 : decode cJ11_isValidCodePoint_9a6ad 4 = .ok (.istore_n 1, 1) := by decide +kernel
theorem dJ11_isValidCodePoint_9a6ad_5 : decode cJ11_isValidCodePoint_9a6ad 5 = .ok (.iload_n 1, 1) := by decide +kernel
theorem dJ11_isValidCodePoint_9a6ad_6 : decode cJ11_isValidCodePoint_9a6ad 6 = .ok (.bipush 17, 2) := by decide +kernel
theorem dJ11_isValidCodePoint_9a6ad_8 : decode cJ11_isValidCodePoint_9a6ad 8 = .ok (.if_icmp .ge 7, 3) := by decide +kernel
theorem dJ11_isValidCodePoint_9a6ad_11 : decode cJ11_isValidCodePoint_9a6ad 11 = .ok (.iconst 1, 1) := by decide +kernel
theorem dJ11_isValidCodePoint_9a6ad_12 : decode cJ11_isValidCodePoint_9a6ad 12 = .ok (.goto 4, 3) := by decide +kernel
theorem dJ11_isValidCodePoint_9a6ad_15 : decode cJ11_isValidCodePoint_9a6ad 15 = .ok (.iconst 0, 1) := by decide +kernel
theorem dJ11_isValidCodePoint_9a6ad_16 : decode cJ11_isValidCodePoint_9a6ad 16 = .ok (.ireturn, 1) := by decide +kernel
theorem dJ11_highSurrogate_5068e_0 : decode cJ11_highSurrogate_5068e 0 = .ok (.iload_n 0, 1) := by decide +kernel
theorem dJ11_highSurrogate_5068e_1 : decode cJ11_highSurrogate_5068e 1 = .ok (.bipush 10, 2) := by decide +kernel
theorem dJ11_highSurrogate_5068e_3 : decode cJ11_highSurrogate_5068e 3 = .ok (.iushr, 1) := by decide +kernel
theorem dJ11_highSurrogate_5068e_4 : decode cJ11_highSurrogate_5068e 4 = .ok (.ldc 110, 2) := by decide +kernel
theorem dJ11_highSurrogate_5068e_6 : decode cJ11_highSurrogate_5068e 6 = .ok (.iadd, 1) := by decide +kernel
theorem dJ11_highSurrogate_5068e_7 : decode cJ11_highSurrogate_5068e 7 = .ok (.i2c, 1) := by decide +kernel
theorem dJ11_highSurrogate_5068e_8 : decode cJ11_highSurrogate_5068e 8 = .ok (.ireturn, 1) := by decide +kernel
theorem dJ11_lowSurrogate_5068e_0 : decode cJ11_lowSurrogate_5068e 0 = .ok (.iload_n 0, 1) := by decide +kernel
theorem dJ11_lowSurrogate_5068e_1 : decode cJ11_lowSurrogate_5068e 1 = .ok (.sipush 1023, 3) := by decide +kernel
theorem dJ11_lowSurrogate_5068e_4 : decode cJ11_lowSurrogate_5068e 4 = .ok (.iand, 1) := by decide +kernel
theorem dJ11_lowSurrogate_5068e_5 : decode cJ11_lowSurrogate_5068e 5 = .ok (.ldc 76, 2) := by decide +kernel
theorem dJ11_lowSurrogate_5068e_7 : decode cJ11_lowSurrogate_5068e 7 = .ok (.iadd, 1) := by decide +kernel
theorem dJ11_lowSurrogate_5068e_8 : decode cJ11_lowSurrogate_5068e 8 = .ok (.i2c, 1) := by decide +kernel
theorem dJ11_lowSurrogate_5068e_9 : decode cJ11_lowSurrogate_5068e 9 = .ok (.ireturn, 1) := by decide +kernel
theorem dJ6_numberOfTrailingZeros_0f7a4_0 : decode cJ6_numberOfTrailingZeros_0f7a4 0 = .ok (.iload_n 0, 1) := by decide +kernel
theorem dJ6_numberOfTrailingZeros_0f7a4_1 : decode cJ6_numberOfTrailingZeros_0f7a4 1 = .ok (.iconst (-1), 1) := by decide +kernel
theorem dJ6_numberOfTrailingZeros_0f7a4_2 : decode cJ6_numberOfTrailingZeros_0f7a4 2 = .ok (.ixor, 1) := by decide +kernel
theorem dJ6_numberOfTrailingZeros_0f7a4_3 : decode cJ6_numberOfTrailingZeros_0f7a4 3 = .ok (.iload_n 0, 1) := by decide +kernel
theorem dJ6_numberOfTrailingZeros_0f7a4_4 : decode cJ6_numberOfTrailingZeros_0f7a4 4 = .ok (.iconst 1, 1) := by decide +kernel
theorem dJ6_numberOfTrailingZeros_0f7a4_5 : decode cJ6_numberOfTrailingZeros_0f7a4 5 = .ok (.isub, 1) := by decide +kernel
theorem dJ6_numberOfTrailingZeros_0f7a4_6 : decode cJ6_numberOfTrailingZeros_0f7a4 6 = .ok (.iand, 1) := by decide +kernel
theorem dJ6_numberOfTrailingZeros_0f7a4_7 : decode cJ6_numberOfTrailingZeros_0f7a4 7 = .ok (.istore_n 0, 1) := by decide +kernel
theorem dJ6_numberOfTrailingZeros_0f7a4_8 : decode cJ6_numberOfTrailingZeros_0f7a4 8 = .ok (.iload_n 0, 1) := by decide +kernel
theorem dJ6_numberOfTrailingZeros_0f7a4_9 : decode cJ6_numberOfTrailingZeros_0f7a4 9 = .ok (.ifCond .gt 8, 3) := by decide +kernel
theorem dJ6_numberOfTrailingZeros_0f7a4_12 : decode cJ6_numberOfTrailingZeros_0f7a4 12 = .ok (.iload_n 0, 1) := by decide +kernel
theorem dJ6_numberOfTrailingZeros_0f7a4_13 : decode cJ6_numberOfTrailingZeros_0f7a4 13 = .ok (.bipush 32, 2) := by decide +kernel
theorem dJ6_numberOfTrailingZeros_0f7a4_15 : decode cJ6_numberOfTrailingZeros_0f7a4 15 = .ok (.iand, 1) := by decide +kernel
theorem dJ6_numberOfTrailingZeros_0f7a4_16 : decode cJ6_numberOfTrailingZeros_0f7a4 16 = .ok (.ireturn, 1) := by decide +kernel
theorem dJ6_numberOfTrailingZeros_0f7a4_17 : decode cJ6_numberOfTrailingZeros_0f7a4 17 = .ok (.iconst 1, 1) := by decide +kernel
theorem dJ6_numberOfTrailingZeros_0f7a4_18 : decode cJ6_numberOfTrailingZeros_0f7a4 18 = .ok (.istore_n 1, 1) := by decide +kernel
theorem dJ6_numberOfTrailingZeros_0f7a4_19 : decode cJ6_numberOfTrailingZeros_0f7a4 19 = .ok (.iload_n 0, 1) := by decide +kernel
theorem dJ6_numberOfTrailingZeros_0f7a4_20 : decode cJ6_numberOfTrailingZeros_0f7a4 20 = .ok (.ldc_w 264, 3) := by decide +kernel
theorem dJ6_numberOfTrailingZeros_0f7a4_23 : decode cJ6_numberOfTrailingZeros_0f7a4 23 = .ok (.if_icmp .le 11, 3) := by decide +kernel
theorem dJ6_numberOfTrailingZeros_0f7a4_26 : decode cJ6_numberOfTrailingZeros_0f7a4 26 = .ok (.iinc 1 16, 3) := by decide +kernel
theorem dJ6_numberOfTrailingZeros_0f7a4_29 : decode cJ6_numberOfTrailingZeros_0f7a4 29 = .ok (.iload_n 0, 1) := by decide +kernel
theorem dJ6_numberOfTrailingZeros_0f7a4_30 : decode cJ6_numberOfTrailingZeros_0f7a4 30 = .ok (.bipush 16, 2) := by decide +kernel
theorem dJ6_numberOfTrailingZeros_0f7a4_32 : decode cJ6_numberOfTrailingZeros_0f7a4 32 = .ok (.iushr, 1) := by decide +kernel
theorem dJ6_numberOfTrailingZeros_0f7a4_33 : decode cJ6_numberOfTrailingZeros_0f7a4 33 = .ok (.istore_n 0, 1) := by decide +kernel
theorem dJ6_numberOfTrailingZeros_0f7a4_34 : decode cJ6_numberOfTrailingZeros_0f7a4 34 = .ok (.iload_n 0, 1) := by decide +kernel
theorem dJ6_numberOfTrailingZeros_0f7a4_35 : decode cJ6_numberOfTrailingZeros_0f7a4 35 = .ok (.sipush 256, 3) := by decide +kernel
theorem dJ6_numberOfTrailingZeros_0f7a4_38 : decode cJ6_numberOfTrailingZeros_0f7a4 38 = .ok (.if_icmp .le 11, 3) := by decide +kernel
theorem dJ6_numberOfTrailingZeros_0f7a4_41 : decode cJ6_numberOfTrailingZeros_0f7a4 41 = .ok (.iinc 1 8, 3) := by decide +kernel
theorem dJ6_numberOfTrailingZeros_0f7a4_44 : decode cJ6_numberOfTrailingZeros_0f7a4 44 = .ok (.iload_n 0, 1) := by decide +kernel
theorem dJ6_numberOfTrailingZeros_0f7a4_45 : decode cJ6_numberOfTrailingZeros_0f7a4 45 = .ok (.bipush 8, 2) := by decide +kernel
theorem dJ6_numberOfTrailingZeros_0f7a4_47 : decode cJ6_numberOfTrailingZeros_0f7a4 47 = .ok (.iushr, 1) := by decide +kernel
theorem dJ6_numberOfTrailingZeros_0f7a4_48 : decode cJ6_numberOfTrailingZeros_0f7a4 48 = .ok (.istore_n 0, 1) := by decide +kernel
theorem dJ6_numberOfTrailingZeros_0f7a4_49 : decode cJ6_numberOfTrailingZeros_0f7a4 49 = .ok (.iload_n 0, 1) := by decide +kernel
theorem dJ6_numberOfTrailingZeros_0f7a4_50 : decode cJ6_numberOfTrailingZeros_0f7a4 50 = .ok (.bipush 16, 2) := by decide +kernel
theorem dJ6_numberOfTrailingZeros_0f7a4_52 : decode cJ6_numberOfTrailingZeros_0f7a4 52 = .ok (.if_icmp .le 10, 3) := by decide +kernel
theorem dJ6_numberOfTrailingZeros_0f7a4_55 : decode cJ6_numberOfTrailingZeros_0f7a4 55 = .ok (.iinc 1 4, 3) := by decide +kernel
theorem dJ6_numberOfTrailingZeros_0f7a4_58 : decode cJ6_numberOfTrailingZeros_0f7a4 58 = .ok (.iload_n 0, 1) := by decide +kernel
theorem dJ6_numberOfTrailingZeros_0f7a4_59 : decode cJ6_numberOfTrailingZeros_0f7a4 59 = .ok (.iconst 4, 1) := by decide +kernel
theorem dJ6_numberOfTrailingZeros_0f7a4_60 : decode cJ6_numberOfTrailingZeros_0f7a4 60 = .ok (.iushr, 1) := by decide +kernel
theorem dJ6_numberOfTrailingZeros_0f7a4_61 : decode cJ6_numberOfTrailingZeros_0f7a4 61 = .ok (.istore_n 0, 1) := by decide +kernel
theorem dJ6_numberOfTrailingZeros_0f7a4_62 : decode cJ6_numberOfTrailingZeros_0f7a4 62 = .ok (.iload_n 0, 1) := by decide +kernel
theorem dJ6_numberOfTrailingZeros_0f7a4_63 : decode cJ6_numberOfTrailingZeros_0f7a4 63 = .ok (.iconst 4, 1) := by decide +kernel
theorem dJ6_numberOfTrailingZeros_0f7a4_64 : decode cJ6_numberOfTrailingZeros_0f7a4 64 = .ok (.if_icmp .le 10, 3) := by decide +kernel
theorem dJ6_numberOfTrailingZeros_0f7a4_67 : decode cJ6_numberOfTrailingZeros_0f7a4 67 = .ok (.iinc 1 2, 3) := by decide +kernel
theorem dJ6_numberOfTrailingZeros_0f7a4_70 : decode cJ6_numberOfTrailingZeros_0f7a4 70 = .ok (.iload_n 0, 1) := by decide +kernel
theorem dJ6_numberOfTrailingZeros_0f7a4_71 : decode cJ6_numberOfTrailingZeros_0f7a4 71 = .ok (.iconst 2, 1) := by decide +kernel
theorem dJ6_numberOfTrailingZeros_0f7a4_72 : decode cJ6_numberOfTrailingZeros_0f7a4 72 = .ok (.iushr, 1) := by decide +kernel
theorem dJ6_numberOfTrailingZeros_0f7a4_73 : decode cJ6_numberOfTrailingZeros_0f7a4 73 = .ok (.istore_n 0, 1) := by decide +kernel
theorem dJ6_numberOfTrailingZeros_0f7a4_74 : decode cJ6_numberOfTrailingZeros_0f7a4 74 = .ok (.iload_n 1, 1) := by decide +kernel
theorem dJ6_numberOfTrailingZeros_0f7a4_75 : decode cJ6_numberOfTrailingZeros_0f7a4 75 = .ok (.iload_n 0, 1) := by decide +kernel
theorem dJ6_numberOfTrailingZeros_0f7a4_76 : decode cJ6_numberOfTrailingZeros_0f7a4 76 = .ok (.iconst 1, 1) := by decide +kernel
theorem dJ6_numberOfTrailingZeros_0f7a4_77 : decode cJ6_numberOfTrailingZeros_0f7a4 77 = .ok (.iushr, 1) := by decide +kernel
theorem dJ6_numberOfTrailingZeros_0f7a4_78 : decode cJ6_numberOfTrailingZeros_0f7a4 78 = .ok (.iadd, 1) := by decide +kernel
theorem dJ6_numberOfTrailingZeros_0f7a4_79 : decode cJ6_numberOfTrailingZeros_0f7a4 79 = .ok (.ireturn, 1) := by decide +kernel
theorem dJ6_bitCount_0f7a4_0 : decode cJ6_bitCount_0f7a4 0 = .ok (.iload_n 0, 1) := by decide +kernel
theorem dJ6_bitCount_0f7a4_1 : decode cJ6_bitCount_0f7a4 1 = .ok (.iload_n 0, 1) := by decide +kernel
theorem dJ6_bitCount_0f7a4_2 : decode cJ6_bitCount_0f7a4 2 = .ok (.iconst 1, 1) := by decide +kernel
theorem dJ6_bitCount_0f7a4_3 : decode cJ6_bitCount_0f7a4 3 = .ok (.iushr, 1) := by decide +kernel
theorem dJ6_bitCount_0f7a4_4 : decode cJ6_bitCount_0f7a4 4 = .ok (.ldc_w 265, 3) := by decide +kernel
theorem dJ6_bitCount_0f7a4_7 : decode cJ6_bitCount_0f7a4 7 = .ok (.iand, 1) := by decide +kernel
theorem dJ6_bitCount_0f7a4_8 : decode cJ6_bitCount_0f7a4 8 = .ok (.isub, 1) := by decide +kernel
theorem dJ6_bitCount_0f7a4_9 : decode cJ6_bitCount_0f7a4 9 = .ok (.istore_n 0, 1) := by decide +kernel
theorem dJ6_bitCount_0f7a4_10 : decode cJ6_bitCount_0f7a4 10 = .ok (.iload_n 0, 1) := by decide +kernel
theorem dJ6_bitCount_0f7a4_11 : decode cJ6_bitCount_0f7a4 11 = .ok (.ldc_w 266, 3) := by decide +kernel
theorem dJ6_bitCount_0f7a4_14 : decode cJ6_bitCount_0f7a4 14 = .ok (.iand, 1) := by decide +kernel
theorem dJ6_bitCount_0f7a4_15 : decode cJ6_bitCount_0f7a4 15 = .ok (.iload_n 0, 1) := by decide +kernel
theorem dJ6_bitCount_0f7a4_16 : decode cJ6_bitCount_0f7a4 16 = .ok (.iconst 2, 1) := by decide +kernel
theorem dJ6_bitCount_0f7a4_17 : decode cJ6_bitCount_0f7a4 17 = .ok (.iushr, 1) := by decide +kernel
theorem dJ6_bitCount_0f7a4_18 : decode cJ6_bitCount_0f7a4 18 = .ok (.ldc_w 266, 3) := by decide +kernel
theorem dJ6_bitCount_0f7a4_21 : decode cJ6_bitCount_0f7a4 21 = .ok (.iand, 1) := by decide +kernel
theorem dJ6_bitCount_0f7a4_22 : decode cJ6_bitCount_0f7a4 22 = .ok (.iadd, 1) := by decide +kernel
theorem dJ6_bitCount_0f7a4_23 : decode cJ6_bitCount_0f7a4 23 = .ok (.istore_n 0, 1) := by decide +kernel
theorem dJ6_bitCount_0f7a4_24 : decode cJ6_bitCount_0f7a4 24 = .ok (.iload_n 0, 1) := by decide +kernel
theorem dJ6_bitCount_0f7a4_25 : decode cJ6_bitCount_0f7a4 25 = .ok (.iload_n 0, 1) := by decide +kernel
theorem dJ6_bitCount_0f7a4_26 : decode cJ6_bitCount_0f7a4 26 = .ok (.iconst 4, 1) := by decide +kernel
theorem dJ6_bitCount_0f7a4_27 : decode cJ6_bitCount_0f7a4 27 = .ok (.iushr, 1) := by decide +kernel
theorem dJ6_bitCount_0f7a4_28 : decode cJ6_bitCount_0f7a4 28 = .ok (.iadd, 1) := by decide +kernel
theorem dJ6_bitCount_0f7a4_29 : decode cJ6_bitCount_0f7a4 29 = .ok (.ldc_w 267, 3) := by decide +kernel
theorem dJ6_bitCount_0f7a4_32 : decode cJ6_bitCount_0f7a4 32 = .ok (.iand, 1) := by decide +kernel
theorem dJ6_bitCount_0f7a4_33 : decode cJ6_bitCount_0f7a4 33 = .ok (.istore_n 0, 1) := by decide +kernel
theorem dJ6_bitCount_0f7a4_34 : decode cJ6_bitCount_0f7a4 34 = .ok (.iload_n 0, 1) := by decide +kernel
theorem dJ6_bitCount_0f7a4_35 : decode cJ6_bitCount_0f7a4 35 = .ok (.iload_n 0, 1) := by decide +kernel
theorem dJ6_bitCount_0f7a4_36 : decode cJ6_bitCount_0f7a4 36 = .ok (.bipush 8, 2) := by decide +kernel
theorem dJ6_bitCount_0f7a4_38 : decode cJ6_bitCount_0f7a4 38 = .ok (.iushr, 1) := by decide +kernel
theorem dJ6_bitCount_0f7a4_39 : decode cJ6_bitCount_0f7a4 39 = .ok (.iadd, 1) := by decide +kernel
theorem dJ6_bitCount_0f7a4_40 : decode cJ6_bitCount_0f7a4 40 = .ok (.istore_n 0, 1) := by decide +kernel
theorem dJ6_bitCount_0f7a4_41 : decode cJ6_bitCount_0f7a4 41 = .ok (.iload_n 0, 1) := by decide +kernel
theorem dJ6_bitCount_0f7a4_42 : decode cJ6_bitCount_0f7a4 42 = .ok (.iload_n 0, 1) := by decide +kernel
theorem dJ6_bitCount_0f7a4_43 : decode cJ6_bitCount_0f7a4 43 = .ok (.bipush 16, 2) := by decide +kernel
theorem dJ6_bitCount_0f7a4_45 : decode cJ6_bitCount_0f7a4 45 = .ok (.iushr, 1) := by decide +kernel
theorem dJ6_bitCount_0f7a4_46 : decode cJ6_bitCount_0f7a4 46 = .ok (.iadd, 1) := by decide +kernel
theorem dJ6_bitCount_0f7a4_47 : decode cJ6_bitCount_0f7a4 47 = .ok (.istore_n 0, 1) := by decide +kernel
theorem dJ6_bitCount_0f7a4_48 : decode cJ6_bitCount_0f7a4 48 = .ok (.iload_n 0, 1) := by decide +kernel
theorem dJ6_bitCount_0f7a4_49 : decode cJ6_bitCount_0f7a4 49 = .ok (.bipush 63, 2) := by decide +kernel
theorem dJ6_bitCount_0f7a4_51 : decode cJ6_bitCount_0f7a4 51 = .ok (.iand, 1) := by decide +kernel
theorem dJ6_bitCount_0f7a4_52 : decode cJ6_bitCount_0f7a4 52 = .ok (.ireturn, 1) := by decide +kernel
theorem dJ9_abs_0f7a4_0 : decode cJ9_abs_0f7a4 0 = .ok (.iload_n 0, 1) := by decide +kernel
theorem dJ9_abs_0f7a4_1 : decode cJ9_abs_0f7a4 1 = .ok (.ifCond .ge 8, 3) := by decide +kernel
theorem dJ9_abs_0f7a4_4 : decode cJ9_abs_0f7a4 4 = .ok (.iload_n 0, 1) := by decide +kernel
theorem dJ9_abs_0f7a4_5 : decode cJ9_abs_0f7a4 5 = .ok (.ineg, 1) := by decide +kernel
theorem dJ9_abs_0f7a4_6 : decode cJ9_abs_0f7a4 6 = .ok (.goto 4, 3) := by decide +kernel
theorem dJ9_abs_0f7a4_9 : decode cJ9_abs_0f7a4 9 = .ok (.iload_n 0, 1) := by decide +kernel
theorem dJ9_abs_0f7a4_10 : decode cJ9_abs_0f7a4 10 = .ok (.ireturn, 1) := by decide +kernel
theorem dJ9_max_7cf53_0 : decode cJ9_max_7cf53 0 = .ok (.iload_n 0, 1) := by decide +kernel
theorem dJ9_max_7cf53_1 : decode cJ9_max_7cf53 1 = .ok (.iload_n 1, 1) := by decide +kernel
theorem dJ9_max_7cf53_2 : decode cJ9_max_7cf53 2 = .ok (.if_icmp .lt 7, 3) := by decide +kernel
theorem dJ9_max_7cf53_5 : decode cJ9_max_7cf53 5 = .ok (.iload_n 0, 1) := by decide +kernel
theorem dJ9_max_7cf53_6 : decode cJ9_max_7cf53 6 = .ok (.goto 4, 3) := by decide +kernel
theorem dJ9_max_7cf53_9 : decode cJ9_max_7cf53 9 = .ok (.iload_n 1, 1) := by decide +kernel
theorem dJ9_max_7cf53_10 : decode cJ9_max_7cf53 10 = .ok (.ireturn, 1) := by decide +kernel
theorem dJ9_max_f86c9_0 : decode cJ9_max_f86c9 0 = .ok (.lload_n 0, 1) := by decide +kernel
theorem dJ9_max_f86c9_1 : decode cJ9_max_f86c9 1 = .ok (.lload_n 2, 1) := by decide +kernel
theorem dJ9_max_f86c9_2 : decode cJ9_max_f86c9 2 = .ok (.lcmp, 1) := by decide +kernel
theorem dJ9_max_f86c9_3 : decode cJ9_max_f86c9 3 = .ok (.ifCond .lt 7, 3) := by decide +kernel
theorem dJ9_max_f86c9_6 : decode cJ9_max_f86c9 6 = .ok (.lload_n 0, 1) := by decide +kernel
theorem dJ9_max_f86c9_7 : decode cJ9_max_f86c9 7 = .ok (.goto 4, 3) := by decide +kernel
theorem dJ9_max_f86c9_10 : decode cJ9_max_f86c9 10 = .ok (.lload_n 2, 1) := by decide +kernel
theorem dJ9_max_f86c9_11 : decode cJ9_max_f86c9 11 = .ok (.lreturn, 1) := by decide +kernel
theorem dJ9_min_7cf53_0 : decode cJ9_min_7cf53 0 = .ok (.iload_n 0, 1) := by decide +kernel
theorem dJ9_min_7cf53_1 : decode cJ9_min_7cf53 1 = .ok (.iload_n 1, 1) := by decide +kernel
theorem dJ9_min_7cf53_2 : decode cJ9_min_7cf53 2 = .ok (.if_icmp .gt 7, 3) := by decide +kernel
theorem dJ9_min_7cf53_5 : decode cJ9_min_7cf53 5 = .ok (.iload_n 0, 1) := by decide +kernel
theorem dJ9_min_7cf53_6 : decode cJ9_min_7cf53 6 = .ok (.goto 4, 3) := by decide +kernel
theorem dJ9_min_7cf53_9 : decode cJ9_min_7cf53 9 = .ok (.iload_n 1, 1) := by decide +kernel
theorem dJ9_min_7cf53_10 : decode cJ9_min_7cf53 10 = .ok (.ireturn, 1) := by decide +kernel
theorem dJ9_min_f86c9_0 : decode cJ9_min_f86c9 0 = .ok (.lload_n 0, 1) := by decide +kernel
theorem dJ9_min_f86c9_1 : decode cJ9_min_f86c9 1 = .ok (.lload_n 2, 1) := by decide +kernel
theorem dJ9_min_f86c9_2 : decode cJ9_min_f86c9 2 = .ok (.lcmp, 1) := by decide +kernel
theorem dJ9_min_f86c9_3 : decode cJ9_min_f86c9 3 = .ok (.ifCond .gt 7, 3) := by decide +kernel
theorem dJ9_min_f86c9_6 : decode cJ9_min_f86c9 6 = .ok (.lload_n 0, 1) := by decide +kernel
theorem dJ9_min_f86c9_7 : decode cJ9_min_f86c9 7 = .ok (.goto 4, 3) := by decide +kernel
theorem dJ9_min_f86c9_10 : decode cJ9_min_f86c9 10 = .ok (.lload_n 2, 1) := by decide +kernel
theorem dJ9_min_f86c9_11 : decode cJ9_min_f86c9 11 = .ok (.lreturn, 1) := by decide +kernel
theorem dJ0_length_8abf5_0 : decode cJ0_length_8abf5 0 = .ok (.aload_n 0, 1) := by decide +kernel
theorem dJ0_length_8abf5_1 : decode cJ0_length_8abf5 1 = .ok (.getfield 9, 3) := by decide +kernel
theorem dJ0_length_8abf5_4 : decode cJ0_length_8abf5 4 = .ok (.arraylength, 1) := by decide +kernel
theorem dJ0_length_8abf5_5 : decode cJ0_length_8abf5 5 = .ok (.aload_n 0, 1) := by decide +kernel
theorem dJ0_length_8abf5_6 : decode cJ0_length_8abf5 6 = .ok (.invokevirtual 335, 3) := by decide +kernel
theorem dJ0_length_8abf5_9 : decode cJ0_length_8abf5 9 = .ok (.ishr, 1) := by decide +kernel
theorem dJ0_length_8abf5_10 : decode cJ0_length_8abf5 10 = .ok (.ireturn, 1) := by decide +kernel
theorem dJ0_charAt_5068e_0 : decode cJ0_charAt_5068e 0 = .ok (.aload_n 0, 1) := by decide +kernel
theorem dJ0_charAt_5068e_1 : decode cJ0_charAt_5068e 1 = .ok (.invokevirtual 492, 3) := by decide +kernel
theorem dJ0_charAt_5068e_4 : decode cJ0_charAt_5068e 4 = .ok (.ifCond .eq 12, 3) := by decide +kernel
theorem dJ0_charAt_5068e_7 : decode cJ0_charAt_5068e 7 = .ok (.aload_n 0, 1) := by decide +kernel
theorem dJ0_charAt_5068e_8 : decode cJ0_charAt_5068e 8 = .ok (.getfield 9, 3) := by decide +kernel
theorem dJ0_charAt_5068e_11 : decode cJ0_charAt_5068e 11 = .ok (.iload_n 1, 1) := by decide +kernel
theorem dJ0_charAt_5068e_12 : decode cJ0_charAt_5068e 12 = .ok (.invokestatic 495, 3) := by decide +kernel
theorem dJ0_charAt_5068e_15 : decode cJ0_charAt_5068e 15 = .ok (.ireturn, 1) := by decide +kernel
theorem dJ0_charAt_5068e_16 : decode cJ0_charAt_5068e 16 = .ok (.aload_n 0, 1) := by decide +kernel
theorem dJ0_charAt_5068e_17 : decode cJ0_charAt_5068e 17 = .ok (.getfield 9, 3) := by decide +kernel
theorem dJ0_charAt_5068e_20 : decode cJ0_charAt_5068e 20 = .ok (.iload_n 1, 1) := by decide +kernel
theorem dJ0_charAt_5068e_21 : decode cJ0_charAt_5068e 21 = .ok (.invokestatic 498, 3) := by decide +kernel
theorem dJ0_charAt_5068e_24 : decode cJ0_charAt_5068e 24 = .ok (.ireturn, 1) := by decide +kernel
theorem dJ0_indexOf_0f7a4_0 : decode cJ0_indexOf_0f7a4 0 = .ok (.aload_n 0, 1) := by decide +kernel
theorem dJ0_indexOf_0f7a4_1 : decode cJ0_indexOf_0f7a4 1 = .ok (.iload_n 1, 1) := by decide +kernel
theorem dJ0_indexOf_0f7a4_2 : decode cJ0_indexOf_0f7a4 2 = .ok (.iconst 0, 1) := by decide +kernel
theorem dJ0_indexOf_0f7a4_3 : decode cJ0_indexOf_0f7a4 3 = .ok (.invokevirtual 633, 3) := by decide +kernel
theorem dJ0_indexOf_0f7a4_6 : decode cJ0_indexOf_0f7a4 6 = .ok (.ireturn, 1) := by decide +kernel
theorem dJ0_indexOf_7cf53_0 : decode cJ0_indexOf_7cf53 0 = .ok (.aload_n 0, 1) := by decide +kernel
theorem dJ0_indexOf_7cf53_1 : decode cJ0_indexOf_7cf53 1 = .ok (.invokevirtual 492, 3) := by decide +kernel
theorem dJ0_indexOf_7cf53_4 : decode cJ0_indexOf_7cf53 4 = .ok (.ifCond .eq 19, 3) := by decide +kernel
theorem dJ0_indexOf_7cf53_7 : decode cJ0_indexOf_7cf53 7 = .ok (.aload_n 0, 1) := by decide +kernel
theorem dJ0_indexOf_7cf53_8 : decode cJ0_indexOf_7cf53 8 = .ok (.getfield 9, 3) := by decide +kernel
theorem dJ0_indexOf_7cf53_11 : decode cJ0_indexOf_7cf53 11 = .ok (.iload_n 1, 1) := by decide +kernel
theorem dJ0_indexOf_7cf53_12 : decode cJ0_indexOf_7cf53 12 = .ok (.iload_n 2, 1) := by decide +kernel
theorem dJ0_indexOf_7cf53_13 : decode cJ0_indexOf_7cf53 13 = .ok (.aload_n 0, 1) := by decide +kernel
theorem dJ0_indexOf_7cf53_14 : decode cJ0_indexOf_7cf53 14 = .ok (.invokevirtual 505, 3) := by decide +kernel
theorem dJ0_indexOf_7cf53_17 : decode cJ0_indexOf_7cf53 17 = .ok (.invokestatic 637, 3) := by decide +kernel
theorem dJ0_indexOf_7cf53_20 : decode cJ0_indexOf_7cf53 20 = .ok (.goto 16, 3) := by decide +kernel
theorem dJ0_indexOf_7cf53_23 : decode cJ0_indexOf_7cf53 23 = .ok (.aload_n 0, 1) := by decide +kernel
theorem dJ0_indexOf_7cf53_24 : decode cJ0_indexOf_7cf53 24 = .ok (.getfield 9, 3) := by decide +kernel
theorem dJ0_indexOf_7cf53_27 : decode cJ0_indexOf_7cf53 27 = .ok (.iload_n 1, 1) := by decide +kernel
theorem dJ0_indexOf_7cf53_28 : decode cJ0_indexOf_7cf53 28 = .ok (.iload_n 2, 1) := by decide +kernel
theorem dJ0_indexOf_7cf53_29 : decode cJ0_indexOf_7cf53 29 = .ok (.aload_n 0, 1) := by decide +kernel
theorem dJ0_indexOf_7cf53_30 : decode cJ0_indexOf_7cf53 30 = .ok (.invokevirtual 505, 3) := by decide +kernel
theorem dJ0_indexOf_7cf53_33 : decode cJ0_indexOf_7cf53 33 = .ok (.invokestatic 640, 3) := by decide +kernel
theorem dJ0_indexOf_7cf53_36 : decode cJ0_indexOf_7cf53 36 = .ok (.ireturn, 1) := by decide +kernel
theorem dJ0_coder_7d493_0 : decode cJ0_coder_7d493 0 = .ok (.getstatic 38, 3) := by decide +kernel
theorem dJ0_coder_7d493_3 : decode cJ0_coder_7d493 3 = .ok (.ifCond .eq 10, 3) := by decide +kernel
theorem dJ0_coder_7d493_6 : decode cJ0_coder_7d493 6 = .ok (.aload_n 0, 1) := by decide +kernel
theorem dJ0_coder_7d493_7 : decode cJ0_coder_7d493 7 = .ok (.getfield 15, 3) := by decide +kernel
theorem dJ0_coder_7d493_10 : decode cJ0_coder_7d493 10 = .ok (.goto 4, 3) := by decide +kernel
theorem dJ0_coder_7d493_13 : decode cJ0_coder_7d493 13 = .ok (.iconst 1, 1) := by decide +kernel
theorem dJ0_coder_7d493_14 : decode cJ0_coder_7d493 14 = .ok (.ireturn, 1) := by decide +kernel
theorem dJ0_isLatin1_aae02_0 : decode cJ0_isLatin1_aae02 0 = .ok (.getstatic 38, 3) := by decide +kernel
theorem dJ0_isLatin1_aae02_3 : decode cJ0_isLatin1_aae02 3 = .ok (.ifCond .eq 14, 3) := by decide +kernel
theorem dJ0_isLatin1_aae02_6 : decode cJ0_isLatin1_aae02 6 = .ok (.aload_n 0, 1) := by decide +kernel
theorem dJ0_isLatin1_aae02_7 : decode cJ0_isLatin1_aae02 7 = .ok (.getfield 15, 3) := by decide +kernel
theorem dJ0_isLatin1_aae02_10 : decode cJ0_isLatin1_aae02 10 = .ok (.ifCond .ne 7, 3) := by decide +kernel
theorem dJ0_isLatin1_aae02_13 : decode cJ0_isLatin1_aae02 13 = .ok (.iconst 1, 1) := by decide +kernel
theorem dJ0_isLatin1_aae02_14 : decode cJ0_isLatin1_aae02 14 = .ok (.goto 4, 3) := by decide +kernel
theorem dJ0_isLatin1_aae02_17 : decode cJ0_isLatin1_aae02 17 = .ok (.iconst 0, 1) := by decide +kernel
theorem dJ0_isLatin1_aae02_18 : decode cJ0_isLatin1_aae02 18 = .ok (.ireturn, 1) := by decide +kernel
theorem dJ0_checkIndex_df160_0 : decode cJ0_checkIndex_df160 0 = .ok (.iload_n 0, 1) := by decide +kernel
theorem dJ0_checkIndex_df160_1 : decode cJ0_checkIndex_df160 1 = .ok (.iload_n 1, 1) := by decide +kernel
theorem dJ0_checkIndex_df160_2 : decode cJ0_checkIndex_df160 2 = .ok (.getstatic 1053, 3) := by decide +kernel
theorem dJ0_checkIndex_df160_5 : decode cJ0_checkIndex_df160 5 = .ok (.invokestatic 1059, 3) := by decide +kernel
theorem dJ0_checkIndex_df160_8 : decode cJ0_checkIndex_df160 8 = .ok (.pop, 1) := by decide +kernel
theorem dJ0_checkIndex_df160_9 : decode cJ0_checkIndex_df160 9 = .ok (.return_, 1) := by decide +kernel
theorem dJ0_checkBoundsBeginEnd_23922_0 : decode cJ0_checkBoundsBeginEnd_23922 0 = .ok (.iload_n 0, 1) := by decide +kernel
theorem dJ0_checkBoundsBeginEnd_23922_1 : decode cJ0_checkBoundsBeginEnd_23922 1 = .ok (.iload_n 1, 1) := by decide +kernel
theorem dJ0_checkBoundsBeginEnd_23922_2 : decode cJ0_checkBoundsBeginEnd_23922 2 = .ok (.iload_n 2, 1) := by decide +kernel
theorem dJ0_checkBoundsBeginEnd_23922_3 : decode cJ0_checkBoundsBeginEnd_23922 3 = .ok (.getstatic 1053, 3) := by decide +kernel
theorem dJ0_checkBoundsBeginEnd_23922_6 : decode cJ0_checkBoundsBeginEnd_23922 6 = .ok (.invokestatic 1062, 3) := by decide +kernel
theorem dJ0_checkBoundsBeginEnd_23922_9 : decode cJ0_checkBoundsBeginEnd_23922 9 = .ok (.pop, 1) := by decide +kernel
theorem dJ0_checkBoundsBeginEnd_23922_10 : decode cJ0_checkBoundsBeginEnd_23922 10 = .ok (.return_, 1) := by decide +kernel
theorem dJ1_charAt_3b067_0 : decode cJ1_charAt_3b067 0 = .ok (.iload_n 1, 1) := by decide +kernel
theorem dJ1_charAt_3b067_1 : decode cJ1_charAt_3b067 1 = .ok (.aload_n 0, 1) := by decide +kernel
theorem dJ1_charAt_3b067_2 : decode cJ1_charAt_3b067 2 = .ok (.arraylength, 1) := by decide +kernel
theorem dJ1_charAt_3b067_3 : decode cJ1_charAt_3b067 3 = .ok (.invokestatic 9, 3) := by decide +kernel
theorem dJ1_charAt_3b067_6 : decode cJ1_charAt_3b067 6 = .ok (.aload_n 0, 1) := by decide +kernel
theorem dJ1_charAt_3b067_7 : decode cJ1_charAt_3b067 7 = .ok (.iload_n 1, 1) := by decide +kernel
theorem dJ1_charAt_3b067_8 : decode cJ1_charAt_3b067 8 = .ok (.baload, 1) := by decide +kernel
theorem dJ1_charAt_3b067_9 : decode cJ1_charAt_3b067 9 = .ok (.sipush 255, 3) := by decide +kernel
theorem dJ1_charAt_3b067_12 : decode cJ1_charAt_3b067 12 = .ok (.iand, 1) := by decide +kernel
theorem dJ1_charAt_3b067_13 : decode cJ1_charAt_3b067 13 = .ok (.i2c, 1) := by decide +kernel
theorem dJ1_charAt_3b067_14 : decode cJ1_charAt_3b067 14 = .ok (.ireturn, 1) := by decide +kernel
theorem dJ1_canEncode_9a6ad_0 : decode cJ1_canEncode_9a6ad 0 = .ok (.iload_n 0, 1) := by decide +kernel
theorem dJ1_canEncode_9a6ad_1 : decode cJ1_canEncode_9a6ad 1 = .ok (.ifCond .lt 14, 3) := by decide +kernel
theorem dJ1_canEncode_9a6ad_4 : decode cJ1_canEncode_9a6ad 4 = .ok (.iload_n 0, 1) := by decide +kernel
theorem dJ1_canEncode_9a6ad_5 : decode cJ1_canEncode_9a6ad 5 = .ok (.sipush 255, 3) := by decide +kernel
theorem dJ1_canEncode_9a6ad_8 : decode cJ1_canEncode_9a6ad 8 = .ok (.if_icmp .gt 7, 3) := by decide +kernel
theorem dJ1_canEncode_9a6ad_11 : decode cJ1_canEncode_9a6ad 11 = .ok (.iconst 1, 1) := by decide +kernel
theorem dJ1_canEncode_9a6ad_12 : decode cJ1_canEncode_9a6ad 12 = .ok (.goto 4, 3) := by decide +kernel
theorem dJ1_canEncode_9a6ad_15 : decode cJ1_canEncode_9a6ad 15 = .ok (.iconst 0, 1) := by decide +kernel
theorem dJ1_canEncode_9a6ad_16 : decode cJ1_canEncode_9a6ad 16 = .ok (.ireturn, 1) := by decide +kernel
theorem dJ1_indexOf_4cfef_0 : decode cJ1_indexOf_4cfef 0 = .ok (.iload_n 1, 1) := by decide +kernel
theorem dJ1_indexOf_4cfef_1 : decode cJ1_indexOf_4cfef 1 = .ok (.invokestatic 88, 3) := by decide +kernel
theorem dJ1_indexOf_4cfef_4 : decode cJ1_indexOf_4cfef 4 = .ok (.ifCond .ne 5, 3) := by decide +kernel
theorem dJ1_indexOf_4cfef_7 : decode cJ1_indexOf_4cfef 7 = .ok (.iconst (-1), 1) := by decide +kernel
theorem dJ1_indexOf_4cfef_8 : decode cJ1_indexOf_4cfef 8 = .ok (.ireturn, 1) := by decide +kernel
theorem dJ1_indexOf_4cfef_9 : decode cJ1_indexOf_4cfef 9 = .ok (.iload_n 2, 1) := by decide +kernel
theorem dJ1_indexOf_4cfef_10 : decode cJ1_indexOf_4cfef 10 = .ok (.iconst 0, 1) := by decide +kernel
theorem dJ1_indexOf_4cfef_11 : decode cJ1_indexOf_4cfef 11 = .ok (.invokestatic 92, 3) := by decide +kernel
theorem dJ1_indexOf_4cfef_14 : decode cJ1_indexOf_4cfef 14 = .ok (.istore_n 2, 1) := by decide +kernel
theorem dJ1_indexOf_4cfef_15 : decode cJ1_indexOf_4cfef 15 = .ok (.iload_n 3, 1) := by decide +kernel
theorem dJ1_indexOf_4cfef_16 : decode cJ1_indexOf_4cfef 16 = .ok (.aload_n 0, 1) := by decide +kernel
theorem dJ1_indexOf_4cfef_17 : decode cJ1_indexOf_4cfef 17 = .ok (.arraylength, 1) := by decide +kernel
theorem dJ1_indexOf_4cfef_18 : decode cJ1_indexOf_4cfef 18 = .ok (.invokestatic 38, 3) := by decide +kernel
theorem dJ1_indexOf_4cfef_21 : decode cJ1_indexOf_4cfef 21 = .ok (.istore_n 3, 1) := by decide +kernel
theorem dJ1_indexOf_4cfef_22 : decode cJ1_indexOf_4cfef 22 = .ok (.iload_n 2, 1) := by decide +kernel
theorem dJ1_indexOf_4cfef_23 : decode cJ1_indexOf_4cfef 23 = .ok (.iload_n 3, 1) := by decide +kernel
theorem dJ1_indexOf_4cfef_24 : decode cJ1_indexOf_4cfef 24 = .ok (.if_icmp .lt 5, 3) := by decide +kernel
theorem dJ1_indexOf_4cfef_27 : decode cJ1_indexOf_4cfef 27 = .ok (.iconst (-1), 1) := by decide +kernel
theorem dJ1_indexOf_4cfef_28 : decode cJ1_indexOf_4cfef 28 = .ok (.ireturn, 1) := by decide +kernel
theorem dJ1_indexOf_4cfef_29 : decode cJ1_indexOf_4cfef 29 = .ok (.aload_n 0, 1) := by decide +kernel
theorem dJ1_indexOf_4cfef_30 : decode cJ1_indexOf_4cfef 30 = .ok (.iload_n 1, 1) := by decide +kernel
theorem dJ1_indexOf_4cfef_31 : decode cJ1_indexOf_4cfef 31 = .ok (.iload_n 2, 1) := by decide +kernel
theorem dJ1_indexOf_4cfef_32 : decode cJ1_indexOf_4cfef 32 = .ok (.iload_n 3, 1) := by decide +kernel
theorem dJ1_indexOf_4cfef_33 : decode cJ1_indexOf_4cfef 33 = .ok (.invokestatic 95, 3) := by decide +kernel
theorem dJ1_indexOf_4cfef_36 : decode cJ1_indexOf_4cfef 36 = .ok (.ireturn, 1) := by decide +kernel
theorem dJ1_indexOfChar_4cfef_0 : decode cJ1_indexOfChar_4cfef 0 = .ok (.iload_n 1, 1) := by decide +kernel
theorem dJ1_indexOfChar_4cfef_1 : decode cJ1_indexOfChar_4cfef 1 = .ok (.i2b, 1) := by decide +kernel
theorem dJ1_indexOfChar_4cfef_2 : decode cJ1_indexOfChar_4cfef 2 = .ok (.istore 4, 2) := by decide +kernel
theorem dJ1_indexOfChar_4cfef_4 : decode cJ1_indexOfChar_4cfef 4 = .ok (.iload_n 2, 1) := by decide +kernel
theorem dJ1_indexOfChar_4cfef_5 : decode cJ1_indexOfChar_4cfef 5 = .ok (.istore 5, 2) := by decide +kernel
theorem dJ1_indexOfChar_4cfef_7 : decode cJ1_indexOfChar_4cfef 7 = .ok (.iload 5, 2) := by decide +kernel
theorem dJ1_indexOfChar_4cfef_9 : decode cJ1_indexOfChar_4cfef 9 = .ok (.iload_n 3, 1) := by decide +kernel
theorem dJ1_indexOfChar_4cfef_10 : decode cJ1_indexOfChar_4cfef 10 = .ok (.if_icmp .ge 21, 3) := by decide +kernel
theorem dJ1_indexOfChar_4cfef_13 : decode cJ1_indexOfChar_4cfef 13 = .ok (.aload_n 0, 1) := by decide +kernel
theorem dJ1_indexOfChar_4cfef_14 : decode cJ1_indexOfChar_4cfef 14 = .ok (.iload 5, 2) := by decide +kernel
theorem dJ1_indexOfChar_4cfef_16 : decode cJ1_indexOfChar_4cfef 16 = .ok (.baload, 1) := by decide +kernel
theorem dJ1_indexOfChar_4cfef_17 : decode cJ1_indexOfChar_4cfef 17 = .ok (.iload 4, 2) := by decide +kernel
theorem dJ1_indexOfChar_4cfef_19 : decode cJ1_indexOfChar_4cfef 19 = .ok (.if_icmp .ne 6, 3) := by decide +kernel
theorem dJ1_indexOfChar_4cfef_22 : decode cJ1_indexOfChar_4cfef 22 = .ok (.iload 5, 2) := by decide +kernel
theorem dJ1_indexOfChar_4cfef_24 : decode cJ1_indexOfChar_4cfef 24 = .ok (.ireturn, 1) := by decide +kernel
theorem dJ1_indexOfChar_4cfef_25 : decode cJ1_indexOfChar_4cfef 25 = .ok (.iinc 5 1, 3) := by decide +kernel
theorem dJ1_indexOfChar_4cfef_28 : decode cJ1_indexOfChar_4cfef 28 = .ok (.goto (-21), 3) := by decide +kernel
theorem dJ1_indexOfChar_4cfef_31 : decode cJ1_indexOfChar_4cfef 31 = .ok (.iconst (-1), 1) := by decide +kernel
theorem dJ1_indexOfChar_4cfef_32 : decode cJ1_indexOfChar_4cfef 32 = .ok (.ireturn, 1) := by decide +kernel
theorem dJ2_getChar_3b067_0 : decode cJ2_getChar_3b067 0 = .ok (.getstatic 44, 3) := by decide +kernel
theorem dJ2_getChar_3b067_3 : decode cJ2_getChar_3b067 3 = .ok (.ifCond .ne 25, 3) := by decide +kernel
theorem dJ2_getChar_3b067_6 : decode cJ2_getChar_3b067 6 = .ok (.iload_n 1, 1) := by decide +kernel
theorem dJ2_getChar_3b067_7 : decode cJ2_getChar_3b067 7 = .ok (.ifCond .lt 11, 3) := by decide +kernel
theorem dJ2_getChar_3b067_10 : decode cJ2_getChar_3b067 10 = .ok (.iload_n 1, 1) := by decide +kernel
theorem dJ2_getChar_3b067_11 : decode cJ2_getChar_3b067 11 = .ok (.aload_n 0, 1) := by decide +kernel
theorem dJ2_getChar_3b067_12 : decode cJ2_getChar_3b067 12 = .ok (.invokestatic 48, 3) := by decide +kernel
theorem dJ2_getChar_3b067_15 : decode cJ2_getChar_3b067 15 = .ok (.if_icmp .lt 13, 3) := by decide +kernel
theorem dJ2_getChar_3b067_18 : decode cJ2_getChar_3b067 18 = .ok (.new 52, 3) := by decide +kernel
theorem dJ2_getChar_3b067_21 : decode cJ2_getChar_3b067 21 = .ok (.dup, 1) := by decide +kernel
theorem dJ2_getChar_3b067_22 : decode cJ2_getChar_3b067 22 = .ok (.ldc 54, 2) := by decide +kernel
theorem dJ2_getChar_3b067_24 : decode cJ2_getChar_3b067 24 = .ok (.invokespecial 56, 3) := by decide +kernel
theorem dJ2_getChar_3b067_27 : decode cJ2_getChar_3b067 27 = .ok (.athrow, 1) := by decide +kernel
theorem dJ2_getChar_3b067_28 : decode cJ2_getChar_3b067 28 = .ok (.iload_n 1, 1) := by decide +kernel
theorem dJ2_getChar_3b067_29 : decode cJ2_getChar_3b067 29 = .ok (.iconst 1, 1) := by decide +kernel
theorem dJ2_getChar_3b067_30 : decode cJ2_getChar_3b067 30 = .ok (.ishl, 1) := by decide +kernel
theorem dJ2_getChar_3b067_31 : decode cJ2_getChar_3b067 31 = .ok (.istore_n 1, 1) := by decide +kernel
theorem dJ2_getChar_3b067_32 : decode cJ2_getChar_3b067 32 = .ok (.aload_n 0, 1) := by decide +kernel
theorem dJ2_getChar_3b067_33 : decode cJ2_getChar_3b067 33 = .ok (.iload_n 1, 1) := by decide +kernel
theorem dJ2_getChar_3b067_34 : decode cJ2_getChar_3b067 34 = .ok (.iinc 1 1, 3) := by decide +kernel
theorem dJ2_getChar_3b067_37 : decode cJ2_getChar_3b067 37 = .ok (.baload, 1) := by decide +kernel
theorem dJ2_getChar_3b067_38 : decode cJ2_getChar_3b067 38 = .ok (.sipush 255, 3) := by decide +kernel
theorem dJ2_getChar_3b067_41 : decode cJ2_getChar_3b067 41 = .ok (.iand, 1) := by decide +kernel
theorem dJ2_getChar_3b067_42 : decode cJ2_getChar_3b067 42 = .ok (.getstatic 59, 3) := by decide +kernel
theorem dJ2_getChar_3b067_45 : decode cJ2_getChar_3b067 45 = .ok (.ishl, 1) := by decide +kernel
theorem dJ2_getChar_3b067_46 : decode cJ2_getChar_3b067 46 = .ok (.aload_n 0, 1) := by decide +kernel
theorem dJ2_getChar_3b067_47 : decode cJ2_getChar_3b067 47 = .ok (.iload_n 1, 1) := by decide +kernel
theorem dJ2_getChar_3b067_48 : decode cJ2_getChar_3b067 48 = .ok (.baload, 1) := by decide +kernel
theorem dJ2_getChar_3b067_49 : decode cJ2_getChar_3b067 49 = .ok (.sipush 255, 3) := by decide +kernel
theorem dJ2_getChar_3b067_52 : decode cJ2_getChar_3b067 52 = .ok (.iand, 1) := by decide +kernel
theorem dJ2_getChar_3b067_53 : decode cJ2_getChar_3b067 53 = .ok (.getstatic 63, 3) := by decide +kernel
theorem dJ2_getChar_3b067_56 : decode cJ2_getChar_3b067 56 = .ok (.ishl, 1) := by decide +kernel
theorem dJ2_getChar_3b067_57 : decode cJ2_getChar_3b067 57 = .ok (.ior, 1) := by decide +kernel
theorem dJ2_getChar_3b067_58 : decode cJ2_getChar_3b067 58 = .ok (.i2c, 1) := by decide +kernel
theorem dJ2_getChar_3b067_59 : decode cJ2_getChar_3b067 59 = .ok (.ireturn, 1) := by decide +kernel
theorem dJ2_length_9d52b_0 : decode cJ2_length_9d52b 0 = .ok (.aload_n 0, 1) := by decide +kernel
theorem dJ2_length_9d52b_1 : decode cJ2_length_9d52b 1 = .ok (.arraylength, 1) := by decide +kernel
theorem dJ2_length_9d52b_2 : decode cJ2_length_9d52b 2 = .ok (.iconst 1, 1) := by decide +kernel
theorem dJ2_length_9d52b_3 : decode cJ2_length_9d52b 3 = .ok (.ishr, 1) := by decide +kernel
theorem dJ2_length_9d52b_4 : decode cJ2_length_9d52b 4 = .ok (.ireturn, 1) := by decide +kernel
theorem dJ2_indexOf_4cfef_0 : decode cJ2_indexOf_4cfef 0 = .ok (.iload_n 2, 1) := by decide +kernel
theorem dJ2_indexOf_4cfef_1 : decode cJ2_indexOf_4cfef 1 = .ok (.iconst 0, 1) := by decide +kernel
theorem dJ2_indexOf_4cfef_2 : decode cJ2_indexOf_4cfef 2 = .ok (.invokestatic 224, 3) := by decide +kernel
theorem dJ2_indexOf_4cfef_5 : decode cJ2_indexOf_4cfef 5 = .ok (.istore_n 2, 1) := by decide +kernel
theorem dJ2_indexOf_4cfef_6 : decode cJ2_indexOf_4cfef 6 = .ok (.iload_n 3, 1) := by decide +kernel
theorem dJ2_indexOf_4cfef_7 : decode cJ2_indexOf_4cfef 7 = .ok (.aload_n 0, 1) := by decide +kernel
theorem dJ2_indexOf_4cfef_8 : decode cJ2_indexOf_4cfef 8 = .ok (.arraylength, 1) := by decide +kernel
theorem dJ2_indexOf_4cfef_9 : decode cJ2_indexOf_4cfef 9 = .ok (.iconst 1, 1) := by decide +kernel
theorem dJ2_indexOf_4cfef_10 : decode cJ2_indexOf_4cfef 10 = .ok (.ishr, 1) := by decide +kernel
theorem dJ2_indexOf_4cfef_11 : decode cJ2_indexOf_4cfef 11 = .ok (.invokestatic 183, 3) := by decide +kernel
theorem dJ2_indexOf_4cfef_14 : decode cJ2_indexOf_4cfef 14 = .ok (.istore_n 3, 1) := by decide +kernel
theorem dJ2_indexOf_4cfef_15 : decode cJ2_indexOf_4cfef 15 = .ok (.iload_n 2, 1) := by decide +kernel
theorem dJ2_indexOf_4cfef_16 : decode cJ2_indexOf_4cfef 16 = .ok (.iload_n 3, 1) := by decide +kernel
theorem dJ2_indexOf_4cfef_17 : decode cJ2_indexOf_4cfef 17 = .ok (.if_icmp .lt 5, 3) := by decide +kernel
theorem dJ2_indexOf_4cfef_20 : decode cJ2_indexOf_4cfef 20 = .ok (.iconst (-1), 1) := by decide +kernel
theorem dJ2_indexOf_4cfef_21 : decode cJ2_indexOf_4cfef 21 = .ok (.ireturn, 1) := by decide +kernel
theorem dJ2_indexOf_4cfef_22 : decode cJ2_indexOf_4cfef 22 = .ok (.iload_n 1, 1) := by decide +kernel
theorem dJ2_indexOf_4cfef_23 : decode cJ2_indexOf_4cfef 23 = .ok (.ldc 227, 2) := by decide +kernel
theorem dJ2_indexOf_4cfef_25 : decode cJ2_indexOf_4cfef 25 = .ok (.if_icmp .ge 11, 3) := by decide +kernel
theorem dJ2_indexOf_4cfef_28 : decode cJ2_indexOf_4cfef 28 = .ok (.aload_n 0, 1) := by decide +kernel
theorem dJ2_indexOf_4cfef_29 : decode cJ2_indexOf_4cfef 29 = .ok (.iload_n 1, 1) := by decide +kernel
theorem dJ2_indexOf_4cfef_30 : decode cJ2_indexOf_4cfef 30 = .ok (.iload_n 2, 1) := by decide +kernel
theorem dJ2_indexOf_4cfef_31 : decode cJ2_indexOf_4cfef 31 = .ok (.iload_n 3, 1) := by decide +kernel
theorem dJ2_indexOf_4cfef_32 : decode cJ2_indexOf_4cfef 32 = .ok (.invokestatic 228, 3) := by decide +kernel
theorem dJ2_indexOf_4cfef_35 : decode cJ2_indexOf_4cfef 35 = .ok (.ireturn, 1) := by decide +kernel
theorem dJ2_indexOf_4cfef_36 : decode cJ2_indexOf_4cfef 36 = .ok (.aload_n 0, 1) := by decide +kernel
theorem dJ2_indexOf_4cfef_37 : decode cJ2_indexOf_4cfef 37 = .ok (.iload_n 1, 1) := by decide +kernel
theorem dJ2_indexOf_4cfef_38 : decode cJ2_indexOf_4cfef 38 = .ok (.iload_n 2, 1) := by decide +kernel
theorem dJ2_indexOf_4cfef_39 : decode cJ2_indexOf_4cfef 39 = .ok (.iload_n 3, 1) := by decide +kernel
theorem dJ2_indexOf_4cfef_40 : decode cJ2_indexOf_4cfef 40 = .ok (.invokestatic 232, 3) := by decide +kernel
theorem dJ2_indexOf_4cfef_43 : decode cJ2_indexOf_4cfef 43 = .ok (.ireturn, 1) := by decide +kernel
theorem dJ2_indexOfChar_4cfef_0 : decode cJ2_indexOfChar_4cfef 0 = .ok (.iload_n 2, 1) := by decide +kernel
theorem dJ2_indexOfChar_4cfef_1 : decode cJ2_indexOfChar_4cfef 1 = .ok (.iload_n 3, 1) := by decide +kernel
theorem dJ2_indexOfChar_4cfef_2 : decode cJ2_indexOfChar_4cfef 2 = .ok (.aload_n 0, 1) := by decide +kernel
theorem dJ2_indexOfChar_4cfef_3 : decode cJ2_indexOfChar_4cfef 3 = .ok (.invokestatic 96, 3) := by decide +kernel
theorem dJ2_indexOfChar_4cfef_6 : decode cJ2_indexOfChar_4cfef 6 = .ok (.aload_n 0, 1) := by decide +kernel
theorem dJ2_indexOfChar_4cfef_7 : decode cJ2_indexOfChar_4cfef 7 = .ok (.iload_n 1, 1) := by decide +kernel
theorem dJ2_indexOfChar_4cfef_8 : decode cJ2_indexOfChar_4cfef 8 = .ok (.iload_n 2, 1) := by decide +kernel
theorem dJ2_indexOfChar_4cfef_9 : decode cJ2_indexOfChar_4cfef 9 = .ok (.iload_n 3, 1) := by decide +kernel
theorem dJ2_indexOfChar_4cfef_10 : decode cJ2_indexOfChar_4cfef 10 = .ok (.invokestatic 244, 3) := by decide +kernel
theorem dJ2_indexOfChar_4cfef_13 : decode cJ2_indexOfChar_4cfef 13 = .ok (.ireturn, 1) := by decide +kernel
theorem dJ2_indexOfCharUnsafe_4cfef_0 : decode cJ2_indexOfCharUnsafe_4cfef 0 = .ok (.iload_n 2, 1) := by decide +kernel
theorem dJ2_indexOfCharUnsafe_4cfef_1 : decode cJ2_indexOfCharUnsafe_4cfef 1 = .ok (.istore 4, 2) := by decide +kernel
theorem dJ2_indexOfCharUnsafe_4cfef_3 : decode cJ2_indexOfCharUnsafe_4cfef 3 = .ok (.iload 4, 2) := by decide +kernel
theorem dJ2_indexOfCharUnsafe_4cfef_5 : decode cJ2_indexOfCharUnsafe_4cfef 5 = .ok (.iload_n 3, 1) := by decide +kernel
theorem dJ2_indexOfCharUnsafe_4cfef_6 : decode cJ2_indexOfCharUnsafe_4cfef 6 = .ok (.if_icmp .ge 22, 3) := by decide +kernel
theorem dJ2_indexOfCharUnsafe_4cfef_9 : decode cJ2_indexOfCharUnsafe_4cfef 9 = .ok (.aload_n 0, 1) := by decide +kernel
theorem dJ2_indexOfCharUnsafe_4cfef_10 : decode cJ2_indexOfCharUnsafe_4cfef 10 = .ok (.iload 4, 2) := by decide +kernel
theorem dJ2_indexOfCharUnsafe_4cfef_12 : decode cJ2_indexOfCharUnsafe_4cfef 12 = .ok (.invokestatic 71, 3) := by decide +kernel
theorem dJ2_indexOfCharUnsafe_4cfef_15 : decode cJ2_indexOfCharUnsafe_4cfef 15 = .ok (.iload_n 1, 1) := by decide +kernel
theorem dJ2_indexOfCharUnsafe_4cfef_16 : decode cJ2_indexOfCharUnsafe_4cfef 16 = .ok (.if_icmp .ne 6, 3) := by decide +kernel
theorem dJ2_indexOfCharUnsafe_4cfef_19 : decode cJ2_indexOfCharUnsafe_4cfef 19 = .ok (.iload 4, 2) := by decide +kernel
theorem dJ2_indexOfCharUnsafe_4cfef_21 : decode cJ2_indexOfCharUnsafe_4cfef 21 = .ok (.ireturn, 1) := by decide +kernel
theorem dJ2_indexOfCharUnsafe_4cfef_22 : decode cJ2_indexOfCharUnsafe_4cfef 22 = .ok (.iinc 4 1, 3) := by decide +kernel
theorem dJ2_indexOfCharUnsafe_4cfef_25 : decode cJ2_indexOfCharUnsafe_4cfef 25 = .ok (.goto (-22), 3) := by decide +kernel
theorem dJ2_indexOfCharUnsafe_4cfef_28 : decode cJ2_indexOfCharUnsafe_4cfef 28 = .ok (.iconst (-1), 1) := by decide +kernel
theorem dJ2_indexOfCharUnsafe_4cfef_29 : decode cJ2_indexOfCharUnsafe_4cfef 29 = .ok (.ireturn, 1) := by decide +kernel
theorem dJ2_indexOfSupplementary_4cfef_0 : decode cJ2_indexOfSupplementary_4cfef 0 = .ok (.iload_n 1, 1) := by decide +kernel
theorem dJ2_indexOfSupplementary_4cfef_1 : decode cJ2_indexOfSupplementary_4cfef 1 = .ok (.invokestatic 164, 3) := by decide +kernel
theorem dJ2_indexOfSupplementary_4cfef_4 : decode cJ2_indexOfSupplementary_4cfef 4 = .ok (.ifCond .eq 65, 3) := by decide +kernel
theorem dJ2_indexOfSupplementary_4cfef_7 : decode cJ2_indexOfSupplementary_4cfef 7 = .ok (.iload_n 1, 1) := by decide +kernel
theorem dJ2_indexOfSupplementary_4cfef_8 : decode cJ2_indexOfSupplementary_4cfef 8 = .ok (.invokestatic 157, 3) := by decide +kernel
theorem dJ2_indexOfSupplementary_4cfef_11 : decode cJ2_indexOfSupplementary_4cfef 11 = .ok (.istore 4, 2) := by decide +kernel
theorem dJ2_indexOfSupplementary_4cfef_13 : decode cJ2_indexOfSupplementary_4cfef 13 = .ok (.iload_n 1, 1) := by decide +kernel
theorem dJ2_indexOfSupplementary_4cfef_14 : decode cJ2_indexOfSupplementary_4cfef 14 = .ok (.invokestatic 161, 3) := by decide +kernel
theorem dJ2_indexOfSupplementary_4cfef_17 : decode cJ2_indexOfSupplementary_4cfef 17 = .ok (.istore 5, 2) := by decide +kernel
theorem dJ2_indexOfSupplementary_4cfef_19 : decode cJ2_indexOfSupplementary_4cfef 19 = .ok (.iload_n 2, 1) := by decide +kernel
theorem dJ2_indexOfSupplementary_4cfef_20 : decode cJ2_indexOfSupplementary_4cfef 20 = .ok (.iload_n 3, 1) := by decide +kernel
theorem dJ2_indexOfSupplementary_4cfef_21 : decode cJ2_indexOfSupplementary_4cfef 21 = .ok (.aload_n 0, 1) := by decide +kernel
theorem dJ2_indexOfSupplementary_4cfef_22 : decode cJ2_indexOfSupplementary_4cfef 22 = .ok (.invokestatic 96, 3) := by decide +kernel
theorem dJ2_indexOfSupplementary_4cfef_25 : decode cJ2_indexOfSupplementary_4cfef 25 = .ok (.iload_n 2, 1) := by decide +kernel
theorem dJ2_indexOfSupplementary_4cfef_26 : decode cJ2_indexOfSupplementary_4cfef 26 = .ok (.istore 6, 2) := by decide +kernel
theorem dJ2_indexOfSupplementary_4cfef_28 : decode cJ2_indexOfSupplementary_4cfef 28 = .ok (.iload 6, 2) := by decide +kernel
theorem dJ2_indexOfSupplementary_4cfef_30 : decode cJ2_indexOfSupplementary_4cfef 30 = .ok (.iload_n 3, 1) := by decide +kernel
theorem dJ2_indexOfSupplementary_4cfef_31 : decode cJ2_indexOfSupplementary_4cfef 31 = .ok (.iconst 1, 1) := by decide +kernel
theorem dJ2_indexOfSupplementary_4cfef_32 : decode cJ2_indexOfSupplementary_4cfef 32 = .ok (.isub, 1) := by decide +kernel
theorem dJ2_indexOfSupplementary_4cfef_33 : decode cJ2_indexOfSupplementary_4cfef 33 = .ok (.if_icmp .ge 36, 3) := by decide +kernel
theorem dJ2_indexOfSupplementary_4cfef_36 : decode cJ2_indexOfSupplementary_4cfef 36 = .ok (.aload_n 0, 1) := by decide +kernel
theorem dJ2_indexOfSupplementary_4cfef_37 : decode cJ2_indexOfSupplementary_4cfef 37 = .ok (.iload 6, 2) := by decide +kernel
theorem dJ2_indexOfSupplementary_4cfef_39 : decode cJ2_indexOfSupplementary_4cfef 39 = .ok (.invokestatic 71, 3) := by decide +kernel
theorem dJ2_indexOfSupplementary_4cfef_42 : decode cJ2_indexOfSupplementary_4cfef 42 = .ok (.iload 4, 2) := by decide +kernel
theorem dJ2_indexOfSupplementary_4cfef_44 : decode cJ2_indexOfSupplementary_4cfef 44 = .ok (.if_icmp .ne 19, 3) := by decide +kernel
theorem dJ2_indexOfSupplementary_4cfef_47 : decode cJ2_indexOfSupplementary_4cfef 47 = .ok (.aload_n 0, 1) := by decide +kernel
theorem dJ2_indexOfSupplementary_4cfef_48 : decode cJ2_indexOfSupplementary_4cfef 48 = .ok (.iload 6, 2) := by decide +kernel
theorem dJ2_indexOfSupplementary_4cfef_50 : decode cJ2_indexOfSupplementary_4cfef 50 = .ok (.iconst 1, 1) := by decide +kernel
theorem dJ2_indexOfSupplementary_4cfef_51 : decode cJ2_indexOfSupplementary_4cfef 51 = .ok (.iadd, 1) := by decide +kernel
theorem dJ2_indexOfSupplementary_4cfef_52 : decode cJ2_indexOfSupplementary_4cfef 52 = .ok (.invokestatic 71, 3) := by decide +kernel
theorem dJ2_indexOfSupplementary_4cfef_55 : decode cJ2_indexOfSupplementary_4cfef 55 = .ok (.iload 5, 2) := by decide +kernel
theorem dJ2_indexOfSupplementary_4cfef_57 : decode cJ2_indexOfSupplementary_4cfef 57 = .ok (.if_icmp .ne 6, 3) := by decide +kernel
theorem dJ2_indexOfSupplementary_4cfef_60 : decode cJ2_indexOfSupplementary_4cfef 60 = .ok (.iload 6, 2) := by decide +kernel
theorem dJ2_indexOfSupplementary_4cfef_62 : decode cJ2_indexOfSupplementary_4cfef 62 = .ok (.ireturn, 1) := by decide +kernel
theorem dJ2_indexOfSupplementary_4cfef_63 : decode cJ2_indexOfSupplementary_4cfef 63 = .ok (.iinc 6 1, 3) := by decide +kernel
theorem dJ2_indexOfSupplementary_4cfef_66 : decode cJ2_indexOfSupplementary_4cfef 66 = .ok (.goto (-38), 3) := by decide +kernel
theorem dJ2_indexOfSupplementary_4cfef_69 : decode cJ2_indexOfSupplementary_4cfef 69 = .ok (.iconst (-1), 1) := by decide +kernel
theorem dJ2_indexOfSupplementary_4cfef_70 : decode cJ2_indexOfSupplementary_4cfef 70 = .ok (.ireturn, 1) := by decide +kernel
theorem dJ2_charAt_3b067_0 : decode cJ2_charAt_3b067 0 = .ok (.iload_n 1, 1) := by decide +kernel
theorem dJ2_charAt_3b067_1 : decode cJ2_charAt_3b067 1 = .ok (.aload_n 0, 1) := by decide +kernel
theorem dJ2_charAt_3b067_2 : decode cJ2_charAt_3b067 2 = .ok (.invokestatic 67, 3) := by decide +kernel
theorem dJ2_charAt_3b067_5 : decode cJ2_charAt_3b067 5 = .ok (.aload_n 0, 1) := by decide +kernel
theorem dJ2_charAt_3b067_6 : decode cJ2_charAt_3b067 6 = .ok (.iload_n 1, 1) := by decide +kernel
theorem dJ2_charAt_3b067_7 : decode cJ2_charAt_3b067 7 = .ok (.invokestatic 71, 3) := by decide +kernel
theorem dJ2_charAt_3b067_10 : decode cJ2_charAt_3b067 10 = .ok (.ireturn, 1) := by decide +kernel
theorem dJ2_checkIndex_2214a_0 : decode cJ2_checkIndex_2214a 0 = .ok (.iload_n 0, 1) := by decide +kernel
theorem dJ2_checkIndex_2214a_1 : decode cJ2_checkIndex_2214a 1 = .ok (.aload_n 1, 1) := by decide +kernel
theorem dJ2_checkIndex_2214a_2 : decode cJ2_checkIndex_2214a 2 = .ok (.invokestatic 48, 3) := by decide +kernel
theorem dJ2_checkIndex_2214a_5 : decode cJ2_checkIndex_2214a 5 = .ok (.invokestatic 414, 3) := by decide +kernel
theorem dJ2_checkIndex_2214a_8 : decode cJ2_checkIndex_2214a 8 = .ok (.return_, 1) := by decide +kernel
theorem dJ2_checkBoundsBeginEnd_d044e_0 : decode cJ2_checkBoundsBeginEnd_d044e 0 = .ok (.iload_n 0, 1) := by decide +kernel
theorem dJ2_checkBoundsBeginEnd_d044e_1 : decode cJ2_checkBoundsBeginEnd_d044e 1 = .ok (.iload_n 1, 1) := by decide +kernel
theorem dJ2_checkBoundsBeginEnd_d044e_2 : decode cJ2_checkBoundsBeginEnd_d044e 2 = .ok (.aload_n 2, 1) := by decide +kernel
theorem dJ2_checkBoundsBeginEnd_d044e_3 : decode cJ2_checkBoundsBeginEnd_d044e 3 = .ok (.invokestatic 48, 3) := by decide +kernel
theorem dJ2_checkBoundsBeginEnd_d044e_6 : decode cJ2_checkBoundsBeginEnd_d044e 6 = .ok (.invokestatic 241, 3) := by decide +kernel
theorem dJ2_checkBoundsBeginEnd_d044e_9 : decode cJ2_checkBoundsBeginEnd_d044e 9 = .ok (.return_, 1) := by decide +kernel
theorem dJ7_fill_53178_0 : decode cJ7_fill_53178 0 = .ok (.iconst 0, 1) := by decide +kernel
theorem dJ7_fill_53178_1 : decode cJ7_fill_53178 1 = .ok (.istore_n 2, 1) := by decide +kernel
theorem dJ7_fill_53178_2 : decode cJ7_fill_53178 2 = .ok (.aload_n 0, 1) := by decide +kernel
theorem dJ7_fill_53178_3 : decode cJ7_fill_53178 3 = .ok (.arraylength, 1) := by decide +kernel
theorem dJ7_fill_53178_4 : decode cJ7_fill_53178 4 = .ok (.istore_n 3, 1) := by decide +kernel
theorem dJ7_fill_53178_5 : decode cJ7_fill_53178 5 = .ok (.iload_n 2, 1) := by decide +kernel
theorem dJ7_fill_53178_6 : decode cJ7_fill_53178 6 = .ok (.iload_n 3, 1) := by decide +kernel
theorem dJ7_fill_53178_7 : decode cJ7_fill_53178 7 = .ok (.if_icmp .ge 13, 3) := by decide +kernel
theorem dJ7_fill_53178_10 : decode cJ7_fill_53178 10 = .ok (.aload_n 0, 1) := by decide +kernel
theorem dJ7_fill_53178_11 : decode cJ7_fill_53178 11 = .ok (.iload_n 2, 1) := by decide +kernel
theorem dJ7_fill_53178_12 : decode cJ7_fill_53178 12 = .ok (.iload_n 1, 1) := by decide +kernel
theorem dJ7_fill_53178_13 : decode cJ7_fill_53178 13 = .ok (.iastore, 1) := by decide +kernel
theorem dJ7_fill_53178_14 : decode cJ7_fill_53178 14 = .ok (.iinc 2 1, 3) := by decide +kernel
theorem dJ7_fill_53178_17 : decode cJ7_fill_53178 17 = .ok (.goto (-12), 3) := by decide +kernel
theorem dJ7_fill_53178_20 : decode cJ7_fill_53178 20 = .ok (.return_, 1) := by decide +kernel
theorem dJ3_checkIndex_8e157_0 : decode cJ3_checkIndex_8e157 0 = .ok (.iload_n 0, 1) := by decide +kernel
theorem dJ3_checkIndex_8e157_1 : decode cJ3_checkIndex_8e157 1 = .ok (.ifCond .lt 8, 3) := by decide +kernel
theorem dJ3_checkIndex_8e157_4 : decode cJ3_checkIndex_8e157 4 = .ok (.iload_n 0, 1) := by decide +kernel
theorem dJ3_checkIndex_8e157_5 : decode cJ3_checkIndex_8e157 5 = .ok (.iload_n 1, 1) := by decide +kernel
theorem dJ3_checkIndex_8e157_6 : decode cJ3_checkIndex_8e157 6 = .ok (.if_icmp .lt 10, 3) := by decide +kernel
theorem dJ3_checkIndex_8e157_9 : decode cJ3_checkIndex_8e157 9 = .ok (.aload_n 2, 1) := by decide +kernel
theorem dJ3_checkIndex_8e157_10 : decode cJ3_checkIndex_8e157 10 = .ok (.iload_n 0, 1) := by decide +kernel
theorem dJ3_checkIndex_8e157_11 : decode cJ3_checkIndex_8e157 11 = .ok (.iload_n 1, 1) := by decide +kernel
theorem dJ3_checkIndex_8e157_12 : decode cJ3_checkIndex_8e157 12 = .ok (.invokestatic 95, 3) := by decide +kernel
theorem dJ3_checkIndex_8e157_15 : decode cJ3_checkIndex_8e157 15 = .ok (.athrow, 1) := by decide +kernel
theorem dJ3_checkIndex_8e157_16 : decode cJ3_checkIndex_8e157 16 = .ok (.iload_n 0, 1) := by decide +kernel
theorem dJ3_checkIndex_8e157_17 : decode cJ3_checkIndex_8e157 17 = .ok (.ireturn, 1) := by decide +kernel
theorem dJ3_checkFromToIndex_8c36e_0 : decode cJ3_checkFromToIndex_8c36e 0 = .ok (.iload_n 0, 1) := by decide +kernel
theorem dJ3_checkFromToIndex_8c36e_1 : decode cJ3_checkFromToIndex_8c36e 1 = .ok (.ifCond .lt 13, 3) := by decide +kernel
theorem dJ3_checkFromToIndex_8c36e_4 : decode cJ3_checkFromToIndex_8c36e 4 = .ok (.iload_n 0, 1) := by decide +kernel
theorem dJ3_checkFromToIndex_8c36e_5 : decode cJ3_checkFromToIndex_8c36e 5 = .ok (.iload_n 1, 1) := by decide +kernel
theorem dJ3_checkFromToIndex_8c36e_6 : decode cJ3_checkFromToIndex_8c36e 6 = .ok (.if_icmp .gt 8, 3) := by decide +kernel
theorem dJ3_checkFromToIndex_8c36e_9 : decode cJ3_checkFromToIndex_8c36e 9 = .ok (.iload_n 1, 1) := by decide +kernel
theorem dJ3_checkFromToIndex_8c36e_10 : decode cJ3_checkFromToIndex_8c36e 10 = .ok (.iload_n 2, 1) := by decide +kernel
theorem dJ3_checkFromToIndex_8c36e_11 : decode cJ3_checkFromToIndex_8c36e 11 = .ok (.if_icmp .le 11, 3) := by decide +kernel
theorem dJ3_checkFromToIndex_8c36e_14 : decode cJ3_checkFromToIndex_8c36e 14 = .ok (.aload_n 3, 1) := by decide +kernel
theorem dJ3_checkFromToIndex_8c36e_15 : decode cJ3_checkFromToIndex_8c36e 15 = .ok (.iload_n 0, 1) := by decide +kernel
theorem dJ3_checkFromToIndex_8c36e_16 : decode cJ3_checkFromToIndex_8c36e 16 = .ok (.iload_n 1, 1) := by decide +kernel
theorem dJ3_checkFromToIndex_8c36e_17 : decode cJ3_checkFromToIndex_8c36e 17 = .ok (.iload_n 2, 1) := by decide +kernel
theorem dJ3_checkFromToIndex_8c36e_18 : decode cJ3_checkFromToIndex_8c36e 18 = .ok (.invokestatic 99, 3) := by decide +kernel
theorem dJ3_checkFromToIndex_8c36e_21 : decode cJ3_checkFromToIndex_8c36e 21 = .ok (.athrow, 1) := by decide +kernel
theorem dJ3_checkFromToIndex_8c36e_22 : decode cJ3_checkFromToIndex_8c36e 22 = .ok (.iload_n 0, 1) := by decide +kernel
theorem dJ3_checkFromToIndex_8c36e_23 : decode cJ3_checkFromToIndex_8c36e 23 = .ok (.ireturn, 1) := by decide +kernel