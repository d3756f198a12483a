theorem dX11_init_0 : decode cX11_init 0 = .ok (.aload_n 0, 1) := by decide +kernel
theorem dX11_init_1 : decode cX11_init 1 = .ok (.invokespecial 1, 3) := by decide +kernel
theorem dX11_init_4 : decode cX11_init 4 = .ok (.aload_n 0, 1) := by decide +kernel
theorem dX11_init_5 : decode cX11_init 5 = .ok (.new 7, 3) := by decide +kernel
theorem dX11_init_8 : decode cX11_init 8 = .ok (.dup, 1) := by decide +kernel
theorem dX11_init_9 : decode cX11_init 9 = .ok (.invokespecial 9, 3) := by decide +kernel
theorem dX11_init_12 : decode cX11_init 12 = .ok (.putfield 10, 3) := by decide +kernel
theorem dX11_init_15 : decode cX11_init 15 = .ok (.aload_n 0, 1) := by decide +kernel
theorem dX11_init_16 : decode cX11_init 16 = .ok (.aload_n 0, 1) := by decide +kernel
theorem dX11_init_17 : decode cX11_init 17 = .ok (.getfield 10, 3) := by decide +kernel
theorem dX11_init_20 : decode cX11_init 20 = .ok (.getfield 16, 3) := by decide +kernel
theorem dX11_init_23 : decode cX11_init 23 = .ok (.putfield 20, 3) := by decide +kernel
theorem dX11_init_26 : decode cX11_init 26 = .ok (.aload_n 0, 1) := by decide +kernel
theorem dX11_init_27 : decode cX11_init 27 = .ok (.new 7, 3) := by decide +kernel
theorem dX11_init_30 : decode cX11_init 30 = .ok (.dup, 1) := by decide +kernel
theorem dX11_init_31 : decode cX11_init 31 = .ok (.invokespecial 9, 3) := by decide +kernel
theorem dX11_init_34 : decode cX11_init 34 = .ok (.putfield 21, 3) := by decide +kernel
theorem dX11_init_37 : decode cX11_init 37 = .ok (.aload_n 0, 1) := by decide +kernel
theorem dX11_init_38 : decode cX11_init 38 = .ok (.new 24, 3) := by decide +kernel
theorem dX11_init_41 : decode cX11_init 41 = .ok (.dup, 1) := by decide +kernel
theorem dX11_init_42 : decode cX11_init 42 = .ok (.invokespecial 26, 3) := by decide +kernel
theorem dX11_init_45 : decode cX11_init 45 = .ok (.putfield 27, 3) := by decide +kernel
theorem dX11_init_48 : decode cX11_init 48 = .ok (.aload_n 0, 1) := by decide +kernel
theorem dX11_init_49 : decode cX11_init 49 = .ok (.iconst 4, 1) := by decide +kernel
theorem dX11_init_50 : decode cX11_init 50 = .ok (.anewarray 30, 3) := by decide +kernel
theorem dX11_init_53 : decode cX11_init 53 = .ok (.putfield 32, 3) := by decide +kernel
theorem dX11_init_56 : decode cX11_init 56 = .ok (.iconst 0, 1) := by decide +kernel
theorem dX11_init_57 : decode cX11_init 57 = .ok (.istore_n 1, 1) := by decide +kernel
theorem dX11_init_58 : decode cX11_init 58 = .ok (.iload_n 1, 1) := by decide +kernel
theorem dX11_init_59 : decode cX11_init 59 = .ok (.iconst 4, 1) := by decide +kernel
theorem dX11_init_60 : decode cX11_init 60 = .ok (.if_icmp .ge 22, 3) := by decide +kernel
theorem dX11_init_63 : decode cX11_init 63 = .ok (.aload_n 0, 1) := by decide +kernel
theorem dX11_init_64 : decode cX11_init 64 = .ok (.getfield 32, 3) := by decide +kernel
theorem dX11_init_67 : decode cX11_init 67 = .ok (.iload_n 1, 1) := by decide +kernel
theorem dX11_init_68 : decode cX11_init 68 = .ok (.new 30, 3) := by decide +kernel
theorem dX11_init_71 : decode cX11_init 71 = .ok (.dup, 1) := by decide +kernel
theorem dX11_init_72 : decode cX11_init 72 = .ok (.invokespecial 36, 3) := by decide +kernel
theorem dX11_init_75 : decode cX11_init 75 = .ok (.aastore, 1) := by decide +kernel
theorem dX11_init_76 : decode cX11_init 76 = .ok (.iinc 1 1, 3) := by decide +kernel
theorem dX11_init_79 : decode cX11_init 79 = .ok (.goto (-21), 3) := by decide +kernel
theorem dX11_init_82 : decode cX11_init 82 = .ok (.aload_n 0, 1) := by decide +kernel
theorem dX11_init_83 : decode cX11_init 83 = .ok (.sipush 300, 3) := by decide +kernel
theorem dX11_init_86 : decode cX11_init 86 = .ok (.newarray .int, 2) := by decide +kernel
theorem dX11_init_88 : decode cX11_init 88 = .ok (.putfield 37, 3) := by decide +kernel
theorem dX11_init_91 : decode cX11_init 91 = .ok (.aload_n 0, 1) := by decide +kernel
theorem dX11_init_92 : decode cX11_init 92 = .ok (.new 41, 3) := by decide +kernel
theorem dX11_init_95 : decode cX11_init 95 = .ok (.dup, 1) := by decide +kernel
theorem dX11_init_96 : decode cX11_init 96 = .ok (.aload_n 0, 1) := by decide +kernel
theorem dX11_init_97 : decode cX11_init 97 = .ok (.getfield 37, 3) := by decide +kernel
theorem dX11_init_100 : decode cX11_init 100 = .ok (.invokespecial 43, 3) := by decide +kernel
theorem dX11_init_103 : decode cX11_init 103 = .ok (.putfield 46, 3) := by decide +kernel
theorem dX11_init_106 : decode cX11_init 106 = .ok (.aload_n 0, 1) := by decide +kernel
theorem dX11_init_107 : decode cX11_init 107 = .ok (.new 50, 3) := by decide +kernel
theorem dX11_init_110 : decode cX11_init 110 = .ok (.dup, 1) := by decide +kernel
theorem dX11_init_111 : decode cX11_init 111 = .ok (.aload_n 0, 1) := by decide +kernel
theorem dX11_init_112 : decode cX11_init 112 = .ok (.getfield 10, 3) := by decide +kernel
theorem dX11_init_115 : decode cX11_init 115 = .ok (.invokespecial 52, 3) := by decide +kernel
theorem dX11_init_118 : decode cX11_init 118 = .ok (.putfield 55, 3) := by decide +kernel
theorem dX11_init_121 : decode cX11_init 121 = .ok (.aload_n 0, 1) := by decide +kernel
theorem dX11_init_122 : decode cX11_init 122 = .ok (.new 59, 3) := by decide +kernel
theorem dX11_init_125 : decode cX11_init 125 = .ok (.dup, 1) := by decide +kernel
theorem dX11_init_126 : decode cX11_init 126 = .ok (.aload_n 0, 1) := by decide +kernel
theorem dX11_init_127 : decode cX11_init 127 = .ok (.getfield 10, 3) := by decide +kernel
theorem dX11_init_130 : decode cX11_init 130 = .ok (.aload_n 0, 1) := by decide +kernel
theorem dX11_init_131 : decode cX11_init 131 = .ok (.getfield 55, 3) := by decide +kernel
theorem dX11_init_134 : decode cX11_init 134 = .ok (.invokespecial 61, 3) := by decide +kernel
theorem dX11_init_137 : decode cX11_init 137 = .ok (.putfield 64, 3) := by decide +kernel
theorem dX11_init_140 : decode cX11_init 140 = .ok (.aload_n 0, 1) := by decide +kernel
theorem dX11_init_141 : decode cX11_init 141 = .ok (.new 68, 3) := by decide +kernel
theorem dX11_init_144 : decode cX11_init 144 = .ok (.dup, 1) := by decide +kernel
theorem dX11_init_145 : decode cX11_init 145 = .ok (.aload_n 0, 1) := by decide +kernel
theorem dX11_init_146 : decode cX11_init 146 = .ok (.getfield 10, 3) := by decide +kernel
theorem dX11_init_149 : decode cX11_init 149 = .ok (.invokespecial 70, 3) := by decide +kernel
theorem dX11_init_152 : decode cX11_init 152 = .ok (.putfield 71, 3) := by decide +kernel
theorem dX11_init_155 : decode cX11_init 155 = .ok (.aload_n 0, 1) := by decide +kernel
theorem dX11_init_156 : decode cX11_init 156 = .ok (.new 75, 3) := by decide +kernel
theorem dX11_init_159 : decode cX11_init 159 = .ok (.dup, 1) := by decide +kernel
theorem dX11_init_160 : decode cX11_init 160 = .ok (.aload_n 0, 1) := by decide +kernel
theorem dX11_init_161 : decode cX11_init 161 = .ok (.getfield 10, 3) := by decide +kernel
theorem dX11_init_164 : decode cX11_init 164 = .ok (.invokespecial 77, 3) := by decide +kernel
theorem dX11_init_167 : decode cX11_init 167 = .ok (.putfield 78, 3) := by decide +kernel
theorem dX11_init_170 : decode cX11_init 170 = .ok (.aload_n 0, 1) := by decide +kernel
theorem dX11_init_171 : decode cX11_init 171 = .ok (.new 82, 3) := by decide +kernel
theorem dX11_init_174 : decode cX11_init 174 = .ok (.dup, 1) := by decide +kernel
theorem dX11_init_175 : decode cX11_init 175 = .ok (.aload_n 0, 1) := by decide +kernel
theorem dX11_init_176 : decode cX11_init 176 = .ok (.getfield 10, 3) := by decide +kernel
theorem dX11_init_179 : decode cX11_init 179 = .ok (.invokespecial 84, 3) := by decide +kernel
theorem dX11_init_182 : decode cX11_init 182 = .ok (.putfield 85, 3) := by decide +kernel
theorem dX11_init_185 : decode cX11_init 185 = .ok (.aload_n 0, 1) := by decide +kernel
theorem dX11_init_186 : decode cX11_init 186 = .ok (.new 89, 3) := by decide +kernel
theorem dX11_init_189 : decode cX11_init 189 = .ok (.dup, 1) := by decide +kernel
theorem dX11_init_190 : decode cX11_init 190 = .ok (.aload_n 0, 1) := by decide +kernel
theorem dX11_init_191 : decode cX11_init 191 = .ok (.getfield 55, 3) := by decide +kernel
theorem dX11_init_194 : decode cX11_init 194 = .ok (.invokespecial 91, 3) := by decide +kernel
theorem dX11_init_197 : decode cX11_init 197 = .ok (.putfield 94, 3) := by decide +kernel
theorem dX11_init_200 : decode cX11_init 200 = .ok (.aload_n 0, 1) := by decide +kernel
theorem dX11_init_201 : decode cX11_init 201 = .ok (.iconst (-1), 1) := by decide +kernel
theorem dX11_init_202 : decode cX11_init 202 = .ok (.putfield 98, 3) := by decide +kernel
theorem dX11_init_205 : decode cX11_init 205 = .ok (.return_, 1) := by decide +kernel
theorem dX11_name_0 : decode cX11_name 0 = .ok (.iload_n 1, 1) := by decide +kernel
theorem dX11_name_1 : decode cX11_name 1 = .ok (.invokestatic 102, 3) := by decide +kernel
theorem dX11_name_4 : decode cX11_name 4 = .ok (.istore_n 3, 1) := by decide +kernel
theorem dX11_name_5 : decode cX11_name 5 = .ok (.aload_n 0, 1) := by decide +kernel
theorem dX11_name_6 : decode cX11_name 6 = .ok (.getfield 20, 3) := by decide +kernel
theorem dX11_name_9 : decode cX11_name 9 = .ok (.getfield 106, 3) := by decide +kernel
theorem dX11_name_12 : decode cX11_name 12 = .ok (.istore 4, 2) := by decide +kernel
theorem dX11_name_14 : decode cX11_name 14 = .ok (.iload_n 3, 1) := by decide +kernel
theorem dX11_name_15 : decode cX11_name 15 = .ok (.ifCond .eq 25, 3) := by decide +kernel
theorem dX11_name_18 : decode cX11_name 18 = .ok (.iload_n 2, 1) := by decide +kernel
theorem dX11_name_19 : decode cX11_name 19 = .ok (.ifCond .lt 21, 3) := by decide +kernel
theorem dX11_name_22 : decode cX11_name 22 = .ok (.iload_n 2, 1) := by decide +kernel
theorem dX11_name_23 : decode cX11_name 23 = .ok (.bipush 10, 2) := by decide +kernel
theorem dX11_name_25 : decode cX11_name 25 = .ok (.if_icmp .ge 15, 3) := by decide +kernel
theorem dX11_name_28 : decode cX11_name 28 = .ok (.iload 4, 2) := by decide +kernel
theorem dX11_name_30 : decode cX11_name 30 = .ok (.ifCond .lt 10, 3) := by decide +kernel
theorem dX11_name_33 : decode cX11_name 33 = .ok (.iload 4, 2) := by decide +kernel
theorem dX11_name_35 : decode cX11_name 35 = .ok (.bipush 6, 2) := by decide +kernel
theorem dX11_name_37 : decode cX11_name 37 = .ok (.if_icmp .lt 5, 3) := by decide +kernel
theorem dX11_name_40 : decode cX11_name 40 = .ok (.iconst (-1), 1) := by decide +kernel
theorem dX11_name_41 : decode cX11_name 41 = .ok (.ireturn, 1) := by decide +kernel
theorem dX11_name_42 : decode cX11_name 42 = .ok (.aload_n 0, 1) := by decide +kernel
theorem dX11_name_43 : decode cX11_name 43 = .ok (.getfield 10, 3) := by decide +kernel
theorem dX11_name_46 : decode cX11_name 46 = .ok (.getfield 109, 3) := by decide +kernel
theorem dX11_name_49 : decode cX11_name 49 = .ok (.iload 4, 2) := by decide +kernel
theorem dX11_name_51 : decode cX11_name 51 = .ok (.iload_n 1, 1) := by decide +kernel
theorem dX11_name_52 : decode cX11_name 52 = .ok (.iastore, 1) := by decide +kernel
theorem dX11_name_53 : decode cX11_name 53 = .ok (.aload_n 0, 1) := by decide +kernel
theorem dX11_name_54 : decode cX11_name 54 = .ok (.getfield 10, 3) := by decide +kernel
theorem dX11_name_57 : decode cX11_name 57 = .ok (.getfield 112, 3) := by decide +kernel
theorem dX11_name_60 : decode cX11_name 60 = .ok (.iload 4, 2) := by decide +kernel
theorem dX11_name_62 : decode cX11_name 62 = .ok (.iload_n 2, 1) := by decide +kernel
theorem dX11_name_63 : decode cX11_name 63 = .ok (.iastore, 1) := by decide +kernel
theorem dX11_name_64 : decode cX11_name 64 = .ok (.aload_n 0, 1) := by decide +kernel
theorem dX11_name_65 : decode cX11_name 65 = .ok (.getfield 20, 3) := by decide +kernel
theorem dX11_name_68 : decode cX11_name 68 = .ok (.getfield 115, 3) := by decide +kernel
theorem dX11_name_71 : decode cX11_name 71 = .ok (.iload 4, 2) := by decide +kernel
theorem dX11_name_73 : decode cX11_name 73 = .ok (.iconst (-1), 1) := by decide +kernel
theorem dX11_name_74 : decode cX11_name 74 = .ok (.iastore, 1) := by decide +kernel
theorem dX11_name_75 : decode cX11_name 75 = .ok (.aload_n 0, 1) := by decide +kernel
theorem dX11_name_76 : decode cX11_name 76 = .ok (.getfield 20, 3) := by decide +kernel
theorem dX11_name_79 : decode cX11_name 79 = .ok (.getfield 118, 3) := by decide +kernel
theorem dX11_name_82 : decode cX11_name 82 = .ok (.iload 4, 2) := by decide +kernel
theorem dX11_name_84 : decode cX11_name 84 = .ok (.iload_n 3, 1) := by decide +kernel
theorem dX11_name_85 : decode cX11_name 85 = .ok (.iastore, 1) := by decide +kernel
theorem dX11_name_86 : decode cX11_name 86 = .ok (.aload_n 0, 1) := by decide +kernel
theorem dX11_name_87 : decode cX11_name 87 = .ok (.getfield 20, 3) := by decide +kernel
theorem dX11_name_90 : decode cX11_name 90 = .ok (.dup, 1) := by decide +kernel
theorem dX11_name_91 : decode cX11_name 91 = .ok (.getfield 106, 3) := by decide +kernel
theorem dX11_name_94 : decode cX11_name 94 = .ok (.iconst 1, 1) := by decide +kernel
theorem dX11_name_95 : decode cX11_name 95 = .ok (.iadd, 1) := by decide +kernel
theorem dX11_name_96 : decode cX11_name 96 = .ok (.putfield 106, 3) := by decide +kernel
theorem dX11_name_99 : decode cX11_name 99 = .ok (.iload 4, 2) := by decide +kernel
theorem dX11_name_101 : decode cX11_name 101 = .ok (.ireturn, 1) := by decide +kernel
theorem dX11_family_0 : decode cX11_family 0 = .ok (.aload_n 0, 1) := by decide +kernel
theorem dX11_family_1 : decode cX11_family 1 = .ok (.getfield 20, 3) := by decide +kernel
theorem dX11_family_4 : decode cX11_family 4 = .ok (.getfield 121, 3) := by decide +kernel
theorem dX11_family_7 : decode cX11_family 7 = .ok (.istore_n 3, 1) := by decide +kernel
theorem dX11_family_8 : decode cX11_family 8 = .ok (.iload_n 1, 1) := by decide +kernel
theorem dX11_family_9 : decode cX11_family 9 = .ok (.iconst 1, 1) := by decide +kernel
theorem dX11_family_10 : decode cX11_family 10 = .ok (.if_icmp .lt 25, 3) := by decide +kernel
theorem dX11_family_13 : decode cX11_family 13 = .ok (.iload_n 1, 1) := by decide +kernel
theorem dX11_family_14 : decode cX11_family 14 = .ok (.bipush 9, 2) := by decide +kernel
theorem dX11_family_16 : decode cX11_family 16 = .ok (.if_icmp .gt 19, 3) := by decide +kernel
theorem dX11_family_19 : decode cX11_family 19 = .ok (.iload_n 2, 1) := by decide +kernel
theorem dX11_family_20 : decode cX11_family 20 = .ok (.invokestatic 124, 3) := by decide +kernel
theorem dX11_family_23 : decode cX11_family 23 = .ok (.ifCond .eq 12, 3) := by decide +kernel
theorem dX11_family_26 : decode cX11_family 26 = .ok (.iload_n 3, 1) := by decide +kernel
theorem dX11_family_27 : decode cX11_family 27 = .ok (.ifCond .lt 8, 3) := by decide +kernel
theorem dX11_family_30 : decode cX11_family 30 = .ok (.iload_n 3, 1) := by decide +kernel
theorem dX11_family_31 : decode cX11_family 31 = .ok (.iconst 5, 1) := by decide +kernel
theorem dX11_family_32 : decode cX11_family 32 = .ok (.if_icmp .lt 5, 3) := by decide +kernel
theorem dX11_family_35 : decode cX11_family 35 = .ok (.iconst (-1), 1) := by decide +kernel
theorem dX11_family_36 : decode cX11_family 36 = .ok (.ireturn, 1) := by decide +kernel
theorem dX11_family_37 : decode cX11_family 37 = .ok (.aload_n 0, 1) := by decide +kernel
theorem dX11_family_38 : decode cX11_family 38 = .ok (.getfield 10, 3) := by decide +kernel
theorem dX11_family_41 : decode cX11_family 41 = .ok (.getfield 128, 3) := by decide +kernel
theorem dX11_family_44 : decode cX11_family 44 = .ok (.iload_n 3, 1) := by decide +kernel
theorem dX11_family_45 : decode cX11_family 45 = .ok (.iload_n 1, 1) := by decide +kernel
theorem dX11_family_46 : decode cX11_family 46 = .ok (.iastore, 1) := by decide +kernel
theorem dX11_family_47 : decode cX11_family 47 = .ok (.aload_n 0, 1) := by decide +kernel
theorem dX11_family_48 : decode cX11_family 48 = .ok (.getfield 10, 3) := by decide +kernel
theorem dX11_family_51 : decode cX11_family 51 = .ok (.getfield 131, 3) := by decide +kernel
theorem dX11_family_54 : decode cX11_family 54 = .ok (.iload_n 3, 1) := by decide +kernel
theorem dX11_family_55 : decode cX11_family 55 = .ok (.iload_n 2, 1) := by decide +kernel
theorem dX11_family_56 : decode cX11_family 56 = .ok (.iastore, 1) := by decide +kernel
theorem dX11_family_57 : decode cX11_family 57 = .ok (.aload_n 0, 1) := by decide +kernel
theorem dX11_family_58 : decode cX11_family 58 = .ok (.getfield 20, 3) := by decide +kernel
theorem dX11_family_61 : decode cX11_family 61 = .ok (.getfield 134, 3) := by decide +kernel
theorem dX11_family_64 : decode cX11_family 64 = .ok (.iload_n 3, 1) := by decide +kernel
theorem dX11_family_65 : decode cX11_family 65 = .ok (.iload_n 2, 1) := by decide +kernel
theorem dX11_family_66 : decode cX11_family 66 = .ok (.iastore, 1) := by decide +kernel
theorem dX11_family_67 : decode cX11_family 67 = .ok (.aload_n 0, 1) := by decide +kernel
theorem dX11_family_68 : decode cX11_family 68 = .ok (.getfield 20, 3) := by decide +kernel
theorem dX11_family_71 : decode cX11_family 71 = .ok (.dup, 1) := by decide +kernel
theorem dX11_family_72 : decode cX11_family 72 = .ok (.getfield 121, 3) := by decide +kernel
theorem dX11_family_75 : decode cX11_family 75 = .ok (.iconst 1, 1) := by decide +kernel
theorem dX11_family_76 : decode cX11_family 76 = .ok (.iadd, 1) := by decide +kernel
theorem dX11_family_77 : decode cX11_family 77 = .ok (.putfield 121, 3) := by decide +kernel
theorem dX11_family_80 : decode cX11_family 80 = .ok (.iload_n 3, 1) := by decide +kernel
theorem dX11_family_81 : decode cX11_family 81 = .ok (.ireturn, 1) := by decide +kernel
theorem dX11_eddy_0 : decode cX11_eddy 0 = .ok (.iload_n 1, 1) := by decide +kernel
theorem dX11_eddy_1 : decode cX11_eddy 1 = .ok (.invokestatic 124, 3) := by decide +kernel
theorem dX11_eddy_4 : decode cX11_eddy 4 = .ok (.ifCond .ne 5, 3) := by decide +kernel
theorem dX11_eddy_7 : decode cX11_eddy 7 = .ok (.iconst 0, 1) := by decide +kernel
theorem dX11_eddy_8 : decode cX11_eddy 8 = .ok (.ireturn, 1) := by decide +kernel
theorem dX11_eddy_9 : decode cX11_eddy 9 = .ok (.aload_n 0, 1) := by decide +kernel
theorem dX11_eddy_10 : decode cX11_eddy 10 = .ok (.getfield 10, 3) := by decide +kernel
theorem dX11_eddy_13 : decode cX11_eddy 13 = .ok (.iload_n 2, 1) := by decide +kernel
theorem dX11_eddy_14 : decode cX11_eddy 14 = .ok (.ifCond .eq 17, 3) := by decide +kernel
theorem dX11_eddy_17 : decode cX11_eddy 17 = .ok (.aload_n 0, 1) := by decide +kernel
theorem dX11_eddy_18 : decode cX11_eddy 18 = .ok (.getfield 10, 3) := by decide +kernel
theorem dX11_eddy_21 : decode cX11_eddy 21 = .ok (.getfield 137, 3) := by decide +kernel
theorem dX11_eddy_24 : decode cX11_eddy 24 = .ok (.iconst 1, 1) := by decide +kernel
theorem dX11_eddy_25 : decode cX11_eddy 25 = .ok (.iload_n 1, 1) := by decide +kernel
theorem dX11_eddy_26 : decode cX11_eddy 26 = .ok (.ishl, 1) := by decide +kernel
theorem dX11_eddy_27 : decode cX11_eddy 27 = .ok (.ior, 1) := by decide +kernel
theorem dX11_eddy_28 : decode cX11_eddy 28 = .ok (.goto 16, 3) := by decide +kernel
theorem dX11_eddy_31 : decode cX11_eddy 31 = .ok (.aload_n 0, 1) := by decide +kernel
theorem dX11_eddy_32 : decode cX11_eddy 32 = .ok (.getfield 10, 3) := by decide +kernel
theorem dX11_eddy_35 : decode cX11_eddy 35 = .ok (.getfield 137, 3) := by decide +kernel
theorem dX11_eddy_38 : decode cX11_eddy 38 = .ok (.iconst 1, 1) := by decide +kernel
theorem dX11_eddy_39 : decode cX11_eddy 39 = .ok (.iload_n 1, 1) := by decide +kernel
theorem dX11_eddy_40 : decode cX11_eddy 40 = .ok (.ishl, 1) := by decide +kernel
theorem dX11_eddy_41 : decode cX11_eddy 41 = .ok (.iconst (-1), 1) := by decide +kernel
theorem dX11_eddy_42 : decode cX11_eddy 42 = .ok (.ixor, 1) := by decide +kernel
theorem dX11_eddy_43 : decode cX11_eddy 43 = .ok (.iand, 1) := by decide +kernel
theorem dX11_eddy_44 : decode cX11_eddy 44 = .ok (.putfield 137, 3) := by decide +kernel
theorem dX11_eddy_47 : decode cX11_eddy 47 = .ok (.iconst 1, 1) := by decide +kernel
theorem dX11_eddy_48 : decode cX11_eddy 48 = .ok (.ireturn, 1) := by decide +kernel
theorem dX11_feed_0 : decode cX11_feed 0 = .ok (.aload_n 0, 1) := by decide +kernel
theorem dX11_feed_1 : decode cX11_feed 1 = .ok (.getfield 140, 3) := by decide +kernel
theorem dX11_feed_4 : decode cX11_feed 4 = .ok (.bipush 20, 2) := by decide +kernel
theorem dX11_feed_6 : decode cX11_feed 6 = .ok (.iadd, 1) := by decide +kernel
theorem dX11_feed_7 : decode cX11_feed 7 = .ok (.sipush 300, 3) := by decide +kernel
theorem dX11_feed_10 : decode cX11_feed 10 = .ok (.if_icmp .le 5, 3) := by decide +kernel
theorem dX11_feed_13 : decode cX11_feed 13 = .ok (.iconst (-1), 1) := by decide +kernel
theorem dX11_feed_14 : decode cX11_feed 14 = .ok (.ireturn, 1) := by decide +kernel
theorem dX11_feed_15 : decode cX11_feed 15 = .ok (.aload_n 0, 1) := by decide +kernel
theorem dX11_feed_16 : decode cX11_feed 16 = .ok (.iload_n 1, 1) := by decide +kernel
theorem dX11_feed_17 : decode cX11_feed 17 = .ok (.invokevirtual 143, 3) := by decide +kernel
theorem dX11_feed_20 : decode cX11_feed 20 = .ok (.aload_n 0, 1) := by decide +kernel
theorem dX11_feed_21 : decode cX11_feed 21 = .ok (.iload_n 2, 1) := by decide +kernel
theorem dX11_feed_22 : decode cX11_feed 22 = .ok (.invokevirtual 143, 3) := by decide +kernel
theorem dX11_feed_25 : decode cX11_feed 25 = .ok (.aload_n 0, 1) := by decide +kernel
theorem dX11_feed_26 : decode cX11_feed 26 = .ok (.iload_n 3, 1) := by decide +kernel
theorem dX11_feed_27 : decode cX11_feed 27 = .ok (.invokevirtual 143, 3) := by decide +kernel
theorem dX11_feed_30 : decode cX11_feed 30 = .ok (.aload_n 0, 1) := by decide +kernel
theorem dX11_feed_31 : decode cX11_feed 31 = .ok (.iload 4, 2) := by decide +kernel
theorem dX11_feed_33 : decode cX11_feed 33 = .ok (.invokevirtual 143, 3) := by decide +kernel
theorem dX11_feed_36 : decode cX11_feed 36 = .ok (.aload_n 0, 1) := by decide +kernel
theorem dX11_feed_37 : decode cX11_feed 37 = .ok (.iload 5, 2) := by decide +kernel
theorem dX11_feed_39 : decode cX11_feed 39 = .ok (.invokevirtual 143, 3) := by decide +kernel
theorem dX11_feed_42 : decode cX11_feed 42 = .ok (.aload_n 0, 1) := by decide +kernel
theorem dX11_feed_43 : decode cX11_feed 43 = .ok (.getfield 140, 3) := by decide +kernel
theorem dX11_feed_46 : decode cX11_feed 46 = .ok (.ireturn, 1) := by decide +kernel
theorem dX11_end_0 : decode cX11_end 0 = .ok (.iload_n 1, 1) := by decide +kernel
theorem dX11_end_1 : decode cX11_end 1 = .ok (.ifCond .lt 11, 3) := by decide +kernel
theorem dX11_end_4 : decode cX11_end 4 = .ok (.iload_n 1, 1) := by decide +kernel
theorem dX11_end_5 : decode cX11_end 5 = .ok (.aload_n 0, 1) := by decide +kernel
theorem dX11_end_6 : decode cX11_end 6 = .ok (.getfield 140, 3) := by decide +kernel
theorem dX11_end_9 : decode cX11_end 9 = .ok (.if_icmp .le 5, 3) := by decide +kernel
theorem dX11_end_12 : decode cX11_end 12 = .ok (.iconst (-1), 1) := by decide +kernel
theorem dX11_end_13 : decode cX11_end 13 = .ok (.ireturn, 1) := by decide +kernel
theorem dX11_end_14 : decode cX11_end 14 = .ok (.aload_n 0, 1) := by decide +kernel
theorem dX11_end_15 : decode cX11_end 15 = .ok (.iload_n 1, 1) := by decide +kernel
theorem dX11_end_16 : decode cX11_end 16 = .ok (.putfield 140, 3) := by decide +kernel
theorem dX11_end_19 : decode cX11_end 19 = .ok (.iload_n 1, 1) := by decide +kernel
theorem dX11_end_20 : decode cX11_end 20 = .ok (.ireturn, 1) := by decide +kernel
theorem dX11_text_0 : decode cX11_text 0 = .ok (.aload_n 0, 1) := by decide +kernel
theorem dX11_text_1 : decode cX11_text 1 = .ok (.getfield 10, 3) := by decide +kernel
theorem dX11_text_4 : decode cX11_text 4 = .ok (.getfield 147, 3) := by decide +kernel
theorem dX11_text_7 : decode cX11_text 7 = .ok (.istore_n 1, 1) := by decide +kernel
theorem dX11_text_8 : decode cX11_text 8 = .ok (.iload_n 1, 1) := by decide +kernel
theorem dX11_text_9 : decode cX11_text 9 = .ok (.ifCond .lt 8, 3) := by decide +kernel
theorem dX11_text_12 : decode cX11_text 12 = .ok (.iload_n 1, 1) := by decide +kernel
theorem dX11_text_13 : decode cX11_text 13 = .ok (.iconst 4, 1) := by decide +kernel
theorem dX11_text_14 : decode cX11_text 14 = .ok (.if_icmp .lt 5, 3) := by decide +kernel
theorem dX11_text_17 : decode cX11_text 17 = .ok (.iconst (-1), 1) := by decide +kernel
theorem dX11_text_18 : decode cX11_text 18 = .ok (.ireturn, 1) := by decide +kernel
theorem dX11_text_19 : decode cX11_text 19 = .ok (.aload_n 0, 1) := by decide +kernel
theorem dX11_text_20 : decode cX11_text 20 = .ok (.getfield 32, 3) := by decide +kernel
theorem dX11_text_23 : decode cX11_text 23 = .ok (.iload_n 1, 1) := by decide +kernel
theorem dX11_text_24 : decode cX11_text 24 = .ok (.aaload, 1) := by decide +kernel
theorem dX11_text_25 : decode cX11_text 25 = .ok (.astore_n 2, 1) := by decide +kernel
theorem dX11_text_26 : decode cX11_text 26 = .ok (.aload_n 2, 1) := by decide +kernel
theorem dX11_text_27 : decode cX11_text 27 = .ok (.ifnonnull 5, 3) := by decide +kernel
theorem dX11_text_30 : decode cX11_text 30 = .ok (.iconst (-1), 1) := by decide +kernel
theorem dX11_text_31 : decode cX11_text 31 = .ok (.ireturn, 1) := by decide +kernel
theorem dX11_text_32 : decode cX11_text 32 = .ok (.aload_n 0, 1) := by decide +kernel
theorem dX11_text_33 : decode cX11_text 33 = .ok (.getfield 46, 3) := by decide +kernel
theorem dX11_text_36 : decode cX11_text 36 = .ok (.aload_n 2, 1) := by decide +kernel
theorem dX11_text_37 : decode cX11_text 37 = .ok (.aload_n 0, 1) := by decide +kernel
theorem dX11_text_38 : decode cX11_text 38 = .ok (.getfield 140, 3) := by decide +kernel
theorem dX11_text_41 : decode cX11_text 41 = .ok (.invokevirtual 149, 3) := by decide +kernel
theorem dX11_text_44 : decode cX11_text 44 = .ok (.aload_n 0, 1) := by decide +kernel
theorem dX11_text_45 : decode cX11_text 45 = .ok (.iconst 0, 1) := by decide +kernel
theorem dX11_text_46 : decode cX11_text 46 = .ok (.putfield 140, 3) := by decide +kernel
theorem dX11_text_49 : decode cX11_text 49 = .ok (.aload_n 0, 1) := by decide +kernel
theorem dX11_text_50 : decode cX11_text 50 = .ok (.iconst 1, 1) := by decide +kernel
theorem dX11_text_51 : decode cX11_text 51 = .ok (.putfield 153, 3) := by decide +kernel
theorem dX11_text_54 : decode cX11_text 54 = .ok (.aload_n 0, 1) := by decide +kernel
theorem dX11_text_55 : decode cX11_text 55 = .ok (.aload_n 0, 1) := by decide +kernel
theorem dX11_text_56 : decode cX11_text 56 = .ok (.getfield 46, 3) := by decide +kernel
theorem dX11_text_59 : decode cX11_text 59 = .ok (.getfield 157, 3) := by decide +kernel
theorem dX11_text_62 : decode cX11_text 62 = .ok (.putfield 160, 3) := by decide +kernel
theorem dX11_text_65 : decode cX11_text 65 = .ok (.aload_n 0, 1) := by decide +kernel
theorem dX11_text_66 : decode cX11_text 66 = .ok (.aload_n 0, 1) := by decide +kernel
theorem dX11_text_67 : decode cX11_text 67 = .ok (.getfield 46, 3) := by decide +kernel
theorem dX11_text_70 : decode cX11_text 70 = .ok (.getfield 163, 3) := by decide +kernel
theorem dX11_text_73 : decode cX11_text 73 = .ok (.putfield 98, 3) := by decide +kernel
theorem dX11_text_76 : decode cX11_text 76 = .ok (.aload_n 0, 1) := by decide +kernel
theorem dX11_text_77 : decode cX11_text 77 = .ok (.getfield 160, 3) := by decide +kernel
theorem dX11_text_80 : decode cX11_text 80 = .ok (.ifCond .eq 5, 3) := by decide +kernel
theorem dX11_text_83 : decode cX11_text 83 = .ok (.iconst (-1), 1) := by decide +kernel
theorem dX11_text_84 : decode cX11_text 84 = .ok (.ireturn, 1) := by decide +kernel
theorem dX11_text_85 : decode cX11_text 85 = .ok (.aload_n 0, 1) := by decide +kernel
theorem dX11_text_86 : decode cX11_text 86 = .ok (.getfield 10, 3) := by decide +kernel
theorem dX11_text_89 : decode cX11_text 89 = .ok (.dup, 1) := by decide +kernel
theorem dX11_text_90 : decode cX11_text 90 = .ok (.getfield 147, 3) := by decide +kernel
theorem dX11_text_93 : decode cX11_text 93 = .ok (.iconst 1, 1) := by decide +kernel
theorem dX11_text_94 : decode cX11_text 94 = .ok (.iadd, 1) := by decide +kernel
theorem dX11_text_95 : decode cX11_text 95 = .ok (.putfield 147, 3) := by decide +kernel
theorem dX11_text_98 : decode cX11_text 98 = .ok (.iload_n 1, 1) := by decide +kernel
theorem dX11_text_99 : decode cX11_text 99 = .ok (.ireturn, 1) := by decide +kernel
theorem dX11_fault_0 : decode cX11_fault 0 = .ok (.aload_n 0, 1) := by decide +kernel
theorem dX11_fault_1 : decode cX11_fault 1 = .ok (.getfield 153, 3) := by decide +kernel
theorem dX11_fault_4 : decode cX11_fault 4 = .ok (.ifCond .ne 5, 3) := by decide +kernel
theorem dX11_fault_7 : decode cX11_fault 7 = .ok (.iconst (-1), 1) := by decide +kernel
theorem dX11_fault_8 : decode cX11_fault 8 = .ok (.ireturn, 1) := by decide +kernel
theorem dX11_fault_9 : decode cX11_fault 9 = .ok (.iload_n 1, 1) := by decide +kernel
theorem dX11_fault_10 : decode cX11_fault 10 = .ok (.ifCond .ne 8, 3) := by decide +kernel
theorem dX11_fault_13 : decode cX11_fault 13 = .ok (.aload_n 0, 1) := by decide +kernel
theorem dX11_fault_14 : decode cX11_fault 14 = .ok (.getfield 160, 3) := by decide +kernel
theorem dX11_fault_17 : decode cX11_fault 17 = .ok (.ireturn, 1) := by decide +kernel
theorem dX11_fault_18 : decode cX11_fault 18 = .ok (.iload_n 1, 1) := by decide +kernel
theorem dX11_fault_19 : decode cX11_fault 19 = .ok (.iconst 1, 1) := by decide +kernel
theorem dX11_fault_20 : decode cX11_fault 20 = .ok (.if_icmp .ne 10, 3) := by decide +kernel
theorem dX11_fault_23 : decode cX11_fault 23 = .ok (.aload_n 0, 1) := by decide +kernel
theorem dX11_fault_24 : decode cX11_fault 24 = .ok (.getfield 98, 3) := by decide +kernel
theorem dX11_fault_27 : decode cX11_fault 27 = .ok (.goto 4, 3) := by decide +kernel
theorem dX11_fault_30 : decode cX11_fault 30 = .ok (.iconst (-1), 1) := by decide +kernel
theorem dX11_fault_31 : decode cX11_fault 31 = .ok (.ireturn, 1) := by decide +kernel
theorem dX11_by_0 : decode cX11_by 0 = .ok (.iload_n 1, 1) := by decide +kernel
theorem dX11_by_1 : decode cX11_by 1 = .ok (.iconst (-1), 1) := by decide +kernel
theorem dX11_by_2 : decode cX11_by 2 = .ok (.if_icmp .eq 13, 3) := by decide +kernel
theorem dX11_by_5 : decode cX11_by 5 = .ok (.aload_n 0, 1) := by decide +kernel
theorem dX11_by_6 : decode cX11_by 6 = .ok (.iload_n 1, 1) := by decide +kernel
theorem dX11_by_7 : decode cX11_by 7 = .ok (.invokevirtual 166, 3) := by decide +kernel
theorem dX11_by_10 : decode cX11_by 10 = .ok (.ifCond .ne 5, 3) := by decide +kernel
theorem dX11_by_13 : decode cX11_by 13 = .ok (.iconst 0, 1) := by decide +kernel
theorem dX11_by_14 : decode cX11_by 14 = .ok (.ireturn, 1) := by decide +kernel
theorem dX11_by_15 : decode cX11_by 15 = .ok (.aload_n 0, 1) := by decide +kernel
theorem dX11_by_16 : decode cX11_by 16 = .ok (.getfield 10, 3) := by decide +kernel
theorem dX11_by_19 : decode cX11_by 19 = .ok (.iload_n 1, 1) := by decide +kernel
theorem dX11_by_20 : decode cX11_by 20 = .ok (.putfield 169, 3) := by decide +kernel
theorem dX11_by_23 : decode cX11_by 23 = .ok (.iconst 1, 1) := by decide +kernel
theorem dX11_by_24 : decode cX11_by 24 = .ok (.ireturn, 1) := by decide +kernel
theorem dX11_call_0 : decode cX11_call 0 = .ok (.aload_n 0, 1) := by decide +kernel
theorem dX11_call_1 : decode cX11_call 1 = .ok (.getfield 20, 3) := by decide +kernel
theorem dX11_call_4 : decode cX11_call 4 = .ok (.iload_n 1, 1) := by decide +kernel
theorem dX11_call_5 : decode cX11_call 5 = .ok (.invokevirtual 172, 3) := by decide +kernel
theorem dX11_call_8 : decode cX11_call 8 = .ok (.ifCond .ne 5, 3) := by decide +kernel
theorem dX11_call_11 : decode cX11_call 11 = .ok (.iconst 0, 1) := by decide +kernel
theorem dX11_call_12 : decode cX11_call 12 = .ok (.ireturn, 1) := by decide +kernel
theorem dX11_call_13 : decode cX11_call 13 = .ok (.aload_n 0, 1) := by decide +kernel
theorem dX11_call_14 : decode cX11_call 14 = .ok (.getfield 10, 3) := by decide +kernel
theorem dX11_call_17 : decode cX11_call 17 = .ok (.getfield 175, 3) := by decide +kernel
theorem dX11_call_20 : decode cX11_call 20 = .ok (.aload_n 0, 1) := by decide +kernel
theorem dX11_call_21 : decode cX11_call 21 = .ok (.getfield 20, 3) := by decide +kernel
theorem dX11_call_24 : decode cX11_call 24 = .ok (.invokevirtual 179, 3) := by decide +kernel
theorem dX11_call_27 : decode cX11_call 27 = .ok (.aload_n 0, 1) := by decide +kernel
theorem dX11_call_28 : decode cX11_call 28 = .ok (.getfield 20, 3) := by decide +kernel
theorem dX11_call_31 : decode cX11_call 31 = .ok (.getfield 115, 3) := by decide +kernel
theorem dX11_call_34 : decode cX11_call 34 = .ok (.iload_n 1, 1) := by decide +kernel
theorem dX11_call_35 : decode cX11_call 35 = .ok (.iconst 0, 1) := by decide +kernel
theorem dX11_call_36 : decode cX11_call 36 = .ok (.iastore, 1) := by decide +kernel
theorem dX11_call_37 : decode cX11_call 37 = .ok (.iconst 1, 1) := by decide +kernel
theorem dX11_call_38 : decode cX11_call 38 = .ok (.ireturn, 1) := by decide +kernel
theorem dX11_stone_0 : decode cX11_stone 0 = .ok (.iload_n 1, 1) := by decide +kernel
theorem dX11_stone_1 : decode cX11_stone 1 = .ok (.invokestatic 124, 3) := by decide +kernel
theorem dX11_stone_4 : decode cX11_stone 4 = .ok (.ifCond .eq 18, 3) := by decide +kernel
theorem dX11_stone_7 : decode cX11_stone 7 = .ok (.aload_n 0, 1) := by decide +kernel
theorem dX11_stone_8 : decode cX11_stone 8 = .ok (.getfield 20, 3) := by decide +kernel
theorem dX11_stone_11 : decode cX11_stone 11 = .ok (.getfield 185, 3) := by decide +kernel
theorem dX11_stone_14 : decode cX11_stone 14 = .ok (.iload_n 1, 1) := by decide +kernel
theorem dX11_stone_15 : decode cX11_stone 15 = .ok (.invokestatic 188, 3) := by decide +kernel
theorem dX11_stone_18 : decode cX11_stone 18 = .ok (.iload_n 2, 1) := by decide +kernel
theorem dX11_stone_19 : decode cX11_stone 19 = .ok (.if_icmp .ne 5, 3) := by decide +kernel
theorem dX11_stone_22 : decode cX11_stone 22 = .ok (.iconst 0, 1) := by decide +kernel
theorem dX11_stone_23 : decode cX11_stone 23 = .ok (.ireturn, 1) := by decide +kernel
theorem dX11_stone_24 : decode cX11_stone 24 = .ok (.aload_n 0, 1) := by decide +kernel
theorem dX11_stone_25 : decode cX11_stone 25 = .ok (.getfield 10, 3) := by decide +kernel
theorem dX11_stone_28 : decode cX11_stone 28 = .ok (.getfield 175, 3) := by decide +kernel
theorem dX11_stone_31 : decode cX11_stone 31 = .ok (.aload_n 0, 1) := by decide +kernel
theorem dX11_stone_32 : decode cX11_stone 32 = .ok (.getfield 20, 3) := by decide +kernel
theorem dX11_stone_35 : decode cX11_stone 35 = .ok (.invokevirtual 179, 3) := by decide +kernel
theorem dX11_stone_38 : decode cX11_stone 38 = .ok (.aload_n 0, 1) := by decide +kernel
theorem dX11_stone_39 : decode cX11_stone 39 = .ok (.getfield 20, 3) := by decide +kernel
theorem dX11_stone_42 : decode cX11_stone 42 = .ok (.dup, 1) := by decide +kernel
theorem dX11_stone_43 : decode cX11_stone 43 = .ok (.getfield 185, 3) := by decide +kernel
theorem dX11_stone_46 : decode cX11_stone 46 = .ok (.iconst 1, 1) := by decide +kernel
theorem dX11_stone_47 : decode cX11_stone 47 = .ok (.iload_n 1, 1) := by decide +kernel
theorem dX11_stone_48 : decode cX11_stone 48 = .ok (.ishl, 1) := by decide +kernel
theorem dX11_stone_49 : decode cX11_stone 49 = .ok (.ixor, 1) := by decide +kernel
theorem dX11_stone_50 : decode cX11_stone 50 = .ok (.putfield 185, 3) := by decide +kernel
theorem dX11_stone_53 : decode cX11_stone 53 = .ok (.iconst 1, 1) := by decide +kernel
theorem dX11_stone_54 : decode cX11_stone 54 = .ok (.ireturn, 1) := by decide +kernel
theorem dX11_stand_0 : decode cX11_stand 0 = .ok (.aload_n 0, 1) := by decide +kernel
theorem dX11_stand_1 : decode cX11_stand 1 = .ok (.iload_n 1, 1) := by decide +kernel
theorem dX11_stand_2 : decode cX11_stand 2 = .ok (.invokevirtual 192, 3) := by decide +kernel
theorem dX11_stand_5 : decode cX11_stand 5 = .ok (.ifCond .eq 23, 3) := by decide +kernel
theorem dX11_stand_8 : decode cX11_stand 8 = .ok (.iload_n 2, 1) := by decide +kernel
theorem dX11_stand_9 : decode cX11_stand 9 = .ok (.invokestatic 124, 3) := by decide +kernel
theorem dX11_stand_12 : decode cX11_stand 12 = .ok (.ifCond .eq 16, 3) := by decide +kernel
theorem dX11_stand_15 : decode cX11_stand 15 = .ok (.aload_n 0, 1) := by decide +kernel
theorem dX11_stand_16 : decode cX11_stand 16 = .ok (.getfield 20, 3) := by decide +kernel
theorem dX11_stand_19 : decode cX11_stand 19 = .ok (.getfield 134, 3) := by decide +kernel
theorem dX11_stand_22 : decode cX11_stand 22 = .ok (.iload_n 1, 1) := by decide +kernel
theorem dX11_stand_23 : decode cX11_stand 23 = .ok (.iaload, 1) := by decide +kernel
theorem dX11_stand_24 : decode cX11_stand 24 = .ok (.iload_n 2, 1) := by decide +kernel
theorem dX11_stand_25 : decode cX11_stand 25 = .ok (.if_icmp .ne 5, 3) := by decide +kernel
theorem dX11_stand_28 : decode cX11_stand 28 = .ok (.iconst 0, 1) := by decide +kernel
theorem dX11_stand_29 : decode cX11_stand 29 = .ok (.ireturn, 1) := by decide +kernel
theorem dX11_stand_30 : decode cX11_stand 30 = .ok (.aload_n 0, 1) := by decide +kernel
theorem dX11_stand_31 : decode cX11_stand 31 = .ok (.getfield 10, 3) := by decide +kernel
theorem dX11_stand_34 : decode cX11_stand 34 = .ok (.getfield 175, 3) := by decide +kernel
theorem dX11_stand_37 : decode cX11_stand 37 = .ok (.aload_n 0, 1) := by decide +kernel
theorem dX11_stand_38 : decode cX11_stand 38 = .ok (.getfield 20, 3) := by decide +kernel
theorem dX11_stand_41 : decode cX11_stand 41 = .ok (.invokevirtual 179, 3) := by decide +kernel
theorem dX11_stand_44 : decode cX11_stand 44 = .ok (.aload_n 0, 1) := by decide +kernel
theorem dX11_stand_45 : decode cX11_stand 45 = .ok (.getfield 20, 3) := by decide +kernel
theorem dX11_stand_48 : decode cX11_stand 48 = .ok (.getfield 134, 3) := by decide +kernel
theorem dX11_stand_51 : decode cX11_stand 51 = .ok (.iload_n 1, 1) := by decide +kernel
theorem dX11_stand_52 : decode cX11_stand 52 = .ok (.iload_n 2, 1) := by decide +kernel
theorem dX11_stand_53 : decode cX11_stand 53 = .ok (.iastore, 1) := by decide +kernel
theorem dX11_stand_54 : decode cX11_stand 54 = .ok (.iconst 1, 1) := by decide +kernel
theorem dX11_stand_55 : decode cX11_stand 55 = .ok (.ireturn, 1) := by decide +kernel
theorem dX11_sink_0 : decode cX11_sink 0 = .ok (.aload_n 0, 1) := by decide +kernel
theorem dX11_sink_1 : decode cX11_sink 1 = .ok (.getfield 20, 3) := by decide +kernel
theorem dX11_sink_4 : decode cX11_sink 4 = .ok (.iload_n 1, 1) := by decide +kernel
theorem dX11_sink_5 : decode cX11_sink 5 = .ok (.invokevirtual 195, 3) := by decide +kernel
theorem dX11_sink_8 : decode cX11_sink 8 = .ok (.ifCond .ne 5, 3) := by decide +kernel
theorem dX11_sink_11 : decode cX11_sink 11 = .ok (.iconst 0, 1) := by decide +kernel
theorem dX11_sink_12 : decode cX11_sink 12 = .ok (.ireturn, 1) := by decide +kernel
theorem dX11_sink_13 : decode cX11_sink 13 = .ok (.aload_n 0, 1) := by decide +kernel
theorem dX11_sink_14 : decode cX11_sink 14 = .ok (.getfield 10, 3) := by decide +kernel
theorem dX11_sink_17 : decode cX11_sink 17 = .ok (.getfield 175, 3) := by decide +kernel
theorem dX11_sink_20 : decode cX11_sink 20 = .ok (.aload_n 0, 1) := by decide +kernel
theorem dX11_sink_21 : decode cX11_sink 21 = .ok (.getfield 20, 3) := by decide +kernel
theorem dX11_sink_24 : decode cX11_sink 24 = .ok (.invokevirtual 179, 3) := by decide +kernel
theorem dX11_sink_27 : decode cX11_sink 27 = .ok (.aload_n 0, 1) := by decide +kernel
theorem dX11_sink_28 : decode cX11_sink 28 = .ok (.getfield 20, 3) := by decide +kernel
theorem dX11_sink_31 : decode cX11_sink 31 = .ok (.getfield 115, 3) := by decide +kernel
theorem dX11_sink_34 : decode cX11_sink 34 = .ok (.iload_n 1, 1) := by decide +kernel
theorem dX11_sink_35 : decode cX11_sink 35 = .ok (.iconst 0, 1) := by decide +kernel
theorem dX11_sink_36 : decode cX11_sink 36 = .ok (.iastore, 1) := by decide +kernel
theorem dX11_sink_37 : decode cX11_sink 37 = .ok (.iconst 1, 1) := by decide +kernel
theorem dX11_sink_38 : decode cX11_sink 38 = .ok (.ireturn, 1) := by decide +kernel
theorem dX11_hour_0 : decode cX11_hour 0 = .ok (.iload_n 1, 1) := by decide +kernel
theorem dX11_hour_1 : decode cX11_hour 1 = .ok (.iconst 1, 1) := by decide +kernel
theorem dX11_hour_2 : decode cX11_hour 2 = .ok (.if_icmp .lt 24, 3) := by decide +kernel
theorem dX11_hour_5 : decode cX11_hour 5 = .ok (.iload_n 1, 1) := by decide +kernel
theorem dX11_hour_6 : decode cX11_hour 6 = .ok (.bipush 60, 2) := by decide +kernel
theorem dX11_hour_8 : decode cX11_hour 8 = .ok (.if_icmp .gt 18, 3) := by decide +kernel
theorem dX11_hour_11 : decode cX11_hour 11 = .ok (.iload_n 1, 1) := by decide +kernel
theorem dX11_hour_12 : decode cX11_hour 12 = .ok (.sipush 9999, 3) := by decide +kernel
theorem dX11_hour_15 : decode cX11_hour 15 = .ok (.aload_n 0, 1) := by decide +kernel
theorem dX11_hour_16 : decode cX11_hour 16 = .ok (.getfield 20, 3) := by decide +kernel
theorem dX11_hour_19 : decode cX11_hour 19 = .ok (.getfield 198, 3) := by decide +kernel
theorem dX11_hour_22 : decode cX11_hour 22 = .ok (.isub, 1) := by decide +kernel
theorem dX11_hour_23 : decode cX11_hour 23 = .ok (.if_icmp .le 5, 3) := by decide +kernel
theorem dX11_hour_26 : decode cX11_hour 26 = .ok (.iconst (-1), 1) := by decide +kernel
theorem dX11_hour_27 : decode cX11_hour 27 = .ok (.ireturn, 1) := by decide +kernel
theorem dX11_hour_28 : decode cX11_hour 28 = .ok (.aload_n 0, 1) := by decide +kernel
theorem dX11_hour_29 : decode cX11_hour 29 = .ok (.iload_n 1, 1) := by decide +kernel
theorem dX11_hour_30 : decode cX11_hour 30 = .ok (.invokevirtual 201, 3) := by decide +kernel
theorem dX11_hour_33 : decode cX11_hour 33 = .ok (.ireturn, 1) := by decide +kernel
theorem dX11_played_0 : decode cX11_played 0 = .ok (.aload_n 0, 1) := by decide +kernel
theorem dX11_played_1 : decode cX11_played 1 = .ok (.iload_n 1, 1) := by decide +kernel
theorem dX11_played_2 : decode cX11_played 2 = .ok (.invokevirtual 204, 3) := by decide +kernel
theorem dX11_played_5 : decode cX11_played 5 = .ok (.astore_n 2, 1) := by decide +kernel
theorem dX11_played_6 : decode cX11_played 6 = .ok (.aload_n 2, 1) := by decide +kernel
theorem dX11_played_7 : decode cX11_played 7 = .ok (.ifnonnull 6, 3) := by decide +kernel
theorem dX11_played_10 : decode cX11_played 10 = .ok (.bipush (-2), 2) := by decide +kernel
theorem dX11_played_12 : decode cX11_played 12 = .ok (.ireturn, 1) := by decide +kernel
theorem dX11_played_13 : decode cX11_played 13 = .ok (.iconst 0, 1) := by decide +kernel
theorem dX11_played_14 : decode cX11_played 14 = .ok (.istore_n 3, 1) := by decide +kernel
theorem dX11_played_15 : decode cX11_played 15 = .ok (.iload_n 3, 1) := by decide +kernel
theorem dX11_played_16 : decode cX11_played 16 = .ok (.aload_n 2, 1) := by decide +kernel
theorem dX11_played_17 : decode cX11_played 17 = .ok (.getfield 208, 3) := by decide +kernel
theorem dX11_played_20 : decode cX11_played 20 = .ok (.if_icmp .ge 42, 3) := by decide +kernel
theorem dX11_played_23 : decode cX11_played 23 = .ok (.iload_n 3, 1) := by decide +kernel
theorem dX11_played_24 : decode cX11_played 24 = .ok (.bipush 24, 2) := by decide +kernel
theorem dX11_played_26 : decode cX11_played 26 = .ok (.if_icmp .ge 36, 3) := by decide +kernel
theorem dX11_played_29 : decode cX11_played 29 = .ok (.aload_n 0, 1) := by decide +kernel
theorem dX11_played_30 : decode cX11_played 30 = .ok (.aload_n 2, 1) := by decide +kernel
theorem dX11_played_31 : decode cX11_played 31 = .ok (.getfield 211, 3) := by decide +kernel
theorem dX11_played_34 : decode cX11_played 34 = .ok (.iload_n 3, 1) := by decide +kernel
theorem dX11_played_35 : decode cX11_played 35 = .ok (.iaload, 1) := by decide +kernel
theorem dX11_played_36 : decode cX11_played 36 = .ok (.aload_n 2, 1) := by decide +kernel
theorem dX11_played_37 : decode cX11_played 37 = .ok (.getfield 214, 3) := by decide +kernel
theorem dX11_played_40 : decode cX11_played 40 = .ok (.iload_n 3, 1) := by decide +kernel
theorem dX11_played_41 : decode cX11_played 41 = .ok (.iaload, 1) := by decide +kernel
theorem dX11_played_42 : decode cX11_played 42 = .ok (.aload_n 2, 1) := by decide +kernel
theorem dX11_played_43 : decode cX11_played 43 = .ok (.getfield 217, 3) := by decide +kernel
theorem dX11_played_46 : decode cX11_played 46 = .ok (.iload_n 3, 1) := by decide +kernel
theorem dX11_played_47 : decode cX11_played 47 = .ok (.iaload, 1) := by decide +kernel
theorem dX11_played_48 : decode cX11_played 48 = .ok (.invokevirtual 220, 3) := by decide +kernel
theorem dX11_played_51 : decode cX11_played 51 = .ok (.ifCond .ne 5, 3) := by decide +kernel
theorem dX11_played_54 : decode cX11_played 54 = .ok (.iload_n 3, 1) := by decide +kernel
theorem dX11_played_55 : decode cX11_played 55 = .ok (.ireturn, 1) := by decide +kernel
theorem dX11_played_56 : decode cX11_played 56 = .ok (.iinc 3 1, 3) := by decide +kernel
theorem dX11_played_59 : decode cX11_played 59 = .ok (.goto (-44), 3) := by decide +kernel
theorem dX11_played_62 : decode cX11_played 62 = .ok (.iconst (-1), 1) := by decide +kernel
theorem dX11_played_63 : decode cX11_played 63 = .ok (.ireturn, 1) := by decide +kernel
theorem dX11_springs_0 : decode cX11_springs 0 = .ok (.iload_n 1, 1) := by decide +kernel
theorem dX11_springs_1 : decode cX11_springs 1 = .ok (.ifCond .lt 21, 3) := by decide +kernel
theorem dX11_springs_4 : decode cX11_springs 4 = .ok (.iload_n 1, 1) := by decide +kernel
theorem dX11_springs_5 : decode cX11_springs 5 = .ok (.sipush 9999, 3) := by decide +kernel
theorem dX11_springs_8 : decode cX11_springs 8 = .ok (.if_icmp .gt 14, 3) := by decide +kernel
theorem dX11_springs_11 : decode cX11_springs 11 = .ok (.iload_n 2, 1) := by decide +kernel
theorem dX11_springs_12 : decode cX11_springs 12 = .ok (.iconst 1, 1) := by decide +kernel
theorem dX11_springs_13 : decode cX11_springs 13 = .ok (.if_icmp .lt 9, 3) := by decide +kernel
theorem dX11_springs_16 : decode cX11_springs 16 = .ok (.iload_n 2, 1) := by decide +kernel
theorem dX11_springs_17 : decode cX11_springs 17 = .ok (.bipush 40, 2) := by decide +kernel
theorem dX11_springs_19 : decode cX11_springs 19 = .ok (.if_icmp .le 5, 3) := by decide +kernel
theorem dX11_springs_22 : decode cX11_springs 22 = .ok (.iconst (-1), 1) := by decide +kernel
theorem dX11_springs_23 : decode cX11_springs 23 = .ok (.ireturn, 1) := by decide +kernel
theorem dX11_springs_24 : decode cX11_springs 24 = .ok (.aload_n 0, 1) := by decide +kernel
theorem dX11_springs_25 : decode cX11_springs 25 = .ok (.getfield 10, 3) := by decide +kernel
theorem dX11_springs_28 : decode cX11_springs 28 = .ok (.getfield 175, 3) := by decide +kernel
theorem dX11_springs_31 : decode cX11_springs 31 = .ok (.aload_n 0, 1) := by decide +kernel
theorem dX11_springs_32 : decode cX11_springs 32 = .ok (.getfield 20, 3) := by decide +kernel
theorem dX11_springs_35 : decode cX11_springs 35 = .ok (.invokevirtual 179, 3) := by decide +kernel
theorem dX11_springs_38 : decode cX11_springs 38 = .ok (.aload_n 0, 1) := by decide +kernel
theorem dX11_springs_39 : decode cX11_springs 39 = .ok (.getfield 20, 3) := by decide +kernel
theorem dX11_springs_42 : decode cX11_springs 42 = .ok (.iload_n 1, 1) := by decide +kernel
theorem dX11_springs_43 : decode cX11_springs 43 = .ok (.iconst 2, 1) := by decide +kernel
theorem dX11_springs_44 : decode cX11_springs 44 = .ok (.imul, 1) := by decide +kernel
theorem dX11_springs_45 : decode cX11_springs 45 = .ok (.sipush 307, 3) := by decide +kernel
theorem dX11_springs_48 : decode cX11_springs 48 = .ok (.iadd, 1) := by decide +kernel
theorem dX11_springs_49 : decode cX11_springs 49 = .ok (.putfield 224, 3) := by decide +kernel
theorem dX11_springs_52 : decode cX11_springs 52 = .ok (.iconst 0, 1) := by decide +kernel
theorem dX11_springs_53 : decode cX11_springs 53 = .ok (.istore_n 3, 1) := by decide +kernel
theorem dX11_springs_54 : decode cX11_springs 54 = .ok (.iload_n 3, 1) := by decide +kernel
theorem dX11_springs_55 : decode cX11_springs 55 = .ok (.iload_n 2, 1) := by decide +kernel
theorem dX11_springs_56 : decode cX11_springs 56 = .ok (.if_icmp .ge 31, 3) := by decide +kernel
theorem dX11_springs_59 : decode cX11_springs 59 = .ok (.aload_n 0, 1) := by decide +kernel
theorem dX11_springs_60 : decode cX11_springs 60 = .ok (.getfield 20, 3) := by decide +kernel
theorem dX11_springs_63 : decode cX11_springs 63 = .ok (.getfield 224, 3) := by decide +kernel
theorem dX11_springs_66 : decode cX11_springs 66 = .ok (.istore 4, 2) := by decide +kernel
theorem dX11_springs_68 : decode cX11_springs 68 = .ok (.aload_n 0, 1) := by decide +kernel
theorem dX11_springs_69 : decode cX11_springs 69 = .ok (.getfield 20, 3) := by decide +kernel
theorem dX11_springs_72 : decode cX11_springs 72 = .ok (.invokevirtual 227, 3) := by decide +kernel
theorem dX11_springs_75 : decode cX11_springs 75 = .ok (.aload_n 0, 1) := by decide +kernel
theorem dX11_springs_76 : decode cX11_springs 76 = .ok (.iload 4, 2) := by decide +kernel
theorem dX11_springs_78 : decode cX11_springs 78 = .ok (.invokevirtual 230, 3) := by decide +kernel
theorem dX11_springs_81 : decode cX11_springs 81 = .ok (.iinc 3 1, 3) := by decide +kernel
theorem dX11_springs_84 : decode cX11_springs 84 = .ok (.goto (-30), 3) := by decide +kernel
theorem dX11_springs_87 : decode cX11_springs 87 = .ok (.aload_n 0, 1) := by decide +kernel
theorem dX11_springs_88 : decode cX11_springs 88 = .ok (.getfield 20, 3) := by decide +kernel
theorem dX11_springs_91 : decode cX11_springs 91 = .ok (.getfield 198, 3) := by decide +kernel
theorem dX11_springs_94 : decode cX11_springs 94 = .ok (.ireturn, 1) := by decide +kernel
theorem dX11_undo_0 : decode cX11_undo 0 = .ok (.aload_n 0, 1) := by decide +kernel
theorem dX11_undo_1 : decode cX11_undo 1 = .ok (.getfield 10, 3) := by decide +kernel
theorem dX11_undo_4 : decode cX11_undo 4 = .ok (.invokevirtual 233, 3) := by decide +kernel
theorem dX11_undo_7 : decode cX11_undo 7 = .ok (.ifCond .eq 16, 3) := by decide +kernel
theorem dX11_undo_10 : decode cX11_undo 10 = .ok (.aload_n 0, 1) := by decide +kernel
theorem dX11_undo_11 : decode cX11_undo 11 = .ok (.getfield 10, 3) := by decide +kernel
theorem dX11_undo_14 : decode cX11_undo 14 = .ok (.getfield 175, 3) := by decide +kernel
theorem dX11_undo_17 : decode cX11_undo 17 = .ok (.getfield 237, 3) := by decide +kernel
theorem dX11_undo_20 : decode cX11_undo 20 = .ok (.goto 4, 3) := by decide +kernel
theorem dX11_undo_23 : decode cX11_undo 23 = .ok (.iconst (-1), 1) := by decide +kernel
theorem dX11_undo_24 : decode cX11_undo 24 = .ok (.ireturn, 1) := by decide +kernel
theorem dX11_of_0 : decode cX11_of 0 = .ok (.aload_n 0, 1) := by decide +kernel
theorem dX11_of_1 : decode cX11_of 1 = .ok (.iload_n 1, 1) := by decide +kernel
theorem dX11_of_2 : decode cX11_of 2 = .ok (.invokevirtual 240, 3) := by decide +kernel
theorem dX11_of_5 : decode cX11_of 5 = .ok (.ifCond .ne 6, 3) := by decide +kernel
theorem dX11_of_8 : decode cX11_of 8 = .ok (.bipush (-2), 2) := by decide +kernel
theorem dX11_of_10 : decode cX11_of 10 = .ok (.ireturn, 1) := by decide +kernel
theorem dX11_of_11 : decode cX11_of 11 = .ok (.iload_n 2, 1) := by decide +kernel
theorem dX11_of_12 : decode cX11_of 12 = .ok (.tableswitch 98 0 4 #[36, 46, 56, 66, 76], 36) := by decide +kernel
theorem dX11_of_48 : decode cX11_of 48 = .ok (.aload_n 0, 1) := by decide +kernel
theorem dX11_of_49 : decode cX11_of 49 = .ok (.getfield 10, 3) := by decide +kernel
theorem dX11_of_52 : decode cX11_of 52 = .ok (.getfield 109, 3) := by decide +kernel
theorem dX11_of_55 : decode cX11_of 55 = .ok (.iload_n 1, 1) := by decide +kernel
theorem dX11_of_56 : decode cX11_of 56 = .ok (.iaload, 1) := by decide +kernel
theorem dX11_of_57 : decode cX11_of 57 = .ok (.ireturn, 1) := by decide +kernel
theorem dX11_of_58 : decode cX11_of 58 = .ok (.aload_n 0, 1) := by decide +kernel
theorem dX11_of_59 : decode cX11_of 59 = .ok (.getfield 10, 3) := by decide +kernel
theorem dX11_of_62 : decode cX11_of 62 = .ok (.getfield 112, 3) := by decide +kernel
theorem dX11_of_65 : decode cX11_of 65 = .ok (.iload_n 1, 1) := by decide +kernel
theorem dX11_of_66 : decode cX11_of 66 = .ok (.iaload, 1) := by decide +kernel
theorem dX11_of_67 : decode cX11_of 67 = .ok (.ireturn, 1) := by decide +kernel
theorem dX11_of_68 : decode cX11_of 68 = .ok (.aload_n 0, 1) := by decide +kernel
theorem dX11_of_69 : decode cX11_of 69 = .ok (.getfield 20, 3) := by decide +kernel
theorem dX11_of_72 : decode cX11_of 72 = .ok (.getfield 118, 3) := by decide +kernel
theorem dX11_of_75 : decode cX11_of 75 = .ok (.iload_n 1, 1) := by decide +kernel
theorem dX11_of_76 : decode cX11_of 76 = .ok (.iaload, 1) := by decide +kernel
theorem dX11_of_77 : decode cX11_of 77 = .ok (.ireturn, 1) := by decide +kernel
theorem dX11_of_78 : decode cX11_of 78 = .ok (.aload_n 0, 1) := by decide +kernel
theorem dX11_of_79 : decode cX11_of 79 = .ok (.getfield 20, 3) := by decide +kernel
theorem dX11_of_82 : decode cX11_of 82 = .ok (.getfield 115, 3) := by decide +kernel
theorem dX11_of_85 : decode cX11_of 85 = .ok (.iload_n 1, 1) := by decide +kernel
theorem dX11_of_86 : decode cX11_of 86 = .ok (.iaload, 1) := by decide +kernel
theorem dX11_of_87 : decode cX11_of 87 = .ok (.ireturn, 1) := by decide +kernel
theorem dX11_of_88 : decode cX11_of 88 = .ok (.aload_n 0, 1) := by decide +kernel
theorem dX11_of_89 : decode cX11_of 89 = .ok (.getfield 10, 3) := by decide +kernel
theorem dX11_of_92 : decode cX11_of 92 = .ok (.getfield 109, 3) := by decide +kernel
theorem dX11_of_95 : decode cX11_of 95 = .ok (.iload_n 1, 1) := by decide +kernel
theorem dX11_of_96 : decode cX11_of 96 = .ok (.iaload, 1) := by decide +kernel
theorem dX11_of_97 : decode cX11_of 97 = .ok (.aload_n 0, 1) := by decide +kernel
theorem dX11_of_98 : decode cX11_of 98 = .ok (.getfield 20, 3) := by decide +kernel
theorem dX11_of_101 : decode cX11_of 101 = .ok (.getfield 118, 3) := by decide +kernel
theorem dX11_of_104 : decode cX11_of 104 = .ok (.iload_n 1, 1) := by decide +kernel
theorem dX11_of_105 : decode cX11_of 105 = .ok (.iaload, 1) := by decide +kernel
theorem dX11_of_106 : decode cX11_of 106 = .ok (.invokestatic 243, 3) := by decide +kernel
theorem dX11_of_109 : decode cX11_of 109 = .ok (.ireturn, 1) := by decide +kernel
theorem dX11_of_110 : decode cX11_of 110 = .ok (.bipush (-2), 2) := by decide +kernel
theorem dX11_of_112 : decode cX11_of 112 = .ok (.ireturn, 1) := by decide +kernel
theorem dX11_ofFamily_0 : decode cX11_ofFamily 0 = .ok (.aload_n 0, 1) := by decide +kernel
theorem dX11_ofFamily_1 : decode cX11_ofFamily 1 = .ok (.iload_n 1, 1) := by decide +kernel
theorem dX11_ofFamily_2 : decode cX11_ofFamily 2 = .ok (.invokevirtual 192, 3) := by decide +kernel
theorem dX11_ofFamily_5 : decode cX11_ofFamily 5 = .ok (.ifCond .ne 5, 3) := by decide +kernel
theorem dX11_ofFamily_8 : decode cX11_ofFamily 8 = .ok (.iconst (-1), 1) := by decide +kernel
theorem dX11_ofFamily_9 : decode cX11_ofFamily 9 = .ok (.ireturn, 1) := by decide +kernel
theorem dX11_ofFamily_10 : decode cX11_ofFamily 10 = .ok (.iload_n 2, 1) := by decide +kernel
theorem dX11_ofFamily_11 : decode cX11_ofFamily 11 = .ok (.tableswitch 57 0 2 #[25, 35, 45], 25) := by decide +kernel
theorem dX11_ofFamily_36 : decode cX11_ofFamily 36 = .ok (.aload_n 0, 1) := by decide +kernel
theorem dX11_ofFamily_37 : decode cX11_ofFamily 37 = .ok (.getfield 10, 3) := by decide +kernel
theorem dX11_ofFamily_40 : decode cX11_ofFamily 40 = .ok (.getfield 128, 3) := by decide +kernel
theorem dX11_ofFamily_43 : decode cX11_ofFamily 43 = .ok (.iload_n 1, 1) := by decide +kernel
theorem dX11_ofFamily_44 : decode cX11_ofFamily 44 = .ok (.iaload, 1) := by decide +kernel
theorem dX11_ofFamily_45 : decode cX11_ofFamily 45 = .ok (.ireturn, 1) := by decide +kernel
theorem dX11_ofFamily_46 : decode cX11_ofFamily 46 = .ok (.aload_n 0, 1) := by decide +kernel
theorem dX11_ofFamily_47 : decode cX11_ofFamily 47 = .ok (.getfield 20, 3) := by decide +kernel
theorem dX11_ofFamily_50 : decode cX11_ofFamily 50 = .ok (.getfield 134, 3) := by decide +kernel
theorem dX11_ofFamily_53 : decode cX11_ofFamily 53 = .ok (.iload_n 1, 1) := by decide +kernel
theorem dX11_ofFamily_54 : decode cX11_ofFamily 54 = .ok (.iaload, 1) := by decide +kernel
theorem dX11_ofFamily_55 : decode cX11_ofFamily 55 = .ok (.ireturn, 1) := by decide +kernel
theorem dX11_ofFamily_56 : decode cX11_ofFamily 56 = .ok (.aload_n 0, 1) := by decide +kernel
theorem dX11_ofFamily_57 : decode cX11_ofFamily 57 = .ok (.getfield 20, 3) := by decide +kernel
theorem dX11_ofFamily_60 : decode cX11_ofFamily 60 = .ok (.bipush 20, 2) := by decide +kernel
theorem dX11_ofFamily_62 : decode cX11_ofFamily 62 = .ok (.iload_n 1, 1) := by decide +kernel
theorem dX11_ofFamily_63 : decode cX11_ofFamily 63 = .ok (.iadd, 1) := by decide +kernel
theorem dX11_ofFamily_64 : decode cX11_ofFamily 64 = .ok (.invokevirtual 247, 3) := by decide +kernel
theorem dX11_ofFamily_67 : decode cX11_ofFamily 67 = .ok (.ireturn, 1) := by decide +kernel
theorem dX11_ofFamily_68 : decode cX11_ofFamily 68 = .ok (.iconst (-1), 1) := by decide +kernel
theorem dX11_ofFamily_69 : decode cX11_ofFamily 69 = .ok (.ireturn, 1) := by decide +kernel
theorem dX11_law_0 : decode cX11_law 0 = .ok (.aload_n 0, 1) := by decide +kernel
theorem dX11_law_1 : decode cX11_law 1 = .ok (.iload_n 1, 1) := by decide +kernel
theorem dX11_law_2 : decode cX11_law 2 = .ok (.invokevirtual 240, 3) := by decide +kernel
theorem dX11_law_5 : decode cX11_law 5 = .ok (.ifCond .ne 6, 3) := by decide +kernel
theorem dX11_law_8 : decode cX11_law 8 = .ok (.bipush (-100), 2) := by decide +kernel
theorem dX11_law_10 : decode cX11_law 10 = .ok (.ireturn, 1) := by decide +kernel
theorem dX11_law_11 : decode cX11_law 11 = .ok (.aload_n 0, 1) := by decide +kernel
theorem dX11_law_12 : decode cX11_law 12 = .ok (.aload_n 0, 1) := by decide +kernel
theorem dX11_law_13 : decode cX11_law 13 = .ok (.getfield 10, 3) := by decide +kernel
theorem dX11_law_16 : decode cX11_law 16 = .ok (.getfield 169, 3) := by decide +kernel
theorem dX11_law_19 : decode cX11_law 19 = .ok (.invokevirtual 204, 3) := by decide +kernel
theorem dX11_law_22 : decode cX11_law 22 = .ok (.astore 4, 2) := by decide +kernel
theorem dX11_law_24 : decode cX11_law 24 = .ok (.aload_n 0, 1) := by decide +kernel
theorem dX11_law_25 : decode cX11_law 25 = .ok (.getfield 20, 3) := by decide +kernel
theorem dX11_law_28 : decode cX11_law 28 = .ok (.iload_n 1, 1) := by decide +kernel
theorem dX11_law_29 : decode cX11_law 29 = .ok (.invokevirtual 250, 3) := by decide +kernel
theorem dX11_law_32 : decode cX11_law 32 = .ok (.istore 5, 2) := by decide +kernel
theorem dX11_law_34 : decode cX11_law 34 = .ok (.iload_n 3, 1) := by decide +kernel
theorem dX11_law_35 : decode cX11_law 35 = .ok (.ifCond .ne 18, 3) := by decide +kernel
theorem dX11_law_38 : decode cX11_law 38 = .ok (.aload_n 0, 1) := by decide +kernel
theorem dX11_law_39 : decode cX11_law 39 = .ok (.getfield 55, 3) := by decide +kernel
theorem dX11_law_42 : decode cX11_law 42 = .ok (.aload 4, 2) := by decide +kernel
theorem dX11_law_44 : decode cX11_law 44 = .ok (.aload_n 0, 1) := by decide +kernel
theorem dX11_law_45 : decode cX11_law 45 = .ok (.getfield 20, 3) := by decide +kernel
theorem dX11_law_48 : decode cX11_law 48 = .ok (.iload_n 1, 1) := by decide +kernel
theorem dX11_law_49 : decode cX11_law 49 = .ok (.invokevirtual 253, 3) := by decide +kernel
theorem dX11_law_52 : decode cX11_law 52 = .ok (.ireturn, 1) := by decide +kernel
theorem dX11_law_53 : decode cX11_law 53 = .ok (.iload_n 3, 1) := by decide +kernel
theorem dX11_law_54 : decode cX11_law 54 = .ok (.iconst 1, 1) := by decide +kernel
theorem dX11_law_55 : decode cX11_law 55 = .ok (.if_icmp .ne 20, 3) := by decide +kernel
theorem dX11_law_58 : decode cX11_law 58 = .ok (.aload_n 0, 1) := by decide +kernel
theorem dX11_law_59 : decode cX11_law 59 = .ok (.getfield 55, 3) := by decide +kernel
theorem dX11_law_62 : decode cX11_law 62 = .ok (.aload 4, 2) := by decide +kernel
theorem dX11_law_64 : decode cX11_law 64 = .ok (.aload_n 0, 1) := by decide +kernel
theorem dX11_law_65 : decode cX11_law 65 = .ok (.getfield 20, 3) := by decide +kernel
theorem dX11_law_68 : decode cX11_law 68 = .ok (.iload_n 1, 1) := by decide +kernel
theorem dX11_law_69 : decode cX11_law 69 = .ok (.iload 5, 2) := by decide +kernel
theorem dX11_law_71 : decode cX11_law 71 = .ok (.invokevirtual 257, 3) := by decide +kernel
theorem dX11_law_74 : decode cX11_law 74 = .ok (.ireturn, 1) := by decide +kernel
theorem dX11_law_75 : decode cX11_law 75 = .ok (.iload_n 3, 1) := by decide +kernel
theorem dX11_law_76 : decode cX11_law 76 = .ok (.iconst 2, 1) := by decide +kernel
theorem dX11_law_77 : decode cX11_law 77 = .ok (.if_icmp .ne 29, 3) := by decide +kernel
theorem dX11_law_80 : decode cX11_law 80 = .ok (.aload_n 0, 1) := by decide +kernel
theorem dX11_law_81 : decode cX11_law 81 = .ok (.iload_n 2, 1) := by decide +kernel
theorem dX11_law_82 : decode cX11_law 82 = .ok (.invokevirtual 192, 3) := by decide +kernel
theorem dX11_law_85 : decode cX11_law 85 = .ok (.ifCond .eq 21, 3) := by decide +kernel
theorem dX11_law_88 : decode cX11_law 88 = .ok (.aload_n 0, 1) := by decide +kernel
theorem dX11_law_89 : decode cX11_law 89 = .ok (.getfield 55, 3) := by decide +kernel
theorem dX11_law_92 : decode cX11_law 92 = .ok (.aload 4, 2) := by decide +kernel
theorem dX11_law_94 : decode cX11_law 94 = .ok (.aload_n 0, 1) := by decide +kernel
theorem dX11_law_95 : decode cX11_law 95 = .ok (.getfield 20, 3) := by decide +kernel
theorem dX11_law_98 : decode cX11_law 98 = .ok (.iload_n 1, 1) := by decide +kernel
theorem dX11_law_99 : decode cX11_law 99 = .ok (.iload 5, 2) := by decide +kernel
theorem dX11_law_101 : decode cX11_law 101 = .ok (.iload_n 2, 1) := by decide +kernel
theorem dX11_law_102 : decode cX11_law 102 = .ok (.invokevirtual 261, 3) := by decide +kernel
theorem dX11_law_105 : decode cX11_law 105 = .ok (.ireturn, 1) := by decide +kernel
theorem dX11_law_106 : decode cX11_law 106 = .ok (.bipush (-100), 2) := by decide +kernel
theorem dX11_law_108 : decode cX11_law 108 = .ok (.ireturn, 1) := by decide +kernel
theorem dX11_is_0 : decode cX11_is 0 = .ok (.iload_n 1, 1) := by decide +kernel
theorem dX11_is_1 : decode cX11_is 1 = .ok (.tableswitch 75 0 4 #[35, 43, 51, 59, 67], 35) := by decide +kernel
theorem dX11_is_36 : decode cX11_is 36 = .ok (.aload_n 0, 1) := by decide +kernel
theorem dX11_is_37 : decode cX11_is 37 = .ok (.getfield 20, 3) := by decide +kernel
theorem dX11_is_40 : decode cX11_is 40 = .ok (.getfield 198, 3) := by decide +kernel
theorem dX11_is_43 : decode cX11_is 43 = .ok (.ireturn, 1) := by decide +kernel
theorem dX11_is_44 : decode cX11_is 44 = .ok (.aload_n 0, 1) := by decide +kernel
theorem dX11_is_45 : decode cX11_is 45 = .ok (.getfield 20, 3) := by decide +kernel
theorem dX11_is_48 : decode cX11_is 48 = .ok (.getfield 224, 3) := by decide +kernel
theorem dX11_is_51 : decode cX11_is 51 = .ok (.ireturn, 1) := by decide +kernel
theorem dX11_is_52 : decode cX11_is 52 = .ok (.aload_n 0, 1) := by decide +kernel
theorem dX11_is_53 : decode cX11_is 53 = .ok (.getfield 20, 3) := by decide +kernel
theorem dX11_is_56 : decode cX11_is 56 = .ok (.getfield 265, 3) := by decide +kernel
theorem dX11_is_59 : decode cX11_is 59 = .ok (.ireturn, 1) := by decide +kernel
theorem dX11_is_60 : decode cX11_is 60 = .ok (.aload_n 0, 1) := by decide +kernel
theorem dX11_is_61 : decode cX11_is 61 = .ok (.getfield 20, 3) := by decide +kernel
theorem dX11_is_64 : decode cX11_is 64 = .ok (.getfield 185, 3) := by decide +kernel
theorem dX11_is_67 : decode cX11_is 67 = .ok (.ireturn, 1) := by decide +kernel
theorem dX11_is_68 : decode cX11_is 68 = .ok (.aload_n 0, 1) := by decide +kernel
theorem dX11_is_69 : decode cX11_is 69 = .ok (.getfield 10, 3) := by decide +kernel
theorem dX11_is_72 : decode cX11_is 72 = .ok (.getfield 137, 3) := by decide +kernel
theorem dX11_is_75 : decode cX11_is 75 = .ok (.ireturn, 1) := by decide +kernel
theorem dX11_is_76 : decode cX11_is 76 = .ok (.bipush (-2), 2) := by decide +kernel
theorem dX11_is_78 : decode cX11_is 78 = .ok (.ireturn, 1) := by decide +kernel
theorem dX11_book_0 : decode cX11_book 0 = .ok (.iload_n 1, 1) := by decide +kernel
theorem dX11_book_1 : decode cX11_book 1 = .ok (.iconst (-1), 1) := by decide +kernel
theorem dX11_book_2 : decode cX11_book 2 = .ok (.if_icmp .ne 11, 3) := by decide +kernel
theorem dX11_book_5 : decode cX11_book 5 = .ok (.aload_n 0, 1) := by decide +kernel
theorem dX11_book_6 : decode cX11_book 6 = .ok (.getfield 20, 3) := by decide +kernel
theorem dX11_book_9 : decode cX11_book 9 = .ok (.getfield 268, 3) := by decide +kernel
theorem dX11_book_12 : decode cX11_book 12 = .ok (.ireturn, 1) := by decide +kernel
theorem dX11_book_13 : decode cX11_book 13 = .ok (.iload_n 1, 1) := by decide +kernel
theorem dX11_book_14 : decode cX11_book 14 = .ok (.ifCond .lt 20, 3) := by decide +kernel
theorem dX11_book_17 : decode cX11_book 17 = .ok (.iload_n 1, 1) := by decide +kernel
theorem dX11_book_18 : decode cX11_book 18 = .ok (.aload_n 0, 1) := by decide +kernel
theorem dX11_book_19 : decode cX11_book 19 = .ok (.getfield 20, 3) := by decide +kernel
theorem dX11_book_22 : decode cX11_book 22 = .ok (.getfield 268, 3) := by decide +kernel
theorem dX11_book_25 : decode cX11_book 25 = .ok (.if_icmp .ge 9, 3) := by decide +kernel
theorem dX11_book_28 : decode cX11_book 28 = .ok (.iload_n 1, 1) := by decide +kernel
theorem dX11_book_29 : decode cX11_book 29 = .ok (.bipush 30, 2) := by decide +kernel
theorem dX11_book_31 : decode cX11_book 31 = .ok (.if_icmp .lt 6, 3) := by decide +kernel
theorem dX11_book_34 : decode cX11_book 34 = .ok (.bipush (-2), 2) := by decide +kernel
theorem dX11_book_36 : decode cX11_book 36 = .ok (.ireturn, 1) := by decide +kernel
theorem dX11_book_37 : decode cX11_book 37 = .ok (.aload_n 0, 1) := by decide +kernel
theorem dX11_book_38 : decode cX11_book 38 = .ok (.getfield 20, 3) := by decide +kernel
theorem dX11_book_41 : decode cX11_book 41 = .ok (.getfield 271, 3) := by decide +kernel
theorem dX11_book_44 : decode cX11_book 44 = .ok (.iload_n 1, 1) := by decide +kernel
theorem dX11_book_45 : decode cX11_book 45 = .ok (.iaload, 1) := by decide +kernel
theorem dX11_book_46 : decode cX11_book 46 = .ok (.istore_n 3, 1) := by decide +kernel
theorem dX11_book_47 : decode cX11_book 47 = .ok (.iload_n 2, 1) := by decide +kernel
theorem dX11_book_48 : decode cX11_book 48 = .ok (.tableswitch 59 0 3 #[32, 38, 46, 54], 32) := by decide +kernel
theorem dX11_book_80 : decode cX11_book 80 = .ok (.iload_n 3, 1) := by decide +kernel
theorem dX11_book_81 : decode cX11_book 81 = .ok (.sipush 1000, 3) := by decide +kernel
theorem dX11_book_84 : decode cX11_book 84 = .ok (.idiv, 1) := by decide +kernel
theorem dX11_book_85 : decode cX11_book 85 = .ok (.ireturn, 1) := by decide +kernel
theorem dX11_book_86 : decode cX11_book 86 = .ok (.iload_n 3, 1) := by decide +kernel
theorem dX11_book_87 : decode cX11_book 87 = .ok (.bipush 100, 2) := by decide +kernel
theorem dX11_book_89 : decode cX11_book 89 = .ok (.idiv, 1) := by decide +kernel
theorem dX11_book_90 : decode cX11_book 90 = .ok (.bipush 10, 2) := by decide +kernel
theorem dX11_book_92 : decode cX11_book 92 = .ok (.irem, 1) := by decide +kernel
theorem dX11_book_93 : decode cX11_book 93 = .ok (.ireturn, 1) := by decide +kernel
theorem dX11_book_94 : decode cX11_book 94 = .ok (.iload_n 3, 1) := by decide +kernel
theorem dX11_book_95 : decode cX11_book 95 = .ok (.bipush 10, 2) := by decide +kernel
theorem dX11_book_97 : decode cX11_book 97 = .ok (.idiv, 1) := by decide +kernel
theorem dX11_book_98 : decode cX11_book 98 = .ok (.bipush 10, 2) := by decide +kernel
theorem dX11_book_100 : decode cX11_book 100 = .ok (.irem, 1) := by decide +kernel
theorem dX11_book_101 : decode cX11_book 101 = .ok (.ireturn, 1) := by decide +kernel
theorem dX11_book_102 : decode cX11_book 102 = .ok (.iload_n 3, 1) := by decide +kernel
theorem dX11_book_103 : decode cX11_book 103 = .ok (.bipush 10, 2) := by decide +kernel
theorem dX11_book_105 : decode cX11_book 105 = .ok (.irem, 1) := by decide +kernel
theorem dX11_book_106 : decode cX11_book 106 = .ok (.ireturn, 1) := by decide +kernel
theorem dX11_book_107 : decode cX11_book 107 = .ok (.bipush (-2), 2) := by decide +kernel
theorem dX11_book_109 : decode cX11_book 109 = .ok (.ireturn, 1) := by decide +kernel
theorem dX11_foretold_0 : decode cX11_foretold 0 = .ok (.iload_n 1, 1) := by decide +kernel
theorem dX11_foretold_1 : decode cX11_foretold 1 = .ok (.iconst 1, 1) := by decide +kernel
theorem dX11_foretold_2 : decode cX11_foretold 2 = .ok (.if_icmp .lt 26, 3) := by decide +kernel
theorem dX11_foretold_5 : decode cX11_foretold 5 = .ok (.iload_n 1, 1) := by decide +kernel
theorem dX11_foretold_6 : decode cX11_foretold 6 = .ok (.bipush 60, 2) := by decide +kernel
theorem dX11_foretold_8 : decode cX11_foretold 8 = .ok (.if_icmp .gt 20, 3) := by decide +kernel
theorem dX11_foretold_11 : decode cX11_foretold 11 = .ok (.aload_n 0, 1) := by decide +kernel
theorem dX11_foretold_12 : decode cX11_foretold 12 = .ok (.iload_n 2, 1) := by decide +kernel
theorem dX11_foretold_13 : decode cX11_foretold 13 = .ok (.invokevirtual 240, 3) := by decide +kernel
theorem dX11_foretold_16 : decode cX11_foretold 16 = .ok (.ifCond .eq 12, 3) := by decide +kernel
theorem dX11_foretold_19 : decode cX11_foretold 19 = .ok (.iload_n 3, 1) := by decide +kernel
theorem dX11_foretold_20 : decode cX11_foretold 20 = .ok (.ifCond .lt 8, 3) := by decide +kernel
theorem dX11_foretold_23 : decode cX11_foretold 23 = .ok (.iload_n 3, 1) := by decide +kernel
theorem dX11_foretold_24 : decode cX11_foretold 24 = .ok (.iconst 1, 1) := by decide +kernel
theorem dX11_foretold_25 : decode cX11_foretold 25 = .ok (.if_icmp .le 6, 3) := by decide +kernel
theorem dX11_foretold_28 : decode cX11_foretold 28 = .ok (.bipush (-2), 2) := by decide +kernel
theorem dX11_foretold_30 : decode cX11_foretold 30 = .ok (.ireturn, 1) := by decide +kernel
theorem dX11_foretold_31 : decode cX11_foretold 31 = .ok (.aload_n 0, 1) := by decide +kernel
theorem dX11_foretold_32 : decode cX11_foretold 32 = .ok (.getfield 27, 3) := by decide +kernel
theorem dX11_foretold_35 : decode cX11_foretold 35 = .ok (.aload_n 0, 1) := by decide +kernel
theorem dX11_foretold_36 : decode cX11_foretold 36 = .ok (.getfield 20, 3) := by decide +kernel
theorem dX11_foretold_39 : decode cX11_foretold 39 = .ok (.invokevirtual 274, 3) := by decide +kernel
theorem dX11_foretold_42 : decode cX11_foretold 42 = .ok (.aload_n 0, 1) := by decide +kernel
theorem dX11_foretold_43 : decode cX11_foretold 43 = .ok (.aload_n 0, 1) := by decide +kernel
theorem dX11_foretold_44 : decode cX11_foretold 44 = .ok (.getfield 10, 3) := by decide +kernel
theorem dX11_foretold_47 : decode cX11_foretold 47 = .ok (.getfield 169, 3) := by decide +kernel
theorem dX11_foretold_50 : decode cX11_foretold 50 = .ok (.invokevirtual 204, 3) := by decide +kernel
theorem dX11_foretold_53 : decode cX11_foretold 53 = .ok (.astore 4, 2) := by decide +kernel
theorem dX11_foretold_55 : decode cX11_foretold 55 = .ok (.iload_n 1, 1) := by decide +kernel
theorem dX11_foretold_56 : decode cX11_foretold 56 = .ok (.sipush 9999, 3) := by decide +kernel
theorem dX11_foretold_59 : decode cX11_foretold 59 = .ok (.aload_n 0, 1) := by decide +kernel
theorem dX11_foretold_60 : decode cX11_foretold 60 = .ok (.getfield 20, 3) := by decide +kernel
theorem dX11_foretold_63 : decode cX11_foretold 63 = .ok (.getfield 198, 3) := by decide +kernel
theorem dX11_foretold_66 : decode cX11_foretold 66 = .ok (.isub, 1) := by decide +kernel
theorem dX11_foretold_67 : decode cX11_foretold 67 = .ok (.invokestatic 277, 3) := by decide +kernel
theorem dX11_foretold_70 : decode cX11_foretold 70 = .ok (.istore 5, 2) := by decide +kernel
theorem dX11_foretold_72 : decode cX11_foretold 72 = .ok (.iconst 0, 1) := by decide +kernel
theorem dX11_foretold_73 : decode cX11_foretold 73 = .ok (.istore 6, 2) := by decide +kernel
theorem dX11_foretold_75 : decode cX11_foretold 75 = .ok (.iload 6, 2) := by decide +kernel
theorem dX11_foretold_77 : decode cX11_foretold 77 = .ok (.iload 5, 2) := by decide +kernel
theorem dX11_foretold_79 : decode cX11_foretold 79 = .ok (.if_icmp .ge 23, 3) := by decide +kernel
theorem dX11_foretold_82 : decode cX11_foretold 82 = .ok (.aload_n 0, 1) := by decide +kernel
theorem dX11_foretold_83 : decode cX11_foretold 83 = .ok (.getfield 64, 3) := by decide +kernel
theorem dX11_foretold_86 : decode cX11_foretold 86 = .ok (.aload 4, 2) := by decide +kernel
theorem dX11_foretold_88 : decode cX11_foretold 88 = .ok (.aload_n 0, 1) := by decide +kernel
theorem dX11_foretold_89 : decode cX11_foretold 89 = .ok (.getfield 27, 3) := by decide +kernel
theorem dX11_foretold_92 : decode cX11_foretold 92 = .ok (.invokevirtual 282, 3) := by decide +kernel
theorem dX11_foretold_95 : decode cX11_foretold 95 = .ok (.pop, 1) := by decide +kernel
theorem dX11_foretold_96 : decode cX11_foretold 96 = .ok (.iinc 6 1, 3) := by decide +kernel
theorem dX11_foretold_99 : decode cX11_foretold 99 = .ok (.goto (-24), 3) := by decide +kernel
theorem dX11_foretold_102 : decode cX11_foretold 102 = .ok (.iload_n 3, 1) := by decide +kernel
theorem dX11_foretold_103 : decode cX11_foretold 103 = .ok (.ifCond .ne 15, 3) := by decide +kernel
theorem dX11_foretold_106 : decode cX11_foretold 106 = .ok (.aload_n 0, 1) := by decide +kernel
theorem dX11_foretold_107 : decode cX11_foretold 107 = .ok (.getfield 27, 3) := by decide +kernel
theorem dX11_foretold_110 : decode cX11_foretold 110 = .ok (.getfield 115, 3) := by decide +kernel
theorem dX11_foretold_113 : decode cX11_foretold 113 = .ok (.iload_n 2, 1) := by decide +kernel
theorem dX11_foretold_114 : decode cX11_foretold 114 = .ok (.iaload, 1) := by decide +kernel
theorem dX11_foretold_115 : decode cX11_foretold 115 = .ok (.goto 12, 3) := by decide +kernel
theorem dX11_foretold_118 : decode cX11_foretold 118 = .ok (.aload_n 0, 1) := by decide +kernel
theorem dX11_foretold_119 : decode cX11_foretold 119 = .ok (.getfield 27, 3) := by decide +kernel
theorem dX11_foretold_122 : decode cX11_foretold 122 = .ok (.getfield 118, 3) := by decide +kernel
theorem dX11_foretold_125 : decode cX11_foretold 125 = .ok (.iload_n 2, 1) := by decide +kernel
theorem dX11_foretold_126 : decode cX11_foretold 126 = .ok (.iaload, 1) := by decide +kernel
theorem dX11_foretold_127 : decode cX11_foretold 127 = .ok (.ireturn, 1) := by decide +kernel
theorem dX11_wants_0 : decode cX11_wants 0 = .ok (.iload_n 1, 1) := by decide +kernel
theorem dX11_wants_1 : decode cX11_wants 1 = .ok (.iload_n 2, 1) := by decide +kernel
theorem dX11_wants_2 : decode cX11_wants 2 = .ok (.iload_n 3, 1) := by decide +kernel
theorem dX11_wants_3 : decode cX11_wants 3 = .ok (.invokestatic 286, 3) := by decide +kernel
theorem dX11_wants_6 : decode cX11_wants 6 = .ok (.ifCond .ne 5, 3) := by decide +kernel
theorem dX11_wants_9 : decode cX11_wants 9 = .ok (.iconst 0, 1) := by decide +kernel
theorem dX11_wants_10 : decode cX11_wants 10 = .ok (.ireturn, 1) := by decide +kernel
theorem dX11_wants_11 : decode cX11_wants 11 = .ok (.aload_n 0, 1) := by decide +kernel
theorem dX11_wants_12 : decode cX11_wants 12 = .ok (.getfield 10, 3) := by decide +kernel
theorem dX11_wants_15 : decode cX11_wants 15 = .ok (.getfield 289, 3) := by decide +kernel
theorem dX11_wants_18 : decode cX11_wants 18 = .ok (.iload_n 1, 1) := by decide +kernel
theorem dX11_wants_19 : decode cX11_wants 19 = .ok (.bipush 6, 2) := by decide +kernel
theorem dX11_wants_21 : decode cX11_wants 21 = .ok (.imul, 1) := by decide +kernel
theorem dX11_wants_22 : decode cX11_wants 22 = .ok (.iload_n 2, 1) := by decide +kernel
theorem dX11_wants_23 : decode cX11_wants 23 = .ok (.iadd, 1) := by decide +kernel
theorem dX11_wants_24 : decode cX11_wants 24 = .ok (.iload_n 3, 1) := by decide +kernel
theorem dX11_wants_25 : decode cX11_wants 25 = .ok (.iastore, 1) := by decide +kernel
theorem dX11_wants_26 : decode cX11_wants 26 = .ok (.iconst 1, 1) := by decide +kernel
theorem dX11_wants_27 : decode cX11_wants 27 = .ok (.ireturn, 1) := by decide +kernel
theorem dX11_favours_0 : decode cX11_favours 0 = .ok (.iload_n 2, 1) := by decide +kernel
theorem dX11_favours_1 : decode cX11_favours 1 = .ok (.iload_n 1, 1) := by decide +kernel
theorem dX11_favours_2 : decode cX11_favours 2 = .ok (.iload_n 3, 1) := by decide +kernel
theorem dX11_favours_3 : decode cX11_favours 3 = .ok (.invokestatic 286, 3) := by decide +kernel
theorem dX11_favours_6 : decode cX11_favours 6 = .ok (.ifCond .ne 5, 3) := by decide +kernel
theorem dX11_favours_9 : decode cX11_favours 9 = .ok (.iconst 0, 1) := by decide +kernel
theorem dX11_favours_10 : decode cX11_favours 10 = .ok (.ireturn, 1) := by decide +kernel
theorem dX11_favours_11 : decode cX11_favours 11 = .ok (.aload_n 0, 1) := by decide +kernel
theorem dX11_favours_12 : decode cX11_favours 12 = .ok (.getfield 10, 3) := by decide +kernel
theorem dX11_favours_15 : decode cX11_favours 15 = .ok (.getfield 292, 3) := by decide +kernel
theorem dX11_favours_18 : decode cX11_favours 18 = .ok (.iload_n 1, 1) := by decide +kernel
theorem dX11_favours_19 : decode cX11_favours 19 = .ok (.iconst 5, 1) := by decide +kernel
theorem dX11_favours_20 : decode cX11_favours 20 = .ok (.imul, 1) := by decide +kernel
theorem dX11_favours_21 : decode cX11_favours 21 = .ok (.iload_n 2, 1) := by decide +kernel
theorem dX11_favours_22 : decode cX11_favours 22 = .ok (.iadd, 1) := by decide +kernel
theorem dX11_favours_23 : decode cX11_favours 23 = .ok (.iload_n 3, 1) := by decide +kernel
theorem dX11_favours_24 : decode cX11_favours 24 = .ok (.iastore, 1) := by decide +kernel
theorem dX11_favours_25 : decode cX11_favours 25 = .ok (.iconst 1, 1) := by decide +kernel
theorem dX11_favours_26 : decode cX11_favours 26 = .ok (.ireturn, 1) := by decide +kernel
theorem dX11_stable_0 : decode cX11_stable 0 = .ok (.aload_n 0, 1) := by decide +kernel
theorem dX11_stable_1 : decode cX11_stable 1 = .ok (.iload_n 1, 1) := by decide +kernel
theorem dX11_stable_2 : decode cX11_stable 2 = .ok (.invokevirtual 192, 3) := by decide +kernel
theorem dX11_stable_5 : decode cX11_stable 5 = .ok (.ifCond .ne 5, 3) := by decide +kernel
theorem dX11_stable_8 : decode cX11_stable 8 = .ok (.iconst (-1), 1) := by decide +kernel
theorem dX11_stable_9 : decode cX11_stable 9 = .ok (.ireturn, 1) := by decide +kernel
theorem dX11_stable_10 : decode cX11_stable 10 = .ok (.aload_n 0, 1) := by decide +kernel
theorem dX11_stable_11 : decode cX11_stable 11 = .ok (.getfield 71, 3) := by decide +kernel
theorem dX11_stable_14 : decode cX11_stable 14 = .ok (.iload_n 2, 1) := by decide +kernel
theorem dX11_stable_15 : decode cX11_stable 15 = .ok (.invokevirtual 295, 3) := by decide +kernel
theorem dX11_stable_18 : decode cX11_stable 18 = .ok (.aload_n 0, 1) := by decide +kernel
theorem dX11_stable_19 : decode cX11_stable 19 = .ok (.getfield 71, 3) := by decide +kernel
theorem dX11_stable_22 : decode cX11_stable 22 = .ok (.iload_n 1, 1) := by decide +kernel
theorem dX11_stable_23 : decode cX11_stable 23 = .ok (.invokevirtual 299, 3) := by decide +kernel
theorem dX11_stable_26 : decode cX11_stable 26 = .ok (.ireturn, 1) := by decide +kernel
theorem dX11_stables_0 : decode cX11_stables 0 = .ok (.aload_n 0, 1) := by decide +kernel
theorem dX11_stables_1 : decode cX11_stables 1 = .ok (.getfield 71, 3) := by decide +kernel
theorem dX11_stables_4 : decode cX11_stables 4 = .ok (.invokevirtual 302, 3) := by decide +kernel
theorem dX11_stables_7 : decode cX11_stables 7 = .ok (.ireturn, 1) := by decide +kernel
theorem dX11_give_0 : decode cX11_give 0 = .ok (.aload_n 0, 1) := by decide +kernel
theorem dX11_give_1 : decode cX11_give 1 = .ok (.iload_n 1, 1) := by decide +kernel
theorem dX11_give_2 : decode cX11_give 2 = .ok (.invokevirtual 192, 3) := by decide +kernel
theorem dX11_give_5 : decode cX11_give 5 = .ok (.ifCond .ne 5, 3) := by decide +kernel
theorem dX11_give_8 : decode cX11_give 8 = .ok (.iconst 0, 1) := by decide +kernel
theorem dX11_give_9 : decode cX11_give 9 = .ok (.ireturn, 1) := by decide +kernel
theorem dX11_give_10 : decode cX11_give 10 = .ok (.iload_n 2, 1) := by decide +kernel
theorem dX11_give_11 : decode cX11_give 11 = .ok (.iconst (-1), 1) := by decide +kernel
theorem dX11_give_12 : decode cX11_give 12 = .ok (.if_icmp .eq 41, 3) := by decide +kernel
theorem dX11_give_15 : decode cX11_give 15 = .ok (.aload_n 0, 1) := by decide +kernel
theorem dX11_give_16 : decode cX11_give 16 = .ok (.iload_n 2, 1) := by decide +kernel
theorem dX11_give_17 : decode cX11_give 17 = .ok (.invokevirtual 240, 3) := by decide +kernel
theorem dX11_give_20 : decode cX11_give 20 = .ok (.ifCond .ne 5, 3) := by decide +kernel
theorem dX11_give_23 : decode cX11_give 23 = .ok (.iconst 0, 1) := by decide +kernel
theorem dX11_give_24 : decode cX11_give 24 = .ok (.ireturn, 1) := by decide +kernel
theorem dX11_give_25 : decode cX11_give 25 = .ok (.aload_n 0, 1) := by decide +kernel
theorem dX11_give_26 : decode cX11_give 26 = .ok (.getfield 71, 3) := by decide +kernel
theorem dX11_give_29 : decode cX11_give 29 = .ok (.aload_n 0, 1) := by decide +kernel
theorem dX11_give_30 : decode cX11_give 30 = .ok (.getfield 10, 3) := by decide +kernel
theorem dX11_give_33 : decode cX11_give 33 = .ok (.getfield 306, 3) := by decide +kernel
theorem dX11_give_36 : decode cX11_give 36 = .ok (.iload_n 2, 1) := by decide +kernel
theorem dX11_give_37 : decode cX11_give 37 = .ok (.invokevirtual 309, 3) := by decide +kernel
theorem dX11_give_40 : decode cX11_give 40 = .ok (.istore_n 3, 1) := by decide +kernel
theorem dX11_give_41 : decode cX11_give 41 = .ok (.iload_n 3, 1) := by decide +kernel
theorem dX11_give_42 : decode cX11_give 42 = .ok (.iconst (-1), 1) := by decide +kernel
theorem dX11_give_43 : decode cX11_give 43 = .ok (.if_icmp .eq 10, 3) := by decide +kernel
theorem dX11_give_46 : decode cX11_give 46 = .ok (.iload_n 3, 1) := by decide +kernel
theorem dX11_give_47 : decode cX11_give 47 = .ok (.iload_n 1, 1) := by decide +kernel
theorem dX11_give_48 : decode cX11_give 48 = .ok (.if_icmp .eq 5, 3) := by decide +kernel
theorem dX11_give_51 : decode cX11_give 51 = .ok (.iconst 0, 1) := by decide +kernel
theorem dX11_give_52 : decode cX11_give 52 = .ok (.ireturn, 1) := by decide +kernel
theorem dX11_give_53 : decode cX11_give 53 = .ok (.aload_n 0, 1) := by decide +kernel
theorem dX11_give_54 : decode cX11_give 54 = .ok (.getfield 10, 3) := by decide +kernel
theorem dX11_give_57 : decode cX11_give 57 = .ok (.getfield 306, 3) := by decide +kernel
theorem dX11_give_60 : decode cX11_give 60 = .ok (.iload_n 1, 1) := by decide +kernel
theorem dX11_give_61 : decode cX11_give 61 = .ok (.iload_n 2, 1) := by decide +kernel
theorem dX11_give_62 : decode cX11_give 62 = .ok (.iastore, 1) := by decide +kernel
theorem dX11_give_63 : decode cX11_give 63 = .ok (.iconst 1, 1) := by decide +kernel
theorem dX11_give_64 : decode cX11_give 64 = .ok (.ireturn, 1) := by decide +kernel
theorem dX11_rests_0 : decode cX11_rests 0 = .ok (.aload_n 0, 1) := by decide +kernel
theorem dX11_rests_1 : decode cX11_rests 1 = .ok (.getfield 71, 3) := by decide +kernel
theorem dX11_rests_4 : decode cX11_rests 4 = .ok (.aload_n 0, 1) := by decide +kernel
theorem dX11_rests_5 : decode cX11_rests 5 = .ok (.getfield 10, 3) := by decide +kernel
theorem dX11_rests_8 : decode cX11_rests 8 = .ok (.getfield 306, 3) := by decide +kernel
theorem dX11_rests_11 : decode cX11_rests 11 = .ok (.invokevirtual 313, 3) := by decide +kernel
theorem dX11_rests_14 : decode cX11_rests 14 = .ok (.ireturn, 1) := by decide +kernel
theorem dX11_gladdest_0 : decode cX11_gladdest 0 = .ok (.aload_n 0, 1) := by decide +kernel
theorem dX11_gladdest_1 : decode cX11_gladdest 1 = .ok (.iload_n 1, 1) := by decide +kernel
theorem dX11_gladdest_2 : decode cX11_gladdest 2 = .ok (.invokevirtual 192, 3) := by decide +kernel
theorem dX11_gladdest_5 : decode cX11_gladdest 5 = .ok (.ifCond .ne 5, 3) := by decide +kernel
theorem dX11_gladdest_8 : decode cX11_gladdest 8 = .ok (.iconst (-1), 1) := by decide +kernel
theorem dX11_gladdest_9 : decode cX11_gladdest 9 = .ok (.ireturn, 1) := by decide +kernel
theorem dX11_gladdest_10 : decode cX11_gladdest 10 = .ok (.iconst (-1), 1) := by decide +kernel
theorem dX11_gladdest_11 : decode cX11_gladdest 11 = .ok (.istore_n 2, 1) := by decide +kernel
theorem dX11_gladdest_12 : decode cX11_gladdest 12 = .ok (.iconst 0, 1) := by decide +kernel
theorem dX11_gladdest_13 : decode cX11_gladdest 13 = .ok (.istore_n 3, 1) := by decide +kernel
theorem dX11_gladdest_14 : decode cX11_gladdest 14 = .ok (.iload_n 3, 1) := by decide +kernel
theorem dX11_gladdest_15 : decode cX11_gladdest 15 = .ok (.aload_n 0, 1) := by decide +kernel
theorem dX11_gladdest_16 : decode cX11_gladdest 16 = .ok (.getfield 20, 3) := by decide +kernel
theorem dX11_gladdest_19 : decode cX11_gladdest 19 = .ok (.getfield 106, 3) := by decide +kernel
theorem dX11_gladdest_22 : decode cX11_gladdest 22 = .ok (.if_icmp .ge 43, 3) := by decide +kernel
theorem dX11_gladdest_25 : decode cX11_gladdest 25 = .ok (.iload_n 3, 1) := by decide +kernel
theorem dX11_gladdest_26 : decode cX11_gladdest 26 = .ok (.bipush 6, 2) := by decide +kernel
theorem dX11_gladdest_28 : decode cX11_gladdest 28 = .ok (.if_icmp .ge 37, 3) := by decide +kernel
theorem dX11_gladdest_31 : decode cX11_gladdest 31 = .ok (.aload_n 0, 1) := by decide +kernel
theorem dX11_gladdest_32 : decode cX11_gladdest 32 = .ok (.getfield 71, 3) := by decide +kernel
theorem dX11_gladdest_35 : decode cX11_gladdest 35 = .ok (.iload_n 1, 1) := by decide +kernel
theorem dX11_gladdest_36 : decode cX11_gladdest 36 = .ok (.iload_n 3, 1) := by decide +kernel
theorem dX11_gladdest_37 : decode cX11_gladdest 37 = .ok (.invokevirtual 317, 3) := by decide +kernel
theorem dX11_gladdest_40 : decode cX11_gladdest 40 = .ok (.ifCond .eq 19, 3) := by decide +kernel
theorem dX11_gladdest_43 : decode cX11_gladdest 43 = .ok (.aload_n 0, 1) := by decide +kernel
theorem dX11_gladdest_44 : decode cX11_gladdest 44 = .ok (.getfield 71, 3) := by decide +kernel
theorem dX11_gladdest_47 : decode cX11_gladdest 47 = .ok (.iconst 1, 1) := by decide +kernel
theorem dX11_gladdest_48 : decode cX11_gladdest 48 = .ok (.iload_n 1, 1) := by decide +kernel
theorem dX11_gladdest_49 : decode cX11_gladdest 49 = .ok (.iload_n 3, 1) := by decide +kernel
theorem dX11_gladdest_50 : decode cX11_gladdest 50 = .ok (.iload_n 2, 1) := by decide +kernel
theorem dX11_gladdest_51 : decode cX11_gladdest 51 = .ok (.invokevirtual 320, 3) := by decide +kernel
theorem dX11_gladdest_54 : decode cX11_gladdest 54 = .ok (.ifCond .eq 5, 3) := by decide +kernel
theorem dX11_gladdest_57 : decode cX11_gladdest 57 = .ok (.iload_n 3, 1) := by decide +kernel
theorem dX11_gladdest_58 : decode cX11_gladdest 58 = .ok (.istore_n 2, 1) := by decide +kernel
theorem dX11_gladdest_59 : decode cX11_gladdest 59 = .ok (.iinc 3 1, 3) := by decide +kernel
theorem dX11_gladdest_62 : decode cX11_gladdest 62 = .ok (.goto (-48), 3) := by decide +kernel
theorem dX11_gladdest_65 : decode cX11_gladdest 65 = .ok (.iload_n 2, 1) := by decide +kernel
theorem dX11_gladdest_66 : decode cX11_gladdest 66 = .ok (.ireturn, 1) := by decide +kernel
theorem dX11_whole_0 : decode cX11_whole 0 = .ok (.aload_n 0, 1) := by decide +kernel
theorem dX11_whole_1 : decode cX11_whole 1 = .ok (.iload_n 1, 1) := by decide +kernel
theorem dX11_whole_2 : decode cX11_whole 2 = .ok (.invokevirtual 240, 3) := by decide +kernel
theorem dX11_whole_5 : decode cX11_whole 5 = .ok (.ifCond .eq 11, 3) := by decide +kernel
theorem dX11_whole_8 : decode cX11_whole 8 = .ok (.iload_n 2, 1) := by decide +kernel
theorem dX11_whole_9 : decode cX11_whole 9 = .ok (.iload_n 3, 1) := by decide +kernel
theorem dX11_whole_10 : decode cX11_whole 10 = .ok (.invokestatic 324, 3) := by decide +kernel
theorem dX11_whole_13 : decode cX11_whole 13 = .ok (.ifCond .ne 7, 3) := by decide +kernel
theorem dX11_whole_16 : decode cX11_whole 16 = .ok (.ldc2_w 327, 3) := by decide +kernel
theorem dX11_whole_19 : decode cX11_whole 19 = .ok (.lreturn, 1) := by decide +kernel
theorem dX11_whole_20 : decode cX11_whole 20 = .ok (.aload_n 0, 1) := by decide +kernel
theorem dX11_whole_21 : decode cX11_whole 21 = .ok (.getfield 94, 3) := by decide +kernel
theorem dX11_whole_24 : decode cX11_whole 24 = .ok (.aload_n 0, 1) := by decide +kernel
theorem dX11_whole_25 : decode cX11_whole 25 = .ok (.aload_n 0, 1) := by decide +kernel
theorem dX11_whole_26 : decode cX11_whole 26 = .ok (.getfield 10, 3) := by decide +kernel
theorem dX11_whole_29 : decode cX11_whole 29 = .ok (.getfield 169, 3) := by decide +kernel
theorem dX11_whole_32 : decode cX11_whole 32 = .ok (.invokevirtual 204, 3) := by decide +kernel
theorem dX11_whole_35 : decode cX11_whole 35 = .ok (.aload_n 0, 1) := by decide +kernel
theorem dX11_whole_36 : decode cX11_whole 36 = .ok (.getfield 20, 3) := by decide +kernel
theorem dX11_whole_39 : decode cX11_whole 39 = .ok (.iload_n 1, 1) := by decide +kernel
theorem dX11_whole_40 : decode cX11_whole 40 = .ok (.iload_n 2, 1) := by decide +kernel
theorem dX11_whole_41 : decode cX11_whole 41 = .ok (.iload_n 3, 1) := by decide +kernel
theorem dX11_whole_42 : decode cX11_whole 42 = .ok (.invokevirtual 329, 3) := by decide +kernel
theorem dX11_whole_45 : decode cX11_whole 45 = .ok (.aload_n 0, 1) := by decide +kernel
theorem dX11_whole_46 : decode cX11_whole 46 = .ok (.getfield 94, 3) := by decide +kernel
theorem dX11_whole_49 : decode cX11_whole 49 = .ok (.iconst 0, 1) := by decide +kernel
theorem dX11_whole_50 : decode cX11_whole 50 = .ok (.invokevirtual 333, 3) := by decide +kernel
theorem dX11_whole_53 : decode cX11_whole 53 = .ok (.lstore 5, 2) := by decide +kernel
theorem dX11_whole_55 : decode cX11_whole 55 = .ok (.aload_n 0, 1) := by decide +kernel
theorem dX11_whole_56 : decode cX11_whole 56 = .ok (.getfield 94, 3) := by decide +kernel
theorem dX11_whole_59 : decode cX11_whole 59 = .ok (.iconst 0, 1) := by decide +kernel
theorem dX11_whole_60 : decode cX11_whole 60 = .ok (.invokevirtual 337, 3) := by decide +kernel
theorem dX11_whole_63 : decode cX11_whole 63 = .ok (.lstore 7, 2) := by decide +kernel
theorem dX11_whole_65 : decode cX11_whole 65 = .ok (.lload 5, 2) := by decide +kernel
theorem dX11_whole_67 : decode cX11_whole 67 = .ok (.lload 7, 2) := by decide +kernel
theorem dX11_whole_69 : decode cX11_whole 69 = .ok (.invokestatic 340, 3) := by decide +kernel
theorem dX11_whole_72 : decode cX11_whole 72 = .ok (.lstore 9, 2) := by decide +kernel
theorem dX11_whole_74 : decode cX11_whole 74 = .ok (.lload 9, 2) := by decide +kernel
theorem dX11_whole_76 : decode cX11_whole 76 = .ok (.lconst 0, 1) := by decide +kernel
theorem dX11_whole_77 : decode cX11_whole 77 = .ok (.lcmp, 1) := by decide +kernel
theorem dX11_whole_78 : decode cX11_whole 78 = .ok (.ifCond .ne 7, 3) := by decide +kernel
theorem dX11_whole_81 : decode cX11_whole 81 = .ok (.ldc2_w 327, 3) := by decide +kernel
theorem dX11_whole_84 : decode cX11_whole 84 = .ok (.lreturn, 1) := by decide +kernel
theorem dX11_whole_85 : decode cX11_whole 85 = .ok (.iload 4, 2) := by decide +kernel
theorem dX11_whole_87 : decode cX11_whole 87 = .ok (.ifCond .eq 8, 3) := by decide +kernel
theorem dX11_whole_90 : decode cX11_whole 90 = .ok (.lload 7, 2) := by decide +kernel
theorem dX11_whole_92 : decode cX11_whole 92 = .ok (.goto 5, 3) := by decide +kernel
theorem dX11_whole_95 : decode cX11_whole 95 = .ok (.lload 5, 2) := by decide +kernel
theorem dX11_whole_97 : decode cX11_whole 97 = .ok (.lload 9, 2) := by decide +kernel
theorem dX11_whole_99 : decode cX11_whole 99 = .ok (.ldiv, 1) := by decide +kernel
theorem dX11_whole_100 : decode cX11_whole 100 = .ok (.lreturn, 1) := by decide +kernel
theorem dX11_clear_0 : decode cX11_clear 0 = .ok (.aload_n 0, 1) := by decide +kernel
theorem dX11_clear_1 : decode cX11_clear 1 = .ok (.iload_n 1, 1) := by decide +kernel
theorem dX11_clear_2 : decode cX11_clear 2 = .ok (.invokevirtual 240, 3) := by decide +kernel
theorem dX11_clear_5 : decode cX11_clear 5 = .ok (.ifCond .eq 24, 3) := by decide +kernel
theorem dX11_clear_8 : decode cX11_clear 8 = .ok (.iload_n 2, 1) := by decide +kernel
theorem dX11_clear_9 : decode cX11_clear 9 = .ok (.iload_n 3, 1) := by decide +kernel
theorem dX11_clear_10 : decode cX11_clear 10 = .ok (.invokestatic 324, 3) := by decide +kernel
theorem dX11_clear_13 : decode cX11_clear 13 = .ok (.ifCond .eq 16, 3) := by decide +kernel
theorem dX11_clear_16 : decode cX11_clear 16 = .ok (.iload 4, 2) := by decide +kernel
theorem dX11_clear_18 : decode cX11_clear 18 = .ok (.iconst 1, 1) := by decide +kernel
theorem dX11_clear_19 : decode cX11_clear 19 = .ok (.if_icmp .lt 10, 3) := by decide +kernel
theorem dX11_clear_22 : decode cX11_clear 22 = .ok (.iload 4, 2) := by decide +kernel
theorem dX11_clear_24 : decode cX11_clear 24 = .ok (.bipush 10, 2) := by decide +kernel
theorem dX11_clear_26 : decode cX11_clear 26 = .ok (.if_icmp .le 5, 3) := by decide +kernel
theorem dX11_clear_29 : decode cX11_clear 29 = .ok (.iconst (-1), 1) := by decide +kernel
theorem dX11_clear_30 : decode cX11_clear 30 = .ok (.ireturn, 1) := by decide +kernel
theorem dX11_clear_31 : decode cX11_clear 31 = .ok (.aload_n 0, 1) := by decide +kernel
theorem dX11_clear_32 : decode cX11_clear 32 = .ok (.getfield 94, 3) := by decide +kernel
theorem dX11_clear_35 : decode cX11_clear 35 = .ok (.aload_n 0, 1) := by decide +kernel
theorem dX11_clear_36 : decode cX11_clear 36 = .ok (.aload_n 0, 1) := by decide +kernel
theorem dX11_clear_37 : decode cX11_clear 37 = .ok (.getfield 10, 3) := by decide +kernel
theorem dX11_clear_40 : decode cX11_clear 40 = .ok (.getfield 169, 3) := by decide +kernel
theorem dX11_clear_43 : decode cX11_clear 43 = .ok (.invokevirtual 204, 3) := by decide +kernel
theorem dX11_clear_46 : decode cX11_clear 46 = .ok (.aload_n 0, 1) := by decide +kernel
theorem dX11_clear_47 : decode cX11_clear 47 = .ok (.getfield 20, 3) := by decide +kernel
theorem dX11_clear_50 : decode cX11_clear 50 = .ok (.iload_n 1, 1) := by decide +kernel
theorem dX11_clear_51 : decode cX11_clear 51 = .ok (.iload_n 2, 1) := by decide +kernel
theorem dX11_clear_52 : decode cX11_clear 52 = .ok (.iload_n 3, 1) := by decide +kernel
theorem dX11_clear_53 : decode cX11_clear 53 = .ok (.invokevirtual 329, 3) := by decide +kernel
theorem dX11_clear_56 : decode cX11_clear 56 = .ok (.aload_n 0, 1) := by decide +kernel
theorem dX11_clear_57 : decode cX11_clear 57 = .ok (.getfield 94, 3) := by decide +kernel
theorem dX11_clear_60 : decode cX11_clear 60 = .ok (.iload 4, 2) := by decide +kernel
theorem dX11_clear_62 : decode cX11_clear 62 = .ok (.invokevirtual 344, 3) := by decide +kernel
theorem dX11_clear_65 : decode cX11_clear 65 = .ok (.ireturn, 1) := by decide +kernel
theorem dX11_half_0 : decode cX11_half 0 = .ok (.iload_n 1, 1) := by decide +kernel
theorem dX11_half_1 : decode cX11_half 1 = .ok (.iconst (-1), 1) := by decide +kernel
theorem dX11_half_2 : decode cX11_half 2 = .ok (.if_icmp .ne 13, 3) := by decide +kernel
theorem dX11_half_5 : decode cX11_half 5 = .ok (.aload_n 0, 1) := by decide +kernel
theorem dX11_half_6 : decode cX11_half 6 = .ok (.getfield 10, 3) := by decide +kernel
theorem dX11_half_9 : decode cX11_half 9 = .ok (.iconst 0, 1) := by decide +kernel
theorem dX11_half_10 : decode cX11_half 10 = .ok (.putfield 347, 3) := by decide +kernel
theorem dX11_half_13 : decode cX11_half 13 = .ok (.iconst 0, 1) := by decide +kernel
theorem dX11_half_14 : decode cX11_half 14 = .ok (.ireturn, 1) := by decide +kernel
theorem dX11_half_15 : decode cX11_half 15 = .ok (.aload_n 0, 1) := by decide +kernel
theorem dX11_half_16 : decode cX11_half 16 = .ok (.getfield 10, 3) := by decide +kernel
theorem dX11_half_19 : decode cX11_half 19 = .ok (.getfield 347, 3) := by decide +kernel
theorem dX11_half_22 : decode cX11_half 22 = .ok (.istore_n 2, 1) := by decide +kernel
theorem dX11_half_23 : decode cX11_half 23 = .ok (.iload_n 1, 1) := by decide +kernel
theorem dX11_half_24 : decode cX11_half 24 = .ok (.invokestatic 102, 3) := by decide +kernel
theorem dX11_half_27 : decode cX11_half 27 = .ok (.ifCond .eq 13, 3) := by decide +kernel
theorem dX11_half_30 : decode cX11_half 30 = .ok (.iload_n 2, 1) := by decide +kernel
theorem dX11_half_31 : decode cX11_half 31 = .ok (.ifCond .lt 9, 3) := by decide +kernel
theorem dX11_half_34 : decode cX11_half 34 = .ok (.iload_n 2, 1) := by decide +kernel
theorem dX11_half_35 : decode cX11_half 35 = .ok (.bipush 8, 2) := by decide +kernel
theorem dX11_half_37 : decode cX11_half 37 = .ok (.if_icmp .lt 6, 3) := by decide +kernel
theorem dX11_half_40 : decode cX11_half 40 = .ok (.bipush (-2), 2) := by decide +kernel
theorem dX11_half_42 : decode cX11_half 42 = .ok (.ireturn, 1) := by decide +kernel
theorem dX11_half_43 : decode cX11_half 43 = .ok (.aload_n 0, 1) := by decide +kernel
theorem dX11_half_44 : decode cX11_half 44 = .ok (.getfield 10, 3) := by decide +kernel
theorem dX11_half_47 : decode cX11_half 47 = .ok (.getfield 350, 3) := by decide +kernel
theorem dX11_half_50 : decode cX11_half 50 = .ok (.iload_n 2, 1) := by decide +kernel
theorem dX11_half_51 : decode cX11_half 51 = .ok (.iload_n 1, 1) := by decide +kernel
theorem dX11_half_52 : decode cX11_half 52 = .ok (.iastore, 1) := by decide +kernel
theorem dX11_half_53 : decode cX11_half 53 = .ok (.aload_n 0, 1) := by decide +kernel
theorem dX11_half_54 : decode cX11_half 54 = .ok (.getfield 10, 3) := by decide +kernel
theorem dX11_half_57 : decode cX11_half 57 = .ok (.dup, 1) := by decide +kernel
theorem dX11_half_58 : decode cX11_half 58 = .ok (.getfield 347, 3) := by decide +kernel
theorem dX11_half_61 : decode cX11_half 61 = .ok (.iconst 1, 1) := by decide +kernel
theorem dX11_half_62 : decode cX11_half 62 = .ok (.iadd, 1) := by decide +kernel
theorem dX11_half_63 : decode cX11_half 63 = .ok (.putfield 347, 3) := by decide +kernel
theorem dX11_half_66 : decode cX11_half 66 = .ok (.aload_n 0, 1) := by decide +kernel
theorem dX11_half_67 : decode cX11_half 67 = .ok (.getfield 10, 3) := by decide +kernel
theorem dX11_half_70 : decode cX11_half 70 = .ok (.getfield 347, 3) := by decide +kernel
theorem dX11_half_73 : decode cX11_half 73 = .ok (.ireturn, 1) := by decide +kernel
theorem dX11_joins_0 : decode cX11_joins 0 = .ok (.iload_n 1, 1) := by decide +kernel
theorem dX11_joins_1 : decode cX11_joins 1 = .ok (.iconst (-1), 1) := by decide +kernel
theorem dX11_joins_2 : decode cX11_joins 2 = .ok (.if_icmp .ge 6, 3) := by decide +kernel
theorem dX11_joins_5 : decode cX11_joins 5 = .ok (.bipush (-2), 2) := by decide +kernel
theorem dX11_joins_7 : decode cX11_joins 7 = .ok (.ireturn, 1) := by decide +kernel
theorem dX11_joins_8 : decode cX11_joins 8 = .ok (.aload_n 0, 1) := by decide +kernel
theorem dX11_joins_9 : decode cX11_joins 9 = .ok (.getfield 78, 3) := by decide +kernel
theorem dX11_joins_12 : decode cX11_joins 12 = .ok (.invokevirtual 353, 3) := by decide +kernel
theorem dX11_joins_15 : decode cX11_joins 15 = .ok (.iload_n 1, 1) := by decide +kernel
theorem dX11_joins_16 : decode cX11_joins 16 = .ok (.iconst (-1), 1) := by decide +kernel
theorem dX11_joins_17 : decode cX11_joins 17 = .ok (.if_icmp .ne 11, 3) := by decide +kernel
theorem dX11_joins_20 : decode cX11_joins 20 = .ok (.aload_n 0, 1) := by decide +kernel
theorem dX11_joins_21 : decode cX11_joins 21 = .ok (.getfield 78, 3) := by decide +kernel
theorem dX11_joins_24 : decode cX11_joins 24 = .ok (.getfield 356, 3) := by decide +kernel
theorem dX11_joins_27 : decode cX11_joins 27 = .ok (.ireturn, 1) := by decide +kernel
theorem dX11_joins_28 : decode cX11_joins 28 = .ok (.iload_n 1, 1) := by decide +kernel
theorem dX11_joins_29 : decode cX11_joins 29 = .ok (.aload_n 0, 1) := by decide +kernel
theorem dX11_joins_30 : decode cX11_joins 30 = .ok (.getfield 78, 3) := by decide +kernel
theorem dX11_joins_33 : decode cX11_joins 33 = .ok (.getfield 356, 3) := by decide +kernel
theorem dX11_joins_36 : decode cX11_joins 36 = .ok (.if_icmp .ge 27, 3) := by decide +kernel
theorem dX11_joins_39 : decode cX11_joins 39 = .ok (.iload_n 1, 1) := by decide +kernel
theorem dX11_joins_40 : decode cX11_joins 40 = .ok (.aload_n 0, 1) := by decide +kernel
theorem dX11_joins_41 : decode cX11_joins 41 = .ok (.getfield 78, 3) := by decide +kernel
theorem dX11_joins_44 : decode cX11_joins 44 = .ok (.getfield 357, 3) := by decide +kernel
theorem dX11_joins_47 : decode cX11_joins 47 = .ok (.arraylength, 1) := by decide +kernel
theorem dX11_joins_48 : decode cX11_joins 48 = .ok (.if_icmp .ge 15, 3) := by decide +kernel
theorem dX11_joins_51 : decode cX11_joins 51 = .ok (.aload_n 0, 1) := by decide +kernel
theorem dX11_joins_52 : decode cX11_joins 52 = .ok (.getfield 78, 3) := by decide +kernel
theorem dX11_joins_55 : decode cX11_joins 55 = .ok (.getfield 357, 3) := by decide +kernel
theorem dX11_joins_58 : decode cX11_joins 58 = .ok (.iload_n 1, 1) := by decide +kernel
theorem dX11_joins_59 : decode cX11_joins 59 = .ok (.iaload, 1) := by decide +kernel
theorem dX11_joins_60 : decode cX11_joins 60 = .ok (.goto 5, 3) := by decide +kernel
theorem dX11_joins_63 : decode cX11_joins 63 = .ok (.bipush (-2), 2) := by decide +kernel
theorem dX11_joins_65 : decode cX11_joins 65 = .ok (.ireturn, 1) := by decide +kernel
theorem dX11_layers_0 : decode cX11_layers 0 = .ok (.iload_n 1, 1) := by decide +kernel
theorem dX11_layers_1 : decode cX11_layers 1 = .ok (.ifCond .lt 16, 3) := by decide +kernel
theorem dX11_layers_4 : decode cX11_layers 4 = .ok (.iload_n 1, 1) := by decide +kernel
theorem dX11_layers_5 : decode cX11_layers 5 = .ok (.iconst 1, 1) := by decide +kernel
theorem dX11_layers_6 : decode cX11_layers 6 = .ok (.aload_n 0, 1) := by decide +kernel
theorem dX11_layers_7 : decode cX11_layers 7 = .ok (.getfield 20, 3) := by decide +kernel
theorem dX11_layers_10 : decode cX11_layers 10 = .ok (.getfield 106, 3) := by decide +kernel
theorem dX11_layers_13 : decode cX11_layers 13 = .ok (.ishl, 1) := by decide +kernel
theorem dX11_layers_14 : decode cX11_layers 14 = .ok (.if_icmp .lt 5, 3) := by decide +kernel
theorem dX11_layers_17 : decode cX11_layers 17 = .ok (.iconst (-1), 1) := by decide +kernel
theorem dX11_layers_18 : decode cX11_layers 18 = .ok (.ireturn, 1) := by decide +kernel
theorem dX11_layers_19 : decode cX11_layers 19 = .ok (.iconst 0, 1) := by decide +kernel
theorem dX11_layers_20 : decode cX11_layers 20 = .ok (.istore_n 2, 1) := by decide +kernel
theorem dX11_layers_21 : decode cX11_layers 21 = .ok (.iconst 0, 1) := by decide +kernel
theorem dX11_layers_22 : decode cX11_layers 22 = .ok (.istore_n 3, 1) := by decide +kernel
theorem dX11_layers_23 : decode cX11_layers 23 = .ok (.iload_n 3, 1) := by decide +kernel
theorem dX11_layers_24 : decode cX11_layers 24 = .ok (.aload_n 0, 1) := by decide +kernel
theorem dX11_layers_25 : decode cX11_layers 25 = .ok (.getfield 20, 3) := by decide +kernel
theorem dX11_layers_28 : decode cX11_layers 28 = .ok (.getfield 106, 3) := by decide +kernel
theorem dX11_layers_31 : decode cX11_layers 31 = .ok (.if_icmp .ge 37, 3) := by decide +kernel
theorem dX11_layers_34 : decode cX11_layers 34 = .ok (.iload_n 3, 1) := by decide +kernel
theorem dX11_layers_35 : decode cX11_layers 35 = .ok (.bipush 6, 2) := by decide +kernel
theorem dX11_layers_37 : decode cX11_layers 37 = .ok (.if_icmp .ge 31, 3) := by decide +kernel
theorem dX11_layers_40 : decode cX11_layers 40 = .ok (.iload_n 1, 1) := by decide +kernel
theorem dX11_layers_41 : decode cX11_layers 41 = .ok (.iload_n 3, 1) := by decide +kernel
theorem dX11_layers_42 : decode cX11_layers 42 = .ok (.invokestatic 188, 3) := by decide +kernel
theorem dX11_layers_45 : decode cX11_layers 45 = .ok (.ifCond .eq 17, 3) := by decide +kernel
theorem dX11_layers_48 : decode cX11_layers 48 = .ok (.iload_n 2, 1) := by decide +kernel
theorem dX11_layers_49 : decode cX11_layers 49 = .ok (.iconst 1, 1) := by decide +kernel
theorem dX11_layers_50 : decode cX11_layers 50 = .ok (.aload_n 0, 1) := by decide +kernel
theorem dX11_layers_51 : decode cX11_layers 51 = .ok (.getfield 10, 3) := by decide +kernel
theorem dX11_layers_54 : decode cX11_layers 54 = .ok (.getfield 112, 3) := by decide +kernel
theorem dX11_layers_57 : decode cX11_layers 57 = .ok (.iload_n 3, 1) := by decide +kernel
theorem dX11_layers_58 : decode cX11_layers 58 = .ok (.iaload, 1) := by decide +kernel
theorem dX11_layers_59 : decode cX11_layers 59 = .ok (.ishl, 1) := by decide +kernel
theorem dX11_layers_60 : decode cX11_layers 60 = .ok (.ior, 1) := by decide +kernel
theorem dX11_layers_61 : decode cX11_layers 61 = .ok (.istore_n 2, 1) := by decide +kernel
theorem dX11_layers_62 : decode cX11_layers 62 = .ok (.iinc 3 1, 3) := by decide +kernel
theorem dX11_layers_65 : decode cX11_layers 65 = .ok (.goto (-42), 3) := by decide +kernel
theorem dX11_layers_68 : decode cX11_layers 68 = .ok (.iload_n 2, 1) := by decide +kernel
theorem dX11_layers_69 : decode cX11_layers 69 = .ok (.ireturn, 1) := by decide +kernel
theorem dX11_rhyme_0 : decode cX11_rhyme 0 = .ok (.aload_n 0, 1) := by decide +kernel
theorem dX11_rhyme_1 : decode cX11_rhyme 1 = .ok (.iload_n 1, 1) := by decide +kernel
theorem dX11_rhyme_2 : decode cX11_rhyme 2 = .ok (.invokevirtual 240, 3) := by decide +kernel
theorem dX11_rhyme_5 : decode cX11_rhyme 5 = .ok (.ifCond .eq 11, 3) := by decide +kernel
theorem dX11_rhyme_8 : decode cX11_rhyme 8 = .ok (.aload_n 0, 1) := by decide +kernel
theorem dX11_rhyme_9 : decode cX11_rhyme 9 = .ok (.iload_n 2, 1) := by decide +kernel
theorem dX11_rhyme_10 : decode cX11_rhyme 10 = .ok (.invokevirtual 240, 3) := by decide +kernel
theorem dX11_rhyme_13 : decode cX11_rhyme 13 = .ok (.ifCond .ne 5, 3) := by decide +kernel
theorem dX11_rhyme_16 : decode cX11_rhyme 16 = .ok (.iconst (-1), 1) := by decide +kernel
theorem dX11_rhyme_17 : decode cX11_rhyme 17 = .ok (.ireturn, 1) := by decide +kernel
theorem dX11_rhyme_18 : decode cX11_rhyme 18 = .ok (.aload_n 0, 1) := by decide +kernel
theorem dX11_rhyme_19 : decode cX11_rhyme 19 = .ok (.getfield 10, 3) := by decide +kernel
theorem dX11_rhyme_22 : decode cX11_rhyme 22 = .ok (.getfield 109, 3) := by decide +kernel
theorem dX11_rhyme_25 : decode cX11_rhyme 25 = .ok (.iload_n 1, 1) := by decide +kernel
theorem dX11_rhyme_26 : decode cX11_rhyme 26 = .ok (.iaload, 1) := by decide +kernel
theorem dX11_rhyme_27 : decode cX11_rhyme 27 = .ok (.aload_n 0, 1) := by decide +kernel
theorem dX11_rhyme_28 : decode cX11_rhyme 28 = .ok (.getfield 10, 3) := by decide +kernel
theorem dX11_rhyme_31 : decode cX11_rhyme 31 = .ok (.getfield 109, 3) := by decide +kernel
theorem dX11_rhyme_34 : decode cX11_rhyme 34 = .ok (.iload_n 2, 1) := by decide +kernel
theorem dX11_rhyme_35 : decode cX11_rhyme 35 = .ok (.iaload, 1) := by decide +kernel
theorem dX11_rhyme_36 : decode cX11_rhyme 36 = .ok (.invokestatic 360, 3) := by decide +kernel
theorem dX11_rhyme_39 : decode cX11_rhyme 39 = .ok (.ireturn, 1) := by decide +kernel
theorem dX11_kindred_0 : decode cX11_kindred 0 = .ok (.aload_n 0, 1) := by decide +kernel
theorem dX11_kindred_1 : decode cX11_kindred 1 = .ok (.iload_n 1, 1) := by decide +kernel
theorem dX11_kindred_2 : decode cX11_kindred 2 = .ok (.invokevirtual 240, 3) := by decide +kernel
theorem dX11_kindred_5 : decode cX11_kindred 5 = .ok (.ifCond .ne 5, 3) := by decide +kernel
theorem dX11_kindred_8 : decode cX11_kindred 8 = .ok (.iconst (-1), 1) := by decide +kernel
theorem dX11_kindred_9 : decode cX11_kindred 9 = .ok (.ireturn, 1) := by decide +kernel
theorem dX11_kindred_10 : decode cX11_kindred 10 = .ok (.iconst (-1), 1) := by decide +kernel
theorem dX11_kindred_11 : decode cX11_kindred 11 = .ok (.istore_n 2, 1) := by decide +kernel
theorem dX11_kindred_12 : decode cX11_kindred 12 = .ok (.iconst 0, 1) := by decide +kernel
theorem dX11_kindred_13 : decode cX11_kindred 13 = .ok (.istore_n 3, 1) := by decide +kernel
theorem dX11_kindred_14 : decode cX11_kindred 14 = .ok (.iconst 0, 1) := by decide +kernel
theorem dX11_kindred_15 : decode cX11_kindred 15 = .ok (.istore 4, 2) := by decide +kernel
theorem dX11_kindred_17 : decode cX11_kindred 17 = .ok (.iload 4, 2) := by decide +kernel
theorem dX11_kindred_19 : decode cX11_kindred 19 = .ok (.aload_n 0, 1) := by decide +kernel
theorem dX11_kindred_20 : decode cX11_kindred 20 = .ok (.getfield 20, 3) := by decide +kernel
theorem dX11_kindred_23 : decode cX11_kindred 23 = .ok (.getfield 106, 3) := by decide +kernel
theorem dX11_kindred_26 : decode cX11_kindred 26 = .ok (.if_icmp .ge 62, 3) := by decide +kernel
theorem dX11_kindred_29 : decode cX11_kindred 29 = .ok (.iload 4, 2) := by decide +kernel
theorem dX11_kindred_31 : decode cX11_kindred 31 = .ok (.bipush 6, 2) := by decide +kernel
theorem dX11_kindred_33 : decode cX11_kindred 33 = .ok (.if_icmp .ge 55, 3) := by decide +kernel
theorem dX11_kindred_36 : decode cX11_kindred 36 = .ok (.iload 4, 2) := by decide +kernel
theorem dX11_kindred_38 : decode cX11_kindred 38 = .ok (.iload_n 1, 1) := by decide +kernel
theorem dX11_kindred_39 : decode cX11_kindred 39 = .ok (.if_icmp .ne 7, 3) := by decide +kernel
theorem dX11_kindred_42 : decode cX11_kindred 42 = .ok (.iconst 0, 1) := by decide +kernel
theorem dX11_kindred_43 : decode cX11_kindred 43 = .ok (.goto 25, 3) := by decide +kernel
theorem dX11_kindred_46 : decode cX11_kindred 46 = .ok (.aload_n 0, 1) := by decide +kernel
theorem dX11_kindred_47 : decode cX11_kindred 47 = .ok (.getfield 10, 3) := by decide +kernel
theorem dX11_kindred_50 : decode cX11_kindred 50 = .ok (.getfield 109, 3) := by decide +kernel
theorem dX11_kindred_53 : decode cX11_kindred 53 = .ok (.iload_n 1, 1) := by decide +kernel
theorem dX11_kindred_54 : decode cX11_kindred 54 = .ok (.iaload, 1) := by decide +kernel
theorem dX11_kindred_55 : decode cX11_kindred 55 = .ok (.aload_n 0, 1) := by decide +kernel
theorem dX11_kindred_56 : decode cX11_kindred 56 = .ok (.getfield 10, 3) := by decide +kernel
theorem dX11_kindred_59 : decode cX11_kindred 59 = .ok (.getfield 109, 3) := by decide +kernel
theorem dX11_kindred_62 : decode cX11_kindred 62 = .ok (.iload 4, 2) := by decide +kernel
theorem dX11_kindred_64 : decode cX11_kindred 64 = .ok (.iaload, 1) := by decide +kernel
theorem dX11_kindred_65 : decode cX11_kindred 65 = .ok (.invokestatic 360, 3) := by decide +kernel
theorem dX11_kindred_68 : decode cX11_kindred 68 = .ok (.istore 5, 2) := by decide +kernel
theorem dX11_kindred_70 : decode cX11_kindred 70 = .ok (.iload 5, 2) := by decide +kernel
theorem dX11_kindred_72 : decode cX11_kindred 72 = .ok (.iload_n 3, 1) := by decide +kernel
theorem dX11_kindred_73 : decode cX11_kindred 73 = .ok (.if_icmp .le 9, 3) := by decide +kernel
theorem dX11_kindred_76 : decode cX11_kindred 76 = .ok (.iload 5, 2) := by decide +kernel
theorem dX11_kindred_78 : decode cX11_kindred 78 = .ok (.istore_n 3, 1) := by decide +kernel
theorem dX11_kindred_79 : decode cX11_kindred 79 = .ok (.iload 4, 2) := by decide +kernel
theorem dX11_kindred_81 : decode cX11_kindred 81 = .ok (.istore_n 2, 1) := by decide +kernel
theorem dX11_kindred_82 : decode cX11_kindred 82 = .ok (.iinc 4 1, 3) := by decide +kernel
theorem dX11_kindred_85 : decode cX11_kindred 85 = .ok (.goto (-68), 3) := by decide +kernel
theorem dX11_kindred_88 : decode cX11_kindred 88 = .ok (.iload_n 2, 1) := by decide +kernel
theorem dX11_kindred_89 : decode cX11_kindred 89 = .ok (.ireturn, 1) := by decide +kernel
theorem dX11_quota_0 : decode cX11_quota 0 = .ok (.iload_n 1, 1) := by decide +kernel
theorem dX11_quota_1 : decode cX11_quota 1 = .ok (.iconst 1, 1) := by decide +kernel
theorem dX11_quota_2 : decode cX11_quota 2 = .ok (.if_icmp .lt 9, 3) := by decide +kernel
theorem dX11_quota_5 : decode cX11_quota 5 = .ok (.iload_n 1, 1) := by decide +kernel
theorem dX11_quota_6 : decode cX11_quota 6 = .ok (.bipush 99, 2) := by decide +kernel
theorem dX11_quota_8 : decode cX11_quota 8 = .ok (.if_icmp .le 5, 3) := by decide +kernel
theorem dX11_quota_11 : decode cX11_quota 11 = .ok (.iconst 0, 1) := by decide +kernel
theorem dX11_quota_12 : decode cX11_quota 12 = .ok (.ireturn, 1) := by decide +kernel
theorem dX11_quota_13 : decode cX11_quota 13 = .ok (.aload_n 0, 1) := by decide +kernel
theorem dX11_quota_14 : decode cX11_quota 14 = .ok (.getfield 10, 3) := by decide +kernel
theorem dX11_quota_17 : decode cX11_quota 17 = .ok (.iload_n 1, 1) := by decide +kernel
theorem dX11_quota_18 : decode cX11_quota 18 = .ok (.putfield 363, 3) := by decide +kernel
theorem dX11_quota_21 : decode cX11_quota 21 = .ok (.iconst 1, 1) := by decide +kernel
theorem dX11_quota_22 : decode cX11_quota 22 = .ok (.ireturn, 1) := by decide +kernel
theorem dX11_power_0 : decode cX11_power 0 = .ok (.aload_n 0, 1) := by decide +kernel
theorem dX11_power_1 : decode cX11_power 1 = .ok (.getfield 20, 3) := by decide +kernel
theorem dX11_power_4 : decode cX11_power 4 = .ok (.getfield 121, 3) := by decide +kernel
theorem dX11_power_7 : decode cX11_power 7 = .ok (.istore_n 3, 1) := by decide +kernel
theorem dX11_power_8 : decode cX11_power 8 = .ok (.aload_n 0, 1) := by decide +kernel
theorem dX11_power_9 : decode cX11_power 9 = .ok (.iload_n 1, 1) := by decide +kernel
theorem dX11_power_10 : decode cX11_power 10 = .ok (.invokevirtual 192, 3) := by decide +kernel
theorem dX11_power_13 : decode cX11_power 13 = .ok (.ifCond .eq 15, 3) := by decide +kernel
theorem dX11_power_16 : decode cX11_power 16 = .ok (.iload_n 3, 1) := by decide +kernel
theorem dX11_power_17 : decode cX11_power 17 = .ok (.ifCond .lt 11, 3) := by decide +kernel
theorem dX11_power_20 : decode cX11_power 20 = .ok (.iload_n 3, 1) := by decide +kernel
theorem dX11_power_21 : decode cX11_power 21 = .ok (.getstatic 366, 3) := by decide +kernel
theorem dX11_power_24 : decode cX11_power 24 = .ok (.arraylength, 1) := by decide +kernel
theorem dX11_power_25 : decode cX11_power 25 = .ok (.if_icmp .lt 5, 3) := by decide +kernel
theorem dX11_power_28 : decode cX11_power 28 = .ok (.iconst (-1), 1) := by decide +kernel
theorem dX11_power_29 : decode cX11_power 29 = .ok (.ireturn, 1) := by decide +kernel
theorem dX11_power_30 : decode cX11_power 30 = .ok (.aload_n 0, 1) := by decide +kernel
theorem dX11_power_31 : decode cX11_power 31 = .ok (.getfield 85, 3) := by decide +kernel
theorem dX11_power_34 : decode cX11_power 34 = .ok (.iload_n 1, 1) := by decide +kernel
theorem dX11_power_35 : decode cX11_power 35 = .ok (.invokevirtual 369, 3) := by decide +kernel
theorem dX11_power_38 : decode cX11_power 38 = .ok (.istore 4, 2) := by decide +kernel
theorem dX11_power_40 : decode cX11_power 40 = .ok (.getstatic 366, 3) := by decide +kernel
theorem dX11_power_43 : decode cX11_power 43 = .ok (.iload_n 3, 1) := by decide +kernel
theorem dX11_power_44 : decode cX11_power 44 = .ok (.iaload, 1) := by decide +kernel
theorem dX11_power_45 : decode cX11_power 45 = .ok (.istore 5, 2) := by decide +kernel
theorem dX11_power_47 : decode cX11_power 47 = .ok (.iload 4, 2) := by decide +kernel
theorem dX11_power_49 : decode cX11_power 49 = .ok (.i2l, 1) := by decide +kernel
theorem dX11_power_50 : decode cX11_power 50 = .ok (.iload 5, 2) := by decide +kernel
theorem dX11_power_52 : decode cX11_power 52 = .ok (.i2l, 1) := by decide +kernel
theorem dX11_power_53 : decode cX11_power 53 = .ok (.invokestatic 340, 3) := by decide +kernel
theorem dX11_power_56 : decode cX11_power 56 = .ok (.lstore 6, 2) := by decide +kernel
theorem dX11_power_58 : decode cX11_power 58 = .ok (.lload 6, 2) := by decide +kernel
theorem dX11_power_60 : decode cX11_power 60 = .ok (.lconst 0, 1) := by decide +kernel
theorem dX11_power_61 : decode cX11_power 61 = .ok (.lcmp, 1) := by decide +kernel
theorem dX11_power_62 : decode cX11_power 62 = .ok (.ifCond .ne 5, 3) := by decide +kernel
theorem dX11_power_65 : decode cX11_power 65 = .ok (.iconst (-1), 1) := by decide +kernel
theorem dX11_power_66 : decode cX11_power 66 = .ok (.ireturn, 1) := by decide +kernel
theorem dX11_power_67 : decode cX11_power 67 = .ok (.iload_n 2, 1) := by decide +kernel
theorem dX11_power_68 : decode cX11_power 68 = .ok (.ifCond .eq 8, 3) := by decide +kernel
theorem dX11_power_71 : decode cX11_power 71 = .ok (.iload 5, 2) := by decide +kernel
theorem dX11_power_73 : decode cX11_power 73 = .ok (.goto 5, 3) := by decide +kernel
theorem dX11_power_76 : decode cX11_power 76 = .ok (.iload 4, 2) := by decide +kernel
theorem dX11_power_78 : decode cX11_power 78 = .ok (.i2l, 1) := by decide +kernel
theorem dX11_power_79 : decode cX11_power 79 = .ok (.lload 6, 2) := by decide +kernel
theorem dX11_power_81 : decode cX11_power 81 = .ok (.ldiv, 1) := by decide +kernel
theorem dX11_power_82 : decode cX11_power 82 = .ok (.l2i, 1) := by decide +kernel
theorem dX11_power_83 : decode cX11_power 83 = .ok (.ireturn, 1) := by decide +kernel
theorem dX11_dummies_0 : decode cX11_dummies 0 = .ok (.iconst 0, 1) := by decide +kernel
theorem dX11_dummies_1 : decode cX11_dummies 1 = .ok (.istore_n 1, 1) := by decide +kernel
theorem dX11_dummies_2 : decode cX11_dummies 2 = .ok (.iconst 0, 1) := by decide +kernel
theorem dX11_dummies_3 : decode cX11_dummies 3 = .ok (.istore_n 2, 1) := by decide +kernel
theorem dX11_dummies_4 : decode cX11_dummies 4 = .ok (.iload_n 2, 1) := by decide +kernel
theorem dX11_dummies_5 : decode cX11_dummies 5 = .ok (.aload_n 0, 1) := by decide +kernel
theorem dX11_dummies_6 : decode cX11_dummies 6 = .ok (.getfield 20, 3) := by decide +kernel
theorem dX11_dummies_9 : decode cX11_dummies 9 = .ok (.getfield 121, 3) := by decide +kernel
theorem dX11_dummies_12 : decode cX11_dummies 12 = .ok (.if_icmp .ge 26, 3) := by decide +kernel
theorem dX11_dummies_15 : decode cX11_dummies 15 = .ok (.aload_n 0, 1) := by decide +kernel
theorem dX11_dummies_16 : decode cX11_dummies 16 = .ok (.getfield 85, 3) := by decide +kernel
theorem dX11_dummies_19 : decode cX11_dummies 19 = .ok (.iload_n 2, 1) := by decide +kernel
theorem dX11_dummies_20 : decode cX11_dummies 20 = .ok (.invokevirtual 369, 3) := by decide +kernel
theorem dX11_dummies_23 : decode cX11_dummies 23 = .ok (.ifCond .ne 9, 3) := by decide +kernel
theorem dX11_dummies_26 : decode cX11_dummies 26 = .ok (.iload_n 1, 1) := by decide +kernel
theorem dX11_dummies_27 : decode cX11_dummies 27 = .ok (.iconst 1, 1) := by decide +kernel
theorem dX11_dummies_28 : decode cX11_dummies 28 = .ok (.iload_n 2, 1) := by decide +kernel
theorem dX11_dummies_29 : decode cX11_dummies 29 = .ok (.ishl, 1) := by decide +kernel
theorem dX11_dummies_30 : decode cX11_dummies 30 = .ok (.ior, 1) := by decide +kernel
theorem dX11_dummies_31 : decode cX11_dummies 31 = .ok (.istore_n 1, 1) := by decide +kernel
theorem dX11_dummies_32 : decode cX11_dummies 32 = .ok (.iinc 2 1, 3) := by decide +kernel
theorem dX11_dummies_35 : decode cX11_dummies 35 = .ok (.goto (-31), 3) := by decide +kernel
theorem dX11_dummies_38 : decode cX11_dummies 38 = .ok (.iload_n 1, 1) := by decide +kernel
theorem dX11_dummies_39 : decode cX11_dummies 39 = .ok (.ireturn, 1) := by decide +kernel
theorem dX11_veto_0 : decode cX11_veto 0 = .ok (.iconst 1, 1) := by decide +kernel
theorem dX11_veto_1 : decode cX11_veto 1 = .ok (.aload_n 0, 1) := by decide +kernel
theorem dX11_veto_2 : decode cX11_veto 2 = .ok (.getfield 20, 3) := by decide +kernel
theorem dX11_veto_5 : decode cX11_veto 5 = .ok (.getfield 121, 3) := by decide +kernel
theorem dX11_veto_8 : decode cX11_veto 8 = .ok (.ishl, 1) := by decide +kernel
theorem dX11_veto_9 : decode cX11_veto 9 = .ok (.iconst 1, 1) := by decide +kernel
theorem dX11_veto_10 : decode cX11_veto 10 = .ok (.isub, 1) := by decide +kernel
theorem dX11_veto_11 : decode cX11_veto 11 = .ok (.istore_n 1, 1) := by decide +kernel
theorem dX11_veto_12 : decode cX11_veto 12 = .ok (.iconst 0, 1) := by decide +kernel
theorem dX11_veto_13 : decode cX11_veto 13 = .ok (.istore_n 2, 1) := by decide +kernel
theorem dX11_veto_14 : decode cX11_veto 14 = .ok (.iload_n 2, 1) := by decide +kernel
theorem dX11_veto_15 : decode cX11_veto 15 = .ok (.iconst 1, 1) := by decide +kernel
theorem dX11_veto_16 : decode cX11_veto 16 = .ok (.aload_n 0, 1) := by decide +kernel
theorem dX11_veto_17 : decode cX11_veto 17 = .ok (.getfield 20, 3) := by decide +kernel
theorem dX11_veto_20 : decode cX11_veto 20 = .ok (.getfield 121, 3) := by decide +kernel
theorem dX11_veto_23 : decode cX11_veto 23 = .ok (.ishl, 1) := by decide +kernel
theorem dX11_veto_24 : decode cX11_veto 24 = .ok (.if_icmp .ge 24, 3) := by decide +kernel
theorem dX11_veto_27 : decode cX11_veto 27 = .ok (.aload_n 0, 1) := by decide +kernel
theorem dX11_veto_28 : decode cX11_veto 28 = .ok (.getfield 85, 3) := by decide +kernel
theorem dX11_veto_31 : decode cX11_veto 31 = .ok (.iload_n 2, 1) := by decide +kernel
theorem dX11_veto_32 : decode cX11_veto 32 = .ok (.invokevirtual 372, 3) := by decide +kernel
theorem dX11_veto_35 : decode cX11_veto 35 = .ok (.ifCond .eq 7, 3) := by decide +kernel
theorem dX11_veto_38 : decode cX11_veto 38 = .ok (.iload_n 1, 1) := by decide +kernel
theorem dX11_veto_39 : decode cX11_veto 39 = .ok (.iload_n 2, 1) := by decide +kernel
theorem dX11_veto_40 : decode cX11_veto 40 = .ok (.iand, 1) := by decide +kernel
theorem dX11_veto_41 : decode cX11_veto 41 = .ok (.istore_n 1, 1) := by decide +kernel
theorem dX11_veto_42 : decode cX11_veto 42 = .ok (.iinc 2 1, 3) := by decide +kernel
theorem dX11_veto_45 : decode cX11_veto 45 = .ok (.goto (-31), 3) := by decide +kernel
theorem dX11_veto_48 : decode cX11_veto 48 = .ok (.iload_n 1, 1) := by decide +kernel
theorem dX11_veto_49 : decode cX11_veto 49 = .ok (.ireturn, 1) := by decide +kernel
theorem dX11_coalitions_0 : decode cX11_coalitions 0 = .ok (.iconst 0, 1) := by decide +kernel
theorem dX11_coalitions_1 : decode cX11_coalitions 1 = .ok (.istore_n 1, 1) := by decide +kernel
theorem dX11_coalitions_2 : decode cX11_coalitions 2 = .ok (.iconst 0, 1) := by decide +kernel
theorem dX11_coalitions_3 : decode cX11_coalitions 3 = .ok (.istore_n 2, 1) := by decide +kernel
theorem dX11_coalitions_4 : decode cX11_coalitions 4 = .ok (.iload_n 2, 1) := by decide +kernel
theorem dX11_coalitions_5 : decode cX11_coalitions 5 = .ok (.iconst 1, 1) := by decide +kernel
theorem dX11_coalitions_6 : decode cX11_coalitions 6 = .ok (.aload_n 0, 1) := by decide +kernel
theorem dX11_coalitions_7 : decode cX11_coalitions 7 = .ok (.getfield 20, 3) := by decide +kernel
theorem dX11_coalitions_10 : decode cX11_coalitions 10 = .ok (.getfield 121, 3) := by decide +kernel
theorem dX11_coalitions_13 : decode cX11_coalitions 13 = .ok (.ishl, 1) := by decide +kernel
theorem dX11_coalitions_14 : decode cX11_coalitions 14 = .ok (.if_icmp .ge 23, 3) := by decide +kernel
theorem dX11_coalitions_17 : decode cX11_coalitions 17 = .ok (.aload_n 0, 1) := by decide +kernel
theorem dX11_coalitions_18 : decode cX11_coalitions 18 = .ok (.getfield 85, 3) := by decide +kernel
theorem dX11_coalitions_21 : decode cX11_coalitions 21 = .ok (.iload_n 2, 1) := by decide +kernel
theorem dX11_coalitions_22 : decode cX11_coalitions 22 = .ok (.invokevirtual 372, 3) := by decide +kernel
theorem dX11_coalitions_25 : decode cX11_coalitions 25 = .ok (.ifCond .eq 6, 3) := by decide +kernel
theorem dX11_coalitions_28 : decode cX11_coalitions 28 = .ok (.iinc 1 1, 3) := by decide +kernel
theorem dX11_coalitions_31 : decode cX11_coalitions 31 = .ok (.iinc 2 1, 3) := by decide +kernel
theorem dX11_coalitions_34 : decode cX11_coalitions 34 = .ok (.goto (-30), 3) := by decide +kernel
theorem dX11_coalitions_37 : decode cX11_coalitions 37 = .ok (.iload_n 1, 1) := by decide +kernel
theorem dX11_coalitions_38 : decode cX11_coalitions 38 = .ok (.ireturn, 1) := by decide +kernel
theorem dX11_said_0 : decode cX11_said 0 = .ok (.iload_n 1, 1) := by decide +kernel
theorem dX11_said_1 : decode cX11_said 1 = .ok (.iconst (-1), 1) := by decide +kernel
theorem dX11_said_2 : decode cX11_said 2 = .ok (.if_icmp .ne 13, 3) := by decide +kernel
theorem dX11_said_5 : decode cX11_said 5 = .ok (.aload_n 0, 1) := by decide +kernel
theorem dX11_said_6 : decode cX11_said 6 = .ok (.getfield 10, 3) := by decide +kernel
theorem dX11_said_9 : decode cX11_said 9 = .ok (.iconst 0, 1) := by decide +kernel
theorem dX11_said_10 : decode cX11_said 10 = .ok (.putfield 375, 3) := by decide +kernel
theorem dX11_said_13 : decode cX11_said 13 = .ok (.iconst 0, 1) := by decide +kernel
theorem dX11_said_14 : decode cX11_said 14 = .ok (.ireturn, 1) := by decide +kernel
theorem dX11_said_15 : decode cX11_said 15 = .ok (.aload_n 0, 1) := by decide +kernel
theorem dX11_said_16 : decode cX11_said 16 = .ok (.getfield 10, 3) := by decide +kernel
theorem dX11_said_19 : decode cX11_said 19 = .ok (.getfield 375, 3) := by decide +kernel
theorem dX11_said_22 : decode cX11_said 22 = .ok (.istore_n 3, 1) := by decide +kernel
theorem dX11_said_23 : decode cX11_said 23 = .ok (.aload_n 0, 1) := by decide +kernel
theorem dX11_said_24 : decode cX11_said 24 = .ok (.iload_n 1, 1) := by decide +kernel
theorem dX11_said_25 : decode cX11_said 25 = .ok (.invokevirtual 240, 3) := by decide +kernel
theorem dX11_said_28 : decode cX11_said 28 = .ok (.ifCond .eq 25, 3) := by decide +kernel
theorem dX11_said_31 : decode cX11_said 31 = .ok (.iload_n 2, 1) := by decide +kernel
theorem dX11_said_32 : decode cX11_said 32 = .ok (.bipush (-99), 2) := by decide +kernel
theorem dX11_said_34 : decode cX11_said 34 = .ok (.if_icmp .lt 19, 3) := by decide +kernel
theorem dX11_said_37 : decode cX11_said 37 = .ok (.iload_n 2, 1) := by decide +kernel
theorem dX11_said_38 : decode cX11_said 38 = .ok (.bipush 99, 2) := by decide +kernel
theorem dX11_said_40 : decode cX11_said 40 = .ok (.if_icmp .gt 13, 3) := by decide +kernel
theorem dX11_said_43 : decode cX11_said 43 = .ok (.iload_n 3, 1) := by decide +kernel
theorem dX11_said_44 : decode cX11_said 44 = .ok (.ifCond .lt 9, 3) := by decide +kernel
theorem dX11_said_47 : decode cX11_said 47 = .ok (.iload_n 3, 1) := by decide +kernel
theorem dX11_said_48 : decode cX11_said 48 = .ok (.bipush 8, 2) := by decide +kernel
theorem dX11_said_50 : decode cX11_said 50 = .ok (.if_icmp .lt 6, 3) := by decide +kernel
theorem dX11_said_53 : decode cX11_said 53 = .ok (.bipush (-2), 2) := by decide +kernel
theorem dX11_said_55 : decode cX11_said 55 = .ok (.ireturn, 1) := by decide +kernel
theorem dX11_said_56 : decode cX11_said 56 = .ok (.aload_n 0, 1) := by decide +kernel
theorem dX11_said_57 : decode cX11_said 57 = .ok (.getfield 10, 3) := by decide +kernel
theorem dX11_said_60 : decode cX11_said 60 = .ok (.getfield 378, 3) := by decide +kernel
theorem dX11_said_63 : decode cX11_said 63 = .ok (.iload_n 3, 1) := by decide +kernel
theorem dX11_said_64 : decode cX11_said 64 = .ok (.iload_n 1, 1) := by decide +kernel
theorem dX11_said_65 : decode cX11_said 65 = .ok (.iastore, 1) := by decide +kernel
theorem dX11_said_66 : decode cX11_said 66 = .ok (.aload_n 0, 1) := by decide +kernel
theorem dX11_said_67 : decode cX11_said 67 = .ok (.getfield 10, 3) := by decide +kernel
theorem dX11_said_70 : decode cX11_said 70 = .ok (.getfield 381, 3) := by decide +kernel
theorem dX11_said_73 : decode cX11_said 73 = .ok (.iload_n 3, 1) := by decide +kernel
theorem dX11_said_74 : decode cX11_said 74 = .ok (.iload_n 2, 1) := by decide +kernel
theorem dX11_said_75 : decode cX11_said 75 = .ok (.iastore, 1) := by decide +kernel
theorem dX11_said_76 : decode cX11_said 76 = .ok (.aload_n 0, 1) := by decide +kernel
theorem dX11_said_77 : decode cX11_said 77 = .ok (.getfield 10, 3) := by decide +kernel
theorem dX11_said_80 : decode cX11_said 80 = .ok (.dup, 1) := by decide +kernel
theorem dX11_said_81 : decode cX11_said 81 = .ok (.getfield 375, 3) := by decide +kernel
theorem dX11_said_84 : decode cX11_said 84 = .ok (.iconst 1, 1) := by decide +kernel
theorem dX11_said_85 : decode cX11_said 85 = .ok (.iadd, 1) := by decide +kernel
theorem dX11_said_86 : decode cX11_said 86 = .ok (.putfield 375, 3) := by decide +kernel
theorem dX11_said_89 : decode cX11_said 89 = .ok (.aload_n 0, 1) := by decide +kernel
theorem dX11_said_90 : decode cX11_said 90 = .ok (.getfield 10, 3) := by decide +kernel
theorem dX11_said_93 : decode cX11_said 93 = .ok (.getfield 375, 3) := by decide +kernel
theorem dX11_said_96 : decode cX11_said 96 = .ok (.ireturn, 1) := by decide +kernel
theorem dX11_whose_0 : decode cX11_whose 0 = .ok (.iconst 0, 1) := by decide +kernel
theorem dX11_whose_1 : decode cX11_whose 1 = .ok (.istore_n 1, 1) := by decide +kernel
theorem dX11_whose_2 : decode cX11_whose 2 = .ok (.iconst 0, 1) := by decide +kernel
theorem dX11_whose_3 : decode cX11_whose 3 = .ok (.istore_n 2, 1) := by decide +kernel
theorem dX11_whose_4 : decode cX11_whose 4 = .ok (.iload_n 2, 1) := by decide +kernel
theorem dX11_whose_5 : decode cX11_whose 5 = .ok (.aload_n 0, 1) := by decide +kernel
theorem dX11_whose_6 : decode cX11_whose 6 = .ok (.getfield 10, 3) := by decide +kernel
theorem dX11_whose_9 : decode cX11_whose 9 = .ok (.getfield 147, 3) := by decide +kernel
theorem dX11_whose_12 : decode cX11_whose 12 = .ok (.if_icmp .ge 27, 3) := by decide +kernel
theorem dX11_whose_15 : decode cX11_whose 15 = .ok (.aload_n 0, 1) := by decide +kernel
theorem dX11_whose_16 : decode cX11_whose 16 = .ok (.aload_n 0, 1) := by decide +kernel
theorem dX11_whose_17 : decode cX11_whose 17 = .ok (.iload_n 2, 1) := by decide +kernel
theorem dX11_whose_18 : decode cX11_whose 18 = .ok (.invokevirtual 204, 3) := by decide +kernel
theorem dX11_whose_21 : decode cX11_whose 21 = .ok (.invokevirtual 384, 3) := by decide +kernel
theorem dX11_whose_24 : decode cX11_whose 24 = .ok (.ifCond .eq 9, 3) := by decide +kernel
theorem dX11_whose_27 : decode cX11_whose 27 = .ok (.iload_n 1, 1) := by decide +kernel
theorem dX11_whose_28 : decode cX11_whose 28 = .ok (.iconst 1, 1) := by decide +kernel
theorem dX11_whose_29 : decode cX11_whose 29 = .ok (.iload_n 2, 1) := by decide +kernel
theorem dX11_whose_30 : decode cX11_whose 30 = .ok (.ishl, 1) := by decide +kernel
theorem dX11_whose_31 : decode cX11_whose 31 = .ok (.ior, 1) := by decide +kernel
theorem dX11_whose_32 : decode cX11_whose 32 = .ok (.istore_n 1, 1) := by decide +kernel
theorem dX11_whose_33 : decode cX11_whose 33 = .ok (.iinc 2 1, 3) := by decide +kernel
theorem dX11_whose_36 : decode cX11_whose 36 = .ok (.goto (-32), 3) := by decide +kernel
theorem dX11_whose_39 : decode cX11_whose 39 = .ok (.iload_n 1, 1) := by decide +kernel
theorem dX11_whose_40 : decode cX11_whose 40 = .ok (.ireturn, 1) := by decide +kernel
theorem dX11_richest_0 : decode cX11_richest 0 = .ok (.iconst (-1), 1) := by decide +kernel
theorem dX11_richest_1 : decode cX11_richest 1 = .ok (.istore_n 1, 1) := by decide +kernel
theorem dX11_richest_2 : decode cX11_richest 2 = .ok (.iconst 0, 1) := by decide +kernel
theorem dX11_richest_3 : decode cX11_richest 3 = .ok (.istore_n 2, 1) := by decide +kernel
theorem dX11_richest_4 : decode cX11_richest 4 = .ok (.iconst 0, 1) := by decide +kernel
theorem dX11_richest_5 : decode cX11_richest 5 = .ok (.istore_n 3, 1) := by decide +kernel
theorem dX11_richest_6 : decode cX11_richest 6 = .ok (.iload_n 3, 1) := by decide +kernel
theorem dX11_richest_7 : decode cX11_richest 7 = .ok (.aload_n 0, 1) := by decide +kernel
theorem dX11_richest_8 : decode cX11_richest 8 = .ok (.getfield 20, 3) := by decide +kernel
theorem dX11_richest_11 : decode cX11_richest 11 = .ok (.getfield 121, 3) := by decide +kernel
theorem dX11_richest_14 : decode cX11_richest 14 = .ok (.if_icmp .ge 36, 3) := by decide +kernel
theorem dX11_richest_17 : decode cX11_richest 17 = .ok (.aload_n 0, 1) := by decide +kernel
theorem dX11_richest_18 : decode cX11_richest 18 = .ok (.getfield 20, 3) := by decide +kernel
theorem dX11_richest_21 : decode cX11_richest 21 = .ok (.bipush 20, 2) := by decide +kernel
theorem dX11_richest_23 : decode cX11_richest 23 = .ok (.iload_n 3, 1) := by decide +kernel
theorem dX11_richest_24 : decode cX11_richest 24 = .ok (.iadd, 1) := by decide +kernel
theorem dX11_richest_25 : decode cX11_richest 25 = .ok (.invokevirtual 247, 3) := by decide +kernel
theorem dX11_richest_28 : decode cX11_richest 28 = .ok (.invokestatic 388, 3) := by decide +kernel
theorem dX11_richest_31 : decode cX11_richest 31 = .ok (.istore 4, 2) := by decide +kernel
theorem dX11_richest_33 : decode cX11_richest 33 = .ok (.iload 4, 2) := by decide +kernel
theorem dX11_richest_35 : decode cX11_richest 35 = .ok (.iload_n 2, 1) := by decide +kernel
theorem dX11_richest_36 : decode cX11_richest 36 = .ok (.if_icmp .le 8, 3) := by decide +kernel
theorem dX11_richest_39 : decode cX11_richest 39 = .ok (.iload 4, 2) := by decide +kernel
theorem dX11_richest_41 : decode cX11_richest 41 = .ok (.istore_n 2, 1) := by decide +kernel
theorem dX11_richest_42 : decode cX11_richest 42 = .ok (.iload_n 3, 1) := by decide +kernel
theorem dX11_richest_43 : decode cX11_richest 43 = .ok (.istore_n 1, 1) := by decide +kernel
theorem dX11_richest_44 : decode cX11_richest 44 = .ok (.iinc 3 1, 3) := by decide +kernel
theorem dX11_richest_47 : decode cX11_richest 47 = .ok (.goto (-41), 3) := by decide +kernel
theorem dX11_richest_50 : decode cX11_richest 50 = .ok (.iload_n 1, 1) := by decide +kernel
theorem dX11_richest_51 : decode cX11_richest 51 = .ok (.ireturn, 1) := by decide +kernel
theorem dX11_next_0 : decode cX11_next 0 = .ok (.iconst (-1), 1) := by decide +kernel
theorem dX11_next_1 : decode cX11_next 1 = .ok (.istore_n 1, 1) := by decide +kernel
theorem dX11_next_2 : decode cX11_next 2 = .ok (.iconst (-1), 1) := by decide +kernel
theorem dX11_next_3 : decode cX11_next 3 = .ok (.istore_n 2, 1) := by decide +kernel
theorem dX11_next_4 : decode cX11_next 4 = .ok (.iconst 0, 1) := by decide +kernel
theorem dX11_next_5 : decode cX11_next 5 = .ok (.istore_n 3, 1) := by decide +kernel
theorem dX11_next_6 : decode cX11_next 6 = .ok (.iload_n 3, 1) := by decide +kernel
theorem dX11_next_7 : decode cX11_next 7 = .ok (.aload_n 0, 1) := by decide +kernel
theorem dX11_next_8 : decode cX11_next 8 = .ok (.getfield 20, 3) := by decide +kernel
theorem dX11_next_11 : decode cX11_next 11 = .ok (.getfield 106, 3) := by decide +kernel
theorem dX11_next_14 : decode cX11_next 14 = .ok (.if_icmp .ge 44, 3) := by decide +kernel
theorem dX11_next_17 : decode cX11_next 17 = .ok (.iload_n 3, 1) := by decide +kernel
theorem dX11_next_18 : decode cX11_next 18 = .ok (.bipush 6, 2) := by decide +kernel
theorem dX11_next_20 : decode cX11_next 20 = .ok (.if_icmp .ge 38, 3) := by decide +kernel
theorem dX11_next_23 : decode cX11_next 23 = .ok (.aload_n 0, 1) := by decide +kernel
theorem dX11_next_24 : decode cX11_next 24 = .ok (.getfield 20, 3) := by decide +kernel
theorem dX11_next_27 : decode cX11_next 27 = .ok (.getfield 115, 3) := by decide +kernel
theorem dX11_next_30 : decode cX11_next 30 = .ok (.iload_n 3, 1) := by decide +kernel
theorem dX11_next_31 : decode cX11_next 31 = .ok (.iaload, 1) := by decide +kernel
theorem dX11_next_32 : decode cX11_next 32 = .ok (.istore 4, 2) := by decide +kernel
theorem dX11_next_34 : decode cX11_next 34 = .ok (.iload 4, 2) := by decide +kernel
theorem dX11_next_36 : decode cX11_next 36 = .ok (.bipush 10, 2) := by decide +kernel
theorem dX11_next_38 : decode cX11_next 38 = .ok (.if_icmp .ge 14, 3) := by decide +kernel
theorem dX11_next_41 : decode cX11_next 41 = .ok (.iload 4, 2) := by decide +kernel
theorem dX11_next_43 : decode cX11_next 43 = .ok (.iload_n 2, 1) := by decide +kernel
theorem dX11_next_44 : decode cX11_next 44 = .ok (.if_icmp .le 8, 3) := by decide +kernel
theorem dX11_next_47 : decode cX11_next 47 = .ok (.iload 4, 2) := by decide +kernel
theorem dX11_next_49 : decode cX11_next 49 = .ok (.istore_n 2, 1) := by decide +kernel
theorem dX11_next_50 : decode cX11_next 50 = .ok (.iload_n 3, 1) := by decide +kernel
theorem dX11_next_51 : decode cX11_next 51 = .ok (.istore_n 1, 1) := by decide +kernel
theorem dX11_next_52 : decode cX11_next 52 = .ok (.iinc 3 1, 3) := by decide +kernel
theorem dX11_next_55 : decode cX11_next 55 = .ok (.goto (-49), 3) := by decide +kernel
theorem dX11_next_58 : decode cX11_next 58 = .ok (.iload_n 1, 1) := by decide +kernel
theorem dX11_next_59 : decode cX11_next 59 = .ok (.ireturn, 1) := by decide +kernel
theorem dX11_frozen_0 : decode cX11_frozen 0 = .ok (.aload_n 0, 1) := by decide +kernel
theorem dX11_frozen_1 : decode cX11_frozen 1 = .ok (.getfield 20, 3) := by decide +kernel
theorem dX11_frozen_4 : decode cX11_frozen 4 = .ok (.iconst (-1), 1) := by decide +kernel
theorem dX11_frozen_5 : decode cX11_frozen 5 = .ok (.invokevirtual 247, 3) := by decide +kernel
theorem dX11_frozen_8 : decode cX11_frozen 8 = .ok (.ireturn, 1) := by decide +kernel
theorem dX11_ledger_0 : decode cX11_ledger 0 = .ok (.iload_n 1, 1) := by decide +kernel
theorem dX11_ledger_1 : decode cX11_ledger 1 = .ok (.ifCond .lt 8, 3) := by decide +kernel
theorem dX11_ledger_4 : decode cX11_ledger 4 = .ok (.iload_n 1, 1) := by decide +kernel
theorem dX11_ledger_5 : decode cX11_ledger 5 = .ok (.iconst 2, 1) := by decide +kernel
theorem dX11_ledger_6 : decode cX11_ledger 6 = .ok (.if_icmp .le 6, 3) := by decide +kernel
theorem dX11_ledger_9 : decode cX11_ledger 9 = .ok (.bipush (-2), 2) := by decide +kernel
theorem dX11_ledger_11 : decode cX11_ledger 11 = .ok (.ireturn, 1) := by decide +kernel
theorem dX11_ledger_12 : decode cX11_ledger 12 = .ok (.iconst 0, 1) := by decide +kernel
theorem dX11_ledger_13 : decode cX11_ledger 13 = .ok (.istore_n 2, 1) := by decide +kernel
theorem dX11_ledger_14 : decode cX11_ledger 14 = .ok (.iconst 0, 1) := by decide +kernel
theorem dX11_ledger_15 : decode cX11_ledger 15 = .ok (.istore_n 3, 1) := by decide +kernel
theorem dX11_ledger_16 : decode cX11_ledger 16 = .ok (.iload_n 3, 1) := by decide +kernel
theorem dX11_ledger_17 : decode cX11_ledger 17 = .ok (.aload_n 0, 1) := by decide +kernel
theorem dX11_ledger_18 : decode cX11_ledger 18 = .ok (.getfield 20, 3) := by decide +kernel
theorem dX11_ledger_21 : decode cX11_ledger 21 = .ok (.getfield 268, 3) := by decide +kernel
theorem dX11_ledger_24 : decode cX11_ledger 24 = .ok (.if_icmp .ge 37, 3) := by decide +kernel
theorem dX11_ledger_27 : decode cX11_ledger 27 = .ok (.iload_n 3, 1) := by decide +kernel
theorem dX11_ledger_28 : decode cX11_ledger 28 = .ok (.bipush 30, 2) := by decide +kernel
theorem dX11_ledger_30 : decode cX11_ledger 30 = .ok (.if_icmp .ge 31, 3) := by decide +kernel
theorem dX11_ledger_33 : decode cX11_ledger 33 = .ok (.aload_n 0, 1) := by decide +kernel
theorem dX11_ledger_34 : decode cX11_ledger 34 = .ok (.getfield 20, 3) := by decide +kernel
theorem dX11_ledger_37 : decode cX11_ledger 37 = .ok (.getfield 271, 3) := by decide +kernel
theorem dX11_ledger_40 : decode cX11_ledger 40 = .ok (.iload_n 3, 1) := by decide +kernel
theorem dX11_ledger_41 : decode cX11_ledger 41 = .ok (.iaload, 1) := by decide +kernel
theorem dX11_ledger_42 : decode cX11_ledger 42 = .ok (.bipush 10, 2) := by decide +kernel
theorem dX11_ledger_44 : decode cX11_ledger 44 = .ok (.idiv, 1) := by decide +kernel
theorem dX11_ledger_45 : decode cX11_ledger 45 = .ok (.bipush 10, 2) := by decide +kernel
theorem dX11_ledger_47 : decode cX11_ledger 47 = .ok (.irem, 1) := by decide +kernel
theorem dX11_ledger_48 : decode cX11_ledger 48 = .ok (.iload_n 1, 1) := by decide +kernel
theorem dX11_ledger_49 : decode cX11_ledger 49 = .ok (.if_icmp .ne 6, 3) := by decide +kernel
theorem dX11_ledger_52 : decode cX11_ledger 52 = .ok (.iinc 2 1, 3) := by decide +kernel
theorem dX11_ledger_55 : decode cX11_ledger 55 = .ok (.iinc 3 1, 3) := by decide +kernel
theorem dX11_ledger_58 : decode cX11_ledger 58 = .ok (.goto (-42), 3) := by decide +kernel
theorem dX11_ledger_61 : decode cX11_ledger 61 = .ok (.iload_n 2, 1) := by decide +kernel
theorem dX11_ledger_62 : decode cX11_ledger 62 = .ok (.ireturn, 1) := by decide +kernel
theorem dX11_image_0 : decode cX11_image 0 = .ok (.aload_n 0, 1) := by decide +kernel
theorem dX11_image_1 : decode cX11_image 1 = .ok (.getfield 21, 3) := by decide +kernel
theorem dX11_image_4 : decode cX11_image 4 = .ok (.aload_n 0, 1) := by decide +kernel
theorem dX11_image_5 : decode cX11_image 5 = .ok (.getfield 10, 3) := by decide +kernel
theorem dX11_image_8 : decode cX11_image 8 = .ok (.invokevirtual 393, 3) := by decide +kernel
theorem dX11_image_11 : decode cX11_image 11 = .ok (.aload_n 0, 1) := by decide +kernel
theorem dX11_image_12 : decode cX11_image 12 = .ok (.getfield 20, 3) := by decide +kernel
theorem dX11_image_15 : decode cX11_image 15 = .ok (.getfield 198, 3) := by decide +kernel
theorem dX11_image_18 : decode cX11_image 18 = .ok (.ireturn, 1) := by decide +kernel
theorem dX11_back_0 : decode cX11_back 0 = .ok (.aload_n 0, 1) := by decide +kernel
theorem dX11_back_1 : decode cX11_back 1 = .ok (.getfield 10, 3) := by decide +kernel
theorem dX11_back_4 : decode cX11_back 4 = .ok (.aload_n 0, 1) := by decide +kernel
theorem dX11_back_5 : decode cX11_back 5 = .ok (.getfield 21, 3) := by decide +kernel
theorem dX11_back_8 : decode cX11_back 8 = .ok (.invokevirtual 393, 3) := by decide +kernel
theorem dX11_back_11 : decode cX11_back 11 = .ok (.aload_n 0, 1) := by decide +kernel
theorem dX11_back_12 : decode cX11_back 12 = .ok (.getfield 20, 3) := by decide +kernel
theorem dX11_back_15 : decode cX11_back 15 = .ok (.getfield 198, 3) := by decide +kernel
theorem dX11_back_18 : decode cX11_back 18 = .ok (.ireturn, 1) := by decide +kernel
theorem dX11_about_0 : decode cX11_about 0 = .ok (.iload_n 1, 1) := by decide +kernel
theorem dX11_about_1 : decode cX11_about 1 = .ok (.tableswitch 111 0 7 #[47, 55, 63, 71, 79, 90, 98, 106], 47) := by decide +kernel
theorem dX11_about_48 : decode cX11_about 48 = .ok (.aload_n 0, 1) := by decide +kernel
theorem dX11_about_49 : decode cX11_about 49 = .ok (.getfield 20, 3) := by decide +kernel
theorem dX11_about_52 : decode cX11_about 52 = .ok (.getfield 106, 3) := by decide +kernel
theorem dX11_about_55 : decode cX11_about 55 = .ok (.ireturn, 1) := by decide +kernel
theorem dX11_about_56 : decode cX11_about 56 = .ok (.aload_n 0, 1) := by decide +kernel
theorem dX11_about_57 : decode cX11_about 57 = .ok (.getfield 20, 3) := by decide +kernel
theorem dX11_about_60 : decode cX11_about 60 = .ok (.getfield 121, 3) := by decide +kernel
theorem dX11_about_63 : decode cX11_about 63 = .ok (.ireturn, 1) := by decide +kernel
theorem dX11_about_64 : decode cX11_about 64 = .ok (.aload_n 0, 1) := by decide +kernel
theorem dX11_about_65 : decode cX11_about 65 = .ok (.getfield 10, 3) := by decide +kernel
theorem dX11_about_68 : decode cX11_about 68 = .ok (.getfield 147, 3) := by decide +kernel
theorem dX11_about_71 : decode cX11_about 71 = .ok (.ireturn, 1) := by decide +kernel
theorem dX11_about_72 : decode cX11_about 72 = .ok (.aload_n 0, 1) := by decide +kernel
theorem dX11_about_73 : decode cX11_about 73 = .ok (.getfield 10, 3) := by decide +kernel
theorem dX11_about_76 : decode cX11_about 76 = .ok (.getfield 169, 3) := by decide +kernel
theorem dX11_about_79 : decode cX11_about 79 = .ok (.ireturn, 1) := by decide +kernel
theorem dX11_about_80 : decode cX11_about 80 = .ok (.aload_n 0, 1) := by decide +kernel
theorem dX11_about_81 : decode cX11_about 81 = .ok (.getfield 10, 3) := by decide +kernel
theorem dX11_about_84 : decode cX11_about 84 = .ok (.getfield 175, 3) := by decide +kernel
theorem dX11_about_87 : decode cX11_about 87 = .ok (.getfield 237, 3) := by decide +kernel
theorem dX11_about_90 : decode cX11_about 90 = .ok (.ireturn, 1) := by decide +kernel
theorem dX11_about_91 : decode cX11_about 91 = .ok (.aload_n 0, 1) := by decide +kernel
theorem dX11_about_92 : decode cX11_about 92 = .ok (.getfield 10, 3) := by decide +kernel
theorem dX11_about_95 : decode cX11_about 95 = .ok (.getfield 347, 3) := by decide +kernel
theorem dX11_about_98 : decode cX11_about 98 = .ok (.ireturn, 1) := by decide +kernel
theorem dX11_about_99 : decode cX11_about 99 = .ok (.aload_n 0, 1) := by decide +kernel
theorem dX11_about_100 : decode cX11_about 100 = .ok (.getfield 10, 3) := by decide +kernel
theorem dX11_about_103 : decode cX11_about 103 = .ok (.getfield 375, 3) := by decide +kernel
theorem dX11_about_106 : decode cX11_about 106 = .ok (.ireturn, 1) := by decide +kernel
theorem dX11_about_107 : decode cX11_about 107 = .ok (.aload_n 0, 1) := by decide +kernel
theorem dX11_about_108 : decode cX11_about 108 = .ok (.getfield 140, 3) := by decide +kernel
theorem dX11_about_111 : decode cX11_about 111 = .ok (.ireturn, 1) := by decide +kernel
theorem dX11_about_112 : decode cX11_about 112 = .ok (.bipush (-2), 2) := by decide +kernel
theorem dX11_about_114 : decode cX11_about 114 = .ok (.ireturn, 1) := by decide +kernel
theorem dX11_isName_0 : decode cX11_isName 0 = .ok (.iload_n 1, 1) := by decide +kernel
theorem dX11_isName_1 : decode cX11_isName 1 = .ok (.ifCond .lt 24, 3) := by decide +kernel
theorem dX11_isName_4 : decode cX11_isName 4 = .ok (.iload_n 1, 1) := by decide +kernel
theorem dX11_isName_5 : decode cX11_isName 5 = .ok (.aload_n 0, 1) := by decide +kernel
theorem dX11_isName_6 : decode cX11_isName 6 = .ok (.getfield 20, 3) := by decide +kernel
theorem dX11_isName_9 : decode cX11_isName 9 = .ok (.getfield 106, 3) := by decide +kernel
theorem dX11_isName_12 : decode cX11_isName 12 = .ok (.if_icmp .ge 13, 3) := by decide +kernel
theorem dX11_isName_15 : decode cX11_isName 15 = .ok (.iload_n 1, 1) := by decide +kernel
theorem dX11_isName_16 : decode cX11_isName 16 = .ok (.bipush 6, 2) := by decide +kernel
theorem dX11_isName_18 : decode cX11_isName 18 = .ok (.if_icmp .ge 7, 3) := by decide +kernel
theorem dX11_isName_21 : decode cX11_isName 21 = .ok (.iconst 1, 1) := by decide +kernel
theorem dX11_isName_22 : decode cX11_isName 22 = .ok (.goto 4, 3) := by decide +kernel
theorem dX11_isName_25 : decode cX11_isName 25 = .ok (.iconst 0, 1) := by decide +kernel
theorem dX11_isName_26 : decode cX11_isName 26 = .ok (.ireturn, 1) := by decide +kernel
theorem dX11_isFamily_0 : decode cX11_isFamily 0 = .ok (.iload_n 1, 1) := by decide +kernel
theorem dX11_isFamily_1 : decode cX11_isFamily 1 = .ok (.ifCond .lt 23, 3) := by decide +kernel
theorem dX11_isFamily_4 : decode cX11_isFamily 4 = .ok (.iload_n 1, 1) := by decide +kernel
theorem dX11_isFamily_5 : decode cX11_isFamily 5 = .ok (.aload_n 0, 1) := by decide +kernel
theorem dX11_isFamily_6 : decode cX11_isFamily 6 = .ok (.getfield 20, 3) := by decide +kernel
theorem dX11_isFamily_9 : decode cX11_isFamily 9 = .ok (.getfield 121, 3) := by decide +kernel
theorem dX11_isFamily_12 : decode cX11_isFamily 12 = .ok (.if_icmp .ge 12, 3) := by decide +kernel
theorem dX11_isFamily_15 : decode cX11_isFamily 15 = .ok (.iload_n 1, 1) := by decide +kernel
theorem dX11_isFamily_16 : decode cX11_isFamily 16 = .ok (.iconst 5, 1) := by decide +kernel
theorem dX11_isFamily_17 : decode cX11_isFamily 17 = .ok (.if_icmp .ge 7, 3) := by decide +kernel
theorem dX11_isFamily_20 : decode cX11_isFamily 20 = .ok (.iconst 1, 1) := by decide +kernel
theorem dX11_isFamily_21 : decode cX11_isFamily 21 = .ok (.goto 4, 3) := by decide +kernel
theorem dX11_isFamily_24 : decode cX11_isFamily 24 = .ok (.iconst 0, 1) := by decide +kernel
theorem dX11_isFamily_25 : decode cX11_isFamily 25 = .ok (.ireturn, 1) := by decide +kernel
theorem dX11_isText_0 : decode cX11_isText 0 = .ok (.iload_n 1, 1) := by decide +kernel
theorem dX11_isText_1 : decode cX11_isText 1 = .ok (.ifCond .lt 23, 3) := by decide +kernel
theorem dX11_isText_4 : decode cX11_isText 4 = .ok (.iload_n 1, 1) := by decide +kernel
theorem dX11_isText_5 : decode cX11_isText 5 = .ok (.aload_n 0, 1) := by decide +kernel
theorem dX11_isText_6 : decode cX11_isText 6 = .ok (.getfield 10, 3) := by decide +kernel
theorem dX11_isText_9 : decode cX11_isText 9 = .ok (.getfield 147, 3) := by decide +kernel
theorem dX11_isText_12 : decode cX11_isText 12 = .ok (.if_icmp .ge 12, 3) := by decide +kernel
theorem dX11_isText_15 : decode cX11_isText 15 = .ok (.iload_n 1, 1) := by decide +kernel
theorem dX11_isText_16 : decode cX11_isText 16 = .ok (.iconst 4, 1) := by decide +kernel
theorem dX11_isText_17 : decode cX11_isText 17 = .ok (.if_icmp .ge 7, 3) := by decide +kernel
theorem dX11_isText_20 : decode cX11_isText 20 = .ok (.iconst 1, 1) := by decide +kernel
theorem dX11_isText_21 : decode cX11_isText 21 = .ok (.goto 4, 3) := by decide +kernel
theorem dX11_isText_24 : decode cX11_isText 24 = .ok (.iconst 0, 1) := by decide +kernel
theorem dX11_isText_25 : decode cX11_isText 25 = .ok (.ireturn, 1) := by decide +kernel
theorem dX11_isCell_0 : decode cX11_isCell 0 = .ok (.iload_n 0, 1) := by decide +kernel
theorem dX11_isCell_1 : decode cX11_isCell 1 = .ok (.ifCond .lt 13, 3) := by decide +kernel
theorem dX11_isCell_4 : decode cX11_isCell 4 = .ok (.iload_n 0, 1) := by decide +kernel
theorem dX11_isCell_5 : decode cX11_isCell 5 = .ok (.bipush 10, 2) := by decide +kernel
theorem dX11_isCell_7 : decode cX11_isCell 7 = .ok (.if_icmp .ge 7, 3) := by decide +kernel
theorem dX11_isCell_10 : decode cX11_isCell 10 = .ok (.iconst 1, 1) := by decide +kernel
theorem dX11_isCell_11 : decode cX11_isCell 11 = .ok (.goto 4, 3) := by decide +kernel
theorem dX11_isCell_14 : decode cX11_isCell 14 = .ok (.iconst 0, 1) := by decide +kernel
theorem dX11_isCell_15 : decode cX11_isCell 15 = .ok (.ireturn, 1) := by decide +kernel
theorem dX11_isWay_0 : decode cX11_isWay 0 = .ok (.iload_n 0, 1) := by decide +kernel
theorem dX11_isWay_1 : decode cX11_isWay 1 = .ok (.invokestatic 124, 3) := by decide +kernel
theorem dX11_isWay_4 : decode cX11_isWay 4 = .ok (.ifCond .eq 19, 3) := by decide +kernel
theorem dX11_isWay_7 : decode cX11_isWay 7 = .ok (.iload_n 1, 1) := by decide +kernel
theorem dX11_isWay_8 : decode cX11_isWay 8 = .ok (.invokestatic 124, 3) := by decide +kernel
theorem dX11_isWay_11 : decode cX11_isWay 11 = .ok (.ifCond .eq 12, 3) := by decide +kernel
theorem dX11_isWay_14 : decode cX11_isWay 14 = .ok (.iload_n 0, 1) := by decide +kernel
theorem dX11_isWay_15 : decode cX11_isWay 15 = .ok (.iload_n 1, 1) := by decide +kernel
theorem dX11_isWay_16 : decode cX11_isWay 16 = .ok (.if_icmp .gt 7, 3) := by decide +kernel
theorem dX11_isWay_19 : decode cX11_isWay 19 = .ok (.iconst 1, 1) := by decide +kernel
theorem dX11_isWay_20 : decode cX11_isWay 20 = .ok (.goto 4, 3) := by decide +kernel
theorem dX11_isWay_23 : decode cX11_isWay 23 = .ok (.iconst 0, 1) := by decide +kernel
theorem dX11_isWay_24 : decode cX11_isWay 24 = .ok (.ireturn, 1) := by decide +kernel
theorem dX11_couldLike_0 : decode cX11_couldLike 0 = .ok (.iload_n 0, 1) := by decide +kernel
theorem dX11_couldLike_1 : decode cX11_couldLike 1 = .ok (.ifCond .lt 32, 3) := by decide +kernel
theorem dX11_couldLike_4 : decode cX11_couldLike 4 = .ok (.iload_n 0, 1) := by decide +kernel
theorem dX11_couldLike_5 : decode cX11_couldLike 5 = .ok (.iconst 5, 1) := by decide +kernel
theorem dX11_couldLike_6 : decode cX11_couldLike 6 = .ok (.if_icmp .ge 27, 3) := by decide +kernel
theorem dX11_couldLike_9 : decode cX11_couldLike 9 = .ok (.iload_n 1, 1) := by decide +kernel
theorem dX11_couldLike_10 : decode cX11_couldLike 10 = .ok (.ifCond .lt 23, 3) := by decide +kernel
theorem dX11_couldLike_13 : decode cX11_couldLike 13 = .ok (.iload_n 1, 1) := by decide +kernel
theorem dX11_couldLike_14 : decode cX11_couldLike 14 = .ok (.bipush 6, 2) := by decide +kernel
theorem dX11_couldLike_16 : decode cX11_couldLike 16 = .ok (.if_icmp .ge 17, 3) := by decide +kernel
theorem dX11_couldLike_19 : decode cX11_couldLike 19 = .ok (.iload_n 2, 1) := by decide +kernel
theorem dX11_couldLike_20 : decode cX11_couldLike 20 = .ok (.ifCond .lt 13, 3) := by decide +kernel
theorem dX11_couldLike_23 : decode cX11_couldLike 23 = .ok (.iload_n 2, 1) := by decide +kernel
theorem dX11_couldLike_24 : decode cX11_couldLike 24 = .ok (.bipush 99, 2) := by decide +kernel
theorem dX11_couldLike_26 : decode cX11_couldLike 26 = .ok (.if_icmp .gt 7, 3) := by decide +kernel
theorem dX11_couldLike_29 : decode cX11_couldLike 29 = .ok (.iconst 1, 1) := by decide +kernel
theorem dX11_couldLike_30 : decode cX11_couldLike 30 = .ok (.goto 4, 3) := by decide +kernel
theorem dX11_couldLike_33 : decode cX11_couldLike 33 = .ok (.iconst 0, 1) := by decide +kernel
theorem dX11_couldLike_34 : decode cX11_couldLike 34 = .ok (.ireturn, 1) := by decide +kernel
theorem dX11_findText_0 : decode cX11_findText 0 = .ok (.aload_n 0, 1) := by decide +kernel
theorem dX11_findText_1 : decode cX11_findText 1 = .ok (.iload_n 1, 1) := by decide +kernel
theorem dX11_findText_2 : decode cX11_findText 2 = .ok (.invokevirtual 166, 3) := by decide +kernel
theorem dX11_findText_5 : decode cX11_findText 5 = .ok (.ifCond .eq 12, 3) := by decide +kernel
theorem dX11_findText_8 : decode cX11_findText 8 = .ok (.aload_n 0, 1) := by decide +kernel
theorem dX11_findText_9 : decode cX11_findText 9 = .ok (.getfield 32, 3) := by decide +kernel
theorem dX11_findText_12 : decode cX11_findText 12 = .ok (.iload_n 1, 1) := by decide +kernel
theorem dX11_findText_13 : decode cX11_findText 13 = .ok (.aaload, 1) := by decide +kernel
theorem dX11_findText_14 : decode cX11_findText 14 = .ok (.goto 4, 3) := by decide +kernel
theorem dX11_findText_17 : decode cX11_findText 17 = .ok (.aconst_null, 1) := by decide +kernel
theorem dX11_findText_18 : decode cX11_findText 18 = .ok (.areturn, 1) := by decide +kernel
theorem dX11_putFour_0 : decode cX11_putFour 0 = .ok (.bipush 24, 2) := by decide +kernel
theorem dX11_putFour_2 : decode cX11_putFour 2 = .ok (.istore_n 2, 1) := by decide +kernel
theorem dX11_putFour_3 : decode cX11_putFour 3 = .ok (.iload_n 2, 1) := by decide +kernel
theorem dX11_putFour_4 : decode cX11_putFour 4 = .ok (.ifCond .lt 52, 3) := by decide +kernel
theorem dX11_putFour_7 : decode cX11_putFour 7 = .ok (.aload_n 0, 1) := by decide +kernel
theorem dX11_putFour_8 : decode cX11_putFour 8 = .ok (.getfield 140, 3) := by decide +kernel
theorem dX11_putFour_11 : decode cX11_putFour 11 = .ok (.ifCond .lt 39, 3) := by decide +kernel
theorem dX11_putFour_14 : decode cX11_putFour 14 = .ok (.aload_n 0, 1) := by decide +kernel
theorem dX11_putFour_15 : decode cX11_putFour 15 = .ok (.getfield 140, 3) := by decide +kernel
theorem dX11_putFour_18 : decode cX11_putFour 18 = .ok (.sipush 300, 3) := by decide +kernel
theorem dX11_putFour_21 : decode cX11_putFour 21 = .ok (.if_icmp .ge 29, 3) := by decide +kernel
theorem dX11_putFour_24 : decode cX11_putFour 24 = .ok (.aload_n 0, 1) := by decide +kernel
theorem dX11_putFour_25 : decode cX11_putFour 25 = .ok (.getfield 37, 3) := by decide +kernel
theorem dX11_putFour_28 : decode cX11_putFour 28 = .ok (.aload_n 0, 1) := by decide +kernel
theorem dX11_putFour_29 : decode cX11_putFour 29 = .ok (.getfield 140, 3) := by decide +kernel
theorem dX11_putFour_32 : decode cX11_putFour 32 = .ok (.iload_n 1, 1) := by decide +kernel
theorem dX11_putFour_33 : decode cX11_putFour 33 = .ok (.iload_n 2, 1) := by decide +kernel
theorem dX11_putFour_34 : decode cX11_putFour 34 = .ok (.iushr, 1) := by decide +kernel
theorem dX11_putFour_35 : decode cX11_putFour 35 = .ok (.sipush 255, 3) := by decide +kernel
theorem dX11_putFour_38 : decode cX11_putFour 38 = .ok (.iand, 1) := by decide +kernel
theorem dX11_putFour_39 : decode cX11_putFour 39 = .ok (.iastore, 1) := by decide +kernel
theorem dX11_putFour_40 : decode cX11_putFour 40 = .ok (.aload_n 0, 1) := by decide +kernel
theorem dX11_putFour_41 : decode cX11_putFour 41 = .ok (.dup, 1) := by decide +kernel
theorem dX11_putFour_42 : decode cX11_putFour 42 = .ok (.getfield 140, 3) := by decide +kernel
theorem dX11_putFour_45 : decode cX11_putFour 45 = .ok (.iconst 1, 1) := by decide +kernel
theorem dX11_putFour_46 : decode cX11_putFour 46 = .ok (.iadd, 1) := by decide +kernel
theorem dX11_putFour_47 : decode cX11_putFour 47 = .ok (.putfield 140, 3) := by decide +kernel
theorem dX11_putFour_50 : decode cX11_putFour 50 = .ok (.iinc 2 (-8), 3) := by decide +kernel
theorem dX11_putFour_53 : decode cX11_putFour 53 = .ok (.goto (-50), 3) := by decide +kernel
theorem dX11_putFour_56 : decode cX11_putFour 56 = .ok (.return_, 1) := by decide +kernel
theorem dX11_passHours_0 : decode cX11_passHours 0 = .ok (.aload_n 0, 1) := by decide +kernel
theorem dX11_passHours_1 : decode cX11_passHours 1 = .ok (.aload_n 0, 1) := by decide +kernel
theorem dX11_passHours_2 : decode cX11_passHours 2 = .ok (.getfield 10, 3) := by decide +kernel
theorem dX11_passHours_5 : decode cX11_passHours 5 = .ok (.getfield 169, 3) := by decide +kernel
theorem dX11_passHours_8 : decode cX11_passHours 8 = .ok (.invokevirtual 204, 3) := by decide +kernel
theorem dX11_passHours_11 : decode cX11_passHours 11 = .ok (.astore_n 2, 1) := by decide +kernel
theorem dX11_passHours_12 : decode cX11_passHours 12 = .ok (.iconst 0, 1) := by decide +kernel
theorem dX11_passHours_13 : decode cX11_passHours 13 = .ok (.istore_n 3, 1) := by decide +kernel
theorem dX11_passHours_14 : decode cX11_passHours 14 = .ok (.iconst 0, 1) := by decide +kernel
theorem dX11_passHours_15 : decode cX11_passHours 15 = .ok (.istore 4, 2) := by decide +kernel
theorem dX11_passHours_17 : decode cX11_passHours 17 = .ok (.iload 4, 2) := by decide +kernel
theorem dX11_passHours_19 : decode cX11_passHours 19 = .ok (.iload_n 1, 1) := by decide +kernel
theorem dX11_passHours_20 : decode cX11_passHours 20 = .ok (.if_icmp .ge 38, 3) := by decide +kernel
theorem dX11_passHours_23 : decode cX11_passHours 23 = .ok (.aload_n 0, 1) := by decide +kernel
theorem dX11_passHours_24 : decode cX11_passHours 24 = .ok (.getfield 10, 3) := by decide +kernel
theorem dX11_passHours_27 : decode cX11_passHours 27 = .ok (.getfield 175, 3) := by decide +kernel
theorem dX11_passHours_30 : decode cX11_passHours 30 = .ok (.aload_n 0, 1) := by decide +kernel
theorem dX11_passHours_31 : decode cX11_passHours 31 = .ok (.getfield 20, 3) := by decide +kernel
theorem dX11_passHours_34 : decode cX11_passHours 34 = .ok (.invokevirtual 179, 3) := by decide +kernel
theorem dX11_passHours_37 : decode cX11_passHours 37 = .ok (.iload_n 3, 1) := by decide +kernel
theorem dX11_passHours_38 : decode cX11_passHours 38 = .ok (.aload_n 0, 1) := by decide +kernel
theorem dX11_passHours_39 : decode cX11_passHours 39 = .ok (.getfield 64, 3) := by decide +kernel
theorem dX11_passHours_42 : decode cX11_passHours 42 = .ok (.aload_n 2, 1) := by decide +kernel
theorem dX11_passHours_43 : decode cX11_passHours 43 = .ok (.aload_n 0, 1) := by decide +kernel
theorem dX11_passHours_44 : decode cX11_passHours 44 = .ok (.getfield 20, 3) := by decide +kernel
theorem dX11_passHours_47 : decode cX11_passHours 47 = .ok (.invokevirtual 282, 3) := by decide +kernel
theorem dX11_passHours_50 : decode cX11_passHours 50 = .ok (.iadd, 1) := by decide +kernel
theorem dX11_passHours_51 : decode cX11_passHours 51 = .ok (.istore_n 3, 1) := by decide +kernel
theorem dX11_passHours_52 : decode cX11_passHours 52 = .ok (.iinc 4 1, 3) := by decide +kernel
theorem dX11_passHours_55 : decode cX11_passHours 55 = .ok (.goto (-38), 3) := by decide +kernel
theorem dX11_passHours_58 : decode cX11_passHours 58 = .ok (.iload_n 3, 1) := by decide +kernel
theorem dX11_passHours_59 : decode cX11_passHours 59 = .ok (.ireturn, 1) := by decide +kernel
theorem dX11_playClause_0 : decode cX11_playClause 0 = .ok (.iload_n 1, 1) := by decide +kernel
theorem dX11_playClause_1 : decode cX11_playClause 1 = .ok (.tableswitch 148 3 10 #[47, 63, 79, 85, 92, 99, 106, 112], 47) := by decide +kernel
theorem dX11_playClause_48 : decode cX11_playClause 48 = .ok (.aload_n 0, 1) := by decide +kernel
theorem dX11_playClause_49 : decode cX11_playClause 49 = .ok (.iload_n 2, 1) := by decide +kernel
theorem dX11_playClause_50 : decode cX11_playClause 50 = .ok (.iload_n 3, 1) := by decide +kernel
theorem dX11_playClause_51 : decode cX11_playClause 51 = .ok (.invokevirtual 395, 3) := by decide +kernel
theorem dX11_playClause_54 : decode cX11_playClause 54 = .ok (.iconst (-1), 1) := by decide +kernel
theorem dX11_playClause_55 : decode cX11_playClause 55 = .ok (.if_icmp .eq 7, 3) := by decide +kernel
theorem dX11_playClause_58 : decode cX11_playClause 58 = .ok (.iconst 1, 1) := by decide +kernel
theorem dX11_playClause_59 : decode cX11_playClause 59 = .ok (.goto 4, 3) := by decide +kernel
theorem dX11_playClause_62 : decode cX11_playClause 62 = .ok (.iconst 0, 1) := by decide +kernel
theorem dX11_playClause_63 : decode cX11_playClause 63 = .ok (.ireturn, 1) := by decide +kernel
theorem dX11_playClause_64 : decode cX11_playClause 64 = .ok (.aload_n 0, 1) := by decide +kernel
theorem dX11_playClause_65 : decode cX11_playClause 65 = .ok (.iload_n 2, 1) := by decide +kernel
theorem dX11_playClause_66 : decode cX11_playClause 66 = .ok (.iload_n 3, 1) := by decide +kernel
theorem dX11_playClause_67 : decode cX11_playClause 67 = .ok (.invokevirtual 398, 3) := by decide +kernel
theorem dX11_playClause_70 : decode cX11_playClause 70 = .ok (.iconst (-1), 1) := by decide +kernel
theorem dX11_playClause_71 : decode cX11_playClause 71 = .ok (.if_icmp .eq 7, 3) := by decide +kernel
theorem dX11_playClause_74 : decode cX11_playClause 74 = .ok (.iconst 1, 1) := by decide +kernel
theorem dX11_playClause_75 : decode cX11_playClause 75 = .ok (.goto 4, 3) := by decide +kernel
theorem dX11_playClause_78 : decode cX11_playClause 78 = .ok (.iconst 0, 1) := by decide +kernel
theorem dX11_playClause_79 : decode cX11_playClause 79 = .ok (.ireturn, 1) := by decide +kernel
theorem dX11_playClause_80 : decode cX11_playClause 80 = .ok (.aload_n 0, 1) := by decide +kernel
theorem dX11_playClause_81 : decode cX11_playClause 81 = .ok (.iload_n 2, 1) := by decide +kernel
theorem dX11_playClause_82 : decode cX11_playClause 82 = .ok (.invokevirtual 401, 3) := by decide +kernel
theorem dX11_playClause_85 : decode cX11_playClause 85 = .ok (.ireturn, 1) := by decide +kernel
theorem dX11_playClause_86 : decode cX11_playClause 86 = .ok (.aload_n 0, 1) := by decide +kernel
theorem dX11_playClause_87 : decode cX11_playClause 87 = .ok (.iload_n 2, 1) := by decide +kernel
theorem dX11_playClause_88 : decode cX11_playClause 88 = .ok (.iconst 1, 1) := by decide +kernel
theorem dX11_playClause_89 : decode cX11_playClause 89 = .ok (.invokevirtual 404, 3) := by decide +kernel
theorem dX11_playClause_92 : decode cX11_playClause 92 = .ok (.ireturn, 1) := by decide +kernel
theorem dX11_playClause_93 : decode cX11_playClause 93 = .ok (.aload_n 0, 1) := by decide +kernel
theorem dX11_playClause_94 : decode cX11_playClause 94 = .ok (.iload_n 2, 1) := by decide +kernel
theorem dX11_playClause_95 : decode cX11_playClause 95 = .ok (.iconst 0, 1) := by decide +kernel
theorem dX11_playClause_96 : decode cX11_playClause 96 = .ok (.invokevirtual 404, 3) := by decide +kernel
theorem dX11_playClause_99 : decode cX11_playClause 99 = .ok (.ireturn, 1) := by decide +kernel
theorem dX11_playClause_100 : decode cX11_playClause 100 = .ok (.aload_n 0, 1) := by decide +kernel
theorem dX11_playClause_101 : decode cX11_playClause 101 = .ok (.iload_n 2, 1) := by decide +kernel
theorem dX11_playClause_102 : decode cX11_playClause 102 = .ok (.iload_n 3, 1) := by decide +kernel
theorem dX11_playClause_103 : decode cX11_playClause 103 = .ok (.invokevirtual 408, 3) := by decide +kernel
theorem dX11_playClause_106 : decode cX11_playClause 106 = .ok (.ireturn, 1) := by decide +kernel
theorem dX11_playClause_107 : decode cX11_playClause 107 = .ok (.aload_n 0, 1) := by decide +kernel
theorem dX11_playClause_108 : decode cX11_playClause 108 = .ok (.iload_n 2, 1) := by decide +kernel
theorem dX11_playClause_109 : decode cX11_playClause 109 = .ok (.invokevirtual 410, 3) := by decide +kernel
theorem dX11_playClause_112 : decode cX11_playClause 112 = .ok (.ireturn, 1) := by decide +kernel
theorem dX11_playClause_113 : decode cX11_playClause 113 = .ok (.iload_n 2, 1) := by decide +kernel
theorem dX11_playClause_114 : decode cX11_playClause 114 = .ok (.sipush 9999, 3) := by decide +kernel
theorem dX11_playClause_117 : decode cX11_playClause 117 = .ok (.aload_n 0, 1) := by decide +kernel
theorem dX11_playClause_118 : decode cX11_playClause 118 = .ok (.getfield 20, 3) := by decide +kernel
theorem dX11_playClause_121 : decode cX11_playClause 121 = .ok (.getfield 198, 3) := by decide +kernel
theorem dX11_playClause_124 : decode cX11_playClause 124 = .ok (.isub, 1) := by decide +kernel
theorem dX11_playClause_125 : decode cX11_playClause 125 = .ok (.invokestatic 277, 3) := by decide +kernel
theorem dX11_playClause_128 : decode cX11_playClause 128 = .ok (.istore 4, 2) := by decide +kernel
theorem dX11_playClause_130 : decode cX11_playClause 130 = .ok (.aload_n 0, 1) := by decide +kernel
theorem dX11_playClause_131 : decode cX11_playClause 131 = .ok (.iload 4, 2) := by decide +kernel
theorem dX11_playClause_133 : decode cX11_playClause 133 = .ok (.invokevirtual 201, 3) := by decide +kernel
theorem dX11_playClause_136 : decode cX11_playClause 136 = .ok (.pop, 1) := by decide +kernel
theorem dX11_playClause_137 : decode cX11_playClause 137 = .ok (.iload 4, 2) := by decide +kernel
theorem dX11_playClause_139 : decode cX11_playClause 139 = .ok (.iload_n 2, 1) := by decide +kernel
theorem dX11_playClause_140 : decode cX11_playClause 140 = .ok (.if_icmp .ne 7, 3) := by decide +kernel
theorem dX11_playClause_143 : decode cX11_playClause 143 = .ok (.iconst 1, 1) := by decide +kernel
theorem dX11_playClause_144 : decode cX11_playClause 144 = .ok (.goto 4, 3) := by decide +kernel
theorem dX11_playClause_147 : decode cX11_playClause 147 = .ok (.iconst 0, 1) := by decide +kernel
theorem dX11_playClause_148 : decode cX11_playClause 148 = .ok (.ireturn, 1) := by decide +kernel
theorem dX11_playClause_149 : decode cX11_playClause 149 = .ok (.iconst 1, 1) := by decide +kernel
theorem dX11_playClause_150 : decode cX11_playClause 150 = .ok (.ireturn, 1) := by decide +kernel
theorem dX11_spring_0 : decode cX11_spring 0 = .ok (.iload_n 1, 1) := by decide +kernel
theorem dX11_spring_1 : decode cX11_spring 1 = .ok (.bipush 7, 2) := by decide +kernel
theorem dX11_spring_3 : decode cX11_spring 3 = .ok (.idiv, 1) := by decide +kernel
theorem dX11_spring_4 : decode cX11_spring 4 = .ok (.bipush 10, 2) := by decide +kernel
theorem dX11_spring_6 : decode cX11_spring 6 = .ok (.irem, 1) := by decide +kernel
theorem dX11_spring_7 : decode cX11_spring 7 = .ok (.istore_n 2, 1) := by decide +kernel
theorem dX11_spring_8 : decode cX11_spring 8 = .ok (.aload_n 0, 1) := by decide +kernel
theorem dX11_spring_9 : decode cX11_spring 9 = .ok (.getfield 20, 3) := by decide +kernel
theorem dX11_spring_12 : decode cX11_spring 12 = .ok (.getfield 106, 3) := by decide +kernel
theorem dX11_spring_15 : decode cX11_spring 15 = .ok (.ifCond .le 15, 3) := by decide +kernel
theorem dX11_spring_18 : decode cX11_spring 18 = .ok (.iload_n 1, 1) := by decide +kernel
theorem dX11_spring_19 : decode cX11_spring 19 = .ok (.aload_n 0, 1) := by decide +kernel
theorem dX11_spring_20 : decode cX11_spring 20 = .ok (.getfield 20, 3) := by decide +kernel
theorem dX11_spring_23 : decode cX11_spring 23 = .ok (.getfield 106, 3) := by decide +kernel
theorem dX11_spring_26 : decode cX11_spring 26 = .ok (.irem, 1) := by decide +kernel
theorem dX11_spring_27 : decode cX11_spring 27 = .ok (.goto 4, 3) := by decide +kernel
theorem dX11_spring_30 : decode cX11_spring 30 = .ok (.iconst (-1), 1) := by decide +kernel
theorem dX11_spring_31 : decode cX11_spring 31 = .ok (.istore_n 3, 1) := by decide +kernel
theorem dX11_spring_32 : decode cX11_spring 32 = .ok (.aload_n 0, 1) := by decide +kernel
theorem dX11_spring_33 : decode cX11_spring 33 = .ok (.getfield 20, 3) := by decide +kernel
theorem dX11_spring_36 : decode cX11_spring 36 = .ok (.getfield 121, 3) := by decide +kernel
theorem dX11_spring_39 : decode cX11_spring 39 = .ok (.ifCond .le 15, 3) := by decide +kernel
theorem dX11_spring_42 : decode cX11_spring 42 = .ok (.iload_n 1, 1) := by decide +kernel
theorem dX11_spring_43 : decode cX11_spring 43 = .ok (.aload_n 0, 1) := by decide +kernel
theorem dX11_spring_44 : decode cX11_spring 44 = .ok (.getfield 20, 3) := by decide +kernel
theorem dX11_spring_47 : decode cX11_spring 47 = .ok (.getfield 121, 3) := by decide +kernel
theorem dX11_spring_50 : decode cX11_spring 50 = .ok (.irem, 1) := by decide +kernel
theorem dX11_spring_51 : decode cX11_spring 51 = .ok (.goto 4, 3) := by decide +kernel
theorem dX11_spring_54 : decode cX11_spring 54 = .ok (.iconst (-1), 1) := by decide +kernel
theorem dX11_spring_55 : decode cX11_spring 55 = .ok (.istore 4, 2) := by decide +kernel
theorem dX11_spring_57 : decode cX11_spring 57 = .ok (.iload_n 1, 1) := by decide +kernel
theorem dX11_spring_58 : decode cX11_spring 58 = .ok (.bipush 7, 2) := by decide +kernel
theorem dX11_spring_60 : decode cX11_spring 60 = .ok (.irem, 1) := by decide +kernel
theorem dX11_spring_61 : decode cX11_spring 61 = .ok (.tableswitch 144 0 4 #[35, 59, 77, 97, 120], 35) := by decide +kernel
theorem dX11_spring_96 : decode cX11_spring 96 = .ok (.aload_n 0, 1) := by decide +kernel
theorem dX11_spring_97 : decode cX11_spring 97 = .ok (.getfield 20, 3) := by decide +kernel
theorem dX11_spring_100 : decode cX11_spring 100 = .ok (.iload_n 3, 1) := by decide +kernel
theorem dX11_spring_101 : decode cX11_spring 101 = .ok (.invokevirtual 172, 3) := by decide +kernel
theorem dX11_spring_104 : decode cX11_spring 104 = .ok (.ifCond .eq 137, 3) := by decide +kernel
theorem dX11_spring_107 : decode cX11_spring 107 = .ok (.aload_n 0, 1) := by decide +kernel
theorem dX11_spring_108 : decode cX11_spring 108 = .ok (.getfield 20, 3) := by decide +kernel
theorem dX11_spring_111 : decode cX11_spring 111 = .ok (.getfield 115, 3) := by decide +kernel
theorem dX11_spring_114 : decode cX11_spring 114 = .ok (.iload_n 3, 1) := by decide +kernel
theorem dX11_spring_115 : decode cX11_spring 115 = .ok (.iconst 0, 1) := by decide +kernel
theorem dX11_spring_116 : decode cX11_spring 116 = .ok (.iastore, 1) := by decide +kernel
theorem dX11_spring_117 : decode cX11_spring 117 = .ok (.goto 124, 3) := by decide +kernel
theorem dX11_spring_120 : decode cX11_spring 120 = .ok (.aload_n 0, 1) := by decide +kernel
theorem dX11_spring_121 : decode cX11_spring 121 = .ok (.getfield 20, 3) := by decide +kernel
theorem dX11_spring_124 : decode cX11_spring 124 = .ok (.dup, 1) := by decide +kernel
theorem dX11_spring_125 : decode cX11_spring 125 = .ok (.getfield 185, 3) := by decide +kernel
theorem dX11_spring_128 : decode cX11_spring 128 = .ok (.iconst 1, 1) := by decide +kernel
theorem dX11_spring_129 : decode cX11_spring 129 = .ok (.iload_n 2, 1) := by decide +kernel
theorem dX11_spring_130 : decode cX11_spring 130 = .ok (.ishl, 1) := by decide +kernel
theorem dX11_spring_131 : decode cX11_spring 131 = .ok (.ior, 1) := by decide +kernel
theorem dX11_spring_132 : decode cX11_spring 132 = .ok (.putfield 185, 3) := by decide +kernel
theorem dX11_spring_135 : decode cX11_spring 135 = .ok (.goto 106, 3) := by decide +kernel
theorem dX11_spring_138 : decode cX11_spring 138 = .ok (.aload_n 0, 1) := by decide +kernel
theorem dX11_spring_139 : decode cX11_spring 139 = .ok (.getfield 20, 3) := by decide +kernel
theorem dX11_spring_142 : decode cX11_spring 142 = .ok (.dup, 1) := by decide +kernel
theorem dX11_spring_143 : decode cX11_spring 143 = .ok (.getfield 185, 3) := by decide +kernel
theorem dX11_spring_146 : decode cX11_spring 146 = .ok (.iconst 1, 1) := by decide +kernel
theorem dX11_spring_147 : decode cX11_spring 147 = .ok (.iload_n 2, 1) := by decide +kernel
theorem dX11_spring_148 : decode cX11_spring 148 = .ok (.ishl, 1) := by decide +kernel
theorem dX11_spring_149 : decode cX11_spring 149 = .ok (.iconst (-1), 1) := by decide +kernel
theorem dX11_spring_150 : decode cX11_spring 150 = .ok (.ixor, 1) := by decide +kernel
theorem dX11_spring_151 : decode cX11_spring 151 = .ok (.iand, 1) := by decide +kernel
theorem dX11_spring_152 : decode cX11_spring 152 = .ok (.putfield 185, 3) := by decide +kernel
theorem dX11_spring_155 : decode cX11_spring 155 = .ok (.goto 86, 3) := by decide +kernel
theorem dX11_spring_158 : decode cX11_spring 158 = .ok (.aload_n 0, 1) := by decide +kernel
theorem dX11_spring_159 : decode cX11_spring 159 = .ok (.iload 4, 2) := by decide +kernel
theorem dX11_spring_161 : decode cX11_spring 161 = .ok (.invokevirtual 192, 3) := by decide +kernel
theorem dX11_spring_164 : decode cX11_spring 164 = .ok (.ifCond .eq 77, 3) := by decide +kernel
theorem dX11_spring_167 : decode cX11_spring 167 = .ok (.aload_n 0, 1) := by decide +kernel
theorem dX11_spring_168 : decode cX11_spring 168 = .ok (.getfield 20, 3) := by decide +kernel
theorem dX11_spring_171 : decode cX11_spring 171 = .ok (.getfield 134, 3) := by decide +kernel
theorem dX11_spring_174 : decode cX11_spring 174 = .ok (.iload 4, 2) := by decide +kernel
theorem dX11_spring_176 : decode cX11_spring 176 = .ok (.iload_n 2, 1) := by decide +kernel
theorem dX11_spring_177 : decode cX11_spring 177 = .ok (.iastore, 1) := by decide +kernel
theorem dX11_spring_178 : decode cX11_spring 178 = .ok (.goto 63, 3) := by decide +kernel
theorem dX11_spring_181 : decode cX11_spring 181 = .ok (.aload_n 0, 1) := by decide +kernel
theorem dX11_spring_182 : decode cX11_spring 182 = .ok (.getfield 20, 3) := by decide +kernel
theorem dX11_spring_185 : decode cX11_spring 185 = .ok (.iload_n 3, 1) := by decide +kernel
theorem dX11_spring_186 : decode cX11_spring 186 = .ok (.invokevirtual 195, 3) := by decide +kernel
theorem dX11_spring_189 : decode cX11_spring 189 = .ok (.ifCond .eq 52, 3) := by decide +kernel
theorem dX11_spring_192 : decode cX11_spring 192 = .ok (.aload_n 0, 1) := by decide +kernel
theorem dX11_spring_193 : decode cX11_spring 193 = .ok (.getfield 20, 3) := by decide +kernel
theorem dX11_spring_196 : decode cX11_spring 196 = .ok (.getfield 115, 3) := by decide +kernel
theorem dX11_spring_199 : decode cX11_spring 199 = .ok (.iload_n 3, 1) := by decide +kernel
theorem dX11_spring_200 : decode cX11_spring 200 = .ok (.iconst 0, 1) := by decide +kernel
theorem dX11_spring_201 : decode cX11_spring 201 = .ok (.iastore, 1) := by decide +kernel
theorem dX11_spring_202 : decode cX11_spring 202 = .ok (.goto 39, 3) := by decide +kernel
theorem dX11_spring_205 : decode cX11_spring 205 = .ok (.aload_n 0, 1) := by decide +kernel
theorem dX11_spring_206 : decode cX11_spring 206 = .ok (.getfield 20, 3) := by decide +kernel
theorem dX11_spring_209 : decode cX11_spring 209 = .ok (.getfield 198, 3) := by decide +kernel
theorem dX11_spring_212 : decode cX11_spring 212 = .ok (.sipush 9999, 3) := by decide +kernel
theorem dX11_spring_215 : decode cX11_spring 215 = .ok (.if_icmp .ge 26, 3) := by decide +kernel
theorem dX11_spring_218 : decode cX11_spring 218 = .ok (.aload_n 0, 1) := by decide +kernel
theorem dX11_spring_219 : decode cX11_spring 219 = .ok (.getfield 64, 3) := by decide +kernel
theorem dX11_spring_222 : decode cX11_spring 222 = .ok (.aload_n 0, 1) := by decide +kernel
theorem dX11_spring_223 : decode cX11_spring 223 = .ok (.aload_n 0, 1) := by decide +kernel
theorem dX11_spring_224 : decode cX11_spring 224 = .ok (.getfield 10, 3) := by decide +kernel
theorem dX11_spring_227 : decode cX11_spring 227 = .ok (.getfield 169, 3) := by decide +kernel
theorem dX11_spring_230 : decode cX11_spring 230 = .ok (.invokevirtual 204, 3) := by decide +kernel
theorem dX11_spring_233 : decode cX11_spring 233 = .ok (.aload_n 0, 1) := by decide +kernel
theorem dX11_spring_234 : decode cX11_spring 234 = .ok (.getfield 20, 3) := by decide +kernel
theorem dX11_spring_237 : decode cX11_spring 237 = .ok (.invokevirtual 282, 3) := by decide +kernel
theorem dX11_spring_240 : decode cX11_spring 240 = .ok (.pop, 1) := by decide +kernel
theorem dX11_spring_241 : decode cX11_spring 241 = .ok (.return_, 1) := by decide +kernel
theorem dX11_fitsSaid_0 : decode cX11_fitsSaid 0 = .ok (.iconst 0, 1) := by decide +kernel
theorem dX11_fitsSaid_1 : decode cX11_fitsSaid 1 = .ok (.istore_n 2, 1) := by decide +kernel
theorem dX11_fitsSaid_2 : decode cX11_fitsSaid 2 = .ok (.iload_n 2, 1) := by decide +kernel
theorem dX11_fitsSaid_3 : decode cX11_fitsSaid 3 = .ok (.aload_n 0, 1) := by decide +kernel
theorem dX11_fitsSaid_4 : decode cX11_fitsSaid 4 = .ok (.getfield 10, 3) := by decide +kernel
theorem dX11_fitsSaid_7 : decode cX11_fitsSaid 7 = .ok (.getfield 375, 3) := by decide +kernel
theorem dX11_fitsSaid_10 : decode cX11_fitsSaid 10 = .ok (.if_icmp .ge 60, 3) := by decide +kernel
theorem dX11_fitsSaid_13 : decode cX11_fitsSaid 13 = .ok (.iload_n 2, 1) := by decide +kernel
theorem dX11_fitsSaid_14 : decode cX11_fitsSaid 14 = .ok (.bipush 8, 2) := by decide +kernel
theorem dX11_fitsSaid_16 : decode cX11_fitsSaid 16 = .ok (.if_icmp .ge 54, 3) := by decide +kernel
theorem dX11_fitsSaid_19 : decode cX11_fitsSaid 19 = .ok (.aload_n 0, 1) := by decide +kernel
theorem dX11_fitsSaid_20 : decode cX11_fitsSaid 20 = .ok (.getfield 10, 3) := by decide +kernel
theorem dX11_fitsSaid_23 : decode cX11_fitsSaid 23 = .ok (.getfield 378, 3) := by decide +kernel
theorem dX11_fitsSaid_26 : decode cX11_fitsSaid 26 = .ok (.iload_n 2, 1) := by decide +kernel
theorem dX11_fitsSaid_27 : decode cX11_fitsSaid 27 = .ok (.iaload, 1) := by decide +kernel
theorem dX11_fitsSaid_28 : decode cX11_fitsSaid 28 = .ok (.istore_n 3, 1) := by decide +kernel
theorem dX11_fitsSaid_29 : decode cX11_fitsSaid 29 = .ok (.aload_n 0, 1) := by decide +kernel
theorem dX11_fitsSaid_30 : decode cX11_fitsSaid 30 = .ok (.iload_n 3, 1) := by decide +kernel
theorem dX11_fitsSaid_31 : decode cX11_fitsSaid 31 = .ok (.invokevirtual 240, 3) := by decide +kernel
theorem dX11_fitsSaid_34 : decode cX11_fitsSaid 34 = .ok (.ifCond .eq 28, 3) := by decide +kernel
theorem dX11_fitsSaid_37 : decode cX11_fitsSaid 37 = .ok (.aload_n 0, 1) := by decide +kernel
theorem dX11_fitsSaid_38 : decode cX11_fitsSaid 38 = .ok (.getfield 55, 3) := by decide +kernel
theorem dX11_fitsSaid_41 : decode cX11_fitsSaid 41 = .ok (.aload_n 1, 1) := by decide +kernel
theorem dX11_fitsSaid_42 : decode cX11_fitsSaid 42 = .ok (.aload_n 0, 1) := by decide +kernel
theorem dX11_fitsSaid_43 : decode cX11_fitsSaid 43 = .ok (.getfield 20, 3) := by decide +kernel
theorem dX11_fitsSaid_46 : decode cX11_fitsSaid 46 = .ok (.iload_n 3, 1) := by decide +kernel
theorem dX11_fitsSaid_47 : decode cX11_fitsSaid 47 = .ok (.invokevirtual 253, 3) := by decide +kernel
theorem dX11_fitsSaid_50 : decode cX11_fitsSaid 50 = .ok (.aload_n 0, 1) := by decide +kernel
theorem dX11_fitsSaid_51 : decode cX11_fitsSaid 51 = .ok (.getfield 10, 3) := by decide +kernel
theorem dX11_fitsSaid_54 : decode cX11_fitsSaid 54 = .ok (.getfield 381, 3) := by decide +kernel
theorem dX11_fitsSaid_57 : decode cX11_fitsSaid 57 = .ok (.iload_n 2, 1) := by decide +kernel
theorem dX11_fitsSaid_58 : decode cX11_fitsSaid 58 = .ok (.iaload, 1) := by decide +kernel
theorem dX11_fitsSaid_59 : decode cX11_fitsSaid 59 = .ok (.if_icmp .eq 5, 3) := by decide +kernel
theorem dX11_fitsSaid_62 : decode cX11_fitsSaid 62 = .ok (.iconst 0, 1) := by decide +kernel
theorem dX11_fitsSaid_63 : decode cX11_fitsSaid 63 = .ok (.ireturn, 1) := by decide +kernel
theorem dX11_fitsSaid_64 : decode cX11_fitsSaid 64 = .ok (.iinc 2 1, 3) := by decide +kernel
theorem dX11_fitsSaid_67 : decode cX11_fitsSaid 67 = .ok (.goto (-65), 3) := by decide +kernel
theorem dX11_fitsSaid_70 : decode cX11_fitsSaid 70 = .ok (.iconst 1, 1) := by decide +kernel
theorem dX11_fitsSaid_71 : decode cX11_fitsSaid 71 = .ok (.ireturn, 1) := by decide +kernel
theorem dX11_hasBit_0 : decode cX11_hasBit 0 = .ok (.iload_n 0, 1) := by decide +kernel
theorem dX11_hasBit_1 : decode cX11_hasBit 1 = .ok (.iload_n 1, 1) := by decide +kernel
theorem dX11_hasBit_2 : decode cX11_hasBit 2 = .ok (.ishr, 1) := by decide +kernel
theorem dX11_hasBit_3 : decode cX11_hasBit 3 = .ok (.iconst 1, 1) := by decide +kernel
theorem dX11_hasBit_4 : decode cX11_hasBit 4 = .ok (.iand, 1) := by decide +kernel
theorem dX11_hasBit_5 : decode cX11_hasBit 5 = .ok (.ifCond .eq 7, 3) := by decide +kernel
theorem dX11_hasBit_8 : decode cX11_hasBit 8 = .ok (.iconst 1, 1) := by decide +kernel
theorem dX11_hasBit_9 : decode cX11_hasBit 9 = .ok (.goto 4, 3) := by decide +kernel
theorem dX11_hasBit_12 : decode cX11_hasBit 12 = .ok (.iconst 0, 1) := by decide +kernel
theorem dX11_hasBit_13 : decode cX11_hasBit 13 = .ok (.ireturn, 1) := by decide +kernel
theorem dX11_countSounds_0 : decode cX11_countSounds 0 = .ok (.iload_n 0, 1) := by decide +kernel
theorem dX11_countSounds_1 : decode cX11_countSounds 1 = .ok (.iconst 1, 1) := by decide +kernel
theorem dX11_countSounds_2 : decode cX11_countSounds 2 = .ok (.if_icmp .lt 10, 3) := by decide +kernel
theorem dX11_countSounds_5 : decode cX11_countSounds 5 = .ok (.iload_n 0, 1) := by decide +kernel
theorem dX11_countSounds_6 : decode cX11_countSounds 6 = .ok (.ldc_w 413, 3) := by decide +kernel
theorem dX11_countSounds_9 : decode cX11_countSounds 9 = .ok (.if_icmp .le 5, 3) := by decide +kernel
theorem dX11_countSounds_12 : decode cX11_countSounds 12 = .ok (.iconst 0, 1) := by decide +kernel
theorem dX11_countSounds_13 : decode cX11_countSounds 13 = .ok (.ireturn, 1) := by decide +kernel
theorem dX11_countSounds_14 : decode cX11_countSounds 14 = .ok (.iconst 0, 1) := by decide +kernel
theorem dX11_countSounds_15 : decode cX11_countSounds 15 = .ok (.istore_n 1, 1) := by decide +kernel
theorem dX11_countSounds_16 : decode cX11_countSounds 16 = .ok (.iload_n 0, 1) := by decide +kernel
theorem dX11_countSounds_17 : decode cX11_countSounds 17 = .ok (.istore_n 2, 1) := by decide +kernel
theorem dX11_countSounds_18 : decode cX11_countSounds 18 = .ok (.iload_n 2, 1) := by decide +kernel
theorem dX11_countSounds_19 : decode cX11_countSounds 19 = .ok (.ifCond .le 28, 3) := by decide +kernel
theorem dX11_countSounds_22 : decode cX11_countSounds 22 = .ok (.iload_n 1, 1) := by decide +kernel
theorem dX11_countSounds_23 : decode cX11_countSounds 23 = .ok (.iconst 5, 1) := by decide +kernel
theorem dX11_countSounds_24 : decode cX11_countSounds 24 = .ok (.if_icmp .ge 23, 3) := by decide +kernel
theorem dX11_countSounds_27 : decode cX11_countSounds 27 = .ok (.iload_n 2, 1) := by decide +kernel
theorem dX11_countSounds_28 : decode cX11_countSounds 28 = .ok (.bipush 10, 2) := by decide +kernel
theorem dX11_countSounds_30 : decode cX11_countSounds 30 = .ok (.irem, 1) := by decide +kernel
theorem dX11_countSounds_31 : decode cX11_countSounds 31 = .ok (.ifCond .ne 5, 3) := by decide +kernel
theorem dX11_countSounds_34 : decode cX11_countSounds 34 = .ok (.iconst 0, 1) := by decide +kernel
theorem dX11_countSounds_35 : decode cX11_countSounds 35 = .ok (.ireturn, 1) := by decide +kernel
theorem dX11_countSounds_36 : decode cX11_countSounds 36 = .ok (.iinc 1 1, 3) := by decide +kernel
theorem dX11_countSounds_39 : decode cX11_countSounds 39 = .ok (.iload_n 2, 1) := by decide +kernel
theorem dX11_countSounds_40 : decode cX11_countSounds 40 = .ok (.bipush 10, 2) := by decide +kernel
theorem dX11_countSounds_42 : decode cX11_countSounds 42 = .ok (.idiv, 1) := by decide +kernel
theorem dX11_countSounds_43 : decode cX11_countSounds 43 = .ok (.istore_n 2, 1) := by decide +kernel
theorem dX11_countSounds_44 : decode cX11_countSounds 44 = .ok (.goto (-26), 3) := by decide +kernel
theorem dX11_countSounds_47 : decode cX11_countSounds 47 = .ok (.iload_n 1, 1) := by decide +kernel
theorem dX11_countSounds_48 : decode cX11_countSounds 48 = .ok (.ireturn, 1) := by decide +kernel
theorem dX11_leftOf_0 : decode cX11_leftOf 0 = .ok (.iload_n 0, 1) := by decide +kernel
theorem dX11_leftOf_1 : decode cX11_leftOf 1 = .ok (.istore_n 2, 1) := by decide +kernel
theorem dX11_leftOf_2 : decode cX11_leftOf 2 = .ok (.iload_n 0, 1) := by decide +kernel
theorem dX11_leftOf_3 : decode cX11_leftOf 3 = .ok (.invokestatic 102, 3) := by decide +kernel
theorem dX11_leftOf_6 : decode cX11_leftOf 6 = .ok (.iload_n 1, 1) := by decide +kernel
theorem dX11_leftOf_7 : decode cX11_leftOf 7 = .ok (.isub, 1) := by decide +kernel
theorem dX11_leftOf_8 : decode cX11_leftOf 8 = .ok (.istore_n 3, 1) := by decide +kernel
theorem dX11_leftOf_9 : decode cX11_leftOf 9 = .ok (.iload_n 3, 1) := by decide +kernel
theorem dX11_leftOf_10 : decode cX11_leftOf 10 = .ok (.ifCond .le 14, 3) := by decide +kernel
theorem dX11_leftOf_13 : decode cX11_leftOf 13 = .ok (.iload_n 2, 1) := by decide +kernel
theorem dX11_leftOf_14 : decode cX11_leftOf 14 = .ok (.bipush 10, 2) := by decide +kernel
theorem dX11_leftOf_16 : decode cX11_leftOf 16 = .ok (.idiv, 1) := by decide +kernel
theorem dX11_leftOf_17 : decode cX11_leftOf 17 = .ok (.istore_n 2, 1) := by decide +kernel
theorem dX11_leftOf_18 : decode cX11_leftOf 18 = .ok (.iinc 3 (-1), 3) := by decide +kernel
theorem dX11_leftOf_21 : decode cX11_leftOf 21 = .ok (.goto (-12), 3) := by decide +kernel
theorem dX11_leftOf_24 : decode cX11_leftOf 24 = .ok (.iload_n 2, 1) := by decide +kernel
theorem dX11_leftOf_25 : decode cX11_leftOf 25 = .ok (.ireturn, 1) := by decide +kernel
theorem dX11_countShared_0 : decode cX11_countShared 0 = .ok (.iconst 0, 1) := by decide +kernel
theorem dX11_countShared_1 : decode cX11_countShared 1 = .ok (.istore_n 2, 1) := by decide +kernel
theorem dX11_countShared_2 : decode cX11_countShared 2 = .ok (.iload_n 0, 1) := by decide +kernel
theorem dX11_countShared_3 : decode cX11_countShared 3 = .ok (.istore_n 3, 1) := by decide +kernel
theorem dX11_countShared_4 : decode cX11_countShared 4 = .ok (.iload_n 1, 1) := by decide +kernel
theorem dX11_countShared_5 : decode cX11_countShared 5 = .ok (.istore 4, 2) := by decide +kernel
theorem dX11_countShared_7 : decode cX11_countShared 7 = .ok (.iload_n 2, 1) := by decide +kernel
theorem dX11_countShared_8 : decode cX11_countShared 8 = .ok (.iconst 5, 1) := by decide +kernel
theorem dX11_countShared_9 : decode cX11_countShared 9 = .ok (.if_icmp .ge 42, 3) := by decide +kernel
theorem dX11_countShared_12 : decode cX11_countShared 12 = .ok (.iload_n 3, 1) := by decide +kernel
theorem dX11_countShared_13 : decode cX11_countShared 13 = .ok (.ifCond .le 38, 3) := by decide +kernel
theorem dX11_countShared_16 : decode cX11_countShared 16 = .ok (.iload 4, 2) := by decide +kernel
theorem dX11_countShared_18 : decode cX11_countShared 18 = .ok (.ifCond .le 33, 3) := by decide +kernel
theorem dX11_countShared_21 : decode cX11_countShared 21 = .ok (.iload_n 3, 1) := by decide +kernel
theorem dX11_countShared_22 : decode cX11_countShared 22 = .ok (.bipush 10, 2) := by decide +kernel
theorem dX11_countShared_24 : decode cX11_countShared 24 = .ok (.irem, 1) := by decide +kernel
theorem dX11_countShared_25 : decode cX11_countShared 25 = .ok (.iload 4, 2) := by decide +kernel
theorem dX11_countShared_27 : decode cX11_countShared 27 = .ok (.bipush 10, 2) := by decide +kernel
theorem dX11_countShared_29 : decode cX11_countShared 29 = .ok (.irem, 1) := by decide +kernel
theorem dX11_countShared_30 : decode cX11_countShared 30 = .ok (.if_icmp .ne 21, 3) := by decide +kernel
theorem dX11_countShared_33 : decode cX11_countShared 33 = .ok (.iinc 2 1, 3) := by decide +kernel
theorem dX11_countShared_36 : decode cX11_countShared 36 = .ok (.iload_n 3, 1) := by decide +kernel
theorem dX11_countShared_37 : decode cX11_countShared 37 = .ok (.bipush 10, 2) := by decide +kernel
theorem dX11_countShared_39 : decode cX11_countShared 39 = .ok (.idiv, 1) := by decide +kernel
theorem dX11_countShared_40 : decode cX11_countShared 40 = .ok (.istore_n 3, 1) := by decide +kernel
theorem dX11_countShared_41 : decode cX11_countShared 41 = .ok (.iload 4, 2) := by decide +kernel
theorem dX11_countShared_43 : decode cX11_countShared 43 = .ok (.bipush 10, 2) := by decide +kernel
theorem dX11_countShared_45 : decode cX11_countShared 45 = .ok (.idiv, 1) := by decide +kernel
theorem dX11_countShared_46 : decode cX11_countShared 46 = .ok (.istore 4, 2) := by decide +kernel
theorem dX11_countShared_48 : decode cX11_countShared 48 = .ok (.goto (-41), 3) := by decide +kernel
theorem dX11_countShared_51 : decode cX11_countShared 51 = .ok (.iload_n 2, 1) := by decide +kernel
theorem dX11_countShared_52 : decode cX11_countShared 52 = .ok (.ireturn, 1) := by decide +kernel
theorem dX11_greatestShared_0 : decode cX11_greatestShared 0 = .ok (.lload_n 0, 1) := by decide +kernel
theorem dX11_greatestShared_1 : decode cX11_greatestShared 1 = .ok (.lstore 4, 2) := by decide +kernel
theorem dX11_greatestShared_3 : decode cX11_greatestShared 3 = .ok (.lload_n 2, 1) := by decide +kernel
theorem dX11_greatestShared_4 : decode cX11_greatestShared 4 = .ok (.lstore 6, 2) := by decide +kernel
theorem dX11_greatestShared_6 : decode cX11_greatestShared 6 = .ok (.iconst 0, 1) := by decide +kernel
theorem dX11_greatestShared_7 : decode cX11_greatestShared 7 = .ok (.istore 8, 2) := by decide +kernel
theorem dX11_greatestShared_9 : decode cX11_greatestShared 9 = .ok (.iload 8, 2) := by decide +kernel
theorem dX11_greatestShared_11 : decode cX11_greatestShared 11 = .ok (.bipush 100, 2) := by decide +kernel
theorem dX11_greatestShared_13 : decode cX11_greatestShared 13 = .ok (.if_icmp .ge 31, 3) := by decide +kernel
theorem dX11_greatestShared_16 : decode cX11_greatestShared 16 = .ok (.lload 6, 2) := by decide +kernel
theorem dX11_greatestShared_18 : decode cX11_greatestShared 18 = .ok (.lconst 0, 1) := by decide +kernel
theorem dX11_greatestShared_19 : decode cX11_greatestShared 19 = .ok (.lcmp, 1) := by decide +kernel
theorem dX11_greatestShared_20 : decode cX11_greatestShared 20 = .ok (.ifCond .eq 24, 3) := by decide +kernel
theorem dX11_greatestShared_23 : decode cX11_greatestShared 23 = .ok (.lload 4, 2) := by decide +kernel
theorem dX11_greatestShared_25 : decode cX11_greatestShared 25 = .ok (.lload 6, 2) := by decide +kernel
theorem dX11_greatestShared_27 : decode cX11_greatestShared 27 = .ok (.lrem, 1) := by decide +kernel
theorem dX11_greatestShared_28 : decode cX11_greatestShared 28 = .ok (.lstore 9, 2) := by decide +kernel
theorem dX11_greatestShared_30 : decode cX11_greatestShared 30 = .ok (.lload 6, 2) := by decide +kernel
theorem dX11_greatestShared_32 : decode cX11_greatestShared 32 = .ok (.lstore 4, 2) := by decide +kernel
theorem dX11_greatestShared_34 : decode cX11_greatestShared 34 = .ok (.lload 9, 2) := by decide +kernel
theorem dX11_greatestShared_36 : decode cX11_greatestShared 36 = .ok (.lstore 6, 2) := by decide +kernel
theorem dX11_greatestShared_38 : decode cX11_greatestShared 38 = .ok (.iinc 8 1, 3) := by decide +kernel
theorem dX11_greatestShared_41 : decode cX11_greatestShared 41 = .ok (.goto (-32), 3) := by decide +kernel
theorem dX11_greatestShared_44 : decode cX11_greatestShared 44 = .ok (.lload 4, 2) := by decide +kernel
theorem dX11_greatestShared_46 : decode cX11_greatestShared 46 = .ok (.lreturn, 1) := by decide +kernel