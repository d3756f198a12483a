theorem dX12_init_0 : decode cX12_init 0 = .ok (.aload_n 0, 1) := by decide +kernel
theorem dX12_init_1 : decode cX12_init 1 = .ok (.invokespecial 1, 3) := by decide +kernel
theorem dX12_init_4 : decode cX12_init 4 = .ok (.aload_n 0, 1) := by decide +kernel
theorem dX12_init_5 : decode cX12_init 5 = .ok (.sipush 1792, 3) := by decide +kernel
theorem dX12_init_8 : decode cX12_init 8 = .ok (.newarray .int, 2) := by decide +kernel
theorem dX12_init_10 : decode cX12_init 10 = .ok (.putfield 7, 3) := by decide +kernel
theorem dX12_init_13 : decode cX12_init 13 = .ok (.aload_n 0, 1) := by decide +kernel
theorem dX12_init_14 : decode cX12_init 14 = .ok (.sipush 1792, 3) := by decide +kernel
theorem dX12_init_17 : decode cX12_init 17 = .ok (.newarray .int, 2) := by decide +kernel
theorem dX12_init_19 : decode cX12_init 19 = .ok (.putfield 13, 3) := by decide +kernel
theorem dX12_init_22 : decode cX12_init 22 = .ok (.aload_n 0, 1) := by decide +kernel
theorem dX12_init_23 : decode cX12_init 23 = .ok (.sipush 2724, 3) := by decide +kernel
theorem dX12_init_26 : decode cX12_init 26 = .ok (.newarray .int, 2) := by decide +kernel
theorem dX12_init_28 : decode cX12_init 28 = .ok (.putfield 16, 3) := by decide +kernel
theorem dX12_init_31 : decode cX12_init 31 = .ok (.aload_n 0, 1) := by decide +kernel
theorem dX12_init_32 : decode cX12_init 32 = .ok (.sipush 300, 3) := by decide +kernel
theorem dX12_init_35 : decode cX12_init 35 = .ok (.newarray .int, 2) := by decide +kernel
theorem dX12_init_37 : decode cX12_init 37 = .ok (.putfield 19, 3) := by decide +kernel
theorem dX12_init_40 : decode cX12_init 40 = .ok (.aload_n 0, 1) := by decide +kernel
theorem dX12_init_41 : decode cX12_init 41 = .ok (.iconst (-1), 1) := by decide +kernel
theorem dX12_init_42 : decode cX12_init 42 = .ok (.putfield 22, 3) := by decide +kernel
theorem dX12_init_45 : decode cX12_init 45 = .ok (.aload_n 0, 1) := by decide +kernel
theorem dX12_init_46 : decode cX12_init 46 = .ok (.iconst (-1), 1) := by decide +kernel
theorem dX12_init_47 : decode cX12_init 47 = .ok (.putfield 26, 3) := by decide +kernel
theorem dX12_init_50 : decode cX12_init 50 = .ok (.aload_n 0, 1) := by decide +kernel
theorem dX12_init_51 : decode cX12_init 51 = .ok (.sipush 160, 3) := by decide +kernel
theorem dX12_init_54 : decode cX12_init 54 = .ok (.newarray .int, 2) := by decide +kernel
theorem dX12_init_56 : decode cX12_init 56 = .ok (.putfield 29, 3) := by decide +kernel
theorem dX12_init_59 : decode cX12_init 59 = .ok (.aload_n 0, 1) := by decide +kernel
theorem dX12_init_60 : decode cX12_init 60 = .ok (.bipush 9, 2) := by decide +kernel
theorem dX12_init_62 : decode cX12_init 62 = .ok (.newarray .int, 2) := by decide +kernel
theorem dX12_init_64 : decode cX12_init 64 = .ok (.putfield 32, 3) := by decide +kernel
theorem dX12_init_67 : decode cX12_init 67 = .ok (.aload_n 0, 1) := by decide +kernel
theorem dX12_init_68 : decode cX12_init 68 = .ok (.sipush 330, 3) := by decide +kernel
theorem dX12_init_71 : decode cX12_init 71 = .ok (.newarray .long, 2) := by decide +kernel
theorem dX12_init_73 : decode cX12_init 73 = .ok (.putfield 35, 3) := by decide +kernel
theorem dX12_init_76 : decode cX12_init 76 = .ok (.aload_n 0, 1) := by decide +kernel
theorem dX12_init_77 : decode cX12_init 77 = .ok (.sipush 330, 3) := by decide +kernel
theorem dX12_init_80 : decode cX12_init 80 = .ok (.newarray .boolean, 2) := by decide +kernel
theorem dX12_init_82 : decode cX12_init 82 = .ok (.putfield 39, 3) := by decide +kernel
theorem dX12_init_85 : decode cX12_init 85 = .ok (.aload_n 0, 1) := by decide +kernel
theorem dX12_init_86 : decode cX12_init 86 = .ok (.iconst 1, 1) := by decide +kernel
theorem dX12_init_87 : decode cX12_init 87 = .ok (.putfield 43, 3) := by decide +kernel
theorem dX12_init_90 : decode cX12_init 90 = .ok (.aload_n 0, 1) := by decide +kernel
theorem dX12_init_91 : decode cX12_init 91 = .ok (.bipush 29, 2) := by decide +kernel
theorem dX12_init_93 : decode cX12_init 93 = .ok (.newarray .int, 2) := by decide +kernel
theorem dX12_init_95 : decode cX12_init 95 = .ok (.putfield 47, 3) := by decide +kernel
theorem dX12_init_98 : decode cX12_init 98 = .ok (.aload_n 0, 1) := by decide +kernel
theorem dX12_init_99 : decode cX12_init 99 = .ok (.iconst 5, 1) := by decide +kernel
theorem dX12_init_100 : decode cX12_init 100 = .ok (.newarray .int, 2) := by decide +kernel
theorem dX12_init_102 : decode cX12_init 102 = .ok (.putfield 50, 3) := by decide +kernel
theorem dX12_init_105 : decode cX12_init 105 = .ok (.aload_n 0, 1) := by decide +kernel
theorem dX12_init_106 : decode cX12_init 106 = .ok (.bipush 6, 2) := by decide +kernel
theorem dX12_init_108 : decode cX12_init 108 = .ok (.newarray .int, 2) := by decide +kernel
theorem dX12_init_110 : decode cX12_init 110 = .ok (.putfield 53, 3) := by decide +kernel
theorem dX12_init_113 : decode cX12_init 113 = .ok (.aload_n 0, 1) := by decide +kernel
theorem dX12_init_114 : decode cX12_init 114 = .ok (.sipush 256, 3) := by decide +kernel
theorem dX12_init_117 : decode cX12_init 117 = .ok (.newarray .int, 2) := by decide +kernel
theorem dX12_init_119 : decode cX12_init 119 = .ok (.putfield 56, 3) := by decide +kernel
theorem dX12_init_122 : decode cX12_init 122 = .ok (.aload_n 0, 1) := by decide +kernel
theorem dX12_init_123 : decode cX12_init 123 = .ok (.getfield 7, 3) := by decide +kernel
theorem dX12_init_126 : decode cX12_init 126 = .ok (.bipush 8, 2) := by decide +kernel
theorem dX12_init_128 : decode cX12_init 128 = .ok (.sipush 307, 3) := by decide +kernel
theorem dX12_init_131 : decode cX12_init 131 = .ok (.iastore, 1) := by decide +kernel
theorem dX12_init_132 : decode cX12_init 132 = .ok (.aload_n 0, 1) := by decide +kernel
theorem dX12_init_133 : decode cX12_init 133 = .ok (.getfield 7, 3) := by decide +kernel
theorem dX12_init_136 : decode cX12_init 136 = .ok (.iconst 3, 1) := by decide +kernel
theorem dX12_init_137 : decode cX12_init 137 = .ok (.iconst (-1), 1) := by decide +kernel
theorem dX12_init_138 : decode cX12_init 138 = .ok (.iastore, 1) := by decide +kernel
theorem dX12_init_139 : decode cX12_init 139 = .ok (.aload_n 0, 1) := by decide +kernel
theorem dX12_init_140 : decode cX12_init 140 = .ok (.getfield 7, 3) := by decide +kernel
theorem dX12_init_143 : decode cX12_init 143 = .ok (.bipush 125, 2) := by decide +kernel
theorem dX12_init_145 : decode cX12_init 145 = .ok (.bipush 10, 2) := by decide +kernel
theorem dX12_init_147 : decode cX12_init 147 = .ok (.iastore, 1) := by decide +kernel
theorem dX12_init_148 : decode cX12_init 148 = .ok (.iconst 0, 1) := by decide +kernel
theorem dX12_init_149 : decode cX12_init 149 = .ok (.istore_n 1, 1) := by decide +kernel
theorem dX12_init_150 : decode cX12_init 150 = .ok (.iload_n 1, 1) := by decide +kernel
theorem dX12_init_151 : decode cX12_init 151 = .ok (.iconst 5, 1) := by decide +kernel
theorem dX12_init_152 : decode cX12_init 152 = .ok (.if_icmp .ge 19, 3) := by decide +kernel
theorem dX12_init_155 : decode cX12_init 155 = .ok (.aload_n 0, 1) := by decide +kernel
theorem dX12_init_156 : decode cX12_init 156 = .ok (.getfield 7, 3) := by decide +kernel
theorem dX12_init_159 : decode cX12_init 159 = .ok (.bipush 112, 2) := by decide +kernel
theorem dX12_init_161 : decode cX12_init 161 = .ok (.iload_n 1, 1) := by decide +kernel
theorem dX12_init_162 : decode cX12_init 162 = .ok (.iadd, 1) := by decide +kernel
theorem dX12_init_163 : decode cX12_init 163 = .ok (.iconst (-1), 1) := by decide +kernel
theorem dX12_init_164 : decode cX12_init 164 = .ok (.iastore, 1) := by decide +kernel
theorem dX12_init_165 : decode cX12_init 165 = .ok (.iinc 1 1, 3) := by decide +kernel
theorem dX12_init_168 : decode cX12_init 168 = .ok (.goto (-18), 3) := by decide +kernel
theorem dX12_init_171 : decode cX12_init 171 = .ok (.aload_n 0, 1) := by decide +kernel
theorem dX12_init_172 : decode cX12_init 172 = .ok (.getfield 7, 3) := by decide +kernel
theorem dX12_init_175 : decode cX12_init 175 = .ok (.aload_n 0, 1) := by decide +kernel
theorem dX12_init_176 : decode cX12_init 176 = .ok (.getfield 13, 3) := by decide +kernel
theorem dX12_init_179 : decode cX12_init 179 = .ok (.invokestatic 59, 3) := by decide +kernel
theorem dX12_init_182 : decode cX12_init 182 = .ok (.return_, 1) := by decide +kernel
theorem dX12_copy_0 : decode cX12_copy 0 = .ok (.iconst 0, 1) := by decide +kernel
theorem dX12_copy_1 : decode cX12_copy 1 = .ok (.istore_n 2, 1) := by decide +kernel
theorem dX12_copy_2 : decode cX12_copy 2 = .ok (.iload_n 2, 1) := by decide +kernel
theorem dX12_copy_3 : decode cX12_copy 3 = .ok (.sipush 1792, 3) := by decide +kernel
theorem dX12_copy_6 : decode cX12_copy 6 = .ok (.if_icmp .ge 15, 3) := by decide +kernel
theorem dX12_copy_9 : decode cX12_copy 9 = .ok (.aload_n 1, 1) := by decide +kernel
theorem dX12_copy_10 : decode cX12_copy 10 = .ok (.iload_n 2, 1) := by decide +kernel
theorem dX12_copy_11 : decode cX12_copy 11 = .ok (.aload_n 0, 1) := by decide +kernel
theorem dX12_copy_12 : decode cX12_copy 12 = .ok (.iload_n 2, 1) := by decide +kernel
theorem dX12_copy_13 : decode cX12_copy 13 = .ok (.iaload, 1) := by decide +kernel
theorem dX12_copy_14 : decode cX12_copy 14 = .ok (.iastore, 1) := by decide +kernel
theorem dX12_copy_15 : decode cX12_copy 15 = .ok (.iinc 2 1, 3) := by decide +kernel
theorem dX12_copy_18 : decode cX12_copy 18 = .ok (.goto (-16), 3) := by decide +kernel
theorem dX12_copy_21 : decode cX12_copy 21 = .ok (.return_, 1) := by decide +kernel
theorem dX12_isIn_0 : decode cX12_isIn 0 = .ok (.iload_n 0, 1) := by decide +kernel
theorem dX12_isIn_1 : decode cX12_isIn 1 = .ok (.iload_n 1, 1) := by decide +kernel
theorem dX12_isIn_2 : decode cX12_isIn 2 = .ok (.if_icmp .lt 12, 3) := by decide +kernel
theorem dX12_isIn_5 : decode cX12_isIn 5 = .ok (.iload_n 0, 1) := by decide +kernel
theorem dX12_isIn_6 : decode cX12_isIn 6 = .ok (.iload_n 2, 1) := by decide +kernel
theorem dX12_isIn_7 : decode cX12_isIn 7 = .ok (.if_icmp .gt 7, 3) := by decide +kernel
theorem dX12_isIn_10 : decode cX12_isIn 10 = .ok (.iconst 1, 1) := by decide +kernel
theorem dX12_isIn_11 : decode cX12_isIn 11 = .ok (.goto 4, 3) := by decide +kernel
theorem dX12_isIn_14 : decode cX12_isIn 14 = .ok (.iconst 0, 1) := by decide +kernel
theorem dX12_isIn_15 : decode cX12_isIn 15 = .ok (.ireturn, 1) := by decide +kernel
theorem dX12_cut_0 : decode cX12_cut 0 = .ok (.lload_n 0, 1) := by decide +kernel
theorem dX12_cut_1 : decode cX12_cut 1 = .ok (.iload_n 2, 1) := by decide +kernel
theorem dX12_cut_2 : decode cX12_cut 2 = .ok (.i2l, 1) := by decide +kernel
theorem dX12_cut_3 : decode cX12_cut 3 = .ok (.lcmp, 1) := by decide +kernel
theorem dX12_cut_4 : decode cX12_cut 4 = .ok (.ifCond .ge 7, 3) := by decide +kernel
theorem dX12_cut_7 : decode cX12_cut 7 = .ok (.iload_n 2, 1) := by decide +kernel
theorem dX12_cut_8 : decode cX12_cut 8 = .ok (.goto 16, 3) := by decide +kernel
theorem dX12_cut_11 : decode cX12_cut 11 = .ok (.lload_n 0, 1) := by decide +kernel
theorem dX12_cut_12 : decode cX12_cut 12 = .ok (.iload_n 3, 1) := by decide +kernel
theorem dX12_cut_13 : decode cX12_cut 13 = .ok (.i2l, 1) := by decide +kernel
theorem dX12_cut_14 : decode cX12_cut 14 = .ok (.lcmp, 1) := by decide +kernel
theorem dX12_cut_15 : decode cX12_cut 15 = .ok (.ifCond .le 7, 3) := by decide +kernel
theorem dX12_cut_18 : decode cX12_cut 18 = .ok (.iload_n 3, 1) := by decide +kernel
theorem dX12_cut_19 : decode cX12_cut 19 = .ok (.goto 5, 3) := by decide +kernel
theorem dX12_cut_22 : decode cX12_cut 22 = .ok (.lload_n 0, 1) := by decide +kernel
theorem dX12_cut_23 : decode cX12_cut 23 = .ok (.l2i, 1) := by decide +kernel
theorem dX12_cut_24 : decode cX12_cut 24 = .ok (.ireturn, 1) := by decide +kernel
theorem dX12_has_0 : decode cX12_has 0 = .ok (.iload_n 0, 1) := by decide +kernel
theorem dX12_has_1 : decode cX12_has 1 = .ok (.iload_n 1, 1) := by decide +kernel
theorem dX12_has_2 : decode cX12_has 2 = .ok (.ishr, 1) := by decide +kernel
theorem dX12_has_3 : decode cX12_has 3 = .ok (.iconst 1, 1) := by decide +kernel
theorem dX12_has_4 : decode cX12_has 4 = .ok (.iand, 1) := by decide +kernel
theorem dX12_has_5 : decode cX12_has 5 = .ok (.iconst 1, 1) := by decide +kernel
theorem dX12_has_6 : decode cX12_has 6 = .ok (.if_icmp .ne 7, 3) := by decide +kernel
theorem dX12_has_9 : decode cX12_has 9 = .ok (.iconst 1, 1) := by decide +kernel
theorem dX12_has_10 : decode cX12_has 10 = .ok (.goto 4, 3) := by decide +kernel
theorem dX12_has_13 : decode cX12_has 13 = .ok (.iconst 0, 1) := by decide +kernel
theorem dX12_has_14 : decode cX12_has 14 = .ok (.ireturn, 1) := by decide +kernel
theorem dX12_bits_0 : decode cX12_bits 0 = .ok (.iconst 0, 1) := by decide +kernel
theorem dX12_bits_1 : decode cX12_bits 1 = .ok (.istore_n 1, 1) := by decide +kernel
theorem dX12_bits_2 : decode cX12_bits 2 = .ok (.iload_n 0, 1) := by decide +kernel
theorem dX12_bits_3 : decode cX12_bits 3 = .ok (.istore_n 2, 1) := by decide +kernel
theorem dX12_bits_4 : decode cX12_bits 4 = .ok (.iload_n 2, 1) := by decide +kernel
theorem dX12_bits_5 : decode cX12_bits 5 = .ok (.ifCond .eq 15, 3) := by decide +kernel
theorem dX12_bits_8 : decode cX12_bits 8 = .ok (.iinc 1 1, 3) := by decide +kernel
theorem dX12_bits_11 : decode cX12_bits 11 = .ok (.iload_n 2, 1) := by decide +kernel
theorem dX12_bits_12 : decode cX12_bits 12 = .ok (.iload_n 2, 1) := by decide +kernel
theorem dX12_bits_13 : decode cX12_bits 13 = .ok (.iconst 1, 1) := by decide +kernel
theorem dX12_bits_14 : decode cX12_bits 14 = .ok (.isub, 1) := by decide +kernel
theorem dX12_bits_15 : decode cX12_bits 15 = .ok (.iand, 1) := by decide +kernel
theorem dX12_bits_16 : decode cX12_bits 16 = .ok (.istore_n 2, 1) := by decide +kernel
theorem dX12_bits_17 : decode cX12_bits 17 = .ok (.goto (-13), 3) := by decide +kernel
theorem dX12_bits_20 : decode cX12_bits 20 = .ok (.iload_n 1, 1) := by decide +kernel
theorem dX12_bits_21 : decode cX12_bits 21 = .ok (.ireturn, 1) := by decide +kernel
theorem dX12_isCell_0 : decode cX12_isCell 0 = .ok (.iload_n 0, 1) := by decide +kernel
theorem dX12_isCell_1 : decode cX12_isCell 1 = .ok (.iconst 0, 1) := by decide +kernel
theorem dX12_isCell_2 : decode cX12_isCell 2 = .ok (.bipush 9, 2) := by decide +kernel
theorem dX12_isCell_4 : decode cX12_isCell 4 = .ok (.invokestatic 63, 3) := by decide +kernel
theorem dX12_isCell_7 : decode cX12_isCell 7 = .ok (.ireturn, 1) := by decide +kernel
theorem dX12_isName_0 : decode cX12_isName 0 = .ok (.iload_n 1, 1) := by decide +kernel
theorem dX12_isName_1 : decode cX12_isName 1 = .ok (.iconst 0, 1) := by decide +kernel
theorem dX12_isName_2 : decode cX12_isName 2 = .ok (.aload_n 0, 1) := by decide +kernel
theorem dX12_isName_3 : decode cX12_isName 3 = .ok (.getfield 7, 3) := by decide +kernel
theorem dX12_isName_6 : decode cX12_isName 6 = .ok (.iconst 0, 1) := by decide +kernel
theorem dX12_isName_7 : decode cX12_isName 7 = .ok (.iaload, 1) := by decide +kernel
theorem dX12_isName_8 : decode cX12_isName 8 = .ok (.iconst 1, 1) := by decide +kernel
theorem dX12_isName_9 : decode cX12_isName 9 = .ok (.isub, 1) := by decide +kernel
theorem dX12_isName_10 : decode cX12_isName 10 = .ok (.invokestatic 63, 3) := by decide +kernel
theorem dX12_isName_13 : decode cX12_isName 13 = .ok (.ireturn, 1) := by decide +kernel
theorem dX12_isFamily_0 : decode cX12_isFamily 0 = .ok (.iload_n 1, 1) := by decide +kernel
theorem dX12_isFamily_1 : decode cX12_isFamily 1 = .ok (.iconst 0, 1) := by decide +kernel
theorem dX12_isFamily_2 : decode cX12_isFamily 2 = .ok (.aload_n 0, 1) := by decide +kernel
theorem dX12_isFamily_3 : decode cX12_isFamily 3 = .ok (.getfield 7, 3) := by decide +kernel
theorem dX12_isFamily_6 : decode cX12_isFamily 6 = .ok (.iconst 1, 1) := by decide +kernel
theorem dX12_isFamily_7 : decode cX12_isFamily 7 = .ok (.iaload, 1) := by decide +kernel
theorem dX12_isFamily_8 : decode cX12_isFamily 8 = .ok (.iconst 1, 1) := by decide +kernel
theorem dX12_isFamily_9 : decode cX12_isFamily 9 = .ok (.isub, 1) := by decide +kernel
theorem dX12_isFamily_10 : decode cX12_isFamily 10 = .ok (.invokestatic 63, 3) := by decide +kernel
theorem dX12_isFamily_13 : decode cX12_isFamily 13 = .ok (.ireturn, 1) := by decide +kernel
theorem dX12_get_0 : decode cX12_get 0 = .ok (.aload_n 0, 1) := by decide +kernel
theorem dX12_get_1 : decode cX12_get 1 = .ok (.getfield 7, 3) := by decide +kernel
theorem dX12_get_4 : decode cX12_get 4 = .ok (.bipush 12, 2) := by decide +kernel
theorem dX12_get_6 : decode cX12_get 6 = .ok (.iconst 2, 1) := by decide +kernel
theorem dX12_get_7 : decode cX12_get 7 = .ok (.iload_n 1, 1) := by decide +kernel
theorem dX12_get_8 : decode cX12_get 8 = .ok (.imul, 1) := by decide +kernel
theorem dX12_get_9 : decode cX12_get 9 = .ok (.iadd, 1) := by decide +kernel
theorem dX12_get_10 : decode cX12_get 10 = .ok (.iload_n 2, 1) := by decide +kernel
theorem dX12_get_11 : decode cX12_get 11 = .ok (.iadd, 1) := by decide +kernel
theorem dX12_get_12 : decode cX12_get 12 = .ok (.iaload, 1) := by decide +kernel
theorem dX12_get_13 : decode cX12_get 13 = .ok (.ireturn, 1) := by decide +kernel
theorem dX12_put_0 : decode cX12_put 0 = .ok (.aload_n 0, 1) := by decide +kernel
theorem dX12_put_1 : decode cX12_put 1 = .ok (.getfield 7, 3) := by decide +kernel
theorem dX12_put_4 : decode cX12_put 4 = .ok (.bipush 12, 2) := by decide +kernel
theorem dX12_put_6 : decode cX12_put 6 = .ok (.iconst 2, 1) := by decide +kernel
theorem dX12_put_7 : decode cX12_put 7 = .ok (.iload_n 1, 1) := by decide +kernel
theorem dX12_put_8 : decode cX12_put 8 = .ok (.imul, 1) := by decide +kernel
theorem dX12_put_9 : decode cX12_put 9 = .ok (.iadd, 1) := by decide +kernel
theorem dX12_put_10 : decode cX12_put 10 = .ok (.iload_n 2, 1) := by decide +kernel
theorem dX12_put_11 : decode cX12_put 11 = .ok (.iadd, 1) := by decide +kernel
theorem dX12_put_12 : decode cX12_put 12 = .ok (.iload_n 3, 1) := by decide +kernel
theorem dX12_put_13 : decode cX12_put 13 = .ok (.iastore, 1) := by decide +kernel
theorem dX12_put_14 : decode cX12_put 14 = .ok (.return_, 1) := by decide +kernel
theorem dX12_lengthOf_0 : decode cX12_lengthOf 0 = .ok (.iconst 0, 1) := by decide +kernel
theorem dX12_lengthOf_1 : decode cX12_lengthOf 1 = .ok (.istore_n 1, 1) := by decide +kernel
theorem dX12_lengthOf_2 : decode cX12_lengthOf 2 = .ok (.iload_n 0, 1) := by decide +kernel
theorem dX12_lengthOf_3 : decode cX12_lengthOf 3 = .ok (.istore_n 2, 1) := by decide +kernel
theorem dX12_lengthOf_4 : decode cX12_lengthOf 4 = .ok (.iload_n 2, 1) := by decide +kernel
theorem dX12_lengthOf_5 : decode cX12_lengthOf 5 = .ok (.ifCond .le 14, 3) := by decide +kernel
theorem dX12_lengthOf_8 : decode cX12_lengthOf 8 = .ok (.iinc 1 1, 3) := by decide +kernel
theorem dX12_lengthOf_11 : decode cX12_lengthOf 11 = .ok (.iload_n 2, 1) := by decide +kernel
theorem dX12_lengthOf_12 : decode cX12_lengthOf 12 = .ok (.bipush 10, 2) := by decide +kernel
theorem dX12_lengthOf_14 : decode cX12_lengthOf 14 = .ok (.idiv, 1) := by decide +kernel
theorem dX12_lengthOf_15 : decode cX12_lengthOf 15 = .ok (.istore_n 2, 1) := by decide +kernel
theorem dX12_lengthOf_16 : decode cX12_lengthOf 16 = .ok (.goto (-12), 3) := by decide +kernel
theorem dX12_lengthOf_19 : decode cX12_lengthOf 19 = .ok (.iload_n 1, 1) := by decide +kernel
theorem dX12_lengthOf_20 : decode cX12_lengthOf 20 = .ok (.ireturn, 1) := by decide +kernel
theorem dX12_areSounds_0 : decode cX12_areSounds 0 = .ok (.iload_n 0, 1) := by decide +kernel
theorem dX12_areSounds_1 : decode cX12_areSounds 1 = .ok (.iconst 1, 1) := by decide +kernel
theorem dX12_areSounds_2 : decode cX12_areSounds 2 = .ok (.ldc 67, 2) := by decide +kernel
theorem dX12_areSounds_4 : decode cX12_areSounds 4 = .ok (.invokestatic 63, 3) := by decide +kernel
theorem dX12_areSounds_7 : decode cX12_areSounds 7 = .ok (.ifCond .ne 5, 3) := by decide +kernel
theorem dX12_areSounds_10 : decode cX12_areSounds 10 = .ok (.iconst 0, 1) := by decide +kernel
theorem dX12_areSounds_11 : decode cX12_areSounds 11 = .ok (.ireturn, 1) := by decide +kernel
theorem dX12_areSounds_12 : decode cX12_areSounds 12 = .ok (.iload_n 0, 1) := by decide +kernel
theorem dX12_areSounds_13 : decode cX12_areSounds 13 = .ok (.istore_n 1, 1) := by decide +kernel
theorem dX12_areSounds_14 : decode cX12_areSounds 14 = .ok (.iload_n 1, 1) := by decide +kernel
theorem dX12_areSounds_15 : decode cX12_areSounds 15 = .ok (.ifCond .le 20, 3) := by decide +kernel
theorem dX12_areSounds_18 : decode cX12_areSounds 18 = .ok (.iload_n 1, 1) := by decide +kernel
theorem dX12_areSounds_19 : decode cX12_areSounds 19 = .ok (.bipush 10, 2) := by decide +kernel
theorem dX12_areSounds_21 : decode cX12_areSounds 21 = .ok (.irem, 1) := by decide +kernel
theorem dX12_areSounds_22 : decode cX12_areSounds 22 = .ok (.ifCond .ne 5, 3) := by decide +kernel
theorem dX12_areSounds_25 : decode cX12_areSounds 25 = .ok (.iconst 0, 1) := by decide +kernel
theorem dX12_areSounds_26 : decode cX12_areSounds 26 = .ok (.ireturn, 1) := by decide +kernel
theorem dX12_areSounds_27 : decode cX12_areSounds 27 = .ok (.iload_n 1, 1) := by decide +kernel
theorem dX12_areSounds_28 : decode cX12_areSounds 28 = .ok (.bipush 10, 2) := by decide +kernel
theorem dX12_areSounds_30 : decode cX12_areSounds 30 = .ok (.idiv, 1) := by decide +kernel
theorem dX12_areSounds_31 : decode cX12_areSounds 31 = .ok (.istore_n 1, 1) := by decide +kernel
theorem dX12_areSounds_32 : decode cX12_areSounds 32 = .ok (.goto (-18), 3) := by decide +kernel
theorem dX12_areSounds_35 : decode cX12_areSounds 35 = .ok (.iconst 1, 1) := by decide +kernel
theorem dX12_areSounds_36 : decode cX12_areSounds 36 = .ok (.ireturn, 1) := by decide +kernel
theorem dX12_name_0 : decode cX12_name 0 = .ok (.iload_n 1, 1) := by decide +kernel
theorem dX12_name_1 : decode cX12_name 1 = .ok (.invokestatic 68, 3) := by decide +kernel
theorem dX12_name_4 : decode cX12_name 4 = .ok (.ifCond .eq 24, 3) := by decide +kernel
theorem dX12_name_7 : decode cX12_name 7 = .ok (.iload_n 2, 1) := by decide +kernel
theorem dX12_name_8 : decode cX12_name 8 = .ok (.iconst 0, 1) := by decide +kernel
theorem dX12_name_9 : decode cX12_name 9 = .ok (.bipush 9, 2) := by decide +kernel
theorem dX12_name_11 : decode cX12_name 11 = .ok (.invokestatic 63, 3) := by decide +kernel
theorem dX12_name_14 : decode cX12_name 14 = .ok (.ifCond .eq 14, 3) := by decide +kernel
theorem dX12_name_17 : decode cX12_name 17 = .ok (.aload_n 0, 1) := by decide +kernel
theorem dX12_name_18 : decode cX12_name 18 = .ok (.getfield 7, 3) := by decide +kernel
theorem dX12_name_21 : decode cX12_name 21 = .ok (.iconst 0, 1) := by decide +kernel
theorem dX12_name_22 : decode cX12_name 22 = .ok (.iaload, 1) := by decide +kernel
theorem dX12_name_23 : decode cX12_name 23 = .ok (.bipush 6, 2) := by decide +kernel
theorem dX12_name_25 : decode cX12_name 25 = .ok (.if_icmp .ne 5, 3) := by decide +kernel
theorem dX12_name_28 : decode cX12_name 28 = .ok (.iconst (-1), 1) := by decide +kernel
theorem dX12_name_29 : decode cX12_name 29 = .ok (.ireturn, 1) := by decide +kernel
theorem dX12_name_30 : decode cX12_name 30 = .ok (.aload_n 0, 1) := by decide +kernel
theorem dX12_name_31 : decode cX12_name 31 = .ok (.getfield 7, 3) := by decide +kernel
theorem dX12_name_34 : decode cX12_name 34 = .ok (.iconst 0, 1) := by decide +kernel
theorem dX12_name_35 : decode cX12_name 35 = .ok (.iaload, 1) := by decide +kernel
theorem dX12_name_36 : decode cX12_name 36 = .ok (.istore_n 3, 1) := by decide +kernel
theorem dX12_name_37 : decode cX12_name 37 = .ok (.aload_n 0, 1) := by decide +kernel
theorem dX12_name_38 : decode cX12_name 38 = .ok (.getfield 7, 3) := by decide +kernel
theorem dX12_name_41 : decode cX12_name 41 = .ok (.bipush 30, 2) := by decide +kernel
theorem dX12_name_43 : decode cX12_name 43 = .ok (.iload_n 3, 1) := by decide +kernel
theorem dX12_name_44 : decode cX12_name 44 = .ok (.iadd, 1) := by decide +kernel
theorem dX12_name_45 : decode cX12_name 45 = .ok (.iload_n 1, 1) := by decide +kernel
theorem dX12_name_46 : decode cX12_name 46 = .ok (.iastore, 1) := by decide +kernel
theorem dX12_name_47 : decode cX12_name 47 = .ok (.aload_n 0, 1) := by decide +kernel
theorem dX12_name_48 : decode cX12_name 48 = .ok (.getfield 7, 3) := by decide +kernel
theorem dX12_name_51 : decode cX12_name 51 = .ok (.bipush 36, 2) := by decide +kernel
theorem dX12_name_53 : decode cX12_name 53 = .ok (.iload_n 3, 1) := by decide +kernel
theorem dX12_name_54 : decode cX12_name 54 = .ok (.iadd, 1) := by decide +kernel
theorem dX12_name_55 : decode cX12_name 55 = .ok (.iload_n 2, 1) := by decide +kernel
theorem dX12_name_56 : decode cX12_name 56 = .ok (.iastore, 1) := by decide +kernel
theorem dX12_name_57 : decode cX12_name 57 = .ok (.aload_n 0, 1) := by decide +kernel
theorem dX12_name_58 : decode cX12_name 58 = .ok (.iload_n 3, 1) := by decide +kernel
theorem dX12_name_59 : decode cX12_name 59 = .ok (.invokevirtual 72, 3) := by decide +kernel
theorem dX12_name_62 : decode cX12_name 62 = .ok (.aload_n 0, 1) := by decide +kernel
theorem dX12_name_63 : decode cX12_name 63 = .ok (.getfield 7, 3) := by decide +kernel
theorem dX12_name_66 : decode cX12_name 66 = .ok (.iconst 0, 1) := by decide +kernel
theorem dX12_name_67 : decode cX12_name 67 = .ok (.dup2, 1) := by decide +kernel
theorem dX12_name_68 : decode cX12_name 68 = .ok (.iaload, 1) := by decide +kernel
theorem dX12_name_69 : decode cX12_name 69 = .ok (.iconst 1, 1) := by decide +kernel
theorem dX12_name_70 : decode cX12_name 70 = .ok (.iadd, 1) := by decide +kernel
theorem dX12_name_71 : decode cX12_name 71 = .ok (.iastore, 1) := by decide +kernel
theorem dX12_name_72 : decode cX12_name 72 = .ok (.iload_n 3, 1) := by decide +kernel
theorem dX12_name_73 : decode cX12_name 73 = .ok (.ireturn, 1) := by decide +kernel
theorem dX12_begin_0 : decode cX12_begin 0 = .ok (.aload_n 0, 1) := by decide +kernel
theorem dX12_begin_1 : decode cX12_begin 1 = .ok (.iload_n 1, 1) := by decide +kernel
theorem dX12_begin_2 : decode cX12_begin 2 = .ok (.iconst 0, 1) := by decide +kernel
theorem dX12_begin_3 : decode cX12_begin 3 = .ok (.iconst (-1), 1) := by decide +kernel
theorem dX12_begin_4 : decode cX12_begin 4 = .ok (.invokevirtual 76, 3) := by decide +kernel
theorem dX12_begin_7 : decode cX12_begin 7 = .ok (.aload_n 0, 1) := by decide +kernel
theorem dX12_begin_8 : decode cX12_begin 8 = .ok (.iload_n 1, 1) := by decide +kernel
theorem dX12_begin_9 : decode cX12_begin 9 = .ok (.iconst 1, 1) := by decide +kernel
theorem dX12_begin_10 : decode cX12_begin 10 = .ok (.aload_n 0, 1) := by decide +kernel
theorem dX12_begin_11 : decode cX12_begin 11 = .ok (.getfield 7, 3) := by decide +kernel
theorem dX12_begin_14 : decode cX12_begin 14 = .ok (.bipush 30, 2) := by decide +kernel
theorem dX12_begin_16 : decode cX12_begin 16 = .ok (.iload_n 1, 1) := by decide +kernel
theorem dX12_begin_17 : decode cX12_begin 17 = .ok (.iadd, 1) := by decide +kernel
theorem dX12_begin_18 : decode cX12_begin 18 = .ok (.iaload, 1) := by decide +kernel
theorem dX12_begin_19 : decode cX12_begin 19 = .ok (.invokestatic 80, 3) := by decide +kernel
theorem dX12_begin_22 : decode cX12_begin 22 = .ok (.invokevirtual 76, 3) := by decide +kernel
theorem dX12_begin_25 : decode cX12_begin 25 = .ok (.return_, 1) := by decide +kernel
theorem dX12_family_0 : decode cX12_family 0 = .ok (.iload_n 1, 1) := by decide +kernel
theorem dX12_family_1 : decode cX12_family 1 = .ok (.iconst 1, 1) := by decide +kernel
theorem dX12_family_2 : decode cX12_family 2 = .ok (.bipush 9, 2) := by decide +kernel
theorem dX12_family_4 : decode cX12_family 4 = .ok (.invokestatic 63, 3) := by decide +kernel
theorem dX12_family_7 : decode cX12_family 7 = .ok (.ifCond .eq 20, 3) := by decide +kernel
theorem dX12_family_10 : decode cX12_family 10 = .ok (.iload_n 2, 1) := by decide +kernel
theorem dX12_family_11 : decode cX12_family 11 = .ok (.invokestatic 84, 3) := by decide +kernel
theorem dX12_family_14 : decode cX12_family 14 = .ok (.ifCond .eq 13, 3) := by decide +kernel
theorem dX12_family_17 : decode cX12_family 17 = .ok (.aload_n 0, 1) := by decide +kernel
theorem dX12_family_18 : decode cX12_family 18 = .ok (.getfield 7, 3) := by decide +kernel
theorem dX12_family_21 : decode cX12_family 21 = .ok (.iconst 1, 1) := by decide +kernel
theorem dX12_family_22 : decode cX12_family 22 = .ok (.iaload, 1) := by decide +kernel
theorem dX12_family_23 : decode cX12_family 23 = .ok (.iconst 5, 1) := by decide +kernel
theorem dX12_family_24 : decode cX12_family 24 = .ok (.if_icmp .ne 5, 3) := by decide +kernel
theorem dX12_family_27 : decode cX12_family 27 = .ok (.iconst (-1), 1) := by decide +kernel
theorem dX12_family_28 : decode cX12_family 28 = .ok (.ireturn, 1) := by decide +kernel
theorem dX12_family_29 : decode cX12_family 29 = .ok (.aload_n 0, 1) := by decide +kernel
theorem dX12_family_30 : decode cX12_family 30 = .ok (.getfield 7, 3) := by decide +kernel
theorem dX12_family_33 : decode cX12_family 33 = .ok (.iconst 1, 1) := by decide +kernel
theorem dX12_family_34 : decode cX12_family 34 = .ok (.iaload, 1) := by decide +kernel
theorem dX12_family_35 : decode cX12_family 35 = .ok (.istore_n 3, 1) := by decide +kernel
theorem dX12_family_36 : decode cX12_family 36 = .ok (.aload_n 0, 1) := by decide +kernel
theorem dX12_family_37 : decode cX12_family 37 = .ok (.getfield 7, 3) := by decide +kernel
theorem dX12_family_40 : decode cX12_family 40 = .ok (.bipush 42, 2) := by decide +kernel
theorem dX12_family_42 : decode cX12_family 42 = .ok (.iload_n 3, 1) := by decide +kernel
theorem dX12_family_43 : decode cX12_family 43 = .ok (.iadd, 1) := by decide +kernel
theorem dX12_family_44 : decode cX12_family 44 = .ok (.iload_n 1, 1) := by decide +kernel
theorem dX12_family_45 : decode cX12_family 45 = .ok (.iastore, 1) := by decide +kernel
theorem dX12_family_46 : decode cX12_family 46 = .ok (.aload_n 0, 1) := by decide +kernel
theorem dX12_family_47 : decode cX12_family 47 = .ok (.getfield 7, 3) := by decide +kernel
theorem dX12_family_50 : decode cX12_family 50 = .ok (.bipush 47, 2) := by decide +kernel
theorem dX12_family_52 : decode cX12_family 52 = .ok (.iload_n 3, 1) := by decide +kernel
theorem dX12_family_53 : decode cX12_family 53 = .ok (.iadd, 1) := by decide +kernel
theorem dX12_family_54 : decode cX12_family 54 = .ok (.iload_n 2, 1) := by decide +kernel
theorem dX12_family_55 : decode cX12_family 55 = .ok (.iastore, 1) := by decide +kernel
theorem dX12_family_56 : decode cX12_family 56 = .ok (.aload_n 0, 1) := by decide +kernel
theorem dX12_family_57 : decode cX12_family 57 = .ok (.getfield 7, 3) := by decide +kernel
theorem dX12_family_60 : decode cX12_family 60 = .ok (.bipush 24, 2) := by decide +kernel
theorem dX12_family_62 : decode cX12_family 62 = .ok (.iload_n 3, 1) := by decide +kernel
theorem dX12_family_63 : decode cX12_family 63 = .ok (.iadd, 1) := by decide +kernel
theorem dX12_family_64 : decode cX12_family 64 = .ok (.iload_n 2, 1) := by decide +kernel
theorem dX12_family_65 : decode cX12_family 65 = .ok (.iastore, 1) := by decide +kernel
theorem dX12_family_66 : decode cX12_family 66 = .ok (.aload_n 0, 1) := by decide +kernel
theorem dX12_family_67 : decode cX12_family 67 = .ok (.getfield 7, 3) := by decide +kernel
theorem dX12_family_70 : decode cX12_family 70 = .ok (.iconst 1, 1) := by decide +kernel
theorem dX12_family_71 : decode cX12_family 71 = .ok (.dup2, 1) := by decide +kernel
theorem dX12_family_72 : decode cX12_family 72 = .ok (.iaload, 1) := by decide +kernel
theorem dX12_family_73 : decode cX12_family 73 = .ok (.iconst 1, 1) := by decide +kernel
theorem dX12_family_74 : decode cX12_family 74 = .ok (.iadd, 1) := by decide +kernel
theorem dX12_family_75 : decode cX12_family 75 = .ok (.iastore, 1) := by decide +kernel
theorem dX12_family_76 : decode cX12_family 76 = .ok (.iload_n 3, 1) := by decide +kernel
theorem dX12_family_77 : decode cX12_family 77 = .ok (.ireturn, 1) := by decide +kernel
theorem dX12_eddy_0 : decode cX12_eddy 0 = .ok (.iload_n 1, 1) := by decide +kernel
theorem dX12_eddy_1 : decode cX12_eddy 1 = .ok (.invokestatic 84, 3) := by decide +kernel
theorem dX12_eddy_4 : decode cX12_eddy 4 = .ok (.ifCond .ne 5, 3) := by decide +kernel
theorem dX12_eddy_7 : decode cX12_eddy 7 = .ok (.iconst 0, 1) := by decide +kernel
theorem dX12_eddy_8 : decode cX12_eddy 8 = .ok (.ireturn, 1) := by decide +kernel
theorem dX12_eddy_9 : decode cX12_eddy 9 = .ok (.aload_n 0, 1) := by decide +kernel
theorem dX12_eddy_10 : decode cX12_eddy 10 = .ok (.getfield 7, 3) := by decide +kernel
theorem dX12_eddy_13 : decode cX12_eddy 13 = .ok (.bipush 29, 2) := by decide +kernel
theorem dX12_eddy_15 : decode cX12_eddy 15 = .ok (.iload_n 2, 1) := by decide +kernel
theorem dX12_eddy_16 : decode cX12_eddy 16 = .ok (.ifCond .eq 17, 3) := by decide +kernel
theorem dX12_eddy_19 : decode cX12_eddy 19 = .ok (.aload_n 0, 1) := by decide +kernel
theorem dX12_eddy_20 : decode cX12_eddy 20 = .ok (.getfield 7, 3) := by decide +kernel
theorem dX12_eddy_23 : decode cX12_eddy 23 = .ok (.bipush 29, 2) := by decide +kernel
theorem dX12_eddy_25 : decode cX12_eddy 25 = .ok (.iaload, 1) := by decide +kernel
theorem dX12_eddy_26 : decode cX12_eddy 26 = .ok (.iconst 1, 1) := by decide +kernel
theorem dX12_eddy_27 : decode cX12_eddy 27 = .ok (.iload_n 1, 1) := by decide +kernel
theorem dX12_eddy_28 : decode cX12_eddy 28 = .ok (.ishl, 1) := by decide +kernel
theorem dX12_eddy_29 : decode cX12_eddy 29 = .ok (.ior, 1) := by decide +kernel
theorem dX12_eddy_30 : decode cX12_eddy 30 = .ok (.goto 16, 3) := by decide +kernel
theorem dX12_eddy_33 : decode cX12_eddy 33 = .ok (.aload_n 0, 1) := by decide +kernel
theorem dX12_eddy_34 : decode cX12_eddy 34 = .ok (.getfield 7, 3) := by decide +kernel
theorem dX12_eddy_37 : decode cX12_eddy 37 = .ok (.bipush 29, 2) := by decide +kernel
theorem dX12_eddy_39 : decode cX12_eddy 39 = .ok (.iaload, 1) := by decide +kernel
theorem dX12_eddy_40 : decode cX12_eddy 40 = .ok (.iconst 1, 1) := by decide +kernel
theorem dX12_eddy_41 : decode cX12_eddy 41 = .ok (.iload_n 1, 1) := by decide +kernel
theorem dX12_eddy_42 : decode cX12_eddy 42 = .ok (.ishl, 1) := by decide +kernel
theorem dX12_eddy_43 : decode cX12_eddy 43 = .ok (.iconst (-1), 1) := by decide +kernel
theorem dX12_eddy_44 : decode cX12_eddy 44 = .ok (.ixor, 1) := by decide +kernel
theorem dX12_eddy_45 : decode cX12_eddy 45 = .ok (.iand, 1) := by decide +kernel
theorem dX12_eddy_46 : decode cX12_eddy 46 = .ok (.iastore, 1) := by decide +kernel
theorem dX12_eddy_47 : decode cX12_eddy 47 = .ok (.iconst 1, 1) := by decide +kernel
theorem dX12_eddy_48 : decode cX12_eddy 48 = .ok (.ireturn, 1) := by decide +kernel
theorem dX12_four_0 : decode cX12_four 0 = .ok (.bipush 24, 2) := by decide +kernel
theorem dX12_four_2 : decode cX12_four 2 = .ok (.istore_n 2, 1) := by decide +kernel
theorem dX12_four_3 : decode cX12_four 3 = .ok (.iload_n 2, 1) := by decide +kernel
theorem dX12_four_4 : decode cX12_four 4 = .ok (.ifCond .lt 35, 3) := by decide +kernel
theorem dX12_four_7 : decode cX12_four 7 = .ok (.aload_n 0, 1) := by decide +kernel
theorem dX12_four_8 : decode cX12_four 8 = .ok (.getfield 19, 3) := by decide +kernel
theorem dX12_four_11 : decode cX12_four 11 = .ok (.aload_n 0, 1) := by decide +kernel
theorem dX12_four_12 : decode cX12_four 12 = .ok (.getfield 87, 3) := by decide +kernel
theorem dX12_four_15 : decode cX12_four 15 = .ok (.iload_n 1, 1) := by decide +kernel
theorem dX12_four_16 : decode cX12_four 16 = .ok (.iload_n 2, 1) := by decide +kernel
theorem dX12_four_17 : decode cX12_four 17 = .ok (.ishr, 1) := by decide +kernel
theorem dX12_four_18 : decode cX12_four 18 = .ok (.sipush 255, 3) := by decide +kernel
theorem dX12_four_21 : decode cX12_four 21 = .ok (.iand, 1) := by decide +kernel
theorem dX12_four_22 : decode cX12_four 22 = .ok (.iastore, 1) := by decide +kernel
theorem dX12_four_23 : decode cX12_four 23 = .ok (.aload_n 0, 1) := by decide +kernel
theorem dX12_four_24 : decode cX12_four 24 = .ok (.dup, 1) := by decide +kernel
theorem dX12_four_25 : decode cX12_four 25 = .ok (.getfield 87, 3) := by decide +kernel
theorem dX12_four_28 : decode cX12_four 28 = .ok (.iconst 1, 1) := by decide +kernel
theorem dX12_four_29 : decode cX12_four 29 = .ok (.iadd, 1) := by decide +kernel
theorem dX12_four_30 : decode cX12_four 30 = .ok (.putfield 87, 3) := by decide +kernel
theorem dX12_four_33 : decode cX12_four 33 = .ok (.iinc 2 (-8), 3) := by decide +kernel
theorem dX12_four_36 : decode cX12_four 36 = .ok (.goto (-33), 3) := by decide +kernel
theorem dX12_four_39 : decode cX12_four 39 = .ok (.return_, 1) := by decide +kernel
theorem dX12_feed_0 : decode cX12_feed 0 = .ok (.aload_n 0, 1) := by decide +kernel
theorem dX12_feed_1 : decode cX12_feed 1 = .ok (.getfield 87, 3) := by decide +kernel
theorem dX12_feed_4 : decode cX12_feed 4 = .ok (.bipush 20, 2) := by decide +kernel
theorem dX12_feed_6 : decode cX12_feed 6 = .ok (.iadd, 1) := by decide +kernel
theorem dX12_feed_7 : decode cX12_feed 7 = .ok (.sipush 300, 3) := by decide +kernel
theorem dX12_feed_10 : decode cX12_feed 10 = .ok (.if_icmp .le 5, 3) := by decide +kernel
theorem dX12_feed_13 : decode cX12_feed 13 = .ok (.iconst (-1), 1) := by decide +kernel
theorem dX12_feed_14 : decode cX12_feed 14 = .ok (.ireturn, 1) := by decide +kernel
theorem dX12_feed_15 : decode cX12_feed 15 = .ok (.aload_n 0, 1) := by decide +kernel
theorem dX12_feed_16 : decode cX12_feed 16 = .ok (.iload_n 1, 1) := by decide +kernel
theorem dX12_feed_17 : decode cX12_feed 17 = .ok (.invokevirtual 90, 3) := by decide +kernel
theorem dX12_feed_20 : decode cX12_feed 20 = .ok (.aload_n 0, 1) := by decide +kernel
theorem dX12_feed_21 : decode cX12_feed 21 = .ok (.iload_n 2, 1) := by decide +kernel
theorem dX12_feed_22 : decode cX12_feed 22 = .ok (.invokevirtual 90, 3) := by decide +kernel
theorem dX12_feed_25 : decode cX12_feed 25 = .ok (.aload_n 0, 1) := by decide +kernel
theorem dX12_feed_26 : decode cX12_feed 26 = .ok (.iload_n 3, 1) := by decide +kernel
theorem dX12_feed_27 : decode cX12_feed 27 = .ok (.invokevirtual 90, 3) := by decide +kernel
theorem dX12_feed_30 : decode cX12_feed 30 = .ok (.aload_n 0, 1) := by decide +kernel
theorem dX12_feed_31 : decode cX12_feed 31 = .ok (.iload 4, 2) := by decide +kernel
theorem dX12_feed_33 : decode cX12_feed 33 = .ok (.invokevirtual 90, 3) := by decide +kernel
theorem dX12_feed_36 : decode cX12_feed 36 = .ok (.aload_n 0, 1) := by decide +kernel
theorem dX12_feed_37 : decode cX12_feed 37 = .ok (.iload 5, 2) := by decide +kernel
theorem dX12_feed_39 : decode cX12_feed 39 = .ok (.invokevirtual 90, 3) := by decide +kernel
theorem dX12_feed_42 : decode cX12_feed 42 = .ok (.aload_n 0, 1) := by decide +kernel
theorem dX12_feed_43 : decode cX12_feed 43 = .ok (.getfield 87, 3) := by decide +kernel
theorem dX12_feed_46 : decode cX12_feed 46 = .ok (.ireturn, 1) := by decide +kernel
theorem dX12_end_0 : decode cX12_end 0 = .ok (.iload_n 1, 1) := by decide +kernel
theorem dX12_end_1 : decode cX12_end 1 = .ok (.iconst 0, 1) := by decide +kernel
theorem dX12_end_2 : decode cX12_end 2 = .ok (.aload_n 0, 1) := by decide +kernel
theorem dX12_end_3 : decode cX12_end 3 = .ok (.getfield 87, 3) := by decide +kernel
theorem dX12_end_6 : decode cX12_end 6 = .ok (.invokestatic 63, 3) := by decide +kernel
theorem dX12_end_9 : decode cX12_end 9 = .ok (.ifCond .ne 5, 3) := by decide +kernel
theorem dX12_end_12 : decode cX12_end 12 = .ok (.iconst (-1), 1) := by decide +kernel
theorem dX12_end_13 : decode cX12_end 13 = .ok (.ireturn, 1) := by decide +kernel
theorem dX12_end_14 : decode cX12_end 14 = .ok (.aload_n 0, 1) := by decide +kernel
theorem dX12_end_15 : decode cX12_end 15 = .ok (.iload_n 1, 1) := by decide +kernel
theorem dX12_end_16 : decode cX12_end 16 = .ok (.putfield 87, 3) := by decide +kernel
theorem dX12_end_19 : decode cX12_end 19 = .ok (.iload_n 1, 1) := by decide +kernel
theorem dX12_end_20 : decode cX12_end 20 = .ok (.ireturn, 1) := by decide +kernel
theorem dX12_byteAt_0 : decode cX12_byteAt 0 = .ok (.iload_n 1, 1) := by decide +kernel
theorem dX12_byteAt_1 : decode cX12_byteAt 1 = .ok (.aload_n 0, 1) := by decide +kernel
theorem dX12_byteAt_2 : decode cX12_byteAt 2 = .ok (.getfield 87, 3) := by decide +kernel
theorem dX12_byteAt_5 : decode cX12_byteAt 5 = .ok (.if_icmp .ge 12, 3) := by decide +kernel
theorem dX12_byteAt_8 : decode cX12_byteAt 8 = .ok (.aload_n 0, 1) := by decide +kernel
theorem dX12_byteAt_9 : decode cX12_byteAt 9 = .ok (.getfield 19, 3) := by decide +kernel
theorem dX12_byteAt_12 : decode cX12_byteAt 12 = .ok (.iload_n 1, 1) := by decide +kernel
theorem dX12_byteAt_13 : decode cX12_byteAt 13 = .ok (.iaload, 1) := by decide +kernel
theorem dX12_byteAt_14 : decode cX12_byteAt 14 = .ok (.goto 4, 3) := by decide +kernel
theorem dX12_byteAt_17 : decode cX12_byteAt 17 = .ok (.iconst (-1), 1) := by decide +kernel
theorem dX12_byteAt_18 : decode cX12_byteAt 18 = .ok (.ireturn, 1) := by decide +kernel
theorem dX12_isLetterByte_0 : decode cX12_isLetterByte 0 = .ok (.iload_n 0, 1) := by decide +kernel
theorem dX12_isLetterByte_1 : decode cX12_isLetterByte 1 = .ok (.bipush 97, 2) := by decide +kernel
theorem dX12_isLetterByte_3 : decode cX12_isLetterByte 3 = .ok (.if_icmp .lt 9, 3) := by decide +kernel
theorem dX12_isLetterByte_6 : decode cX12_isLetterByte 6 = .ok (.iload_n 0, 1) := by decide +kernel
theorem dX12_isLetterByte_7 : decode cX12_isLetterByte 7 = .ok (.bipush 122, 2) := by decide +kernel
theorem dX12_isLetterByte_9 : decode cX12_isLetterByte 9 = .ok (.if_icmp .le 15, 3) := by decide +kernel
theorem dX12_isLetterByte_12 : decode cX12_isLetterByte 12 = .ok (.iload_n 0, 1) := by decide +kernel
theorem dX12_isLetterByte_13 : decode cX12_isLetterByte 13 = .ok (.bipush 65, 2) := by decide +kernel
theorem dX12_isLetterByte_15 : decode cX12_isLetterByte 15 = .ok (.if_icmp .lt 13, 3) := by decide +kernel
theorem dX12_isLetterByte_18 : decode cX12_isLetterByte 18 = .ok (.iload_n 0, 1) := by decide +kernel
theorem dX12_isLetterByte_19 : decode cX12_isLetterByte 19 = .ok (.bipush 90, 2) := by decide +kernel
theorem dX12_isLetterByte_21 : decode cX12_isLetterByte 21 = .ok (.if_icmp .gt 7, 3) := by decide +kernel
theorem dX12_isLetterByte_24 : decode cX12_isLetterByte 24 = .ok (.iconst 1, 1) := by decide +kernel
theorem dX12_isLetterByte_25 : decode cX12_isLetterByte 25 = .ok (.goto 4, 3) := by decide +kernel
theorem dX12_isLetterByte_28 : decode cX12_isLetterByte 28 = .ok (.iconst 0, 1) := by decide +kernel
theorem dX12_isLetterByte_29 : decode cX12_isLetterByte 29 = .ok (.ireturn, 1) := by decide +kernel
theorem dX12_isFigure_0 : decode cX12_isFigure 0 = .ok (.iload_n 0, 1) := by decide +kernel
theorem dX12_isFigure_1 : decode cX12_isFigure 1 = .ok (.bipush 48, 2) := by decide +kernel
theorem dX12_isFigure_3 : decode cX12_isFigure 3 = .ok (.if_icmp .lt 13, 3) := by decide +kernel
theorem dX12_isFigure_6 : decode cX12_isFigure 6 = .ok (.iload_n 0, 1) := by decide +kernel
theorem dX12_isFigure_7 : decode cX12_isFigure 7 = .ok (.bipush 57, 2) := by decide +kernel
theorem dX12_isFigure_9 : decode cX12_isFigure 9 = .ok (.if_icmp .gt 7, 3) := by decide +kernel
theorem dX12_isFigure_12 : decode cX12_isFigure 12 = .ok (.iconst 1, 1) := by decide +kernel
theorem dX12_isFigure_13 : decode cX12_isFigure 13 = .ok (.goto 4, 3) := by decide +kernel
theorem dX12_isFigure_16 : decode cX12_isFigure 16 = .ok (.iconst 0, 1) := by decide +kernel
theorem dX12_isFigure_17 : decode cX12_isFigure 17 = .ok (.ireturn, 1) := by decide +kernel
theorem dX12_isSign_0 : decode cX12_isSign 0 = .ok (.iload_n 0, 1) := by decide +kernel
theorem dX12_isSign_1 : decode cX12_isSign 1 = .ok (.tableswitch 129 35 62 #[127, 129, 129, 129, 129, 127, 127, 127, 127, 129, 127, 129, 127, 129, 129, 129, 129, 129, 129, 129, 129, 129, 129, 127, 127, 127, 127, 127], 127) := by decide +kernel
theorem dX12_isSign_128 : decode cX12_isSign 128 = .ok (.iconst 1, 1) := by decide +kernel
theorem dX12_isSign_129 : decode cX12_isSign 129 = .ok (.ireturn, 1) := by decide +kernel
theorem dX12_isSign_130 : decode cX12_isSign 130 = .ok (.iconst 0, 1) := by decide +kernel
theorem dX12_isSign_131 : decode cX12_isSign 131 = .ok (.ireturn, 1) := by decide +kernel
theorem dX12_nextToken_0 : decode cX12_nextToken 0 = .ok (.aload_n 0, 1) := by decide +kernel
theorem dX12_nextToken_1 : decode cX12_nextToken 1 = .ok (.aload_n 0, 1) := by decide +kernel
theorem dX12_nextToken_2 : decode cX12_nextToken 2 = .ok (.getfield 93, 3) := by decide +kernel
theorem dX12_nextToken_5 : decode cX12_nextToken 5 = .ok (.invokevirtual 96, 3) := by decide +kernel
theorem dX12_nextToken_8 : decode cX12_nextToken 8 = .ok (.bipush 32, 2) := by decide +kernel
theorem dX12_nextToken_10 : decode cX12_nextToken 10 = .ok (.if_icmp .eq 16, 3) := by decide +kernel
theorem dX12_nextToken_13 : decode cX12_nextToken 13 = .ok (.aload_n 0, 1) := by decide +kernel
theorem dX12_nextToken_14 : decode cX12_nextToken 14 = .ok (.aload_n 0, 1) := by decide +kernel
theorem dX12_nextToken_15 : decode cX12_nextToken 15 = .ok (.getfield 93, 3) := by decide +kernel
theorem dX12_nextToken_18 : decode cX12_nextToken 18 = .ok (.invokevirtual 96, 3) := by decide +kernel
theorem dX12_nextToken_21 : decode cX12_nextToken 21 = .ok (.bipush 10, 2) := by decide +kernel
theorem dX12_nextToken_23 : decode cX12_nextToken 23 = .ok (.if_icmp .ne 16, 3) := by decide +kernel
theorem dX12_nextToken_26 : decode cX12_nextToken 26 = .ok (.aload_n 0, 1) := by decide +kernel
theorem dX12_nextToken_27 : decode cX12_nextToken 27 = .ok (.dup, 1) := by decide +kernel
theorem dX12_nextToken_28 : decode cX12_nextToken 28 = .ok (.getfield 93, 3) := by decide +kernel
theorem dX12_nextToken_31 : decode cX12_nextToken 31 = .ok (.iconst 1, 1) := by decide +kernel
theorem dX12_nextToken_32 : decode cX12_nextToken 32 = .ok (.iadd, 1) := by decide +kernel
theorem dX12_nextToken_33 : decode cX12_nextToken 33 = .ok (.putfield 93, 3) := by decide +kernel
theorem dX12_nextToken_36 : decode cX12_nextToken 36 = .ok (.goto (-36), 3) := by decide +kernel
theorem dX12_nextToken_39 : decode cX12_nextToken 39 = .ok (.aload_n 0, 1) := by decide +kernel
theorem dX12_nextToken_40 : decode cX12_nextToken 40 = .ok (.aload_n 0, 1) := by decide +kernel
theorem dX12_nextToken_41 : decode cX12_nextToken 41 = .ok (.getfield 93, 3) := by decide +kernel
theorem dX12_nextToken_44 : decode cX12_nextToken 44 = .ok (.putfield 99, 3) := by decide +kernel
theorem dX12_nextToken_47 : decode cX12_nextToken 47 = .ok (.aload_n 0, 1) := by decide +kernel
theorem dX12_nextToken_48 : decode cX12_nextToken 48 = .ok (.aload_n 0, 1) := by decide +kernel
theorem dX12_nextToken_49 : decode cX12_nextToken 49 = .ok (.getfield 93, 3) := by decide +kernel
theorem dX12_nextToken_52 : decode cX12_nextToken 52 = .ok (.invokevirtual 96, 3) := by decide +kernel
theorem dX12_nextToken_55 : decode cX12_nextToken 55 = .ok (.istore_n 1, 1) := by decide +kernel
theorem dX12_nextToken_56 : decode cX12_nextToken 56 = .ok (.iload_n 1, 1) := by decide +kernel
theorem dX12_nextToken_57 : decode cX12_nextToken 57 = .ok (.ifCond .ge 11, 3) := by decide +kernel
theorem dX12_nextToken_60 : decode cX12_nextToken 60 = .ok (.aload_n 0, 1) := by decide +kernel
theorem dX12_nextToken_61 : decode cX12_nextToken 61 = .ok (.iconst 0, 1) := by decide +kernel
theorem dX12_nextToken_62 : decode cX12_nextToken 62 = .ok (.putfield 102, 3) := by decide +kernel
theorem dX12_nextToken_65 : decode cX12_nextToken 65 = .ok (.goto 245, 3) := by decide +kernel
theorem dX12_nextToken_68 : decode cX12_nextToken 68 = .ok (.iload_n 1, 1) := by decide +kernel
theorem dX12_nextToken_69 : decode cX12_nextToken 69 = .ok (.invokestatic 105, 3) := by decide +kernel
theorem dX12_nextToken_72 : decode cX12_nextToken 72 = .ok (.ifCond .eq 79, 3) := by decide +kernel
theorem dX12_nextToken_75 : decode cX12_nextToken 75 = .ok (.aload_n 0, 1) := by decide +kernel
theorem dX12_nextToken_76 : decode cX12_nextToken 76 = .ok (.iconst 1, 1) := by decide +kernel
theorem dX12_nextToken_77 : decode cX12_nextToken 77 = .ok (.putfield 102, 3) := by decide +kernel
theorem dX12_nextToken_80 : decode cX12_nextToken 80 = .ok (.aload_n 0, 1) := by decide +kernel
theorem dX12_nextToken_81 : decode cX12_nextToken 81 = .ok (.iconst 0, 1) := by decide +kernel
theorem dX12_nextToken_82 : decode cX12_nextToken 82 = .ok (.putfield 108, 3) := by decide +kernel
theorem dX12_nextToken_85 : decode cX12_nextToken 85 = .ok (.aload_n 0, 1) := by decide +kernel
theorem dX12_nextToken_86 : decode cX12_nextToken 86 = .ok (.aload_n 0, 1) := by decide +kernel
theorem dX12_nextToken_87 : decode cX12_nextToken 87 = .ok (.getfield 93, 3) := by decide +kernel
theorem dX12_nextToken_90 : decode cX12_nextToken 90 = .ok (.invokevirtual 96, 3) := by decide +kernel
theorem dX12_nextToken_93 : decode cX12_nextToken 93 = .ok (.invokestatic 105, 3) := by decide +kernel
theorem dX12_nextToken_96 : decode cX12_nextToken 96 = .ok (.ifCond .eq 214, 3) := by decide +kernel
theorem dX12_nextToken_99 : decode cX12_nextToken 99 = .ok (.aload_n 0, 1) := by decide +kernel
theorem dX12_nextToken_100 : decode cX12_nextToken 100 = .ok (.aload_n 0, 1) := by decide +kernel
theorem dX12_nextToken_101 : decode cX12_nextToken 101 = .ok (.getfield 108, 3) := by decide +kernel
theorem dX12_nextToken_104 : decode cX12_nextToken 104 = .ok (.ldc 67, 2) := by decide +kernel
theorem dX12_nextToken_106 : decode cX12_nextToken 106 = .ok (.if_icmp .le 10, 3) := by decide +kernel
theorem dX12_nextToken_109 : decode cX12_nextToken 109 = .ok (.aload_n 0, 1) := by decide +kernel
theorem dX12_nextToken_110 : decode cX12_nextToken 110 = .ok (.getfield 108, 3) := by decide +kernel
theorem dX12_nextToken_113 : decode cX12_nextToken 113 = .ok (.goto 22, 3) := by decide +kernel
theorem dX12_nextToken_116 : decode cX12_nextToken 116 = .ok (.bipush 10, 2) := by decide +kernel
theorem dX12_nextToken_118 : decode cX12_nextToken 118 = .ok (.aload_n 0, 1) := by decide +kernel
theorem dX12_nextToken_119 : decode cX12_nextToken 119 = .ok (.getfield 108, 3) := by decide +kernel
theorem dX12_nextToken_122 : decode cX12_nextToken 122 = .ok (.imul, 1) := by decide +kernel
theorem dX12_nextToken_123 : decode cX12_nextToken 123 = .ok (.aload_n 0, 1) := by decide +kernel
theorem dX12_nextToken_124 : decode cX12_nextToken 124 = .ok (.aload_n 0, 1) := by decide +kernel
theorem dX12_nextToken_125 : decode cX12_nextToken 125 = .ok (.getfield 93, 3) := by decide +kernel
theorem dX12_nextToken_128 : decode cX12_nextToken 128 = .ok (.invokevirtual 96, 3) := by decide +kernel
theorem dX12_nextToken_131 : decode cX12_nextToken 131 = .ok (.iadd, 1) := by decide +kernel
theorem dX12_nextToken_132 : decode cX12_nextToken 132 = .ok (.bipush 48, 2) := by decide +kernel
theorem dX12_nextToken_134 : decode cX12_nextToken 134 = .ok (.isub, 1) := by decide +kernel
theorem dX12_nextToken_135 : decode cX12_nextToken 135 = .ok (.putfield 108, 3) := by decide +kernel
theorem dX12_nextToken_138 : decode cX12_nextToken 138 = .ok (.aload_n 0, 1) := by decide +kernel
theorem dX12_nextToken_139 : decode cX12_nextToken 139 = .ok (.dup, 1) := by decide +kernel
theorem dX12_nextToken_140 : decode cX12_nextToken 140 = .ok (.getfield 93, 3) := by decide +kernel
theorem dX12_nextToken_143 : decode cX12_nextToken 143 = .ok (.iconst 1, 1) := by decide +kernel
theorem dX12_nextToken_144 : decode cX12_nextToken 144 = .ok (.iadd, 1) := by decide +kernel
theorem dX12_nextToken_145 : decode cX12_nextToken 145 = .ok (.putfield 93, 3) := by decide +kernel
theorem dX12_nextToken_148 : decode cX12_nextToken 148 = .ok (.goto (-63), 3) := by decide +kernel
theorem dX12_nextToken_151 : decode cX12_nextToken 151 = .ok (.iload_n 1, 1) := by decide +kernel
theorem dX12_nextToken_152 : decode cX12_nextToken 152 = .ok (.invokestatic 111, 3) := by decide +kernel
theorem dX12_nextToken_155 : decode cX12_nextToken 155 = .ok (.ifCond .eq 79, 3) := by decide +kernel
theorem dX12_nextToken_158 : decode cX12_nextToken 158 = .ok (.aload_n 0, 1) := by decide +kernel
theorem dX12_nextToken_159 : decode cX12_nextToken 159 = .ok (.iconst 2, 1) := by decide +kernel
theorem dX12_nextToken_160 : decode cX12_nextToken 160 = .ok (.putfield 102, 3) := by decide +kernel
theorem dX12_nextToken_163 : decode cX12_nextToken 163 = .ok (.aload_n 0, 1) := by decide +kernel
theorem dX12_nextToken_164 : decode cX12_nextToken 164 = .ok (.lconst 0, 1) := by decide +kernel
theorem dX12_nextToken_165 : decode cX12_nextToken 165 = .ok (.putfield 114, 3) := by decide +kernel
theorem dX12_nextToken_168 : decode cX12_nextToken 168 = .ok (.aload_n 0, 1) := by decide +kernel
theorem dX12_nextToken_169 : decode cX12_nextToken 169 = .ok (.aload_n 0, 1) := by decide +kernel
theorem dX12_nextToken_170 : decode cX12_nextToken 170 = .ok (.getfield 93, 3) := by decide +kernel
theorem dX12_nextToken_173 : decode cX12_nextToken 173 = .ok (.invokevirtual 96, 3) := by decide +kernel
theorem dX12_nextToken_176 : decode cX12_nextToken 176 = .ok (.invokestatic 111, 3) := by decide +kernel
theorem dX12_nextToken_179 : decode cX12_nextToken 179 = .ok (.ifCond .eq 131, 3) := by decide +kernel
theorem dX12_nextToken_182 : decode cX12_nextToken 182 = .ok (.aload_n 0, 1) := by decide +kernel
theorem dX12_nextToken_183 : decode cX12_nextToken 183 = .ok (.aload_n 0, 1) := by decide +kernel
theorem dX12_nextToken_184 : decode cX12_nextToken 184 = .ok (.getfield 114, 3) := by decide +kernel
theorem dX12_nextToken_187 : decode cX12_nextToken 187 = .ok (.bipush 48, 2) := by decide +kernel
theorem dX12_nextToken_189 : decode cX12_nextToken 189 = .ok (.lshr, 1) := by decide +kernel
theorem dX12_nextToken_190 : decode cX12_nextToken 190 = .ok (.lconst 0, 1) := by decide +kernel
theorem dX12_nextToken_191 : decode cX12_nextToken 191 = .ok (.lcmp, 1) := by decide +kernel
theorem dX12_nextToken_192 : decode cX12_nextToken 192 = .ok (.ifCond .eq 9, 3) := by decide +kernel
theorem dX12_nextToken_195 : decode cX12_nextToken 195 = .ok (.ldc2_w 118, 3) := by decide +kernel
theorem dX12_nextToken_198 : decode cX12_nextToken 198 = .ok (.goto 20, 3) := by decide +kernel
theorem dX12_nextToken_201 : decode cX12_nextToken 201 = .ok (.aload_n 0, 1) := by decide +kernel
theorem dX12_nextToken_202 : decode cX12_nextToken 202 = .ok (.getfield 114, 3) := by decide +kernel
theorem dX12_nextToken_205 : decode cX12_nextToken 205 = .ok (.bipush 8, 2) := by decide +kernel
theorem dX12_nextToken_207 : decode cX12_nextToken 207 = .ok (.lshl, 1) := by decide +kernel
theorem dX12_nextToken_208 : decode cX12_nextToken 208 = .ok (.aload_n 0, 1) := by decide +kernel
theorem dX12_nextToken_209 : decode cX12_nextToken 209 = .ok (.aload_n 0, 1) := by decide +kernel
theorem dX12_nextToken_210 : decode cX12_nextToken 210 = .ok (.getfield 93, 3) := by decide +kernel
theorem dX12_nextToken_213 : decode cX12_nextToken 213 = .ok (.invokevirtual 96, 3) := by decide +kernel
theorem dX12_nextToken_216 : decode cX12_nextToken 216 = .ok (.i2l, 1) := by decide +kernel
theorem dX12_nextToken_217 : decode cX12_nextToken 217 = .ok (.lor, 1) := by decide +kernel
theorem dX12_nextToken_218 : decode cX12_nextToken 218 = .ok (.putfield 114, 3) := by decide +kernel
theorem dX12_nextToken_221 : decode cX12_nextToken 221 = .ok (.aload_n 0, 1) := by decide +kernel
theorem dX12_nextToken_222 : decode cX12_nextToken 222 = .ok (.dup, 1) := by decide +kernel
theorem dX12_nextToken_223 : decode cX12_nextToken 223 = .ok (.getfield 93, 3) := by decide +kernel
theorem dX12_nextToken_226 : decode cX12_nextToken 226 = .ok (.iconst 1, 1) := by decide +kernel
theorem dX12_nextToken_227 : decode cX12_nextToken 227 = .ok (.iadd, 1) := by decide +kernel
theorem dX12_nextToken_228 : decode cX12_nextToken 228 = .ok (.putfield 93, 3) := by decide +kernel
theorem dX12_nextToken_231 : decode cX12_nextToken 231 = .ok (.goto (-63), 3) := by decide +kernel
theorem dX12_nextToken_234 : decode cX12_nextToken 234 = .ok (.aload_n 0, 1) := by decide +kernel
theorem dX12_nextToken_235 : decode cX12_nextToken 235 = .ok (.iload_n 1, 1) := by decide +kernel
theorem dX12_nextToken_236 : decode cX12_nextToken 236 = .ok (.invokestatic 120, 3) := by decide +kernel
theorem dX12_nextToken_239 : decode cX12_nextToken 239 = .ok (.ifCond .eq 7, 3) := by decide +kernel
theorem dX12_nextToken_242 : decode cX12_nextToken 242 = .ok (.iload_n 1, 1) := by decide +kernel
theorem dX12_nextToken_243 : decode cX12_nextToken 243 = .ok (.goto 4, 3) := by decide +kernel
theorem dX12_nextToken_246 : decode cX12_nextToken 246 = .ok (.iconst 3, 1) := by decide +kernel
theorem dX12_nextToken_247 : decode cX12_nextToken 247 = .ok (.putfield 102, 3) := by decide +kernel
theorem dX12_nextToken_250 : decode cX12_nextToken 250 = .ok (.aload_n 0, 1) := by decide +kernel
theorem dX12_nextToken_251 : decode cX12_nextToken 251 = .ok (.dup, 1) := by decide +kernel
theorem dX12_nextToken_252 : decode cX12_nextToken 252 = .ok (.getfield 93, 3) := by decide +kernel
theorem dX12_nextToken_255 : decode cX12_nextToken 255 = .ok (.iconst 1, 1) := by decide +kernel
theorem dX12_nextToken_256 : decode cX12_nextToken 256 = .ok (.iadd, 1) := by decide +kernel
theorem dX12_nextToken_257 : decode cX12_nextToken 257 = .ok (.putfield 93, 3) := by decide +kernel
theorem dX12_nextToken_260 : decode cX12_nextToken 260 = .ok (.iload_n 1, 1) := by decide +kernel
theorem dX12_nextToken_261 : decode cX12_nextToken 261 = .ok (.bipush 60, 2) := by decide +kernel
theorem dX12_nextToken_263 : decode cX12_nextToken 263 = .ok (.if_icmp .eq 9, 3) := by decide +kernel
theorem dX12_nextToken_266 : decode cX12_nextToken 266 = .ok (.iload_n 1, 1) := by decide +kernel
theorem dX12_nextToken_267 : decode cX12_nextToken 267 = .ok (.bipush 62, 2) := by decide +kernel
theorem dX12_nextToken_269 : decode cX12_nextToken 269 = .ok (.if_icmp .ne 41, 3) := by decide +kernel
theorem dX12_nextToken_272 : decode cX12_nextToken 272 = .ok (.aload_n 0, 1) := by decide +kernel
theorem dX12_nextToken_273 : decode cX12_nextToken 273 = .ok (.aload_n 0, 1) := by decide +kernel
theorem dX12_nextToken_274 : decode cX12_nextToken 274 = .ok (.getfield 93, 3) := by decide +kernel
theorem dX12_nextToken_277 : decode cX12_nextToken 277 = .ok (.invokevirtual 96, 3) := by decide +kernel
theorem dX12_nextToken_280 : decode cX12_nextToken 280 = .ok (.bipush 61, 2) := by decide +kernel
theorem dX12_nextToken_282 : decode cX12_nextToken 282 = .ok (.if_icmp .ne 28, 3) := by decide +kernel
theorem dX12_nextToken_285 : decode cX12_nextToken 285 = .ok (.aload_n 0, 1) := by decide +kernel
theorem dX12_nextToken_286 : decode cX12_nextToken 286 = .ok (.iload_n 1, 1) := by decide +kernel
theorem dX12_nextToken_287 : decode cX12_nextToken 287 = .ok (.bipush 60, 2) := by decide +kernel
theorem dX12_nextToken_289 : decode cX12_nextToken 289 = .ok (.if_icmp .ne 7, 3) := by decide +kernel
theorem dX12_nextToken_292 : decode cX12_nextToken 292 = .ok (.iconst 4, 1) := by decide +kernel
theorem dX12_nextToken_293 : decode cX12_nextToken 293 = .ok (.goto 4, 3) := by decide +kernel
theorem dX12_nextToken_296 : decode cX12_nextToken 296 = .ok (.iconst 5, 1) := by decide +kernel
theorem dX12_nextToken_297 : decode cX12_nextToken 297 = .ok (.putfield 102, 3) := by decide +kernel
theorem dX12_nextToken_300 : decode cX12_nextToken 300 = .ok (.aload_n 0, 1) := by decide +kernel
theorem dX12_nextToken_301 : decode cX12_nextToken 301 = .ok (.dup, 1) := by decide +kernel
theorem dX12_nextToken_302 : decode cX12_nextToken 302 = .ok (.getfield 93, 3) := by decide +kernel
theorem dX12_nextToken_305 : decode cX12_nextToken 305 = .ok (.iconst 1, 1) := by decide +kernel
theorem dX12_nextToken_306 : decode cX12_nextToken 306 = .ok (.iadd, 1) := by decide +kernel
theorem dX12_nextToken_307 : decode cX12_nextToken 307 = .ok (.putfield 93, 3) := by decide +kernel
theorem dX12_nextToken_310 : decode cX12_nextToken 310 = .ok (.return_, 1) := by decide +kernel
theorem dX12_w2_0 : decode cX12_w2 0 = .ok (.iload_n 0, 1) := by decide +kernel
theorem dX12_w2_1 : decode cX12_w2 1 = .ok (.i2l, 1) := by decide +kernel
theorem dX12_w2_2 : decode cX12_w2 2 = .ok (.bipush 8, 2) := by decide +kernel
theorem dX12_w2_4 : decode cX12_w2 4 = .ok (.lshl, 1) := by decide +kernel
theorem dX12_w2_5 : decode cX12_w2 5 = .ok (.iload_n 1, 1) := by decide +kernel
theorem dX12_w2_6 : decode cX12_w2 6 = .ok (.i2l, 1) := by decide +kernel
theorem dX12_w2_7 : decode cX12_w2 7 = .ok (.lor, 1) := by decide +kernel
theorem dX12_w2_8 : decode cX12_w2 8 = .ok (.lreturn, 1) := by decide +kernel
theorem dX12_w3_0 : decode cX12_w3 0 = .ok (.iload_n 0, 1) := by decide +kernel
theorem dX12_w3_1 : decode cX12_w3 1 = .ok (.iload_n 1, 1) := by decide +kernel
theorem dX12_w3_2 : decode cX12_w3 2 = .ok (.invokestatic 123, 3) := by decide +kernel
theorem dX12_w3_5 : decode cX12_w3 5 = .ok (.bipush 8, 2) := by decide +kernel
theorem dX12_w3_7 : decode cX12_w3 7 = .ok (.lshl, 1) := by decide +kernel
theorem dX12_w3_8 : decode cX12_w3 8 = .ok (.iload_n 2, 1) := by decide +kernel
theorem dX12_w3_9 : decode cX12_w3 9 = .ok (.i2l, 1) := by decide +kernel
theorem dX12_w3_10 : decode cX12_w3 10 = .ok (.lor, 1) := by decide +kernel
theorem dX12_w3_11 : decode cX12_w3 11 = .ok (.lreturn, 1) := by decide +kernel
theorem dX12_w4_0 : decode cX12_w4 0 = .ok (.iload_n 0, 1) := by decide +kernel
theorem dX12_w4_1 : decode cX12_w4 1 = .ok (.iload_n 1, 1) := by decide +kernel
theorem dX12_w4_2 : decode cX12_w4 2 = .ok (.iload_n 2, 1) := by decide +kernel
theorem dX12_w4_3 : decode cX12_w4 3 = .ok (.invokestatic 127, 3) := by decide +kernel
theorem dX12_w4_6 : decode cX12_w4 6 = .ok (.bipush 8, 2) := by decide +kernel
theorem dX12_w4_8 : decode cX12_w4 8 = .ok (.lshl, 1) := by decide +kernel
theorem dX12_w4_9 : decode cX12_w4 9 = .ok (.iload_n 3, 1) := by decide +kernel
theorem dX12_w4_10 : decode cX12_w4 10 = .ok (.i2l, 1) := by decide +kernel
theorem dX12_w4_11 : decode cX12_w4 11 = .ok (.lor, 1) := by decide +kernel
theorem dX12_w4_12 : decode cX12_w4 12 = .ok (.lreturn, 1) := by decide +kernel
theorem dX12_w5_0 : decode cX12_w5 0 = .ok (.iload_n 0, 1) := by decide +kernel
theorem dX12_w5_1 : decode cX12_w5 1 = .ok (.iload_n 1, 1) := by decide +kernel
theorem dX12_w5_2 : decode cX12_w5 2 = .ok (.iload_n 2, 1) := by decide +kernel
theorem dX12_w5_3 : decode cX12_w5 3 = .ok (.iload_n 3, 1) := by decide +kernel
theorem dX12_w5_4 : decode cX12_w5 4 = .ok (.invokestatic 131, 3) := by decide +kernel
theorem dX12_w5_7 : decode cX12_w5 7 = .ok (.bipush 8, 2) := by decide +kernel
theorem dX12_w5_9 : decode cX12_w5 9 = .ok (.lshl, 1) := by decide +kernel
theorem dX12_w5_10 : decode cX12_w5 10 = .ok (.iload 4, 2) := by decide +kernel
theorem dX12_w5_12 : decode cX12_w5 12 = .ok (.i2l, 1) := by decide +kernel
theorem dX12_w5_13 : decode cX12_w5 13 = .ok (.lor, 1) := by decide +kernel
theorem dX12_w5_14 : decode cX12_w5 14 = .ok (.lreturn, 1) := by decide +kernel
theorem dX12_w6_0 : decode cX12_w6 0 = .ok (.iload_n 0, 1) := by decide +kernel
theorem dX12_w6_1 : decode cX12_w6 1 = .ok (.iload_n 1, 1) := by decide +kernel
theorem dX12_w6_2 : decode cX12_w6 2 = .ok (.iload_n 2, 1) := by decide +kernel
theorem dX12_w6_3 : decode cX12_w6 3 = .ok (.iload_n 3, 1) := by decide +kernel
theorem dX12_w6_4 : decode cX12_w6 4 = .ok (.iload 4, 2) := by decide +kernel
theorem dX12_w6_6 : decode cX12_w6 6 = .ok (.invokestatic 135, 3) := by decide +kernel
theorem dX12_w6_9 : decode cX12_w6 9 = .ok (.bipush 8, 2) := by decide +kernel
theorem dX12_w6_11 : decode cX12_w6 11 = .ok (.lshl, 1) := by decide +kernel
theorem dX12_w6_12 : decode cX12_w6 12 = .ok (.iload 5, 2) := by decide +kernel
theorem dX12_w6_14 : decode cX12_w6 14 = .ok (.i2l, 1) := by decide +kernel
theorem dX12_w6_15 : decode cX12_w6 15 = .ok (.lor, 1) := by decide +kernel
theorem dX12_w6_16 : decode cX12_w6 16 = .ok (.lreturn, 1) := by decide +kernel
theorem dX12_isWord_0 : decode cX12_isWord 0 = .ok (.aload_n 0, 1) := by decide +kernel
theorem dX12_isWord_1 : decode cX12_isWord 1 = .ok (.getfield 102, 3) := by decide +kernel
theorem dX12_isWord_4 : decode cX12_isWord 4 = .ok (.iconst 2, 1) := by decide +kernel
theorem dX12_isWord_5 : decode cX12_isWord 5 = .ok (.if_icmp .ne 16, 3) := by decide +kernel
theorem dX12_isWord_8 : decode cX12_isWord 8 = .ok (.aload_n 0, 1) := by decide +kernel
theorem dX12_isWord_9 : decode cX12_isWord 9 = .ok (.getfield 114, 3) := by decide +kernel
theorem dX12_isWord_12 : decode cX12_isWord 12 = .ok (.lload_n 1, 1) := by decide +kernel
theorem dX12_isWord_13 : decode cX12_isWord 13 = .ok (.lcmp, 1) := by decide +kernel
theorem dX12_isWord_14 : decode cX12_isWord 14 = .ok (.ifCond .ne 7, 3) := by decide +kernel
theorem dX12_isWord_17 : decode cX12_isWord 17 = .ok (.iconst 1, 1) := by decide +kernel
theorem dX12_isWord_18 : decode cX12_isWord 18 = .ok (.goto 4, 3) := by decide +kernel
theorem dX12_isWord_21 : decode cX12_isWord 21 = .ok (.iconst 0, 1) := by decide +kernel
theorem dX12_isWord_22 : decode cX12_isWord 22 = .ok (.ireturn, 1) := by decide +kernel
theorem dX12_emit_0 : decode cX12_emit 0 = .ok (.aload_n 0, 1) := by decide +kernel
theorem dX12_emit_1 : decode cX12_emit 1 = .ok (.getfield 16, 3) := by decide +kernel
theorem dX12_emit_4 : decode cX12_emit 4 = .ok (.aload_n 0, 1) := by decide +kernel
theorem dX12_emit_5 : decode cX12_emit 5 = .ok (.getfield 139, 3) := by decide +kernel
theorem dX12_emit_8 : decode cX12_emit 8 = .ok (.bipush 73, 2) := by decide +kernel
theorem dX12_emit_10 : decode cX12_emit 10 = .ok (.iadd, 1) := by decide +kernel
theorem dX12_emit_11 : decode cX12_emit 11 = .ok (.iconst 2, 1) := by decide +kernel
theorem dX12_emit_12 : decode cX12_emit 12 = .ok (.aload_n 0, 1) := by decide +kernel
theorem dX12_emit_13 : decode cX12_emit 13 = .ok (.getfield 142, 3) := by decide +kernel
theorem dX12_emit_16 : decode cX12_emit 16 = .ok (.imul, 1) := by decide +kernel
theorem dX12_emit_17 : decode cX12_emit 17 = .ok (.iadd, 1) := by decide +kernel
theorem dX12_emit_18 : decode cX12_emit 18 = .ok (.iload_n 1, 1) := by decide +kernel
theorem dX12_emit_19 : decode cX12_emit 19 = .ok (.iastore, 1) := by decide +kernel
theorem dX12_emit_20 : decode cX12_emit 20 = .ok (.aload_n 0, 1) := by decide +kernel
theorem dX12_emit_21 : decode cX12_emit 21 = .ok (.getfield 16, 3) := by decide +kernel
theorem dX12_emit_24 : decode cX12_emit 24 = .ok (.aload_n 0, 1) := by decide +kernel
theorem dX12_emit_25 : decode cX12_emit 25 = .ok (.getfield 139, 3) := by decide +kernel
theorem dX12_emit_28 : decode cX12_emit 28 = .ok (.bipush 73, 2) := by decide +kernel
theorem dX12_emit_30 : decode cX12_emit 30 = .ok (.iadd, 1) := by decide +kernel
theorem dX12_emit_31 : decode cX12_emit 31 = .ok (.iconst 2, 1) := by decide +kernel
theorem dX12_emit_32 : decode cX12_emit 32 = .ok (.aload_n 0, 1) := by decide +kernel
theorem dX12_emit_33 : decode cX12_emit 33 = .ok (.getfield 142, 3) := by decide +kernel
theorem dX12_emit_36 : decode cX12_emit 36 = .ok (.imul, 1) := by decide +kernel
theorem dX12_emit_37 : decode cX12_emit 37 = .ok (.iadd, 1) := by decide +kernel
theorem dX12_emit_38 : decode cX12_emit 38 = .ok (.iconst 1, 1) := by decide +kernel
theorem dX12_emit_39 : decode cX12_emit 39 = .ok (.iadd, 1) := by decide +kernel
theorem dX12_emit_40 : decode cX12_emit 40 = .ok (.iload_n 2, 1) := by decide +kernel
theorem dX12_emit_41 : decode cX12_emit 41 = .ok (.iastore, 1) := by decide +kernel
theorem dX12_emit_42 : decode cX12_emit 42 = .ok (.aload_n 0, 1) := by decide +kernel
theorem dX12_emit_43 : decode cX12_emit 43 = .ok (.dup, 1) := by decide +kernel
theorem dX12_emit_44 : decode cX12_emit 44 = .ok (.getfield 142, 3) := by decide +kernel
theorem dX12_emit_47 : decode cX12_emit 47 = .ok (.iconst 1, 1) := by decide +kernel
theorem dX12_emit_48 : decode cX12_emit 48 = .ok (.iadd, 1) := by decide +kernel
theorem dX12_emit_49 : decode cX12_emit 49 = .ok (.putfield 142, 3) := by decide +kernel
theorem dX12_emit_52 : decode cX12_emit 52 = .ok (.return_, 1) := by decide +kernel
theorem dX12_nameOf_0 : decode cX12_nameOf 0 = .ok (.aload_n 0, 1) := by decide +kernel
theorem dX12_nameOf_1 : decode cX12_nameOf 1 = .ok (.getfield 102, 3) := by decide +kernel
theorem dX12_nameOf_4 : decode cX12_nameOf 4 = .ok (.iconst 2, 1) := by decide +kernel
theorem dX12_nameOf_5 : decode cX12_nameOf 5 = .ok (.if_icmp .eq 5, 3) := by decide +kernel
theorem dX12_nameOf_8 : decode cX12_nameOf 8 = .ok (.iconst (-1), 1) := by decide +kernel
theorem dX12_nameOf_9 : decode cX12_nameOf 9 = .ok (.ireturn, 1) := by decide +kernel
theorem dX12_nameOf_10 : decode cX12_nameOf 10 = .ok (.aload_n 0, 1) := by decide +kernel
theorem dX12_nameOf_11 : decode cX12_nameOf 11 = .ok (.getfield 114, 3) := by decide +kernel
theorem dX12_nameOf_14 : decode cX12_nameOf 14 = .ok (.bipush 104, 2) := by decide +kernel
theorem dX12_nameOf_16 : decode cX12_nameOf 16 = .ok (.bipush 111, 2) := by decide +kernel
theorem dX12_nameOf_18 : decode cX12_nameOf 18 = .ok (.bipush 117, 2) := by decide +kernel
theorem dX12_nameOf_20 : decode cX12_nameOf 20 = .ok (.bipush 114, 2) := by decide +kernel
theorem dX12_nameOf_22 : decode cX12_nameOf 22 = .ok (.invokestatic 131, 3) := by decide +kernel
theorem dX12_nameOf_25 : decode cX12_nameOf 25 = .ok (.lcmp, 1) := by decide +kernel
theorem dX12_nameOf_26 : decode cX12_nameOf 26 = .ok (.ifCond .ne 5, 3) := by decide +kernel
theorem dX12_nameOf_29 : decode cX12_nameOf 29 = .ok (.iconst 0, 1) := by decide +kernel
theorem dX12_nameOf_30 : decode cX12_nameOf 30 = .ok (.ireturn, 1) := by decide +kernel
theorem dX12_nameOf_31 : decode cX12_nameOf 31 = .ok (.aload_n 0, 1) := by decide +kernel
theorem dX12_nameOf_32 : decode cX12_nameOf 32 = .ok (.getfield 114, 3) := by decide +kernel
theorem dX12_nameOf_35 : decode cX12_nameOf 35 = .ok (.bipush 119, 2) := by decide +kernel
theorem dX12_nameOf_37 : decode cX12_nameOf 37 = .ok (.bipush 97, 2) := by decide +kernel
theorem dX12_nameOf_39 : decode cX12_nameOf 39 = .ok (.bipush 114, 2) := by decide +kernel
theorem dX12_nameOf_41 : decode cX12_nameOf 41 = .ok (.bipush 109, 2) := by decide +kernel
theorem dX12_nameOf_43 : decode cX12_nameOf 43 = .ok (.invokestatic 131, 3) := by decide +kernel
theorem dX12_nameOf_46 : decode cX12_nameOf 46 = .ok (.lcmp, 1) := by decide +kernel
theorem dX12_nameOf_47 : decode cX12_nameOf 47 = .ok (.ifCond .ne 5, 3) := by decide +kernel
theorem dX12_nameOf_50 : decode cX12_nameOf 50 = .ok (.iconst 1, 1) := by decide +kernel
theorem dX12_nameOf_51 : decode cX12_nameOf 51 = .ok (.ireturn, 1) := by decide +kernel
theorem dX12_nameOf_52 : decode cX12_nameOf 52 = .ok (.aload_n 0, 1) := by decide +kernel
theorem dX12_nameOf_53 : decode cX12_nameOf 53 = .ok (.getfield 114, 3) := by decide +kernel
theorem dX12_nameOf_56 : decode cX12_nameOf 56 = .ok (.bipush 108, 2) := by decide +kernel
theorem dX12_nameOf_58 : decode cX12_nameOf 58 = .ok (.bipush 97, 2) := by decide +kernel
theorem dX12_nameOf_60 : decode cX12_nameOf 60 = .ok (.bipush 121, 2) := by decide +kernel
theorem dX12_nameOf_62 : decode cX12_nameOf 62 = .ok (.bipush 101, 2) := by decide +kernel
theorem dX12_nameOf_64 : decode cX12_nameOf 64 = .ok (.bipush 114, 2) := by decide +kernel
theorem dX12_nameOf_66 : decode cX12_nameOf 66 = .ok (.invokestatic 135, 3) := by decide +kernel
theorem dX12_nameOf_69 : decode cX12_nameOf 69 = .ok (.lcmp, 1) := by decide +kernel
theorem dX12_nameOf_70 : decode cX12_nameOf 70 = .ok (.ifCond .ne 5, 3) := by decide +kernel
theorem dX12_nameOf_73 : decode cX12_nameOf 73 = .ok (.iconst 2, 1) := by decide +kernel
theorem dX12_nameOf_74 : decode cX12_nameOf 74 = .ok (.ireturn, 1) := by decide +kernel
theorem dX12_nameOf_75 : decode cX12_nameOf 75 = .ok (.aload_n 0, 1) := by decide +kernel
theorem dX12_nameOf_76 : decode cX12_nameOf 76 = .ok (.getfield 114, 3) := by decide +kernel
theorem dX12_nameOf_79 : decode cX12_nameOf 79 = .ok (.bipush 115, 2) := by decide +kernel
theorem dX12_nameOf_81 : decode cX12_nameOf 81 = .ok (.bipush 105, 2) := by decide +kernel
theorem dX12_nameOf_83 : decode cX12_nameOf 83 = .ok (.bipush 122, 2) := by decide +kernel
theorem dX12_nameOf_85 : decode cX12_nameOf 85 = .ok (.bipush 101, 2) := by decide +kernel
theorem dX12_nameOf_87 : decode cX12_nameOf 87 = .ok (.invokestatic 131, 3) := by decide +kernel
theorem dX12_nameOf_90 : decode cX12_nameOf 90 = .ok (.lcmp, 1) := by decide +kernel
theorem dX12_nameOf_91 : decode cX12_nameOf 91 = .ok (.ifCond .ne 5, 3) := by decide +kernel
theorem dX12_nameOf_94 : decode cX12_nameOf 94 = .ok (.iconst 3, 1) := by decide +kernel
theorem dX12_nameOf_95 : decode cX12_nameOf 95 = .ok (.ireturn, 1) := by decide +kernel
theorem dX12_nameOf_96 : decode cX12_nameOf 96 = .ok (.aload_n 0, 1) := by decide +kernel
theorem dX12_nameOf_97 : decode cX12_nameOf 97 = .ok (.getfield 114, 3) := by decide +kernel
theorem dX12_nameOf_100 : decode cX12_nameOf 100 = .ok (.bipush 119, 2) := by decide +kernel
theorem dX12_nameOf_102 : decode cX12_nameOf 102 = .ok (.bipush 104, 2) := by decide +kernel
theorem dX12_nameOf_104 : decode cX12_nameOf 104 = .ok (.bipush 111, 2) := by decide +kernel
theorem dX12_nameOf_106 : decode cX12_nameOf 106 = .ok (.invokestatic 127, 3) := by decide +kernel
theorem dX12_nameOf_109 : decode cX12_nameOf 109 = .ok (.lcmp, 1) := by decide +kernel
theorem dX12_nameOf_110 : decode cX12_nameOf 110 = .ok (.ifCond .ne 5, 3) := by decide +kernel
theorem dX12_nameOf_113 : decode cX12_nameOf 113 = .ok (.iconst 4, 1) := by decide +kernel
theorem dX12_nameOf_114 : decode cX12_nameOf 114 = .ok (.ireturn, 1) := by decide +kernel
theorem dX12_nameOf_115 : decode cX12_nameOf 115 = .ok (.aload_n 0, 1) := by decide +kernel
theorem dX12_nameOf_116 : decode cX12_nameOf 116 = .ok (.getfield 114, 3) := by decide +kernel
theorem dX12_nameOf_119 : decode cX12_nameOf 119 = .ok (.bipush 115, 2) := by decide +kernel
theorem dX12_nameOf_121 : decode cX12_nameOf 121 = .ok (.bipush 111, 2) := by decide +kernel
theorem dX12_nameOf_123 : decode cX12_nameOf 123 = .ok (.bipush 117, 2) := by decide +kernel
theorem dX12_nameOf_125 : decode cX12_nameOf 125 = .ok (.bipush 110, 2) := by decide +kernel
theorem dX12_nameOf_127 : decode cX12_nameOf 127 = .ok (.bipush 100, 2) := by decide +kernel
theorem dX12_nameOf_129 : decode cX12_nameOf 129 = .ok (.bipush 115, 2) := by decide +kernel
theorem dX12_nameOf_131 : decode cX12_nameOf 131 = .ok (.invokestatic 145, 3) := by decide +kernel
theorem dX12_nameOf_134 : decode cX12_nameOf 134 = .ok (.lcmp, 1) := by decide +kernel
theorem dX12_nameOf_135 : decode cX12_nameOf 135 = .ok (.ifCond .ne 5, 3) := by decide +kernel
theorem dX12_nameOf_138 : decode cX12_nameOf 138 = .ok (.iconst 5, 1) := by decide +kernel
theorem dX12_nameOf_139 : decode cX12_nameOf 139 = .ok (.ireturn, 1) := by decide +kernel
theorem dX12_nameOf_140 : decode cX12_nameOf 140 = .ok (.aload_n 0, 1) := by decide +kernel
theorem dX12_nameOf_141 : decode cX12_nameOf 141 = .ok (.getfield 114, 3) := by decide +kernel
theorem dX12_nameOf_144 : decode cX12_nameOf 144 = .ok (.bipush 99, 2) := by decide +kernel
theorem dX12_nameOf_146 : decode cX12_nameOf 146 = .ok (.bipush 101, 2) := by decide +kernel
theorem dX12_nameOf_148 : decode cX12_nameOf 148 = .ok (.bipush 108, 2) := by decide +kernel
theorem dX12_nameOf_150 : decode cX12_nameOf 150 = .ok (.bipush 108, 2) := by decide +kernel
theorem dX12_nameOf_152 : decode cX12_nameOf 152 = .ok (.invokestatic 131, 3) := by decide +kernel
theorem dX12_nameOf_155 : decode cX12_nameOf 155 = .ok (.lcmp, 1) := by decide +kernel
theorem dX12_nameOf_156 : decode cX12_nameOf 156 = .ok (.ifCond .ne 6, 3) := by decide +kernel
theorem dX12_nameOf_159 : decode cX12_nameOf 159 = .ok (.bipush 6, 2) := by decide +kernel
theorem dX12_nameOf_161 : decode cX12_nameOf 161 = .ok (.ireturn, 1) := by decide +kernel
theorem dX12_nameOf_162 : decode cX12_nameOf 162 = .ok (.aload_n 0, 1) := by decide +kernel
theorem dX12_nameOf_163 : decode cX12_nameOf 163 = .ok (.getfield 114, 3) := by decide +kernel
theorem dX12_nameOf_166 : decode cX12_nameOf 166 = .ok (.bipush 110, 2) := by decide +kernel
theorem dX12_nameOf_168 : decode cX12_nameOf 168 = .ok (.bipush 101, 2) := by decide +kernel
theorem dX12_nameOf_170 : decode cX12_nameOf 170 = .ok (.bipush 116, 2) := by decide +kernel
theorem dX12_nameOf_172 : decode cX12_nameOf 172 = .ok (.invokestatic 127, 3) := by decide +kernel
theorem dX12_nameOf_175 : decode cX12_nameOf 175 = .ok (.lcmp, 1) := by decide +kernel
theorem dX12_nameOf_176 : decode cX12_nameOf 176 = .ok (.ifCond .ne 8, 3) := by decide +kernel
theorem dX12_nameOf_179 : decode cX12_nameOf 179 = .ok (.bipush 7, 2) := by decide +kernel
theorem dX12_nameOf_181 : decode cX12_nameOf 181 = .ok (.goto 30, 3) := by decide +kernel
theorem dX12_nameOf_184 : decode cX12_nameOf 184 = .ok (.aload_n 0, 1) := by decide +kernel
theorem dX12_nameOf_185 : decode cX12_nameOf 185 = .ok (.getfield 114, 3) := by decide +kernel
theorem dX12_nameOf_188 : decode cX12_nameOf 188 = .ok (.bipush 104, 2) := by decide +kernel
theorem dX12_nameOf_190 : decode cX12_nameOf 190 = .ok (.bipush 111, 2) := by decide +kernel
theorem dX12_nameOf_192 : decode cX12_nameOf 192 = .ok (.bipush 117, 2) := by decide +kernel
theorem dX12_nameOf_194 : decode cX12_nameOf 194 = .ok (.bipush 115, 2) := by decide +kernel
theorem dX12_nameOf_196 : decode cX12_nameOf 196 = .ok (.bipush 101, 2) := by decide +kernel
theorem dX12_nameOf_198 : decode cX12_nameOf 198 = .ok (.invokestatic 135, 3) := by decide +kernel
theorem dX12_nameOf_201 : decode cX12_nameOf 201 = .ok (.lcmp, 1) := by decide +kernel
theorem dX12_nameOf_202 : decode cX12_nameOf 202 = .ok (.ifCond .ne 8, 3) := by decide +kernel
theorem dX12_nameOf_205 : decode cX12_nameOf 205 = .ok (.bipush 8, 2) := by decide +kernel
theorem dX12_nameOf_207 : decode cX12_nameOf 207 = .ok (.goto 4, 3) := by decide +kernel
theorem dX12_nameOf_210 : decode cX12_nameOf 210 = .ok (.iconst (-1), 1) := by decide +kernel
theorem dX12_nameOf_211 : decode cX12_nameOf 211 = .ok (.ireturn, 1) := by decide +kernel
theorem dX12_isOf_0 : decode cX12_isOf 0 = .ok (.iload_n 1, 1) := by decide +kernel
theorem dX12_isOf_1 : decode cX12_isOf 1 = .ok (.bipush 6, 2) := by decide +kernel
theorem dX12_isOf_3 : decode cX12_isOf 3 = .ok (.if_icmp .lt 27, 3) := by decide +kernel
theorem dX12_isOf_6 : decode cX12_isOf 6 = .ok (.iload_n 1, 1) := by decide +kernel
theorem dX12_isOf_7 : decode cX12_isOf 7 = .ok (.bipush 6, 2) := by decide +kernel
theorem dX12_isOf_9 : decode cX12_isOf 9 = .ok (.if_icmp .ne 13, 3) := by decide +kernel
theorem dX12_isOf_12 : decode cX12_isOf 12 = .ok (.aload_n 0, 1) := by decide +kernel
theorem dX12_isOf_13 : decode cX12_isOf 13 = .ok (.getfield 149, 3) := by decide +kernel
theorem dX12_isOf_16 : decode cX12_isOf 16 = .ok (.ifCond .eq 18, 3) := by decide +kernel
theorem dX12_isOf_19 : decode cX12_isOf 19 = .ok (.goto 11, 3) := by decide +kernel
theorem dX12_isOf_22 : decode cX12_isOf 22 = .ok (.aload_n 0, 1) := by decide +kernel
theorem dX12_isOf_23 : decode cX12_isOf 23 = .ok (.getfield 149, 3) := by decide +kernel
theorem dX12_isOf_26 : decode cX12_isOf 26 = .ok (.iconst 2, 1) := by decide +kernel
theorem dX12_isOf_27 : decode cX12_isOf 27 = .ok (.if_icmp .ne 7, 3) := by decide +kernel
theorem dX12_isOf_30 : decode cX12_isOf 30 = .ok (.iconst 1, 1) := by decide +kernel
theorem dX12_isOf_31 : decode cX12_isOf 31 = .ok (.goto 4, 3) := by decide +kernel
theorem dX12_isOf_34 : decode cX12_isOf 34 = .ok (.iconst 0, 1) := by decide +kernel
theorem dX12_isOf_35 : decode cX12_isOf 35 = .ok (.ireturn, 1) := by decide +kernel
theorem dX12_rank_0 : decode cX12_rank 0 = .ok (.iload_n 0, 1) := by decide +kernel
theorem dX12_rank_1 : decode cX12_rank 1 = .ok (.bipush 40, 2) := by decide +kernel
theorem dX12_rank_3 : decode cX12_rank 3 = .ok (.if_icmp .lt 7, 3) := by decide +kernel
theorem dX12_rank_6 : decode cX12_rank 6 = .ok (.iconst 0, 1) := by decide +kernel
theorem dX12_rank_7 : decode cX12_rank 7 = .ok (.goto 75, 3) := by decide +kernel
theorem dX12_rank_10 : decode cX12_rank 10 = .ok (.iload_n 0, 1) := by decide +kernel
theorem dX12_rank_11 : decode cX12_rank 11 = .ok (.bipush 22, 2) := by decide +kernel
theorem dX12_rank_13 : decode cX12_rank 13 = .ok (.if_icmp .ne 7, 3) := by decide +kernel
theorem dX12_rank_16 : decode cX12_rank 16 = .ok (.iconst 1, 1) := by decide +kernel
theorem dX12_rank_17 : decode cX12_rank 17 = .ok (.goto 65, 3) := by decide +kernel
theorem dX12_rank_20 : decode cX12_rank 20 = .ok (.iload_n 0, 1) := by decide +kernel
theorem dX12_rank_21 : decode cX12_rank 21 = .ok (.bipush 21, 2) := by decide +kernel
theorem dX12_rank_23 : decode cX12_rank 23 = .ok (.if_icmp .ne 7, 3) := by decide +kernel
theorem dX12_rank_26 : decode cX12_rank 26 = .ok (.iconst 2, 1) := by decide +kernel
theorem dX12_rank_27 : decode cX12_rank 27 = .ok (.goto 55, 3) := by decide +kernel
theorem dX12_rank_30 : decode cX12_rank 30 = .ok (.iload_n 0, 1) := by decide +kernel
theorem dX12_rank_31 : decode cX12_rank 31 = .ok (.bipush 20, 2) := by decide +kernel
theorem dX12_rank_33 : decode cX12_rank 33 = .ok (.if_icmp .ne 7, 3) := by decide +kernel
theorem dX12_rank_36 : decode cX12_rank 36 = .ok (.iconst 3, 1) := by decide +kernel
theorem dX12_rank_37 : decode cX12_rank 37 = .ok (.goto 45, 3) := by decide +kernel
theorem dX12_rank_40 : decode cX12_rank 40 = .ok (.iload_n 0, 1) := by decide +kernel
theorem dX12_rank_41 : decode cX12_rank 41 = .ok (.bipush 10, 2) := by decide +kernel
theorem dX12_rank_43 : decode cX12_rank 43 = .ok (.if_icmp .lt 7, 3) := by decide +kernel
theorem dX12_rank_46 : decode cX12_rank 46 = .ok (.iconst 4, 1) := by decide +kernel
theorem dX12_rank_47 : decode cX12_rank 47 = .ok (.goto 35, 3) := by decide +kernel
theorem dX12_rank_50 : decode cX12_rank 50 = .ok (.iload_n 0, 1) := by decide +kernel
theorem dX12_rank_51 : decode cX12_rank 51 = .ok (.iconst 5, 1) := by decide +kernel
theorem dX12_rank_52 : decode cX12_rank 52 = .ok (.if_icmp .eq 13, 3) := by decide +kernel
theorem dX12_rank_55 : decode cX12_rank 55 = .ok (.iload_n 0, 1) := by decide +kernel
theorem dX12_rank_56 : decode cX12_rank 56 = .ok (.iconst 2, 1) := by decide +kernel
theorem dX12_rank_57 : decode cX12_rank 57 = .ok (.if_icmp .eq 8, 3) := by decide +kernel
theorem dX12_rank_60 : decode cX12_rank 60 = .ok (.iload_n 0, 1) := by decide +kernel
theorem dX12_rank_61 : decode cX12_rank 61 = .ok (.iconst 4, 1) := by decide +kernel
theorem dX12_rank_62 : decode cX12_rank 62 = .ok (.if_icmp .ne 8, 3) := by decide +kernel
theorem dX12_rank_65 : decode cX12_rank 65 = .ok (.bipush 7, 2) := by decide +kernel
theorem dX12_rank_67 : decode cX12_rank 67 = .ok (.goto 15, 3) := by decide +kernel
theorem dX12_rank_70 : decode cX12_rank 70 = .ok (.iload_n 0, 1) := by decide +kernel
theorem dX12_rank_71 : decode cX12_rank 71 = .ok (.bipush 8, 2) := by decide +kernel
theorem dX12_rank_73 : decode cX12_rank 73 = .ok (.if_icmp .lt 8, 3) := by decide +kernel
theorem dX12_rank_76 : decode cX12_rank 76 = .ok (.bipush 6, 2) := by decide +kernel
theorem dX12_rank_78 : decode cX12_rank 78 = .ok (.goto 4, 3) := by decide +kernel
theorem dX12_rank_81 : decode cX12_rank 81 = .ok (.iconst 5, 1) := by decide +kernel
theorem dX12_rank_82 : decode cX12_rank 82 = .ok (.ireturn, 1) := by decide +kernel
theorem dX12_settle_0 : decode cX12_settle 0 = .ok (.aload_n 0, 1) := by decide +kernel
theorem dX12_settle_1 : decode cX12_settle 1 = .ok (.getfield 152, 3) := by decide +kernel
theorem dX12_settle_4 : decode cX12_settle 4 = .ok (.ifCond .le 89, 3) := by decide +kernel
theorem dX12_settle_7 : decode cX12_settle 7 = .ok (.aload_n 0, 1) := by decide +kernel
theorem dX12_settle_8 : decode cX12_settle 8 = .ok (.getfield 29, 3) := by decide +kernel
theorem dX12_settle_11 : decode cX12_settle 11 = .ok (.aload_n 0, 1) := by decide +kernel
theorem dX12_settle_12 : decode cX12_settle 12 = .ok (.getfield 152, 3) := by decide +kernel
theorem dX12_settle_15 : decode cX12_settle 15 = .ok (.iconst 1, 1) := by decide +kernel
theorem dX12_settle_16 : decode cX12_settle 16 = .ok (.isub, 1) := by decide +kernel
theorem dX12_settle_17 : decode cX12_settle 17 = .ok (.iaload, 1) := by decide +kernel
theorem dX12_settle_18 : decode cX12_settle 18 = .ok (.invokestatic 155, 3) := by decide +kernel
theorem dX12_settle_21 : decode cX12_settle 21 = .ok (.iload_n 1, 1) := by decide +kernel
theorem dX12_settle_22 : decode cX12_settle 22 = .ok (.if_icmp .lt 71, 3) := by decide +kernel
theorem dX12_settle_25 : decode cX12_settle 25 = .ok (.aload_n 0, 1) := by decide +kernel
theorem dX12_settle_26 : decode cX12_settle 26 = .ok (.dup, 1) := by decide +kernel
theorem dX12_settle_27 : decode cX12_settle 27 = .ok (.getfield 152, 3) := by decide +kernel
theorem dX12_settle_30 : decode cX12_settle 30 = .ok (.iconst 1, 1) := by decide +kernel
theorem dX12_settle_31 : decode cX12_settle 31 = .ok (.isub, 1) := by decide +kernel
theorem dX12_settle_32 : decode cX12_settle 32 = .ok (.putfield 152, 3) := by decide +kernel
theorem dX12_settle_35 : decode cX12_settle 35 = .ok (.aload_n 0, 1) := by decide +kernel
theorem dX12_settle_36 : decode cX12_settle 36 = .ok (.aload_n 0, 1) := by decide +kernel
theorem dX12_settle_37 : decode cX12_settle 37 = .ok (.getfield 29, 3) := by decide +kernel
theorem dX12_settle_40 : decode cX12_settle 40 = .ok (.aload_n 0, 1) := by decide +kernel
theorem dX12_settle_41 : decode cX12_settle 41 = .ok (.getfield 152, 3) := by decide +kernel
theorem dX12_settle_44 : decode cX12_settle 44 = .ok (.iaload, 1) := by decide +kernel
theorem dX12_settle_45 : decode cX12_settle 45 = .ok (.iconst 0, 1) := by decide +kernel
theorem dX12_settle_46 : decode cX12_settle 46 = .ok (.invokevirtual 158, 3) := by decide +kernel
theorem dX12_settle_49 : decode cX12_settle 49 = .ok (.aload_n 0, 1) := by decide +kernel
theorem dX12_settle_50 : decode cX12_settle 50 = .ok (.getfield 29, 3) := by decide +kernel
theorem dX12_settle_53 : decode cX12_settle 53 = .ok (.aload_n 0, 1) := by decide +kernel
theorem dX12_settle_54 : decode cX12_settle 54 = .ok (.getfield 152, 3) := by decide +kernel
theorem dX12_settle_57 : decode cX12_settle 57 = .ok (.iaload, 1) := by decide +kernel
theorem dX12_settle_58 : decode cX12_settle 58 = .ok (.invokestatic 155, 3) := by decide +kernel
theorem dX12_settle_61 : decode cX12_settle 61 = .ok (.bipush 7, 2) := by decide +kernel
theorem dX12_settle_63 : decode cX12_settle 63 = .ok (.if_icmp .eq 17, 3) := by decide +kernel
theorem dX12_settle_66 : decode cX12_settle 66 = .ok (.aload_n 0, 1) := by decide +kernel
theorem dX12_settle_67 : decode cX12_settle 67 = .ok (.getfield 29, 3) := by decide +kernel
theorem dX12_settle_70 : decode cX12_settle 70 = .ok (.aload_n 0, 1) := by decide +kernel
theorem dX12_settle_71 : decode cX12_settle 71 = .ok (.getfield 152, 3) := by decide +kernel
theorem dX12_settle_74 : decode cX12_settle 74 = .ok (.iaload, 1) := by decide +kernel
theorem dX12_settle_75 : decode cX12_settle 75 = .ok (.bipush 20, 2) := by decide +kernel
theorem dX12_settle_77 : decode cX12_settle 77 = .ok (.if_icmp .ne (-77), 3) := by decide +kernel
theorem dX12_settle_80 : decode cX12_settle 80 = .ok (.aload_n 0, 1) := by decide +kernel
theorem dX12_settle_81 : decode cX12_settle 81 = .ok (.dup, 1) := by decide +kernel
theorem dX12_settle_82 : decode cX12_settle 82 = .ok (.getfield 162, 3) := by decide +kernel
theorem dX12_settle_85 : decode cX12_settle 85 = .ok (.iconst 1, 1) := by decide +kernel
theorem dX12_settle_86 : decode cX12_settle 86 = .ok (.isub, 1) := by decide +kernel
theorem dX12_settle_87 : decode cX12_settle 87 = .ok (.putfield 162, 3) := by decide +kernel
theorem dX12_settle_90 : decode cX12_settle 90 = .ok (.goto (-90), 3) := by decide +kernel
theorem dX12_settle_93 : decode cX12_settle 93 = .ok (.return_, 1) := by decide +kernel
theorem dX12_openAt_0 : decode cX12_openAt 0 = .ok (.aload_n 0, 1) := by decide +kernel
theorem dX12_openAt_1 : decode cX12_openAt 1 = .ok (.getfield 152, 3) := by decide +kernel
theorem dX12_openAt_4 : decode cX12_openAt 4 = .ok (.iconst 1, 1) := by decide +kernel
theorem dX12_openAt_5 : decode cX12_openAt 5 = .ok (.isub, 1) := by decide +kernel
theorem dX12_openAt_6 : decode cX12_openAt 6 = .ok (.istore_n 1, 1) := by decide +kernel
theorem dX12_openAt_7 : decode cX12_openAt 7 = .ok (.iload_n 1, 1) := by decide +kernel
theorem dX12_openAt_8 : decode cX12_openAt 8 = .ok (.ifCond .lt 20, 3) := by decide +kernel
theorem dX12_openAt_11 : decode cX12_openAt 11 = .ok (.aload_n 0, 1) := by decide +kernel
theorem dX12_openAt_12 : decode cX12_openAt 12 = .ok (.getfield 29, 3) := by decide +kernel
theorem dX12_openAt_15 : decode cX12_openAt 15 = .ok (.iload_n 1, 1) := by decide +kernel
theorem dX12_openAt_16 : decode cX12_openAt 16 = .ok (.iaload, 1) := by decide +kernel
theorem dX12_openAt_17 : decode cX12_openAt 17 = .ok (.bipush 40, 2) := by decide +kernel
theorem dX12_openAt_19 : decode cX12_openAt 19 = .ok (.if_icmp .ge 9, 3) := by decide +kernel
theorem dX12_openAt_22 : decode cX12_openAt 22 = .ok (.iinc 1 (-1), 3) := by decide +kernel
theorem dX12_openAt_25 : decode cX12_openAt 25 = .ok (.goto (-18), 3) := by decide +kernel
theorem dX12_openAt_28 : decode cX12_openAt 28 = .ok (.iload_n 1, 1) := by decide +kernel
theorem dX12_openAt_29 : decode cX12_openAt 29 = .ok (.ireturn, 1) := by decide +kernel
theorem dX12_openNow_0 : decode cX12_openNow 0 = .ok (.aload_n 0, 1) := by decide +kernel
theorem dX12_openNow_1 : decode cX12_openNow 1 = .ok (.invokevirtual 165, 3) := by decide +kernel
theorem dX12_openNow_4 : decode cX12_openNow 4 = .ok (.ifCond .ge 7, 3) := by decide +kernel
theorem dX12_openNow_7 : decode cX12_openNow 7 = .ok (.iconst (-1), 1) := by decide +kernel
theorem dX12_openNow_8 : decode cX12_openNow 8 = .ok (.goto 12, 3) := by decide +kernel
theorem dX12_openNow_11 : decode cX12_openNow 11 = .ok (.aload_n 0, 1) := by decide +kernel
theorem dX12_openNow_12 : decode cX12_openNow 12 = .ok (.getfield 29, 3) := by decide +kernel
theorem dX12_openNow_15 : decode cX12_openNow 15 = .ok (.aload_n 0, 1) := by decide +kernel
theorem dX12_openNow_16 : decode cX12_openNow 16 = .ok (.invokevirtual 165, 3) := by decide +kernel
theorem dX12_openNow_19 : decode cX12_openNow 19 = .ok (.iaload, 1) := by decide +kernel
theorem dX12_openNow_20 : decode cX12_openNow 20 = .ok (.ireturn, 1) := by decide +kernel
theorem dX12_isCompared_0 : decode cX12_isCompared 0 = .ok (.aload_n 0, 1) := by decide +kernel
theorem dX12_isCompared_1 : decode cX12_isCompared 1 = .ok (.getfield 152, 3) := by decide +kernel
theorem dX12_isCompared_4 : decode cX12_isCompared 4 = .ok (.iconst 1, 1) := by decide +kernel
theorem dX12_isCompared_5 : decode cX12_isCompared 5 = .ok (.isub, 1) := by decide +kernel
theorem dX12_isCompared_6 : decode cX12_isCompared 6 = .ok (.istore_n 1, 1) := by decide +kernel
theorem dX12_isCompared_7 : decode cX12_isCompared 7 = .ok (.iload_n 1, 1) := by decide +kernel
theorem dX12_isCompared_8 : decode cX12_isCompared 8 = .ok (.ifCond .lt 22, 3) := by decide +kernel
theorem dX12_isCompared_11 : decode cX12_isCompared 11 = .ok (.aload_n 0, 1) := by decide +kernel
theorem dX12_isCompared_12 : decode cX12_isCompared 12 = .ok (.getfield 29, 3) := by decide +kernel
theorem dX12_isCompared_15 : decode cX12_isCompared 15 = .ok (.iload_n 1, 1) := by decide +kernel
theorem dX12_isCompared_16 : decode cX12_isCompared 16 = .ok (.iaload, 1) := by decide +kernel
theorem dX12_isCompared_17 : decode cX12_isCompared 17 = .ok (.invokestatic 155, 3) := by decide +kernel
theorem dX12_isCompared_20 : decode cX12_isCompared 20 = .ok (.iconst 4, 1) := by decide +kernel
theorem dX12_isCompared_21 : decode cX12_isCompared 21 = .ok (.if_icmp .le 9, 3) := by decide +kernel
theorem dX12_isCompared_24 : decode cX12_isCompared 24 = .ok (.iinc 1 (-1), 3) := by decide +kernel
theorem dX12_isCompared_27 : decode cX12_isCompared 27 = .ok (.goto (-20), 3) := by decide +kernel
theorem dX12_isCompared_30 : decode cX12_isCompared 30 = .ok (.iload_n 1, 1) := by decide +kernel
theorem dX12_isCompared_31 : decode cX12_isCompared 31 = .ok (.ifCond .lt 20, 3) := by decide +kernel
theorem dX12_isCompared_34 : decode cX12_isCompared 34 = .ok (.aload_n 0, 1) := by decide +kernel
theorem dX12_isCompared_35 : decode cX12_isCompared 35 = .ok (.getfield 29, 3) := by decide +kernel
theorem dX12_isCompared_38 : decode cX12_isCompared 38 = .ok (.iload_n 1, 1) := by decide +kernel
theorem dX12_isCompared_39 : decode cX12_isCompared 39 = .ok (.iaload, 1) := by decide +kernel
theorem dX12_isCompared_40 : decode cX12_isCompared 40 = .ok (.invokestatic 155, 3) := by decide +kernel
theorem dX12_isCompared_43 : decode cX12_isCompared 43 = .ok (.iconst 4, 1) := by decide +kernel
theorem dX12_isCompared_44 : decode cX12_isCompared 44 = .ok (.if_icmp .ne 7, 3) := by decide +kernel
theorem dX12_isCompared_47 : decode cX12_isCompared 47 = .ok (.iconst 1, 1) := by decide +kernel
theorem dX12_isCompared_48 : decode cX12_isCompared 48 = .ok (.goto 4, 3) := by decide +kernel
theorem dX12_isCompared_51 : decode cX12_isCompared 51 = .ok (.iconst 0, 1) := by decide +kernel
theorem dX12_isCompared_52 : decode cX12_isCompared 52 = .ok (.ireturn, 1) := by decide +kernel
theorem dX12_isAskAhead_0 : decode cX12_isAskAhead 0 = .ok (.aload_n 0, 1) := by decide +kernel
theorem dX12_isAskAhead_1 : decode cX12_isAskAhead 1 = .ok (.invokevirtual 169, 3) := by decide +kernel
theorem dX12_isAskAhead_4 : decode cX12_isAskAhead 4 = .ok (.bipush 42, 2) := by decide +kernel
theorem dX12_isAskAhead_6 : decode cX12_isAskAhead 6 = .ok (.if_icmp .ne 45, 3) := by decide +kernel
theorem dX12_isAskAhead_9 : decode cX12_isAskAhead 9 = .ok (.aload_n 0, 1) := by decide +kernel
theorem dX12_isAskAhead_10 : decode cX12_isAskAhead 10 = .ok (.getfield 29, 3) := by decide +kernel
theorem dX12_isAskAhead_13 : decode cX12_isAskAhead 13 = .ok (.aload_n 0, 1) := by decide +kernel
theorem dX12_isAskAhead_14 : decode cX12_isAskAhead 14 = .ok (.getfield 152, 3) := by decide +kernel
theorem dX12_isAskAhead_17 : decode cX12_isAskAhead 17 = .ok (.iconst 1, 1) := by decide +kernel
theorem dX12_isAskAhead_18 : decode cX12_isAskAhead 18 = .ok (.isub, 1) := by decide +kernel
theorem dX12_isAskAhead_19 : decode cX12_isAskAhead 19 = .ok (.iaload, 1) := by decide +kernel
theorem dX12_isAskAhead_20 : decode cX12_isAskAhead 20 = .ok (.bipush 40, 2) := by decide +kernel
theorem dX12_isAskAhead_22 : decode cX12_isAskAhead 22 = .ok (.if_icmp .ge 25, 3) := by decide +kernel
theorem dX12_isAskAhead_25 : decode cX12_isAskAhead 25 = .ok (.aload_n 0, 1) := by decide +kernel
theorem dX12_isAskAhead_26 : decode cX12_isAskAhead 26 = .ok (.getfield 29, 3) := by decide +kernel
theorem dX12_isAskAhead_29 : decode cX12_isAskAhead 29 = .ok (.aload_n 0, 1) := by decide +kernel
theorem dX12_isAskAhead_30 : decode cX12_isAskAhead 30 = .ok (.getfield 152, 3) := by decide +kernel
theorem dX12_isAskAhead_33 : decode cX12_isAskAhead 33 = .ok (.iconst 1, 1) := by decide +kernel
theorem dX12_isAskAhead_34 : decode cX12_isAskAhead 34 = .ok (.isub, 1) := by decide +kernel
theorem dX12_isAskAhead_35 : decode cX12_isAskAhead 35 = .ok (.iaload, 1) := by decide +kernel
theorem dX12_isAskAhead_36 : decode cX12_isAskAhead 36 = .ok (.invokestatic 155, 3) := by decide +kernel
theorem dX12_isAskAhead_39 : decode cX12_isAskAhead 39 = .ok (.iconst 1, 1) := by decide +kernel
theorem dX12_isAskAhead_40 : decode cX12_isAskAhead 40 = .ok (.iconst 3, 1) := by decide +kernel
theorem dX12_isAskAhead_41 : decode cX12_isAskAhead 41 = .ok (.invokestatic 63, 3) := by decide +kernel
theorem dX12_isAskAhead_44 : decode cX12_isAskAhead 44 = .ok (.ifCond .eq 7, 3) := by decide +kernel
theorem dX12_isAskAhead_47 : decode cX12_isAskAhead 47 = .ok (.iconst 1, 1) := by decide +kernel
theorem dX12_isAskAhead_48 : decode cX12_isAskAhead 48 = .ok (.goto 4, 3) := by decide +kernel
theorem dX12_isAskAhead_51 : decode cX12_isAskAhead 51 = .ok (.iconst 0, 1) := by decide +kernel
theorem dX12_isAskAhead_52 : decode cX12_isAskAhead 52 = .ok (.ireturn, 1) := by decide +kernel
theorem dX12_opened_0 : decode cX12_opened 0 = .ok (.aload_n 0, 1) := by decide +kernel
theorem dX12_opened_1 : decode cX12_opened 1 = .ok (.getfield 162, 3) := by decide +kernel
theorem dX12_opened_4 : decode cX12_opened 4 = .ok (.bipush 8, 2) := by decide +kernel
theorem dX12_opened_6 : decode cX12_opened 6 = .ok (.if_icmp .ne 5, 3) := by decide +kernel
theorem dX12_opened_9 : decode cX12_opened 9 = .ok (.iconst 3, 1) := by decide +kernel
theorem dX12_opened_10 : decode cX12_opened 10 = .ok (.ireturn, 1) := by decide +kernel
theorem dX12_opened_11 : decode cX12_opened 11 = .ok (.aload_n 0, 1) := by decide +kernel
theorem dX12_opened_12 : decode cX12_opened 12 = .ok (.dup, 1) := by decide +kernel
theorem dX12_opened_13 : decode cX12_opened 13 = .ok (.getfield 162, 3) := by decide +kernel
theorem dX12_opened_16 : decode cX12_opened 16 = .ok (.iconst 1, 1) := by decide +kernel
theorem dX12_opened_17 : decode cX12_opened 17 = .ok (.iadd, 1) := by decide +kernel
theorem dX12_opened_18 : decode cX12_opened 18 = .ok (.putfield 162, 3) := by decide +kernel
theorem dX12_opened_21 : decode cX12_opened 21 = .ok (.aload_n 0, 1) := by decide +kernel
theorem dX12_opened_22 : decode cX12_opened 22 = .ok (.getfield 29, 3) := by decide +kernel
theorem dX12_opened_25 : decode cX12_opened 25 = .ok (.aload_n 0, 1) := by decide +kernel
theorem dX12_opened_26 : decode cX12_opened 26 = .ok (.getfield 152, 3) := by decide +kernel
theorem dX12_opened_29 : decode cX12_opened 29 = .ok (.iload_n 1, 1) := by decide +kernel
theorem dX12_opened_30 : decode cX12_opened 30 = .ok (.iastore, 1) := by decide +kernel
theorem dX12_opened_31 : decode cX12_opened 31 = .ok (.aload_n 0, 1) := by decide +kernel
theorem dX12_opened_32 : decode cX12_opened 32 = .ok (.dup, 1) := by decide +kernel
theorem dX12_opened_33 : decode cX12_opened 33 = .ok (.getfield 152, 3) := by decide +kernel
theorem dX12_opened_36 : decode cX12_opened 36 = .ok (.iconst 1, 1) := by decide +kernel
theorem dX12_opened_37 : decode cX12_opened 37 = .ok (.iadd, 1) := by decide +kernel
theorem dX12_opened_38 : decode cX12_opened 38 = .ok (.putfield 152, 3) := by decide +kernel
theorem dX12_opened_41 : decode cX12_opened 41 = .ok (.aload_n 0, 1) := by decide +kernel
theorem dX12_opened_42 : decode cX12_opened 42 = .ok (.invokevirtual 172, 3) := by decide +kernel
theorem dX12_opened_45 : decode cX12_opened 45 = .ok (.iconst 0, 1) := by decide +kernel
theorem dX12_opened_46 : decode cX12_opened 46 = .ok (.ireturn, 1) := by decide +kernel
theorem dX12_beginOne_0 : decode cX12_beginOne 0 = .ok (.aload_n 0, 1) := by decide +kernel
theorem dX12_beginOne_1 : decode cX12_beginOne 1 = .ok (.getfield 102, 3) := by decide +kernel
theorem dX12_beginOne_4 : decode cX12_beginOne 4 = .ok (.iconst 1, 1) := by decide +kernel
theorem dX12_beginOne_5 : decode cX12_beginOne 5 = .ok (.if_icmp .ne 15, 3) := by decide +kernel
theorem dX12_beginOne_8 : decode cX12_beginOne 8 = .ok (.aload_n 0, 1) := by decide +kernel
theorem dX12_beginOne_9 : decode cX12_beginOne 9 = .ok (.getfield 108, 3) := by decide +kernel
theorem dX12_beginOne_12 : decode cX12_beginOne 12 = .ok (.sipush 9999, 3) := by decide +kernel
theorem dX12_beginOne_15 : decode cX12_beginOne 15 = .ok (.if_icmp .le 5, 3) := by decide +kernel
theorem dX12_beginOne_18 : decode cX12_beginOne 18 = .ok (.iconst 2, 1) := by decide +kernel
theorem dX12_beginOne_19 : decode cX12_beginOne 19 = .ok (.ireturn, 1) := by decide +kernel
theorem dX12_beginOne_20 : decode cX12_beginOne 20 = .ok (.aload_n 0, 1) := by decide +kernel
theorem dX12_beginOne_21 : decode cX12_beginOne 21 = .ok (.invokevirtual 175, 3) := by decide +kernel
theorem dX12_beginOne_24 : decode cX12_beginOne 24 = .ok (.istore_n 1, 1) := by decide +kernel
theorem dX12_beginOne_25 : decode cX12_beginOne 25 = .ok (.iload_n 1, 1) := by decide +kernel
theorem dX12_beginOne_26 : decode cX12_beginOne 26 = .ok (.ifCond .lt 13, 3) := by decide +kernel
theorem dX12_beginOne_29 : decode cX12_beginOne 29 = .ok (.aload_n 0, 1) := by decide +kernel
theorem dX12_beginOne_30 : decode cX12_beginOne 30 = .ok (.iload_n 1, 1) := by decide +kernel
theorem dX12_beginOne_31 : decode cX12_beginOne 31 = .ok (.invokevirtual 178, 3) := by decide +kernel
theorem dX12_beginOne_34 : decode cX12_beginOne 34 = .ok (.ifCond .ne 5, 3) := by decide +kernel
theorem dX12_beginOne_37 : decode cX12_beginOne 37 = .ok (.iconst 5, 1) := by decide +kernel
theorem dX12_beginOne_38 : decode cX12_beginOne 38 = .ok (.ireturn, 1) := by decide +kernel
theorem dX12_beginOne_39 : decode cX12_beginOne 39 = .ok (.aload_n 0, 1) := by decide +kernel
theorem dX12_beginOne_40 : decode cX12_beginOne 40 = .ok (.getfield 102, 3) := by decide +kernel
theorem dX12_beginOne_43 : decode cX12_beginOne 43 = .ok (.iconst 1, 1) := by decide +kernel
theorem dX12_beginOne_44 : decode cX12_beginOne 44 = .ok (.if_icmp .eq 7, 3) := by decide +kernel
theorem dX12_beginOne_47 : decode cX12_beginOne 47 = .ok (.iload_n 1, 1) := by decide +kernel
theorem dX12_beginOne_48 : decode cX12_beginOne 48 = .ok (.ifCond .lt 45, 3) := by decide +kernel
theorem dX12_beginOne_51 : decode cX12_beginOne 51 = .ok (.aload_n 0, 1) := by decide +kernel
theorem dX12_beginOne_52 : decode cX12_beginOne 52 = .ok (.aload_n 0, 1) := by decide +kernel
theorem dX12_beginOne_53 : decode cX12_beginOne 53 = .ok (.getfield 102, 3) := by decide +kernel
theorem dX12_beginOne_56 : decode cX12_beginOne 56 = .ok (.iconst 1, 1) := by decide +kernel
theorem dX12_beginOne_57 : decode cX12_beginOne 57 = .ok (.if_icmp .ne 7, 3) := by decide +kernel
theorem dX12_beginOne_60 : decode cX12_beginOne 60 = .ok (.iconst 0, 1) := by decide +kernel
theorem dX12_beginOne_61 : decode cX12_beginOne 61 = .ok (.goto 4, 3) := by decide +kernel
theorem dX12_beginOne_64 : decode cX12_beginOne 64 = .ok (.iconst 1, 1) := by decide +kernel
theorem dX12_beginOne_65 : decode cX12_beginOne 65 = .ok (.aload_n 0, 1) := by decide +kernel
theorem dX12_beginOne_66 : decode cX12_beginOne 66 = .ok (.getfield 102, 3) := by decide +kernel
theorem dX12_beginOne_69 : decode cX12_beginOne 69 = .ok (.iconst 1, 1) := by decide +kernel
theorem dX12_beginOne_70 : decode cX12_beginOne 70 = .ok (.if_icmp .ne 10, 3) := by decide +kernel
theorem dX12_beginOne_73 : decode cX12_beginOne 73 = .ok (.aload_n 0, 1) := by decide +kernel
theorem dX12_beginOne_74 : decode cX12_beginOne 74 = .ok (.getfield 108, 3) := by decide +kernel
theorem dX12_beginOne_77 : decode cX12_beginOne 77 = .ok (.goto 4, 3) := by decide +kernel
theorem dX12_beginOne_80 : decode cX12_beginOne 80 = .ok (.iload_n 1, 1) := by decide +kernel
theorem dX12_beginOne_81 : decode cX12_beginOne 81 = .ok (.invokevirtual 158, 3) := by decide +kernel
theorem dX12_beginOne_84 : decode cX12_beginOne 84 = .ok (.aload_n 0, 1) := by decide +kernel
theorem dX12_beginOne_85 : decode cX12_beginOne 85 = .ok (.invokevirtual 172, 3) := by decide +kernel
theorem dX12_beginOne_88 : decode cX12_beginOne 88 = .ok (.aload_n 0, 1) := by decide +kernel
theorem dX12_beginOne_89 : decode cX12_beginOne 89 = .ok (.invokevirtual 181, 3) := by decide +kernel
theorem dX12_beginOne_92 : decode cX12_beginOne 92 = .ok (.ireturn, 1) := by decide +kernel
theorem dX12_beginOne_93 : decode cX12_beginOne 93 = .ok (.aload_n 0, 1) := by decide +kernel
theorem dX12_beginOne_94 : decode cX12_beginOne 94 = .ok (.getfield 102, 3) := by decide +kernel
theorem dX12_beginOne_97 : decode cX12_beginOne 97 = .ok (.bipush 40, 2) := by decide +kernel
theorem dX12_beginOne_99 : decode cX12_beginOne 99 = .ok (.if_icmp .ne 10, 3) := by decide +kernel
theorem dX12_beginOne_102 : decode cX12_beginOne 102 = .ok (.aload_n 0, 1) := by decide +kernel
theorem dX12_beginOne_103 : decode cX12_beginOne 103 = .ok (.bipush 40, 2) := by decide +kernel
theorem dX12_beginOne_105 : decode cX12_beginOne 105 = .ok (.invokevirtual 184, 3) := by decide +kernel
theorem dX12_beginOne_108 : decode cX12_beginOne 108 = .ok (.ireturn, 1) := by decide +kernel
theorem dX12_beginOne_109 : decode cX12_beginOne 109 = .ok (.aload_n 0, 1) := by decide +kernel
theorem dX12_beginOne_110 : decode cX12_beginOne 110 = .ok (.getfield 102, 3) := by decide +kernel
theorem dX12_beginOne_113 : decode cX12_beginOne 113 = .ok (.bipush 45, 2) := by decide +kernel
theorem dX12_beginOne_115 : decode cX12_beginOne 115 = .ok (.if_icmp .ne 9, 3) := by decide +kernel
theorem dX12_beginOne_118 : decode cX12_beginOne 118 = .ok (.aload_n 0, 1) := by decide +kernel
theorem dX12_beginOne_119 : decode cX12_beginOne 119 = .ok (.iconst 5, 1) := by decide +kernel
theorem dX12_beginOne_120 : decode cX12_beginOne 120 = .ok (.invokevirtual 184, 3) := by decide +kernel
theorem dX12_beginOne_123 : decode cX12_beginOne 123 = .ok (.ireturn, 1) := by decide +kernel
theorem dX12_beginOne_124 : decode cX12_beginOne 124 = .ok (.aload_n 0, 1) := by decide +kernel
theorem dX12_beginOne_125 : decode cX12_beginOne 125 = .ok (.bipush 100, 2) := by decide +kernel
theorem dX12_beginOne_127 : decode cX12_beginOne 127 = .ok (.bipush 105, 2) := by decide +kernel
theorem dX12_beginOne_129 : decode cX12_beginOne 129 = .ok (.bipush 103, 2) := by decide +kernel
theorem dX12_beginOne_131 : decode cX12_beginOne 131 = .ok (.bipush 105, 2) := by decide +kernel
theorem dX12_beginOne_133 : decode cX12_beginOne 133 = .ok (.bipush 116, 2) := by decide +kernel
theorem dX12_beginOne_135 : decode cX12_beginOne 135 = .ok (.invokestatic 135, 3) := by decide +kernel
theorem dX12_beginOne_138 : decode cX12_beginOne 138 = .ok (.invokevirtual 187, 3) := by decide +kernel
theorem dX12_beginOne_141 : decode cX12_beginOne 141 = .ok (.ifCond .eq 10, 3) := by decide +kernel
theorem dX12_beginOne_144 : decode cX12_beginOne 144 = .ok (.aload_n 0, 1) := by decide +kernel
theorem dX12_beginOne_145 : decode cX12_beginOne 145 = .ok (.bipush 41, 2) := by decide +kernel
theorem dX12_beginOne_147 : decode cX12_beginOne 147 = .ok (.invokevirtual 184, 3) := by decide +kernel
theorem dX12_beginOne_150 : decode cX12_beginOne 150 = .ok (.ireturn, 1) := by decide +kernel
theorem dX12_beginOne_151 : decode cX12_beginOne 151 = .ok (.aload_n 0, 1) := by decide +kernel
theorem dX12_beginOne_152 : decode cX12_beginOne 152 = .ok (.bipush 105, 2) := by decide +kernel
theorem dX12_beginOne_154 : decode cX12_beginOne 154 = .ok (.bipush 99, 2) := by decide +kernel
theorem dX12_beginOne_156 : decode cX12_beginOne 156 = .ok (.bipush 101, 2) := by decide +kernel
theorem dX12_beginOne_158 : decode cX12_beginOne 158 = .ok (.invokestatic 127, 3) := by decide +kernel
theorem dX12_beginOne_161 : decode cX12_beginOne 161 = .ok (.invokevirtual 187, 3) := by decide +kernel
theorem dX12_beginOne_164 : decode cX12_beginOne 164 = .ok (.ifCond .eq 9, 3) := by decide +kernel
theorem dX12_beginOne_167 : decode cX12_beginOne 167 = .ok (.aload_n 0, 1) := by decide +kernel
theorem dX12_beginOne_168 : decode cX12_beginOne 168 = .ok (.iconst 2, 1) := by decide +kernel
theorem dX12_beginOne_169 : decode cX12_beginOne 169 = .ok (.invokevirtual 184, 3) := by decide +kernel
theorem dX12_beginOne_172 : decode cX12_beginOne 172 = .ok (.ireturn, 1) := by decide +kernel
theorem dX12_beginOne_173 : decode cX12_beginOne 173 = .ok (.aload_n 0, 1) := by decide +kernel
theorem dX12_beginOne_174 : decode cX12_beginOne 174 = .ok (.bipush 105, 2) := by decide +kernel
theorem dX12_beginOne_176 : decode cX12_beginOne 176 = .ok (.bipush 102, 2) := by decide +kernel
theorem dX12_beginOne_178 : decode cX12_beginOne 178 = .ok (.invokestatic 123, 3) := by decide +kernel
theorem dX12_beginOne_181 : decode cX12_beginOne 181 = .ok (.invokevirtual 187, 3) := by decide +kernel
theorem dX12_beginOne_184 : decode cX12_beginOne 184 = .ok (.ifCond .eq 10, 3) := by decide +kernel
theorem dX12_beginOne_187 : decode cX12_beginOne 187 = .ok (.aload_n 0, 1) := by decide +kernel
theorem dX12_beginOne_188 : decode cX12_beginOne 188 = .ok (.bipush 42, 2) := by decide +kernel
theorem dX12_beginOne_190 : decode cX12_beginOne 190 = .ok (.invokevirtual 184, 3) := by decide +kernel
theorem dX12_beginOne_193 : decode cX12_beginOne 193 = .ok (.ireturn, 1) := by decide +kernel
theorem dX12_beginOne_194 : decode cX12_beginOne 194 = .ok (.aload_n 0, 1) := by decide +kernel
theorem dX12_beginOne_195 : decode cX12_beginOne 195 = .ok (.bipush 110, 2) := by decide +kernel
theorem dX12_beginOne_197 : decode cX12_beginOne 197 = .ok (.bipush 111, 2) := by decide +kernel
theorem dX12_beginOne_199 : decode cX12_beginOne 199 = .ok (.bipush 116, 2) := by decide +kernel
theorem dX12_beginOne_201 : decode cX12_beginOne 201 = .ok (.invokestatic 127, 3) := by decide +kernel
theorem dX12_beginOne_204 : decode cX12_beginOne 204 = .ok (.invokevirtual 187, 3) := by decide +kernel
theorem dX12_beginOne_207 : decode cX12_beginOne 207 = .ok (.ifCond .eq 19, 3) := by decide +kernel
theorem dX12_beginOne_210 : decode cX12_beginOne 210 = .ok (.aload_n 0, 1) := by decide +kernel
theorem dX12_beginOne_211 : decode cX12_beginOne 211 = .ok (.invokevirtual 191, 3) := by decide +kernel
theorem dX12_beginOne_214 : decode cX12_beginOne 214 = .ok (.ifCond .eq 12, 3) := by decide +kernel
theorem dX12_beginOne_217 : decode cX12_beginOne 217 = .ok (.aload_n 0, 1) := by decide +kernel
theorem dX12_beginOne_218 : decode cX12_beginOne 218 = .ok (.bipush 20, 2) := by decide +kernel
theorem dX12_beginOne_220 : decode cX12_beginOne 220 = .ok (.invokevirtual 184, 3) := by decide +kernel
theorem dX12_beginOne_223 : decode cX12_beginOne 223 = .ok (.goto 4, 3) := by decide +kernel
theorem dX12_beginOne_226 : decode cX12_beginOne 226 = .ok (.iconst 1, 1) := by decide +kernel
theorem dX12_beginOne_227 : decode cX12_beginOne 227 = .ok (.ireturn, 1) := by decide +kernel
theorem dX12_endOne_0 : decode cX12_endOne 0 = .ok (.aload_n 0, 1) := by decide +kernel
theorem dX12_endOne_1 : decode cX12_endOne 1 = .ok (.bipush 7, 2) := by decide +kernel
theorem dX12_endOne_3 : decode cX12_endOne 3 = .ok (.invokevirtual 195, 3) := by decide +kernel
theorem dX12_endOne_6 : decode cX12_endOne 6 = .ok (.aload_n 0, 1) := by decide +kernel
theorem dX12_endOne_7 : decode cX12_endOne 7 = .ok (.iconst 1, 1) := by decide +kernel
theorem dX12_endOne_8 : decode cX12_endOne 8 = .ok (.putfield 198, 3) := by decide +kernel
theorem dX12_endOne_11 : decode cX12_endOne 11 = .ok (.aload_n 0, 1) := by decide +kernel
theorem dX12_endOne_12 : decode cX12_endOne 12 = .ok (.getfield 152, 3) := by decide +kernel
theorem dX12_endOne_15 : decode cX12_endOne 15 = .ok (.ifCond .eq 19, 3) := by decide +kernel
theorem dX12_endOne_18 : decode cX12_endOne 18 = .ok (.aload_n 0, 1) := by decide +kernel
theorem dX12_endOne_19 : decode cX12_endOne 19 = .ok (.getfield 29, 3) := by decide +kernel
theorem dX12_endOne_22 : decode cX12_endOne 22 = .ok (.aload_n 0, 1) := by decide +kernel
theorem dX12_endOne_23 : decode cX12_endOne 23 = .ok (.getfield 152, 3) := by decide +kernel
theorem dX12_endOne_26 : decode cX12_endOne 26 = .ok (.iconst 1, 1) := by decide +kernel
theorem dX12_endOne_27 : decode cX12_endOne 27 = .ok (.isub, 1) := by decide +kernel
theorem dX12_endOne_28 : decode cX12_endOne 28 = .ok (.iaload, 1) := by decide +kernel
theorem dX12_endOne_29 : decode cX12_endOne 29 = .ok (.bipush 41, 2) := by decide +kernel
theorem dX12_endOne_31 : decode cX12_endOne 31 = .ok (.if_icmp .eq 5, 3) := by decide +kernel
theorem dX12_endOne_34 : decode cX12_endOne 34 = .ok (.iconst 0, 1) := by decide +kernel
theorem dX12_endOne_35 : decode cX12_endOne 35 = .ok (.ireturn, 1) := by decide +kernel
theorem dX12_endOne_36 : decode cX12_endOne 36 = .ok (.aload_n 0, 1) := by decide +kernel
theorem dX12_endOne_37 : decode cX12_endOne 37 = .ok (.bipush 111, 2) := by decide +kernel
theorem dX12_endOne_39 : decode cX12_endOne 39 = .ok (.bipush 102, 2) := by decide +kernel
theorem dX12_endOne_41 : decode cX12_endOne 41 = .ok (.invokestatic 123, 3) := by decide +kernel
theorem dX12_endOne_44 : decode cX12_endOne 44 = .ok (.invokevirtual 187, 3) := by decide +kernel
theorem dX12_endOne_47 : decode cX12_endOne 47 = .ok (.ifCond .ne 5, 3) := by decide +kernel
theorem dX12_endOne_50 : decode cX12_endOne 50 = .ok (.iconst 1, 1) := by decide +kernel
theorem dX12_endOne_51 : decode cX12_endOne 51 = .ok (.ireturn, 1) := by decide +kernel
theorem dX12_endOne_52 : decode cX12_endOne 52 = .ok (.aload_n 0, 1) := by decide +kernel
theorem dX12_endOne_53 : decode cX12_endOne 53 = .ok (.invokevirtual 172, 3) := by decide +kernel
theorem dX12_endOne_56 : decode cX12_endOne 56 = .ok (.aload_n 0, 1) := by decide +kernel
theorem dX12_endOne_57 : decode cX12_endOne 57 = .ok (.getfield 29, 3) := by decide +kernel
theorem dX12_endOne_60 : decode cX12_endOne 60 = .ok (.aload_n 0, 1) := by decide +kernel
theorem dX12_endOne_61 : decode cX12_endOne 61 = .ok (.getfield 152, 3) := by decide +kernel
theorem dX12_endOne_64 : decode cX12_endOne 64 = .ok (.iconst 1, 1) := by decide +kernel
theorem dX12_endOne_65 : decode cX12_endOne 65 = .ok (.isub, 1) := by decide +kernel
theorem dX12_endOne_66 : decode cX12_endOne 66 = .ok (.iconst 4, 1) := by decide +kernel
theorem dX12_endOne_67 : decode cX12_endOne 67 = .ok (.iastore, 1) := by decide +kernel
theorem dX12_endOne_68 : decode cX12_endOne 68 = .ok (.aload_n 0, 1) := by decide +kernel
theorem dX12_endOne_69 : decode cX12_endOne 69 = .ok (.iconst 0, 1) := by decide +kernel
theorem dX12_endOne_70 : decode cX12_endOne 70 = .ok (.putfield 198, 3) := by decide +kernel
theorem dX12_endOne_73 : decode cX12_endOne 73 = .ok (.iconst 0, 1) := by decide +kernel
theorem dX12_endOne_74 : decode cX12_endOne 74 = .ok (.ireturn, 1) := by decide +kernel
theorem dX12_compareOf_0 : decode cX12_compareOf 0 = .ok (.aload_n 0, 1) := by decide +kernel
theorem dX12_compareOf_1 : decode cX12_compareOf 1 = .ok (.getfield 102, 3) := by decide +kernel
theorem dX12_compareOf_4 : decode cX12_compareOf 4 = .ok (.bipush 60, 2) := by decide +kernel
theorem dX12_compareOf_6 : decode cX12_compareOf 6 = .ok (.if_icmp .ne 8, 3) := by decide +kernel
theorem dX12_compareOf_9 : decode cX12_compareOf 9 = .ok (.bipush 10, 2) := by decide +kernel
theorem dX12_compareOf_11 : decode cX12_compareOf 11 = .ok (.goto 72, 3) := by decide +kernel
theorem dX12_compareOf_14 : decode cX12_compareOf 14 = .ok (.aload_n 0, 1) := by decide +kernel
theorem dX12_compareOf_15 : decode cX12_compareOf 15 = .ok (.getfield 102, 3) := by decide +kernel
theorem dX12_compareOf_18 : decode cX12_compareOf 18 = .ok (.iconst 4, 1) := by decide +kernel
theorem dX12_compareOf_19 : decode cX12_compareOf 19 = .ok (.if_icmp .ne 8, 3) := by decide +kernel
theorem dX12_compareOf_22 : decode cX12_compareOf 22 = .ok (.bipush 11, 2) := by decide +kernel
theorem dX12_compareOf_24 : decode cX12_compareOf 24 = .ok (.goto 59, 3) := by decide +kernel
theorem dX12_compareOf_27 : decode cX12_compareOf 27 = .ok (.aload_n 0, 1) := by decide +kernel
theorem dX12_compareOf_28 : decode cX12_compareOf 28 = .ok (.getfield 102, 3) := by decide +kernel
theorem dX12_compareOf_31 : decode cX12_compareOf 31 = .ok (.bipush 62, 2) := by decide +kernel
theorem dX12_compareOf_33 : decode cX12_compareOf 33 = .ok (.if_icmp .ne 8, 3) := by decide +kernel
theorem dX12_compareOf_36 : decode cX12_compareOf 36 = .ok (.bipush 12, 2) := by decide +kernel
theorem dX12_compareOf_38 : decode cX12_compareOf 38 = .ok (.goto 45, 3) := by decide +kernel
theorem dX12_compareOf_41 : decode cX12_compareOf 41 = .ok (.aload_n 0, 1) := by decide +kernel
theorem dX12_compareOf_42 : decode cX12_compareOf 42 = .ok (.getfield 102, 3) := by decide +kernel
theorem dX12_compareOf_45 : decode cX12_compareOf 45 = .ok (.iconst 5, 1) := by decide +kernel
theorem dX12_compareOf_46 : decode cX12_compareOf 46 = .ok (.if_icmp .ne 8, 3) := by decide +kernel
theorem dX12_compareOf_49 : decode cX12_compareOf 49 = .ok (.bipush 13, 2) := by decide +kernel
theorem dX12_compareOf_51 : decode cX12_compareOf 51 = .ok (.goto 32, 3) := by decide +kernel
theorem dX12_compareOf_54 : decode cX12_compareOf 54 = .ok (.aload_n 0, 1) := by decide +kernel
theorem dX12_compareOf_55 : decode cX12_compareOf 55 = .ok (.getfield 102, 3) := by decide +kernel
theorem dX12_compareOf_58 : decode cX12_compareOf 58 = .ok (.bipush 61, 2) := by decide +kernel
theorem dX12_compareOf_60 : decode cX12_compareOf 60 = .ok (.if_icmp .ne 8, 3) := by decide +kernel
theorem dX12_compareOf_63 : decode cX12_compareOf 63 = .ok (.bipush 14, 2) := by decide +kernel
theorem dX12_compareOf_65 : decode cX12_compareOf 65 = .ok (.goto 18, 3) := by decide +kernel
theorem dX12_compareOf_68 : decode cX12_compareOf 68 = .ok (.aload_n 0, 1) := by decide +kernel
theorem dX12_compareOf_69 : decode cX12_compareOf 69 = .ok (.getfield 102, 3) := by decide +kernel
theorem dX12_compareOf_72 : decode cX12_compareOf 72 = .ok (.bipush 35, 2) := by decide +kernel
theorem dX12_compareOf_74 : decode cX12_compareOf 74 = .ok (.if_icmp .ne 8, 3) := by decide +kernel
theorem dX12_compareOf_77 : decode cX12_compareOf 77 = .ok (.bipush 15, 2) := by decide +kernel
theorem dX12_compareOf_79 : decode cX12_compareOf 79 = .ok (.goto 4, 3) := by decide +kernel
theorem dX12_compareOf_82 : decode cX12_compareOf 82 = .ok (.iconst (-1), 1) := by decide +kernel
theorem dX12_compareOf_83 : decode cX12_compareOf 83 = .ok (.ireturn, 1) := by decide +kernel
theorem dX12_betweenOf_0 : decode cX12_betweenOf 0 = .ok (.aload_n 0, 1) := by decide +kernel
theorem dX12_betweenOf_1 : decode cX12_betweenOf 1 = .ok (.getfield 102, 3) := by decide +kernel
theorem dX12_betweenOf_4 : decode cX12_betweenOf 4 = .ok (.bipush 43, 2) := by decide +kernel
theorem dX12_betweenOf_6 : decode cX12_betweenOf 6 = .ok (.if_icmp .ne 6, 3) := by decide +kernel
theorem dX12_betweenOf_9 : decode cX12_betweenOf 9 = .ok (.bipush 6, 2) := by decide +kernel
theorem dX12_betweenOf_11 : decode cX12_betweenOf 11 = .ok (.ireturn, 1) := by decide +kernel
theorem dX12_betweenOf_12 : decode cX12_betweenOf 12 = .ok (.aload_n 0, 1) := by decide +kernel
theorem dX12_betweenOf_13 : decode cX12_betweenOf 13 = .ok (.getfield 102, 3) := by decide +kernel
theorem dX12_betweenOf_16 : decode cX12_betweenOf 16 = .ok (.bipush 45, 2) := by decide +kernel
theorem dX12_betweenOf_18 : decode cX12_betweenOf 18 = .ok (.if_icmp .ne 6, 3) := by decide +kernel
theorem dX12_betweenOf_21 : decode cX12_betweenOf 21 = .ok (.bipush 7, 2) := by decide +kernel
theorem dX12_betweenOf_23 : decode cX12_betweenOf 23 = .ok (.ireturn, 1) := by decide +kernel
theorem dX12_betweenOf_24 : decode cX12_betweenOf 24 = .ok (.aload_n 0, 1) := by decide +kernel
theorem dX12_betweenOf_25 : decode cX12_betweenOf 25 = .ok (.getfield 102, 3) := by decide +kernel
theorem dX12_betweenOf_28 : decode cX12_betweenOf 28 = .ok (.bipush 42, 2) := by decide +kernel
theorem dX12_betweenOf_30 : decode cX12_betweenOf 30 = .ok (.if_icmp .ne 6, 3) := by decide +kernel
theorem dX12_betweenOf_33 : decode cX12_betweenOf 33 = .ok (.bipush 8, 2) := by decide +kernel
theorem dX12_betweenOf_35 : decode cX12_betweenOf 35 = .ok (.ireturn, 1) := by decide +kernel
theorem dX12_betweenOf_36 : decode cX12_betweenOf 36 = .ok (.aload_n 0, 1) := by decide +kernel
theorem dX12_betweenOf_37 : decode cX12_betweenOf 37 = .ok (.getfield 102, 3) := by decide +kernel
theorem dX12_betweenOf_40 : decode cX12_betweenOf 40 = .ok (.bipush 47, 2) := by decide +kernel
theorem dX12_betweenOf_42 : decode cX12_betweenOf 42 = .ok (.if_icmp .ne 6, 3) := by decide +kernel
theorem dX12_betweenOf_45 : decode cX12_betweenOf 45 = .ok (.bipush 9, 2) := by decide +kernel
theorem dX12_betweenOf_47 : decode cX12_betweenOf 47 = .ok (.ireturn, 1) := by decide +kernel
theorem dX12_betweenOf_48 : decode cX12_betweenOf 48 = .ok (.aload_n 0, 1) := by decide +kernel
theorem dX12_betweenOf_49 : decode cX12_betweenOf 49 = .ok (.invokevirtual 169, 3) := by decide +kernel
theorem dX12_betweenOf_52 : decode cX12_betweenOf 52 = .ok (.bipush 42, 2) := by decide +kernel
theorem dX12_betweenOf_54 : decode cX12_betweenOf 54 = .ok (.if_icmp .eq 5, 3) := by decide +kernel
theorem dX12_betweenOf_57 : decode cX12_betweenOf 57 = .ok (.iconst (-1), 1) := by decide +kernel
theorem dX12_betweenOf_58 : decode cX12_betweenOf 58 = .ok (.ireturn, 1) := by decide +kernel
theorem dX12_betweenOf_59 : decode cX12_betweenOf 59 = .ok (.aload_n 0, 1) := by decide +kernel
theorem dX12_betweenOf_60 : decode cX12_betweenOf 60 = .ok (.invokevirtual 201, 3) := by decide +kernel
theorem dX12_betweenOf_63 : decode cX12_betweenOf 63 = .ok (.ifCond .ne 8, 3) := by decide +kernel
theorem dX12_betweenOf_66 : decode cX12_betweenOf 66 = .ok (.aload_n 0, 1) := by decide +kernel
theorem dX12_betweenOf_67 : decode cX12_betweenOf 67 = .ok (.invokevirtual 204, 3) := by decide +kernel
theorem dX12_betweenOf_70 : decode cX12_betweenOf 70 = .ok (.ireturn, 1) := by decide +kernel
theorem dX12_betweenOf_71 : decode cX12_betweenOf 71 = .ok (.aload_n 0, 1) := by decide +kernel
theorem dX12_betweenOf_72 : decode cX12_betweenOf 72 = .ok (.bipush 97, 2) := by decide +kernel
theorem dX12_betweenOf_74 : decode cX12_betweenOf 74 = .ok (.bipush 110, 2) := by decide +kernel
theorem dX12_betweenOf_76 : decode cX12_betweenOf 76 = .ok (.bipush 100, 2) := by decide +kernel
theorem dX12_betweenOf_78 : decode cX12_betweenOf 78 = .ok (.invokestatic 127, 3) := by decide +kernel
theorem dX12_betweenOf_81 : decode cX12_betweenOf 81 = .ok (.invokevirtual 187, 3) := by decide +kernel
theorem dX12_betweenOf_84 : decode cX12_betweenOf 84 = .ok (.ifCond .eq 8, 3) := by decide +kernel
theorem dX12_betweenOf_87 : decode cX12_betweenOf 87 = .ok (.bipush 21, 2) := by decide +kernel
theorem dX12_betweenOf_89 : decode cX12_betweenOf 89 = .ok (.goto 23, 3) := by decide +kernel
theorem dX12_betweenOf_92 : decode cX12_betweenOf 92 = .ok (.aload_n 0, 1) := by decide +kernel
theorem dX12_betweenOf_93 : decode cX12_betweenOf 93 = .ok (.bipush 111, 2) := by decide +kernel
theorem dX12_betweenOf_95 : decode cX12_betweenOf 95 = .ok (.bipush 114, 2) := by decide +kernel
theorem dX12_betweenOf_97 : decode cX12_betweenOf 97 = .ok (.invokestatic 123, 3) := by decide +kernel
theorem dX12_betweenOf_100 : decode cX12_betweenOf 100 = .ok (.invokevirtual 187, 3) := by decide +kernel
theorem dX12_betweenOf_103 : decode cX12_betweenOf 103 = .ok (.ifCond .eq 8, 3) := by decide +kernel
theorem dX12_betweenOf_106 : decode cX12_betweenOf 106 = .ok (.bipush 22, 2) := by decide +kernel
theorem dX12_betweenOf_108 : decode cX12_betweenOf 108 = .ok (.goto 4, 3) := by decide +kernel
theorem dX12_betweenOf_111 : decode cX12_betweenOf 111 = .ok (.iconst (-1), 1) := by decide +kernel
theorem dX12_betweenOf_112 : decode cX12_betweenOf 112 = .ok (.ireturn, 1) := by decide +kernel
theorem dX12_partOf_0 : decode cX12_partOf 0 = .ok (.iload_n 1, 1) := by decide +kernel
theorem dX12_partOf_1 : decode cX12_partOf 1 = .ok (.tableswitch 129 40 44 #[35, 129, 50, 82, 107], 35) := by decide +kernel
theorem dX12_partOf_36 : decode cX12_partOf 36 = .ok (.aload_n 0, 1) := by decide +kernel
theorem dX12_partOf_37 : decode cX12_partOf 37 = .ok (.getfield 102, 3) := by decide +kernel
theorem dX12_partOf_40 : decode cX12_partOf 40 = .ok (.bipush 41, 2) := by decide +kernel
theorem dX12_partOf_42 : decode cX12_partOf 42 = .ok (.if_icmp .ne 7, 3) := by decide +kernel
theorem dX12_partOf_45 : decode cX12_partOf 45 = .ok (.iconst 0, 1) := by decide +kernel
theorem dX12_partOf_46 : decode cX12_partOf 46 = .ok (.goto 4, 3) := by decide +kernel
theorem dX12_partOf_49 : decode cX12_partOf 49 = .ok (.iconst (-1), 1) := by decide +kernel
theorem dX12_partOf_50 : decode cX12_partOf 50 = .ok (.ireturn, 1) := by decide +kernel
theorem dX12_partOf_51 : decode cX12_partOf 51 = .ok (.aload_n 0, 1) := by decide +kernel
theorem dX12_partOf_52 : decode cX12_partOf 52 = .ok (.bipush 116, 2) := by decide +kernel
theorem dX12_partOf_54 : decode cX12_partOf 54 = .ok (.bipush 104, 2) := by decide +kernel
theorem dX12_partOf_56 : decode cX12_partOf 56 = .ok (.bipush 101, 2) := by decide +kernel
theorem dX12_partOf_58 : decode cX12_partOf 58 = .ok (.bipush 110, 2) := by decide +kernel
theorem dX12_partOf_60 : decode cX12_partOf 60 = .ok (.invokestatic 131, 3) := by decide +kernel
theorem dX12_partOf_63 : decode cX12_partOf 63 = .ok (.invokevirtual 187, 3) := by decide +kernel
theorem dX12_partOf_66 : decode cX12_partOf 66 = .ok (.ifCond .eq 15, 3) := by decide +kernel
theorem dX12_partOf_69 : decode cX12_partOf 69 = .ok (.aload_n 0, 1) := by decide +kernel
theorem dX12_partOf_70 : decode cX12_partOf 70 = .ok (.invokevirtual 201, 3) := by decide +kernel
theorem dX12_partOf_73 : decode cX12_partOf 73 = .ok (.ifCond .eq 8, 3) := by decide +kernel
theorem dX12_partOf_76 : decode cX12_partOf 76 = .ok (.bipush 43, 2) := by decide +kernel
theorem dX12_partOf_78 : decode cX12_partOf 78 = .ok (.goto 4, 3) := by decide +kernel
theorem dX12_partOf_81 : decode cX12_partOf 81 = .ok (.iconst (-1), 1) := by decide +kernel
theorem dX12_partOf_82 : decode cX12_partOf 82 = .ok (.ireturn, 1) := by decide +kernel
theorem dX12_partOf_83 : decode cX12_partOf 83 = .ok (.aload_n 0, 1) := by decide +kernel
theorem dX12_partOf_84 : decode cX12_partOf 84 = .ok (.bipush 101, 2) := by decide +kernel
theorem dX12_partOf_86 : decode cX12_partOf 86 = .ok (.bipush 108, 2) := by decide +kernel
theorem dX12_partOf_88 : decode cX12_partOf 88 = .ok (.bipush 115, 2) := by decide +kernel
theorem dX12_partOf_90 : decode cX12_partOf 90 = .ok (.bipush 101, 2) := by decide +kernel
theorem dX12_partOf_92 : decode cX12_partOf 92 = .ok (.invokestatic 131, 3) := by decide +kernel
theorem dX12_partOf_95 : decode cX12_partOf 95 = .ok (.invokevirtual 187, 3) := by decide +kernel
theorem dX12_partOf_98 : decode cX12_partOf 98 = .ok (.ifCond .eq 8, 3) := by decide +kernel
theorem dX12_partOf_101 : decode cX12_partOf 101 = .ok (.bipush 44, 2) := by decide +kernel
theorem dX12_partOf_103 : decode cX12_partOf 103 = .ok (.goto 4, 3) := by decide +kernel
theorem dX12_partOf_106 : decode cX12_partOf 106 = .ok (.iconst (-1), 1) := by decide +kernel
theorem dX12_partOf_107 : decode cX12_partOf 107 = .ok (.ireturn, 1) := by decide +kernel
theorem dX12_partOf_108 : decode cX12_partOf 108 = .ok (.aload_n 0, 1) := by decide +kernel
theorem dX12_partOf_109 : decode cX12_partOf 109 = .ok (.bipush 101, 2) := by decide +kernel
theorem dX12_partOf_111 : decode cX12_partOf 111 = .ok (.bipush 110, 2) := by decide +kernel
theorem dX12_partOf_113 : decode cX12_partOf 113 = .ok (.bipush 100, 2) := by decide +kernel
theorem dX12_partOf_115 : decode cX12_partOf 115 = .ok (.invokestatic 127, 3) := by decide +kernel
theorem dX12_partOf_118 : decode cX12_partOf 118 = .ok (.invokevirtual 187, 3) := by decide +kernel
theorem dX12_partOf_121 : decode cX12_partOf 121 = .ok (.ifCond .eq 7, 3) := by decide +kernel
theorem dX12_partOf_124 : decode cX12_partOf 124 = .ok (.iconst 0, 1) := by decide +kernel
theorem dX12_partOf_125 : decode cX12_partOf 125 = .ok (.goto 4, 3) := by decide +kernel
theorem dX12_partOf_128 : decode cX12_partOf 128 = .ok (.iconst (-1), 1) := by decide +kernel
theorem dX12_partOf_129 : decode cX12_partOf 129 = .ok (.ireturn, 1) := by decide +kernel
theorem dX12_partOf_130 : decode cX12_partOf 130 = .ok (.iconst (-1), 1) := by decide +kernel
theorem dX12_partOf_131 : decode cX12_partOf 131 = .ok (.ireturn, 1) := by decide +kernel
theorem dX12_behindOne_0 : decode cX12_behindOne 0 = .ok (.aload_n 0, 1) := by decide +kernel
theorem dX12_behindOne_1 : decode cX12_behindOne 1 = .ok (.invokevirtual 207, 3) := by decide +kernel
theorem dX12_behindOne_4 : decode cX12_behindOne 4 = .ok (.istore_n 1, 1) := by decide +kernel
theorem dX12_behindOne_5 : decode cX12_behindOne 5 = .ok (.iload_n 1, 1) := by decide +kernel
theorem dX12_behindOne_6 : decode cX12_behindOne 6 = .ok (.ifCond .lt 54, 3) := by decide +kernel
theorem dX12_behindOne_9 : decode cX12_behindOne 9 = .ok (.aload_n 0, 1) := by decide +kernel
theorem dX12_behindOne_10 : decode cX12_behindOne 10 = .ok (.iload_n 1, 1) := by decide +kernel
theorem dX12_behindOne_11 : decode cX12_behindOne 11 = .ok (.invokestatic 155, 3) := by decide +kernel
theorem dX12_behindOne_14 : decode cX12_behindOne 14 = .ok (.iconst 4, 1) := by decide +kernel
theorem dX12_behindOne_15 : decode cX12_behindOne 15 = .ok (.if_icmp .ne 7, 3) := by decide +kernel
theorem dX12_behindOne_18 : decode cX12_behindOne 18 = .ok (.iconst 5, 1) := by decide +kernel
theorem dX12_behindOne_19 : decode cX12_behindOne 19 = .ok (.goto 7, 3) := by decide +kernel
theorem dX12_behindOne_22 : decode cX12_behindOne 22 = .ok (.iload_n 1, 1) := by decide +kernel
theorem dX12_behindOne_23 : decode cX12_behindOne 23 = .ok (.invokestatic 155, 3) := by decide +kernel
theorem dX12_behindOne_26 : decode cX12_behindOne 26 = .ok (.invokevirtual 195, 3) := by decide +kernel
theorem dX12_behindOne_29 : decode cX12_behindOne 29 = .ok (.aload_n 0, 1) := by decide +kernel
theorem dX12_behindOne_30 : decode cX12_behindOne 30 = .ok (.getfield 29, 3) := by decide +kernel
theorem dX12_behindOne_33 : decode cX12_behindOne 33 = .ok (.aload_n 0, 1) := by decide +kernel
theorem dX12_behindOne_34 : decode cX12_behindOne 34 = .ok (.getfield 152, 3) := by decide +kernel
theorem dX12_behindOne_37 : decode cX12_behindOne 37 = .ok (.iload_n 1, 1) := by decide +kernel
theorem dX12_behindOne_38 : decode cX12_behindOne 38 = .ok (.iastore, 1) := by decide +kernel
theorem dX12_behindOne_39 : decode cX12_behindOne 39 = .ok (.aload_n 0, 1) := by decide +kernel
theorem dX12_behindOne_40 : decode cX12_behindOne 40 = .ok (.dup, 1) := by decide +kernel
theorem dX12_behindOne_41 : decode cX12_behindOne 41 = .ok (.getfield 152, 3) := by decide +kernel
theorem dX12_behindOne_44 : decode cX12_behindOne 44 = .ok (.iconst 1, 1) := by decide +kernel
theorem dX12_behindOne_45 : decode cX12_behindOne 45 = .ok (.iadd, 1) := by decide +kernel
theorem dX12_behindOne_46 : decode cX12_behindOne 46 = .ok (.putfield 152, 3) := by decide +kernel
theorem dX12_behindOne_49 : decode cX12_behindOne 49 = .ok (.aload_n 0, 1) := by decide +kernel
theorem dX12_behindOne_50 : decode cX12_behindOne 50 = .ok (.iconst 0, 1) := by decide +kernel
theorem dX12_behindOne_51 : decode cX12_behindOne 51 = .ok (.putfield 198, 3) := by decide +kernel
theorem dX12_behindOne_54 : decode cX12_behindOne 54 = .ok (.aload_n 0, 1) := by decide +kernel
theorem dX12_behindOne_55 : decode cX12_behindOne 55 = .ok (.invokevirtual 172, 3) := by decide +kernel
theorem dX12_behindOne_58 : decode cX12_behindOne 58 = .ok (.iconst 0, 1) := by decide +kernel
theorem dX12_behindOne_59 : decode cX12_behindOne 59 = .ok (.ireturn, 1) := by decide +kernel
theorem dX12_behindOne_60 : decode cX12_behindOne 60 = .ok (.aload_n 0, 1) := by decide +kernel
theorem dX12_behindOne_61 : decode cX12_behindOne 61 = .ok (.invokevirtual 169, 3) := by decide +kernel
theorem dX12_behindOne_64 : decode cX12_behindOne 64 = .ok (.istore_n 2, 1) := by decide +kernel
theorem dX12_behindOne_65 : decode cX12_behindOne 65 = .ok (.aload_n 0, 1) := by decide +kernel
theorem dX12_behindOne_66 : decode cX12_behindOne 66 = .ok (.iload_n 2, 1) := by decide +kernel
theorem dX12_behindOne_67 : decode cX12_behindOne 67 = .ok (.invokevirtual 210, 3) := by decide +kernel
theorem dX12_behindOne_70 : decode cX12_behindOne 70 = .ok (.istore_n 3, 1) := by decide +kernel
theorem dX12_behindOne_71 : decode cX12_behindOne 71 = .ok (.iload_n 3, 1) := by decide +kernel
theorem dX12_behindOne_72 : decode cX12_behindOne 72 = .ok (.ifCond .ge 5, 3) := by decide +kernel
theorem dX12_behindOne_75 : decode cX12_behindOne 75 = .ok (.iconst (-1), 1) := by decide +kernel
theorem dX12_behindOne_76 : decode cX12_behindOne 76 = .ok (.ireturn, 1) := by decide +kernel
theorem dX12_behindOne_77 : decode cX12_behindOne 77 = .ok (.aload_n 0, 1) := by decide +kernel
theorem dX12_behindOne_78 : decode cX12_behindOne 78 = .ok (.iconst 1, 1) := by decide +kernel
theorem dX12_behindOne_79 : decode cX12_behindOne 79 = .ok (.invokevirtual 195, 3) := by decide +kernel
theorem dX12_behindOne_82 : decode cX12_behindOne 82 = .ok (.aload_n 0, 1) := by decide +kernel
theorem dX12_behindOne_83 : decode cX12_behindOne 83 = .ok (.invokevirtual 172, 3) := by decide +kernel
theorem dX12_behindOne_86 : decode cX12_behindOne 86 = .ok (.iload_n 3, 1) := by decide +kernel
theorem dX12_behindOne_87 : decode cX12_behindOne 87 = .ok (.ifCond .ne 40, 3) := by decide +kernel
theorem dX12_behindOne_90 : decode cX12_behindOne 90 = .ok (.aload_n 0, 1) := by decide +kernel
theorem dX12_behindOne_91 : decode cX12_behindOne 91 = .ok (.dup, 1) := by decide +kernel
theorem dX12_behindOne_92 : decode cX12_behindOne 92 = .ok (.getfield 162, 3) := by decide +kernel
theorem dX12_behindOne_95 : decode cX12_behindOne 95 = .ok (.iconst 1, 1) := by decide +kernel
theorem dX12_behindOne_96 : decode cX12_behindOne 96 = .ok (.isub, 1) := by decide +kernel
theorem dX12_behindOne_97 : decode cX12_behindOne 97 = .ok (.putfield 162, 3) := by decide +kernel
theorem dX12_behindOne_100 : decode cX12_behindOne 100 = .ok (.aload_n 0, 1) := by decide +kernel
theorem dX12_behindOne_101 : decode cX12_behindOne 101 = .ok (.dup, 1) := by decide +kernel
theorem dX12_behindOne_102 : decode cX12_behindOne 102 = .ok (.getfield 152, 3) := by decide +kernel
theorem dX12_behindOne_105 : decode cX12_behindOne 105 = .ok (.iconst 1, 1) := by decide +kernel
theorem dX12_behindOne_106 : decode cX12_behindOne 106 = .ok (.isub, 1) := by decide +kernel
theorem dX12_behindOne_107 : decode cX12_behindOne 107 = .ok (.putfield 152, 3) := by decide +kernel
theorem dX12_behindOne_110 : decode cX12_behindOne 110 = .ok (.iload_n 2, 1) := by decide +kernel
theorem dX12_behindOne_111 : decode cX12_behindOne 111 = .ok (.bipush 44, 2) := by decide +kernel
theorem dX12_behindOne_113 : decode cX12_behindOne 113 = .ok (.if_icmp .ne 9, 3) := by decide +kernel
theorem dX12_behindOne_116 : decode cX12_behindOne 116 = .ok (.aload_n 0, 1) := by decide +kernel
theorem dX12_behindOne_117 : decode cX12_behindOne 117 = .ok (.iconst 3, 1) := by decide +kernel
theorem dX12_behindOne_118 : decode cX12_behindOne 118 = .ok (.iconst 0, 1) := by decide +kernel
theorem dX12_behindOne_119 : decode cX12_behindOne 119 = .ok (.invokevirtual 158, 3) := by decide +kernel
theorem dX12_behindOne_122 : decode cX12_behindOne 122 = .ok (.aload_n 0, 1) := by decide +kernel
theorem dX12_behindOne_123 : decode cX12_behindOne 123 = .ok (.invokevirtual 181, 3) := by decide +kernel
theorem dX12_behindOne_126 : decode cX12_behindOne 126 = .ok (.ireturn, 1) := by decide +kernel
theorem dX12_behindOne_127 : decode cX12_behindOne 127 = .ok (.aload_n 0, 1) := by decide +kernel
theorem dX12_behindOne_128 : decode cX12_behindOne 128 = .ok (.getfield 29, 3) := by decide +kernel
theorem dX12_behindOne_131 : decode cX12_behindOne 131 = .ok (.aload_n 0, 1) := by decide +kernel
theorem dX12_behindOne_132 : decode cX12_behindOne 132 = .ok (.invokevirtual 165, 3) := by decide +kernel
theorem dX12_behindOne_135 : decode cX12_behindOne 135 = .ok (.iload_n 3, 1) := by decide +kernel
theorem dX12_behindOne_136 : decode cX12_behindOne 136 = .ok (.iastore, 1) := by decide +kernel
theorem dX12_behindOne_137 : decode cX12_behindOne 137 = .ok (.aload_n 0, 1) := by decide +kernel
theorem dX12_behindOne_138 : decode cX12_behindOne 138 = .ok (.iconst 0, 1) := by decide +kernel
theorem dX12_behindOne_139 : decode cX12_behindOne 139 = .ok (.putfield 198, 3) := by decide +kernel
theorem dX12_behindOne_142 : decode cX12_behindOne 142 = .ok (.iconst 0, 1) := by decide +kernel
theorem dX12_behindOne_143 : decode cX12_behindOne 143 = .ok (.ireturn, 1) := by decide +kernel
theorem dX12_summed_0 : decode cX12_summed 0 = .ok (.aload_n 0, 1) := by decide +kernel
theorem dX12_summed_1 : decode cX12_summed 1 = .ok (.iconst 0, 1) := by decide +kernel
theorem dX12_summed_2 : decode cX12_summed 2 = .ok (.putfield 152, 3) := by decide +kernel
theorem dX12_summed_5 : decode cX12_summed 5 = .ok (.aload_n 0, 1) := by decide +kernel
theorem dX12_summed_6 : decode cX12_summed 6 = .ok (.iconst 0, 1) := by decide +kernel
theorem dX12_summed_7 : decode cX12_summed 7 = .ok (.putfield 162, 3) := by decide +kernel
theorem dX12_summed_10 : decode cX12_summed 10 = .ok (.aload_n 0, 1) := by decide +kernel
theorem dX12_summed_11 : decode cX12_summed 11 = .ok (.iconst 0, 1) := by decide +kernel
theorem dX12_summed_12 : decode cX12_summed 12 = .ok (.putfield 198, 3) := by decide +kernel
theorem dX12_summed_15 : decode cX12_summed 15 = .ok (.aload_n 0, 1) := by decide +kernel
theorem dX12_summed_16 : decode cX12_summed 16 = .ok (.getfield 198, 3) := by decide +kernel
theorem dX12_summed_19 : decode cX12_summed 19 = .ok (.ifCond .eq 10, 3) := by decide +kernel
theorem dX12_summed_22 : decode cX12_summed 22 = .ok (.aload_n 0, 1) := by decide +kernel
theorem dX12_summed_23 : decode cX12_summed 23 = .ok (.invokevirtual 213, 3) := by decide +kernel
theorem dX12_summed_26 : decode cX12_summed 26 = .ok (.goto 7, 3) := by decide +kernel
theorem dX12_summed_29 : decode cX12_summed 29 = .ok (.aload_n 0, 1) := by decide +kernel
theorem dX12_summed_30 : decode cX12_summed 30 = .ok (.invokevirtual 216, 3) := by decide +kernel
theorem dX12_summed_33 : decode cX12_summed 33 = .ok (.istore_n 1, 1) := by decide +kernel
theorem dX12_summed_34 : decode cX12_summed 34 = .ok (.iload_n 1, 1) := by decide +kernel
theorem dX12_summed_35 : decode cX12_summed 35 = .ok (.ifCond .le 5, 3) := by decide +kernel
theorem dX12_summed_38 : decode cX12_summed 38 = .ok (.iload_n 1, 1) := by decide +kernel
theorem dX12_summed_39 : decode cX12_summed 39 = .ok (.ireturn, 1) := by decide +kernel
theorem dX12_summed_40 : decode cX12_summed 40 = .ok (.iload_n 1, 1) := by decide +kernel
theorem dX12_summed_41 : decode cX12_summed 41 = .ok (.ifCond .ne 6, 3) := by decide +kernel
theorem dX12_summed_44 : decode cX12_summed 44 = .ok (.goto (-29), 3) := by decide +kernel
theorem dX12_summed_47 : decode cX12_summed 47 = .ok (.aload_n 0, 1) := by decide +kernel
theorem dX12_summed_48 : decode cX12_summed 48 = .ok (.invokevirtual 169, 3) := by decide +kernel
theorem dX12_summed_51 : decode cX12_summed 51 = .ok (.ifCond .lt 5, 3) := by decide +kernel
theorem dX12_summed_54 : decode cX12_summed 54 = .ok (.iconst 1, 1) := by decide +kernel
theorem dX12_summed_55 : decode cX12_summed 55 = .ok (.ireturn, 1) := by decide +kernel
theorem dX12_summed_56 : decode cX12_summed 56 = .ok (.aload_n 0, 1) := by decide +kernel
theorem dX12_summed_57 : decode cX12_summed 57 = .ok (.iconst 1, 1) := by decide +kernel
theorem dX12_summed_58 : decode cX12_summed 58 = .ok (.invokevirtual 195, 3) := by decide +kernel
theorem dX12_summed_61 : decode cX12_summed 61 = .ok (.iconst 0, 1) := by decide +kernel
theorem dX12_summed_62 : decode cX12_summed 62 = .ok (.ireturn, 1) := by decide +kernel
theorem dX12_figure_0 : decode cX12_figure 0 = .ok (.aload_n 0, 1) := by decide +kernel
theorem dX12_figure_1 : decode cX12_figure 1 = .ok (.getfield 102, 3) := by decide +kernel
theorem dX12_figure_4 : decode cX12_figure 4 = .ok (.iconst 1, 1) := by decide +kernel
theorem dX12_figure_5 : decode cX12_figure 5 = .ok (.if_icmp .eq 5, 3) := by decide +kernel
theorem dX12_figure_8 : decode cX12_figure 8 = .ok (.iconst 1, 1) := by decide +kernel
theorem dX12_figure_9 : decode cX12_figure 9 = .ok (.ireturn, 1) := by decide +kernel
theorem dX12_figure_10 : decode cX12_figure 10 = .ok (.aload_n 0, 1) := by decide +kernel
theorem dX12_figure_11 : decode cX12_figure 11 = .ok (.getfield 108, 3) := by decide +kernel
theorem dX12_figure_14 : decode cX12_figure 14 = .ok (.iload_n 2, 1) := by decide +kernel
theorem dX12_figure_15 : decode cX12_figure 15 = .ok (.iload_n 3, 1) := by decide +kernel
theorem dX12_figure_16 : decode cX12_figure 16 = .ok (.invokestatic 63, 3) := by decide +kernel
theorem dX12_figure_19 : decode cX12_figure 19 = .ok (.ifCond .ne 5, 3) := by decide +kernel
theorem dX12_figure_22 : decode cX12_figure 22 = .ok (.iconst 2, 1) := by decide +kernel
theorem dX12_figure_23 : decode cX12_figure 23 = .ok (.ireturn, 1) := by decide +kernel
theorem dX12_figure_24 : decode cX12_figure 24 = .ok (.aload_n 0, 1) := by decide +kernel
theorem dX12_figure_25 : decode cX12_figure 25 = .ok (.getfield 16, 3) := by decide +kernel
theorem dX12_figure_28 : decode cX12_figure 28 = .ok (.iload_n 1, 1) := by decide +kernel
theorem dX12_figure_29 : decode cX12_figure 29 = .ok (.aload_n 0, 1) := by decide +kernel
theorem dX12_figure_30 : decode cX12_figure 30 = .ok (.getfield 108, 3) := by decide +kernel
theorem dX12_figure_33 : decode cX12_figure 33 = .ok (.iastore, 1) := by decide +kernel
theorem dX12_figure_34 : decode cX12_figure 34 = .ok (.aload_n 0, 1) := by decide +kernel
theorem dX12_figure_35 : decode cX12_figure 35 = .ok (.invokevirtual 172, 3) := by decide +kernel
theorem dX12_figure_38 : decode cX12_figure 38 = .ok (.iconst 0, 1) := by decide +kernel
theorem dX12_figure_39 : decode cX12_figure 39 = .ok (.ireturn, 1) := by decide +kernel
theorem dX12_lawClause_0 : decode cX12_lawClause 0 = .ok (.aload_n 0, 1) := by decide +kernel
theorem dX12_lawClause_1 : decode cX12_lawClause 1 = .ok (.getfield 16, 3) := by decide +kernel
theorem dX12_lawClause_4 : decode cX12_lawClause 4 = .ok (.iload_n 1, 1) := by decide +kernel
theorem dX12_lawClause_5 : decode cX12_lawClause 5 = .ok (.iconst 1, 1) := by decide +kernel
theorem dX12_lawClause_6 : decode cX12_lawClause 6 = .ok (.iadd, 1) := by decide +kernel
theorem dX12_lawClause_7 : decode cX12_lawClause 7 = .ok (.aload_n 0, 1) := by decide +kernel
theorem dX12_lawClause_8 : decode cX12_lawClause 8 = .ok (.getfield 142, 3) := by decide +kernel
theorem dX12_lawClause_11 : decode cX12_lawClause 11 = .ok (.iastore, 1) := by decide +kernel
theorem dX12_lawClause_12 : decode cX12_lawClause 12 = .ok (.aload_n 0, 1) := by decide +kernel
theorem dX12_lawClause_13 : decode cX12_lawClause 13 = .ok (.invokevirtual 219, 3) := by decide +kernel
theorem dX12_lawClause_16 : decode cX12_lawClause 16 = .ok (.istore_n 2, 1) := by decide +kernel
theorem dX12_lawClause_17 : decode cX12_lawClause 17 = .ok (.aload_n 0, 1) := by decide +kernel
theorem dX12_lawClause_18 : decode cX12_lawClause 18 = .ok (.getfield 16, 3) := by decide +kernel
theorem dX12_lawClause_21 : decode cX12_lawClause 21 = .ok (.iload_n 1, 1) := by decide +kernel
theorem dX12_lawClause_22 : decode cX12_lawClause 22 = .ok (.iconst 2, 1) := by decide +kernel
theorem dX12_lawClause_23 : decode cX12_lawClause 23 = .ok (.iadd, 1) := by decide +kernel
theorem dX12_lawClause_24 : decode cX12_lawClause 24 = .ok (.aload_n 0, 1) := by decide +kernel
theorem dX12_lawClause_25 : decode cX12_lawClause 25 = .ok (.getfield 142, 3) := by decide +kernel
theorem dX12_lawClause_28 : decode cX12_lawClause 28 = .ok (.iastore, 1) := by decide +kernel
theorem dX12_lawClause_29 : decode cX12_lawClause 29 = .ok (.iload_n 2, 1) := by decide +kernel
theorem dX12_lawClause_30 : decode cX12_lawClause 30 = .ok (.ireturn, 1) := by decide +kernel
theorem dX12_pair_0 : decode cX12_pair 0 = .ok (.aload_n 0, 1) := by decide +kernel
theorem dX12_pair_1 : decode cX12_pair 1 = .ok (.iload_n 1, 1) := by decide +kernel
theorem dX12_pair_2 : decode cX12_pair 2 = .ok (.iconst 1, 1) := by decide +kernel
theorem dX12_pair_3 : decode cX12_pair 3 = .ok (.iadd, 1) := by decide +kernel
theorem dX12_pair_4 : decode cX12_pair 4 = .ok (.iload_n 2, 1) := by decide +kernel
theorem dX12_pair_5 : decode cX12_pair 5 = .ok (.iload_n 3, 1) := by decide +kernel
theorem dX12_pair_6 : decode cX12_pair 6 = .ok (.invokevirtual 222, 3) := by decide +kernel
theorem dX12_pair_9 : decode cX12_pair 9 = .ok (.istore 7, 2) := by decide +kernel
theorem dX12_pair_11 : decode cX12_pair 11 = .ok (.iload 7, 2) := by decide +kernel
theorem dX12_pair_13 : decode cX12_pair 13 = .ok (.ifCond .eq 6, 3) := by decide +kernel
theorem dX12_pair_16 : decode cX12_pair 16 = .ok (.iload 7, 2) := by decide +kernel
theorem dX12_pair_18 : decode cX12_pair 18 = .ok (.ireturn, 1) := by decide +kernel
theorem dX12_pair_19 : decode cX12_pair 19 = .ok (.aload_n 0, 1) := by decide +kernel
theorem dX12_pair_20 : decode cX12_pair 20 = .ok (.lload 4, 2) := by decide +kernel
theorem dX12_pair_22 : decode cX12_pair 22 = .ok (.invokevirtual 187, 3) := by decide +kernel
theorem dX12_pair_25 : decode cX12_pair 25 = .ok (.ifCond .ne 5, 3) := by decide +kernel
theorem dX12_pair_28 : decode cX12_pair 28 = .ok (.iconst 1, 1) := by decide +kernel
theorem dX12_pair_29 : decode cX12_pair 29 = .ok (.ireturn, 1) := by decide +kernel
theorem dX12_pair_30 : decode cX12_pair 30 = .ok (.aload_n 0, 1) := by decide +kernel
theorem dX12_pair_31 : decode cX12_pair 31 = .ok (.invokevirtual 172, 3) := by decide +kernel
theorem dX12_pair_34 : decode cX12_pair 34 = .ok (.aload_n 0, 1) := by decide +kernel
theorem dX12_pair_35 : decode cX12_pair 35 = .ok (.iload_n 1, 1) := by decide +kernel
theorem dX12_pair_36 : decode cX12_pair 36 = .ok (.iconst 2, 1) := by decide +kernel
theorem dX12_pair_37 : decode cX12_pair 37 = .ok (.iadd, 1) := by decide +kernel
theorem dX12_pair_38 : decode cX12_pair 38 = .ok (.iconst 0, 1) := by decide +kernel
theorem dX12_pair_39 : decode cX12_pair 39 = .ok (.iload 6, 2) := by decide +kernel
theorem dX12_pair_41 : decode cX12_pair 41 = .ok (.invokevirtual 222, 3) := by decide +kernel
theorem dX12_pair_44 : decode cX12_pair 44 = .ok (.ireturn, 1) := by decide +kernel
theorem dX12_body_0 : decode cX12_body 0 = .ok (.iload_n 1, 1) := by decide +kernel
theorem dX12_body_1 : decode cX12_body 1 = .ok (.tableswitch 189 3 10 #[47, 101, 119, 129, 140, 151, 168, 178], 47) := by decide +kernel
theorem dX12_body_48 : decode cX12_body 48 = .ok (.aload_n 0, 1) := by decide +kernel
theorem dX12_body_49 : decode cX12_body 49 = .ok (.getfield 102, 3) := by decide +kernel
theorem dX12_body_52 : decode cX12_body 52 = .ok (.iconst 1, 1) := by decide +kernel
theorem dX12_body_53 : decode cX12_body 53 = .ok (.if_icmp .ne 30, 3) := by decide +kernel
theorem dX12_body_56 : decode cX12_body 56 = .ok (.aload_n 0, 1) := by decide +kernel
theorem dX12_body_57 : decode cX12_body 57 = .ok (.getfield 108, 3) := by decide +kernel
theorem dX12_body_60 : decode cX12_body 60 = .ok (.iconst 1, 1) := by decide +kernel
theorem dX12_body_61 : decode cX12_body 61 = .ok (.sipush 9999, 3) := by decide +kernel
theorem dX12_body_64 : decode cX12_body 64 = .ok (.invokestatic 63, 3) := by decide +kernel
theorem dX12_body_67 : decode cX12_body 67 = .ok (.ifCond .eq 16, 3) := by decide +kernel
theorem dX12_body_70 : decode cX12_body 70 = .ok (.aload_n 0, 1) := by decide +kernel
theorem dX12_body_71 : decode cX12_body 71 = .ok (.getfield 108, 3) := by decide +kernel
theorem dX12_body_74 : decode cX12_body 74 = .ok (.invokestatic 68, 3) := by decide +kernel
theorem dX12_body_77 : decode cX12_body 77 = .ok (.ifCond .ne 6, 3) := by decide +kernel
theorem dX12_body_80 : decode cX12_body 80 = .ok (.bipush 7, 2) := by decide +kernel
theorem dX12_body_82 : decode cX12_body 82 = .ok (.ireturn, 1) := by decide +kernel
theorem dX12_body_83 : decode cX12_body 83 = .ok (.aload_n 0, 1) := by decide +kernel
theorem dX12_body_84 : decode cX12_body 84 = .ok (.iload_n 2, 1) := by decide +kernel
theorem dX12_body_85 : decode cX12_body 85 = .ok (.iconst 1, 1) := by decide +kernel
theorem dX12_body_86 : decode cX12_body 86 = .ok (.sipush 9999, 3) := by decide +kernel
theorem dX12_body_89 : decode cX12_body 89 = .ok (.bipush 105, 2) := by decide +kernel
theorem dX12_body_91 : decode cX12_body 91 = .ok (.bipush 110, 2) := by decide +kernel
theorem dX12_body_93 : decode cX12_body 93 = .ok (.invokestatic 123, 3) := by decide +kernel
theorem dX12_body_96 : decode cX12_body 96 = .ok (.bipush 9, 2) := by decide +kernel
theorem dX12_body_98 : decode cX12_body 98 = .ok (.invokevirtual 226, 3) := by decide +kernel
theorem dX12_body_101 : decode cX12_body 101 = .ok (.ireturn, 1) := by decide +kernel
theorem dX12_body_102 : decode cX12_body 102 = .ok (.aload_n 0, 1) := by decide +kernel
theorem dX12_body_103 : decode cX12_body 103 = .ok (.iload_n 2, 1) := by decide +kernel
theorem dX12_body_104 : decode cX12_body 104 = .ok (.iconst 1, 1) := by decide +kernel
theorem dX12_body_105 : decode cX12_body 105 = .ok (.bipush 9, 2) := by decide +kernel
theorem dX12_body_107 : decode cX12_body 107 = .ok (.bipush 97, 2) := by decide +kernel
theorem dX12_body_109 : decode cX12_body 109 = .ok (.bipush 116, 2) := by decide +kernel
theorem dX12_body_111 : decode cX12_body 111 = .ok (.invokestatic 123, 3) := by decide +kernel
theorem dX12_body_114 : decode cX12_body 114 = .ok (.bipush 9, 2) := by decide +kernel
theorem dX12_body_116 : decode cX12_body 116 = .ok (.invokevirtual 226, 3) := by decide +kernel
theorem dX12_body_119 : decode cX12_body 119 = .ok (.ireturn, 1) := by decide +kernel
theorem dX12_body_120 : decode cX12_body 120 = .ok (.aload_n 0, 1) := by decide +kernel
theorem dX12_body_121 : decode cX12_body 121 = .ok (.iload_n 2, 1) := by decide +kernel
theorem dX12_body_122 : decode cX12_body 122 = .ok (.iconst 1, 1) := by decide +kernel
theorem dX12_body_123 : decode cX12_body 123 = .ok (.iadd, 1) := by decide +kernel
theorem dX12_body_124 : decode cX12_body 124 = .ok (.iconst 0, 1) := by decide +kernel
theorem dX12_body_125 : decode cX12_body 125 = .ok (.iconst 5, 1) := by decide +kernel
theorem dX12_body_126 : decode cX12_body 126 = .ok (.invokevirtual 222, 3) := by decide +kernel
theorem dX12_body_129 : decode cX12_body 129 = .ok (.ireturn, 1) := by decide +kernel
theorem dX12_body_130 : decode cX12_body 130 = .ok (.aload_n 0, 1) := by decide +kernel
theorem dX12_body_131 : decode cX12_body 131 = .ok (.iload_n 2, 1) := by decide +kernel
theorem dX12_body_132 : decode cX12_body 132 = .ok (.iconst 1, 1) := by decide +kernel
theorem dX12_body_133 : decode cX12_body 133 = .ok (.iadd, 1) := by decide +kernel
theorem dX12_body_134 : decode cX12_body 134 = .ok (.iconst 0, 1) := by decide +kernel
theorem dX12_body_135 : decode cX12_body 135 = .ok (.bipush 9, 2) := by decide +kernel
theorem dX12_body_137 : decode cX12_body 137 = .ok (.invokevirtual 222, 3) := by decide +kernel
theorem dX12_body_140 : decode cX12_body 140 = .ok (.ireturn, 1) := by decide +kernel
theorem dX12_body_141 : decode cX12_body 141 = .ok (.aload_n 0, 1) := by decide +kernel
theorem dX12_body_142 : decode cX12_body 142 = .ok (.iload_n 2, 1) := by decide +kernel
theorem dX12_body_143 : decode cX12_body 143 = .ok (.iconst 1, 1) := by decide +kernel
theorem dX12_body_144 : decode cX12_body 144 = .ok (.iadd, 1) := by decide +kernel
theorem dX12_body_145 : decode cX12_body 145 = .ok (.iconst 0, 1) := by decide +kernel
theorem dX12_body_146 : decode cX12_body 146 = .ok (.bipush 9, 2) := by decide +kernel
theorem dX12_body_148 : decode cX12_body 148 = .ok (.invokevirtual 222, 3) := by decide +kernel
theorem dX12_body_151 : decode cX12_body 151 = .ok (.ireturn, 1) := by decide +kernel
theorem dX12_body_152 : decode cX12_body 152 = .ok (.aload_n 0, 1) := by decide +kernel
theorem dX12_body_153 : decode cX12_body 153 = .ok (.iload_n 2, 1) := by decide +kernel
theorem dX12_body_154 : decode cX12_body 154 = .ok (.iconst 0, 1) := by decide +kernel
theorem dX12_body_155 : decode cX12_body 155 = .ok (.iconst 4, 1) := by decide +kernel
theorem dX12_body_156 : decode cX12_body 156 = .ok (.bipush 97, 2) := by decide +kernel
theorem dX12_body_158 : decode cX12_body 158 = .ok (.bipush 116, 2) := by decide +kernel
theorem dX12_body_160 : decode cX12_body 160 = .ok (.invokestatic 123, 3) := by decide +kernel
theorem dX12_body_163 : decode cX12_body 163 = .ok (.bipush 9, 2) := by decide +kernel
theorem dX12_body_165 : decode cX12_body 165 = .ok (.invokevirtual 226, 3) := by decide +kernel
theorem dX12_body_168 : decode cX12_body 168 = .ok (.ireturn, 1) := by decide +kernel
theorem dX12_body_169 : decode cX12_body 169 = .ok (.aload_n 0, 1) := by decide +kernel
theorem dX12_body_170 : decode cX12_body 170 = .ok (.iload_n 2, 1) := by decide +kernel
theorem dX12_body_171 : decode cX12_body 171 = .ok (.iconst 1, 1) := by decide +kernel
theorem dX12_body_172 : decode cX12_body 172 = .ok (.iadd, 1) := by decide +kernel
theorem dX12_body_173 : decode cX12_body 173 = .ok (.iconst 0, 1) := by decide +kernel
theorem dX12_body_174 : decode cX12_body 174 = .ok (.iconst 5, 1) := by decide +kernel
theorem dX12_body_175 : decode cX12_body 175 = .ok (.invokevirtual 222, 3) := by decide +kernel
theorem dX12_body_178 : decode cX12_body 178 = .ok (.ireturn, 1) := by decide +kernel
theorem dX12_body_179 : decode cX12_body 179 = .ok (.aload_n 0, 1) := by decide +kernel
theorem dX12_body_180 : decode cX12_body 180 = .ok (.iload_n 2, 1) := by decide +kernel
theorem dX12_body_181 : decode cX12_body 181 = .ok (.iconst 1, 1) := by decide +kernel
theorem dX12_body_182 : decode cX12_body 182 = .ok (.iadd, 1) := by decide +kernel
theorem dX12_body_183 : decode cX12_body 183 = .ok (.iconst 1, 1) := by decide +kernel
theorem dX12_body_184 : decode cX12_body 184 = .ok (.bipush 60, 2) := by decide +kernel
theorem dX12_body_186 : decode cX12_body 186 = .ok (.invokevirtual 222, 3) := by decide +kernel
theorem dX12_body_189 : decode cX12_body 189 = .ok (.ireturn, 1) := by decide +kernel
theorem dX12_body_190 : decode cX12_body 190 = .ok (.aload_n 0, 1) := by decide +kernel
theorem dX12_body_191 : decode cX12_body 191 = .ok (.iload_n 2, 1) := by decide +kernel
theorem dX12_body_192 : decode cX12_body 192 = .ok (.invokevirtual 230, 3) := by decide +kernel
theorem dX12_body_195 : decode cX12_body 195 = .ok (.ireturn, 1) := by decide +kernel
theorem dX12_sortOf_0 : decode cX12_sortOf 0 = .ok (.aload_n 0, 1) := by decide +kernel
theorem dX12_sortOf_1 : decode cX12_sortOf 1 = .ok (.bipush 109, 2) := by decide +kernel
theorem dX12_sortOf_3 : decode cX12_sortOf 3 = .ok (.bipush 101, 2) := by decide +kernel
theorem dX12_sortOf_5 : decode cX12_sortOf 5 = .ok (.bipush 108, 2) := by decide +kernel
theorem dX12_sortOf_7 : decode cX12_sortOf 7 = .ok (.bipush 116, 2) := by decide +kernel
theorem dX12_sortOf_9 : decode cX12_sortOf 9 = .ok (.bipush 115, 2) := by decide +kernel
theorem dX12_sortOf_11 : decode cX12_sortOf 11 = .ok (.invokestatic 135, 3) := by decide +kernel
theorem dX12_sortOf_14 : decode cX12_sortOf 14 = .ok (.invokevirtual 187, 3) := by decide +kernel
theorem dX12_sortOf_17 : decode cX12_sortOf 17 = .ok (.ifCond .eq 5, 3) := by decide +kernel
theorem dX12_sortOf_20 : decode cX12_sortOf 20 = .ok (.iconst 0, 1) := by decide +kernel
theorem dX12_sortOf_21 : decode cX12_sortOf 21 = .ok (.ireturn, 1) := by decide +kernel
theorem dX12_sortOf_22 : decode cX12_sortOf 22 = .ok (.aload_n 0, 1) := by decide +kernel
theorem dX12_sortOf_23 : decode cX12_sortOf 23 = .ok (.bipush 98, 2) := by decide +kernel
theorem dX12_sortOf_25 : decode cX12_sortOf 25 = .ok (.bipush 114, 2) := by decide +kernel
theorem dX12_sortOf_27 : decode cX12_sortOf 27 = .ok (.bipush 101, 2) := by decide +kernel
theorem dX12_sortOf_29 : decode cX12_sortOf 29 = .ok (.bipush 97, 2) := by decide +kernel
theorem dX12_sortOf_31 : decode cX12_sortOf 31 = .ok (.bipush 107, 2) := by decide +kernel
theorem dX12_sortOf_33 : decode cX12_sortOf 33 = .ok (.bipush 115, 2) := by decide +kernel
theorem dX12_sortOf_35 : decode cX12_sortOf 35 = .ok (.invokestatic 145, 3) := by decide +kernel
theorem dX12_sortOf_38 : decode cX12_sortOf 38 = .ok (.invokevirtual 187, 3) := by decide +kernel
theorem dX12_sortOf_41 : decode cX12_sortOf 41 = .ok (.ifCond .eq 5, 3) := by decide +kernel
theorem dX12_sortOf_44 : decode cX12_sortOf 44 = .ok (.iconst 1, 1) := by decide +kernel
theorem dX12_sortOf_45 : decode cX12_sortOf 45 = .ok (.ireturn, 1) := by decide +kernel
theorem dX12_sortOf_46 : decode cX12_sortOf 46 = .ok (.aload_n 0, 1) := by decide +kernel
theorem dX12_sortOf_47 : decode cX12_sortOf 47 = .ok (.bipush 99, 2) := by decide +kernel
theorem dX12_sortOf_49 : decode cX12_sortOf 49 = .ok (.bipush 108, 2) := by decide +kernel
theorem dX12_sortOf_51 : decode cX12_sortOf 51 = .ok (.bipush 97, 2) := by decide +kernel
theorem dX12_sortOf_53 : decode cX12_sortOf 53 = .ok (.bipush 105, 2) := by decide +kernel
theorem dX12_sortOf_55 : decode cX12_sortOf 55 = .ok (.bipush 109, 2) := by decide +kernel
theorem dX12_sortOf_57 : decode cX12_sortOf 57 = .ok (.bipush 115, 2) := by decide +kernel
theorem dX12_sortOf_59 : decode cX12_sortOf 59 = .ok (.invokestatic 145, 3) := by decide +kernel
theorem dX12_sortOf_62 : decode cX12_sortOf 62 = .ok (.invokevirtual 187, 3) := by decide +kernel
theorem dX12_sortOf_65 : decode cX12_sortOf 65 = .ok (.ifCond .eq 5, 3) := by decide +kernel
theorem dX12_sortOf_68 : decode cX12_sortOf 68 = .ok (.iconst 2, 1) := by decide +kernel
theorem dX12_sortOf_69 : decode cX12_sortOf 69 = .ok (.ireturn, 1) := by decide +kernel
theorem dX12_sortOf_70 : decode cX12_sortOf 70 = .ok (.aload_n 0, 1) := by decide +kernel
theorem dX12_sortOf_71 : decode cX12_sortOf 71 = .ok (.bipush 110, 2) := by decide +kernel
theorem dX12_sortOf_73 : decode cX12_sortOf 73 = .ok (.bipush 97, 2) := by decide +kernel
theorem dX12_sortOf_75 : decode cX12_sortOf 75 = .ok (.bipush 109, 2) := by decide +kernel
theorem dX12_sortOf_77 : decode cX12_sortOf 77 = .ok (.bipush 101, 2) := by decide +kernel
theorem dX12_sortOf_79 : decode cX12_sortOf 79 = .ok (.invokestatic 131, 3) := by decide +kernel
theorem dX12_sortOf_82 : decode cX12_sortOf 82 = .ok (.invokevirtual 187, 3) := by decide +kernel
theorem dX12_sortOf_85 : decode cX12_sortOf 85 = .ok (.ifCond .eq 5, 3) := by decide +kernel
theorem dX12_sortOf_88 : decode cX12_sortOf 88 = .ok (.iconst 3, 1) := by decide +kernel
theorem dX12_sortOf_89 : decode cX12_sortOf 89 = .ok (.ireturn, 1) := by decide +kernel
theorem dX12_sortOf_90 : decode cX12_sortOf 90 = .ok (.aload_n 0, 1) := by decide +kernel
theorem dX12_sortOf_91 : decode cX12_sortOf 91 = .ok (.bipush 102, 2) := by decide +kernel
theorem dX12_sortOf_93 : decode cX12_sortOf 93 = .ok (.bipush 97, 2) := by decide +kernel
theorem dX12_sortOf_95 : decode cX12_sortOf 95 = .ok (.bipush 109, 2) := by decide +kernel
theorem dX12_sortOf_97 : decode cX12_sortOf 97 = .ok (.bipush 105, 2) := by decide +kernel
theorem dX12_sortOf_99 : decode cX12_sortOf 99 = .ok (.bipush 108, 2) := by decide +kernel
theorem dX12_sortOf_101 : decode cX12_sortOf 101 = .ok (.bipush 121, 2) := by decide +kernel
theorem dX12_sortOf_103 : decode cX12_sortOf 103 = .ok (.invokestatic 145, 3) := by decide +kernel
theorem dX12_sortOf_106 : decode cX12_sortOf 106 = .ok (.invokevirtual 187, 3) := by decide +kernel
theorem dX12_sortOf_109 : decode cX12_sortOf 109 = .ok (.ifCond .eq 5, 3) := by decide +kernel
theorem dX12_sortOf_112 : decode cX12_sortOf 112 = .ok (.iconst 4, 1) := by decide +kernel
theorem dX12_sortOf_113 : decode cX12_sortOf 113 = .ok (.ireturn, 1) := by decide +kernel
theorem dX12_sortOf_114 : decode cX12_sortOf 114 = .ok (.aload_n 0, 1) := by decide +kernel
theorem dX12_sortOf_115 : decode cX12_sortOf 115 = .ok (.bipush 99, 2) := by decide +kernel
theorem dX12_sortOf_117 : decode cX12_sortOf 117 = .ok (.bipush 97, 2) := by decide +kernel
theorem dX12_sortOf_119 : decode cX12_sortOf 119 = .ok (.bipush 108, 2) := by decide +kernel
theorem dX12_sortOf_121 : decode cX12_sortOf 121 = .ok (.bipush 108, 2) := by decide +kernel
theorem dX12_sortOf_123 : decode cX12_sortOf 123 = .ok (.invokestatic 131, 3) := by decide +kernel
theorem dX12_sortOf_126 : decode cX12_sortOf 126 = .ok (.invokevirtual 187, 3) := by decide +kernel
theorem dX12_sortOf_129 : decode cX12_sortOf 129 = .ok (.ifCond .eq 5, 3) := by decide +kernel
theorem dX12_sortOf_132 : decode cX12_sortOf 132 = .ok (.iconst 5, 1) := by decide +kernel
theorem dX12_sortOf_133 : decode cX12_sortOf 133 = .ok (.ireturn, 1) := by decide +kernel
theorem dX12_sortOf_134 : decode cX12_sortOf 134 = .ok (.aload_n 0, 1) := by decide +kernel
theorem dX12_sortOf_135 : decode cX12_sortOf 135 = .ok (.bipush 108, 2) := by decide +kernel
theorem dX12_sortOf_137 : decode cX12_sortOf 137 = .ok (.bipush 97, 2) := by decide +kernel
theorem dX12_sortOf_139 : decode cX12_sortOf 139 = .ok (.bipush 121, 2) := by decide +kernel
theorem dX12_sortOf_141 : decode cX12_sortOf 141 = .ok (.invokestatic 127, 3) := by decide +kernel
theorem dX12_sortOf_144 : decode cX12_sortOf 144 = .ok (.invokevirtual 187, 3) := by decide +kernel
theorem dX12_sortOf_147 : decode cX12_sortOf 147 = .ok (.ifCond .eq 6, 3) := by decide +kernel
theorem dX12_sortOf_150 : decode cX12_sortOf 150 = .ok (.bipush 6, 2) := by decide +kernel
theorem dX12_sortOf_152 : decode cX12_sortOf 152 = .ok (.ireturn, 1) := by decide +kernel
theorem dX12_sortOf_153 : decode cX12_sortOf 153 = .ok (.aload_n 0, 1) := by decide +kernel
theorem dX12_sortOf_154 : decode cX12_sortOf 154 = .ok (.bipush 116, 2) := by decide +kernel
theorem dX12_sortOf_156 : decode cX12_sortOf 156 = .ok (.bipush 97, 2) := by decide +kernel
theorem dX12_sortOf_158 : decode cX12_sortOf 158 = .ok (.bipush 107, 2) := by decide +kernel
theorem dX12_sortOf_160 : decode cX12_sortOf 160 = .ok (.bipush 101, 2) := by decide +kernel
theorem dX12_sortOf_162 : decode cX12_sortOf 162 = .ok (.invokestatic 131, 3) := by decide +kernel
theorem dX12_sortOf_165 : decode cX12_sortOf 165 = .ok (.invokevirtual 187, 3) := by decide +kernel
theorem dX12_sortOf_168 : decode cX12_sortOf 168 = .ok (.ifCond .eq 6, 3) := by decide +kernel
theorem dX12_sortOf_171 : decode cX12_sortOf 171 = .ok (.bipush 7, 2) := by decide +kernel
theorem dX12_sortOf_173 : decode cX12_sortOf 173 = .ok (.ireturn, 1) := by decide +kernel
theorem dX12_sortOf_174 : decode cX12_sortOf 174 = .ok (.aload_n 0, 1) := by decide +kernel
theorem dX12_sortOf_175 : decode cX12_sortOf 175 = .ok (.bipush 115, 2) := by decide +kernel
theorem dX12_sortOf_177 : decode cX12_sortOf 177 = .ok (.bipush 116, 2) := by decide +kernel
theorem dX12_sortOf_179 : decode cX12_sortOf 179 = .ok (.bipush 97, 2) := by decide +kernel
theorem dX12_sortOf_181 : decode cX12_sortOf 181 = .ok (.bipush 110, 2) := by decide +kernel
theorem dX12_sortOf_183 : decode cX12_sortOf 183 = .ok (.bipush 100, 2) := by decide +kernel
theorem dX12_sortOf_185 : decode cX12_sortOf 185 = .ok (.invokestatic 135, 3) := by decide +kernel
theorem dX12_sortOf_188 : decode cX12_sortOf 188 = .ok (.invokevirtual 187, 3) := by decide +kernel
theorem dX12_sortOf_191 : decode cX12_sortOf 191 = .ok (.ifCond .eq 6, 3) := by decide +kernel
theorem dX12_sortOf_194 : decode cX12_sortOf 194 = .ok (.bipush 8, 2) := by decide +kernel
theorem dX12_sortOf_196 : decode cX12_sortOf 196 = .ok (.ireturn, 1) := by decide +kernel
theorem dX12_sortOf_197 : decode cX12_sortOf 197 = .ok (.aload_n 0, 1) := by decide +kernel
theorem dX12_sortOf_198 : decode cX12_sortOf 198 = .ok (.bipush 115, 2) := by decide +kernel
theorem dX12_sortOf_200 : decode cX12_sortOf 200 = .ok (.bipush 105, 2) := by decide +kernel
theorem dX12_sortOf_202 : decode cX12_sortOf 202 = .ok (.bipush 110, 2) := by decide +kernel
theorem dX12_sortOf_204 : decode cX12_sortOf 204 = .ok (.bipush 107, 2) := by decide +kernel
theorem dX12_sortOf_206 : decode cX12_sortOf 206 = .ok (.invokestatic 131, 3) := by decide +kernel
theorem dX12_sortOf_209 : decode cX12_sortOf 209 = .ok (.invokevirtual 187, 3) := by decide +kernel
theorem dX12_sortOf_212 : decode cX12_sortOf 212 = .ok (.ifCond .eq 8, 3) := by decide +kernel
theorem dX12_sortOf_215 : decode cX12_sortOf 215 = .ok (.bipush 9, 2) := by decide +kernel
theorem dX12_sortOf_217 : decode cX12_sortOf 217 = .ok (.goto 27, 3) := by decide +kernel
theorem dX12_sortOf_220 : decode cX12_sortOf 220 = .ok (.aload_n 0, 1) := by decide +kernel
theorem dX12_sortOf_221 : decode cX12_sortOf 221 = .ok (.bipush 104, 2) := by decide +kernel
theorem dX12_sortOf_223 : decode cX12_sortOf 223 = .ok (.bipush 111, 2) := by decide +kernel
theorem dX12_sortOf_225 : decode cX12_sortOf 225 = .ok (.bipush 117, 2) := by decide +kernel
theorem dX12_sortOf_227 : decode cX12_sortOf 227 = .ok (.bipush 114, 2) := by decide +kernel
theorem dX12_sortOf_229 : decode cX12_sortOf 229 = .ok (.invokestatic 131, 3) := by decide +kernel
theorem dX12_sortOf_232 : decode cX12_sortOf 232 = .ok (.invokevirtual 187, 3) := by decide +kernel
theorem dX12_sortOf_235 : decode cX12_sortOf 235 = .ok (.ifCond .eq 8, 3) := by decide +kernel
theorem dX12_sortOf_238 : decode cX12_sortOf 238 = .ok (.bipush 10, 2) := by decide +kernel
theorem dX12_sortOf_240 : decode cX12_sortOf 240 = .ok (.goto 4, 3) := by decide +kernel
theorem dX12_sortOf_243 : decode cX12_sortOf 243 = .ok (.iconst (-1), 1) := by decide +kernel
theorem dX12_sortOf_244 : decode cX12_sortOf 244 = .ok (.ireturn, 1) := by decide +kernel
theorem dX12_clause_0 : decode cX12_clause 0 = .ok (.aload_n 0, 1) := by decide +kernel
theorem dX12_clause_1 : decode cX12_clause 1 = .ok (.invokevirtual 233, 3) := by decide +kernel
theorem dX12_clause_4 : decode cX12_clause 4 = .ok (.istore_n 1, 1) := by decide +kernel
theorem dX12_clause_5 : decode cX12_clause 5 = .ok (.iload_n 1, 1) := by decide +kernel
theorem dX12_clause_6 : decode cX12_clause 6 = .ok (.ifCond .ge 5, 3) := by decide +kernel
theorem dX12_clause_9 : decode cX12_clause 9 = .ok (.iconst 1, 1) := by decide +kernel
theorem dX12_clause_10 : decode cX12_clause 10 = .ok (.ireturn, 1) := by decide +kernel
theorem dX12_clause_11 : decode cX12_clause 11 = .ok (.iload_n 1, 1) := by decide +kernel
theorem dX12_clause_12 : decode cX12_clause 12 = .ok (.iconst 2, 1) := by decide +kernel
theorem dX12_clause_13 : decode cX12_clause 13 = .ok (.if_icmp .gt 16, 3) := by decide +kernel
theorem dX12_clause_16 : decode cX12_clause 16 = .ok (.aload_n 0, 1) := by decide +kernel
theorem dX12_clause_17 : decode cX12_clause 17 = .ok (.getfield 236, 3) := by decide +kernel
theorem dX12_clause_20 : decode cX12_clause 20 = .ok (.iload_n 1, 1) := by decide +kernel
theorem dX12_clause_21 : decode cX12_clause 21 = .ok (.invokestatic 239, 3) := by decide +kernel
theorem dX12_clause_24 : decode cX12_clause 24 = .ok (.ifCond .eq 5, 3) := by decide +kernel
theorem dX12_clause_27 : decode cX12_clause 27 = .ok (.iconst 4, 1) := by decide +kernel
theorem dX12_clause_28 : decode cX12_clause 28 = .ok (.ireturn, 1) := by decide +kernel
theorem dX12_clause_29 : decode cX12_clause 29 = .ok (.aload_n 0, 1) := by decide +kernel
theorem dX12_clause_30 : decode cX12_clause 30 = .ok (.getfield 16, 3) := by decide +kernel
theorem dX12_clause_33 : decode cX12_clause 33 = .ok (.aload_n 0, 1) := by decide +kernel
theorem dX12_clause_34 : decode cX12_clause 34 = .ok (.getfield 139, 3) := by decide +kernel
theorem dX12_clause_37 : decode cX12_clause 37 = .ok (.iaload, 1) := by decide +kernel
theorem dX12_clause_38 : decode cX12_clause 38 = .ok (.istore_n 2, 1) := by decide +kernel
theorem dX12_clause_39 : decode cX12_clause 39 = .ok (.iload_n 2, 1) := by decide +kernel
theorem dX12_clause_40 : decode cX12_clause 40 = .ok (.bipush 24, 2) := by decide +kernel
theorem dX12_clause_42 : decode cX12_clause 42 = .ok (.if_icmp .ne 6, 3) := by decide +kernel
theorem dX12_clause_45 : decode cX12_clause 45 = .ok (.bipush 6, 2) := by decide +kernel
theorem dX12_clause_47 : decode cX12_clause 47 = .ok (.ireturn, 1) := by decide +kernel
theorem dX12_clause_48 : decode cX12_clause 48 = .ok (.iload_n 1, 1) := by decide +kernel
theorem dX12_clause_49 : decode cX12_clause 49 = .ok (.iconst 2, 1) := by decide +kernel
theorem dX12_clause_50 : decode cX12_clause 50 = .ok (.if_icmp .gt 15, 3) := by decide +kernel
theorem dX12_clause_53 : decode cX12_clause 53 = .ok (.aload_n 0, 1) := by decide +kernel
theorem dX12_clause_54 : decode cX12_clause 54 = .ok (.dup, 1) := by decide +kernel
theorem dX12_clause_55 : decode cX12_clause 55 = .ok (.getfield 236, 3) := by decide +kernel
theorem dX12_clause_58 : decode cX12_clause 58 = .ok (.iconst 1, 1) := by decide +kernel
theorem dX12_clause_59 : decode cX12_clause 59 = .ok (.iload_n 1, 1) := by decide +kernel
theorem dX12_clause_60 : decode cX12_clause 60 = .ok (.ishl, 1) := by decide +kernel
theorem dX12_clause_61 : decode cX12_clause 61 = .ok (.ior, 1) := by decide +kernel
theorem dX12_clause_62 : decode cX12_clause 62 = .ok (.putfield 236, 3) := by decide +kernel
theorem dX12_clause_65 : decode cX12_clause 65 = .ok (.aload_n 0, 1) := by decide +kernel
theorem dX12_clause_66 : decode cX12_clause 66 = .ok (.iload_n 1, 1) := by decide +kernel
theorem dX12_clause_67 : decode cX12_clause 67 = .ok (.putfield 149, 3) := by decide +kernel
theorem dX12_clause_70 : decode cX12_clause 70 = .ok (.aload_n 0, 1) := by decide +kernel
theorem dX12_clause_71 : decode cX12_clause 71 = .ok (.invokevirtual 172, 3) := by decide +kernel
theorem dX12_clause_74 : decode cX12_clause 74 = .ok (.aload_n 0, 1) := by decide +kernel
theorem dX12_clause_75 : decode cX12_clause 75 = .ok (.getfield 139, 3) := by decide +kernel
theorem dX12_clause_78 : decode cX12_clause 78 = .ok (.iconst 1, 1) := by decide +kernel
theorem dX12_clause_79 : decode cX12_clause 79 = .ok (.iadd, 1) := by decide +kernel
theorem dX12_clause_80 : decode cX12_clause 80 = .ok (.iconst 3, 1) := by decide +kernel
theorem dX12_clause_81 : decode cX12_clause 81 = .ok (.iload_n 2, 1) := by decide +kernel
theorem dX12_clause_82 : decode cX12_clause 82 = .ok (.imul, 1) := by decide +kernel
theorem dX12_clause_83 : decode cX12_clause 83 = .ok (.iadd, 1) := by decide +kernel
theorem dX12_clause_84 : decode cX12_clause 84 = .ok (.istore_n 3, 1) := by decide +kernel
theorem dX12_clause_85 : decode cX12_clause 85 = .ok (.aload_n 0, 1) := by decide +kernel
theorem dX12_clause_86 : decode cX12_clause 86 = .ok (.getfield 16, 3) := by decide +kernel
theorem dX12_clause_89 : decode cX12_clause 89 = .ok (.iload_n 3, 1) := by decide +kernel
theorem dX12_clause_90 : decode cX12_clause 90 = .ok (.iload_n 1, 1) := by decide +kernel
theorem dX12_clause_91 : decode cX12_clause 91 = .ok (.iastore, 1) := by decide +kernel
theorem dX12_clause_92 : decode cX12_clause 92 = .ok (.aload_n 0, 1) := by decide +kernel
theorem dX12_clause_93 : decode cX12_clause 93 = .ok (.iload_n 1, 1) := by decide +kernel
theorem dX12_clause_94 : decode cX12_clause 94 = .ok (.iload_n 3, 1) := by decide +kernel
theorem dX12_clause_95 : decode cX12_clause 95 = .ok (.invokevirtual 243, 3) := by decide +kernel
theorem dX12_clause_98 : decode cX12_clause 98 = .ok (.istore 4, 2) := by decide +kernel
theorem dX12_clause_100 : decode cX12_clause 100 = .ok (.iload 4, 2) := by decide +kernel
theorem dX12_clause_102 : decode cX12_clause 102 = .ok (.ifCond .eq 6, 3) := by decide +kernel
theorem dX12_clause_105 : decode cX12_clause 105 = .ok (.iload 4, 2) := by decide +kernel
theorem dX12_clause_107 : decode cX12_clause 107 = .ok (.ireturn, 1) := by decide +kernel
theorem dX12_clause_108 : decode cX12_clause 108 = .ok (.aload_n 0, 1) := by decide +kernel
theorem dX12_clause_109 : decode cX12_clause 109 = .ok (.getfield 16, 3) := by decide +kernel
theorem dX12_clause_112 : decode cX12_clause 112 = .ok (.aload_n 0, 1) := by decide +kernel
theorem dX12_clause_113 : decode cX12_clause 113 = .ok (.getfield 139, 3) := by decide +kernel
theorem dX12_clause_116 : decode cX12_clause 116 = .ok (.dup2, 1) := by decide +kernel
theorem dX12_clause_117 : decode cX12_clause 117 = .ok (.iaload, 1) := by decide +kernel
theorem dX12_clause_118 : decode cX12_clause 118 = .ok (.iconst 1, 1) := by decide +kernel
theorem dX12_clause_119 : decode cX12_clause 119 = .ok (.iadd, 1) := by decide +kernel
theorem dX12_clause_120 : decode cX12_clause 120 = .ok (.iastore, 1) := by decide +kernel
theorem dX12_clause_121 : decode cX12_clause 121 = .ok (.aload_n 0, 1) := by decide +kernel
theorem dX12_clause_122 : decode cX12_clause 122 = .ok (.getfield 102, 3) := by decide +kernel
theorem dX12_clause_125 : decode cX12_clause 125 = .ok (.bipush 59, 2) := by decide +kernel
theorem dX12_clause_127 : decode cX12_clause 127 = .ok (.if_icmp .eq 5, 3) := by decide +kernel
theorem dX12_clause_130 : decode cX12_clause 130 = .ok (.iconst 1, 1) := by decide +kernel
theorem dX12_clause_131 : decode cX12_clause 131 = .ok (.ireturn, 1) := by decide +kernel
theorem dX12_clause_132 : decode cX12_clause 132 = .ok (.aload_n 0, 1) := by decide +kernel
theorem dX12_clause_133 : decode cX12_clause 133 = .ok (.invokevirtual 172, 3) := by decide +kernel
theorem dX12_clause_136 : decode cX12_clause 136 = .ok (.iconst 0, 1) := by decide +kernel
theorem dX12_clause_137 : decode cX12_clause 137 = .ok (.ireturn, 1) := by decide +kernel
theorem dX12_readText_0 : decode cX12_readText 0 = .ok (.aload_n 0, 1) := by decide +kernel
theorem dX12_readText_1 : decode cX12_readText 1 = .ok (.sipush 681, 3) := by decide +kernel
theorem dX12_readText_4 : decode cX12_readText 4 = .ok (.aload_n 0, 1) := by decide +kernel
theorem dX12_readText_5 : decode cX12_readText 5 = .ok (.getfield 7, 3) := by decide +kernel
theorem dX12_readText_8 : decode cX12_readText 8 = .ok (.iconst 2, 1) := by decide +kernel
theorem dX12_readText_9 : decode cX12_readText 9 = .ok (.iaload, 1) := by decide +kernel
theorem dX12_readText_10 : decode cX12_readText 10 = .ok (.imul, 1) := by decide +kernel
theorem dX12_readText_11 : decode cX12_readText 11 = .ok (.putfield 139, 3) := by decide +kernel
theorem dX12_readText_14 : decode cX12_readText 14 = .ok (.aload_n 0, 1) := by decide +kernel
theorem dX12_readText_15 : decode cX12_readText 15 = .ok (.getfield 16, 3) := by decide +kernel
theorem dX12_readText_18 : decode cX12_readText 18 = .ok (.aload_n 0, 1) := by decide +kernel
theorem dX12_readText_19 : decode cX12_readText 19 = .ok (.getfield 139, 3) := by decide +kernel
theorem dX12_readText_22 : decode cX12_readText 22 = .ok (.iconst 0, 1) := by decide +kernel
theorem dX12_readText_23 : decode cX12_readText 23 = .ok (.iastore, 1) := by decide +kernel
theorem dX12_readText_24 : decode cX12_readText 24 = .ok (.aload_n 0, 1) := by decide +kernel
