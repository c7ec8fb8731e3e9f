theorem dX9_init_0 : decode cX9_init 0 = .ok (.aload_n 0, 1) := by decide +kernel
theorem dX9_init_1 : decode cX9_init 1 = .ok (.invokespecial 1, 3) := by decide +kernel
theorem dX9_init_4 : decode cX9_init 4 = .ok (.aload_n 0, 1) := by decide +kernel
theorem dX9_init_5 : decode cX9_init 5 = .ok (.sipush 2778, 3) := by decide +kernel
theorem dX9_init_8 : decode cX9_init 8 = .ok (.newarray .int, 2) := by decide +kernel
theorem dX9_init_10 : decode cX9_init 10 = .ok (.putfield 7, 3) := by decide +kernel
theorem dX9_init_13 : decode cX9_init 13 = .ok (.aload_n 0, 1) := by decide +kernel
theorem dX9_init_14 : decode cX9_init 14 = .ok (.sipush 11112, 3) := by decide +kernel
theorem dX9_init_17 : decode cX9_init 17 = .ok (.newarray .int, 2) := by decide +kernel
theorem dX9_init_19 : decode cX9_init 19 = .ok (.putfield 13, 3) := by decide +kernel
theorem dX9_init_22 : decode cX9_init 22 = .ok (.aload_n 0, 1) := by decide +kernel
theorem dX9_init_23 : decode cX9_init 23 = .ok (.bipush 30, 2) := by decide +kernel
theorem dX9_init_25 : decode cX9_init 25 = .ok (.newarray .int, 2) := by decide +kernel
theorem dX9_init_27 : decode cX9_init 27 = .ok (.putfield 16, 3) := by decide +kernel
theorem dX9_init_30 : decode cX9_init 30 = .ok (.aload_n 0, 1) := by decide +kernel
theorem dX9_init_31 : decode cX9_init 31 = .ok (.bipush 72, 2) := by decide +kernel
theorem dX9_init_33 : decode cX9_init 33 = .ok (.newarray .int, 2) := by decide +kernel
theorem dX9_init_35 : decode cX9_init 35 = .ok (.putfield 19, 3) := by decide +kernel
theorem dX9_init_38 : decode cX9_init 38 = .ok (.aload_n 0, 1) := by decide +kernel
theorem dX9_init_39 : decode cX9_init 39 = .ok (.bipush 72, 2) := by decide +kernel
theorem dX9_init_41 : decode cX9_init 41 = .ok (.newarray .int, 2) := by decide +kernel
theorem dX9_init_43 : decode cX9_init 43 = .ok (.putfield 22, 3) := by decide +kernel
theorem dX9_init_46 : decode cX9_init 46 = .ok (.aload_n 0, 1) := by decide +kernel
theorem dX9_init_47 : decode cX9_init 47 = .ok (.bipush 72, 2) := by decide +kernel
theorem dX9_init_49 : decode cX9_init 49 = .ok (.newarray .boolean, 2) := by decide +kernel
theorem dX9_init_51 : decode cX9_init 51 = .ok (.putfield 25, 3) := by decide +kernel
theorem dX9_init_54 : decode cX9_init 54 = .ok (.aload_n 0, 1) := by decide +kernel
theorem dX9_init_55 : decode cX9_init 55 = .ok (.bipush 72, 2) := by decide +kernel
theorem dX9_init_57 : decode cX9_init 57 = .ok (.newarray .int, 2) := by decide +kernel
theorem dX9_init_59 : decode cX9_init 59 = .ok (.putfield 29, 3) := by decide +kernel
theorem dX9_init_62 : decode cX9_init 62 = .ok (.aload_n 0, 1) := by decide +kernel
theorem dX9_init_63 : decode cX9_init 63 = .ok (.bipush 72, 2) := by decide +kernel
theorem dX9_init_65 : decode cX9_init 65 = .ok (.newarray .int, 2) := by decide +kernel
theorem dX9_init_67 : decode cX9_init 67 = .ok (.putfield 32, 3) := by decide +kernel
theorem dX9_init_70 : decode cX9_init 70 = .ok (.aload_n 0, 1) := by decide +kernel
theorem dX9_init_71 : decode cX9_init 71 = .ok (.sipush 5184, 3) := by decide +kernel
theorem dX9_init_74 : decode cX9_init 74 = .ok (.newarray .int, 2) := by decide +kernel
theorem dX9_init_76 : decode cX9_init 76 = .ok (.putfield 35, 3) := by decide +kernel
theorem dX9_init_79 : decode cX9_init 79 = .ok (.aload_n 0, 1) := by decide +kernel
theorem dX9_init_80 : decode cX9_init 80 = .ok (.bipush 72, 2) := by decide +kernel
theorem dX9_init_82 : decode cX9_init 82 = .ok (.newarray .int, 2) := by decide +kernel
theorem dX9_init_84 : decode cX9_init 84 = .ok (.putfield 38, 3) := by decide +kernel
theorem dX9_init_87 : decode cX9_init 87 = .ok (.aload_n 0, 1) := by decide +kernel
theorem dX9_init_88 : decode cX9_init 88 = .ok (.bipush 72, 2) := by decide +kernel
theorem dX9_init_90 : decode cX9_init 90 = .ok (.newarray .int, 2) := by decide +kernel
theorem dX9_init_92 : decode cX9_init 92 = .ok (.putfield 41, 3) := by decide +kernel
theorem dX9_init_95 : decode cX9_init 95 = .ok (.aload_n 0, 1) := by decide +kernel
theorem dX9_init_96 : decode cX9_init 96 = .ok (.bipush 72, 2) := by decide +kernel
theorem dX9_init_98 : decode cX9_init 98 = .ok (.newarray .boolean, 2) := by decide +kernel
theorem dX9_init_100 : decode cX9_init 100 = .ok (.putfield 44, 3) := by decide +kernel
theorem dX9_init_103 : decode cX9_init 103 = .ok (.aload_n 0, 1) := by decide +kernel
theorem dX9_init_104 : decode cX9_init 104 = .ok (.bipush 72, 2) := by decide +kernel
theorem dX9_init_106 : decode cX9_init 106 = .ok (.newarray .boolean, 2) := by decide +kernel
theorem dX9_init_108 : decode cX9_init 108 = .ok (.putfield 47, 3) := by decide +kernel
theorem dX9_init_111 : decode cX9_init 111 = .ok (.aload_n 0, 1) := by decide +kernel
theorem dX9_init_112 : decode cX9_init 112 = .ok (.bipush 72, 2) := by decide +kernel
theorem dX9_init_114 : decode cX9_init 114 = .ok (.newarray .int, 2) := by decide +kernel
theorem dX9_init_116 : decode cX9_init 116 = .ok (.putfield 50, 3) := by decide +kernel
theorem dX9_init_119 : decode cX9_init 119 = .ok (.aload_n 0, 1) := by decide +kernel
theorem dX9_init_120 : decode cX9_init 120 = .ok (.sipush 5184, 3) := by decide +kernel
theorem dX9_init_123 : decode cX9_init 123 = .ok (.newarray .int, 2) := by decide +kernel
theorem dX9_init_125 : decode cX9_init 125 = .ok (.putfield 53, 3) := by decide +kernel
theorem dX9_init_128 : decode cX9_init 128 = .ok (.aload_n 0, 1) := by decide +kernel
theorem dX9_init_129 : decode cX9_init 129 = .ok (.bipush 72, 2) := by decide +kernel
theorem dX9_init_131 : decode cX9_init 131 = .ok (.newarray .boolean, 2) := by decide +kernel
theorem dX9_init_133 : decode cX9_init 133 = .ok (.putfield 56, 3) := by decide +kernel
theorem dX9_init_136 : decode cX9_init 136 = .ok (.aload_n 0, 1) := by decide +kernel
theorem dX9_init_137 : decode cX9_init 137 = .ok (.bipush 72, 2) := by decide +kernel
theorem dX9_init_139 : decode cX9_init 139 = .ok (.newarray .boolean, 2) := by decide +kernel
theorem dX9_init_141 : decode cX9_init 141 = .ok (.putfield 59, 3) := by decide +kernel
theorem dX9_init_144 : decode cX9_init 144 = .ok (.aload_n 0, 1) := by decide +kernel
theorem dX9_init_145 : decode cX9_init 145 = .ok (.iconst 1, 1) := by decide +kernel
theorem dX9_init_146 : decode cX9_init 146 = .ok (.putfield 62, 3) := by decide +kernel
theorem dX9_init_149 : decode cX9_init 149 = .ok (.aload_n 0, 1) := by decide +kernel
theorem dX9_init_150 : decode cX9_init 150 = .ok (.bipush 40, 2) := by decide +kernel
theorem dX9_init_152 : decode cX9_init 152 = .ok (.newarray .int, 2) := by decide +kernel
theorem dX9_init_154 : decode cX9_init 154 = .ok (.putfield 66, 3) := by decide +kernel
theorem dX9_init_157 : decode cX9_init 157 = .ok (.aload_n 0, 1) := by decide +kernel
theorem dX9_init_158 : decode cX9_init 158 = .ok (.bipush 40, 2) := by decide +kernel
theorem dX9_init_160 : decode cX9_init 160 = .ok (.newarray .int, 2) := by decide +kernel
theorem dX9_init_162 : decode cX9_init 162 = .ok (.putfield 69, 3) := by decide +kernel
theorem dX9_init_165 : decode cX9_init 165 = .ok (.aload_n 0, 1) := by decide +kernel
theorem dX9_init_166 : decode cX9_init 166 = .ok (.bipush 40, 2) := by decide +kernel
theorem dX9_init_168 : decode cX9_init 168 = .ok (.newarray .boolean, 2) := by decide +kernel
theorem dX9_init_170 : decode cX9_init 170 = .ok (.putfield 72, 3) := by decide +kernel
theorem dX9_init_173 : decode cX9_init 173 = .ok (.aload_n 0, 1) := by decide +kernel
theorem dX9_init_174 : decode cX9_init 174 = .ok (.bipush 40, 2) := by decide +kernel
theorem dX9_init_176 : decode cX9_init 176 = .ok (.newarray .boolean, 2) := by decide +kernel
theorem dX9_init_178 : decode cX9_init 178 = .ok (.putfield 75, 3) := by decide +kernel
theorem dX9_init_181 : decode cX9_init 181 = .ok (.aload_n 0, 1) := by decide +kernel
theorem dX9_init_182 : decode cX9_init 182 = .ok (.bipush 40, 2) := by decide +kernel
theorem dX9_init_184 : decode cX9_init 184 = .ok (.newarray .long, 2) := by decide +kernel
theorem dX9_init_186 : decode cX9_init 186 = .ok (.putfield 78, 3) := by decide +kernel
theorem dX9_init_189 : decode cX9_init 189 = .ok (.aload_n 0, 1) := by decide +kernel
theorem dX9_init_190 : decode cX9_init 190 = .ok (.bipush 40, 2) := by decide +kernel
theorem dX9_init_192 : decode cX9_init 192 = .ok (.newarray .long, 2) := by decide +kernel
theorem dX9_init_194 : decode cX9_init 194 = .ok (.putfield 82, 3) := by decide +kernel
theorem dX9_init_197 : decode cX9_init 197 = .ok (.aload_n 0, 1) := by decide +kernel
theorem dX9_init_198 : decode cX9_init 198 = .ok (.bipush 40, 2) := by decide +kernel
theorem dX9_init_200 : decode cX9_init 200 = .ok (.newarray .int, 2) := by decide +kernel
theorem dX9_init_202 : decode cX9_init 202 = .ok (.putfield 85, 3) := by decide +kernel
theorem dX9_init_205 : decode cX9_init 205 = .ok (.aload_n 0, 1) := by decide +kernel
theorem dX9_init_206 : decode cX9_init 206 = .ok (.bipush 40, 2) := by decide +kernel
theorem dX9_init_208 : decode cX9_init 208 = .ok (.newarray .long, 2) := by decide +kernel
theorem dX9_init_210 : decode cX9_init 210 = .ok (.putfield 88, 3) := by decide +kernel
theorem dX9_init_213 : decode cX9_init 213 = .ok (.aload_n 0, 1) := by decide +kernel
theorem dX9_init_214 : decode cX9_init 214 = .ok (.bipush 40, 2) := by decide +kernel
theorem dX9_init_216 : decode cX9_init 216 = .ok (.newarray .boolean, 2) := by decide +kernel
theorem dX9_init_218 : decode cX9_init 218 = .ok (.putfield 91, 3) := by decide +kernel
theorem dX9_init_221 : decode cX9_init 221 = .ok (.aload_n 0, 1) := by decide +kernel
theorem dX9_init_222 : decode cX9_init 222 = .ok (.bipush 40, 2) := by decide +kernel
theorem dX9_init_224 : decode cX9_init 224 = .ok (.newarray .long, 2) := by decide +kernel
theorem dX9_init_226 : decode cX9_init 226 = .ok (.putfield 94, 3) := by decide +kernel
theorem dX9_init_229 : decode cX9_init 229 = .ok (.aload_n 0, 1) := by decide +kernel
theorem dX9_init_230 : decode cX9_init 230 = .ok (.iconst (-1), 1) := by decide +kernel
theorem dX9_init_231 : decode cX9_init 231 = .ok (.putfield 97, 3) := by decide +kernel
theorem dX9_init_234 : decode cX9_init 234 = .ok (.aload_n 0, 1) := by decide +kernel
theorem dX9_init_235 : decode cX9_init 235 = .ok (.bipush 72, 2) := by decide +kernel
theorem dX9_init_237 : decode cX9_init 237 = .ok (.newarray .boolean, 2) := by decide +kernel
theorem dX9_init_239 : decode cX9_init 239 = .ok (.putfield 101, 3) := by decide +kernel
theorem dX9_init_242 : decode cX9_init 242 = .ok (.return_, 1) := by decide +kernel
theorem dX9_in_0 : decode cX9_in 0 = .ok (.iload_n 0, 1) := by decide +kernel
theorem dX9_in_1 : decode cX9_in 1 = .ok (.iload_n 1, 1) := by decide +kernel
theorem dX9_in_2 : decode cX9_in 2 = .ok (.if_icmp .lt 12, 3) := by decide +kernel
theorem dX9_in_5 : decode cX9_in 5 = .ok (.iload_n 0, 1) := by decide +kernel
theorem dX9_in_6 : decode cX9_in 6 = .ok (.iload_n 2, 1) := by decide +kernel
theorem dX9_in_7 : decode cX9_in 7 = .ok (.if_icmp .gt 7, 3) := by decide +kernel
theorem dX9_in_10 : decode cX9_in 10 = .ok (.iconst 1, 1) := by decide +kernel
theorem dX9_in_11 : decode cX9_in 11 = .ok (.goto 4, 3) := by decide +kernel
theorem dX9_in_14 : decode cX9_in 14 = .ok (.iconst 0, 1) := by decide +kernel
theorem dX9_in_15 : decode cX9_in 15 = .ok (.ireturn, 1) := by decide +kernel
theorem dX9_isCell_0 : decode cX9_isCell 0 = .ok (.iload_n 0, 1) := by decide +kernel
theorem dX9_isCell_1 : decode cX9_isCell 1 = .ok (.iconst 0, 1) := by decide +kernel
theorem dX9_isCell_2 : decode cX9_isCell 2 = .ok (.bipush 71, 2) := by decide +kernel
theorem dX9_isCell_4 : decode cX9_isCell 4 = .ok (.invokestatic 104, 3) := by decide +kernel
theorem dX9_isCell_7 : decode cX9_isCell 7 = .ok (.ireturn, 1) := by decide +kernel
theorem dX9_isFigure_0 : decode cX9_isFigure 0 = .ok (.iload_n 0, 1) := by decide +kernel
theorem dX9_isFigure_1 : decode cX9_isFigure 1 = .ok (.bipush 48, 2) := by decide +kernel
theorem dX9_isFigure_3 : decode cX9_isFigure 3 = .ok (.bipush 57, 2) := by decide +kernel
theorem dX9_isFigure_5 : decode cX9_isFigure 5 = .ok (.invokestatic 104, 3) := by decide +kernel
theorem dX9_isFigure_8 : decode cX9_isFigure 8 = .ok (.ireturn, 1) := by decide +kernel
theorem dX9_isColumn_0 : decode cX9_isColumn 0 = .ok (.iload_n 0, 1) := by decide +kernel
theorem dX9_isColumn_1 : decode cX9_isColumn 1 = .ok (.bipush 97, 2) := by decide +kernel
theorem dX9_isColumn_3 : decode cX9_isColumn 3 = .ok (.bipush 104, 2) := by decide +kernel
theorem dX9_isColumn_5 : decode cX9_isColumn 5 = .ok (.invokestatic 104, 3) := by decide +kernel
theorem dX9_isColumn_8 : decode cX9_isColumn 8 = .ok (.ireturn, 1) := by decide +kernel
theorem dX9_save_0 : decode cX9_save 0 = .ok (.aload_n 0, 1) := by decide +kernel
theorem dX9_save_1 : decode cX9_save 1 = .ok (.getfield 108, 3) := by decide +kernel
theorem dX9_save_4 : decode cX9_save 4 = .ok (.iconst 4, 1) := by decide +kernel
theorem dX9_save_5 : decode cX9_save 5 = .ok (.if_icmp .ne 44, 3) := by decide +kernel
theorem dX9_save_8 : decode cX9_save 8 = .ok (.iconst 0, 1) := by decide +kernel
theorem dX9_save_9 : decode cX9_save 9 = .ok (.istore_n 1, 1) := by decide +kernel
theorem dX9_save_10 : decode cX9_save 10 = .ok (.iload_n 1, 1) := by decide +kernel
theorem dX9_save_11 : decode cX9_save 11 = .ok (.sipush 8334, 3) := by decide +kernel
theorem dX9_save_14 : decode cX9_save 14 = .ok (.if_icmp .ge 25, 3) := by decide +kernel
theorem dX9_save_17 : decode cX9_save 17 = .ok (.aload_n 0, 1) := by decide +kernel
theorem dX9_save_18 : decode cX9_save 18 = .ok (.getfield 13, 3) := by decide +kernel
theorem dX9_save_21 : decode cX9_save 21 = .ok (.iload_n 1, 1) := by decide +kernel
theorem dX9_save_22 : decode cX9_save 22 = .ok (.aload_n 0, 1) := by decide +kernel
theorem dX9_save_23 : decode cX9_save 23 = .ok (.getfield 13, 3) := by decide +kernel
theorem dX9_save_26 : decode cX9_save 26 = .ok (.iload_n 1, 1) := by decide +kernel
theorem dX9_save_27 : decode cX9_save 27 = .ok (.sipush 2778, 3) := by decide +kernel
theorem dX9_save_30 : decode cX9_save 30 = .ok (.iadd, 1) := by decide +kernel
theorem dX9_save_31 : decode cX9_save 31 = .ok (.iaload, 1) := by decide +kernel
theorem dX9_save_32 : decode cX9_save 32 = .ok (.iastore, 1) := by decide +kernel
theorem dX9_save_33 : decode cX9_save 33 = .ok (.iinc 1 1, 3) := by decide +kernel
theorem dX9_save_36 : decode cX9_save 36 = .ok (.goto (-26), 3) := by decide +kernel
theorem dX9_save_39 : decode cX9_save 39 = .ok (.aload_n 0, 1) := by decide +kernel
theorem dX9_save_40 : decode cX9_save 40 = .ok (.dup, 1) := by decide +kernel
theorem dX9_save_41 : decode cX9_save 41 = .ok (.getfield 108, 3) := by decide +kernel
theorem dX9_save_44 : decode cX9_save 44 = .ok (.iconst 1, 1) := by decide +kernel
theorem dX9_save_45 : decode cX9_save 45 = .ok (.isub, 1) := by decide +kernel
theorem dX9_save_46 : decode cX9_save 46 = .ok (.putfield 108, 3) := by decide +kernel
theorem dX9_save_49 : decode cX9_save 49 = .ok (.iconst 0, 1) := by decide +kernel
theorem dX9_save_50 : decode cX9_save 50 = .ok (.istore_n 1, 1) := by decide +kernel
theorem dX9_save_51 : decode cX9_save 51 = .ok (.iload_n 1, 1) := by decide +kernel
theorem dX9_save_52 : decode cX9_save 52 = .ok (.sipush 2778, 3) := by decide +kernel
theorem dX9_save_55 : decode cX9_save 55 = .ok (.if_icmp .ge 30, 3) := by decide +kernel
theorem dX9_save_58 : decode cX9_save 58 = .ok (.aload_n 0, 1) := by decide +kernel
theorem dX9_save_59 : decode cX9_save 59 = .ok (.getfield 13, 3) := by decide +kernel
theorem dX9_save_62 : decode cX9_save 62 = .ok (.sipush 2778, 3) := by decide +kernel
theorem dX9_save_65 : decode cX9_save 65 = .ok (.aload_n 0, 1) := by decide +kernel
theorem dX9_save_66 : decode cX9_save 66 = .ok (.getfield 108, 3) := by decide +kernel
theorem dX9_save_69 : decode cX9_save 69 = .ok (.imul, 1) := by decide +kernel
theorem dX9_save_70 : decode cX9_save 70 = .ok (.iload_n 1, 1) := by decide +kernel
theorem dX9_save_71 : decode cX9_save 71 = .ok (.iadd, 1) := by decide +kernel
theorem dX9_save_72 : decode cX9_save 72 = .ok (.aload_n 0, 1) := by decide +kernel
theorem dX9_save_73 : decode cX9_save 73 = .ok (.getfield 7, 3) := by decide +kernel
theorem dX9_save_76 : decode cX9_save 76 = .ok (.iload_n 1, 1) := by decide +kernel
theorem dX9_save_77 : decode cX9_save 77 = .ok (.iaload, 1) := by decide +kernel
theorem dX9_save_78 : decode cX9_save 78 = .ok (.iastore, 1) := by decide +kernel
theorem dX9_save_79 : decode cX9_save 79 = .ok (.iinc 1 1, 3) := by decide +kernel
theorem dX9_save_82 : decode cX9_save 82 = .ok (.goto (-31), 3) := by decide +kernel
theorem dX9_save_85 : decode cX9_save 85 = .ok (.aload_n 0, 1) := by decide +kernel
theorem dX9_save_86 : decode cX9_save 86 = .ok (.dup, 1) := by decide +kernel
theorem dX9_save_87 : decode cX9_save 87 = .ok (.getfield 108, 3) := by decide +kernel
theorem dX9_save_90 : decode cX9_save 90 = .ok (.iconst 1, 1) := by decide +kernel
theorem dX9_save_91 : decode cX9_save 91 = .ok (.iadd, 1) := by decide +kernel
theorem dX9_save_92 : decode cX9_save 92 = .ok (.putfield 108, 3) := by decide +kernel
theorem dX9_save_95 : decode cX9_save 95 = .ok (.return_, 1) := by decide +kernel
theorem dX9_type_0 : decode cX9_type 0 = .ok (.iload_n 1, 1) := by decide +kernel
theorem dX9_type_1 : decode cX9_type 1 = .ok (.bipush 32, 2) := by decide +kernel
theorem dX9_type_3 : decode cX9_type 3 = .ok (.bipush 126, 2) := by decide +kernel
theorem dX9_type_5 : decode cX9_type 5 = .ok (.invokestatic 104, 3) := by decide +kernel
theorem dX9_type_8 : decode cX9_type 8 = .ok (.ifCond .ne 6, 3) := by decide +kernel
theorem dX9_type_11 : decode cX9_type 11 = .ok (.ldc 111, 2) := by decide +kernel
theorem dX9_type_13 : decode cX9_type 13 = .ok (.ireturn, 1) := by decide +kernel
theorem dX9_type_14 : decode cX9_type 14 = .ok (.aload_n 0, 1) := by decide +kernel
theorem dX9_type_15 : decode cX9_type 15 = .ok (.getfield 112, 3) := by decide +kernel
theorem dX9_type_18 : decode cX9_type 18 = .ok (.bipush 30, 2) := by decide +kernel
theorem dX9_type_20 : decode cX9_type 20 = .ok (.if_icmp .ne 6, 3) := by decide +kernel
theorem dX9_type_23 : decode cX9_type 23 = .ok (.ldc 115, 2) := by decide +kernel
theorem dX9_type_25 : decode cX9_type 25 = .ok (.ireturn, 1) := by decide +kernel
theorem dX9_type_26 : decode cX9_type 26 = .ok (.aload_n 0, 1) := by decide +kernel
theorem dX9_type_27 : decode cX9_type 27 = .ok (.getfield 16, 3) := by decide +kernel
theorem dX9_type_30 : decode cX9_type 30 = .ok (.aload_n 0, 1) := by decide +kernel
theorem dX9_type_31 : decode cX9_type 31 = .ok (.getfield 112, 3) := by decide +kernel
theorem dX9_type_34 : decode cX9_type 34 = .ok (.iload_n 1, 1) := by decide +kernel
theorem dX9_type_35 : decode cX9_type 35 = .ok (.iastore, 1) := by decide +kernel
theorem dX9_type_36 : decode cX9_type 36 = .ok (.aload_n 0, 1) := by decide +kernel
theorem dX9_type_37 : decode cX9_type 37 = .ok (.dup, 1) := by decide +kernel
theorem dX9_type_38 : decode cX9_type 38 = .ok (.getfield 112, 3) := by decide +kernel
theorem dX9_type_41 : decode cX9_type 41 = .ok (.iconst 1, 1) := by decide +kernel
theorem dX9_type_42 : decode cX9_type 42 = .ok (.iadd, 1) := by decide +kernel
theorem dX9_type_43 : decode cX9_type 43 = .ok (.putfield 112, 3) := by decide +kernel
theorem dX9_type_46 : decode cX9_type 46 = .ok (.aload_n 0, 1) := by decide +kernel
theorem dX9_type_47 : decode cX9_type 47 = .ok (.getfield 112, 3) := by decide +kernel
theorem dX9_type_50 : decode cX9_type 50 = .ok (.ireturn, 1) := by decide +kernel
theorem dX9_clearText_0 : decode cX9_clearText 0 = .ok (.aload_n 0, 1) := by decide +kernel
theorem dX9_clearText_1 : decode cX9_clearText 1 = .ok (.getfield 112, 3) := by decide +kernel
theorem dX9_clearText_4 : decode cX9_clearText 4 = .ok (.istore_n 1, 1) := by decide +kernel
theorem dX9_clearText_5 : decode cX9_clearText 5 = .ok (.aload_n 0, 1) := by decide +kernel
theorem dX9_clearText_6 : decode cX9_clearText 6 = .ok (.iconst 0, 1) := by decide +kernel
theorem dX9_clearText_7 : decode cX9_clearText 7 = .ok (.putfield 112, 3) := by decide +kernel
theorem dX9_clearText_10 : decode cX9_clearText 10 = .ok (.iload_n 1, 1) := by decide +kernel
theorem dX9_clearText_11 : decode cX9_clearText 11 = .ok (.ireturn, 1) := by decide +kernel
theorem dX9_here_0 : decode cX9_here 0 = .ok (.aload_n 0, 1) := by decide +kernel
theorem dX9_here_1 : decode cX9_here 1 = .ok (.getfield 116, 3) := by decide +kernel
theorem dX9_here_4 : decode cX9_here 4 = .ok (.aload_n 0, 1) := by decide +kernel
theorem dX9_here_5 : decode cX9_here 5 = .ok (.getfield 112, 3) := by decide +kernel
theorem dX9_here_8 : decode cX9_here 8 = .ok (.if_icmp .ge 15, 3) := by decide +kernel
theorem dX9_here_11 : decode cX9_here 11 = .ok (.aload_n 0, 1) := by decide +kernel
theorem dX9_here_12 : decode cX9_here 12 = .ok (.getfield 16, 3) := by decide +kernel
theorem dX9_here_15 : decode cX9_here 15 = .ok (.aload_n 0, 1) := by decide +kernel
theorem dX9_here_16 : decode cX9_here 16 = .ok (.getfield 116, 3) := by decide +kernel
theorem dX9_here_19 : decode cX9_here 19 = .ok (.iaload, 1) := by decide +kernel
theorem dX9_here_20 : decode cX9_here 20 = .ok (.goto 4, 3) := by decide +kernel
theorem dX9_here_23 : decode cX9_here 23 = .ok (.iconst (-1), 1) := by decide +kernel
theorem dX9_here_24 : decode cX9_here 24 = .ok (.ireturn, 1) := by decide +kernel
theorem dX9_opens_0 : decode cX9_opens 0 = .ok (.aload_n 0, 1) := by decide +kernel
theorem dX9_opens_1 : decode cX9_opens 1 = .ok (.dup, 1) := by decide +kernel
theorem dX9_opens_2 : decode cX9_opens 2 = .ok (.getfield 119, 3) := by decide +kernel
theorem dX9_opens_5 : decode cX9_opens 5 = .ok (.iconst 1, 1) := by decide +kernel
theorem dX9_opens_6 : decode cX9_opens 6 = .ok (.iadd, 1) := by decide +kernel
theorem dX9_opens_7 : decode cX9_opens 7 = .ok (.putfield 119, 3) := by decide +kernel
theorem dX9_opens_10 : decode cX9_opens 10 = .ok (.aload_n 0, 1) := by decide +kernel
theorem dX9_opens_11 : decode cX9_opens 11 = .ok (.getfield 66, 3) := by decide +kernel
theorem dX9_opens_14 : decode cX9_opens 14 = .ok (.aload_n 0, 1) := by decide +kernel
theorem dX9_opens_15 : decode cX9_opens 15 = .ok (.getfield 119, 3) := by decide +kernel
theorem dX9_opens_18 : decode cX9_opens 18 = .ok (.iload_n 1, 1) := by decide +kernel
theorem dX9_opens_19 : decode cX9_opens 19 = .ok (.iastore, 1) := by decide +kernel
theorem dX9_opens_20 : decode cX9_opens 20 = .ok (.aload_n 0, 1) := by decide +kernel
theorem dX9_opens_21 : decode cX9_opens 21 = .ok (.getfield 69, 3) := by decide +kernel
theorem dX9_opens_24 : decode cX9_opens 24 = .ok (.aload_n 0, 1) := by decide +kernel
theorem dX9_opens_25 : decode cX9_opens 25 = .ok (.getfield 119, 3) := by decide +kernel
theorem dX9_opens_28 : decode cX9_opens 28 = .ok (.iconst 0, 1) := by decide +kernel
theorem dX9_opens_29 : decode cX9_opens 29 = .ok (.iastore, 1) := by decide +kernel
theorem dX9_opens_30 : decode cX9_opens 30 = .ok (.return_, 1) := by decide +kernel
theorem dX9_hasParts_0 : decode cX9_hasParts 0 = .ok (.iload_n 0, 1) := by decide +kernel
theorem dX9_hasParts_1 : decode cX9_hasParts 1 = .ok (.bipush 7, 2) := by decide +kernel
theorem dX9_hasParts_3 : decode cX9_hasParts 3 = .ok (.bipush 10, 2) := by decide +kernel
theorem dX9_hasParts_5 : decode cX9_hasParts 5 = .ok (.invokestatic 104, 3) := by decide +kernel
theorem dX9_hasParts_8 : decode cX9_hasParts 8 = .ok (.ireturn, 1) := by decide +kernel
theorem dX9_readCell_0 : decode cX9_readCell 0 = .ok (.aload_n 0, 1) := by decide +kernel
theorem dX9_readCell_1 : decode cX9_readCell 1 = .ok (.invokevirtual 122, 3) := by decide +kernel
theorem dX9_readCell_4 : decode cX9_readCell 4 = .ok (.iload_n 1, 1) := by decide +kernel
theorem dX9_readCell_5 : decode cX9_readCell 5 = .ok (.bipush 104, 2) := by decide +kernel
theorem dX9_readCell_7 : decode cX9_readCell 7 = .ok (.invokestatic 104, 3) := by decide +kernel
theorem dX9_readCell_10 : decode cX9_readCell 10 = .ok (.ifCond .ne 5, 3) := by decide +kernel
theorem dX9_readCell_13 : decode cX9_readCell 13 = .ok (.iconst 0, 1) := by decide +kernel
theorem dX9_readCell_14 : decode cX9_readCell 14 = .ok (.ireturn, 1) := by decide +kernel
theorem dX9_readCell_15 : decode cX9_readCell 15 = .ok (.aload_n 0, 1) := by decide +kernel
theorem dX9_readCell_16 : decode cX9_readCell 16 = .ok (.dup, 1) := by decide +kernel
theorem dX9_readCell_17 : decode cX9_readCell 17 = .ok (.getfield 116, 3) := by decide +kernel
theorem dX9_readCell_20 : decode cX9_readCell 20 = .ok (.iconst 1, 1) := by decide +kernel
theorem dX9_readCell_21 : decode cX9_readCell 21 = .ok (.iadd, 1) := by decide +kernel
theorem dX9_readCell_22 : decode cX9_readCell 22 = .ok (.putfield 116, 3) := by decide +kernel
theorem dX9_readCell_25 : decode cX9_readCell 25 = .ok (.aload_n 0, 1) := by decide +kernel
theorem dX9_readCell_26 : decode cX9_readCell 26 = .ok (.invokevirtual 122, 3) := by decide +kernel
theorem dX9_readCell_29 : decode cX9_readCell 29 = .ok (.iload_n 2, 1) := by decide +kernel
theorem dX9_readCell_30 : decode cX9_readCell 30 = .ok (.bipush 57, 2) := by decide +kernel
theorem dX9_readCell_32 : decode cX9_readCell 32 = .ok (.invokestatic 104, 3) := by decide +kernel
theorem dX9_readCell_35 : decode cX9_readCell 35 = .ok (.ifCond .ne 5, 3) := by decide +kernel
theorem dX9_readCell_38 : decode cX9_readCell 38 = .ok (.iconst 0, 1) := by decide +kernel
theorem dX9_readCell_39 : decode cX9_readCell 39 = .ok (.ireturn, 1) := by decide +kernel
theorem dX9_readCell_40 : decode cX9_readCell 40 = .ok (.aload_n 0, 1) := by decide +kernel
theorem dX9_readCell_41 : decode cX9_readCell 41 = .ok (.dup, 1) := by decide +kernel
theorem dX9_readCell_42 : decode cX9_readCell 42 = .ok (.getfield 116, 3) := by decide +kernel
theorem dX9_readCell_45 : decode cX9_readCell 45 = .ok (.iconst 1, 1) := by decide +kernel
theorem dX9_readCell_46 : decode cX9_readCell 46 = .ok (.iadd, 1) := by decide +kernel
theorem dX9_readCell_47 : decode cX9_readCell 47 = .ok (.putfield 116, 3) := by decide +kernel
theorem dX9_readCell_50 : decode cX9_readCell 50 = .ok (.iconst 1, 1) := by decide +kernel
theorem dX9_readCell_51 : decode cX9_readCell 51 = .ok (.ireturn, 1) := by decide +kernel
theorem dX9_readArea_0 : decode cX9_readArea 0 = .ok (.aload_n 0, 1) := by decide +kernel
theorem dX9_readArea_1 : decode cX9_readArea 1 = .ok (.invokevirtual 122, 3) := by decide +kernel
theorem dX9_readArea_4 : decode cX9_readArea 4 = .ok (.istore_n 1, 1) := by decide +kernel
theorem dX9_readArea_5 : decode cX9_readArea 5 = .ok (.aload_n 0, 1) := by decide +kernel
theorem dX9_readArea_6 : decode cX9_readArea 6 = .ok (.bipush 97, 2) := by decide +kernel
theorem dX9_readArea_8 : decode cX9_readArea 8 = .ok (.bipush 49, 2) := by decide +kernel
theorem dX9_readArea_10 : decode cX9_readArea 10 = .ok (.invokevirtual 126, 3) := by decide +kernel
theorem dX9_readArea_13 : decode cX9_readArea 13 = .ok (.ifCond .ne 5, 3) := by decide +kernel
theorem dX9_readArea_16 : decode cX9_readArea 16 = .ok (.iconst 0, 1) := by decide +kernel
theorem dX9_readArea_17 : decode cX9_readArea 17 = .ok (.ireturn, 1) := by decide +kernel
theorem dX9_readArea_18 : decode cX9_readArea 18 = .ok (.aload_n 0, 1) := by decide +kernel
theorem dX9_readArea_19 : decode cX9_readArea 19 = .ok (.getfield 16, 3) := by decide +kernel
theorem dX9_readArea_22 : decode cX9_readArea 22 = .ok (.aload_n 0, 1) := by decide +kernel
theorem dX9_readArea_23 : decode cX9_readArea 23 = .ok (.getfield 116, 3) := by decide +kernel
theorem dX9_readArea_26 : decode cX9_readArea 26 = .ok (.iconst 1, 1) := by decide +kernel
theorem dX9_readArea_27 : decode cX9_readArea 27 = .ok (.isub, 1) := by decide +kernel
theorem dX9_readArea_28 : decode cX9_readArea 28 = .ok (.iaload, 1) := by decide +kernel
theorem dX9_readArea_29 : decode cX9_readArea 29 = .ok (.istore_n 2, 1) := by decide +kernel
theorem dX9_readArea_30 : decode cX9_readArea 30 = .ok (.aload_n 0, 1) := by decide +kernel
theorem dX9_readArea_31 : decode cX9_readArea 31 = .ok (.aload_n 0, 1) := by decide +kernel
theorem dX9_readArea_32 : decode cX9_readArea 32 = .ok (.invokevirtual 122, 3) := by decide +kernel
theorem dX9_readArea_35 : decode cX9_readArea 35 = .ok (.bipush 58, 2) := by decide +kernel
theorem dX9_readArea_37 : decode cX9_readArea 37 = .ok (.if_icmp .ne 7, 3) := by decide +kernel
theorem dX9_readArea_40 : decode cX9_readArea 40 = .ok (.iconst 1, 1) := by decide +kernel
theorem dX9_readArea_41 : decode cX9_readArea 41 = .ok (.goto 4, 3) := by decide +kernel
theorem dX9_readArea_44 : decode cX9_readArea 44 = .ok (.iconst 0, 1) := by decide +kernel
theorem dX9_readArea_45 : decode cX9_readArea 45 = .ok (.putfield 130, 3) := by decide +kernel
theorem dX9_readArea_48 : decode cX9_readArea 48 = .ok (.aload_n 0, 1) := by decide +kernel
theorem dX9_readArea_49 : decode cX9_readArea 49 = .ok (.dup, 1) := by decide +kernel
theorem dX9_readArea_50 : decode cX9_readArea 50 = .ok (.getfield 116, 3) := by decide +kernel
theorem dX9_readArea_53 : decode cX9_readArea 53 = .ok (.aload_n 0, 1) := by decide +kernel
theorem dX9_readArea_54 : decode cX9_readArea 54 = .ok (.getfield 130, 3) := by decide +kernel
theorem dX9_readArea_57 : decode cX9_readArea 57 = .ok (.ifCond .eq 7, 3) := by decide +kernel
theorem dX9_readArea_60 : decode cX9_readArea 60 = .ok (.iconst 1, 1) := by decide +kernel
theorem dX9_readArea_61 : decode cX9_readArea 61 = .ok (.goto 4, 3) := by decide +kernel
theorem dX9_readArea_64 : decode cX9_readArea 64 = .ok (.iconst 0, 1) := by decide +kernel
theorem dX9_readArea_65 : decode cX9_readArea 65 = .ok (.iadd, 1) := by decide +kernel
theorem dX9_readArea_66 : decode cX9_readArea 66 = .ok (.putfield 116, 3) := by decide +kernel
theorem dX9_readArea_69 : decode cX9_readArea 69 = .ok (.aload_n 0, 1) := by decide +kernel
theorem dX9_readArea_70 : decode cX9_readArea 70 = .ok (.getfield 130, 3) := by decide +kernel
theorem dX9_readArea_73 : decode cX9_readArea 73 = .ok (.ifCond .eq 12, 3) := by decide +kernel
theorem dX9_readArea_76 : decode cX9_readArea 76 = .ok (.aload_n 0, 1) := by decide +kernel
theorem dX9_readArea_77 : decode cX9_readArea 77 = .ok (.iload_n 1, 1) := by decide +kernel
theorem dX9_readArea_78 : decode cX9_readArea 78 = .ok (.iload_n 2, 1) := by decide +kernel
theorem dX9_readArea_79 : decode cX9_readArea 79 = .ok (.invokevirtual 126, 3) := by decide +kernel
theorem dX9_readArea_82 : decode cX9_readArea 82 = .ok (.ifCond .eq 7, 3) := by decide +kernel
theorem dX9_readArea_85 : decode cX9_readArea 85 = .ok (.iconst 1, 1) := by decide +kernel
theorem dX9_readArea_86 : decode cX9_readArea 86 = .ok (.goto 4, 3) := by decide +kernel
theorem dX9_readArea_89 : decode cX9_readArea 89 = .ok (.iconst 0, 1) := by decide +kernel
theorem dX9_readArea_90 : decode cX9_readArea 90 = .ok (.ireturn, 1) := by decide +kernel
theorem dX9_nameOf_0 : decode cX9_nameOf 0 = .ok (.iload_n 0, 1) := by decide +kernel
theorem dX9_nameOf_1 : decode cX9_nameOf 1 = .ok (.tableswitch 79 2 9 #[47, 51, 55, 59, 63, 67, 71, 75], 47) := by decide +kernel
theorem dX9_nameOf_48 : decode cX9_nameOf 48 = .ok (.ldc2_w 133, 3) := by decide +kernel
theorem dX9_nameOf_51 : decode cX9_nameOf 51 = .ok (.lreturn, 1) := by decide +kernel
theorem dX9_nameOf_52 : decode cX9_nameOf 52 = .ok (.ldc2_w 135, 3) := by decide +kernel
theorem dX9_nameOf_55 : decode cX9_nameOf 55 = .ok (.lreturn, 1) := by decide +kernel
theorem dX9_nameOf_56 : decode cX9_nameOf 56 = .ok (.ldc2_w 137, 3) := by decide +kernel
theorem dX9_nameOf_59 : decode cX9_nameOf 59 = .ok (.lreturn, 1) := by decide +kernel
theorem dX9_nameOf_60 : decode cX9_nameOf 60 = .ok (.ldc2_w 139, 3) := by decide +kernel
theorem dX9_nameOf_63 : decode cX9_nameOf 63 = .ok (.lreturn, 1) := by decide +kernel
theorem dX9_nameOf_64 : decode cX9_nameOf 64 = .ok (.ldc2_w 141, 3) := by decide +kernel
theorem dX9_nameOf_67 : decode cX9_nameOf 67 = .ok (.lreturn, 1) := by decide +kernel
theorem dX9_nameOf_68 : decode cX9_nameOf 68 = .ok (.ldc2_w 143, 3) := by decide +kernel
theorem dX9_nameOf_71 : decode cX9_nameOf 71 = .ok (.lreturn, 1) := by decide +kernel
theorem dX9_nameOf_72 : decode cX9_nameOf 72 = .ok (.ldc2_w 145, 3) := by decide +kernel
theorem dX9_nameOf_75 : decode cX9_nameOf 75 = .ok (.lreturn, 1) := by decide +kernel
theorem dX9_nameOf_76 : decode cX9_nameOf 76 = .ok (.ldc2_w 147, 3) := by decide +kernel
theorem dX9_nameOf_79 : decode cX9_nameOf 79 = .ok (.lreturn, 1) := by decide +kernel
theorem dX9_nameOf_80 : decode cX9_nameOf 80 = .ok (.ldc2_w 149, 3) := by decide +kernel
theorem dX9_nameOf_83 : decode cX9_nameOf 83 = .ok (.lreturn, 1) := by decide +kernel
theorem dX9_sizeOf_0 : decode cX9_sizeOf 0 = .ok (.iload_n 0, 1) := by decide +kernel
theorem dX9_sizeOf_1 : decode cX9_sizeOf 1 = .ok (.iconst 2, 1) := by decide +kernel
theorem dX9_sizeOf_2 : decode cX9_sizeOf 2 = .ok (.if_icmp .eq 9, 3) := by decide +kernel
theorem dX9_sizeOf_5 : decode cX9_sizeOf 5 = .ok (.iload_n 0, 1) := by decide +kernel
theorem dX9_sizeOf_6 : decode cX9_sizeOf 6 = .ok (.bipush 6, 2) := by decide +kernel
theorem dX9_sizeOf_8 : decode cX9_sizeOf 8 = .ok (.if_icmp .ne 7, 3) := by decide +kernel
theorem dX9_sizeOf_11 : decode cX9_sizeOf 11 = .ok (.iconst 3, 1) := by decide +kernel
theorem dX9_sizeOf_12 : decode cX9_sizeOf 12 = .ok (.goto 24, 3) := by decide +kernel
theorem dX9_sizeOf_15 : decode cX9_sizeOf 15 = .ok (.iload_n 0, 1) := by decide +kernel
theorem dX9_sizeOf_16 : decode cX9_sizeOf 16 = .ok (.iconst 3, 1) := by decide +kernel
theorem dX9_sizeOf_17 : decode cX9_sizeOf 17 = .ok (.if_icmp .ne 7, 3) := by decide +kernel
theorem dX9_sizeOf_20 : decode cX9_sizeOf 20 = .ok (.iconst 5, 1) := by decide +kernel
theorem dX9_sizeOf_21 : decode cX9_sizeOf 21 = .ok (.goto 15, 3) := by decide +kernel
theorem dX9_sizeOf_24 : decode cX9_sizeOf 24 = .ok (.iload_n 0, 1) := by decide +kernel
theorem dX9_sizeOf_25 : decode cX9_sizeOf 25 = .ok (.bipush 10, 2) := by decide +kernel
theorem dX9_sizeOf_27 : decode cX9_sizeOf 27 = .ok (.if_icmp .ne 8, 3) := by decide +kernel
theorem dX9_sizeOf_30 : decode cX9_sizeOf 30 = .ok (.bipush 6, 2) := by decide +kernel
theorem dX9_sizeOf_32 : decode cX9_sizeOf 32 = .ok (.goto 4, 3) := by decide +kernel
theorem dX9_sizeOf_35 : decode cX9_sizeOf 35 = .ok (.iconst 4, 1) := by decide +kernel
theorem dX9_sizeOf_36 : decode cX9_sizeOf 36 = .ok (.ireturn, 1) := by decide +kernel
theorem dX9_matches_0 : decode cX9_matches 0 = .ok (.iload_n 1, 1) := by decide +kernel
theorem dX9_matches_1 : decode cX9_matches 1 = .ok (.invokestatic 151, 3) := by decide +kernel
theorem dX9_matches_4 : decode cX9_matches 4 = .ok (.istore_n 2, 1) := by decide +kernel
theorem dX9_matches_5 : decode cX9_matches 5 = .ok (.iconst 0, 1) := by decide +kernel
theorem dX9_matches_6 : decode cX9_matches 6 = .ok (.istore_n 3, 1) := by decide +kernel
theorem dX9_matches_7 : decode cX9_matches 7 = .ok (.iload_n 3, 1) := by decide +kernel
theorem dX9_matches_8 : decode cX9_matches 8 = .ok (.iload_n 2, 1) := by decide +kernel
theorem dX9_matches_9 : decode cX9_matches 9 = .ok (.if_icmp .ge 54, 3) := by decide +kernel
theorem dX9_matches_12 : decode cX9_matches 12 = .ok (.aload_n 0, 1) := by decide +kernel
theorem dX9_matches_13 : decode cX9_matches 13 = .ok (.getfield 116, 3) := by decide +kernel
theorem dX9_matches_16 : decode cX9_matches 16 = .ok (.iload_n 3, 1) := by decide +kernel
theorem dX9_matches_17 : decode cX9_matches 17 = .ok (.iadd, 1) := by decide +kernel
theorem dX9_matches_18 : decode cX9_matches 18 = .ok (.aload_n 0, 1) := by decide +kernel
theorem dX9_matches_19 : decode cX9_matches 19 = .ok (.getfield 112, 3) := by decide +kernel
theorem dX9_matches_22 : decode cX9_matches 22 = .ok (.if_icmp .ge 41, 3) := by decide +kernel
theorem dX9_matches_25 : decode cX9_matches 25 = .ok (.aload_n 0, 1) := by decide +kernel
theorem dX9_matches_26 : decode cX9_matches 26 = .ok (.getfield 16, 3) := by decide +kernel
theorem dX9_matches_29 : decode cX9_matches 29 = .ok (.aload_n 0, 1) := by decide +kernel
theorem dX9_matches_30 : decode cX9_matches 30 = .ok (.getfield 116, 3) := by decide +kernel
theorem dX9_matches_33 : decode cX9_matches 33 = .ok (.iload_n 3, 1) := by decide +kernel
theorem dX9_matches_34 : decode cX9_matches 34 = .ok (.iadd, 1) := by decide +kernel
theorem dX9_matches_35 : decode cX9_matches 35 = .ok (.iaload, 1) := by decide +kernel
theorem dX9_matches_36 : decode cX9_matches 36 = .ok (.iload_n 1, 1) := by decide +kernel
theorem dX9_matches_37 : decode cX9_matches 37 = .ok (.invokestatic 155, 3) := by decide +kernel
theorem dX9_matches_40 : decode cX9_matches 40 = .ok (.bipush 8, 2) := by decide +kernel
theorem dX9_matches_42 : decode cX9_matches 42 = .ok (.iload_n 2, 1) := by decide +kernel
theorem dX9_matches_43 : decode cX9_matches 43 = .ok (.iconst 1, 1) := by decide +kernel
theorem dX9_matches_44 : decode cX9_matches 44 = .ok (.isub, 1) := by decide +kernel
theorem dX9_matches_45 : decode cX9_matches 45 = .ok (.iload_n 3, 1) := by decide +kernel
theorem dX9_matches_46 : decode cX9_matches 46 = .ok (.isub, 1) := by decide +kernel
theorem dX9_matches_47 : decode cX9_matches 47 = .ok (.imul, 1) := by decide +kernel
theorem dX9_matches_48 : decode cX9_matches 48 = .ok (.lshr, 1) := by decide +kernel
theorem dX9_matches_49 : decode cX9_matches 49 = .ok (.ldc2_w 159, 3) := by decide +kernel
theorem dX9_matches_52 : decode cX9_matches 52 = .ok (.land, 1) := by decide +kernel
theorem dX9_matches_53 : decode cX9_matches 53 = .ok (.l2i, 1) := by decide +kernel
theorem dX9_matches_54 : decode cX9_matches 54 = .ok (.if_icmp .ne 9, 3) := by decide +kernel
theorem dX9_matches_57 : decode cX9_matches 57 = .ok (.iinc 3 1, 3) := by decide +kernel
theorem dX9_matches_60 : decode cX9_matches 60 = .ok (.goto (-53), 3) := by decide +kernel
theorem dX9_matches_63 : decode cX9_matches 63 = .ok (.iload_n 3, 1) := by decide +kernel
theorem dX9_matches_64 : decode cX9_matches 64 = .ok (.ireturn, 1) := by decide +kernel
theorem dX9_readName_0 : decode cX9_readName 0 = .ok (.aload_n 0, 1) := by decide +kernel
theorem dX9_readName_1 : decode cX9_readName 1 = .ok (.invokevirtual 122, 3) := by decide +kernel
theorem dX9_readName_4 : decode cX9_readName 4 = .ok (.invokestatic 161, 3) := by decide +kernel
theorem dX9_readName_7 : decode cX9_readName 7 = .ok (.ifCond .eq 7, 3) := by decide +kernel
theorem dX9_readName_10 : decode cX9_readName 10 = .ok (.iconst 1, 1) := by decide +kernel
theorem dX9_readName_11 : decode cX9_readName 11 = .ok (.goto 4, 3) := by decide +kernel
theorem dX9_readName_14 : decode cX9_readName 14 = .ok (.iconst 0, 1) := by decide +kernel
theorem dX9_readName_15 : decode cX9_readName 15 = .ok (.istore_n 1, 1) := by decide +kernel
theorem dX9_readName_16 : decode cX9_readName 16 = .ok (.iconst 2, 1) := by decide +kernel
theorem dX9_readName_17 : decode cX9_readName 17 = .ok (.istore_n 2, 1) := by decide +kernel
theorem dX9_readName_18 : decode cX9_readName 18 = .ok (.iload_n 2, 1) := by decide +kernel
theorem dX9_readName_19 : decode cX9_readName 19 = .ok (.bipush 10, 2) := by decide +kernel
theorem dX9_readName_21 : decode cX9_readName 21 = .ok (.if_icmp .gt 59, 3) := by decide +kernel
theorem dX9_readName_24 : decode cX9_readName 24 = .ok (.aload_n 0, 1) := by decide +kernel
theorem dX9_readName_25 : decode cX9_readName 25 = .ok (.iload_n 2, 1) := by decide +kernel
theorem dX9_readName_26 : decode cX9_readName 26 = .ok (.invokevirtual 165, 3) := by decide +kernel
theorem dX9_readName_29 : decode cX9_readName 29 = .ok (.istore_n 3, 1) := by decide +kernel
theorem dX9_readName_30 : decode cX9_readName 30 = .ok (.iload_n 3, 1) := by decide +kernel
theorem dX9_readName_31 : decode cX9_readName 31 = .ok (.iload_n 2, 1) := by decide +kernel
theorem dX9_readName_32 : decode cX9_readName 32 = .ok (.invokestatic 151, 3) := by decide +kernel
theorem dX9_readName_35 : decode cX9_readName 35 = .ok (.if_icmp .ne 28, 3) := by decide +kernel
theorem dX9_readName_38 : decode cX9_readName 38 = .ok (.aload_n 0, 1) := by decide +kernel
theorem dX9_readName_39 : decode cX9_readName 39 = .ok (.dup, 1) := by decide +kernel
theorem dX9_readName_40 : decode cX9_readName 40 = .ok (.getfield 116, 3) := by decide +kernel
theorem dX9_readName_43 : decode cX9_readName 43 = .ok (.iload_n 3, 1) := by decide +kernel
theorem dX9_readName_44 : decode cX9_readName 44 = .ok (.iadd, 1) := by decide +kernel
theorem dX9_readName_45 : decode cX9_readName 45 = .ok (.putfield 116, 3) := by decide +kernel
theorem dX9_readName_48 : decode cX9_readName 48 = .ok (.aload_n 0, 1) := by decide +kernel
theorem dX9_readName_49 : decode cX9_readName 49 = .ok (.iload_n 2, 1) := by decide +kernel
theorem dX9_readName_50 : decode cX9_readName 50 = .ok (.invokevirtual 168, 3) := by decide +kernel
theorem dX9_readName_53 : decode cX9_readName 53 = .ok (.aload_n 0, 1) := by decide +kernel
theorem dX9_readName_54 : decode cX9_readName 54 = .ok (.iload_n 2, 1) := by decide +kernel
theorem dX9_readName_55 : decode cX9_readName 55 = .ok (.invokestatic 172, 3) := by decide +kernel
theorem dX9_readName_58 : decode cX9_readName 58 = .ok (.putfield 175, 3) := by decide +kernel
theorem dX9_readName_61 : decode cX9_readName 61 = .ok (.iconst 1, 1) := by decide +kernel
theorem dX9_readName_62 : decode cX9_readName 62 = .ok (.ireturn, 1) := by decide +kernel
theorem dX9_readName_63 : decode cX9_readName 63 = .ok (.iload_n 3, 1) := by decide +kernel
theorem dX9_readName_64 : decode cX9_readName 64 = .ok (.iload_n 1, 1) := by decide +kernel
theorem dX9_readName_65 : decode cX9_readName 65 = .ok (.if_icmp .le 7, 3) := by decide +kernel
theorem dX9_readName_68 : decode cX9_readName 68 = .ok (.iload_n 3, 1) := by decide +kernel
theorem dX9_readName_69 : decode cX9_readName 69 = .ok (.goto 4, 3) := by decide +kernel
theorem dX9_readName_72 : decode cX9_readName 72 = .ok (.iload_n 1, 1) := by decide +kernel
theorem dX9_readName_73 : decode cX9_readName 73 = .ok (.istore_n 1, 1) := by decide +kernel
theorem dX9_readName_74 : decode cX9_readName 74 = .ok (.iinc 2 1, 3) := by decide +kernel
theorem dX9_readName_77 : decode cX9_readName 77 = .ok (.goto (-59), 3) := by decide +kernel
theorem dX9_readName_80 : decode cX9_readName 80 = .ok (.aload_n 0, 1) := by decide +kernel
theorem dX9_readName_81 : decode cX9_readName 81 = .ok (.dup, 1) := by decide +kernel
theorem dX9_readName_82 : decode cX9_readName 82 = .ok (.getfield 116, 3) := by decide +kernel
theorem dX9_readName_85 : decode cX9_readName 85 = .ok (.iload_n 1, 1) := by decide +kernel
theorem dX9_readName_86 : decode cX9_readName 86 = .ok (.iadd, 1) := by decide +kernel
theorem dX9_readName_87 : decode cX9_readName 87 = .ok (.putfield 116, 3) := by decide +kernel
theorem dX9_readName_90 : decode cX9_readName 90 = .ok (.iconst 0, 1) := by decide +kernel
theorem dX9_readName_91 : decode cX9_readName 91 = .ok (.ireturn, 1) := by decide +kernel
theorem dX9_readFactor_0 : decode cX9_readFactor 0 = .ok (.aload_n 0, 1) := by decide +kernel
theorem dX9_readFactor_1 : decode cX9_readFactor 1 = .ok (.getfield 66, 3) := by decide +kernel
theorem dX9_readFactor_4 : decode cX9_readFactor 4 = .ok (.aload_n 0, 1) := by decide +kernel
theorem dX9_readFactor_5 : decode cX9_readFactor 5 = .ok (.getfield 119, 3) := by decide +kernel
theorem dX9_readFactor_8 : decode cX9_readFactor 8 = .ok (.iaload, 1) := by decide +kernel
theorem dX9_readFactor_9 : decode cX9_readFactor 9 = .ok (.bipush 10, 2) := by decide +kernel
theorem dX9_readFactor_11 : decode cX9_readFactor 11 = .ok (.if_icmp .ne 25, 3) := by decide +kernel
theorem dX9_readFactor_14 : decode cX9_readFactor 14 = .ok (.aload_n 0, 1) := by decide +kernel
theorem dX9_readFactor_15 : decode cX9_readFactor 15 = .ok (.invokevirtual 178, 3) := by decide +kernel
theorem dX9_readFactor_18 : decode cX9_readFactor 18 = .ok (.istore_n 1, 1) := by decide +kernel
theorem dX9_readFactor_19 : decode cX9_readFactor 19 = .ok (.aload_n 0, 1) := by decide +kernel
theorem dX9_readFactor_20 : decode cX9_readFactor 20 = .ok (.iconst 1, 1) := by decide +kernel
theorem dX9_readFactor_21 : decode cX9_readFactor 21 = .ok (.putfield 130, 3) := by decide +kernel
theorem dX9_readFactor_24 : decode cX9_readFactor 24 = .ok (.aload_n 0, 1) := by decide +kernel
theorem dX9_readFactor_25 : decode cX9_readFactor 25 = .ok (.iconst 0, 1) := by decide +kernel
theorem dX9_readFactor_26 : decode cX9_readFactor 26 = .ok (.putfield 175, 3) := by decide +kernel
theorem dX9_readFactor_29 : decode cX9_readFactor 29 = .ok (.aload_n 0, 1) := by decide +kernel
theorem dX9_readFactor_30 : decode cX9_readFactor 30 = .ok (.iconst 0, 1) := by decide +kernel
theorem dX9_readFactor_31 : decode cX9_readFactor 31 = .ok (.putfield 182, 3) := by decide +kernel
theorem dX9_readFactor_34 : decode cX9_readFactor 34 = .ok (.iload_n 1, 1) := by decide +kernel
theorem dX9_readFactor_35 : decode cX9_readFactor 35 = .ok (.ireturn, 1) := by decide +kernel
theorem dX9_readFactor_36 : decode cX9_readFactor 36 = .ok (.aload_n 0, 1) := by decide +kernel
theorem dX9_readFactor_37 : decode cX9_readFactor 37 = .ok (.getfield 175, 3) := by decide +kernel
theorem dX9_readFactor_40 : decode cX9_readFactor 40 = .ok (.istore_n 1, 1) := by decide +kernel
theorem dX9_readFactor_41 : decode cX9_readFactor 41 = .ok (.aload_n 0, 1) := by decide +kernel
theorem dX9_readFactor_42 : decode cX9_readFactor 42 = .ok (.invokevirtual 122, 3) := by decide +kernel
theorem dX9_readFactor_45 : decode cX9_readFactor 45 = .ok (.istore_n 2, 1) := by decide +kernel
theorem dX9_readFactor_46 : decode cX9_readFactor 46 = .ok (.aload_n 0, 1) := by decide +kernel
theorem dX9_readFactor_47 : decode cX9_readFactor 47 = .ok (.iconst 0, 1) := by decide +kernel
theorem dX9_readFactor_48 : decode cX9_readFactor 48 = .ok (.putfield 175, 3) := by decide +kernel
theorem dX9_readFactor_51 : decode cX9_readFactor 51 = .ok (.aload_n 0, 1) := by decide +kernel
theorem dX9_readFactor_52 : decode cX9_readFactor 52 = .ok (.iconst 0, 1) := by decide +kernel
theorem dX9_readFactor_53 : decode cX9_readFactor 53 = .ok (.putfield 130, 3) := by decide +kernel
theorem dX9_readFactor_56 : decode cX9_readFactor 56 = .ok (.iload_n 2, 1) := by decide +kernel
theorem dX9_readFactor_57 : decode cX9_readFactor 57 = .ok (.invokestatic 161, 3) := by decide +kernel
theorem dX9_readFactor_60 : decode cX9_readFactor 60 = .ok (.ifCond .eq 63, 3) := by decide +kernel
theorem dX9_readFactor_63 : decode cX9_readFactor 63 = .ok (.aload_n 0, 1) := by decide +kernel
theorem dX9_readFactor_64 : decode cX9_readFactor 64 = .ok (.getfield 116, 3) := by decide +kernel
theorem dX9_readFactor_67 : decode cX9_readFactor 67 = .ok (.iconst 1, 1) := by decide +kernel
theorem dX9_readFactor_68 : decode cX9_readFactor 68 = .ok (.iadd, 1) := by decide +kernel
theorem dX9_readFactor_69 : decode cX9_readFactor 69 = .ok (.aload_n 0, 1) := by decide +kernel
theorem dX9_readFactor_70 : decode cX9_readFactor 70 = .ok (.getfield 112, 3) := by decide +kernel
theorem dX9_readFactor_73 : decode cX9_readFactor 73 = .ok (.if_icmp .ge 50, 3) := by decide +kernel
theorem dX9_readFactor_76 : decode cX9_readFactor 76 = .ok (.aload_n 0, 1) := by decide +kernel
theorem dX9_readFactor_77 : decode cX9_readFactor 77 = .ok (.getfield 16, 3) := by decide +kernel
theorem dX9_readFactor_80 : decode cX9_readFactor 80 = .ok (.aload_n 0, 1) := by decide +kernel
theorem dX9_readFactor_81 : decode cX9_readFactor 81 = .ok (.getfield 116, 3) := by decide +kernel
theorem dX9_readFactor_84 : decode cX9_readFactor 84 = .ok (.iconst 1, 1) := by decide +kernel
theorem dX9_readFactor_85 : decode cX9_readFactor 85 = .ok (.iadd, 1) := by decide +kernel
theorem dX9_readFactor_86 : decode cX9_readFactor 86 = .ok (.iaload, 1) := by decide +kernel
theorem dX9_readFactor_87 : decode cX9_readFactor 87 = .ok (.bipush 49, 2) := by decide +kernel
theorem dX9_readFactor_89 : decode cX9_readFactor 89 = .ok (.bipush 57, 2) := by decide +kernel
theorem dX9_readFactor_91 : decode cX9_readFactor 91 = .ok (.invokestatic 104, 3) := by decide +kernel
theorem dX9_readFactor_94 : decode cX9_readFactor 94 = .ok (.ifCond .eq 29, 3) := by decide +kernel
theorem dX9_readFactor_97 : decode cX9_readFactor 97 = .ok (.aload_n 0, 1) := by decide +kernel
theorem dX9_readFactor_98 : decode cX9_readFactor 98 = .ok (.iconst 0, 1) := by decide +kernel
theorem dX9_readFactor_99 : decode cX9_readFactor 99 = .ok (.putfield 182, 3) := by decide +kernel
theorem dX9_readFactor_102 : decode cX9_readFactor 102 = .ok (.iload_n 1, 1) := by decide +kernel
theorem dX9_readFactor_103 : decode cX9_readFactor 103 = .ok (.ifCond .eq 8, 3) := by decide +kernel
theorem dX9_readFactor_106 : decode cX9_readFactor 106 = .ok (.aload_n 0, 1) := by decide +kernel
theorem dX9_readFactor_107 : decode cX9_readFactor 107 = .ok (.invokevirtual 178, 3) := by decide +kernel
theorem dX9_readFactor_110 : decode cX9_readFactor 110 = .ok (.ireturn, 1) := by decide +kernel
theorem dX9_readFactor_111 : decode cX9_readFactor 111 = .ok (.aload_n 0, 1) := by decide +kernel
theorem dX9_readFactor_112 : decode cX9_readFactor 112 = .ok (.dup, 1) := by decide +kernel
theorem dX9_readFactor_113 : decode cX9_readFactor 113 = .ok (.getfield 116, 3) := by decide +kernel
theorem dX9_readFactor_116 : decode cX9_readFactor 116 = .ok (.iconst 2, 1) := by decide +kernel
theorem dX9_readFactor_117 : decode cX9_readFactor 117 = .ok (.iadd, 1) := by decide +kernel
theorem dX9_readFactor_118 : decode cX9_readFactor 118 = .ok (.putfield 116, 3) := by decide +kernel
theorem dX9_readFactor_121 : decode cX9_readFactor 121 = .ok (.iconst 1, 1) := by decide +kernel
theorem dX9_readFactor_122 : decode cX9_readFactor 122 = .ok (.ireturn, 1) := by decide +kernel
theorem dX9_readFactor_123 : decode cX9_readFactor 123 = .ok (.iload_n 2, 1) := by decide +kernel
theorem dX9_readFactor_124 : decode cX9_readFactor 124 = .ok (.bipush 45, 2) := by decide +kernel
theorem dX9_readFactor_126 : decode cX9_readFactor 126 = .ok (.if_icmp .ne 15, 3) := by decide +kernel
theorem dX9_readFactor_129 : decode cX9_readFactor 129 = .ok (.aload_n 0, 1) := by decide +kernel
theorem dX9_readFactor_130 : decode cX9_readFactor 130 = .ok (.dup, 1) := by decide +kernel
theorem dX9_readFactor_131 : decode cX9_readFactor 131 = .ok (.getfield 116, 3) := by decide +kernel
theorem dX9_readFactor_134 : decode cX9_readFactor 134 = .ok (.iconst 1, 1) := by decide +kernel
theorem dX9_readFactor_135 : decode cX9_readFactor 135 = .ok (.iadd, 1) := by decide +kernel
theorem dX9_readFactor_136 : decode cX9_readFactor 136 = .ok (.putfield 116, 3) := by decide +kernel
theorem dX9_readFactor_139 : decode cX9_readFactor 139 = .ok (.iconst 1, 1) := by decide +kernel
theorem dX9_readFactor_140 : decode cX9_readFactor 140 = .ok (.ireturn, 1) := by decide +kernel
theorem dX9_readFactor_141 : decode cX9_readFactor 141 = .ok (.iload_n 2, 1) := by decide +kernel
theorem dX9_readFactor_142 : decode cX9_readFactor 142 = .ok (.invokestatic 185, 3) := by decide +kernel
theorem dX9_readFactor_145 : decode cX9_readFactor 145 = .ok (.ifCond .eq 49, 3) := by decide +kernel
theorem dX9_readFactor_148 : decode cX9_readFactor 148 = .ok (.aload_n 0, 1) := by decide +kernel
theorem dX9_readFactor_149 : decode cX9_readFactor 149 = .ok (.getfield 116, 3) := by decide +kernel
theorem dX9_readFactor_152 : decode cX9_readFactor 152 = .ok (.istore_n 3, 1) := by decide +kernel
theorem dX9_readFactor_153 : decode cX9_readFactor 153 = .ok (.aload_n 0, 1) := by decide +kernel
theorem dX9_readFactor_154 : decode cX9_readFactor 154 = .ok (.invokevirtual 122, 3) := by decide +kernel
theorem dX9_readFactor_157 : decode cX9_readFactor 157 = .ok (.invokestatic 185, 3) := by decide +kernel
theorem dX9_readFactor_160 : decode cX9_readFactor 160 = .ok (.ifCond .eq 27, 3) := by decide +kernel
theorem dX9_readFactor_163 : decode cX9_readFactor 163 = .ok (.aload_n 0, 1) := by decide +kernel
theorem dX9_readFactor_164 : decode cX9_readFactor 164 = .ok (.getfield 116, 3) := by decide +kernel
theorem dX9_readFactor_167 : decode cX9_readFactor 167 = .ok (.iload_n 3, 1) := by decide +kernel
theorem dX9_readFactor_168 : decode cX9_readFactor 168 = .ok (.bipush 6, 2) := by decide +kernel
theorem dX9_readFactor_170 : decode cX9_readFactor 170 = .ok (.iadd, 1) := by decide +kernel
theorem dX9_readFactor_171 : decode cX9_readFactor 171 = .ok (.if_icmp .ge 16, 3) := by decide +kernel
theorem dX9_readFactor_174 : decode cX9_readFactor 174 = .ok (.aload_n 0, 1) := by decide +kernel
theorem dX9_readFactor_175 : decode cX9_readFactor 175 = .ok (.dup, 1) := by decide +kernel
theorem dX9_readFactor_176 : decode cX9_readFactor 176 = .ok (.getfield 116, 3) := by decide +kernel
theorem dX9_readFactor_179 : decode cX9_readFactor 179 = .ok (.iconst 1, 1) := by decide +kernel
theorem dX9_readFactor_180 : decode cX9_readFactor 180 = .ok (.iadd, 1) := by decide +kernel
theorem dX9_readFactor_181 : decode cX9_readFactor 181 = .ok (.putfield 116, 3) := by decide +kernel
theorem dX9_readFactor_184 : decode cX9_readFactor 184 = .ok (.goto (-31), 3) := by decide +kernel
theorem dX9_readFactor_187 : decode cX9_readFactor 187 = .ok (.aload_n 0, 1) := by decide +kernel
theorem dX9_readFactor_188 : decode cX9_readFactor 188 = .ok (.iconst 0, 1) := by decide +kernel
theorem dX9_readFactor_189 : decode cX9_readFactor 189 = .ok (.putfield 182, 3) := by decide +kernel
theorem dX9_readFactor_192 : decode cX9_readFactor 192 = .ok (.iconst 1, 1) := by decide +kernel
theorem dX9_readFactor_193 : decode cX9_readFactor 193 = .ok (.ireturn, 1) := by decide +kernel
theorem dX9_readFactor_194 : decode cX9_readFactor 194 = .ok (.iload_n 2, 1) := by decide +kernel
theorem dX9_readFactor_195 : decode cX9_readFactor 195 = .ok (.bipush 40, 2) := by decide +kernel
theorem dX9_readFactor_197 : decode cX9_readFactor 197 = .ok (.if_icmp .ne 20, 3) := by decide +kernel
theorem dX9_readFactor_200 : decode cX9_readFactor 200 = .ok (.aload_n 0, 1) := by decide +kernel
theorem dX9_readFactor_201 : decode cX9_readFactor 201 = .ok (.dup, 1) := by decide +kernel
theorem dX9_readFactor_202 : decode cX9_readFactor 202 = .ok (.getfield 116, 3) := by decide +kernel
theorem dX9_readFactor_205 : decode cX9_readFactor 205 = .ok (.iconst 1, 1) := by decide +kernel
theorem dX9_readFactor_206 : decode cX9_readFactor 206 = .ok (.iadd, 1) := by decide +kernel
theorem dX9_readFactor_207 : decode cX9_readFactor 207 = .ok (.putfield 116, 3) := by decide +kernel
theorem dX9_readFactor_210 : decode cX9_readFactor 210 = .ok (.aload_n 0, 1) := by decide +kernel
theorem dX9_readFactor_211 : decode cX9_readFactor 211 = .ok (.iconst 1, 1) := by decide +kernel
theorem dX9_readFactor_212 : decode cX9_readFactor 212 = .ok (.invokevirtual 168, 3) := by decide +kernel
theorem dX9_readFactor_215 : decode cX9_readFactor 215 = .ok (.iconst 1, 1) := by decide +kernel
theorem dX9_readFactor_216 : decode cX9_readFactor 216 = .ok (.ireturn, 1) := by decide +kernel
theorem dX9_readFactor_217 : decode cX9_readFactor 217 = .ok (.aload_n 0, 1) := by decide +kernel
theorem dX9_readFactor_218 : decode cX9_readFactor 218 = .ok (.invokevirtual 188, 3) := by decide +kernel
theorem dX9_readFactor_221 : decode cX9_readFactor 221 = .ok (.ireturn, 1) := by decide +kernel
theorem dX9_mostParts_0 : decode cX9_mostParts 0 = .ok (.iload_n 0, 1) := by decide +kernel
theorem dX9_mostParts_1 : decode cX9_mostParts 1 = .ok (.iconst 2, 1) := by decide +kernel
theorem dX9_mostParts_2 : decode cX9_mostParts 2 = .ok (.if_icmp .ne 7, 3) := by decide +kernel
theorem dX9_mostParts_5 : decode cX9_mostParts 5 = .ok (.iconst 2, 1) := by decide +kernel
theorem dX9_mostParts_6 : decode cX9_mostParts 6 = .ok (.goto 38, 3) := by decide +kernel
theorem dX9_mostParts_9 : decode cX9_mostParts 9 = .ok (.iload_n 0, 1) := by decide +kernel
theorem dX9_mostParts_10 : decode cX9_mostParts 10 = .ok (.iconst 3, 1) := by decide +kernel
theorem dX9_mostParts_11 : decode cX9_mostParts 11 = .ok (.if_icmp .ne 7, 3) := by decide +kernel
theorem dX9_mostParts_14 : decode cX9_mostParts 14 = .ok (.iconst 4, 1) := by decide +kernel
theorem dX9_mostParts_15 : decode cX9_mostParts 15 = .ok (.goto 29, 3) := by decide +kernel
theorem dX9_mostParts_18 : decode cX9_mostParts 18 = .ok (.iload_n 0, 1) := by decide +kernel
theorem dX9_mostParts_19 : decode cX9_mostParts 19 = .ok (.iconst 4, 1) := by decide +kernel
theorem dX9_mostParts_20 : decode cX9_mostParts 20 = .ok (.bipush 6, 2) := by decide +kernel
theorem dX9_mostParts_22 : decode cX9_mostParts 22 = .ok (.invokestatic 104, 3) := by decide +kernel
theorem dX9_mostParts_25 : decode cX9_mostParts 25 = .ok (.ifCond .eq 7, 3) := by decide +kernel
theorem dX9_mostParts_28 : decode cX9_mostParts 28 = .ok (.iconst 1, 1) := by decide +kernel
theorem dX9_mostParts_29 : decode cX9_mostParts 29 = .ok (.goto 15, 3) := by decide +kernel
theorem dX9_mostParts_32 : decode cX9_mostParts 32 = .ok (.iload_n 0, 1) := by decide +kernel
theorem dX9_mostParts_33 : decode cX9_mostParts 33 = .ok (.invokestatic 172, 3) := by decide +kernel
theorem dX9_mostParts_36 : decode cX9_mostParts 36 = .ok (.ifCond .eq 7, 3) := by decide +kernel
theorem dX9_mostParts_39 : decode cX9_mostParts 39 = .ok (.iconst 3, 1) := by decide +kernel
theorem dX9_mostParts_40 : decode cX9_mostParts 40 = .ok (.goto 4, 3) := by decide +kernel
theorem dX9_mostParts_43 : decode cX9_mostParts 43 = .ok (.iconst 0, 1) := by decide +kernel
theorem dX9_mostParts_44 : decode cX9_mostParts 44 = .ok (.ireturn, 1) := by decide +kernel
theorem dX9_mayClose_0 : decode cX9_mayClose 0 = .ok (.iload_n 0, 1) := by decide +kernel
theorem dX9_mayClose_1 : decode cX9_mayClose 1 = .ok (.iconst 1, 1) := by decide +kernel
theorem dX9_mayClose_2 : decode cX9_mayClose 2 = .ok (.if_icmp .eq 44, 3) := by decide +kernel
theorem dX9_mayClose_5 : decode cX9_mayClose 5 = .ok (.iload_n 0, 1) := by decide +kernel
theorem dX9_mayClose_6 : decode cX9_mayClose 6 = .ok (.invokestatic 172, 3) := by decide +kernel
theorem dX9_mayClose_9 : decode cX9_mayClose 9 = .ok (.ifCond .ne 37, 3) := by decide +kernel
theorem dX9_mayClose_12 : decode cX9_mayClose 12 = .ok (.iload_n 0, 1) := by decide +kernel
theorem dX9_mayClose_13 : decode cX9_mayClose 13 = .ok (.iconst 2, 1) := by decide +kernel
theorem dX9_mayClose_14 : decode cX9_mayClose 14 = .ok (.if_icmp .ne 8, 3) := by decide +kernel
theorem dX9_mayClose_17 : decode cX9_mayClose 17 = .ok (.iload_n 1, 1) := by decide +kernel
theorem dX9_mayClose_18 : decode cX9_mayClose 18 = .ok (.iconst 2, 1) := by decide +kernel
theorem dX9_mayClose_19 : decode cX9_mayClose 19 = .ok (.if_icmp .eq 27, 3) := by decide +kernel
theorem dX9_mayClose_22 : decode cX9_mayClose 22 = .ok (.iload_n 0, 1) := by decide +kernel
theorem dX9_mayClose_23 : decode cX9_mayClose 23 = .ok (.iconst 3, 1) := by decide +kernel
theorem dX9_mayClose_24 : decode cX9_mayClose 24 = .ok (.if_icmp .ne 7, 3) := by decide +kernel
theorem dX9_mayClose_27 : decode cX9_mayClose 27 = .ok (.iload_n 1, 1) := by decide +kernel
theorem dX9_mayClose_28 : decode cX9_mayClose 28 = .ok (.ifCond .gt 18, 3) := by decide +kernel
theorem dX9_mayClose_31 : decode cX9_mayClose 31 = .ok (.iload_n 0, 1) := by decide +kernel
theorem dX9_mayClose_32 : decode cX9_mayClose 32 = .ok (.iconst 4, 1) := by decide +kernel
theorem dX9_mayClose_33 : decode cX9_mayClose 33 = .ok (.bipush 6, 2) := by decide +kernel
theorem dX9_mayClose_35 : decode cX9_mayClose 35 = .ok (.invokestatic 104, 3) := by decide +kernel
theorem dX9_mayClose_38 : decode cX9_mayClose 38 = .ok (.ifCond .eq 12, 3) := by decide +kernel
theorem dX9_mayClose_41 : decode cX9_mayClose 41 = .ok (.iload_n 1, 1) := by decide +kernel
theorem dX9_mayClose_42 : decode cX9_mayClose 42 = .ok (.iconst 1, 1) := by decide +kernel
theorem dX9_mayClose_43 : decode cX9_mayClose 43 = .ok (.if_icmp .ne 7, 3) := by decide +kernel
theorem dX9_mayClose_46 : decode cX9_mayClose 46 = .ok (.iconst 1, 1) := by decide +kernel
theorem dX9_mayClose_47 : decode cX9_mayClose 47 = .ok (.goto 4, 3) := by decide +kernel
theorem dX9_mayClose_50 : decode cX9_mayClose 50 = .ok (.iconst 0, 1) := by decide +kernel
theorem dX9_mayClose_51 : decode cX9_mayClose 51 = .ok (.ireturn, 1) := by decide +kernel
theorem dX9_readBehind_0 : decode cX9_readBehind 0 = .ok (.aload_n 0, 1) := by decide +kernel
theorem dX9_readBehind_1 : decode cX9_readBehind 1 = .ok (.invokevirtual 122, 3) := by decide +kernel
theorem dX9_readBehind_4 : decode cX9_readBehind 4 = .ok (.istore_n 1, 1) := by decide +kernel
theorem dX9_readBehind_5 : decode cX9_readBehind 5 = .ok (.aload_n 0, 1) := by decide +kernel
theorem dX9_readBehind_6 : decode cX9_readBehind 6 = .ok (.getfield 66, 3) := by decide +kernel
theorem dX9_readBehind_9 : decode cX9_readBehind 9 = .ok (.aload_n 0, 1) := by decide +kernel
theorem dX9_readBehind_10 : decode cX9_readBehind 10 = .ok (.getfield 119, 3) := by decide +kernel
theorem dX9_readBehind_13 : decode cX9_readBehind 13 = .ok (.iaload, 1) := by decide +kernel
theorem dX9_readBehind_14 : decode cX9_readBehind 14 = .ok (.istore_n 2, 1) := by decide +kernel
theorem dX9_readBehind_15 : decode cX9_readBehind 15 = .ok (.iload_n 1, 1) := by decide +kernel
theorem dX9_readBehind_16 : decode cX9_readBehind 16 = .ok (.bipush 42, 2) := by decide +kernel
theorem dX9_readBehind_18 : decode cX9_readBehind 18 = .ok (.if_icmp .eq 15, 3) := by decide +kernel
theorem dX9_readBehind_21 : decode cX9_readBehind 21 = .ok (.iload_n 1, 1) := by decide +kernel
theorem dX9_readBehind_22 : decode cX9_readBehind 22 = .ok (.bipush 43, 2) := by decide +kernel
theorem dX9_readBehind_24 : decode cX9_readBehind 24 = .ok (.if_icmp .eq 9, 3) := by decide +kernel
theorem dX9_readBehind_27 : decode cX9_readBehind 27 = .ok (.iload_n 1, 1) := by decide +kernel
theorem dX9_readBehind_28 : decode cX9_readBehind 28 = .ok (.bipush 45, 2) := by decide +kernel
theorem dX9_readBehind_30 : decode cX9_readBehind 30 = .ok (.if_icmp .ne 29, 3) := by decide +kernel
theorem dX9_readBehind_33 : decode cX9_readBehind 33 = .ok (.aload_n 0, 1) := by decide +kernel
theorem dX9_readBehind_34 : decode cX9_readBehind 34 = .ok (.getfield 130, 3) := by decide +kernel
theorem dX9_readBehind_37 : decode cX9_readBehind 37 = .ok (.ifCond .eq 5, 3) := by decide +kernel
theorem dX9_readBehind_40 : decode cX9_readBehind 40 = .ok (.iconst 0, 1) := by decide +kernel
theorem dX9_readBehind_41 : decode cX9_readBehind 41 = .ok (.ireturn, 1) := by decide +kernel
theorem dX9_readBehind_42 : decode cX9_readBehind 42 = .ok (.aload_n 0, 1) := by decide +kernel
theorem dX9_readBehind_43 : decode cX9_readBehind 43 = .ok (.dup, 1) := by decide +kernel
theorem dX9_readBehind_44 : decode cX9_readBehind 44 = .ok (.getfield 116, 3) := by decide +kernel
theorem dX9_readBehind_47 : decode cX9_readBehind 47 = .ok (.iconst 1, 1) := by decide +kernel
theorem dX9_readBehind_48 : decode cX9_readBehind 48 = .ok (.iadd, 1) := by decide +kernel
theorem dX9_readBehind_49 : decode cX9_readBehind 49 = .ok (.putfield 116, 3) := by decide +kernel
theorem dX9_readBehind_52 : decode cX9_readBehind 52 = .ok (.aload_n 0, 1) := by decide +kernel
theorem dX9_readBehind_53 : decode cX9_readBehind 53 = .ok (.iconst 1, 1) := by decide +kernel
theorem dX9_readBehind_54 : decode cX9_readBehind 54 = .ok (.putfield 182, 3) := by decide +kernel
theorem dX9_readBehind_57 : decode cX9_readBehind 57 = .ok (.iconst 1, 1) := by decide +kernel
theorem dX9_readBehind_58 : decode cX9_readBehind 58 = .ok (.ireturn, 1) := by decide +kernel
theorem dX9_readBehind_59 : decode cX9_readBehind 59 = .ok (.iload_n 1, 1) := by decide +kernel
theorem dX9_readBehind_60 : decode cX9_readBehind 60 = .ok (.bipush 44, 2) := by decide +kernel
theorem dX9_readBehind_62 : decode cX9_readBehind 62 = .ok (.if_icmp .ne 62, 3) := by decide +kernel
theorem dX9_readBehind_65 : decode cX9_readBehind 65 = .ok (.aload_n 0, 1) := by decide +kernel
theorem dX9_readBehind_66 : decode cX9_readBehind 66 = .ok (.getfield 69, 3) := by decide +kernel
theorem dX9_readBehind_69 : decode cX9_readBehind 69 = .ok (.aload_n 0, 1) := by decide +kernel
theorem dX9_readBehind_70 : decode cX9_readBehind 70 = .ok (.getfield 119, 3) := by decide +kernel
theorem dX9_readBehind_73 : decode cX9_readBehind 73 = .ok (.iaload, 1) := by decide +kernel
theorem dX9_readBehind_74 : decode cX9_readBehind 74 = .ok (.iload_n 2, 1) := by decide +kernel
theorem dX9_readBehind_75 : decode cX9_readBehind 75 = .ok (.invokestatic 191, 3) := by decide +kernel
theorem dX9_readBehind_78 : decode cX9_readBehind 78 = .ok (.if_icmp .ge 46, 3) := by decide +kernel
theorem dX9_readBehind_81 : decode cX9_readBehind 81 = .ok (.aload_n 0, 1) := by decide +kernel
theorem dX9_readBehind_82 : decode cX9_readBehind 82 = .ok (.dup, 1) := by decide +kernel
theorem dX9_readBehind_83 : decode cX9_readBehind 83 = .ok (.getfield 116, 3) := by decide +kernel
theorem dX9_readBehind_86 : decode cX9_readBehind 86 = .ok (.iconst 1, 1) := by decide +kernel
theorem dX9_readBehind_87 : decode cX9_readBehind 87 = .ok (.iadd, 1) := by decide +kernel
theorem dX9_readBehind_88 : decode cX9_readBehind 88 = .ok (.putfield 116, 3) := by decide +kernel
theorem dX9_readBehind_91 : decode cX9_readBehind 91 = .ok (.aload_n 0, 1) := by decide +kernel
theorem dX9_readBehind_92 : decode cX9_readBehind 92 = .ok (.getfield 69, 3) := by decide +kernel
theorem dX9_readBehind_95 : decode cX9_readBehind 95 = .ok (.aload_n 0, 1) := by decide +kernel
theorem dX9_readBehind_96 : decode cX9_readBehind 96 = .ok (.getfield 119, 3) := by decide +kernel
theorem dX9_readBehind_99 : decode cX9_readBehind 99 = .ok (.dup2, 1) := by decide +kernel
theorem dX9_readBehind_100 : decode cX9_readBehind 100 = .ok (.iaload, 1) := by decide +kernel
theorem dX9_readBehind_101 : decode cX9_readBehind 101 = .ok (.iconst 1, 1) := by decide +kernel
theorem dX9_readBehind_102 : decode cX9_readBehind 102 = .ok (.iadd, 1) := by decide +kernel
theorem dX9_readBehind_103 : decode cX9_readBehind 103 = .ok (.iastore, 1) := by decide +kernel
theorem dX9_readBehind_104 : decode cX9_readBehind 104 = .ok (.aload_n 0, 1) := by decide +kernel
theorem dX9_readBehind_105 : decode cX9_readBehind 105 = .ok (.iconst 1, 1) := by decide +kernel
theorem dX9_readBehind_106 : decode cX9_readBehind 106 = .ok (.putfield 182, 3) := by decide +kernel
theorem dX9_readBehind_109 : decode cX9_readBehind 109 = .ok (.aload_n 0, 1) := by decide +kernel
theorem dX9_readBehind_110 : decode cX9_readBehind 110 = .ok (.iload_n 2, 1) := by decide +kernel
theorem dX9_readBehind_111 : decode cX9_readBehind 111 = .ok (.invokestatic 172, 3) := by decide +kernel
theorem dX9_readBehind_114 : decode cX9_readBehind 114 = .ok (.putfield 175, 3) := by decide +kernel
theorem dX9_readBehind_117 : decode cX9_readBehind 117 = .ok (.aload_n 0, 1) := by decide +kernel
theorem dX9_readBehind_118 : decode cX9_readBehind 118 = .ok (.iconst 0, 1) := by decide +kernel
theorem dX9_readBehind_119 : decode cX9_readBehind 119 = .ok (.putfield 130, 3) := by decide +kernel
theorem dX9_readBehind_122 : decode cX9_readBehind 122 = .ok (.iconst 1, 1) := by decide +kernel
theorem dX9_readBehind_123 : decode cX9_readBehind 123 = .ok (.ireturn, 1) := by decide +kernel
theorem dX9_readBehind_124 : decode cX9_readBehind 124 = .ok (.iload_n 1, 1) := by decide +kernel
theorem dX9_readBehind_125 : decode cX9_readBehind 125 = .ok (.bipush 41, 2) := by decide +kernel
theorem dX9_readBehind_127 : decode cX9_readBehind 127 = .ok (.if_icmp .ne 46, 3) := by decide +kernel
theorem dX9_readBehind_130 : decode cX9_readBehind 130 = .ok (.iload_n 2, 1) := by decide +kernel
theorem dX9_readBehind_131 : decode cX9_readBehind 131 = .ok (.aload_n 0, 1) := by decide +kernel
theorem dX9_readBehind_132 : decode cX9_readBehind 132 = .ok (.getfield 69, 3) := by decide +kernel
theorem dX9_readBehind_135 : decode cX9_readBehind 135 = .ok (.aload_n 0, 1) := by decide +kernel
theorem dX9_readBehind_136 : decode cX9_readBehind 136 = .ok (.getfield 119, 3) := by decide +kernel
theorem dX9_readBehind_139 : decode cX9_readBehind 139 = .ok (.iaload, 1) := by decide +kernel
theorem dX9_readBehind_140 : decode cX9_readBehind 140 = .ok (.invokestatic 194, 3) := by decide +kernel
theorem dX9_readBehind_143 : decode cX9_readBehind 143 = .ok (.ifCond .eq 30, 3) := by decide +kernel
theorem dX9_readBehind_146 : decode cX9_readBehind 146 = .ok (.aload_n 0, 1) := by decide +kernel
theorem dX9_readBehind_147 : decode cX9_readBehind 147 = .ok (.dup, 1) := by decide +kernel
theorem dX9_readBehind_148 : decode cX9_readBehind 148 = .ok (.getfield 116, 3) := by decide +kernel
theorem dX9_readBehind_151 : decode cX9_readBehind 151 = .ok (.iconst 1, 1) := by decide +kernel
theorem dX9_readBehind_152 : decode cX9_readBehind 152 = .ok (.iadd, 1) := by decide +kernel
theorem dX9_readBehind_153 : decode cX9_readBehind 153 = .ok (.putfield 116, 3) := by decide +kernel
theorem dX9_readBehind_156 : decode cX9_readBehind 156 = .ok (.aload_n 0, 1) := by decide +kernel
theorem dX9_readBehind_157 : decode cX9_readBehind 157 = .ok (.dup, 1) := by decide +kernel
theorem dX9_readBehind_158 : decode cX9_readBehind 158 = .ok (.getfield 119, 3) := by decide +kernel
theorem dX9_readBehind_161 : decode cX9_readBehind 161 = .ok (.iconst 1, 1) := by decide +kernel
theorem dX9_readBehind_162 : decode cX9_readBehind 162 = .ok (.isub, 1) := by decide +kernel
theorem dX9_readBehind_163 : decode cX9_readBehind 163 = .ok (.putfield 119, 3) := by decide +kernel
theorem dX9_readBehind_166 : decode cX9_readBehind 166 = .ok (.aload_n 0, 1) := by decide +kernel
theorem dX9_readBehind_167 : decode cX9_readBehind 167 = .ok (.iconst 0, 1) := by decide +kernel
theorem dX9_readBehind_168 : decode cX9_readBehind 168 = .ok (.putfield 130, 3) := by decide +kernel
theorem dX9_readBehind_171 : decode cX9_readBehind 171 = .ok (.iconst 1, 1) := by decide +kernel
theorem dX9_readBehind_172 : decode cX9_readBehind 172 = .ok (.ireturn, 1) := by decide +kernel
theorem dX9_readBehind_173 : decode cX9_readBehind 173 = .ok (.iconst 0, 1) := by decide +kernel
theorem dX9_readBehind_174 : decode cX9_readBehind 174 = .ok (.ireturn, 1) := by decide +kernel
theorem dX9_faultOf_0 : decode cX9_faultOf 0 = .ok (.aload_n 0, 1) := by decide +kernel
theorem dX9_faultOf_1 : decode cX9_faultOf 1 = .ok (.iconst 0, 1) := by decide +kernel
theorem dX9_faultOf_2 : decode cX9_faultOf 2 = .ok (.putfield 116, 3) := by decide +kernel
theorem dX9_faultOf_5 : decode cX9_faultOf 5 = .ok (.aload_n 0, 1) := by decide +kernel
theorem dX9_faultOf_6 : decode cX9_faultOf 6 = .ok (.iconst 0, 1) := by decide +kernel
theorem dX9_faultOf_7 : decode cX9_faultOf 7 = .ok (.putfield 119, 3) := by decide +kernel
theorem dX9_faultOf_10 : decode cX9_faultOf 10 = .ok (.aload_n 0, 1) := by decide +kernel
theorem dX9_faultOf_11 : decode cX9_faultOf 11 = .ok (.getfield 66, 3) := by decide +kernel
theorem dX9_faultOf_14 : decode cX9_faultOf 14 = .ok (.iconst 0, 1) := by decide +kernel
theorem dX9_faultOf_15 : decode cX9_faultOf 15 = .ok (.iconst 0, 1) := by decide +kernel
theorem dX9_faultOf_16 : decode cX9_faultOf 16 = .ok (.iastore, 1) := by decide +kernel
theorem dX9_faultOf_17 : decode cX9_faultOf 17 = .ok (.aload_n 0, 1) := by decide +kernel
theorem dX9_faultOf_18 : decode cX9_faultOf 18 = .ok (.getfield 69, 3) := by decide +kernel
theorem dX9_faultOf_21 : decode cX9_faultOf 21 = .ok (.iconst 0, 1) := by decide +kernel
theorem dX9_faultOf_22 : decode cX9_faultOf 22 = .ok (.iconst 0, 1) := by decide +kernel
theorem dX9_faultOf_23 : decode cX9_faultOf 23 = .ok (.iastore, 1) := by decide +kernel
theorem dX9_faultOf_24 : decode cX9_faultOf 24 = .ok (.aload_n 0, 1) := by decide +kernel
theorem dX9_faultOf_25 : decode cX9_faultOf 25 = .ok (.iconst 1, 1) := by decide +kernel
theorem dX9_faultOf_26 : decode cX9_faultOf 26 = .ok (.putfield 182, 3) := by decide +kernel
theorem dX9_faultOf_29 : decode cX9_faultOf 29 = .ok (.aload_n 0, 1) := by decide +kernel
theorem dX9_faultOf_30 : decode cX9_faultOf 30 = .ok (.iconst 0, 1) := by decide +kernel
theorem dX9_faultOf_31 : decode cX9_faultOf 31 = .ok (.putfield 175, 3) := by decide +kernel
theorem dX9_faultOf_34 : decode cX9_faultOf 34 = .ok (.aload_n 0, 1) := by decide +kernel
theorem dX9_faultOf_35 : decode cX9_faultOf 35 = .ok (.iconst 0, 1) := by decide +kernel
theorem dX9_faultOf_36 : decode cX9_faultOf 36 = .ok (.putfield 130, 3) := by decide +kernel
theorem dX9_faultOf_39 : decode cX9_faultOf 39 = .ok (.aload_n 0, 1) := by decide +kernel
theorem dX9_faultOf_40 : decode cX9_faultOf 40 = .ok (.getfield 112, 3) := by decide +kernel
theorem dX9_faultOf_43 : decode cX9_faultOf 43 = .ok (.ifCond .le 7, 3) := by decide +kernel
theorem dX9_faultOf_46 : decode cX9_faultOf 46 = .ok (.iconst 1, 1) := by decide +kernel
theorem dX9_faultOf_47 : decode cX9_faultOf 47 = .ok (.goto 4, 3) := by decide +kernel
theorem dX9_faultOf_50 : decode cX9_faultOf 50 = .ok (.iconst 0, 1) := by decide +kernel
theorem dX9_faultOf_51 : decode cX9_faultOf 51 = .ok (.istore_n 1, 1) := by decide +kernel
theorem dX9_faultOf_52 : decode cX9_faultOf 52 = .ok (.iload_n 1, 1) := by decide +kernel
theorem dX9_faultOf_53 : decode cX9_faultOf 53 = .ok (.ifCond .eq 45, 3) := by decide +kernel
theorem dX9_faultOf_56 : decode cX9_faultOf 56 = .ok (.aload_n 0, 1) := by decide +kernel
theorem dX9_faultOf_57 : decode cX9_faultOf 57 = .ok (.getfield 182, 3) := by decide +kernel
theorem dX9_faultOf_60 : decode cX9_faultOf 60 = .ok (.ifCond .eq 11, 3) := by decide +kernel
theorem dX9_faultOf_63 : decode cX9_faultOf 63 = .ok (.aload_n 0, 1) := by decide +kernel
theorem dX9_faultOf_64 : decode cX9_faultOf 64 = .ok (.invokevirtual 197, 3) := by decide +kernel
theorem dX9_faultOf_67 : decode cX9_faultOf 67 = .ok (.istore_n 1, 1) := by decide +kernel
theorem dX9_faultOf_68 : decode cX9_faultOf 68 = .ok (.goto (-16), 3) := by decide +kernel
theorem dX9_faultOf_71 : decode cX9_faultOf 71 = .ok (.aload_n 0, 1) := by decide +kernel
theorem dX9_faultOf_72 : decode cX9_faultOf 72 = .ok (.getfield 116, 3) := by decide +kernel
theorem dX9_faultOf_75 : decode cX9_faultOf 75 = .ok (.aload_n 0, 1) := by decide +kernel
theorem dX9_faultOf_76 : decode cX9_faultOf 76 = .ok (.getfield 112, 3) := by decide +kernel
theorem dX9_faultOf_79 : decode cX9_faultOf 79 = .ok (.if_icmp .ge 14, 3) := by decide +kernel
theorem dX9_faultOf_82 : decode cX9_faultOf 82 = .ok (.aload_n 0, 1) := by decide +kernel
theorem dX9_faultOf_83 : decode cX9_faultOf 83 = .ok (.invokevirtual 200, 3) := by decide +kernel
theorem dX9_faultOf_86 : decode cX9_faultOf 86 = .ok (.ifCond .eq 7, 3) := by decide +kernel
theorem dX9_faultOf_89 : decode cX9_faultOf 89 = .ok (.iconst 1, 1) := by decide +kernel
theorem dX9_faultOf_90 : decode cX9_faultOf 90 = .ok (.goto 4, 3) := by decide +kernel
theorem dX9_faultOf_93 : decode cX9_faultOf 93 = .ok (.iconst 0, 1) := by decide +kernel
theorem dX9_faultOf_94 : decode cX9_faultOf 94 = .ok (.istore_n 1, 1) := by decide +kernel
theorem dX9_faultOf_95 : decode cX9_faultOf 95 = .ok (.goto (-43), 3) := by decide +kernel
theorem dX9_faultOf_98 : decode cX9_faultOf 98 = .ok (.aload_n 0, 1) := by decide +kernel
theorem dX9_faultOf_99 : decode cX9_faultOf 99 = .ok (.getfield 112, 3) := by decide +kernel
theorem dX9_faultOf_102 : decode cX9_faultOf 102 = .ok (.ifCond .eq 28, 3) := by decide +kernel
theorem dX9_faultOf_105 : decode cX9_faultOf 105 = .ok (.aload_n 0, 1) := by decide +kernel
theorem dX9_faultOf_106 : decode cX9_faultOf 106 = .ok (.getfield 182, 3) := by decide +kernel
theorem dX9_faultOf_109 : decode cX9_faultOf 109 = .ok (.ifCond .ne 25, 3) := by decide +kernel
theorem dX9_faultOf_112 : decode cX9_faultOf 112 = .ok (.aload_n 0, 1) := by decide +kernel
theorem dX9_faultOf_113 : decode cX9_faultOf 113 = .ok (.getfield 116, 3) := by decide +kernel
theorem dX9_faultOf_116 : decode cX9_faultOf 116 = .ok (.aload_n 0, 1) := by decide +kernel
theorem dX9_faultOf_117 : decode cX9_faultOf 117 = .ok (.getfield 112, 3) := by decide +kernel
theorem dX9_faultOf_120 : decode cX9_faultOf 120 = .ok (.if_icmp .ne 14, 3) := by decide +kernel
theorem dX9_faultOf_123 : decode cX9_faultOf 123 = .ok (.aload_n 0, 1) := by decide +kernel
theorem dX9_faultOf_124 : decode cX9_faultOf 124 = .ok (.getfield 119, 3) := by decide +kernel
theorem dX9_faultOf_127 : decode cX9_faultOf 127 = .ok (.ifCond .ne 7, 3) := by decide +kernel
theorem dX9_faultOf_130 : decode cX9_faultOf 130 = .ok (.iconst (-1), 1) := by decide +kernel
theorem dX9_faultOf_131 : decode cX9_faultOf 131 = .ok (.goto 7, 3) := by decide +kernel
theorem dX9_faultOf_134 : decode cX9_faultOf 134 = .ok (.aload_n 0, 1) := by decide +kernel
theorem dX9_faultOf_135 : decode cX9_faultOf 135 = .ok (.getfield 116, 3) := by decide +kernel
theorem dX9_faultOf_138 : decode cX9_faultOf 138 = .ok (.ireturn, 1) := by decide +kernel
theorem dX9_fault_0 : decode cX9_fault 0 = .ok (.aload_n 0, 1) := by decide +kernel
theorem dX9_fault_1 : decode cX9_fault 1 = .ok (.invokevirtual 203, 3) := by decide +kernel
theorem dX9_fault_4 : decode cX9_fault 4 = .ok (.istore_n 1, 1) := by decide +kernel
theorem dX9_fault_5 : decode cX9_fault 5 = .ok (.iload_n 1, 1) := by decide +kernel
theorem dX9_fault_6 : decode cX9_fault 6 = .ok (.ifCond .ge 8, 3) := by decide +kernel
theorem dX9_fault_9 : decode cX9_fault 9 = .ok (.ldc 206, 2) := by decide +kernel
theorem dX9_fault_11 : decode cX9_fault 11 = .ok (.goto 4, 3) := by decide +kernel
theorem dX9_fault_14 : decode cX9_fault 14 = .ok (.iload_n 1, 1) := by decide +kernel
theorem dX9_fault_15 : decode cX9_fault 15 = .ok (.ireturn, 1) := by decide +kernel
theorem dX9_slotOf_0 : decode cX9_slotOf 0 = .ok (.iconst 0, 1) := by decide +kernel
theorem dX9_slotOf_1 : decode cX9_slotOf 1 = .ok (.istore_n 2, 1) := by decide +kernel
theorem dX9_slotOf_2 : decode cX9_slotOf 2 = .ok (.iload_n 2, 1) := by decide +kernel
theorem dX9_slotOf_3 : decode cX9_slotOf 3 = .ok (.aload_n 0, 1) := by decide +kernel
theorem dX9_slotOf_4 : decode cX9_slotOf 4 = .ok (.getfield 7, 3) := by decide +kernel
theorem dX9_slotOf_7 : decode cX9_slotOf 7 = .ok (.sipush 2521, 3) := by decide +kernel
theorem dX9_slotOf_10 : decode cX9_slotOf 10 = .ok (.iaload, 1) := by decide +kernel
theorem dX9_slotOf_11 : decode cX9_slotOf 11 = .ok (.if_icmp .ge 28, 3) := by decide +kernel
theorem dX9_slotOf_14 : decode cX9_slotOf 14 = .ok (.aload_n 0, 1) := by decide +kernel
theorem dX9_slotOf_15 : decode cX9_slotOf 15 = .ok (.getfield 7, 3) := by decide +kernel
theorem dX9_slotOf_18 : decode cX9_slotOf 18 = .ok (.sipush 2522, 3) := by decide +kernel
theorem dX9_slotOf_21 : decode cX9_slotOf 21 = .ok (.bipush 32, 2) := by decide +kernel
theorem dX9_slotOf_23 : decode cX9_slotOf 23 = .ok (.iload_n 2, 1) := by decide +kernel
theorem dX9_slotOf_24 : decode cX9_slotOf 24 = .ok (.imul, 1) := by decide +kernel
theorem dX9_slotOf_25 : decode cX9_slotOf 25 = .ok (.iadd, 1) := by decide +kernel
theorem dX9_slotOf_26 : decode cX9_slotOf 26 = .ok (.iaload, 1) := by decide +kernel
theorem dX9_slotOf_27 : decode cX9_slotOf 27 = .ok (.iload_n 1, 1) := by decide +kernel
theorem dX9_slotOf_28 : decode cX9_slotOf 28 = .ok (.if_icmp .ne 5, 3) := by decide +kernel
theorem dX9_slotOf_31 : decode cX9_slotOf 31 = .ok (.iload_n 2, 1) := by decide +kernel
theorem dX9_slotOf_32 : decode cX9_slotOf 32 = .ok (.ireturn, 1) := by decide +kernel
theorem dX9_slotOf_33 : decode cX9_slotOf 33 = .ok (.iinc 2 1, 3) := by decide +kernel
theorem dX9_slotOf_36 : decode cX9_slotOf 36 = .ok (.goto (-34), 3) := by decide +kernel
theorem dX9_slotOf_39 : decode cX9_slotOf 39 = .ok (.iconst (-1), 1) := by decide +kernel
theorem dX9_slotOf_40 : decode cX9_slotOf 40 = .ok (.ireturn, 1) := by decide +kernel
theorem dX9_isFull_0 : decode cX9_isFull 0 = .ok (.aload_n 0, 1) := by decide +kernel
theorem dX9_isFull_1 : decode cX9_isFull 1 = .ok (.getfield 7, 3) := by decide +kernel
theorem dX9_isFull_4 : decode cX9_isFull 4 = .ok (.sipush 2521, 3) := by decide +kernel
theorem dX9_isFull_7 : decode cX9_isFull 7 = .ok (.iaload, 1) := by decide +kernel
theorem dX9_isFull_8 : decode cX9_isFull 8 = .ok (.bipush 8, 2) := by decide +kernel
theorem dX9_isFull_10 : decode cX9_isFull 10 = .ok (.if_icmp .ne 15, 3) := by decide +kernel
theorem dX9_isFull_13 : decode cX9_isFull 13 = .ok (.aload_n 0, 1) := by decide +kernel
theorem dX9_isFull_14 : decode cX9_isFull 14 = .ok (.iload_n 1, 1) := by decide +kernel
theorem dX9_isFull_15 : decode cX9_isFull 15 = .ok (.invokevirtual 207, 3) := by decide +kernel
theorem dX9_isFull_18 : decode cX9_isFull 18 = .ok (.ifCond .ge 7, 3) := by decide +kernel
theorem dX9_isFull_21 : decode cX9_isFull 21 = .ok (.iconst 1, 1) := by decide +kernel
theorem dX9_isFull_22 : decode cX9_isFull 22 = .ok (.goto 4, 3) := by decide +kernel
theorem dX9_isFull_25 : decode cX9_isFull 25 = .ok (.iconst 0, 1) := by decide +kernel
theorem dX9_isFull_26 : decode cX9_isFull 26 = .ok (.ireturn, 1) := by decide +kernel
theorem dX9_waits_0 : decode cX9_waits 0 = .ok (.aload_n 0, 1) := by decide +kernel
theorem dX9_waits_1 : decode cX9_waits 1 = .ok (.iload_n 1, 1) := by decide +kernel
theorem dX9_waits_2 : decode cX9_waits 2 = .ok (.invokevirtual 207, 3) := by decide +kernel
theorem dX9_waits_5 : decode cX9_waits 5 = .ok (.istore_n 3, 1) := by decide +kernel
theorem dX9_waits_6 : decode cX9_waits 6 = .ok (.iload_n 3, 1) := by decide +kernel
theorem dX9_waits_7 : decode cX9_waits 7 = .ok (.ifCond .ge 24, 3) := by decide +kernel
theorem dX9_waits_10 : decode cX9_waits 10 = .ok (.aload_n 0, 1) := by decide +kernel
theorem dX9_waits_11 : decode cX9_waits 11 = .ok (.getfield 7, 3) := by decide +kernel
theorem dX9_waits_14 : decode cX9_waits 14 = .ok (.sipush 2521, 3) := by decide +kernel
theorem dX9_waits_17 : decode cX9_waits 17 = .ok (.iaload, 1) := by decide +kernel
theorem dX9_waits_18 : decode cX9_waits 18 = .ok (.istore_n 3, 1) := by decide +kernel
theorem dX9_waits_19 : decode cX9_waits 19 = .ok (.aload_n 0, 1) := by decide +kernel
theorem dX9_waits_20 : decode cX9_waits 20 = .ok (.getfield 7, 3) := by decide +kernel
theorem dX9_waits_23 : decode cX9_waits 23 = .ok (.sipush 2521, 3) := by decide +kernel
theorem dX9_waits_26 : decode cX9_waits 26 = .ok (.dup2, 1) := by decide +kernel
theorem dX9_waits_27 : decode cX9_waits 27 = .ok (.iaload, 1) := by decide +kernel
theorem dX9_waits_28 : decode cX9_waits 28 = .ok (.iconst 1, 1) := by decide +kernel
theorem dX9_waits_29 : decode cX9_waits 29 = .ok (.iadd, 1) := by decide +kernel
theorem dX9_waits_30 : decode cX9_waits 30 = .ok (.iastore, 1) := by decide +kernel
theorem dX9_waits_31 : decode cX9_waits 31 = .ok (.aload_n 0, 1) := by decide +kernel
theorem dX9_waits_32 : decode cX9_waits 32 = .ok (.getfield 7, 3) := by decide +kernel
theorem dX9_waits_35 : decode cX9_waits 35 = .ok (.sipush 2522, 3) := by decide +kernel
theorem dX9_waits_38 : decode cX9_waits 38 = .ok (.bipush 32, 2) := by decide +kernel
theorem dX9_waits_40 : decode cX9_waits 40 = .ok (.iload_n 3, 1) := by decide +kernel
theorem dX9_waits_41 : decode cX9_waits 41 = .ok (.imul, 1) := by decide +kernel
theorem dX9_waits_42 : decode cX9_waits 42 = .ok (.iadd, 1) := by decide +kernel
theorem dX9_waits_43 : decode cX9_waits 43 = .ok (.iload_n 1, 1) := by decide +kernel
theorem dX9_waits_44 : decode cX9_waits 44 = .ok (.iastore, 1) := by decide +kernel
theorem dX9_waits_45 : decode cX9_waits 45 = .ok (.aload_n 0, 1) := by decide +kernel
theorem dX9_waits_46 : decode cX9_waits 46 = .ok (.getfield 7, 3) := by decide +kernel
theorem dX9_waits_49 : decode cX9_waits 49 = .ok (.sipush 2522, 3) := by decide +kernel
theorem dX9_waits_52 : decode cX9_waits 52 = .ok (.bipush 32, 2) := by decide +kernel
theorem dX9_waits_54 : decode cX9_waits 54 = .ok (.iload_n 3, 1) := by decide +kernel
theorem dX9_waits_55 : decode cX9_waits 55 = .ok (.imul, 1) := by decide +kernel
theorem dX9_waits_56 : decode cX9_waits 56 = .ok (.iadd, 1) := by decide +kernel
theorem dX9_waits_57 : decode cX9_waits 57 = .ok (.iconst 1, 1) := by decide +kernel
theorem dX9_waits_58 : decode cX9_waits 58 = .ok (.iadd, 1) := by decide +kernel
theorem dX9_waits_59 : decode cX9_waits 59 = .ok (.iload_n 2, 1) := by decide +kernel
theorem dX9_waits_60 : decode cX9_waits 60 = .ok (.iastore, 1) := by decide +kernel
theorem dX9_waits_61 : decode cX9_waits 61 = .ok (.sipush 2522, 3) := by decide +kernel
theorem dX9_waits_64 : decode cX9_waits 64 = .ok (.bipush 32, 2) := by decide +kernel
theorem dX9_waits_66 : decode cX9_waits 66 = .ok (.iload_n 3, 1) := by decide +kernel
theorem dX9_waits_67 : decode cX9_waits 67 = .ok (.imul, 1) := by decide +kernel
theorem dX9_waits_68 : decode cX9_waits 68 = .ok (.iadd, 1) := by decide +kernel
theorem dX9_waits_69 : decode cX9_waits 69 = .ok (.iconst 2, 1) := by decide +kernel
theorem dX9_waits_70 : decode cX9_waits 70 = .ok (.iadd, 1) := by decide +kernel
theorem dX9_waits_71 : decode cX9_waits 71 = .ok (.ireturn, 1) := by decide +kernel
theorem dX9_put_0 : decode cX9_put 0 = .ok (.iload_n 1, 1) := by decide +kernel
theorem dX9_put_1 : decode cX9_put 1 = .ok (.invokestatic 210, 3) := by decide +kernel
theorem dX9_put_4 : decode cX9_put 4 = .ok (.ifCond .ne 6, 3) := by decide +kernel
theorem dX9_put_7 : decode cX9_put 7 = .ok (.ldc 111, 2) := by decide +kernel
theorem dX9_put_9 : decode cX9_put 9 = .ok (.ireturn, 1) := by decide +kernel
theorem dX9_put_10 : decode cX9_put 10 = .ok (.aload_n 0, 1) := by decide +kernel
theorem dX9_put_11 : decode cX9_put 11 = .ok (.invokevirtual 203, 3) := by decide +kernel
theorem dX9_put_14 : decode cX9_put 14 = .ok (.ifCond .lt 6, 3) := by decide +kernel
theorem dX9_put_17 : decode cX9_put 17 = .ok (.ldc 213, 2) := by decide +kernel
theorem dX9_put_19 : decode cX9_put 19 = .ok (.ireturn, 1) := by decide +kernel
theorem dX9_put_20 : decode cX9_put 20 = .ok (.aload_n 0, 1) := by decide +kernel
theorem dX9_put_21 : decode cX9_put 21 = .ok (.iload_n 1, 1) := by decide +kernel
theorem dX9_put_22 : decode cX9_put 22 = .ok (.invokevirtual 214, 3) := by decide +kernel
theorem dX9_put_25 : decode cX9_put 25 = .ok (.ifCond .eq 6, 3) := by decide +kernel
theorem dX9_put_28 : decode cX9_put 28 = .ok (.ldc 115, 2) := by decide +kernel
theorem dX9_put_30 : decode cX9_put 30 = .ok (.ireturn, 1) := by decide +kernel
theorem dX9_put_31 : decode cX9_put 31 = .ok (.aload_n 0, 1) := by decide +kernel
theorem dX9_put_32 : decode cX9_put 32 = .ok (.invokevirtual 217, 3) := by decide +kernel
theorem dX9_put_35 : decode cX9_put 35 = .ok (.aload_n 0, 1) := by decide +kernel
theorem dX9_put_36 : decode cX9_put 36 = .ok (.iload_n 1, 1) := by decide +kernel
theorem dX9_put_37 : decode cX9_put 37 = .ok (.aload_n 0, 1) := by decide +kernel
theorem dX9_put_38 : decode cX9_put 38 = .ok (.getfield 112, 3) := by decide +kernel
theorem dX9_put_41 : decode cX9_put 41 = .ok (.invokevirtual 220, 3) := by decide +kernel
theorem dX9_put_44 : decode cX9_put 44 = .ok (.istore_n 2, 1) := by decide +kernel
theorem dX9_put_45 : decode cX9_put 45 = .ok (.iconst 0, 1) := by decide +kernel
theorem dX9_put_46 : decode cX9_put 46 = .ok (.istore_n 3, 1) := by decide +kernel
theorem dX9_put_47 : decode cX9_put 47 = .ok (.iload_n 3, 1) := by decide +kernel
theorem dX9_put_48 : decode cX9_put 48 = .ok (.aload_n 0, 1) := by decide +kernel
theorem dX9_put_49 : decode cX9_put 49 = .ok (.getfield 112, 3) := by decide +kernel
theorem dX9_put_52 : decode cX9_put 52 = .ok (.if_icmp .ge 23, 3) := by decide +kernel
theorem dX9_put_55 : decode cX9_put 55 = .ok (.aload_n 0, 1) := by decide +kernel
theorem dX9_put_56 : decode cX9_put 56 = .ok (.getfield 7, 3) := by decide +kernel
theorem dX9_put_59 : decode cX9_put 59 = .ok (.iload_n 2, 1) := by decide +kernel
theorem dX9_put_60 : decode cX9_put 60 = .ok (.iload_n 3, 1) := by decide +kernel
theorem dX9_put_61 : decode cX9_put 61 = .ok (.iadd, 1) := by decide +kernel
theorem dX9_put_62 : decode cX9_put 62 = .ok (.aload_n 0, 1) := by decide +kernel
theorem dX9_put_63 : decode cX9_put 63 = .ok (.getfield 16, 3) := by decide +kernel
theorem dX9_put_66 : decode cX9_put 66 = .ok (.iload_n 3, 1) := by decide +kernel
theorem dX9_put_67 : decode cX9_put 67 = .ok (.iaload, 1) := by decide +kernel
theorem dX9_put_68 : decode cX9_put 68 = .ok (.iastore, 1) := by decide +kernel
theorem dX9_put_69 : decode cX9_put 69 = .ok (.iinc 3 1, 3) := by decide +kernel
theorem dX9_put_72 : decode cX9_put 72 = .ok (.goto (-25), 3) := by decide +kernel
theorem dX9_put_75 : decode cX9_put 75 = .ok (.aload_n 0, 1) := by decide +kernel
theorem dX9_put_76 : decode cX9_put 76 = .ok (.getfield 7, 3) := by decide +kernel
theorem dX9_put_79 : decode cX9_put 79 = .ok (.sipush 2521, 3) := by decide +kernel
theorem dX9_put_82 : decode cX9_put 82 = .ok (.iaload, 1) := by decide +kernel
theorem dX9_put_83 : decode cX9_put 83 = .ok (.ireturn, 1) := by decide +kernel
theorem dX9_letter_0 : decode cX9_letter 0 = .ok (.aload_n 0, 1) := by decide +kernel
theorem dX9_letter_1 : decode cX9_letter 1 = .ok (.getfield 7, 3) := by decide +kernel
theorem dX9_letter_4 : decode cX9_letter 4 = .ok (.bipush 72, 2) := by decide +kernel
theorem dX9_letter_6 : decode cX9_letter 6 = .ok (.bipush 30, 2) := by decide +kernel
theorem dX9_letter_8 : decode cX9_letter 8 = .ok (.iload_n 1, 1) := by decide +kernel
theorem dX9_letter_9 : decode cX9_letter 9 = .ok (.imul, 1) := by decide +kernel
theorem dX9_letter_10 : decode cX9_letter 10 = .ok (.iadd, 1) := by decide +kernel
theorem dX9_letter_11 : decode cX9_letter 11 = .ok (.iload_n 2, 1) := by decide +kernel
theorem dX9_letter_12 : decode cX9_letter 12 = .ok (.iadd, 1) := by decide +kernel
theorem dX9_letter_13 : decode cX9_letter 13 = .ok (.iaload, 1) := by decide +kernel
theorem dX9_letter_14 : decode cX9_letter 14 = .ok (.ireturn, 1) := by decide +kernel
theorem dX9_isName_0 : decode cX9_isName 0 = .ok (.iload_n 2, 1) := by decide +kernel
theorem dX9_isName_1 : decode cX9_isName 1 = .ok (.iconst 1, 1) := by decide +kernel
theorem dX9_isName_2 : decode cX9_isName 2 = .ok (.iadd, 1) := by decide +kernel
theorem dX9_isName_3 : decode cX9_isName 3 = .ok (.aload_n 0, 1) := by decide +kernel
theorem dX9_isName_4 : decode cX9_isName 4 = .ok (.getfield 7, 3) := by decide +kernel
theorem dX9_isName_7 : decode cX9_isName 7 = .ok (.iconst 0, 1) := by decide +kernel
theorem dX9_isName_8 : decode cX9_isName 8 = .ok (.iload_n 1, 1) := by decide +kernel
theorem dX9_isName_9 : decode cX9_isName 9 = .ok (.iadd, 1) := by decide +kernel
theorem dX9_isName_10 : decode cX9_isName 10 = .ok (.iaload, 1) := by decide +kernel
theorem dX9_isName_11 : decode cX9_isName 11 = .ok (.if_icmp .ge 33, 3) := by decide +kernel
theorem dX9_isName_14 : decode cX9_isName 14 = .ok (.aload_n 0, 1) := by decide +kernel
theorem dX9_isName_15 : decode cX9_isName 15 = .ok (.iload_n 1, 1) := by decide +kernel
theorem dX9_isName_16 : decode cX9_isName 16 = .ok (.iload_n 2, 1) := by decide +kernel
theorem dX9_isName_17 : decode cX9_isName 17 = .ok (.invokevirtual 224, 3) := by decide +kernel
theorem dX9_isName_20 : decode cX9_isName 20 = .ok (.invokestatic 161, 3) := by decide +kernel
theorem dX9_isName_23 : decode cX9_isName 23 = .ok (.ifCond .eq 21, 3) := by decide +kernel
theorem dX9_isName_26 : decode cX9_isName 26 = .ok (.aload_n 0, 1) := by decide +kernel
theorem dX9_isName_27 : decode cX9_isName 27 = .ok (.iload_n 1, 1) := by decide +kernel
theorem dX9_isName_28 : decode cX9_isName 28 = .ok (.iload_n 2, 1) := by decide +kernel
theorem dX9_isName_29 : decode cX9_isName 29 = .ok (.iconst 1, 1) := by decide +kernel
theorem dX9_isName_30 : decode cX9_isName 30 = .ok (.iadd, 1) := by decide +kernel
theorem dX9_isName_31 : decode cX9_isName 31 = .ok (.invokevirtual 224, 3) := by decide +kernel
theorem dX9_isName_34 : decode cX9_isName 34 = .ok (.invokestatic 185, 3) := by decide +kernel
theorem dX9_isName_37 : decode cX9_isName 37 = .ok (.ifCond .eq 7, 3) := by decide +kernel
theorem dX9_isName_40 : decode cX9_isName 40 = .ok (.iconst 1, 1) := by decide +kernel
theorem dX9_isName_41 : decode cX9_isName 41 = .ok (.goto 4, 3) := by decide +kernel
theorem dX9_isName_44 : decode cX9_isName 44 = .ok (.iconst 0, 1) := by decide +kernel
theorem dX9_isName_45 : decode cX9_isName 45 = .ok (.ireturn, 1) := by decide +kernel
theorem dX9_canShift_0 : decode cX9_canShift 0 = .ok (.iconst 1, 1) := by decide +kernel
theorem dX9_canShift_1 : decode cX9_canShift 1 = .ok (.istore 4, 2) := by decide +kernel
theorem dX9_canShift_3 : decode cX9_canShift 3 = .ok (.iconst 0, 1) := by decide +kernel
theorem dX9_canShift_4 : decode cX9_canShift 4 = .ok (.istore 5, 2) := by decide +kernel
theorem dX9_canShift_6 : decode cX9_canShift 6 = .ok (.iload 5, 2) := by decide +kernel
theorem dX9_canShift_8 : decode cX9_canShift 8 = .ok (.aload_n 0, 1) := by decide +kernel
theorem dX9_canShift_9 : decode cX9_canShift 9 = .ok (.getfield 7, 3) := by decide +kernel
theorem dX9_canShift_12 : decode cX9_canShift 12 = .ok (.iconst 0, 1) := by decide +kernel
theorem dX9_canShift_13 : decode cX9_canShift 13 = .ok (.iload_n 1, 1) := by decide +kernel
theorem dX9_canShift_14 : decode cX9_canShift 14 = .ok (.iadd, 1) := by decide +kernel
theorem dX9_canShift_15 : decode cX9_canShift 15 = .ok (.iaload, 1) := by decide +kernel
theorem dX9_canShift_16 : decode cX9_canShift 16 = .ok (.if_icmp .ge 67, 3) := by decide +kernel
theorem dX9_canShift_19 : decode cX9_canShift 19 = .ok (.iload 4, 2) := by decide +kernel
theorem dX9_canShift_21 : decode cX9_canShift 21 = .ok (.ifCond .eq 53, 3) := by decide +kernel
theorem dX9_canShift_24 : decode cX9_canShift 24 = .ok (.aload_n 0, 1) := by decide +kernel
theorem dX9_canShift_25 : decode cX9_canShift 25 = .ok (.iload_n 1, 1) := by decide +kernel
theorem dX9_canShift_26 : decode cX9_canShift 26 = .ok (.iload 5, 2) := by decide +kernel
theorem dX9_canShift_28 : decode cX9_canShift 28 = .ok (.invokevirtual 227, 3) := by decide +kernel
theorem dX9_canShift_31 : decode cX9_canShift 31 = .ok (.ifCond .eq 39, 3) := by decide +kernel
theorem dX9_canShift_34 : decode cX9_canShift 34 = .ok (.aload_n 0, 1) := by decide +kernel
theorem dX9_canShift_35 : decode cX9_canShift 35 = .ok (.iload_n 1, 1) := by decide +kernel
theorem dX9_canShift_36 : decode cX9_canShift 36 = .ok (.iload 5, 2) := by decide +kernel
theorem dX9_canShift_38 : decode cX9_canShift 38 = .ok (.invokevirtual 224, 3) := by decide +kernel
theorem dX9_canShift_41 : decode cX9_canShift 41 = .ok (.iload_n 2, 1) := by decide +kernel
theorem dX9_canShift_42 : decode cX9_canShift 42 = .ok (.iadd, 1) := by decide +kernel
theorem dX9_canShift_43 : decode cX9_canShift 43 = .ok (.invokestatic 161, 3) := by decide +kernel
theorem dX9_canShift_46 : decode cX9_canShift 46 = .ok (.ifCond .eq 28, 3) := by decide +kernel
theorem dX9_canShift_49 : decode cX9_canShift 49 = .ok (.aload_n 0, 1) := by decide +kernel
theorem dX9_canShift_50 : decode cX9_canShift 50 = .ok (.iload_n 1, 1) := by decide +kernel
theorem dX9_canShift_51 : decode cX9_canShift 51 = .ok (.iload 5, 2) := by decide +kernel
theorem dX9_canShift_53 : decode cX9_canShift 53 = .ok (.iconst 1, 1) := by decide +kernel
theorem dX9_canShift_54 : decode cX9_canShift 54 = .ok (.iadd, 1) := by decide +kernel
theorem dX9_canShift_55 : decode cX9_canShift 55 = .ok (.invokevirtual 224, 3) := by decide +kernel
theorem dX9_canShift_58 : decode cX9_canShift 58 = .ok (.iload_n 3, 1) := by decide +kernel
theorem dX9_canShift_59 : decode cX9_canShift 59 = .ok (.iadd, 1) := by decide +kernel
theorem dX9_canShift_60 : decode cX9_canShift 60 = .ok (.bipush 49, 2) := by decide +kernel
theorem dX9_canShift_62 : decode cX9_canShift 62 = .ok (.bipush 57, 2) := by decide +kernel
theorem dX9_canShift_64 : decode cX9_canShift 64 = .ok (.invokestatic 104, 3) := by decide +kernel
theorem dX9_canShift_67 : decode cX9_canShift 67 = .ok (.ifCond .eq 7, 3) := by decide +kernel
theorem dX9_canShift_70 : decode cX9_canShift 70 = .ok (.iconst 1, 1) := by decide +kernel
theorem dX9_canShift_71 : decode cX9_canShift 71 = .ok (.goto 4, 3) := by decide +kernel
theorem dX9_canShift_74 : decode cX9_canShift 74 = .ok (.iconst 0, 1) := by decide +kernel
theorem dX9_canShift_75 : decode cX9_canShift 75 = .ok (.istore 4, 2) := by decide +kernel
theorem dX9_canShift_77 : decode cX9_canShift 77 = .ok (.iinc 5 1, 3) := by decide +kernel
theorem dX9_canShift_80 : decode cX9_canShift 80 = .ok (.goto (-74), 3) := by decide +kernel
theorem dX9_canShift_83 : decode cX9_canShift 83 = .ok (.iload 4, 2) := by decide +kernel
theorem dX9_canShift_85 : decode cX9_canShift 85 = .ok (.ireturn, 1) := by decide +kernel
theorem dX9_copy_0 : decode cX9_copy 0 = .ok (.iload_n 1, 1) := by decide +kernel
theorem dX9_copy_1 : decode cX9_copy 1 = .ok (.invokestatic 210, 3) := by decide +kernel
theorem dX9_copy_4 : decode cX9_copy 4 = .ok (.ifCond .eq 10, 3) := by decide +kernel
theorem dX9_copy_7 : decode cX9_copy 7 = .ok (.iload_n 2, 1) := by decide +kernel
theorem dX9_copy_8 : decode cX9_copy 8 = .ok (.invokestatic 210, 3) := by decide +kernel
theorem dX9_copy_11 : decode cX9_copy 11 = .ok (.ifCond .ne 6, 3) := by decide +kernel
theorem dX9_copy_14 : decode cX9_copy 14 = .ok (.ldc 111, 2) := by decide +kernel
theorem dX9_copy_16 : decode cX9_copy 16 = .ok (.ireturn, 1) := by decide +kernel
theorem dX9_copy_17 : decode cX9_copy 17 = .ok (.iload_n 2, 1) := by decide +kernel
theorem dX9_copy_18 : decode cX9_copy 18 = .ok (.bipush 8, 2) := by decide +kernel
theorem dX9_copy_20 : decode cX9_copy 20 = .ok (.irem, 1) := by decide +kernel
theorem dX9_copy_21 : decode cX9_copy 21 = .ok (.iload_n 1, 1) := by decide +kernel
theorem dX9_copy_22 : decode cX9_copy 22 = .ok (.bipush 8, 2) := by decide +kernel
theorem dX9_copy_24 : decode cX9_copy 24 = .ok (.irem, 1) := by decide +kernel
theorem dX9_copy_25 : decode cX9_copy 25 = .ok (.isub, 1) := by decide +kernel
theorem dX9_copy_26 : decode cX9_copy 26 = .ok (.istore_n 3, 1) := by decide +kernel
theorem dX9_copy_27 : decode cX9_copy 27 = .ok (.iload_n 2, 1) := by decide +kernel
theorem dX9_copy_28 : decode cX9_copy 28 = .ok (.bipush 8, 2) := by decide +kernel
theorem dX9_copy_30 : decode cX9_copy 30 = .ok (.idiv, 1) := by decide +kernel
theorem dX9_copy_31 : decode cX9_copy 31 = .ok (.iload_n 1, 1) := by decide +kernel
theorem dX9_copy_32 : decode cX9_copy 32 = .ok (.bipush 8, 2) := by decide +kernel
theorem dX9_copy_34 : decode cX9_copy 34 = .ok (.idiv, 1) := by decide +kernel
theorem dX9_copy_35 : decode cX9_copy 35 = .ok (.isub, 1) := by decide +kernel
theorem dX9_copy_36 : decode cX9_copy 36 = .ok (.istore 4, 2) := by decide +kernel
theorem dX9_copy_38 : decode cX9_copy 38 = .ok (.aload_n 0, 1) := by decide +kernel
theorem dX9_copy_39 : decode cX9_copy 39 = .ok (.iload_n 1, 1) := by decide +kernel
theorem dX9_copy_40 : decode cX9_copy 40 = .ok (.iload_n 3, 1) := by decide +kernel
theorem dX9_copy_41 : decode cX9_copy 41 = .ok (.iload 4, 2) := by decide +kernel
theorem dX9_copy_43 : decode cX9_copy 43 = .ok (.invokevirtual 230, 3) := by decide +kernel
theorem dX9_copy_46 : decode cX9_copy 46 = .ok (.ifCond .ne 6, 3) := by decide +kernel
theorem dX9_copy_49 : decode cX9_copy 49 = .ok (.ldc 213, 2) := by decide +kernel
theorem dX9_copy_51 : decode cX9_copy 51 = .ok (.ireturn, 1) := by decide +kernel
theorem dX9_copy_52 : decode cX9_copy 52 = .ok (.aload_n 0, 1) := by decide +kernel
theorem dX9_copy_53 : decode cX9_copy 53 = .ok (.iload_n 2, 1) := by decide +kernel
theorem dX9_copy_54 : decode cX9_copy 54 = .ok (.invokevirtual 214, 3) := by decide +kernel
theorem dX9_copy_57 : decode cX9_copy 57 = .ok (.ifCond .eq 6, 3) := by decide +kernel
theorem dX9_copy_60 : decode cX9_copy 60 = .ok (.ldc 115, 2) := by decide +kernel
theorem dX9_copy_62 : decode cX9_copy 62 = .ok (.ireturn, 1) := by decide +kernel
theorem dX9_copy_63 : decode cX9_copy 63 = .ok (.aload_n 0, 1) := by decide +kernel
theorem dX9_copy_64 : decode cX9_copy 64 = .ok (.invokevirtual 217, 3) := by decide +kernel
theorem dX9_copy_67 : decode cX9_copy 67 = .ok (.aload_n 0, 1) := by decide +kernel
theorem dX9_copy_68 : decode cX9_copy 68 = .ok (.iload_n 2, 1) := by decide +kernel
theorem dX9_copy_69 : decode cX9_copy 69 = .ok (.aload_n 0, 1) := by decide +kernel
theorem dX9_copy_70 : decode cX9_copy 70 = .ok (.getfield 7, 3) := by decide +kernel
theorem dX9_copy_73 : decode cX9_copy 73 = .ok (.iconst 0, 1) := by decide +kernel
theorem dX9_copy_74 : decode cX9_copy 74 = .ok (.iload_n 1, 1) := by decide +kernel
theorem dX9_copy_75 : decode cX9_copy 75 = .ok (.iadd, 1) := by decide +kernel
theorem dX9_copy_76 : decode cX9_copy 76 = .ok (.iaload, 1) := by decide +kernel
theorem dX9_copy_77 : decode cX9_copy 77 = .ok (.invokevirtual 220, 3) := by decide +kernel
theorem dX9_copy_80 : decode cX9_copy 80 = .ok (.istore 5, 2) := by decide +kernel
theorem dX9_copy_82 : decode cX9_copy 82 = .ok (.iconst 0, 1) := by decide +kernel
theorem dX9_copy_83 : decode cX9_copy 83 = .ok (.istore 6, 2) := by decide +kernel
theorem dX9_copy_85 : decode cX9_copy 85 = .ok (.iload 6, 2) := by decide +kernel
theorem dX9_copy_87 : decode cX9_copy 87 = .ok (.aload_n 0, 1) := by decide +kernel
theorem dX9_copy_88 : decode cX9_copy 88 = .ok (.getfield 7, 3) := by decide +kernel
theorem dX9_copy_91 : decode cX9_copy 91 = .ok (.iconst 0, 1) := by decide +kernel
theorem dX9_copy_92 : decode cX9_copy 92 = .ok (.iload_n 1, 1) := by decide +kernel
theorem dX9_copy_93 : decode cX9_copy 93 = .ok (.iadd, 1) := by decide +kernel
theorem dX9_copy_94 : decode cX9_copy 94 = .ok (.iaload, 1) := by decide +kernel
theorem dX9_copy_95 : decode cX9_copy 95 = .ok (.if_icmp .ge 76, 3) := by decide +kernel
theorem dX9_copy_98 : decode cX9_copy 98 = .ok (.iload 6, 2) := by decide +kernel
theorem dX9_copy_100 : decode cX9_copy 100 = .ok (.ifCond .le 19, 3) := by decide +kernel
theorem dX9_copy_103 : decode cX9_copy 103 = .ok (.aload_n 0, 1) := by decide +kernel
theorem dX9_copy_104 : decode cX9_copy 104 = .ok (.iload_n 1, 1) := by decide +kernel
theorem dX9_copy_105 : decode cX9_copy 105 = .ok (.iload 6, 2) := by decide +kernel
theorem dX9_copy_107 : decode cX9_copy 107 = .ok (.iconst 1, 1) := by decide +kernel
theorem dX9_copy_108 : decode cX9_copy 108 = .ok (.isub, 1) := by decide +kernel
theorem dX9_copy_109 : decode cX9_copy 109 = .ok (.invokevirtual 227, 3) := by decide +kernel
theorem dX9_copy_112 : decode cX9_copy 112 = .ok (.ifCond .eq 7, 3) := by decide +kernel
theorem dX9_copy_115 : decode cX9_copy 115 = .ok (.iconst 1, 1) := by decide +kernel
theorem dX9_copy_116 : decode cX9_copy 116 = .ok (.goto 4, 3) := by decide +kernel
theorem dX9_copy_119 : decode cX9_copy 119 = .ok (.iconst 0, 1) := by decide +kernel
theorem dX9_copy_120 : decode cX9_copy 120 = .ok (.istore 7, 2) := by decide +kernel
theorem dX9_copy_122 : decode cX9_copy 122 = .ok (.aload_n 0, 1) := by decide +kernel
theorem dX9_copy_123 : decode cX9_copy 123 = .ok (.getfield 7, 3) := by decide +kernel
theorem dX9_copy_126 : decode cX9_copy 126 = .ok (.iload 5, 2) := by decide +kernel
theorem dX9_copy_128 : decode cX9_copy 128 = .ok (.iload 6, 2) := by decide +kernel
theorem dX9_copy_130 : decode cX9_copy 130 = .ok (.iadd, 1) := by decide +kernel
theorem dX9_copy_131 : decode cX9_copy 131 = .ok (.aload_n 0, 1) := by decide +kernel
theorem dX9_copy_132 : decode cX9_copy 132 = .ok (.iload_n 1, 1) := by decide +kernel
theorem dX9_copy_133 : decode cX9_copy 133 = .ok (.iload 6, 2) := by decide +kernel
theorem dX9_copy_135 : decode cX9_copy 135 = .ok (.invokevirtual 224, 3) := by decide +kernel
theorem dX9_copy_138 : decode cX9_copy 138 = .ok (.aload_n 0, 1) := by decide +kernel
theorem dX9_copy_139 : decode cX9_copy 139 = .ok (.iload_n 1, 1) := by decide +kernel
theorem dX9_copy_140 : decode cX9_copy 140 = .ok (.iload 6, 2) := by decide +kernel
theorem dX9_copy_142 : decode cX9_copy 142 = .ok (.invokevirtual 227, 3) := by decide +kernel
theorem dX9_copy_145 : decode cX9_copy 145 = .ok (.ifCond .eq 7, 3) := by decide +kernel
theorem dX9_copy_148 : decode cX9_copy 148 = .ok (.iload_n 3, 1) := by decide +kernel
theorem dX9_copy_149 : decode cX9_copy 149 = .ok (.goto 14, 3) := by decide +kernel
theorem dX9_copy_152 : decode cX9_copy 152 = .ok (.iload 7, 2) := by decide +kernel
theorem dX9_copy_154 : decode cX9_copy 154 = .ok (.ifCond .eq 8, 3) := by decide +kernel
theorem dX9_copy_157 : decode cX9_copy 157 = .ok (.iload 4, 2) := by decide +kernel
theorem dX9_copy_159 : decode cX9_copy 159 = .ok (.goto 4, 3) := by decide +kernel
theorem dX9_copy_162 : decode cX9_copy 162 = .ok (.iconst 0, 1) := by decide +kernel
theorem dX9_copy_163 : decode cX9_copy 163 = .ok (.iadd, 1) := by decide +kernel
theorem dX9_copy_164 : decode cX9_copy 164 = .ok (.iastore, 1) := by decide +kernel
theorem dX9_copy_165 : decode cX9_copy 165 = .ok (.iinc 6 1, 3) := by decide +kernel
theorem dX9_copy_168 : decode cX9_copy 168 = .ok (.goto (-83), 3) := by decide +kernel
theorem dX9_copy_171 : decode cX9_copy 171 = .ok (.aload_n 0, 1) := by decide +kernel
theorem dX9_copy_172 : decode cX9_copy 172 = .ok (.getfield 7, 3) := by decide +kernel
theorem dX9_copy_175 : decode cX9_copy 175 = .ok (.sipush 2521, 3) := by decide +kernel
theorem dX9_copy_178 : decode cX9_copy 178 = .ok (.iaload, 1) := by decide +kernel
theorem dX9_copy_179 : decode cX9_copy 179 = .ok (.ireturn, 1) := by decide +kernel
theorem dX9_drop_0 : decode cX9_drop 0 = .ok (.aload_n 0, 1) := by decide +kernel
theorem dX9_drop_1 : decode cX9_drop 1 = .ok (.getfield 7, 3) := by decide +kernel
theorem dX9_drop_4 : decode cX9_drop 4 = .ok (.sipush 2521, 3) := by decide +kernel
theorem dX9_drop_7 : decode cX9_drop 7 = .ok (.iaload, 1) := by decide +kernel
theorem dX9_drop_8 : decode cX9_drop 8 = .ok (.ifCond .ne 6, 3) := by decide +kernel
theorem dX9_drop_11 : decode cX9_drop 11 = .ok (.ldc 213, 2) := by decide +kernel
theorem dX9_drop_13 : decode cX9_drop 13 = .ok (.ireturn, 1) := by decide +kernel
theorem dX9_drop_14 : decode cX9_drop 14 = .ok (.aload_n 0, 1) := by decide +kernel
theorem dX9_drop_15 : decode cX9_drop 15 = .ok (.invokevirtual 217, 3) := by decide +kernel
theorem dX9_drop_18 : decode cX9_drop 18 = .ok (.aload_n 0, 1) := by decide +kernel
theorem dX9_drop_19 : decode cX9_drop 19 = .ok (.getfield 7, 3) := by decide +kernel
theorem dX9_drop_22 : decode cX9_drop 22 = .ok (.sipush 2521, 3) := by decide +kernel
theorem dX9_drop_25 : decode cX9_drop 25 = .ok (.iaload, 1) := by decide +kernel
theorem dX9_drop_26 : decode cX9_drop 26 = .ok (.istore_n 1, 1) := by decide +kernel
theorem dX9_drop_27 : decode cX9_drop 27 = .ok (.aload_n 0, 1) := by decide +kernel
theorem dX9_drop_28 : decode cX9_drop 28 = .ok (.getfield 7, 3) := by decide +kernel
theorem dX9_drop_31 : decode cX9_drop 31 = .ok (.sipush 2521, 3) := by decide +kernel
theorem dX9_drop_34 : decode cX9_drop 34 = .ok (.iconst 0, 1) := by decide +kernel
theorem dX9_drop_35 : decode cX9_drop 35 = .ok (.iastore, 1) := by decide +kernel
theorem dX9_drop_36 : decode cX9_drop 36 = .ok (.iload_n 1, 1) := by decide +kernel
theorem dX9_drop_37 : decode cX9_drop 37 = .ok (.ireturn, 1) := by decide +kernel
theorem dX9_waitingAt_0 : decode cX9_waitingAt 0 = .ok (.iload_n 1, 1) := by decide +kernel
theorem dX9_waitingAt_1 : decode cX9_waitingAt 1 = .ok (.ifCond .ge 6, 3) := by decide +kernel
theorem dX9_waitingAt_4 : decode cX9_waitingAt 4 = .ok (.ldc 111, 2) := by decide +kernel
theorem dX9_waitingAt_6 : decode cX9_waitingAt 6 = .ok (.ireturn, 1) := by decide +kernel
theorem dX9_waitingAt_7 : decode cX9_waitingAt 7 = .ok (.iconst 0, 1) := by decide +kernel
theorem dX9_waitingAt_8 : decode cX9_waitingAt 8 = .ok (.istore_n 2, 1) := by decide +kernel
theorem dX9_waitingAt_9 : decode cX9_waitingAt 9 = .ok (.iconst 0, 1) := by decide +kernel
theorem dX9_waitingAt_10 : decode cX9_waitingAt 10 = .ok (.istore_n 3, 1) := by decide +kernel
theorem dX9_waitingAt_11 : decode cX9_waitingAt 11 = .ok (.iload_n 3, 1) := by decide +kernel
theorem dX9_waitingAt_12 : decode cX9_waitingAt 12 = .ok (.bipush 72, 2) := by decide +kernel
theorem dX9_waitingAt_14 : decode cX9_waitingAt 14 = .ok (.if_icmp .ge 27, 3) := by decide +kernel
theorem dX9_waitingAt_17 : decode cX9_waitingAt 17 = .ok (.aload_n 0, 1) := by decide +kernel
theorem dX9_waitingAt_18 : decode cX9_waitingAt 18 = .ok (.iload_n 3, 1) := by decide +kernel
theorem dX9_waitingAt_19 : decode cX9_waitingAt 19 = .ok (.invokevirtual 207, 3) := by decide +kernel
theorem dX9_waitingAt_22 : decode cX9_waitingAt 22 = .ok (.ifCond .lt 13, 3) := by decide +kernel
theorem dX9_waitingAt_25 : decode cX9_waitingAt 25 = .ok (.iload_n 2, 1) := by decide +kernel
theorem dX9_waitingAt_26 : decode cX9_waitingAt 26 = .ok (.iload_n 1, 1) := by decide +kernel
theorem dX9_waitingAt_27 : decode cX9_waitingAt 27 = .ok (.if_icmp .ne 5, 3) := by decide +kernel
theorem dX9_waitingAt_30 : decode cX9_waitingAt 30 = .ok (.iload_n 3, 1) := by decide +kernel
theorem dX9_waitingAt_31 : decode cX9_waitingAt 31 = .ok (.ireturn, 1) := by decide +kernel
theorem dX9_waitingAt_32 : decode cX9_waitingAt 32 = .ok (.iinc 2 1, 3) := by decide +kernel
theorem dX9_waitingAt_35 : decode cX9_waitingAt 35 = .ok (.iinc 3 1, 3) := by decide +kernel
theorem dX9_waitingAt_38 : decode cX9_waitingAt 38 = .ok (.goto (-27), 3) := by decide +kernel
theorem dX9_waitingAt_41 : decode cX9_waitingAt 41 = .ok (.ldc 206, 2) := by decide +kernel
theorem dX9_waitingAt_43 : decode cX9_waitingAt 43 = .ok (.ireturn, 1) := by decide +kernel
theorem dX9_sign_0 : decode cX9_sign 0 = .ok (.aload_n 0, 1) := by decide +kernel
theorem dX9_sign_1 : decode cX9_sign 1 = .ok (.getfield 116, 3) := by decide +kernel
theorem dX9_sign_4 : decode cX9_sign 4 = .ok (.aload_n 0, 1) := by decide +kernel
theorem dX9_sign_5 : decode cX9_sign 5 = .ok (.getfield 233, 3) := by decide +kernel
theorem dX9_sign_8 : decode cX9_sign 8 = .ok (.if_icmp .ge 18, 3) := by decide +kernel
theorem dX9_sign_11 : decode cX9_sign 11 = .ok (.aload_n 0, 1) := by decide +kernel
theorem dX9_sign_12 : decode cX9_sign 12 = .ok (.aload_n 0, 1) := by decide +kernel
theorem dX9_sign_13 : decode cX9_sign 13 = .ok (.getfield 236, 3) := by decide +kernel
theorem dX9_sign_16 : decode cX9_sign 16 = .ok (.aload_n 0, 1) := by decide +kernel
theorem dX9_sign_17 : decode cX9_sign 17 = .ok (.getfield 116, 3) := by decide +kernel
theorem dX9_sign_20 : decode cX9_sign 20 = .ok (.invokevirtual 224, 3) := by decide +kernel
theorem dX9_sign_23 : decode cX9_sign 23 = .ok (.goto 4, 3) := by decide +kernel
theorem dX9_sign_26 : decode cX9_sign 26 = .ok (.iconst (-1), 1) := by decide +kernel
theorem dX9_sign_27 : decode cX9_sign 27 = .ok (.ireturn, 1) := by decide +kernel
theorem dX9_behind_0 : decode cX9_behind 0 = .ok (.aload_n 0, 1) := by decide +kernel
theorem dX9_behind_1 : decode cX9_behind 1 = .ok (.getfield 116, 3) := by decide +kernel
theorem dX9_behind_4 : decode cX9_behind 4 = .ok (.iload_n 1, 1) := by decide +kernel
theorem dX9_behind_5 : decode cX9_behind 5 = .ok (.iadd, 1) := by decide +kernel
theorem dX9_behind_6 : decode cX9_behind 6 = .ok (.aload_n 0, 1) := by decide +kernel
theorem dX9_behind_7 : decode cX9_behind 7 = .ok (.getfield 233, 3) := by decide +kernel
theorem dX9_behind_10 : decode cX9_behind 10 = .ok (.if_icmp .ge 20, 3) := by decide +kernel
theorem dX9_behind_13 : decode cX9_behind 13 = .ok (.aload_n 0, 1) := by decide +kernel
theorem dX9_behind_14 : decode cX9_behind 14 = .ok (.aload_n 0, 1) := by decide +kernel
theorem dX9_behind_15 : decode cX9_behind 15 = .ok (.getfield 236, 3) := by decide +kernel
theorem dX9_behind_18 : decode cX9_behind 18 = .ok (.aload_n 0, 1) := by decide +kernel
theorem dX9_behind_19 : decode cX9_behind 19 = .ok (.getfield 116, 3) := by decide +kernel
theorem dX9_behind_22 : decode cX9_behind 22 = .ok (.iload_n 1, 1) := by decide +kernel
theorem dX9_behind_23 : decode cX9_behind 23 = .ok (.iadd, 1) := by decide +kernel
theorem dX9_behind_24 : decode cX9_behind 24 = .ok (.invokevirtual 224, 3) := by decide +kernel
theorem dX9_behind_27 : decode cX9_behind 27 = .ok (.goto 4, 3) := by decide +kernel
theorem dX9_behind_30 : decode cX9_behind 30 = .ok (.iconst (-1), 1) := by decide +kernel
theorem dX9_behind_31 : decode cX9_behind 31 = .ok (.ireturn, 1) := by decide +kernel
theorem dX9_fails_0 : decode cX9_fails 0 = .ok (.aload_n 0, 1) := by decide +kernel
theorem dX9_fails_1 : decode cX9_fails 1 = .ok (.aload_n 0, 1) := by decide +kernel
theorem dX9_fails_2 : decode cX9_fails 2 = .ok (.getfield 239, 3) := by decide +kernel
theorem dX9_fails_5 : decode cX9_fails 5 = .ok (.ifCond .ne 7, 3) := by decide +kernel
theorem dX9_fails_8 : decode cX9_fails 8 = .ok (.iload_n 1, 1) := by decide +kernel
theorem dX9_fails_9 : decode cX9_fails 9 = .ok (.goto 7, 3) := by decide +kernel
theorem dX9_fails_12 : decode cX9_fails 12 = .ok (.aload_n 0, 1) := by decide +kernel
theorem dX9_fails_13 : decode cX9_fails 13 = .ok (.getfield 239, 3) := by decide +kernel
theorem dX9_fails_16 : decode cX9_fails 16 = .ok (.putfield 239, 3) := by decide +kernel
theorem dX9_fails_19 : decode cX9_fails 19 = .ok (.return_, 1) := by decide +kernel
theorem dX9_bound_0 : decode cX9_bound 0 = .ok (.lload_n 1, 1) := by decide +kernel
theorem dX9_bound_1 : decode cX9_bound 1 = .ok (.ldc2_w 242, 3) := by decide +kernel
theorem dX9_bound_4 : decode cX9_bound 4 = .ok (.lcmp, 1) := by decide +kernel
theorem dX9_bound_5 : decode cX9_bound 5 = .ok (.ifCond .gt 11, 3) := by decide +kernel
theorem dX9_bound_8 : decode cX9_bound 8 = .ok (.lload_n 1, 1) := by decide +kernel
theorem dX9_bound_9 : decode cX9_bound 9 = .ok (.ldc2_w 244, 3) := by decide +kernel
theorem dX9_bound_12 : decode cX9_bound 12 = .ok (.lcmp, 1) := by decide +kernel
theorem dX9_bound_13 : decode cX9_bound 13 = .ok (.ifCond .ge 8, 3) := by decide +kernel
theorem dX9_bound_16 : decode cX9_bound 16 = .ok (.aload_n 0, 1) := by decide +kernel
theorem dX9_bound_17 : decode cX9_bound 17 = .ok (.iconst 1, 1) := by decide +kernel
theorem dX9_bound_18 : decode cX9_bound 18 = .ok (.invokevirtual 246, 3) := by decide +kernel
theorem dX9_bound_21 : decode cX9_bound 21 = .ok (.lload_n 1, 1) := by decide +kernel
theorem dX9_bound_22 : decode cX9_bound 22 = .ok (.lreturn, 1) := by decide +kernel
theorem dX9_frame_0 : decode cX9_frame 0 = .ok (.aload_n 0, 1) := by decide +kernel
theorem dX9_frame_1 : decode cX9_frame 1 = .ok (.getfield 72, 3) := by decide +kernel
theorem dX9_frame_4 : decode cX9_frame 4 = .ok (.aload_n 0, 1) := by decide +kernel
theorem dX9_frame_5 : decode cX9_frame 5 = .ok (.getfield 119, 3) := by decide +kernel
theorem dX9_frame_8 : decode cX9_frame 8 = .ok (.iconst 0, 1) := by decide +kernel
theorem dX9_frame_9 : decode cX9_frame 9 = .ok (.bastore, 1) := by decide +kernel
theorem dX9_frame_10 : decode cX9_frame 10 = .ok (.aload_n 0, 1) := by decide +kernel
theorem dX9_frame_11 : decode cX9_frame 11 = .ok (.getfield 75, 3) := by decide +kernel
theorem dX9_frame_14 : decode cX9_frame 14 = .ok (.aload_n 0, 1) := by decide +kernel
theorem dX9_frame_15 : decode cX9_frame 15 = .ok (.getfield 119, 3) := by decide +kernel
theorem dX9_frame_18 : decode cX9_frame 18 = .ok (.iconst 0, 1) := by decide +kernel
theorem dX9_frame_19 : decode cX9_frame 19 = .ok (.bastore, 1) := by decide +kernel
theorem dX9_frame_20 : decode cX9_frame 20 = .ok (.aload_n 0, 1) := by decide +kernel
theorem dX9_frame_21 : decode cX9_frame 21 = .ok (.getfield 85, 3) := by decide +kernel
theorem dX9_frame_24 : decode cX9_frame 24 = .ok (.aload_n 0, 1) := by decide +kernel
theorem dX9_frame_25 : decode cX9_frame 25 = .ok (.getfield 119, 3) := by decide +kernel
theorem dX9_frame_28 : decode cX9_frame 28 = .ok (.iconst 0, 1) := by decide +kernel
theorem dX9_frame_29 : decode cX9_frame 29 = .ok (.iastore, 1) := by decide +kernel
theorem dX9_frame_30 : decode cX9_frame 30 = .ok (.aload_n 0, 1) := by decide +kernel
theorem dX9_frame_31 : decode cX9_frame 31 = .ok (.getfield 82, 3) := by decide +kernel
theorem dX9_frame_34 : decode cX9_frame 34 = .ok (.aload_n 0, 1) := by decide +kernel
theorem dX9_frame_35 : decode cX9_frame 35 = .ok (.getfield 119, 3) := by decide +kernel
theorem dX9_frame_38 : decode cX9_frame 38 = .ok (.lconst 0, 1) := by decide +kernel
theorem dX9_frame_39 : decode cX9_frame 39 = .ok (.lastore, 1) := by decide +kernel
theorem dX9_frame_40 : decode cX9_frame 40 = .ok (.aload_n 0, 1) := by decide +kernel
theorem dX9_frame_41 : decode cX9_frame 41 = .ok (.iconst 1, 1) := by decide +kernel
theorem dX9_frame_42 : decode cX9_frame 42 = .ok (.putfield 182, 3) := by decide +kernel
theorem dX9_frame_45 : decode cX9_frame 45 = .ok (.aload_n 0, 1) := by decide +kernel
theorem dX9_frame_46 : decode cX9_frame 46 = .ok (.aload_n 0, 1) := by decide +kernel
theorem dX9_frame_47 : decode cX9_frame 47 = .ok (.getfield 66, 3) := by decide +kernel
theorem dX9_frame_50 : decode cX9_frame 50 = .ok (.aload_n 0, 1) := by decide +kernel
theorem dX9_frame_51 : decode cX9_frame 51 = .ok (.getfield 119, 3) := by decide +kernel
theorem dX9_frame_54 : decode cX9_frame 54 = .ok (.iaload, 1) := by decide +kernel
theorem dX9_frame_55 : decode cX9_frame 55 = .ok (.invokestatic 172, 3) := by decide +kernel
theorem dX9_frame_58 : decode cX9_frame 58 = .ok (.putfield 175, 3) := by decide +kernel
theorem dX9_frame_61 : decode cX9_frame 61 = .ok (.return_, 1) := by decide +kernel
theorem dX9_enters_0 : decode cX9_enters 0 = .ok (.aload_n 0, 1) := by decide +kernel
theorem dX9_enters_1 : decode cX9_enters 1 = .ok (.dup, 1) := by decide +kernel
theorem dX9_enters_2 : decode cX9_enters 2 = .ok (.getfield 119, 3) := by decide +kernel
theorem dX9_enters_5 : decode cX9_enters 5 = .ok (.iconst 1, 1) := by decide +kernel
theorem dX9_enters_6 : decode cX9_enters 6 = .ok (.iadd, 1) := by decide +kernel
theorem dX9_enters_7 : decode cX9_enters 7 = .ok (.putfield 119, 3) := by decide +kernel
theorem dX9_enters_10 : decode cX9_enters 10 = .ok (.aload_n 0, 1) := by decide +kernel
theorem dX9_enters_11 : decode cX9_enters 11 = .ok (.getfield 66, 3) := by decide +kernel
theorem dX9_enters_14 : decode cX9_enters 14 = .ok (.aload_n 0, 1) := by decide +kernel
theorem dX9_enters_15 : decode cX9_enters 15 = .ok (.getfield 119, 3) := by decide +kernel
theorem dX9_enters_18 : decode cX9_enters 18 = .ok (.iload_n 1, 1) := by decide +kernel
theorem dX9_enters_19 : decode cX9_enters 19 = .ok (.iastore, 1) := by decide +kernel
theorem dX9_enters_20 : decode cX9_enters 20 = .ok (.aload_n 0, 1) := by decide +kernel
theorem dX9_enters_21 : decode cX9_enters 21 = .ok (.getfield 69, 3) := by decide +kernel
theorem dX9_enters_24 : decode cX9_enters 24 = .ok (.aload_n 0, 1) := by decide +kernel
theorem dX9_enters_25 : decode cX9_enters 25 = .ok (.getfield 119, 3) := by decide +kernel
theorem dX9_enters_28 : decode cX9_enters 28 = .ok (.iconst 0, 1) := by decide +kernel
theorem dX9_enters_29 : decode cX9_enters 29 = .ok (.iastore, 1) := by decide +kernel
theorem dX9_enters_30 : decode cX9_enters 30 = .ok (.aload_n 0, 1) := by decide +kernel
theorem dX9_enters_31 : decode cX9_enters 31 = .ok (.getfield 91, 3) := by decide +kernel
theorem dX9_enters_34 : decode cX9_enters 34 = .ok (.aload_n 0, 1) := by decide +kernel
theorem dX9_enters_35 : decode cX9_enters 35 = .ok (.getfield 119, 3) := by decide +kernel
theorem dX9_enters_38 : decode cX9_enters 38 = .ok (.iconst 0, 1) := by decide +kernel
theorem dX9_enters_39 : decode cX9_enters 39 = .ok (.bastore, 1) := by decide +kernel
theorem dX9_enters_40 : decode cX9_enters 40 = .ok (.aload_n 0, 1) := by decide +kernel
theorem dX9_enters_41 : decode cX9_enters 41 = .ok (.getfield 94, 3) := by decide +kernel
theorem dX9_enters_44 : decode cX9_enters 44 = .ok (.aload_n 0, 1) := by decide +kernel
theorem dX9_enters_45 : decode cX9_enters 45 = .ok (.getfield 119, 3) := by decide +kernel
theorem dX9_enters_48 : decode cX9_enters 48 = .ok (.lconst 0, 1) := by decide +kernel
theorem dX9_enters_49 : decode cX9_enters 49 = .ok (.lastore, 1) := by decide +kernel
theorem dX9_enters_50 : decode cX9_enters 50 = .ok (.aload_n 0, 1) := by decide +kernel
theorem dX9_enters_51 : decode cX9_enters 51 = .ok (.invokevirtual 249, 3) := by decide +kernel
theorem dX9_enters_54 : decode cX9_enters 54 = .ok (.return_, 1) := by decide +kernel
theorem dX9_isEmpty_0 : decode cX9_isEmpty 0 = .ok (.aload_n 0, 1) := by decide +kernel
theorem dX9_isEmpty_1 : decode cX9_isEmpty 1 = .ok (.getfield 7, 3) := by decide +kernel
theorem dX9_isEmpty_4 : decode cX9_isEmpty 4 = .ok (.iconst 0, 1) := by decide +kernel
theorem dX9_isEmpty_5 : decode cX9_isEmpty 5 = .ok (.iload_n 1, 1) := by decide +kernel
theorem dX9_isEmpty_6 : decode cX9_isEmpty 6 = .ok (.iadd, 1) := by decide +kernel
theorem dX9_isEmpty_7 : decode cX9_isEmpty 7 = .ok (.iaload, 1) := by decide +kernel
theorem dX9_isEmpty_8 : decode cX9_isEmpty 8 = .ok (.ifCond .ne 15, 3) := by decide +kernel
theorem dX9_isEmpty_11 : decode cX9_isEmpty 11 = .ok (.iload_n 1, 1) := by decide +kernel
theorem dX9_isEmpty_12 : decode cX9_isEmpty 12 = .ok (.aload_n 0, 1) := by decide +kernel
theorem dX9_isEmpty_13 : decode cX9_isEmpty 13 = .ok (.getfield 97, 3) := by decide +kernel
theorem dX9_isEmpty_16 : decode cX9_isEmpty 16 = .ok (.if_icmp .eq 7, 3) := by decide +kernel
theorem dX9_isEmpty_19 : decode cX9_isEmpty 19 = .ok (.iconst 1, 1) := by decide +kernel
theorem dX9_isEmpty_20 : decode cX9_isEmpty 20 = .ok (.goto 4, 3) := by decide +kernel
theorem dX9_isEmpty_23 : decode cX9_isEmpty 23 = .ok (.iconst 0, 1) := by decide +kernel
theorem dX9_isEmpty_24 : decode cX9_isEmpty 24 = .ok (.ireturn, 1) := by decide +kernel
theorem dX9_reading_0 : decode cX9_reading 0 = .ok (.iconst 0, 1) := by decide +kernel
theorem dX9_reading_1 : decode cX9_reading 1 = .ok (.istore_n 2, 1) := by decide +kernel
theorem dX9_reading_2 : decode cX9_reading 2 = .ok (.iconst 0, 1) := by decide +kernel
theorem dX9_reading_3 : decode cX9_reading 3 = .ok (.istore_n 3, 1) := by decide +kernel
theorem dX9_reading_4 : decode cX9_reading 4 = .ok (.iload_n 3, 1) := by decide +kernel
theorem dX9_reading_5 : decode cX9_reading 5 = .ok (.aload_n 0, 1) := by decide +kernel
theorem dX9_reading_6 : decode cX9_reading 6 = .ok (.getfield 32, 3) := by decide +kernel
theorem dX9_reading_9 : decode cX9_reading 9 = .ok (.aload_n 0, 1) := by decide +kernel
theorem dX9_reading_10 : decode cX9_reading 10 = .ok (.getfield 236, 3) := by decide +kernel
theorem dX9_reading_13 : decode cX9_reading 13 = .ok (.iaload, 1) := by decide +kernel
theorem dX9_reading_14 : decode cX9_reading 14 = .ok (.if_icmp .ge 37, 3) := by decide +kernel
theorem dX9_reading_17 : decode cX9_reading 17 = .ok (.iload_n 2, 1) := by decide +kernel
theorem dX9_reading_18 : decode cX9_reading 18 = .ok (.ifCond .ne 21, 3) := by decide +kernel
theorem dX9_reading_21 : decode cX9_reading 21 = .ok (.aload_n 0, 1) := by decide +kernel
theorem dX9_reading_22 : decode cX9_reading 22 = .ok (.getfield 35, 3) := by decide +kernel
theorem dX9_reading_25 : decode cX9_reading 25 = .ok (.bipush 72, 2) := by decide +kernel
theorem dX9_reading_27 : decode cX9_reading 27 = .ok (.aload_n 0, 1) := by decide +kernel
theorem dX9_reading_28 : decode cX9_reading 28 = .ok (.getfield 236, 3) := by decide +kernel
theorem dX9_reading_31 : decode cX9_reading 31 = .ok (.imul, 1) := by decide +kernel
theorem dX9_reading_32 : decode cX9_reading 32 = .ok (.iload_n 3, 1) := by decide +kernel
theorem dX9_reading_33 : decode cX9_reading 33 = .ok (.iadd, 1) := by decide +kernel
theorem dX9_reading_34 : decode cX9_reading 34 = .ok (.iaload, 1) := by decide +kernel
theorem dX9_reading_35 : decode cX9_reading 35 = .ok (.iload_n 1, 1) := by decide +kernel
theorem dX9_reading_36 : decode cX9_reading 36 = .ok (.if_icmp .ne 7, 3) := by decide +kernel
theorem dX9_reading_39 : decode cX9_reading 39 = .ok (.iconst 1, 1) := by decide +kernel
theorem dX9_reading_40 : decode cX9_reading 40 = .ok (.goto 4, 3) := by decide +kernel
theorem dX9_reading_43 : decode cX9_reading 43 = .ok (.iconst 0, 1) := by decide +kernel
theorem dX9_reading_44 : decode cX9_reading 44 = .ok (.istore_n 2, 1) := by decide +kernel
theorem dX9_reading_45 : decode cX9_reading 45 = .ok (.iinc 3 1, 3) := by decide +kernel
theorem dX9_reading_48 : decode cX9_reading 48 = .ok (.goto (-44), 3) := by decide +kernel
theorem dX9_reading_51 : decode cX9_reading 51 = .ok (.iload_n 2, 1) := by decide +kernel
theorem dX9_reading_52 : decode cX9_reading 52 = .ok (.ifCond .ne 39, 3) := by decide +kernel
theorem dX9_reading_55 : decode cX9_reading 55 = .ok (.aload_n 0, 1) := by decide +kernel
theorem dX9_reading_56 : decode cX9_reading 56 = .ok (.getfield 35, 3) := by decide +kernel
theorem dX9_reading_59 : decode cX9_reading 59 = .ok (.bipush 72, 2) := by decide +kernel
theorem dX9_reading_61 : decode cX9_reading 61 = .ok (.aload_n 0, 1) := by decide +kernel
theorem dX9_reading_62 : decode cX9_reading 62 = .ok (.getfield 236, 3) := by decide +kernel
theorem dX9_reading_65 : decode cX9_reading 65 = .ok (.imul, 1) := by decide +kernel
theorem dX9_reading_66 : decode cX9_reading 66 = .ok (.aload_n 0, 1) := by decide +kernel
theorem dX9_reading_67 : decode cX9_reading 67 = .ok (.getfield 32, 3) := by decide +kernel
theorem dX9_reading_70 : decode cX9_reading 70 = .ok (.aload_n 0, 1) := by decide +kernel
theorem dX9_reading_71 : decode cX9_reading 71 = .ok (.getfield 236, 3) := by decide +kernel
theorem dX9_reading_74 : decode cX9_reading 74 = .ok (.iaload, 1) := by decide +kernel
theorem dX9_reading_75 : decode cX9_reading 75 = .ok (.iadd, 1) := by decide +kernel
theorem dX9_reading_76 : decode cX9_reading 76 = .ok (.iload_n 1, 1) := by decide +kernel
theorem dX9_reading_77 : decode cX9_reading 77 = .ok (.iastore, 1) := by decide +kernel
theorem dX9_reading_78 : decode cX9_reading 78 = .ok (.aload_n 0, 1) := by decide +kernel
theorem dX9_reading_79 : decode cX9_reading 79 = .ok (.getfield 32, 3) := by decide +kernel
theorem dX9_reading_82 : decode cX9_reading 82 = .ok (.aload_n 0, 1) := by decide +kernel
theorem dX9_reading_83 : decode cX9_reading 83 = .ok (.getfield 236, 3) := by decide +kernel
theorem dX9_reading_86 : decode cX9_reading 86 = .ok (.dup2, 1) := by decide +kernel
theorem dX9_reading_87 : decode cX9_reading 87 = .ok (.iaload, 1) := by decide +kernel
theorem dX9_reading_88 : decode cX9_reading 88 = .ok (.iconst 1, 1) := by decide +kernel
theorem dX9_reading_89 : decode cX9_reading 89 = .ok (.iadd, 1) := by decide +kernel
theorem dX9_reading_90 : decode cX9_reading 90 = .ok (.iastore, 1) := by decide +kernel
theorem dX9_reading_91 : decode cX9_reading 91 = .ok (.aload_n 0, 1) := by decide +kernel
theorem dX9_reading_92 : decode cX9_reading 92 = .ok (.aload_n 0, 1) := by decide +kernel
theorem dX9_reading_93 : decode cX9_reading 93 = .ok (.getfield 56, 3) := by decide +kernel
theorem dX9_reading_96 : decode cX9_reading 96 = .ok (.iload_n 1, 1) := by decide +kernel
theorem dX9_reading_97 : decode cX9_reading 97 = .ok (.baload, 1) := by decide +kernel
theorem dX9_reading_98 : decode cX9_reading 98 = .ok (.ifCond .ne 7, 3) := by decide +kernel
theorem dX9_reading_101 : decode cX9_reading 101 = .ok (.iconst 1, 1) := by decide +kernel
theorem dX9_reading_102 : decode cX9_reading 102 = .ok (.goto 4, 3) := by decide +kernel
theorem dX9_reading_105 : decode cX9_reading 105 = .ok (.iconst 0, 1) := by decide +kernel
theorem dX9_reading_106 : decode cX9_reading 106 = .ok (.putfield 252, 3) := by decide +kernel
theorem dX9_reading_109 : decode cX9_reading 109 = .ok (.aload_n 0, 1) := by decide +kernel
theorem dX9_reading_110 : decode cX9_reading 110 = .ok (.getfield 252, 3) := by decide +kernel
theorem dX9_reading_113 : decode cX9_reading 113 = .ok (.ifCond .ne 22, 3) := by decide +kernel
theorem dX9_reading_116 : decode cX9_reading 116 = .ok (.aload_n 0, 1) := by decide +kernel
theorem dX9_reading_117 : decode cX9_reading 117 = .ok (.getfield 22, 3) := by decide +kernel
theorem dX9_reading_120 : decode cX9_reading 120 = .ok (.iload_n 1, 1) := by decide +kernel
theorem dX9_reading_121 : decode cX9_reading 121 = .ok (.iaload, 1) := by decide +kernel
theorem dX9_reading_122 : decode cX9_reading 122 = .ok (.ifCond .le 13, 3) := by decide +kernel
theorem dX9_reading_125 : decode cX9_reading 125 = .ok (.aload_n 0, 1) := by decide +kernel
theorem dX9_reading_126 : decode cX9_reading 126 = .ok (.aload_n 0, 1) := by decide +kernel
theorem dX9_reading_127 : decode cX9_reading 127 = .ok (.getfield 22, 3) := by decide +kernel
theorem dX9_reading_130 : decode cX9_reading 130 = .ok (.iload_n 1, 1) := by decide +kernel
theorem dX9_reading_131 : decode cX9_reading 131 = .ok (.iaload, 1) := by decide +kernel
theorem dX9_reading_132 : decode cX9_reading 132 = .ok (.invokevirtual 246, 3) := by decide +kernel
theorem dX9_reading_135 : decode cX9_reading 135 = .ok (.aload_n 0, 1) := by decide +kernel
theorem dX9_reading_136 : decode cX9_reading 136 = .ok (.getfield 19, 3) := by decide +kernel
theorem dX9_reading_139 : decode cX9_reading 139 = .ok (.iload_n 1, 1) := by decide +kernel
theorem dX9_reading_140 : decode cX9_reading 140 = .ok (.iaload, 1) := by decide +kernel
theorem dX9_reading_141 : decode cX9_reading 141 = .ok (.i2l, 1) := by decide +kernel
theorem dX9_reading_142 : decode cX9_reading 142 = .ok (.lreturn, 1) := by decide +kernel
theorem dX9_goesOn_0 : decode cX9_goesOn 0 = .ok (.aload_n 0, 1) := by decide +kernel
theorem dX9_goesOn_1 : decode cX9_goesOn 1 = .ok (.getfield 239, 3) := by decide +kernel
theorem dX9_goesOn_4 : decode cX9_goesOn 4 = .ok (.ifCond .ne 14, 3) := by decide +kernel
theorem dX9_goesOn_7 : decode cX9_goesOn 7 = .ok (.aload_n 0, 1) := by decide +kernel
theorem dX9_goesOn_8 : decode cX9_goesOn 8 = .ok (.getfield 252, 3) := by decide +kernel
theorem dX9_goesOn_11 : decode cX9_goesOn 11 = .ok (.ifCond .ne 7, 3) := by decide +kernel
theorem dX9_goesOn_14 : decode cX9_goesOn 14 = .ok (.iconst 1, 1) := by decide +kernel
theorem dX9_goesOn_15 : decode cX9_goesOn 15 = .ok (.goto 4, 3) := by decide +kernel
theorem dX9_goesOn_18 : decode cX9_goesOn 18 = .ok (.iconst 0, 1) := by decide +kernel
theorem dX9_goesOn_19 : decode cX9_goesOn 19 = .ok (.ireturn, 1) := by decide +kernel
theorem dX9_gives_0 : decode cX9_gives 0 = .ok (.aload_n 0, 1) := by decide +kernel
theorem dX9_gives_1 : decode cX9_gives 1 = .ok (.getfield 72, 3) := by decide +kernel
theorem dX9_gives_4 : decode cX9_gives 4 = .ok (.aload_n 0, 1) := by decide +kernel
theorem dX9_gives_5 : decode cX9_gives 5 = .ok (.getfield 119, 3) := by decide +kernel
theorem dX9_gives_8 : decode cX9_gives 8 = .ok (.baload, 1) := by decide +kernel
theorem dX9_gives_9 : decode cX9_gives 9 = .ok (.ifCond .eq 8, 3) := by decide +kernel
theorem dX9_gives_12 : decode cX9_gives 12 = .ok (.lload_n 1, 1) := by decide +kernel
theorem dX9_gives_13 : decode cX9_gives 13 = .ok (.lneg, 1) := by decide +kernel
theorem dX9_gives_14 : decode cX9_gives 14 = .ok (.goto 4, 3) := by decide +kernel
theorem dX9_gives_17 : decode cX9_gives 17 = .ok (.lload_n 1, 1) := by decide +kernel
theorem dX9_gives_18 : decode cX9_gives 18 = .ok (.lstore_n 3, 1) := by decide +kernel
theorem dX9_gives_19 : decode cX9_gives 19 = .ok (.aload_n 0, 1) := by decide +kernel
theorem dX9_gives_20 : decode cX9_gives 20 = .ok (.getfield 72, 3) := by decide +kernel
theorem dX9_gives_23 : decode cX9_gives 23 = .ok (.aload_n 0, 1) := by decide +kernel
theorem dX9_gives_24 : decode cX9_gives 24 = .ok (.getfield 119, 3) := by decide +kernel
theorem dX9_gives_27 : decode cX9_gives 27 = .ok (.iconst 0, 1) := by decide +kernel
theorem dX9_gives_28 : decode cX9_gives 28 = .ok (.bastore, 1) := by decide +kernel
theorem dX9_gives_29 : decode cX9_gives 29 = .ok (.aload_n 0, 1) := by decide +kernel
theorem dX9_gives_30 : decode cX9_gives 30 = .ok (.getfield 78, 3) := by decide +kernel
theorem dX9_gives_33 : decode cX9_gives 33 = .ok (.aload_n 0, 1) := by decide +kernel
theorem dX9_gives_34 : decode cX9_gives 34 = .ok (.getfield 119, 3) := by decide +kernel
theorem dX9_gives_37 : decode cX9_gives 37 = .ok (.aload_n 0, 1) := by decide +kernel
theorem dX9_gives_38 : decode cX9_gives 38 = .ok (.getfield 75, 3) := by decide +kernel
theorem dX9_gives_41 : decode cX9_gives 41 = .ok (.aload_n 0, 1) := by decide +kernel
theorem dX9_gives_42 : decode cX9_gives 42 = .ok (.getfield 119, 3) := by decide +kernel
theorem dX9_gives_45 : decode cX9_gives 45 = .ok (.baload, 1) := by decide +kernel
theorem dX9_gives_46 : decode cX9_gives 46 = .ok (.ifCond .eq 28, 3) := by decide +kernel
theorem dX9_gives_49 : decode cX9_gives 49 = .ok (.aload_n 0, 1) := by decide +kernel
theorem dX9_gives_50 : decode cX9_gives 50 = .ok (.getfield 239, 3) := by decide +kernel
theorem dX9_gives_53 : decode cX9_gives 53 = .ok (.ifCond .ne 21, 3) := by decide +kernel
theorem dX9_gives_56 : decode cX9_gives 56 = .ok (.aload_n 0, 1) := by decide +kernel
theorem dX9_gives_57 : decode cX9_gives 57 = .ok (.aload_n 0, 1) := by decide +kernel
theorem dX9_gives_58 : decode cX9_gives 58 = .ok (.getfield 78, 3) := by decide +kernel
theorem dX9_gives_61 : decode cX9_gives 61 = .ok (.aload_n 0, 1) := by decide +kernel
theorem dX9_gives_62 : decode cX9_gives 62 = .ok (.getfield 119, 3) := by decide +kernel
theorem dX9_gives_65 : decode cX9_gives 65 = .ok (.laload, 1) := by decide +kernel
theorem dX9_gives_66 : decode cX9_gives 66 = .ok (.lload_n 3, 1) := by decide +kernel
theorem dX9_gives_67 : decode cX9_gives 67 = .ok (.lmul, 1) := by decide +kernel
theorem dX9_gives_68 : decode cX9_gives 68 = .ok (.invokevirtual 255, 3) := by decide +kernel
theorem dX9_gives_71 : decode cX9_gives 71 = .ok (.goto 4, 3) := by decide +kernel
theorem dX9_gives_74 : decode cX9_gives 74 = .ok (.lload_n 3, 1) := by decide +kernel
theorem dX9_gives_75 : decode cX9_gives 75 = .ok (.lastore, 1) := by decide +kernel
theorem dX9_gives_76 : decode cX9_gives 76 = .ok (.aload_n 0, 1) := by decide +kernel
theorem dX9_gives_77 : decode cX9_gives 77 = .ok (.getfield 75, 3) := by decide +kernel
theorem dX9_gives_80 : decode cX9_gives 80 = .ok (.aload_n 0, 1) := by decide +kernel
theorem dX9_gives_81 : decode cX9_gives 81 = .ok (.getfield 119, 3) := by decide +kernel
theorem dX9_gives_84 : decode cX9_gives 84 = .ok (.iconst 1, 1) := by decide +kernel
theorem dX9_gives_85 : decode cX9_gives 85 = .ok (.bastore, 1) := by decide +kernel
theorem dX9_gives_86 : decode cX9_gives 86 = .ok (.aload_n 0, 1) := by decide +kernel
theorem dX9_gives_87 : decode cX9_gives 87 = .ok (.iconst 0, 1) := by decide +kernel
theorem dX9_gives_88 : decode cX9_gives 88 = .ok (.putfield 182, 3) := by decide +kernel
theorem dX9_gives_91 : decode cX9_gives 91 = .ok (.return_, 1) := by decide +kernel
theorem dX9_leaves_0 : decode cX9_leaves 0 = .ok (.aload_n 0, 1) := by decide +kernel
theorem dX9_leaves_1 : decode cX9_leaves 1 = .ok (.dup, 1) := by decide +kernel
theorem dX9_leaves_2 : decode cX9_leaves 2 = .ok (.getfield 116, 3) := by decide +kernel
theorem dX9_leaves_5 : decode cX9_leaves 5 = .ok (.iconst 1, 1) := by decide +kernel
theorem dX9_leaves_6 : decode cX9_leaves 6 = .ok (.iadd, 1) := by decide +kernel
theorem dX9_leaves_7 : decode cX9_leaves 7 = .ok (.putfield 116, 3) := by decide +kernel
theorem dX9_leaves_10 : decode cX9_leaves 10 = .ok (.aload_n 0, 1) := by decide +kernel
theorem dX9_leaves_11 : decode cX9_leaves 11 = .ok (.dup, 1) := by decide +kernel
theorem dX9_leaves_12 : decode cX9_leaves 12 = .ok (.getfield 119, 3) := by decide +kernel
theorem dX9_leaves_15 : decode cX9_leaves 15 = .ok (.iconst 1, 1) := by decide +kernel
theorem dX9_leaves_16 : decode cX9_leaves 16 = .ok (.isub, 1) := by decide +kernel
theorem dX9_leaves_17 : decode cX9_leaves 17 = .ok (.putfield 119, 3) := by decide +kernel
theorem dX9_leaves_20 : decode cX9_leaves 20 = .ok (.aload_n 0, 1) := by decide +kernel
theorem dX9_leaves_21 : decode cX9_leaves 21 = .ok (.lload_n 1, 1) := by decide +kernel
theorem dX9_leaves_22 : decode cX9_leaves 22 = .ok (.invokevirtual 259, 3) := by decide +kernel
theorem dX9_leaves_25 : decode cX9_leaves 25 = .ok (.return_, 1) := by decide +kernel
theorem dX9_folds_0 : decode cX9_folds 0 = .ok (.aload_n 0, 1) := by decide +kernel
theorem dX9_folds_1 : decode cX9_folds 1 = .ok (.getfield 78, 3) := by decide +kernel
theorem dX9_folds_4 : decode cX9_folds 4 = .ok (.aload_n 0, 1) := by decide +kernel
theorem dX9_folds_5 : decode cX9_folds 5 = .ok (.getfield 119, 3) := by decide +kernel
theorem dX9_folds_8 : decode cX9_folds 8 = .ok (.laload, 1) := by decide +kernel
theorem dX9_folds_9 : decode cX9_folds 9 = .ok (.lstore_n 1, 1) := by decide +kernel
theorem dX9_folds_10 : decode cX9_folds 10 = .ok (.aload_n 0, 1) := by decide +kernel
theorem dX9_folds_11 : decode cX9_folds 11 = .ok (.getfield 82, 3) := by decide +kernel
theorem dX9_folds_14 : decode cX9_folds 14 = .ok (.aload_n 0, 1) := by decide +kernel
theorem dX9_folds_15 : decode cX9_folds 15 = .ok (.getfield 119, 3) := by decide +kernel
theorem dX9_folds_18 : decode cX9_folds 18 = .ok (.aload_n 0, 1) := by decide +kernel
theorem dX9_folds_19 : decode cX9_folds 19 = .ok (.aload_n 0, 1) := by decide +kernel
theorem dX9_folds_20 : decode cX9_folds 20 = .ok (.getfield 85, 3) := by decide +kernel
theorem dX9_folds_23 : decode cX9_folds 23 = .ok (.aload_n 0, 1) := by decide +kernel
theorem dX9_folds_24 : decode cX9_folds 24 = .ok (.getfield 119, 3) := by decide +kernel
theorem dX9_folds_27 : decode cX9_folds 27 = .ok (.iaload, 1) := by decide +kernel
theorem dX9_folds_28 : decode cX9_folds 28 = .ok (.ifCond .ne 7, 3) := by decide +kernel
theorem dX9_folds_31 : decode cX9_folds 31 = .ok (.lload_n 1, 1) := by decide +kernel
theorem dX9_folds_32 : decode cX9_folds 32 = .ok (.goto 40, 3) := by decide +kernel
theorem dX9_folds_35 : decode cX9_folds 35 = .ok (.aload_n 0, 1) := by decide +kernel
theorem dX9_folds_36 : decode cX9_folds 36 = .ok (.getfield 85, 3) := by decide +kernel
theorem dX9_folds_39 : decode cX9_folds 39 = .ok (.aload_n 0, 1) := by decide +kernel
theorem dX9_folds_40 : decode cX9_folds 40 = .ok (.getfield 119, 3) := by decide +kernel
theorem dX9_folds_43 : decode cX9_folds 43 = .ok (.iaload, 1) := by decide +kernel
theorem dX9_folds_44 : decode cX9_folds 44 = .ok (.ifCond .le 17, 3) := by decide +kernel
theorem dX9_folds_47 : decode cX9_folds 47 = .ok (.aload_n 0, 1) := by decide +kernel
theorem dX9_folds_48 : decode cX9_folds 48 = .ok (.getfield 82, 3) := by decide +kernel
theorem dX9_folds_51 : decode cX9_folds 51 = .ok (.aload_n 0, 1) := by decide +kernel
theorem dX9_folds_52 : decode cX9_folds 52 = .ok (.getfield 119, 3) := by decide +kernel
theorem dX9_folds_55 : decode cX9_folds 55 = .ok (.laload, 1) := by decide +kernel
theorem dX9_folds_56 : decode cX9_folds 56 = .ok (.lload_n 1, 1) := by decide +kernel
theorem dX9_folds_57 : decode cX9_folds 57 = .ok (.ladd, 1) := by decide +kernel
theorem dX9_folds_58 : decode cX9_folds 58 = .ok (.goto 14, 3) := by decide +kernel
theorem dX9_folds_61 : decode cX9_folds 61 = .ok (.aload_n 0, 1) := by decide +kernel
theorem dX9_folds_62 : decode cX9_folds 62 = .ok (.getfield 82, 3) := by decide +kernel
theorem dX9_folds_65 : decode cX9_folds 65 = .ok (.aload_n 0, 1) := by decide +kernel
theorem dX9_folds_66 : decode cX9_folds 66 = .ok (.getfield 119, 3) := by decide +kernel
theorem dX9_folds_69 : decode cX9_folds 69 = .ok (.laload, 1) := by decide +kernel
theorem dX9_folds_70 : decode cX9_folds 70 = .ok (.lload_n 1, 1) := by decide +kernel
theorem dX9_folds_71 : decode cX9_folds 71 = .ok (.lsub, 1) := by decide +kernel
theorem dX9_folds_72 : decode cX9_folds 72 = .ok (.invokevirtual 255, 3) := by decide +kernel
theorem dX9_folds_75 : decode cX9_folds 75 = .ok (.lastore, 1) := by decide +kernel
theorem dX9_folds_76 : decode cX9_folds 76 = .ok (.aload_n 0, 1) := by decide +kernel
theorem dX9_folds_77 : decode cX9_folds 77 = .ok (.getfield 75, 3) := by decide +kernel
theorem dX9_folds_80 : decode cX9_folds 80 = .ok (.aload_n 0, 1) := by decide +kernel
theorem dX9_folds_81 : decode cX9_folds 81 = .ok (.getfield 119, 3) := by decide +kernel
theorem dX9_folds_84 : decode cX9_folds 84 = .ok (.iconst 0, 1) := by decide +kernel
theorem dX9_folds_85 : decode cX9_folds 85 = .ok (.bastore, 1) := by decide +kernel
theorem dX9_folds_86 : decode cX9_folds 86 = .ok (.return_, 1) := by decide +kernel
theorem dX9_cellHere_0 : decode cX9_cellHere 0 = .ok (.bipush 8, 2) := by decide +kernel
theorem dX9_cellHere_2 : decode cX9_cellHere 2 = .ok (.aload_n 0, 1) := by decide +kernel
theorem dX9_cellHere_3 : decode cX9_cellHere 3 = .ok (.iconst 1, 1) := by decide +kernel
theorem dX9_cellHere_4 : decode cX9_cellHere 4 = .ok (.invokevirtual 263, 3) := by decide +kernel
theorem dX9_cellHere_7 : decode cX9_cellHere 7 = .ok (.bipush 49, 2) := by decide +kernel
theorem dX9_cellHere_9 : decode cX9_cellHere 9 = .ok (.isub, 1) := by decide +kernel
theorem dX9_cellHere_10 : decode cX9_cellHere 10 = .ok (.imul, 1) := by decide +kernel
theorem dX9_cellHere_11 : decode cX9_cellHere 11 = .ok (.aload_n 0, 1) := by decide +kernel
theorem dX9_cellHere_12 : decode cX9_cellHere 12 = .ok (.invokevirtual 266, 3) := by decide +kernel
theorem dX9_cellHere_15 : decode cX9_cellHere 15 = .ok (.iadd, 1) := by decide +kernel
theorem dX9_cellHere_16 : decode cX9_cellHere 16 = .ok (.bipush 97, 2) := by decide +kernel
theorem dX9_cellHere_18 : decode cX9_cellHere 18 = .ok (.isub, 1) := by decide +kernel
theorem dX9_cellHere_19 : decode cX9_cellHere 19 = .ok (.ireturn, 1) := by decide +kernel
theorem dX9_isAreaHere_0 : decode cX9_isAreaHere 0 = .ok (.aload_n 0, 1) := by decide +kernel
theorem dX9_isAreaHere_1 : decode cX9_isAreaHere 1 = .ok (.iconst 2, 1) := by decide +kernel
theorem dX9_isAreaHere_2 : decode cX9_isAreaHere 2 = .ok (.invokevirtual 263, 3) := by decide +kernel
theorem dX9_isAreaHere_5 : decode cX9_isAreaHere 5 = .ok (.istore_n 1, 1) := by decide +kernel
theorem dX9_isAreaHere_6 : decode cX9_isAreaHere 6 = .ok (.aload_n 0, 1) := by decide +kernel
theorem dX9_isAreaHere_7 : decode cX9_isAreaHere 7 = .ok (.invokevirtual 266, 3) := by decide +kernel
theorem dX9_isAreaHere_10 : decode cX9_isAreaHere 10 = .ok (.invokestatic 161, 3) := by decide +kernel
theorem dX9_isAreaHere_13 : decode cX9_isAreaHere 13 = .ok (.ifCond .eq 36, 3) := by decide +kernel
theorem dX9_isAreaHere_16 : decode cX9_isAreaHere 16 = .ok (.aload_n 0, 1) := by decide +kernel
theorem dX9_isAreaHere_17 : decode cX9_isAreaHere 17 = .ok (.iconst 1, 1) := by decide +kernel
theorem dX9_isAreaHere_18 : decode cX9_isAreaHere 18 = .ok (.invokevirtual 263, 3) := by decide +kernel
theorem dX9_isAreaHere_21 : decode cX9_isAreaHere 21 = .ok (.invokestatic 185, 3) := by decide +kernel
theorem dX9_isAreaHere_24 : decode cX9_isAreaHere 24 = .ok (.ifCond .eq 25, 3) := by decide +kernel
theorem dX9_isAreaHere_27 : decode cX9_isAreaHere 27 = .ok (.iload_n 1, 1) := by decide +kernel
theorem dX9_isAreaHere_28 : decode cX9_isAreaHere 28 = .ok (.bipush 58, 2) := by decide +kernel
theorem dX9_isAreaHere_30 : decode cX9_isAreaHere 30 = .ok (.if_icmp .eq 15, 3) := by decide +kernel
theorem dX9_isAreaHere_33 : decode cX9_isAreaHere 33 = .ok (.iload_n 1, 1) := by decide +kernel
theorem dX9_isAreaHere_34 : decode cX9_isAreaHere 34 = .ok (.bipush 44, 2) := by decide +kernel
theorem dX9_isAreaHere_36 : decode cX9_isAreaHere 36 = .ok (.if_icmp .eq 9, 3) := by decide +kernel
theorem dX9_isAreaHere_39 : decode cX9_isAreaHere 39 = .ok (.iload_n 1, 1) := by decide +kernel
theorem dX9_isAreaHere_40 : decode cX9_isAreaHere 40 = .ok (.bipush 41, 2) := by decide +kernel
theorem dX9_isAreaHere_42 : decode cX9_isAreaHere 42 = .ok (.if_icmp .ne 7, 3) := by decide +kernel
theorem dX9_isAreaHere_45 : decode cX9_isAreaHere 45 = .ok (.iconst 1, 1) := by decide +kernel
theorem dX9_isAreaHere_46 : decode cX9_isAreaHere 46 = .ok (.goto 4, 3) := by decide +kernel
theorem dX9_isAreaHere_49 : decode cX9_isAreaHere 49 = .ok (.iconst 0, 1) := by decide +kernel
theorem dX9_isAreaHere_50 : decode cX9_isAreaHere 50 = .ok (.ireturn, 1) := by decide +kernel
theorem dX9_takes_0 : decode cX9_takes 0 = .ok (.aload_n 0, 1) := by decide +kernel
theorem dX9_takes_1 : decode cX9_takes 1 = .ok (.getfield 94, 3) := by decide +kernel
theorem dX9_takes_4 : decode cX9_takes 4 = .ok (.aload_n 0, 1) := by decide +kernel
theorem dX9_takes_5 : decode cX9_takes 5 = .ok (.getfield 119, 3) := by decide +kernel
theorem dX9_takes_8 : decode cX9_takes 8 = .ok (.laload, 1) := by decide +kernel
theorem dX9_takes_9 : decode cX9_takes 9 = .ok (.lstore_n 3, 1) := by decide +kernel
theorem dX9_takes_10 : decode cX9_takes 10 = .ok (.aload_n 0, 1) := by decide +kernel
theorem dX9_takes_11 : decode cX9_takes 11 = .ok (.getfield 66, 3) := by decide +kernel
theorem dX9_takes_14 : decode cX9_takes 14 = .ok (.aload_n 0, 1) := by decide +kernel
theorem dX9_takes_15 : decode cX9_takes 15 = .ok (.getfield 119, 3) := by decide +kernel
theorem dX9_takes_18 : decode cX9_takes 18 = .ok (.iaload, 1) := by decide +kernel
theorem dX9_takes_19 : decode cX9_takes 19 = .ok (.istore 5, 2) := by decide +kernel
theorem dX9_takes_21 : decode cX9_takes 21 = .ok (.iload 5, 2) := by decide +kernel
theorem dX9_takes_23 : decode cX9_takes 23 = .ok (.bipush 10, 2) := by decide +kernel
theorem dX9_takes_25 : decode cX9_takes 25 = .ok (.if_icmp .ne 18, 3) := by decide +kernel
theorem dX9_takes_28 : decode cX9_takes 28 = .ok (.aload_n 0, 1) := by decide +kernel
theorem dX9_takes_29 : decode cX9_takes 29 = .ok (.getfield 94, 3) := by decide +kernel
theorem dX9_takes_32 : decode cX9_takes 32 = .ok (.aload_n 0, 1) := by decide +kernel
theorem dX9_takes_33 : decode cX9_takes 33 = .ok (.getfield 119, 3) := by decide +kernel
theorem dX9_takes_36 : decode cX9_takes 36 = .ok (.lload_n 3, 1) := by decide +kernel
theorem dX9_takes_37 : decode cX9_takes 37 = .ok (.lconst 1, 1) := by decide +kernel
theorem dX9_takes_38 : decode cX9_takes 38 = .ok (.ladd, 1) := by decide +kernel
theorem dX9_takes_39 : decode cX9_takes 39 = .ok (.lastore, 1) := by decide +kernel
theorem dX9_takes_40 : decode cX9_takes 40 = .ok (.goto 89, 3) := by decide +kernel
theorem dX9_takes_43 : decode cX9_takes 43 = .ok (.iload 5, 2) := by decide +kernel
theorem dX9_takes_45 : decode cX9_takes 45 = .ok (.bipush 9, 2) := by decide +kernel
theorem dX9_takes_47 : decode cX9_takes 47 = .ok (.if_icmp .ne 22, 3) := by decide +kernel
theorem dX9_takes_50 : decode cX9_takes 50 = .ok (.aload_n 0, 1) := by decide +kernel
theorem dX9_takes_51 : decode cX9_takes 51 = .ok (.getfield 94, 3) := by decide +kernel
theorem dX9_takes_54 : decode cX9_takes 54 = .ok (.aload_n 0, 1) := by decide +kernel
theorem dX9_takes_55 : decode cX9_takes 55 = .ok (.getfield 119, 3) := by decide +kernel
theorem dX9_takes_58 : decode cX9_takes 58 = .ok (.aload_n 0, 1) := by decide +kernel
theorem dX9_takes_59 : decode cX9_takes 59 = .ok (.lload_n 3, 1) := by decide +kernel
theorem dX9_takes_60 : decode cX9_takes 60 = .ok (.lload_n 1, 1) := by decide +kernel
theorem dX9_takes_61 : decode cX9_takes 61 = .ok (.ladd, 1) := by decide +kernel
theorem dX9_takes_62 : decode cX9_takes 62 = .ok (.invokevirtual 255, 3) := by decide +kernel
theorem dX9_takes_65 : decode cX9_takes 65 = .ok (.lastore, 1) := by decide +kernel
theorem dX9_takes_66 : decode cX9_takes 66 = .ok (.goto 63, 3) := by decide +kernel
theorem dX9_takes_69 : decode cX9_takes 69 = .ok (.aload_n 0, 1) := by decide +kernel
theorem dX9_takes_70 : decode cX9_takes 70 = .ok (.getfield 91, 3) := by decide +kernel
theorem dX9_takes_73 : decode cX9_takes 73 = .ok (.aload_n 0, 1) := by decide +kernel
theorem dX9_takes_74 : decode cX9_takes 74 = .ok (.getfield 119, 3) := by decide +kernel
theorem dX9_takes_77 : decode cX9_takes 77 = .ok (.baload, 1) := by decide +kernel
theorem dX9_takes_78 : decode cX9_takes 78 = .ok (.ifCond .eq 25, 3) := by decide +kernel
theorem dX9_takes_81 : decode cX9_takes 81 = .ok (.iload 5, 2) := by decide +kernel
theorem dX9_takes_83 : decode cX9_takes 83 = .ok (.bipush 7, 2) := by decide +kernel
theorem dX9_takes_85 : decode cX9_takes 85 = .ok (.if_icmp .ne 12, 3) := by decide +kernel
theorem dX9_takes_88 : decode cX9_takes 88 = .ok (.lload_n 1, 1) := by decide +kernel
theorem dX9_takes_89 : decode cX9_takes 89 = .ok (.lload_n 3, 1) := by decide +kernel
theorem dX9_takes_90 : decode cX9_takes 90 = .ok (.lcmp, 1) := by decide +kernel
theorem dX9_takes_91 : decode cX9_takes 91 = .ok (.ifCond .ge 16, 3) := by decide +kernel
theorem dX9_takes_94 : decode cX9_takes 94 = .ok (.goto 9, 3) := by decide +kernel
theorem dX9_takes_97 : decode cX9_takes 97 = .ok (.lload_n 1, 1) := by decide +kernel
theorem dX9_takes_98 : decode cX9_takes 98 = .ok (.lload_n 3, 1) := by decide +kernel
theorem dX9_takes_99 : decode cX9_takes 99 = .ok (.lcmp, 1) := by decide +kernel
theorem dX9_takes_100 : decode cX9_takes 100 = .ok (.ifCond .le 7, 3) := by decide +kernel
theorem dX9_takes_103 : decode cX9_takes 103 = .ok (.iconst 1, 1) := by decide +kernel
theorem dX9_takes_104 : decode cX9_takes 104 = .ok (.goto 4, 3) := by decide +kernel
theorem dX9_takes_107 : decode cX9_takes 107 = .ok (.iconst 0, 1) := by decide +kernel
theorem dX9_takes_108 : decode cX9_takes 108 = .ok (.istore 6, 2) := by decide +kernel
theorem dX9_takes_110 : decode cX9_takes 110 = .ok (.aload_n 0, 1) := by decide +kernel
theorem dX9_takes_111 : decode cX9_takes 111 = .ok (.getfield 94, 3) := by decide +kernel
theorem dX9_takes_114 : decode cX9_takes 114 = .ok (.aload_n 0, 1) := by decide +kernel
theorem dX9_takes_115 : decode cX9_takes 115 = .ok (.getfield 119, 3) := by decide +kernel
theorem dX9_takes_118 : decode cX9_takes 118 = .ok (.iload 6, 2) := by decide +kernel
theorem dX9_takes_120 : decode cX9_takes 120 = .ok (.ifCond .eq 7, 3) := by decide +kernel
theorem dX9_takes_123 : decode cX9_takes 123 = .ok (.lload_n 1, 1) := by decide +kernel
theorem dX9_takes_124 : decode cX9_takes 124 = .ok (.goto 4, 3) := by decide +kernel
theorem dX9_takes_127 : decode cX9_takes 127 = .ok (.lload_n 3, 1) := by decide +kernel
theorem dX9_takes_128 : decode cX9_takes 128 = .ok (.lastore, 1) := by decide +kernel
theorem dX9_takes_129 : decode cX9_takes 129 = .ok (.aload_n 0, 1) := by decide +kernel
theorem dX9_takes_130 : decode cX9_takes 130 = .ok (.getfield 91, 3) := by decide +kernel
theorem dX9_takes_133 : decode cX9_takes 133 = .ok (.aload_n 0, 1) := by decide +kernel
theorem dX9_takes_134 : decode cX9_takes 134 = .ok (.getfield 119, 3) := by decide +kernel
theorem dX9_takes_137 : decode cX9_takes 137 = .ok (.iconst 1, 1) := by decide +kernel
theorem dX9_takes_138 : decode cX9_takes 138 = .ok (.bastore, 1) := by decide +kernel
theorem dX9_takes_139 : decode cX9_takes 139 = .ok (.return_, 1) := by decide +kernel
theorem dX9_nextPart_0 : decode cX9_nextPart 0 = .ok (.aload_n 0, 1) := by decide +kernel
theorem dX9_nextPart_1 : decode cX9_nextPart 1 = .ok (.invokevirtual 266, 3) := by decide +kernel
theorem dX9_nextPart_4 : decode cX9_nextPart 4 = .ok (.bipush 44, 2) := by decide +kernel
theorem dX9_nextPart_6 : decode cX9_nextPart 6 = .ok (.if_icmp .ne 20, 3) := by decide +kernel
theorem dX9_nextPart_9 : decode cX9_nextPart 9 = .ok (.aload_n 0, 1) := by decide +kernel
theorem dX9_nextPart_10 : decode cX9_nextPart 10 = .ok (.dup, 1) := by decide +kernel
theorem dX9_nextPart_11 : decode cX9_nextPart 11 = .ok (.getfield 116, 3) := by decide +kernel
theorem dX9_nextPart_14 : decode cX9_nextPart 14 = .ok (.iconst 1, 1) := by decide +kernel
theorem dX9_nextPart_15 : decode cX9_nextPart 15 = .ok (.iadd, 1) := by decide +kernel
theorem dX9_nextPart_16 : decode cX9_nextPart 16 = .ok (.putfield 116, 3) := by decide +kernel
theorem dX9_nextPart_19 : decode cX9_nextPart 19 = .ok (.aload_n 0, 1) := by decide +kernel
theorem dX9_nextPart_20 : decode cX9_nextPart 20 = .ok (.invokevirtual 249, 3) := by decide +kernel
theorem dX9_nextPart_23 : decode cX9_nextPart 23 = .ok (.goto 16, 3) := by decide +kernel
theorem dX9_nextPart_26 : decode cX9_nextPart 26 = .ok (.aload_n 0, 1) := by decide +kernel
theorem dX9_nextPart_27 : decode cX9_nextPart 27 = .ok (.aload_n 0, 1) := by decide +kernel
theorem dX9_nextPart_28 : decode cX9_nextPart 28 = .ok (.getfield 94, 3) := by decide +kernel
theorem dX9_nextPart_31 : decode cX9_nextPart 31 = .ok (.aload_n 0, 1) := by decide +kernel
theorem dX9_nextPart_32 : decode cX9_nextPart 32 = .ok (.getfield 119, 3) := by decide +kernel
theorem dX9_nextPart_35 : decode cX9_nextPart 35 = .ok (.laload, 1) := by decide +kernel
theorem dX9_nextPart_36 : decode cX9_nextPart 36 = .ok (.invokevirtual 269, 3) := by decide +kernel
theorem dX9_nextPart_39 : decode cX9_nextPart 39 = .ok (.return_, 1) := by decide +kernel
theorem dX9_readsArea_0 : decode cX9_readsArea 0 = .ok (.aload_n 0, 1) := by decide +kernel
theorem dX9_readsArea_1 : decode cX9_readsArea 1 = .ok (.invokevirtual 272, 3) := by decide +kernel
theorem dX9_readsArea_4 : decode cX9_readsArea 4 = .ok (.istore_n 1, 1) := by decide +kernel
theorem dX9_readsArea_5 : decode cX9_readsArea 5 = .ok (.aload_n 0, 1) := by decide +kernel
theorem dX9_readsArea_6 : decode cX9_readsArea 6 = .ok (.dup, 1) := by decide +kernel
theorem dX9_readsArea_7 : decode cX9_readsArea 7 = .ok (.getfield 116, 3) := by decide +kernel
theorem dX9_readsArea_10 : decode cX9_readsArea 10 = .ok (.iconst 2, 1) := by decide +kernel
theorem dX9_readsArea_11 : decode cX9_readsArea 11 = .ok (.iadd, 1) := by decide +kernel
theorem dX9_readsArea_12 : decode cX9_readsArea 12 = .ok (.putfield 116, 3) := by decide +kernel
theorem dX9_readsArea_15 : decode cX9_readsArea 15 = .ok (.iload_n 1, 1) := by decide +kernel
theorem dX9_readsArea_16 : decode cX9_readsArea 16 = .ok (.istore_n 2, 1) := by decide +kernel
theorem dX9_readsArea_17 : decode cX9_readsArea 17 = .ok (.aload_n 0, 1) := by decide +kernel
theorem dX9_readsArea_18 : decode cX9_readsArea 18 = .ok (.invokevirtual 266, 3) := by decide +kernel
theorem dX9_readsArea_21 : decode cX9_readsArea 21 = .ok (.bipush 58, 2) := by decide +kernel
theorem dX9_readsArea_23 : decode cX9_readsArea 23 = .ok (.if_icmp .ne 28, 3) := by decide +kernel
theorem dX9_readsArea_26 : decode cX9_readsArea 26 = .ok (.aload_n 0, 1) := by decide +kernel
theorem dX9_readsArea_27 : decode cX9_readsArea 27 = .ok (.dup, 1) := by decide +kernel
theorem dX9_readsArea_28 : decode cX9_readsArea 28 = .ok (.getfield 116, 3) := by decide +kernel
theorem dX9_readsArea_31 : decode cX9_readsArea 31 = .ok (.iconst 1, 1) := by decide +kernel
theorem dX9_readsArea_32 : decode cX9_readsArea 32 = .ok (.iadd, 1) := by decide +kernel
theorem dX9_readsArea_33 : decode cX9_readsArea 33 = .ok (.putfield 116, 3) := by decide +kernel
theorem dX9_readsArea_36 : decode cX9_readsArea 36 = .ok (.aload_n 0, 1) := by decide +kernel
theorem dX9_readsArea_37 : decode cX9_readsArea 37 = .ok (.invokevirtual 272, 3) := by decide +kernel
theorem dX9_readsArea_40 : decode cX9_readsArea 40 = .ok (.istore_n 2, 1) := by decide +kernel
theorem dX9_readsArea_41 : decode cX9_readsArea 41 = .ok (.aload_n 0, 1) := by decide +kernel
theorem dX9_readsArea_42 : decode cX9_readsArea 42 = .ok (.dup, 1) := by decide +kernel
theorem dX9_readsArea_43 : decode cX9_readsArea 43 = .ok (.getfield 116, 3) := by decide +kernel
theorem dX9_readsArea_46 : decode cX9_readsArea 46 = .ok (.iconst 2, 1) := by decide +kernel
theorem dX9_readsArea_47 : decode cX9_readsArea 47 = .ok (.iadd, 1) := by decide +kernel
theorem dX9_readsArea_48 : decode cX9_readsArea 48 = .ok (.putfield 116, 3) := by decide +kernel
theorem dX9_readsArea_51 : decode cX9_readsArea 51 = .ok (.iload_n 1, 1) := by decide +kernel
theorem dX9_readsArea_52 : decode cX9_readsArea 52 = .ok (.bipush 8, 2) := by decide +kernel
theorem dX9_readsArea_54 : decode cX9_readsArea 54 = .ok (.idiv, 1) := by decide +kernel
theorem dX9_readsArea_55 : decode cX9_readsArea 55 = .ok (.istore_n 3, 1) := by decide +kernel
theorem dX9_readsArea_56 : decode cX9_readsArea 56 = .ok (.iload_n 3, 1) := by decide +kernel
theorem dX9_readsArea_57 : decode cX9_readsArea 57 = .ok (.iload_n 2, 1) := by decide +kernel
theorem dX9_readsArea_58 : decode cX9_readsArea 58 = .ok (.bipush 8, 2) := by decide +kernel
theorem dX9_readsArea_60 : decode cX9_readsArea 60 = .ok (.idiv, 1) := by decide +kernel
theorem dX9_readsArea_61 : decode cX9_readsArea 61 = .ok (.if_icmp .gt 83, 3) := by decide +kernel
theorem dX9_readsArea_64 : decode cX9_readsArea 64 = .ok (.aload_n 0, 1) := by decide +kernel
theorem dX9_readsArea_65 : decode cX9_readsArea 65 = .ok (.invokevirtual 275, 3) := by decide +kernel
theorem dX9_readsArea_68 : decode cX9_readsArea 68 = .ok (.ifCond .eq 76, 3) := by decide +kernel
theorem dX9_readsArea_71 : decode cX9_readsArea 71 = .ok (.iload_n 1, 1) := by decide +kernel
theorem dX9_readsArea_72 : decode cX9_readsArea 72 = .ok (.bipush 8, 2) := by decide +kernel
theorem dX9_readsArea_74 : decode cX9_readsArea 74 = .ok (.irem, 1) := by decide +kernel
theorem dX9_readsArea_75 : decode cX9_readsArea 75 = .ok (.istore 4, 2) := by decide +kernel
theorem dX9_readsArea_77 : decode cX9_readsArea 77 = .ok (.iload 4, 2) := by decide +kernel
theorem dX9_readsArea_79 : decode cX9_readsArea 79 = .ok (.iload_n 2, 1) := by decide +kernel
theorem dX9_readsArea_80 : decode cX9_readsArea 80 = .ok (.bipush 8, 2) := by decide +kernel
theorem dX9_readsArea_82 : decode cX9_readsArea 82 = .ok (.irem, 1) := by decide +kernel
theorem dX9_readsArea_83 : decode cX9_readsArea 83 = .ok (.if_icmp .gt 55, 3) := by decide +kernel
theorem dX9_readsArea_86 : decode cX9_readsArea 86 = .ok (.aload_n 0, 1) := by decide +kernel
theorem dX9_readsArea_87 : decode cX9_readsArea 87 = .ok (.invokevirtual 275, 3) := by decide +kernel
theorem dX9_readsArea_90 : decode cX9_readsArea 90 = .ok (.ifCond .eq 48, 3) := by decide +kernel
theorem dX9_readsArea_93 : decode cX9_readsArea 93 = .ok (.bipush 8, 2) := by decide +kernel
theorem dX9_readsArea_95 : decode cX9_readsArea 95 = .ok (.iload_n 3, 1) := by decide +kernel
theorem dX9_readsArea_96 : decode cX9_readsArea 96 = .ok (.imul, 1) := by decide +kernel
theorem dX9_readsArea_97 : decode cX9_readsArea 97 = .ok (.iload 4, 2) := by decide +kernel
theorem dX9_readsArea_99 : decode cX9_readsArea 99 = .ok (.iadd, 1) := by decide +kernel
theorem dX9_readsArea_100 : decode cX9_readsArea 100 = .ok (.istore 5, 2) := by decide +kernel
theorem dX9_readsArea_102 : decode cX9_readsArea 102 = .ok (.aload_n 0, 1) := by decide +kernel
theorem dX9_readsArea_103 : decode cX9_readsArea 103 = .ok (.iload 5, 2) := by decide +kernel
theorem dX9_readsArea_105 : decode cX9_readsArea 105 = .ok (.invokevirtual 278, 3) := by decide +kernel
theorem dX9_readsArea_108 : decode cX9_readsArea 108 = .ok (.lstore 6, 2) := by decide +kernel
theorem dX9_readsArea_110 : decode cX9_readsArea 110 = .ok (.aload_n 0, 1) := by decide +kernel
theorem dX9_readsArea_111 : decode cX9_readsArea 111 = .ok (.invokevirtual 275, 3) := by decide +kernel
theorem dX9_readsArea_114 : decode cX9_readsArea 114 = .ok (.ifCond .eq 18, 3) := by decide +kernel
theorem dX9_readsArea_117 : decode cX9_readsArea 117 = .ok (.aload_n 0, 1) := by decide +kernel
theorem dX9_readsArea_118 : decode cX9_readsArea 118 = .ok (.iload 5, 2) := by decide +kernel
theorem dX9_readsArea_120 : decode cX9_readsArea 120 = .ok (.invokevirtual 281, 3) := by decide +kernel
theorem dX9_readsArea_123 : decode cX9_readsArea 123 = .ok (.ifCond .ne 9, 3) := by decide +kernel
theorem dX9_readsArea_126 : decode cX9_readsArea 126 = .ok (.aload_n 0, 1) := by decide +kernel
theorem dX9_readsArea_127 : decode cX9_readsArea 127 = .ok (.lload 6, 2) := by decide +kernel
theorem dX9_readsArea_129 : decode cX9_readsArea 129 = .ok (.invokevirtual 284, 3) := by decide +kernel
theorem dX9_readsArea_132 : decode cX9_readsArea 132 = .ok (.iinc 4 1, 3) := by decide +kernel
theorem dX9_readsArea_135 : decode cX9_readsArea 135 = .ok (.goto (-58), 3) := by decide +kernel
theorem dX9_readsArea_138 : decode cX9_readsArea 138 = .ok (.iinc 3 1, 3) := by decide +kernel
theorem dX9_readsArea_141 : decode cX9_readsArea 141 = .ok (.goto (-85), 3) := by decide +kernel
theorem dX9_readsArea_144 : decode cX9_readsArea 144 = .ok (.aload_n 0, 1) := by decide +kernel
theorem dX9_readsArea_145 : decode cX9_readsArea 145 = .ok (.invokevirtual 275, 3) := by decide +kernel
theorem dX9_readsArea_148 : decode cX9_readsArea 148 = .ok (.ifCond .eq 7, 3) := by decide +kernel
theorem dX9_readsArea_151 : decode cX9_readsArea 151 = .ok (.aload_n 0, 1) := by decide +kernel
theorem dX9_readsArea_152 : decode cX9_readsArea 152 = .ok (.invokevirtual 287, 3) := by decide +kernel
theorem dX9_readsArea_155 : decode cX9_readsArea 155 = .ok (.return_, 1) := by decide +kernel
theorem dX9_function_0 : decode cX9_function 0 = .ok (.aload_n 0, 1) := by decide +kernel
theorem dX9_function_1 : decode cX9_function 1 = .ok (.invokevirtual 266, 3) := by decide +kernel
theorem dX9_function_4 : decode cX9_function 4 = .ok (.istore_n 1, 1) := by decide +kernel
theorem dX9_function_5 : decode cX9_function 5 = .ok (.aload_n 0, 1) := by decide +kernel
theorem dX9_function_6 : decode cX9_function 6 = .ok (.iconst 1, 1) := by decide +kernel
theorem dX9_function_7 : decode cX9_function 7 = .ok (.invokevirtual 263, 3) := by decide +kernel
theorem dX9_function_10 : decode cX9_function 10 = .ok (.istore_n 2, 1) := by decide +kernel
theorem dX9_function_11 : decode cX9_function 11 = .ok (.iload_n 1, 1) := by decide +kernel
theorem dX9_function_12 : decode cX9_function 12 = .ok (.bipush 109, 2) := by decide +kernel
theorem dX9_function_14 : decode cX9_function 14 = .ok (.if_icmp .ne 27, 3) := by decide +kernel
theorem dX9_function_17 : decode cX9_function 17 = .ok (.iload_n 2, 1) := by decide +kernel
theorem dX9_function_18 : decode cX9_function 18 = .ok (.bipush 111, 2) := by decide +kernel
theorem dX9_function_20 : decode cX9_function 20 = .ok (.if_icmp .ne 7, 3) := by decide +kernel
theorem dX9_function_23 : decode cX9_function 23 = .ok (.iconst 5, 1) := by decide +kernel
theorem dX9_function_24 : decode cX9_function 24 = .ok (.goto 16, 3) := by decide +kernel
theorem dX9_function_27 : decode cX9_function 27 = .ok (.iload_n 2, 1) := by decide +kernel
theorem dX9_function_28 : decode cX9_function 28 = .ok (.bipush 105, 2) := by decide +kernel
theorem dX9_function_30 : decode cX9_function 30 = .ok (.if_icmp .ne 8, 3) := by decide +kernel
theorem dX9_function_33 : decode cX9_function 33 = .ok (.bipush 7, 2) := by decide +kernel
theorem dX9_function_35 : decode cX9_function 35 = .ok (.goto 5, 3) := by decide +kernel
theorem dX9_function_38 : decode cX9_function 38 = .ok (.bipush 8, 2) := by decide +kernel
theorem dX9_function_40 : decode cX9_function 40 = .ok (.ireturn, 1) := by decide +kernel
theorem dX9_function_41 : decode cX9_function 41 = .ok (.iload_n 1, 1) := by decide +kernel
theorem dX9_function_42 : decode cX9_function 42 = .ok (.bipush 105, 2) := by decide +kernel
theorem dX9_function_44 : decode cX9_function 44 = .ok (.if_icmp .ne 7, 3) := by decide +kernel
theorem dX9_function_47 : decode cX9_function 47 = .ok (.iconst 2, 1) := by decide +kernel
theorem dX9_function_48 : decode cX9_function 48 = .ok (.goto 47, 3) := by decide +kernel
theorem dX9_function_51 : decode cX9_function 51 = .ok (.iload_n 1, 1) := by decide +kernel
theorem dX9_function_52 : decode cX9_function 52 = .ok (.bipush 112, 2) := by decide +kernel
theorem dX9_function_54 : decode cX9_function 54 = .ok (.if_icmp .ne 7, 3) := by decide +kernel
theorem dX9_function_57 : decode cX9_function 57 = .ok (.iconst 3, 1) := by decide +kernel
theorem dX9_function_58 : decode cX9_function 58 = .ok (.goto 37, 3) := by decide +kernel
theorem dX9_function_61 : decode cX9_function 61 = .ok (.iload_n 1, 1) := by decide +kernel
theorem dX9_function_62 : decode cX9_function 62 = .ok (.bipush 100, 2) := by decide +kernel
theorem dX9_function_64 : decode cX9_function 64 = .ok (.if_icmp .ne 7, 3) := by decide +kernel
theorem dX9_function_67 : decode cX9_function 67 = .ok (.iconst 4, 1) := by decide +kernel
theorem dX9_function_68 : decode cX9_function 68 = .ok (.goto 27, 3) := by decide +kernel
theorem dX9_function_71 : decode cX9_function 71 = .ok (.iload_n 1, 1) := by decide +kernel
theorem dX9_function_72 : decode cX9_function 72 = .ok (.bipush 97, 2) := by decide +kernel
theorem dX9_function_74 : decode cX9_function 74 = .ok (.if_icmp .ne 8, 3) := by decide +kernel
theorem dX9_function_77 : decode cX9_function 77 = .ok (.bipush 6, 2) := by decide +kernel
theorem dX9_function_79 : decode cX9_function 79 = .ok (.goto 16, 3) := by decide +kernel
theorem dX9_function_82 : decode cX9_function 82 = .ok (.iload_n 1, 1) := by decide +kernel
theorem dX9_function_83 : decode cX9_function 83 = .ok (.bipush 115, 2) := by decide +kernel
theorem dX9_function_85 : decode cX9_function 85 = .ok (.if_icmp .ne 8, 3) := by decide +kernel
theorem dX9_function_88 : decode cX9_function 88 = .ok (.bipush 9, 2) := by decide +kernel
theorem dX9_function_90 : decode cX9_function 90 = .ok (.goto 5, 3) := by decide +kernel
theorem dX9_function_93 : decode cX9_function 93 = .ok (.bipush 10, 2) := by decide +kernel
theorem dX9_function_95 : decode cX9_function 95 = .ok (.ireturn, 1) := by decide +kernel
theorem dX9_factor_0 : decode cX9_factor 0 = .ok (.aload_n 0, 1) := by decide +kernel
theorem dX9_factor_1 : decode cX9_factor 1 = .ok (.getfield 175, 3) := by decide +kernel
theorem dX9_factor_4 : decode cX9_factor 4 = .ok (.istore_n 1, 1) := by decide +kernel
theorem dX9_factor_5 : decode cX9_factor 5 = .ok (.aload_n 0, 1) := by decide +kernel
theorem dX9_factor_6 : decode cX9_factor 6 = .ok (.invokevirtual 266, 3) := by decide +kernel
theorem dX9_factor_9 : decode cX9_factor 9 = .ok (.istore_n 2, 1) := by decide +kernel
theorem dX9_factor_10 : decode cX9_factor 10 = .ok (.aload_n 0, 1) := by decide +kernel
theorem dX9_factor_11 : decode cX9_factor 11 = .ok (.iconst 0, 1) := by decide +kernel
theorem dX9_factor_12 : decode cX9_factor 12 = .ok (.putfield 175, 3) := by decide +kernel
theorem dX9_factor_15 : decode cX9_factor 15 = .ok (.iload_n 1, 1) := by decide +kernel
theorem dX9_factor_16 : decode cX9_factor 16 = .ok (.ifCond .eq 17, 3) := by decide +kernel
theorem dX9_factor_19 : decode cX9_factor 19 = .ok (.aload_n 0, 1) := by decide +kernel
theorem dX9_factor_20 : decode cX9_factor 20 = .ok (.invokevirtual 290, 3) := by decide +kernel
theorem dX9_factor_23 : decode cX9_factor 23 = .ok (.ifCond .eq 10, 3) := by decide +kernel
theorem dX9_factor_26 : decode cX9_factor 26 = .ok (.aload_n 0, 1) := by decide +kernel
theorem dX9_factor_27 : decode cX9_factor 27 = .ok (.invokevirtual 293, 3) := by decide +kernel
theorem dX9_factor_30 : decode cX9_factor 30 = .ok (.goto 207, 3) := by decide +kernel
theorem dX9_factor_33 : decode cX9_factor 33 = .ok (.iload_n 2, 1) := by decide +kernel
theorem dX9_factor_34 : decode cX9_factor 34 = .ok (.bipush 45, 2) := by decide +kernel
theorem dX9_factor_36 : decode cX9_factor 36 = .ok (.if_icmp .ne 42, 3) := by decide +kernel
theorem dX9_factor_39 : decode cX9_factor 39 = .ok (.aload_n 0, 1) := by decide +kernel
theorem dX9_factor_40 : decode cX9_factor 40 = .ok (.getfield 72, 3) := by decide +kernel
theorem dX9_factor_43 : decode cX9_factor 43 = .ok (.aload_n 0, 1) := by decide +kernel
theorem dX9_factor_44 : decode cX9_factor 44 = .ok (.getfield 119, 3) := by decide +kernel
theorem dX9_factor_47 : decode cX9_factor 47 = .ok (.aload_n 0, 1) := by decide +kernel
theorem dX9_factor_48 : decode cX9_factor 48 = .ok (.getfield 72, 3) := by decide +kernel
theorem dX9_factor_51 : decode cX9_factor 51 = .ok (.aload_n 0, 1) := by decide +kernel
theorem dX9_factor_52 : decode cX9_factor 52 = .ok (.getfield 119, 3) := by decide +kernel
theorem dX9_factor_55 : decode cX9_factor 55 = .ok (.baload, 1) := by decide +kernel
theorem dX9_factor_56 : decode cX9_factor 56 = .ok (.ifCond .ne 7, 3) := by decide +kernel
theorem dX9_factor_59 : decode cX9_factor 59 = .ok (.iconst 1, 1) := by decide +kernel
theorem dX9_factor_60 : decode cX9_factor 60 = .ok (.goto 4, 3) := by decide +kernel
theorem dX9_factor_63 : decode cX9_factor 63 = .ok (.iconst 0, 1) := by decide +kernel
theorem dX9_factor_64 : decode cX9_factor 64 = .ok (.bastore, 1) := by decide +kernel
theorem dX9_factor_65 : decode cX9_factor 65 = .ok (.aload_n 0, 1) := by decide +kernel
theorem dX9_factor_66 : decode cX9_factor 66 = .ok (.dup, 1) := by decide +kernel
theorem dX9_factor_67 : decode cX9_factor 67 = .ok (.getfield 116, 3) := by decide +kernel
theorem dX9_factor_70 : decode cX9_factor 70 = .ok (.iconst 1, 1) := by decide +kernel
theorem dX9_factor_71 : decode cX9_factor 71 = .ok (.iadd, 1) := by decide +kernel
theorem dX9_factor_72 : decode cX9_factor 72 = .ok (.putfield 116, 3) := by decide +kernel
theorem dX9_factor_75 : decode cX9_factor 75 = .ok (.goto 162, 3) := by decide +kernel
theorem dX9_factor_78 : decode cX9_factor 78 = .ok (.iload_n 2, 1) := by decide +kernel
theorem dX9_factor_79 : decode cX9_factor 79 = .ok (.invokestatic 185, 3) := by decide +kernel
theorem dX9_factor_82 : decode cX9_factor 82 = .ok (.ifCond .eq 52, 3) := by decide +kernel
theorem dX9_factor_85 : decode cX9_factor 85 = .ok (.lconst 0, 1) := by decide +kernel
theorem dX9_factor_86 : decode cX9_factor 86 = .ok (.lstore_n 3, 1) := by decide +kernel
theorem dX9_factor_87 : decode cX9_factor 87 = .ok (.aload_n 0, 1) := by decide +kernel
theorem dX9_factor_88 : decode cX9_factor 88 = .ok (.invokevirtual 266, 3) := by decide +kernel
theorem dX9_factor_91 : decode cX9_factor 91 = .ok (.invokestatic 185, 3) := by decide +kernel
theorem dX9_factor_94 : decode cX9_factor 94 = .ok (.ifCond .eq 32, 3) := by decide +kernel
theorem dX9_factor_97 : decode cX9_factor 97 = .ok (.ldc2_w 296, 3) := by decide +kernel
theorem dX9_factor_100 : decode cX9_factor 100 = .ok (.lload_n 3, 1) := by decide +kernel
theorem dX9_factor_101 : decode cX9_factor 101 = .ok (.lmul, 1) := by decide +kernel
theorem dX9_factor_102 : decode cX9_factor 102 = .ok (.aload_n 0, 1) := by decide +kernel
theorem dX9_factor_103 : decode cX9_factor 103 = .ok (.invokevirtual 266, 3) := by decide +kernel
theorem dX9_factor_106 : decode cX9_factor 106 = .ok (.i2l, 1) := by decide +kernel
theorem dX9_factor_107 : decode cX9_factor 107 = .ok (.ladd, 1) := by decide +kernel
theorem dX9_factor_108 : decode cX9_factor 108 = .ok (.ldc2_w 298, 3) := by decide +kernel
theorem dX9_factor_111 : decode cX9_factor 111 = .ok (.lsub, 1) := by decide +kernel
theorem dX9_factor_112 : decode cX9_factor 112 = .ok (.lstore_n 3, 1) := by decide +kernel
theorem dX9_factor_113 : decode cX9_factor 113 = .ok (.aload_n 0, 1) := by decide +kernel
theorem dX9_factor_114 : decode cX9_factor 114 = .ok (.dup, 1) := by decide +kernel
theorem dX9_factor_115 : decode cX9_factor 115 = .ok (.getfield 116, 3) := by decide +kernel
theorem dX9_factor_118 : decode cX9_factor 118 = .ok (.iconst 1, 1) := by decide +kernel
theorem dX9_factor_119 : decode cX9_factor 119 = .ok (.iadd, 1) := by decide +kernel
theorem dX9_factor_120 : decode cX9_factor 120 = .ok (.putfield 116, 3) := by decide +kernel
theorem dX9_factor_123 : decode cX9_factor 123 = .ok (.goto (-36), 3) := by decide +kernel
theorem dX9_factor_126 : decode cX9_factor 126 = .ok (.aload_n 0, 1) := by decide +kernel
theorem dX9_factor_127 : decode cX9_factor 127 = .ok (.lload_n 3, 1) := by decide +kernel
theorem dX9_factor_128 : decode cX9_factor 128 = .ok (.invokevirtual 259, 3) := by decide +kernel
theorem dX9_factor_131 : decode cX9_factor 131 = .ok (.goto 106, 3) := by decide +kernel
theorem dX9_factor_134 : decode cX9_factor 134 = .ok (.iload_n 2, 1) := by decide +kernel
theorem dX9_factor_135 : decode cX9_factor 135 = .ok (.bipush 40, 2) := by decide +kernel
theorem dX9_factor_137 : decode cX9_factor 137 = .ok (.if_icmp .ne 21, 3) := by decide +kernel
theorem dX9_factor_140 : decode cX9_factor 140 = .ok (.aload_n 0, 1) := by decide +kernel
theorem dX9_factor_141 : decode cX9_factor 141 = .ok (.dup, 1) := by decide +kernel
theorem dX9_factor_142 : decode cX9_factor 142 = .ok (.getfield 116, 3) := by decide +kernel
theorem dX9_factor_145 : decode cX9_factor 145 = .ok (.iconst 1, 1) := by decide +kernel
theorem dX9_factor_146 : decode cX9_factor 146 = .ok (.iadd, 1) := by decide +kernel
theorem dX9_factor_147 : decode cX9_factor 147 = .ok (.putfield 116, 3) := by decide +kernel
theorem dX9_factor_150 : decode cX9_factor 150 = .ok (.aload_n 0, 1) := by decide +kernel
theorem dX9_factor_151 : decode cX9_factor 151 = .ok (.iconst 1, 1) := by decide +kernel
theorem dX9_factor_152 : decode cX9_factor 152 = .ok (.invokevirtual 300, 3) := by decide +kernel
theorem dX9_factor_155 : decode cX9_factor 155 = .ok (.goto 82, 3) := by decide +kernel
theorem dX9_factor_158 : decode cX9_factor 158 = .ok (.iload_n 2, 1) := by decide +kernel
theorem dX9_factor_159 : decode cX9_factor 159 = .ok (.invokestatic 161, 3) := by decide +kernel
theorem dX9_factor_162 : decode cX9_factor 162 = .ok (.ifCond .eq 52, 3) := by decide +kernel
theorem dX9_factor_165 : decode cX9_factor 165 = .ok (.aload_n 0, 1) := by decide +kernel
theorem dX9_factor_166 : decode cX9_factor 166 = .ok (.iconst 1, 1) := by decide +kernel
theorem dX9_factor_167 : decode cX9_factor 167 = .ok (.invokevirtual 263, 3) := by decide +kernel
theorem dX9_factor_170 : decode cX9_factor 170 = .ok (.invokestatic 185, 3) := by decide +kernel
theorem dX9_factor_173 : decode cX9_factor 173 = .ok (.ifCond .eq 41, 3) := by decide +kernel
theorem dX9_factor_176 : decode cX9_factor 176 = .ok (.aload_n 0, 1) := by decide +kernel
theorem dX9_factor_177 : decode cX9_factor 177 = .ok (.invokevirtual 272, 3) := by decide +kernel
theorem dX9_factor_180 : decode cX9_factor 180 = .ok (.istore_n 3, 1) := by decide +kernel
theorem dX9_factor_181 : decode cX9_factor 181 = .ok (.aload_n 0, 1) := by decide +kernel
theorem dX9_factor_182 : decode cX9_factor 182 = .ok (.dup, 1) := by decide +kernel
theorem dX9_factor_183 : decode cX9_factor 183 = .ok (.getfield 116, 3) := by decide +kernel
theorem dX9_factor_186 : decode cX9_factor 186 = .ok (.iconst 2, 1) := by decide +kernel
theorem dX9_factor_187 : decode cX9_factor 187 = .ok (.iadd, 1) := by decide +kernel
theorem dX9_factor_188 : decode cX9_factor 188 = .ok (.putfield 116, 3) := by decide +kernel
theorem dX9_factor_191 : decode cX9_factor 191 = .ok (.aload_n 0, 1) := by decide +kernel
theorem dX9_factor_192 : decode cX9_factor 192 = .ok (.iload_n 3, 1) := by decide +kernel
theorem dX9_factor_193 : decode cX9_factor 193 = .ok (.invokevirtual 278, 3) := by decide +kernel
theorem dX9_factor_196 : decode cX9_factor 196 = .ok (.lstore 4, 2) := by decide +kernel
theorem dX9_factor_198 : decode cX9_factor 198 = .ok (.aload_n 0, 1) := by decide +kernel
theorem dX9_factor_199 : decode cX9_factor 199 = .ok (.invokevirtual 275, 3) := by decide +kernel
theorem dX9_factor_202 : decode cX9_factor 202 = .ok (.ifCond .eq 9, 3) := by decide +kernel
theorem dX9_factor_205 : decode cX9_factor 205 = .ok (.aload_n 0, 1) := by decide +kernel
theorem dX9_factor_206 : decode cX9_factor 206 = .ok (.lload 4, 2) := by decide +kernel
theorem dX9_factor_208 : decode cX9_factor 208 = .ok (.invokevirtual 259, 3) := by decide +kernel
theorem dX9_factor_211 : decode cX9_factor 211 = .ok (.goto 26, 3) := by decide +kernel
theorem dX9_factor_214 : decode cX9_factor 214 = .ok (.aload_n 0, 1) := by decide +kernel
theorem dX9_factor_215 : decode cX9_factor 215 = .ok (.invokevirtual 303, 3) := by decide +kernel
theorem dX9_factor_218 : decode cX9_factor 218 = .ok (.istore_n 3, 1) := by decide +kernel
theorem dX9_factor_219 : decode cX9_factor 219 = .ok (.aload_n 0, 1) := by decide +kernel
theorem dX9_factor_220 : decode cX9_factor 220 = .ok (.dup, 1) := by decide +kernel
theorem dX9_factor_221 : decode cX9_factor 221 = .ok (.getfield 116, 3) := by decide +kernel
theorem dX9_factor_224 : decode cX9_factor 224 = .ok (.iload_n 3, 1) := by decide +kernel
theorem dX9_factor_225 : decode cX9_factor 225 = .ok (.invokestatic 151, 3) := by decide +kernel
theorem dX9_factor_228 : decode cX9_factor 228 = .ok (.iadd, 1) := by decide +kernel
theorem dX9_factor_229 : decode cX9_factor 229 = .ok (.putfield 116, 3) := by decide +kernel
theorem dX9_factor_232 : decode cX9_factor 232 = .ok (.aload_n 0, 1) := by decide +kernel
theorem dX9_factor_233 : decode cX9_factor 233 = .ok (.iload_n 3, 1) := by decide +kernel
theorem dX9_factor_234 : decode cX9_factor 234 = .ok (.invokevirtual 300, 3) := by decide +kernel
theorem dX9_factor_237 : decode cX9_factor 237 = .ok (.return_, 1) := by decide +kernel
theorem dX9_skip_0 : decode cX9_skip 0 = .ok (.iconst 0, 1) := by decide +kernel
theorem dX9_skip_1 : decode cX9_skip 1 = .ok (.istore_n 1, 1) := by decide +kernel
theorem dX9_skip_2 : decode cX9_skip 2 = .ok (.iload_n 1, 1) := by decide +kernel
theorem dX9_skip_3 : decode cX9_skip 3 = .ok (.ifCond .gt 21, 3) := by decide +kernel
theorem dX9_skip_6 : decode cX9_skip 6 = .ok (.aload_n 0, 1) := by decide +kernel
theorem dX9_skip_7 : decode cX9_skip 7 = .ok (.invokevirtual 266, 3) := by decide +kernel
theorem dX9_skip_10 : decode cX9_skip 10 = .ok (.bipush 44, 2) := by decide +kernel
theorem dX9_skip_12 : decode cX9_skip 12 = .ok (.if_icmp .eq 55, 3) := by decide +kernel
theorem dX9_skip_15 : decode cX9_skip 15 = .ok (.aload_n 0, 1) := by decide +kernel
theorem dX9_skip_16 : decode cX9_skip 16 = .ok (.invokevirtual 266, 3) := by decide +kernel
theorem dX9_skip_19 : decode cX9_skip 19 = .ok (.bipush 41, 2) := by decide +kernel
theorem dX9_skip_21 : decode cX9_skip 21 = .ok (.if_icmp .eq 46, 3) := by decide +kernel
theorem dX9_skip_24 : decode cX9_skip 24 = .ok (.iload_n 1, 1) := by decide +kernel
theorem dX9_skip_25 : decode cX9_skip 25 = .ok (.aload_n 0, 1) := by decide +kernel
theorem dX9_skip_26 : decode cX9_skip 26 = .ok (.invokevirtual 266, 3) := by decide +kernel
theorem dX9_skip_29 : decode cX9_skip 29 = .ok (.bipush 40, 2) := by decide +kernel
theorem dX9_skip_31 : decode cX9_skip 31 = .ok (.if_icmp .ne 7, 3) := by decide +kernel
theorem dX9_skip_34 : decode cX9_skip 34 = .ok (.iconst 1, 1) := by decide +kernel
theorem dX9_skip_35 : decode cX9_skip 35 = .ok (.goto 17, 3) := by decide +kernel
theorem dX9_skip_38 : decode cX9_skip 38 = .ok (.aload_n 0, 1) := by decide +kernel
theorem dX9_skip_39 : decode cX9_skip 39 = .ok (.invokevirtual 266, 3) := by decide +kernel
theorem dX9_skip_42 : decode cX9_skip 42 = .ok (.bipush 41, 2) := by decide +kernel
theorem dX9_skip_44 : decode cX9_skip 44 = .ok (.if_icmp .ne 7, 3) := by decide +kernel
theorem dX9_skip_47 : decode cX9_skip 47 = .ok (.iconst (-1), 1) := by decide +kernel
theorem dX9_skip_48 : decode cX9_skip 48 = .ok (.goto 4, 3) := by decide +kernel
theorem dX9_skip_51 : decode cX9_skip 51 = .ok (.iconst 0, 1) := by decide +kernel
theorem dX9_skip_52 : decode cX9_skip 52 = .ok (.iadd, 1) := by decide +kernel
theorem dX9_skip_53 : decode cX9_skip 53 = .ok (.istore_n 1, 1) := by decide +kernel
theorem dX9_skip_54 : decode cX9_skip 54 = .ok (.aload_n 0, 1) := by decide +kernel
theorem dX9_skip_55 : decode cX9_skip 55 = .ok (.dup, 1) := by decide +kernel
theorem dX9_skip_56 : decode cX9_skip 56 = .ok (.getfield 116, 3) := by decide +kernel
theorem dX9_skip_59 : decode cX9_skip 59 = .ok (.iconst 1, 1) := by decide +kernel
theorem dX9_skip_60 : decode cX9_skip 60 = .ok (.iadd, 1) := by decide +kernel
theorem dX9_skip_61 : decode cX9_skip 61 = .ok (.putfield 116, 3) := by decide +kernel
theorem dX9_skip_64 : decode cX9_skip 64 = .ok (.goto (-62), 3) := by decide +kernel
theorem dX9_skip_67 : decode cX9_skip 67 = .ok (.return_, 1) := by decide +kernel
theorem dX9_ifs_0 : decode cX9_ifs 0 = .ok (.aload_n 0, 1) := by decide +kernel
theorem dX9_ifs_1 : decode cX9_ifs 1 = .ok (.getfield 69, 3) := by decide +kernel
theorem dX9_ifs_4 : decode cX9_ifs 4 = .ok (.aload_n 0, 1) := by decide +kernel
theorem dX9_ifs_5 : decode cX9_ifs 5 = .ok (.getfield 119, 3) := by decide +kernel
theorem dX9_ifs_8 : decode cX9_ifs 8 = .ok (.iaload, 1) := by decide +kernel
theorem dX9_ifs_9 : decode cX9_ifs 9 = .ok (.ifCond .le 36, 3) := by decide +kernel
theorem dX9_ifs_12 : decode cX9_ifs 12 = .ok (.aload_n 0, 1) := by decide +kernel
theorem dX9_ifs_13 : decode cX9_ifs 13 = .ok (.getfield 69, 3) := by decide +kernel
theorem dX9_ifs_16 : decode cX9_ifs 16 = .ok (.aload_n 0, 1) := by decide +kernel
theorem dX9_ifs_17 : decode cX9_ifs 17 = .ok (.getfield 119, 3) := by decide +kernel
theorem dX9_ifs_20 : decode cX9_ifs 20 = .ok (.iaload, 1) := by decide +kernel
theorem dX9_ifs_21 : decode cX9_ifs 21 = .ok (.iconst 1, 1) := by decide +kernel
theorem dX9_ifs_22 : decode cX9_ifs 22 = .ok (.if_icmp .ne 17, 3) := by decide +kernel
theorem dX9_ifs_25 : decode cX9_ifs 25 = .ok (.aload_n 0, 1) := by decide +kernel
theorem dX9_ifs_26 : decode cX9_ifs 26 = .ok (.dup, 1) := by decide +kernel
theorem dX9_ifs_27 : decode cX9_ifs 27 = .ok (.getfield 116, 3) := by decide +kernel
theorem dX9_ifs_30 : decode cX9_ifs 30 = .ok (.iconst 1, 1) := by decide +kernel
theorem dX9_ifs_31 : decode cX9_ifs 31 = .ok (.iadd, 1) := by decide +kernel
theorem dX9_ifs_32 : decode cX9_ifs 32 = .ok (.putfield 116, 3) := by decide +kernel
theorem dX9_ifs_35 : decode cX9_ifs 35 = .ok (.aload_n 0, 1) := by decide +kernel
theorem dX9_ifs_36 : decode cX9_ifs 36 = .ok (.invokevirtual 306, 3) := by decide +kernel
theorem dX9_ifs_39 : decode cX9_ifs 39 = .ok (.aload_n 0, 1) := by decide +kernel
theorem dX9_ifs_40 : decode cX9_ifs 40 = .ok (.lload_n 1, 1) := by decide +kernel
theorem dX9_ifs_41 : decode cX9_ifs 41 = .ok (.invokevirtual 269, 3) := by decide +kernel
theorem dX9_ifs_44 : decode cX9_ifs 44 = .ok (.return_, 1) := by decide +kernel
theorem dX9_ifs_45 : decode cX9_ifs 45 = .ok (.aload_n 0, 1) := by decide +kernel
theorem dX9_ifs_46 : decode cX9_ifs 46 = .ok (.dup, 1) := by decide +kernel
theorem dX9_ifs_47 : decode cX9_ifs 47 = .ok (.getfield 116, 3) := by decide +kernel
theorem dX9_ifs_50 : decode cX9_ifs 50 = .ok (.iconst 1, 1) := by decide +kernel
theorem dX9_ifs_51 : decode cX9_ifs 51 = .ok (.iadd, 1) := by decide +kernel
theorem dX9_ifs_52 : decode cX9_ifs 52 = .ok (.putfield 116, 3) := by decide +kernel
theorem dX9_ifs_55 : decode cX9_ifs 55 = .ok (.lload_n 1, 1) := by decide +kernel
theorem dX9_ifs_56 : decode cX9_ifs 56 = .ok (.lconst 0, 1) := by decide +kernel
theorem dX9_ifs_57 : decode cX9_ifs 57 = .ok (.lcmp, 1) := by decide +kernel
theorem dX9_ifs_58 : decode cX9_ifs 58 = .ok (.ifCond .ne 17, 3) := by decide +kernel
theorem dX9_ifs_61 : decode cX9_ifs 61 = .ok (.aload_n 0, 1) := by decide +kernel
theorem dX9_ifs_62 : decode cX9_ifs 62 = .ok (.invokevirtual 306, 3) := by decide +kernel
theorem dX9_ifs_65 : decode cX9_ifs 65 = .ok (.aload_n 0, 1) := by decide +kernel
theorem dX9_ifs_66 : decode cX9_ifs 66 = .ok (.dup, 1) := by decide +kernel
theorem dX9_ifs_67 : decode cX9_ifs 67 = .ok (.getfield 116, 3) := by decide +kernel
theorem dX9_ifs_70 : decode cX9_ifs 70 = .ok (.iconst 1, 1) := by decide +kernel
theorem dX9_ifs_71 : decode cX9_ifs 71 = .ok (.iadd, 1) := by decide +kernel
theorem dX9_ifs_72 : decode cX9_ifs 72 = .ok (.putfield 116, 3) := by decide +kernel
theorem dX9_ifs_75 : decode cX9_ifs 75 = .ok (.aload_n 0, 1) := by decide +kernel
theorem dX9_ifs_76 : decode cX9_ifs 76 = .ok (.getfield 69, 3) := by decide +kernel
theorem dX9_ifs_79 : decode cX9_ifs 79 = .ok (.aload_n 0, 1) := by decide +kernel
theorem dX9_ifs_80 : decode cX9_ifs 80 = .ok (.getfield 119, 3) := by decide +kernel
theorem dX9_ifs_83 : decode cX9_ifs 83 = .ok (.lload_n 1, 1) := by decide +kernel
theorem dX9_ifs_84 : decode cX9_ifs 84 = .ok (.lconst 0, 1) := by decide +kernel
theorem dX9_ifs_85 : decode cX9_ifs 85 = .ok (.lcmp, 1) := by decide +kernel
theorem dX9_ifs_86 : decode cX9_ifs 86 = .ok (.ifCond .ne 7, 3) := by decide +kernel
theorem dX9_ifs_89 : decode cX9_ifs 89 = .ok (.iconst 2, 1) := by decide +kernel
theorem dX9_ifs_90 : decode cX9_ifs 90 = .ok (.goto 4, 3) := by decide +kernel
theorem dX9_ifs_93 : decode cX9_ifs 93 = .ok (.iconst 1, 1) := by decide +kernel
theorem dX9_ifs_94 : decode cX9_ifs 94 = .ok (.iastore, 1) := by decide +kernel
theorem dX9_ifs_95 : decode cX9_ifs 95 = .ok (.aload_n 0, 1) := by decide +kernel
theorem dX9_ifs_96 : decode cX9_ifs 96 = .ok (.invokevirtual 249, 3) := by decide +kernel
theorem dX9_ifs_99 : decode cX9_ifs 99 = .ok (.return_, 1) := by decide +kernel
theorem dX9_others_0 : decode cX9_others 0 = .ok (.aload_n 0, 1) := by decide +kernel
theorem dX9_others_1 : decode cX9_others 1 = .ok (.getfield 116, 3) := by decide +kernel
theorem dX9_others_4 : decode cX9_others 4 = .ok (.istore_n 1, 1) := by decide +kernel
theorem dX9_others_5 : decode cX9_others 5 = .ok (.iconst 0, 1) := by decide +kernel
theorem dX9_others_6 : decode cX9_others 6 = .ok (.istore_n 2, 1) := by decide +kernel
theorem dX9_others_7 : decode cX9_others 7 = .ok (.aload_n 0, 1) := by decide +kernel
theorem dX9_others_8 : decode cX9_others 8 = .ok (.invokevirtual 266, 3) := by decide +kernel
theorem dX9_others_11 : decode cX9_others 11 = .ok (.bipush 44, 2) := by decide +kernel
theorem dX9_others_13 : decode cX9_others 13 = .ok (.if_icmp .ne 23, 3) := by decide +kernel
theorem dX9_others_16 : decode cX9_others 16 = .ok (.iinc 2 1, 3) := by decide +kernel
theorem dX9_others_19 : decode cX9_others 19 = .ok (.aload_n 0, 1) := by decide +kernel
theorem dX9_others_20 : decode cX9_others 20 = .ok (.dup, 1) := by decide +kernel
theorem dX9_others_21 : decode cX9_others 21 = .ok (.getfield 116, 3) := by decide +kernel
theorem dX9_others_24 : decode cX9_others 24 = .ok (.iconst 1, 1) := by decide +kernel
theorem dX9_others_25 : decode cX9_others 25 = .ok (.iadd, 1) := by decide +kernel
theorem dX9_others_26 : decode cX9_others 26 = .ok (.putfield 116, 3) := by decide +kernel
theorem dX9_others_29 : decode cX9_others 29 = .ok (.aload_n 0, 1) := by decide +kernel
theorem dX9_others_30 : decode cX9_others 30 = .ok (.invokevirtual 306, 3) := by decide +kernel
theorem dX9_others_33 : decode cX9_others 33 = .ok (.goto (-26), 3) := by decide +kernel
theorem dX9_others_36 : decode cX9_others 36 = .ok (.aload_n 0, 1) := by decide +kernel
theorem dX9_others_37 : decode cX9_others 37 = .ok (.iload_n 1, 1) := by decide +kernel
theorem dX9_others_38 : decode cX9_others 38 = .ok (.putfield 116, 3) := by decide +kernel
theorem dX9_others_41 : decode cX9_others 41 = .ok (.iload_n 2, 1) := by decide +kernel
theorem dX9_others_42 : decode cX9_others 42 = .ok (.ireturn, 1) := by decide +kernel
theorem dX9_picks_0 : decode cX9_picks 0 = .ok (.aload_n 0, 1) := by decide +kernel
theorem dX9_picks_1 : decode cX9_picks 1 = .ok (.getfield 69, 3) := by decide +kernel
theorem dX9_picks_4 : decode cX9_picks 4 = .ok (.aload_n 0, 1) := by decide +kernel
theorem dX9_picks_5 : decode cX9_picks 5 = .ok (.getfield 119, 3) := by decide +kernel
theorem dX9_picks_8 : decode cX9_picks 8 = .ok (.iaload, 1) := by decide +kernel
theorem dX9_picks_9 : decode cX9_picks 9 = .ok (.ifCond .le 35, 3) := by decide +kernel
theorem dX9_picks_12 : decode cX9_picks 12 = .ok (.aload_n 0, 1) := by decide +kernel
theorem dX9_picks_13 : decode cX9_picks 13 = .ok (.invokevirtual 266, 3) := by decide +kernel
theorem dX9_picks_16 : decode cX9_picks 16 = .ok (.bipush 44, 2) := by decide +kernel
theorem dX9_picks_18 : decode cX9_picks 18 = .ok (.if_icmp .ne 20, 3) := by decide +kernel
theorem dX9_picks_21 : decode cX9_picks 21 = .ok (.aload_n 0, 1) := by decide +kernel
theorem dX9_picks_22 : decode cX9_picks 22 = .ok (.dup, 1) := by decide +kernel
theorem dX9_picks_23 : decode cX9_picks 23 = .ok (.getfield 116, 3) := by decide +kernel
theorem dX9_picks_26 : decode cX9_picks 26 = .ok (.iconst 1, 1) := by decide +kernel
theorem dX9_picks_27 : decode cX9_picks 27 = .ok (.iadd, 1) := by decide +kernel
theorem dX9_picks_28 : decode cX9_picks 28 = .ok (.putfield 116, 3) := by decide +kernel
theorem dX9_picks_31 : decode cX9_picks 31 = .ok (.aload_n 0, 1) := by decide +kernel
theorem dX9_picks_32 : decode cX9_picks 32 = .ok (.invokevirtual 306, 3) := by decide +kernel
theorem dX9_picks_35 : decode cX9_picks 35 = .ok (.goto (-23), 3) := by decide +kernel
theorem dX9_picks_38 : decode cX9_picks 38 = .ok (.aload_n 0, 1) := by decide +kernel
theorem dX9_picks_39 : decode cX9_picks 39 = .ok (.lload_n 1, 1) := by decide +kernel
theorem dX9_picks_40 : decode cX9_picks 40 = .ok (.invokevirtual 269, 3) := by decide +kernel
theorem dX9_picks_43 : decode cX9_picks 43 = .ok (.return_, 1) := by decide +kernel
theorem dX9_picks_44 : decode cX9_picks 44 = .ok (.lload_n 1, 1) := by decide +kernel
theorem dX9_picks_45 : decode cX9_picks 45 = .ok (.lconst 1, 1) := by decide +kernel
theorem dX9_picks_46 : decode cX9_picks 46 = .ok (.lcmp, 1) := by decide +kernel
theorem dX9_picks_47 : decode cX9_picks 47 = .ok (.ifCond .lt 13, 3) := by decide +kernel
theorem dX9_picks_50 : decode cX9_picks 50 = .ok (.lload_n 1, 1) := by decide +kernel
theorem dX9_picks_51 : decode cX9_picks 51 = .ok (.aload_n 0, 1) := by decide +kernel
theorem dX9_picks_52 : decode cX9_picks 52 = .ok (.invokevirtual 309, 3) := by decide +kernel
theorem dX9_picks_55 : decode cX9_picks 55 = .ok (.i2l, 1) := by decide +kernel
theorem dX9_picks_56 : decode cX9_picks 56 = .ok (.lcmp, 1) := by decide +kernel
theorem dX9_picks_57 : decode cX9_picks 57 = .ok (.ifCond .le 9, 3) := by decide +kernel
theorem dX9_picks_60 : decode cX9_picks 60 = .ok (.aload_n 0, 1) := by decide +kernel
theorem dX9_picks_61 : decode cX9_picks 61 = .ok (.iconst 3, 1) := by decide +kernel
theorem dX9_picks_62 : decode cX9_picks 62 = .ok (.invokevirtual 246, 3) := by decide +kernel
theorem dX9_picks_65 : decode cX9_picks 65 = .ok (.return_, 1) := by decide +kernel
theorem dX9_picks_66 : decode cX9_picks 66 = .ok (.aload_n 0, 1) := by decide +kernel
theorem dX9_picks_67 : decode cX9_picks 67 = .ok (.dup, 1) := by decide +kernel
theorem dX9_picks_68 : decode cX9_picks 68 = .ok (.getfield 116, 3) := by decide +kernel
theorem dX9_picks_71 : decode cX9_picks 71 = .ok (.iconst 1, 1) := by decide +kernel
theorem dX9_picks_72 : decode cX9_picks 72 = .ok (.iadd, 1) := by decide +kernel
theorem dX9_picks_73 : decode cX9_picks 73 = .ok (.putfield 116, 3) := by decide +kernel
theorem dX9_picks_76 : decode cX9_picks 76 = .ok (.lconst 1, 1) := by decide +kernel
theorem dX9_picks_77 : decode cX9_picks 77 = .ok (.lstore_n 3, 1) := by decide +kernel
theorem dX9_picks_78 : decode cX9_picks 78 = .ok (.lload_n 3, 1) := by decide +kernel
theorem dX9_picks_79 : decode cX9_picks 79 = .ok (.lload_n 1, 1) := by decide +kernel
theorem dX9_picks_80 : decode cX9_picks 80 = .ok (.lcmp, 1) := by decide +kernel
theorem dX9_picks_81 : decode cX9_picks 81 = .ok (.ifCond .ge 24, 3) := by decide +kernel
theorem dX9_picks_84 : decode cX9_picks 84 = .ok (.aload_n 0, 1) := by decide +kernel
theorem dX9_picks_85 : decode cX9_picks 85 = .ok (.invokevirtual 306, 3) := by decide +kernel
theorem dX9_picks_88 : decode cX9_picks 88 = .ok (.aload_n 0, 1) := by decide +kernel
theorem dX9_picks_89 : decode cX9_picks 89 = .ok (.dup, 1) := by decide +kernel
theorem dX9_picks_90 : decode cX9_picks 90 = .ok (.getfield 116, 3) := by decide +kernel
theorem dX9_picks_93 : decode cX9_picks 93 = .ok (.iconst 1, 1) := by decide +kernel
theorem dX9_picks_94 : decode cX9_picks 94 = .ok (.iadd, 1) := by decide +kernel
theorem dX9_picks_95 : decode cX9_picks 95 = .ok (.putfield 116, 3) := by decide +kernel
theorem dX9_picks_98 : decode cX9_picks 98 = .ok (.lload_n 3, 1) := by decide +kernel
theorem dX9_picks_99 : decode cX9_picks 99 = .ok (.lconst 1, 1) := by decide +kernel
theorem dX9_picks_100 : decode cX9_picks 100 = .ok (.ladd, 1) := by decide +kernel
theorem dX9_picks_101 : decode cX9_picks 101 = .ok (.lstore_n 3, 1) := by decide +kernel
theorem dX9_picks_102 : decode cX9_picks 102 = .ok (.goto (-24), 3) := by decide +kernel
theorem dX9_picks_105 : decode cX9_picks 105 = .ok (.aload_n 0, 1) := by decide +kernel
theorem dX9_picks_106 : decode cX9_picks 106 = .ok (.getfield 69, 3) := by decide +kernel
theorem dX9_picks_109 : decode cX9_picks 109 = .ok (.aload_n 0, 1) := by decide +kernel
theorem dX9_picks_110 : decode cX9_picks 110 = .ok (.getfield 119, 3) := by decide +kernel
theorem dX9_picks_113 : decode cX9_picks 113 = .ok (.iconst 1, 1) := by decide +kernel
theorem dX9_picks_114 : decode cX9_picks 114 = .ok (.iastore, 1) := by decide +kernel
theorem dX9_picks_115 : decode cX9_picks 115 = .ok (.aload_n 0, 1) := by decide +kernel
theorem dX9_picks_116 : decode cX9_picks 116 = .ok (.invokevirtual 249, 3) := by decide +kernel
theorem dX9_picks_119 : decode cX9_picks 119 = .ok (.return_, 1) := by decide +kernel
theorem dX9_floor_0 : decode cX9_floor 0 = .ok (.lload_n 0, 1) := by decide +kernel
theorem dX9_floor_1 : decode cX9_floor 1 = .ok (.lload_n 2, 1) := by decide +kernel
theorem dX9_floor_2 : decode cX9_floor 2 = .ok (.ldiv, 1) := by decide +kernel
theorem dX9_floor_3 : decode cX9_floor 3 = .ok (.lstore 4, 2) := by decide +kernel
theorem dX9_floor_5 : decode cX9_floor 5 = .ok (.lload_n 0, 1) := by decide +kernel
theorem dX9_floor_6 : decode cX9_floor 6 = .ok (.lload_n 2, 1) := by decide +kernel
theorem dX9_floor_7 : decode cX9_floor 7 = .ok (.lrem, 1) := by decide +kernel
theorem dX9_floor_8 : decode cX9_floor 8 = .ok (.lconst 0, 1) := by decide +kernel
theorem dX9_floor_9 : decode cX9_floor 9 = .ok (.lcmp, 1) := by decide +kernel
theorem dX9_floor_10 : decode cX9_floor 10 = .ok (.ifCond .eq 35, 3) := by decide +kernel
theorem dX9_floor_13 : decode cX9_floor 13 = .ok (.lload_n 0, 1) := by decide +kernel
theorem dX9_floor_14 : decode cX9_floor 14 = .ok (.lconst 0, 1) := by decide +kernel
theorem dX9_floor_15 : decode cX9_floor 15 = .ok (.lcmp, 1) := by decide +kernel
theorem dX9_floor_16 : decode cX9_floor 16 = .ok (.ifCond .ge 7, 3) := by decide +kernel
theorem dX9_floor_19 : decode cX9_floor 19 = .ok (.iconst 1, 1) := by decide +kernel
theorem dX9_floor_20 : decode cX9_floor 20 = .ok (.goto 4, 3) := by decide +kernel
theorem dX9_floor_23 : decode cX9_floor 23 = .ok (.iconst 0, 1) := by decide +kernel
theorem dX9_floor_24 : decode cX9_floor 24 = .ok (.lload_n 2, 1) := by decide +kernel
theorem dX9_floor_25 : decode cX9_floor 25 = .ok (.lconst 0, 1) := by decide +kernel
theorem dX9_floor_26 : decode cX9_floor 26 = .ok (.lcmp, 1) := by decide +kernel
theorem dX9_floor_27 : decode cX9_floor 27 = .ok (.ifCond .ge 7, 3) := by decide +kernel
theorem dX9_floor_30 : decode cX9_floor 30 = .ok (.iconst 1, 1) := by decide +kernel
theorem dX9_floor_31 : decode cX9_floor 31 = .ok (.goto 4, 3) := by decide +kernel
theorem dX9_floor_34 : decode cX9_floor 34 = .ok (.iconst 0, 1) := by decide +kernel
theorem dX9_floor_35 : decode cX9_floor 35 = .ok (.if_icmp .eq 10, 3) := by decide +kernel
theorem dX9_floor_38 : decode cX9_floor 38 = .ok (.lload 4, 2) := by decide +kernel
theorem dX9_floor_40 : decode cX9_floor 40 = .ok (.lconst 1, 1) := by decide +kernel
theorem dX9_floor_41 : decode cX9_floor 41 = .ok (.lsub, 1) := by decide +kernel
theorem dX9_floor_42 : decode cX9_floor 42 = .ok (.goto 5, 3) := by decide +kernel
theorem dX9_floor_45 : decode cX9_floor 45 = .ok (.lload 4, 2) := by decide +kernel
theorem dX9_floor_47 : decode cX9_floor 47 = .ok (.lreturn, 1) := by decide +kernel
theorem dX9_twos_0 : decode cX9_twos 0 = .ok (.aload_n 0, 1) := by decide +kernel
theorem dX9_twos_1 : decode cX9_twos 1 = .ok (.getfield 69, 3) := by decide +kernel
theorem dX9_twos_4 : decode cX9_twos 4 = .ok (.aload_n 0, 1) := by decide +kernel
theorem dX9_twos_5 : decode cX9_twos 5 = .ok (.getfield 119, 3) := by decide +kernel
theorem dX9_twos_8 : decode cX9_twos 8 = .ok (.iaload, 1) := by decide +kernel
theorem dX9_twos_9 : decode cX9_twos 9 = .ok (.ifCond .ne 38, 3) := by decide +kernel
theorem dX9_twos_12 : decode cX9_twos 12 = .ok (.aload_n 0, 1) := by decide +kernel
theorem dX9_twos_13 : decode cX9_twos 13 = .ok (.getfield 88, 3) := by decide +kernel
theorem dX9_twos_16 : decode cX9_twos 16 = .ok (.aload_n 0, 1) := by decide +kernel
theorem dX9_twos_17 : decode cX9_twos 17 = .ok (.getfield 119, 3) := by decide +kernel
theorem dX9_twos_20 : decode cX9_twos 20 = .ok (.lload_n 1, 1) := by decide +kernel
theorem dX9_twos_21 : decode cX9_twos 21 = .ok (.lastore, 1) := by decide +kernel
theorem dX9_twos_22 : decode cX9_twos 22 = .ok (.aload_n 0, 1) := by decide +kernel
theorem dX9_twos_23 : decode cX9_twos 23 = .ok (.getfield 69, 3) := by decide +kernel
theorem dX9_twos_26 : decode cX9_twos 26 = .ok (.aload_n 0, 1) := by decide +kernel
theorem dX9_twos_27 : decode cX9_twos 27 = .ok (.getfield 119, 3) := by decide +kernel
theorem dX9_twos_30 : decode cX9_twos 30 = .ok (.iconst 1, 1) := by decide +kernel
theorem dX9_twos_31 : decode cX9_twos 31 = .ok (.iastore, 1) := by decide +kernel
theorem dX9_twos_32 : decode cX9_twos 32 = .ok (.aload_n 0, 1) := by decide +kernel
theorem dX9_twos_33 : decode cX9_twos 33 = .ok (.dup, 1) := by decide +kernel
theorem dX9_twos_34 : decode cX9_twos 34 = .ok (.getfield 116, 3) := by decide +kernel
theorem dX9_twos_37 : decode cX9_twos 37 = .ok (.iconst 1, 1) := by decide +kernel
theorem dX9_twos_38 : decode cX9_twos 38 = .ok (.iadd, 1) := by decide +kernel
theorem dX9_twos_39 : decode cX9_twos 39 = .ok (.putfield 116, 3) := by decide +kernel
theorem dX9_twos_42 : decode cX9_twos 42 = .ok (.aload_n 0, 1) := by decide +kernel
theorem dX9_twos_43 : decode cX9_twos 43 = .ok (.invokevirtual 249, 3) := by decide +kernel
theorem dX9_twos_46 : decode cX9_twos 46 = .ok (.return_, 1) := by decide +kernel
theorem dX9_twos_47 : decode cX9_twos 47 = .ok (.aload_n 0, 1) := by decide +kernel
theorem dX9_twos_48 : decode cX9_twos 48 = .ok (.getfield 88, 3) := by decide +kernel
theorem dX9_twos_51 : decode cX9_twos 51 = .ok (.aload_n 0, 1) := by decide +kernel
theorem dX9_twos_52 : decode cX9_twos 52 = .ok (.getfield 119, 3) := by decide +kernel
theorem dX9_twos_55 : decode cX9_twos 55 = .ok (.laload, 1) := by decide +kernel
theorem dX9_twos_56 : decode cX9_twos 56 = .ok (.lstore_n 3, 1) := by decide +kernel
theorem dX9_twos_57 : decode cX9_twos 57 = .ok (.aload_n 0, 1) := by decide +kernel
theorem dX9_twos_58 : decode cX9_twos 58 = .ok (.getfield 66, 3) := by decide +kernel
theorem dX9_twos_61 : decode cX9_twos 61 = .ok (.aload_n 0, 1) := by decide +kernel
theorem dX9_twos_62 : decode cX9_twos 62 = .ok (.getfield 119, 3) := by decide +kernel
theorem dX9_twos_65 : decode cX9_twos 65 = .ok (.iaload, 1) := by decide +kernel
theorem dX9_twos_66 : decode cX9_twos 66 = .ok (.bipush 6, 2) := by decide +kernel
theorem dX9_twos_68 : decode cX9_twos 68 = .ok (.if_icmp .ne 65, 3) := by decide +kernel
theorem dX9_twos_71 : decode cX9_twos 71 = .ok (.lload_n 3, 1) := by decide +kernel
theorem dX9_twos_72 : decode cX9_twos 72 = .ok (.lconst 0, 1) := by decide +kernel
theorem dX9_twos_73 : decode cX9_twos 73 = .ok (.lcmp, 1) := by decide +kernel
theorem dX9_twos_74 : decode cX9_twos 74 = .ok (.ifCond .lt 25, 3) := by decide +kernel
theorem dX9_twos_77 : decode cX9_twos 77 = .ok (.lload_n 3, 1) := by decide +kernel
theorem dX9_twos_78 : decode cX9_twos 78 = .ok (.ldc2_w 312, 3) := by decide +kernel
theorem dX9_twos_81 : decode cX9_twos 81 = .ok (.lcmp, 1) := by decide +kernel
theorem dX9_twos_82 : decode cX9_twos 82 = .ok (.ifCond .gt 17, 3) := by decide +kernel
theorem dX9_twos_85 : decode cX9_twos 85 = .ok (.lload_n 1, 1) := by decide +kernel
theorem dX9_twos_86 : decode cX9_twos 86 = .ok (.lconst 0, 1) := by decide +kernel
theorem dX9_twos_87 : decode cX9_twos 87 = .ok (.lcmp, 1) := by decide +kernel
theorem dX9_twos_88 : decode cX9_twos 88 = .ok (.ifCond .lt 11, 3) := by decide +kernel
theorem dX9_twos_91 : decode cX9_twos 91 = .ok (.lload_n 1, 1) := by decide +kernel
theorem dX9_twos_92 : decode cX9_twos 92 = .ok (.ldc2_w 314, 3) := by decide +kernel
theorem dX9_twos_95 : decode cX9_twos 95 = .ok (.lcmp, 1) := by decide +kernel
theorem dX9_twos_96 : decode cX9_twos 96 = .ok (.ifCond .le 9, 3) := by decide +kernel
theorem dX9_twos_99 : decode cX9_twos 99 = .ok (.aload_n 0, 1) := by decide +kernel
theorem dX9_twos_100 : decode cX9_twos 100 = .ok (.iconst 3, 1) := by decide +kernel
theorem dX9_twos_101 : decode cX9_twos 101 = .ok (.invokevirtual 246, 3) := by decide +kernel
theorem dX9_twos_104 : decode cX9_twos 104 = .ok (.return_, 1) := by decide +kernel
theorem dX9_twos_105 : decode cX9_twos 105 = .ok (.aload_n 0, 1) := by decide +kernel
theorem dX9_twos_106 : decode cX9_twos 106 = .ok (.ldc2_w 314, 3) := by decide +kernel
theorem dX9_twos_109 : decode cX9_twos 109 = .ok (.lload_n 1, 1) := by decide +kernel
theorem dX9_twos_110 : decode cX9_twos 110 = .ok (.lmul, 1) := by decide +kernel
theorem dX9_twos_111 : decode cX9_twos 111 = .ok (.lload_n 3, 1) := by decide +kernel
theorem dX9_twos_112 : decode cX9_twos 112 = .ok (.ladd, 1) := by decide +kernel
theorem dX9_twos_113 : decode cX9_twos 113 = .ok (.l2i, 1) := by decide +kernel
theorem dX9_twos_114 : decode cX9_twos 114 = .ok (.invokevirtual 278, 3) := by decide +kernel
theorem dX9_twos_117 : decode cX9_twos 117 = .ok (.lstore 5, 2) := by decide +kernel
theorem dX9_twos_119 : decode cX9_twos 119 = .ok (.aload_n 0, 1) := by decide +kernel
theorem dX9_twos_120 : decode cX9_twos 120 = .ok (.invokevirtual 275, 3) := by decide +kernel
theorem dX9_twos_123 : decode cX9_twos 123 = .ok (.ifCond .eq 9, 3) := by decide +kernel
theorem dX9_twos_126 : decode cX9_twos 126 = .ok (.aload_n 0, 1) := by decide +kernel
theorem dX9_twos_127 : decode cX9_twos 127 = .ok (.lload 5, 2) := by decide +kernel
theorem dX9_twos_129 : decode cX9_twos 129 = .ok (.invokevirtual 269, 3) := by decide +kernel
theorem dX9_twos_132 : decode cX9_twos 132 = .ok (.return_, 1) := by decide +kernel
theorem dX9_twos_133 : decode cX9_twos 133 = .ok (.lload_n 1, 1) := by decide +kernel
theorem dX9_twos_134 : decode cX9_twos 134 = .ok (.lconst 0, 1) := by decide +kernel
theorem dX9_twos_135 : decode cX9_twos 135 = .ok (.lcmp, 1) := by decide +kernel
theorem dX9_twos_136 : decode cX9_twos 136 = .ok (.ifCond .ne 9, 3) := by decide +kernel
theorem dX9_twos_139 : decode cX9_twos 139 = .ok (.aload_n 0, 1) := by decide +kernel
theorem dX9_twos_140 : decode cX9_twos 140 = .ok (.iconst 2, 1) := by decide +kernel
theorem dX9_twos_141 : decode cX9_twos 141 = .ok (.invokevirtual 246, 3) := by decide +kernel
theorem dX9_twos_144 : decode cX9_twos 144 = .ok (.return_, 1) := by decide +kernel
theorem dX9_twos_145 : decode cX9_twos 145 = .ok (.aload_n 0, 1) := by decide +kernel
theorem dX9_twos_146 : decode cX9_twos 146 = .ok (.aload_n 0, 1) := by decide +kernel
theorem dX9_twos_147 : decode cX9_twos 147 = .ok (.getfield 66, 3) := by decide +kernel
theorem dX9_twos_150 : decode cX9_twos 150 = .ok (.aload_n 0, 1) := by decide +kernel
theorem dX9_twos_151 : decode cX9_twos 151 = .ok (.getfield 119, 3) := by decide +kernel
theorem dX9_twos_154 : decode cX9_twos 154 = .ok (.iaload, 1) := by decide +kernel
theorem dX9_twos_155 : decode cX9_twos 155 = .ok (.iconst 4, 1) := by decide +kernel
theorem dX9_twos_156 : decode cX9_twos 156 = .ok (.if_icmp .ne 11, 3) := by decide +kernel
theorem dX9_twos_159 : decode cX9_twos 159 = .ok (.lload_n 3, 1) := by decide +kernel
theorem dX9_twos_160 : decode cX9_twos 160 = .ok (.lload_n 1, 1) := by decide +kernel
theorem dX9_twos_161 : decode cX9_twos 161 = .ok (.invokestatic 316, 3) := by decide +kernel
theorem dX9_twos_164 : decode cX9_twos 164 = .ok (.goto 12, 3) := by decide +kernel
theorem dX9_twos_167 : decode cX9_twos 167 = .ok (.lload_n 3, 1) := by decide +kernel
theorem dX9_twos_168 : decode cX9_twos 168 = .ok (.lload_n 1, 1) := by decide +kernel
theorem dX9_twos_169 : decode cX9_twos 169 = .ok (.lload_n 3, 1) := by decide +kernel
theorem dX9_twos_170 : decode cX9_twos 170 = .ok (.lload_n 1, 1) := by decide +kernel
theorem dX9_twos_171 : decode cX9_twos 171 = .ok (.invokestatic 316, 3) := by decide +kernel
theorem dX9_twos_174 : decode cX9_twos 174 = .ok (.lmul, 1) := by decide +kernel
theorem dX9_twos_175 : decode cX9_twos 175 = .ok (.lsub, 1) := by decide +kernel
theorem dX9_twos_176 : decode cX9_twos 176 = .ok (.invokevirtual 269, 3) := by decide +kernel
theorem dX9_twos_179 : decode cX9_twos 179 = .ok (.return_, 1) := by decide +kernel
theorem dX9_closes_0 : decode cX9_closes 0 = .ok (.aload_n 0, 1) := by decide +kernel
theorem dX9_closes_1 : decode cX9_closes 1 = .ok (.invokevirtual 266, 3) := by decide +kernel
theorem dX9_closes_4 : decode cX9_closes 4 = .ok (.istore_n 1, 1) := by decide +kernel
theorem dX9_closes_5 : decode cX9_closes 5 = .ok (.iload_n 1, 1) := by decide +kernel
theorem dX9_closes_6 : decode cX9_closes 6 = .ok (.bipush 42, 2) := by decide +kernel
theorem dX9_closes_8 : decode cX9_closes 8 = .ok (.if_icmp .ne 19, 3) := by decide +kernel
theorem dX9_closes_11 : decode cX9_closes 11 = .ok (.aload_n 0, 1) := by decide +kernel
theorem dX9_closes_12 : decode cX9_closes 12 = .ok (.dup, 1) := by decide +kernel
theorem dX9_closes_13 : decode cX9_closes 13 = .ok (.getfield 116, 3) := by decide +kernel
theorem dX9_closes_16 : decode cX9_closes 16 = .ok (.iconst 1, 1) := by decide +kernel
theorem dX9_closes_17 : decode cX9_closes 17 = .ok (.iadd, 1) := by decide +kernel
theorem dX9_closes_18 : decode cX9_closes 18 = .ok (.putfield 116, 3) := by decide +kernel
theorem dX9_closes_21 : decode cX9_closes 21 = .ok (.aload_n 0, 1) := by decide +kernel
theorem dX9_closes_22 : decode cX9_closes 22 = .ok (.iconst 1, 1) := by decide +kernel
theorem dX9_closes_23 : decode cX9_closes 23 = .ok (.putfield 182, 3) := by decide +kernel
theorem dX9_closes_26 : decode cX9_closes 26 = .ok (.return_, 1) := by decide +kernel
theorem dX9_closes_27 : decode cX9_closes 27 = .ok (.aload_n 0, 1) := by decide +kernel
theorem dX9_closes_28 : decode cX9_closes 28 = .ok (.invokevirtual 320, 3) := by decide +kernel
theorem dX9_closes_31 : decode cX9_closes 31 = .ok (.aload_n 0, 1) := by decide +kernel
theorem dX9_closes_32 : decode cX9_closes 32 = .ok (.getfield 239, 3) := by decide +kernel
theorem dX9_closes_35 : decode cX9_closes 35 = .ok (.ifCond .le 4, 3) := by decide +kernel
theorem dX9_closes_38 : decode cX9_closes 38 = .ok (.return_, 1) := by decide +kernel
theorem dX9_closes_39 : decode cX9_closes 39 = .ok (.iload_n 1, 1) := by decide +kernel
theorem dX9_closes_40 : decode cX9_closes 40 = .ok (.bipush 43, 2) := by decide +kernel
theorem dX9_closes_42 : decode cX9_closes 42 = .ok (.if_icmp .eq 9, 3) := by decide +kernel
theorem dX9_closes_45 : decode cX9_closes 45 = .ok (.iload_n 1, 1) := by decide +kernel
theorem dX9_closes_46 : decode cX9_closes 46 = .ok (.bipush 45, 2) := by decide +kernel
theorem dX9_closes_48 : decode cX9_closes 48 = .ok (.if_icmp .ne 39, 3) := by decide +kernel
theorem dX9_closes_51 : decode cX9_closes 51 = .ok (.aload_n 0, 1) := by decide +kernel
theorem dX9_closes_52 : decode cX9_closes 52 = .ok (.getfield 85, 3) := by decide +kernel
theorem dX9_closes_55 : decode cX9_closes 55 = .ok (.aload_n 0, 1) := by decide +kernel
theorem dX9_closes_56 : decode cX9_closes 56 = .ok (.getfield 119, 3) := by decide +kernel
theorem dX9_closes_59 : decode cX9_closes 59 = .ok (.iload_n 1, 1) := by decide +kernel
theorem dX9_closes_60 : decode cX9_closes 60 = .ok (.bipush 43, 2) := by decide +kernel
theorem dX9_closes_62 : decode cX9_closes 62 = .ok (.if_icmp .ne 7, 3) := by decide +kernel
theorem dX9_closes_65 : decode cX9_closes 65 = .ok (.iconst 1, 1) := by decide +kernel
theorem dX9_closes_66 : decode cX9_closes 66 = .ok (.goto 4, 3) := by decide +kernel
theorem dX9_closes_69 : decode cX9_closes 69 = .ok (.iconst (-1), 1) := by decide +kernel
theorem dX9_closes_70 : decode cX9_closes 70 = .ok (.iastore, 1) := by decide +kernel
theorem dX9_closes_71 : decode cX9_closes 71 = .ok (.aload_n 0, 1) := by decide +kernel
theorem dX9_closes_72 : decode cX9_closes 72 = .ok (.dup, 1) := by decide +kernel
theorem dX9_closes_73 : decode cX9_closes 73 = .ok (.getfield 116, 3) := by decide +kernel
theorem dX9_closes_76 : decode cX9_closes 76 = .ok (.iconst 1, 1) := by decide +kernel
theorem dX9_closes_77 : decode cX9_closes 77 = .ok (.iadd, 1) := by decide +kernel
theorem dX9_closes_78 : decode cX9_closes 78 = .ok (.putfield 116, 3) := by decide +kernel
theorem dX9_closes_81 : decode cX9_closes 81 = .ok (.aload_n 0, 1) := by decide +kernel
theorem dX9_closes_82 : decode cX9_closes 82 = .ok (.iconst 1, 1) := by decide +kernel
theorem dX9_closes_83 : decode cX9_closes 83 = .ok (.putfield 182, 3) := by decide +kernel
theorem dX9_closes_86 : decode cX9_closes 86 = .ok (.return_, 1) := by decide +kernel
theorem dX9_closes_87 : decode cX9_closes 87 = .ok (.aload_n 0, 1) := by decide +kernel
theorem dX9_closes_88 : decode cX9_closes 88 = .ok (.getfield 82, 3) := by decide +kernel
theorem dX9_closes_91 : decode cX9_closes 91 = .ok (.aload_n 0, 1) := by decide +kernel
theorem dX9_closes_92 : decode cX9_closes 92 = .ok (.getfield 119, 3) := by decide +kernel
theorem dX9_closes_95 : decode cX9_closes 95 = .ok (.laload, 1) := by decide +kernel
theorem dX9_closes_96 : decode cX9_closes 96 = .ok (.lstore_n 2, 1) := by decide +kernel
theorem dX9_closes_97 : decode cX9_closes 97 = .ok (.aload_n 0, 1) := by decide +kernel
theorem dX9_closes_98 : decode cX9_closes 98 = .ok (.getfield 66, 3) := by decide +kernel
theorem dX9_closes_101 : decode cX9_closes 101 = .ok (.aload_n 0, 1) := by decide +kernel
theorem dX9_closes_102 : decode cX9_closes 102 = .ok (.getfield 119, 3) := by decide +kernel
theorem dX9_closes_105 : decode cX9_closes 105 = .ok (.iaload, 1) := by decide +kernel
theorem dX9_closes_106 : decode cX9_closes 106 = .ok (.tableswitch 87 0 6 #[42, 55, 63, 71, 79, 79, 79], 42) := by decide +kernel
theorem dX9_closes_148 : decode cX9_closes 148 = .ok (.aload_n 0, 1) := by decide +kernel
theorem dX9_closes_149 : decode cX9_closes 149 = .ok (.lload_n 2, 1) := by decide +kernel
theorem dX9_closes_150 : decode cX9_closes 150 = .ok (.putfield 323, 3) := by decide +kernel
theorem dX9_closes_153 : decode cX9_closes 153 = .ok (.aload_n 0, 1) := by decide +kernel
theorem dX9_closes_154 : decode cX9_closes 154 = .ok (.iconst 1, 1) := by decide +kernel
theorem dX9_closes_155 : decode cX9_closes 155 = .ok (.putfield 327, 3) := by decide +kernel
theorem dX9_closes_158 : decode cX9_closes 158 = .ok (.goto 51, 3) := by decide +kernel
theorem dX9_closes_161 : decode cX9_closes 161 = .ok (.aload_n 0, 1) := by decide +kernel
theorem dX9_closes_162 : decode cX9_closes 162 = .ok (.lload_n 2, 1) := by decide +kernel
theorem dX9_closes_163 : decode cX9_closes 163 = .ok (.invokevirtual 269, 3) := by decide +kernel
theorem dX9_closes_166 : decode cX9_closes 166 = .ok (.goto 43, 3) := by decide +kernel
theorem dX9_closes_169 : decode cX9_closes 169 = .ok (.aload_n 0, 1) := by decide +kernel
theorem dX9_closes_170 : decode cX9_closes 170 = .ok (.lload_n 2, 1) := by decide +kernel
theorem dX9_closes_171 : decode cX9_closes 171 = .ok (.invokevirtual 330, 3) := by decide +kernel
theorem dX9_closes_174 : decode cX9_closes 174 = .ok (.goto 35, 3) := by decide +kernel
theorem dX9_closes_177 : decode cX9_closes 177 = .ok (.aload_n 0, 1) := by decide +kernel
theorem dX9_closes_178 : decode cX9_closes 178 = .ok (.lload_n 2, 1) := by decide +kernel
theorem dX9_closes_179 : decode cX9_closes 179 = .ok (.invokevirtual 333, 3) := by decide +kernel
theorem dX9_closes_182 : decode cX9_closes 182 = .ok (.goto 27, 3) := by decide +kernel
theorem dX9_closes_185 : decode cX9_closes 185 = .ok (.aload_n 0, 1) := by decide +kernel
theorem dX9_closes_186 : decode cX9_closes 186 = .ok (.lload_n 2, 1) := by decide +kernel
theorem dX9_closes_187 : decode cX9_closes 187 = .ok (.invokevirtual 336, 3) := by decide +kernel
theorem dX9_closes_190 : decode cX9_closes 190 = .ok (.goto 19, 3) := by decide +kernel
theorem dX9_closes_193 : decode cX9_closes 193 = .ok (.aload_n 0, 1) := by decide +kernel
theorem dX9_closes_194 : decode cX9_closes 194 = .ok (.lload_n 2, 1) := by decide +kernel
theorem dX9_closes_195 : decode cX9_closes 195 = .ok (.invokevirtual 284, 3) := by decide +kernel
theorem dX9_closes_198 : decode cX9_closes 198 = .ok (.aload_n 0, 1) := by decide +kernel
theorem dX9_closes_199 : decode cX9_closes 199 = .ok (.invokevirtual 275, 3) := by decide +kernel
theorem dX9_closes_202 : decode cX9_closes 202 = .ok (.ifCond .eq 7, 3) := by decide +kernel
theorem dX9_closes_205 : decode cX9_closes 205 = .ok (.aload_n 0, 1) := by decide +kernel
theorem dX9_closes_206 : decode cX9_closes 206 = .ok (.invokevirtual 287, 3) := by decide +kernel
theorem dX9_closes_209 : decode cX9_closes 209 = .ok (.return_, 1) := by decide +kernel
theorem dX9_works_0 : decode cX9_works 0 = .ok (.aload_n 0, 1) := by decide +kernel
theorem dX9_works_1 : decode cX9_works 1 = .ok (.getfield 32, 3) := by decide +kernel
theorem dX9_works_4 : decode cX9_works 4 = .ok (.iload_n 1, 1) := by decide +kernel
theorem dX9_works_5 : decode cX9_works 5 = .ok (.iconst 0, 1) := by decide +kernel
theorem dX9_works_6 : decode cX9_works 6 = .ok (.iastore, 1) := by decide +kernel
theorem dX9_works_7 : decode cX9_works 7 = .ok (.aload_n 0, 1) := by decide +kernel
theorem dX9_works_8 : decode cX9_works 8 = .ok (.iconst 0, 1) := by decide +kernel
theorem dX9_works_9 : decode cX9_works 9 = .ok (.putfield 239, 3) := by decide +kernel
theorem dX9_works_12 : decode cX9_works 12 = .ok (.aload_n 0, 1) := by decide +kernel
theorem dX9_works_13 : decode cX9_works 13 = .ok (.iconst 0, 1) := by decide +kernel
theorem dX9_works_14 : decode cX9_works 14 = .ok (.putfield 252, 3) := by decide +kernel
theorem dX9_works_17 : decode cX9_works 17 = .ok (.aload_n 0, 1) := by decide +kernel
theorem dX9_works_18 : decode cX9_works 18 = .ok (.iload_n 1, 1) := by decide +kernel
theorem dX9_works_19 : decode cX9_works 19 = .ok (.aload_n 0, 1) := by decide +kernel
theorem dX9_works_20 : decode cX9_works 20 = .ok (.getfield 97, 3) := by decide +kernel
theorem dX9_works_23 : decode cX9_works 23 = .ok (.if_icmp .ne 7, 3) := by decide +kernel
theorem dX9_works_26 : decode cX9_works 26 = .ok (.iconst 1, 1) := by decide +kernel
theorem dX9_works_27 : decode cX9_works 27 = .ok (.goto 4, 3) := by decide +kernel
theorem dX9_works_30 : decode cX9_works 30 = .ok (.iconst 0, 1) := by decide +kernel
theorem dX9_works_31 : decode cX9_works 31 = .ok (.putfield 327, 3) := by decide +kernel
theorem dX9_works_34 : decode cX9_works 34 = .ok (.aload_n 0, 1) := by decide +kernel
theorem dX9_works_35 : decode cX9_works 35 = .ok (.aload_n 0, 1) := by decide +kernel
theorem dX9_works_36 : decode cX9_works 36 = .ok (.getfield 339, 3) := by decide +kernel
theorem dX9_works_39 : decode cX9_works 39 = .ok (.i2l, 1) := by decide +kernel
theorem dX9_works_40 : decode cX9_works 40 = .ok (.putfield 323, 3) := by decide +kernel
theorem dX9_works_43 : decode cX9_works 43 = .ok (.aload_n 0, 1) := by decide +kernel
theorem dX9_works_44 : decode cX9_works 44 = .ok (.iload_n 1, 1) := by decide +kernel
theorem dX9_works_45 : decode cX9_works 45 = .ok (.putfield 236, 3) := by decide +kernel
theorem dX9_works_48 : decode cX9_works 48 = .ok (.aload_n 0, 1) := by decide +kernel
theorem dX9_works_49 : decode cX9_works 49 = .ok (.aload_n 0, 1) := by decide +kernel
theorem dX9_works_50 : decode cX9_works 50 = .ok (.getfield 7, 3) := by decide +kernel
theorem dX9_works_53 : decode cX9_works 53 = .ok (.iconst 0, 1) := by decide +kernel
theorem dX9_works_54 : decode cX9_works 54 = .ok (.iload_n 1, 1) := by decide +kernel
theorem dX9_works_55 : decode cX9_works 55 = .ok (.iadd, 1) := by decide +kernel
theorem dX9_works_56 : decode cX9_works 56 = .ok (.iaload, 1) := by decide +kernel
theorem dX9_works_57 : decode cX9_works 57 = .ok (.putfield 233, 3) := by decide +kernel
theorem dX9_works_60 : decode cX9_works 60 = .ok (.aload_n 0, 1) := by decide +kernel
theorem dX9_works_61 : decode cX9_works 61 = .ok (.iconst 0, 1) := by decide +kernel
theorem dX9_works_62 : decode cX9_works 62 = .ok (.putfield 116, 3) := by decide +kernel
theorem dX9_works_65 : decode cX9_works 65 = .ok (.aload_n 0, 1) := by decide +kernel
theorem dX9_works_66 : decode cX9_works 66 = .ok (.iconst 0, 1) := by decide +kernel
theorem dX9_works_67 : decode cX9_works 67 = .ok (.putfield 119, 3) := by decide +kernel
theorem dX9_works_70 : decode cX9_works 70 = .ok (.aload_n 0, 1) := by decide +kernel
theorem dX9_works_71 : decode cX9_works 71 = .ok (.getfield 66, 3) := by decide +kernel
theorem dX9_works_74 : decode cX9_works 74 = .ok (.iconst 0, 1) := by decide +kernel
theorem dX9_works_75 : decode cX9_works 75 = .ok (.iconst 0, 1) := by decide +kernel
theorem dX9_works_76 : decode cX9_works 76 = .ok (.iastore, 1) := by decide +kernel
theorem dX9_works_77 : decode cX9_works 77 = .ok (.aload_n 0, 1) := by decide +kernel
theorem dX9_works_78 : decode cX9_works 78 = .ok (.getfield 69, 3) := by decide +kernel
theorem dX9_works_81 : decode cX9_works 81 = .ok (.iconst 0, 1) := by decide +kernel
theorem dX9_works_82 : decode cX9_works 82 = .ok (.iconst 0, 1) := by decide +kernel
theorem dX9_works_83 : decode cX9_works 83 = .ok (.iastore, 1) := by decide +kernel
theorem dX9_works_84 : decode cX9_works 84 = .ok (.aload_n 0, 1) := by decide +kernel
theorem dX9_works_85 : decode cX9_works 85 = .ok (.invokevirtual 249, 3) := by decide +kernel
theorem dX9_works_88 : decode cX9_works 88 = .ok (.aload_n 0, 1) := by decide +kernel
theorem dX9_works_89 : decode cX9_works 89 = .ok (.getfield 327, 3) := by decide +kernel
theorem dX9_works_92 : decode cX9_works 92 = .ok (.ifCond .ne 31, 3) := by decide +kernel
theorem dX9_works_95 : decode cX9_works 95 = .ok (.aload_n 0, 1) := by decide +kernel
theorem dX9_works_96 : decode cX9_works 96 = .ok (.invokevirtual 275, 3) := by decide +kernel
theorem dX9_works_99 : decode cX9_works 99 = .ok (.ifCond .eq 24, 3) := by decide +kernel
theorem dX9_works_102 : decode cX9_works 102 = .ok (.aload_n 0, 1) := by decide +kernel
theorem dX9_works_103 : decode cX9_works 103 = .ok (.getfield 182, 3) := by decide +kernel
theorem dX9_works_106 : decode cX9_works 106 = .ok (.ifCond .eq 10, 3) := by decide +kernel
theorem dX9_works_109 : decode cX9_works 109 = .ok (.aload_n 0, 1) := by decide +kernel
theorem dX9_works_110 : decode cX9_works 110 = .ok (.invokevirtual 342, 3) := by decide +kernel
theorem dX9_works_113 : decode cX9_works 113 = .ok (.goto (-25), 3) := by decide +kernel
theorem dX9_works_116 : decode cX9_works 116 = .ok (.aload_n 0, 1) := by decide +kernel
theorem dX9_works_117 : decode cX9_works 117 = .ok (.invokevirtual 345, 3) := by decide +kernel
theorem dX9_works_120 : decode cX9_works 120 = .ok (.goto (-32), 3) := by decide +kernel
theorem dX9_works_123 : decode cX9_works 123 = .ok (.return_, 1) := by decide +kernel
theorem dX9_lays_0 : decode cX9_lays 0 = .ok (.aload_n 0, 1) := by decide +kernel
theorem dX9_lays_1 : decode cX9_lays 1 = .ok (.getfield 22, 3) := by decide +kernel
theorem dX9_lays_4 : decode cX9_lays 4 = .ok (.iload_n 1, 1) := by decide +kernel
theorem dX9_lays_5 : decode cX9_lays 5 = .ok (.aload_n 0, 1) := by decide +kernel
theorem dX9_lays_6 : decode cX9_lays 6 = .ok (.getfield 239, 3) := by decide +kernel
theorem dX9_lays_9 : decode cX9_lays 9 = .ok (.iastore, 1) := by decide +kernel
theorem dX9_lays_10 : decode cX9_lays 10 = .ok (.aload_n 0, 1) := by decide +kernel
theorem dX9_lays_11 : decode cX9_lays 11 = .ok (.getfield 19, 3) := by decide +kernel
theorem dX9_lays_14 : decode cX9_lays 14 = .ok (.iload_n 1, 1) := by decide +kernel
theorem dX9_lays_15 : decode cX9_lays 15 = .ok (.aload_n 0, 1) := by decide +kernel
theorem dX9_lays_16 : decode cX9_lays 16 = .ok (.getfield 239, 3) := by decide +kernel
theorem dX9_lays_19 : decode cX9_lays 19 = .ok (.ifCond .le 7, 3) := by decide +kernel
theorem dX9_lays_22 : decode cX9_lays 22 = .ok (.iconst 0, 1) := by decide +kernel
theorem dX9_lays_23 : decode cX9_lays 23 = .ok (.goto 8, 3) := by decide +kernel
theorem dX9_lays_26 : decode cX9_lays 26 = .ok (.aload_n 0, 1) := by decide +kernel
theorem dX9_lays_27 : decode cX9_lays 27 = .ok (.getfield 323, 3) := by decide +kernel
theorem dX9_lays_30 : decode cX9_lays 30 = .ok (.l2i, 1) := by decide +kernel
theorem dX9_lays_31 : decode cX9_lays 31 = .ok (.iastore, 1) := by decide +kernel
theorem dX9_lays_32 : decode cX9_lays 32 = .ok (.return_, 1) := by decide +kernel
theorem dX9_heightOf_0 : decode cX9_heightOf 0 = .ok (.iconst (-1), 1) := by decide +kernel
theorem dX9_heightOf_1 : decode cX9_heightOf 1 = .ok (.istore_n 2, 1) := by decide +kernel
theorem dX9_heightOf_2 : decode cX9_heightOf 2 = .ok (.iconst 0, 1) := by decide +kernel
theorem dX9_heightOf_3 : decode cX9_heightOf 3 = .ok (.istore_n 3, 1) := by decide +kernel
theorem dX9_heightOf_4 : decode cX9_heightOf 4 = .ok (.iload_n 3, 1) := by decide +kernel
theorem dX9_heightOf_5 : decode cX9_heightOf 5 = .ok (.aload_n 0, 1) := by decide +kernel
theorem dX9_heightOf_6 : decode cX9_heightOf 6 = .ok (.getfield 32, 3) := by decide +kernel
theorem dX9_heightOf_9 : decode cX9_heightOf 9 = .ok (.iload_n 1, 1) := by decide +kernel
theorem dX9_heightOf_10 : decode cX9_heightOf 10 = .ok (.iaload, 1) := by decide +kernel
theorem dX9_heightOf_11 : decode cX9_heightOf 11 = .ok (.if_icmp .ge 45, 3) := by decide +kernel
theorem dX9_heightOf_14 : decode cX9_heightOf 14 = .ok (.aload_n 0, 1) := by decide +kernel
theorem dX9_heightOf_15 : decode cX9_heightOf 15 = .ok (.getfield 35, 3) := by decide +kernel
theorem dX9_heightOf_18 : decode cX9_heightOf 18 = .ok (.bipush 72, 2) := by decide +kernel
theorem dX9_heightOf_20 : decode cX9_heightOf 20 = .ok (.iload_n 1, 1) := by decide +kernel
theorem dX9_heightOf_21 : decode cX9_heightOf 21 = .ok (.imul, 1) := by decide +kernel
theorem dX9_heightOf_22 : decode cX9_heightOf 22 = .ok (.iload_n 3, 1) := by decide +kernel
theorem dX9_heightOf_23 : decode cX9_heightOf 23 = .ok (.iadd, 1) := by decide +kernel
theorem dX9_heightOf_24 : decode cX9_heightOf 24 = .ok (.iaload, 1) := by decide +kernel
theorem dX9_heightOf_25 : decode cX9_heightOf 25 = .ok (.istore 4, 2) := by decide +kernel
theorem dX9_heightOf_27 : decode cX9_heightOf 27 = .ok (.aload_n 0, 1) := by decide +kernel
theorem dX9_heightOf_28 : decode cX9_heightOf 28 = .ok (.getfield 29, 3) := by decide +kernel
theorem dX9_heightOf_31 : decode cX9_heightOf 31 = .ok (.iload 4, 2) := by decide +kernel
theorem dX9_heightOf_33 : decode cX9_heightOf 33 = .ok (.iaload, 1) := by decide +kernel
theorem dX9_heightOf_34 : decode cX9_heightOf 34 = .ok (.iload_n 2, 1) := by decide +kernel
theorem dX9_heightOf_35 : decode cX9_heightOf 35 = .ok (.if_icmp .le 13, 3) := by decide +kernel
theorem dX9_heightOf_38 : decode cX9_heightOf 38 = .ok (.aload_n 0, 1) := by decide +kernel
theorem dX9_heightOf_39 : decode cX9_heightOf 39 = .ok (.getfield 29, 3) := by decide +kernel
theorem dX9_heightOf_42 : decode cX9_heightOf 42 = .ok (.iload 4, 2) := by decide +kernel
theorem dX9_heightOf_44 : decode cX9_heightOf 44 = .ok (.iaload, 1) := by decide +kernel
theorem dX9_heightOf_45 : decode cX9_heightOf 45 = .ok (.goto 4, 3) := by decide +kernel
theorem dX9_heightOf_48 : decode cX9_heightOf 48 = .ok (.iload_n 2, 1) := by decide +kernel
theorem dX9_heightOf_49 : decode cX9_heightOf 49 = .ok (.istore_n 2, 1) := by decide +kernel
theorem dX9_heightOf_50 : decode cX9_heightOf 50 = .ok (.iinc 3 1, 3) := by decide +kernel
theorem dX9_heightOf_53 : decode cX9_heightOf 53 = .ok (.goto (-49), 3) := by decide +kernel
theorem dX9_heightOf_56 : decode cX9_heightOf 56 = .ok (.iload_n 2, 1) := by decide +kernel
theorem dX9_heightOf_57 : decode cX9_heightOf 57 = .ok (.iconst 1, 1) := by decide +kernel
theorem dX9_heightOf_58 : decode cX9_heightOf 58 = .ok (.iadd, 1) := by decide +kernel
theorem dX9_heightOf_59 : decode cX9_heightOf 59 = .ok (.ireturn, 1) := by decide +kernel
theorem dX9_passes_0 : decode cX9_passes 0 = .ok (.iconst 0, 1) := by decide +kernel
theorem dX9_passes_1 : decode cX9_passes 1 = .ok (.istore_n 1, 1) := by decide +kernel
theorem dX9_passes_2 : decode cX9_passes 2 = .ok (.iload_n 1, 1) := by decide +kernel
theorem dX9_passes_3 : decode cX9_passes 3 = .ok (.bipush 72, 2) := by decide +kernel
theorem dX9_passes_5 : decode cX9_passes 5 = .ok (.if_icmp .ge 55, 3) := by decide +kernel
theorem dX9_passes_8 : decode cX9_passes 8 = .ok (.aload_n 0, 1) := by decide +kernel
theorem dX9_passes_9 : decode cX9_passes 9 = .ok (.getfield 56, 3) := by decide +kernel
theorem dX9_passes_12 : decode cX9_passes 12 = .ok (.iload_n 1, 1) := by decide +kernel
theorem dX9_passes_13 : decode cX9_passes 13 = .ok (.aload_n 0, 1) := by decide +kernel
theorem dX9_passes_14 : decode cX9_passes 14 = .ok (.iload_n 1, 1) := by decide +kernel
theorem dX9_passes_15 : decode cX9_passes 15 = .ok (.invokevirtual 281, 3) := by decide +kernel
theorem dX9_passes_18 : decode cX9_passes 18 = .ok (.bastore, 1) := by decide +kernel
theorem dX9_passes_19 : decode cX9_passes 19 = .ok (.aload_n 0, 1) := by decide +kernel
theorem dX9_passes_20 : decode cX9_passes 20 = .ok (.getfield 25, 3) := by decide +kernel
theorem dX9_passes_23 : decode cX9_passes 23 = .ok (.iload_n 1, 1) := by decide +kernel
theorem dX9_passes_24 : decode cX9_passes 24 = .ok (.iconst 0, 1) := by decide +kernel
theorem dX9_passes_25 : decode cX9_passes 25 = .ok (.bastore, 1) := by decide +kernel
theorem dX9_passes_26 : decode cX9_passes 26 = .ok (.aload_n 0, 1) := by decide +kernel
theorem dX9_passes_27 : decode cX9_passes 27 = .ok (.getfield 19, 3) := by decide +kernel
theorem dX9_passes_30 : decode cX9_passes 30 = .ok (.iload_n 1, 1) := by decide +kernel
theorem dX9_passes_31 : decode cX9_passes 31 = .ok (.iconst 0, 1) := by decide +kernel
theorem dX9_passes_32 : decode cX9_passes 32 = .ok (.iastore, 1) := by decide +kernel
theorem dX9_passes_33 : decode cX9_passes 33 = .ok (.aload_n 0, 1) := by decide +kernel
theorem dX9_passes_34 : decode cX9_passes 34 = .ok (.getfield 22, 3) := by decide +kernel
theorem dX9_passes_37 : decode cX9_passes 37 = .ok (.iload_n 1, 1) := by decide +kernel
theorem dX9_passes_38 : decode cX9_passes 38 = .ok (.iconst 0, 1) := by decide +kernel
theorem dX9_passes_39 : decode cX9_passes 39 = .ok (.iastore, 1) := by decide +kernel
theorem dX9_passes_40 : decode cX9_passes 40 = .ok (.aload_n 0, 1) := by decide +kernel
theorem dX9_passes_41 : decode cX9_passes 41 = .ok (.getfield 29, 3) := by decide +kernel
theorem dX9_passes_44 : decode cX9_passes 44 = .ok (.iload_n 1, 1) := by decide +kernel
theorem dX9_passes_45 : decode cX9_passes 45 = .ok (.iconst 0, 1) := by decide +kernel
theorem dX9_passes_46 : decode cX9_passes 46 = .ok (.iastore, 1) := by decide +kernel
theorem dX9_passes_47 : decode cX9_passes 47 = .ok (.aload_n 0, 1) := by decide +kernel
theorem dX9_passes_48 : decode cX9_passes 48 = .ok (.getfield 32, 3) := by decide +kernel
theorem dX9_passes_51 : decode cX9_passes 51 = .ok (.iload_n 1, 1) := by decide +kernel
theorem dX9_passes_52 : decode cX9_passes 52 = .ok (.iconst 0, 1) := by decide +kernel
theorem dX9_passes_53 : decode cX9_passes 53 = .ok (.iastore, 1) := by decide +kernel
theorem dX9_passes_54 : decode cX9_passes 54 = .ok (.iinc 1 1, 3) := by decide +kernel
theorem dX9_passes_57 : decode cX9_passes 57 = .ok (.goto (-55), 3) := by decide +kernel
theorem dX9_passes_60 : decode cX9_passes 60 = .ok (.iconst 1, 1) := by decide +kernel
theorem dX9_passes_61 : decode cX9_passes 61 = .ok (.istore_n 1, 1) := by decide +kernel
theorem dX9_passes_62 : decode cX9_passes 62 = .ok (.iload_n 1, 1) := by decide +kernel
theorem dX9_passes_63 : decode cX9_passes 63 = .ok (.ifCond .eq 68, 3) := by decide +kernel
theorem dX9_passes_66 : decode cX9_passes 66 = .ok (.iconst 0, 1) := by decide +kernel
theorem dX9_passes_67 : decode cX9_passes 67 = .ok (.istore_n 1, 1) := by decide +kernel
theorem dX9_passes_68 : decode cX9_passes 68 = .ok (.iconst 0, 1) := by decide +kernel
theorem dX9_passes_69 : decode cX9_passes 69 = .ok (.istore_n 2, 1) := by decide +kernel
theorem dX9_passes_70 : decode cX9_passes 70 = .ok (.iload_n 2, 1) := by decide +kernel
theorem dX9_passes_71 : decode cX9_passes 71 = .ok (.bipush 72, 2) := by decide +kernel
theorem dX9_passes_73 : decode cX9_passes 73 = .ok (.if_icmp .ge 55, 3) := by decide +kernel
theorem dX9_passes_76 : decode cX9_passes 76 = .ok (.aload_n 0, 1) := by decide +kernel
theorem dX9_passes_77 : decode cX9_passes 77 = .ok (.getfield 56, 3) := by decide +kernel
theorem dX9_passes_80 : decode cX9_passes 80 = .ok (.iload_n 2, 1) := by decide +kernel
theorem dX9_passes_81 : decode cX9_passes 81 = .ok (.baload, 1) := by decide +kernel
theorem dX9_passes_82 : decode cX9_passes 82 = .ok (.ifCond .ne 40, 3) := by decide +kernel
theorem dX9_passes_85 : decode cX9_passes 85 = .ok (.aload_n 0, 1) := by decide +kernel
theorem dX9_passes_86 : decode cX9_passes 86 = .ok (.iload_n 2, 1) := by decide +kernel
theorem dX9_passes_87 : decode cX9_passes 87 = .ok (.invokevirtual 348, 3) := by decide +kernel
theorem dX9_passes_90 : decode cX9_passes 90 = .ok (.aload_n 0, 1) := by decide +kernel
theorem dX9_passes_91 : decode cX9_passes 91 = .ok (.getfield 252, 3) := by decide +kernel
theorem dX9_passes_94 : decode cX9_passes 94 = .ok (.ifCond .ne 28, 3) := by decide +kernel
theorem dX9_passes_97 : decode cX9_passes 97 = .ok (.aload_n 0, 1) := by decide +kernel
theorem dX9_passes_98 : decode cX9_passes 98 = .ok (.iload_n 2, 1) := by decide +kernel
theorem dX9_passes_99 : decode cX9_passes 99 = .ok (.invokevirtual 351, 3) := by decide +kernel
theorem dX9_passes_102 : decode cX9_passes 102 = .ok (.aload_n 0, 1) := by decide +kernel
theorem dX9_passes_103 : decode cX9_passes 103 = .ok (.getfield 29, 3) := by decide +kernel
theorem dX9_passes_106 : decode cX9_passes 106 = .ok (.iload_n 2, 1) := by decide +kernel
theorem dX9_passes_107 : decode cX9_passes 107 = .ok (.aload_n 0, 1) := by decide +kernel
theorem dX9_passes_108 : decode cX9_passes 108 = .ok (.iload_n 2, 1) := by decide +kernel
theorem dX9_passes_109 : decode cX9_passes 109 = .ok (.invokevirtual 354, 3) := by decide +kernel
theorem dX9_passes_112 : decode cX9_passes 112 = .ok (.iastore, 1) := by decide +kernel
theorem dX9_passes_113 : decode cX9_passes 113 = .ok (.aload_n 0, 1) := by decide +kernel
theorem dX9_passes_114 : decode cX9_passes 114 = .ok (.getfield 56, 3) := by decide +kernel
theorem dX9_passes_117 : decode cX9_passes 117 = .ok (.iload_n 2, 1) := by decide +kernel
theorem dX9_passes_118 : decode cX9_passes 118 = .ok (.iconst 1, 1) := by decide +kernel
theorem dX9_passes_119 : decode cX9_passes 119 = .ok (.bastore, 1) := by decide +kernel
theorem dX9_passes_120 : decode cX9_passes 120 = .ok (.iconst 1, 1) := by decide +kernel
theorem dX9_passes_121 : decode cX9_passes 121 = .ok (.istore_n 1, 1) := by decide +kernel
theorem dX9_passes_122 : decode cX9_passes 122 = .ok (.iinc 2 1, 3) := by decide +kernel
theorem dX9_passes_125 : decode cX9_passes 125 = .ok (.goto (-55), 3) := by decide +kernel
theorem dX9_passes_128 : decode cX9_passes 128 = .ok (.goto (-66), 3) := by decide +kernel
theorem dX9_passes_131 : decode cX9_passes 131 = .ok (.return_, 1) := by decide +kernel
theorem dX9_cyclic_0 : decode cX9_cyclic 0 = .ok (.iconst 0, 1) := by decide +kernel
theorem dX9_cyclic_1 : decode cX9_cyclic 1 = .ok (.istore_n 1, 1) := by decide +kernel
theorem dX9_cyclic_2 : decode cX9_cyclic 2 = .ok (.iconst 0, 1) := by decide +kernel
theorem dX9_cyclic_3 : decode cX9_cyclic 3 = .ok (.istore_n 2, 1) := by decide +kernel
theorem dX9_cyclic_4 : decode cX9_cyclic 4 = .ok (.iload_n 2, 1) := by decide +kernel
theorem dX9_cyclic_5 : decode cX9_cyclic 5 = .ok (.bipush 72, 2) := by decide +kernel
theorem dX9_cyclic_7 : decode cX9_cyclic 7 = .ok (.if_icmp .ge 26, 3) := by decide +kernel
theorem dX9_cyclic_10 : decode cX9_cyclic 10 = .ok (.iload_n 1, 1) := by decide +kernel
theorem dX9_cyclic_11 : decode cX9_cyclic 11 = .ok (.aload_n 0, 1) := by decide +kernel
theorem dX9_cyclic_12 : decode cX9_cyclic 12 = .ok (.getfield 25, 3) := by decide +kernel
theorem dX9_cyclic_15 : decode cX9_cyclic 15 = .ok (.iload_n 2, 1) := by decide +kernel
theorem dX9_cyclic_16 : decode cX9_cyclic 16 = .ok (.baload, 1) := by decide +kernel
theorem dX9_cyclic_17 : decode cX9_cyclic 17 = .ok (.ifCond .eq 7, 3) := by decide +kernel
theorem dX9_cyclic_20 : decode cX9_cyclic 20 = .ok (.iconst 1, 1) := by decide +kernel
theorem dX9_cyclic_21 : decode cX9_cyclic 21 = .ok (.goto 4, 3) := by decide +kernel
theorem dX9_cyclic_24 : decode cX9_cyclic 24 = .ok (.iconst 0, 1) := by decide +kernel
theorem dX9_cyclic_25 : decode cX9_cyclic 25 = .ok (.iadd, 1) := by decide +kernel
theorem dX9_cyclic_26 : decode cX9_cyclic 26 = .ok (.istore_n 1, 1) := by decide +kernel
theorem dX9_cyclic_27 : decode cX9_cyclic 27 = .ok (.iinc 2 1, 3) := by decide +kernel
theorem dX9_cyclic_30 : decode cX9_cyclic 30 = .ok (.goto (-26), 3) := by decide +kernel
theorem dX9_cyclic_33 : decode cX9_cyclic 33 = .ok (.iload_n 1, 1) := by decide +kernel
theorem dX9_cyclic_34 : decode cX9_cyclic 34 = .ok (.ireturn, 1) := by decide +kernel
theorem dX9_round_0 : decode cX9_round 0 = .ok (.iconst 0, 1) := by decide +kernel
theorem dX9_round_1 : decode cX9_round 1 = .ok (.istore_n 1, 1) := by decide +kernel
theorem dX9_round_2 : decode cX9_round 2 = .ok (.iconst 0, 1) := by decide +kernel
theorem dX9_round_3 : decode cX9_round 3 = .ok (.istore_n 2, 1) := by decide +kernel
theorem dX9_round_4 : decode cX9_round 4 = .ok (.iload_n 2, 1) := by decide +kernel
theorem dX9_round_5 : decode cX9_round 5 = .ok (.bipush 72, 2) := by decide +kernel
theorem dX9_round_7 : decode cX9_round 7 = .ok (.if_icmp .ge 74, 3) := by decide +kernel
theorem dX9_round_10 : decode cX9_round 10 = .ok (.aload_n 0, 1) := by decide +kernel
theorem dX9_round_11 : decode cX9_round 11 = .ok (.getfield 25, 3) := by decide +kernel
theorem dX9_round_14 : decode cX9_round 14 = .ok (.iload_n 2, 1) := by decide +kernel
theorem dX9_round_15 : decode cX9_round 15 = .ok (.baload, 1) := by decide +kernel
theorem dX9_round_16 : decode cX9_round 16 = .ok (.ifCond .eq 59, 3) := by decide +kernel
theorem dX9_round_19 : decode cX9_round 19 = .ok (.aload_n 0, 1) := by decide +kernel
theorem dX9_round_20 : decode cX9_round 20 = .ok (.getfield 19, 3) := by decide +kernel
theorem dX9_round_23 : decode cX9_round 23 = .ok (.iload_n 2, 1) := by decide +kernel
theorem dX9_round_24 : decode cX9_round 24 = .ok (.iaload, 1) := by decide +kernel
theorem dX9_round_25 : decode cX9_round 25 = .ok (.istore_n 3, 1) := by decide +kernel
theorem dX9_round_26 : decode cX9_round 26 = .ok (.aload_n 0, 1) := by decide +kernel
theorem dX9_round_27 : decode cX9_round 27 = .ok (.getfield 22, 3) := by decide +kernel
theorem dX9_round_30 : decode cX9_round 30 = .ok (.iload_n 2, 1) := by decide +kernel
theorem dX9_round_31 : decode cX9_round 31 = .ok (.iaload, 1) := by decide +kernel
theorem dX9_round_32 : decode cX9_round 32 = .ok (.istore 4, 2) := by decide +kernel
theorem dX9_round_34 : decode cX9_round 34 = .ok (.aload_n 0, 1) := by decide +kernel
theorem dX9_round_35 : decode cX9_round 35 = .ok (.iload_n 2, 1) := by decide +kernel
theorem dX9_round_36 : decode cX9_round 36 = .ok (.invokevirtual 348, 3) := by decide +kernel
theorem dX9_round_39 : decode cX9_round 39 = .ok (.aload_n 0, 1) := by decide +kernel
theorem dX9_round_40 : decode cX9_round 40 = .ok (.iload_n 2, 1) := by decide +kernel
theorem dX9_round_41 : decode cX9_round 41 = .ok (.invokevirtual 351, 3) := by decide +kernel
theorem dX9_round_44 : decode cX9_round 44 = .ok (.iload_n 1, 1) := by decide +kernel
theorem dX9_round_45 : decode cX9_round 45 = .ok (.ifCond .ne 24, 3) := by decide +kernel
theorem dX9_round_48 : decode cX9_round 48 = .ok (.aload_n 0, 1) := by decide +kernel
theorem dX9_round_49 : decode cX9_round 49 = .ok (.getfield 19, 3) := by decide +kernel
theorem dX9_round_52 : decode cX9_round 52 = .ok (.iload_n 2, 1) := by decide +kernel
theorem dX9_round_53 : decode cX9_round 53 = .ok (.iaload, 1) := by decide +kernel
theorem dX9_round_54 : decode cX9_round 54 = .ok (.iload_n 3, 1) := by decide +kernel
theorem dX9_round_55 : decode cX9_round 55 = .ok (.if_icmp .ne 14, 3) := by decide +kernel
theorem dX9_round_58 : decode cX9_round 58 = .ok (.aload_n 0, 1) := by decide +kernel
theorem dX9_round_59 : decode cX9_round 59 = .ok (.getfield 22, 3) := by decide +kernel
theorem dX9_round_62 : decode cX9_round 62 = .ok (.iload_n 2, 1) := by decide +kernel
theorem dX9_round_63 : decode cX9_round 63 = .ok (.iaload, 1) := by decide +kernel
theorem dX9_round_64 : decode cX9_round 64 = .ok (.iload 4, 2) := by decide +kernel
theorem dX9_round_66 : decode cX9_round 66 = .ok (.if_icmp .eq 7, 3) := by decide +kernel
theorem dX9_round_69 : decode cX9_round 69 = .ok (.iconst 1, 1) := by decide +kernel
theorem dX9_round_70 : decode cX9_round 70 = .ok (.goto 4, 3) := by decide +kernel
theorem dX9_round_73 : decode cX9_round 73 = .ok (.iconst 0, 1) := by decide +kernel
theorem dX9_round_74 : decode cX9_round 74 = .ok (.istore_n 1, 1) := by decide +kernel
theorem dX9_round_75 : decode cX9_round 75 = .ok (.iinc 2 1, 3) := by decide +kernel
theorem dX9_round_78 : decode cX9_round 78 = .ok (.goto (-74), 3) := by decide +kernel
theorem dX9_round_81 : decode cX9_round 81 = .ok (.iload_n 1, 1) := by decide +kernel
theorem dX9_round_82 : decode cX9_round 82 = .ok (.ireturn, 1) := by decide +kernel
theorem dX9_settles_0 : decode cX9_settles 0 = .ok (.aload_n 0, 1) := by decide +kernel
theorem dX9_settles_1 : decode cX9_settles 1 = .ok (.invokevirtual 357, 3) := by decide +kernel
theorem dX9_settles_4 : decode cX9_settles 4 = .ok (.iconst 0, 1) := by decide +kernel
theorem dX9_settles_5 : decode cX9_settles 5 = .ok (.istore_n 1, 1) := by decide +kernel
theorem dX9_settles_6 : decode cX9_settles 6 = .ok (.iload_n 1, 1) := by decide +kernel
theorem dX9_settles_7 : decode cX9_settles 7 = .ok (.bipush 72, 2) := by decide +kernel
theorem dX9_settles_9 : decode cX9_settles 9 = .ok (.if_icmp .ge 65, 3) := by decide +kernel
theorem dX9_settles_12 : decode cX9_settles 12 = .ok (.aload_n 0, 1) := by decide +kernel
theorem dX9_settles_13 : decode cX9_settles 13 = .ok (.getfield 25, 3) := by decide +kernel
theorem dX9_settles_16 : decode cX9_settles 16 = .ok (.iload_n 1, 1) := by decide +kernel
theorem dX9_settles_17 : decode cX9_settles 17 = .ok (.aload_n 0, 1) := by decide +kernel
theorem dX9_settles_18 : decode cX9_settles 18 = .ok (.getfield 56, 3) := by decide +kernel
theorem dX9_settles_21 : decode cX9_settles 21 = .ok (.iload_n 1, 1) := by decide +kernel
theorem dX9_settles_22 : decode cX9_settles 22 = .ok (.baload, 1) := by decide +kernel
theorem dX9_settles_23 : decode cX9_settles 23 = .ok (.ifCond .ne 7, 3) := by decide +kernel
theorem dX9_settles_26 : decode cX9_settles 26 = .ok (.iconst 1, 1) := by decide +kernel
theorem dX9_settles_27 : decode cX9_settles 27 = .ok (.goto 4, 3) := by decide +kernel
theorem dX9_settles_30 : decode cX9_settles 30 = .ok (.iconst 0, 1) := by decide +kernel
theorem dX9_settles_31 : decode cX9_settles 31 = .ok (.bastore, 1) := by decide +kernel
theorem dX9_settles_32 : decode cX9_settles 32 = .ok (.aload_n 0, 1) := by decide +kernel
theorem dX9_settles_33 : decode cX9_settles 33 = .ok (.getfield 22, 3) := by decide +kernel
theorem dX9_settles_36 : decode cX9_settles 36 = .ok (.iload_n 1, 1) := by decide +kernel
theorem dX9_settles_37 : decode cX9_settles 37 = .ok (.aload_n 0, 1) := by decide +kernel
theorem dX9_settles_38 : decode cX9_settles 38 = .ok (.getfield 25, 3) := by decide +kernel
theorem dX9_settles_41 : decode cX9_settles 41 = .ok (.iload_n 1, 1) := by decide +kernel
theorem dX9_settles_42 : decode cX9_settles 42 = .ok (.baload, 1) := by decide +kernel
theorem dX9_settles_43 : decode cX9_settles 43 = .ok (.ifCond .eq 18, 3) := by decide +kernel
theorem dX9_settles_46 : decode cX9_settles 46 = .ok (.aload_n 0, 1) := by decide +kernel
theorem dX9_settles_47 : decode cX9_settles 47 = .ok (.getfield 7, 3) := by decide +kernel
theorem dX9_settles_50 : decode cX9_settles 50 = .ok (.sipush 2520, 3) := by decide +kernel
theorem dX9_settles_53 : decode cX9_settles 53 = .ok (.iaload, 1) := by decide +kernel
theorem dX9_settles_54 : decode cX9_settles 54 = .ok (.ifCond .ne 7, 3) := by decide +kernel
theorem dX9_settles_57 : decode cX9_settles 57 = .ok (.iconst 4, 1) := by decide +kernel
theorem dX9_settles_58 : decode cX9_settles 58 = .ok (.goto 9, 3) := by decide +kernel
theorem dX9_settles_61 : decode cX9_settles 61 = .ok (.aload_n 0, 1) := by decide +kernel
theorem dX9_settles_62 : decode cX9_settles 62 = .ok (.getfield 22, 3) := by decide +kernel
theorem dX9_settles_65 : decode cX9_settles 65 = .ok (.iload_n 1, 1) := by decide +kernel
theorem dX9_settles_66 : decode cX9_settles 66 = .ok (.iaload, 1) := by decide +kernel
theorem dX9_settles_67 : decode cX9_settles 67 = .ok (.iastore, 1) := by decide +kernel
theorem dX9_settles_68 : decode cX9_settles 68 = .ok (.iinc 1 1, 3) := by decide +kernel
theorem dX9_settles_71 : decode cX9_settles 71 = .ok (.goto (-65), 3) := by decide +kernel
theorem dX9_settles_74 : decode cX9_settles 74 = .ok (.iconst 0, 1) := by decide +kernel
theorem dX9_settles_75 : decode cX9_settles 75 = .ok (.istore_n 1, 1) := by decide +kernel
theorem dX9_settles_76 : decode cX9_settles 76 = .ok (.iload_n 1, 1) := by decide +kernel
theorem dX9_settles_77 : decode cX9_settles 77 = .ok (.bipush 72, 2) := by decide +kernel
theorem dX9_settles_79 : decode cX9_settles 79 = .ok (.if_icmp .ge 16, 3) := by decide +kernel
theorem dX9_settles_82 : decode cX9_settles 82 = .ok (.aload_n 0, 1) := by decide +kernel
theorem dX9_settles_83 : decode cX9_settles 83 = .ok (.getfield 56, 3) := by decide +kernel
theorem dX9_settles_86 : decode cX9_settles 86 = .ok (.iload_n 1, 1) := by decide +kernel
theorem dX9_settles_87 : decode cX9_settles 87 = .ok (.iconst 1, 1) := by decide +kernel
theorem dX9_settles_88 : decode cX9_settles 88 = .ok (.bastore, 1) := by decide +kernel
theorem dX9_settles_89 : decode cX9_settles 89 = .ok (.iinc 1 1, 3) := by decide +kernel
theorem dX9_settles_92 : decode cX9_settles 92 = .ok (.goto (-16), 3) := by decide +kernel
theorem dX9_settles_95 : decode cX9_settles 95 = .ok (.aload_n 0, 1) := by decide +kernel
theorem dX9_settles_96 : decode cX9_settles 96 = .ok (.iconst 0, 1) := by decide +kernel
theorem dX9_settles_97 : decode cX9_settles 97 = .ok (.putfield 360, 3) := by decide +kernel
theorem dX9_settles_100 : decode cX9_settles 100 = .ok (.aload_n 0, 1) := by decide +kernel
theorem dX9_settles_101 : decode cX9_settles 101 = .ok (.aload_n 0, 1) := by decide +kernel
theorem dX9_settles_102 : decode cX9_settles 102 = .ok (.invokevirtual 363, 3) := by decide +kernel
theorem dX9_settles_105 : decode cX9_settles 105 = .ok (.ifCond .ne 7, 3) := by decide +kernel
theorem dX9_settles_108 : decode cX9_settles 108 = .ok (.iconst 1, 1) := by decide +kernel
theorem dX9_settles_109 : decode cX9_settles 109 = .ok (.goto 4, 3) := by decide +kernel
theorem dX9_settles_112 : decode cX9_settles 112 = .ok (.iconst 0, 1) := by decide +kernel
theorem dX9_settles_113 : decode cX9_settles 113 = .ok (.putfield 62, 3) := by decide +kernel
theorem dX9_settles_116 : decode cX9_settles 116 = .ok (.aload_n 0, 1) := by decide +kernel
theorem dX9_settles_117 : decode cX9_settles 117 = .ok (.invokevirtual 363, 3) := by decide +kernel
theorem dX9_settles_120 : decode cX9_settles 120 = .ok (.ifCond .le 7, 3) := by decide +kernel
theorem dX9_settles_123 : decode cX9_settles 123 = .ok (.iconst 1, 1) := by decide +kernel
theorem dX9_settles_124 : decode cX9_settles 124 = .ok (.goto 4, 3) := by decide +kernel
theorem dX9_settles_127 : decode cX9_settles 127 = .ok (.iconst 0, 1) := by decide +kernel
theorem dX9_settles_128 : decode cX9_settles 128 = .ok (.istore_n 1, 1) := by decide +kernel
theorem dX9_settles_129 : decode cX9_settles 129 = .ok (.aload_n 0, 1) := by decide +kernel
theorem dX9_settles_130 : decode cX9_settles 130 = .ok (.getfield 7, 3) := by decide +kernel
theorem dX9_settles_133 : decode cX9_settles 133 = .ok (.sipush 2520, 3) := by decide +kernel
theorem dX9_settles_136 : decode cX9_settles 136 = .ok (.iaload, 1) := by decide +kernel
theorem dX9_settles_137 : decode cX9_settles 137 = .ok (.ifCond .ne 22, 3) := by decide +kernel
theorem dX9_settles_140 : decode cX9_settles 140 = .ok (.iload_n 1, 1) := by decide +kernel
theorem dX9_settles_141 : decode cX9_settles 141 = .ok (.ifCond .eq 14, 3) := by decide +kernel
theorem dX9_settles_144 : decode cX9_settles 144 = .ok (.aload_n 0, 1) := by decide +kernel
theorem dX9_settles_145 : decode cX9_settles 145 = .ok (.invokevirtual 366, 3) := by decide +kernel
theorem dX9_settles_148 : decode cX9_settles 148 = .ok (.ifCond .eq 7, 3) := by decide +kernel
theorem dX9_settles_151 : decode cX9_settles 151 = .ok (.iconst 1, 1) := by decide +kernel
theorem dX9_settles_152 : decode cX9_settles 152 = .ok (.goto 4, 3) := by decide +kernel
theorem dX9_settles_155 : decode cX9_settles 155 = .ok (.iconst 0, 1) := by decide +kernel
theorem dX9_settles_156 : decode cX9_settles 156 = .ok (.istore_n 1, 1) := by decide +kernel
theorem dX9_settles_157 : decode cX9_settles 157 = .ok (.iconst 0, 1) := by decide +kernel
theorem dX9_settles_158 : decode cX9_settles 158 = .ok (.istore_n 1, 1) := by decide +kernel
theorem dX9_settles_159 : decode cX9_settles 159 = .ok (.iload_n 1, 1) := by decide +kernel
theorem dX9_settles_160 : decode cX9_settles 160 = .ok (.ifCond .eq 49, 3) := by decide +kernel
theorem dX9_settles_163 : decode cX9_settles 163 = .ok (.aload_n 0, 1) := by decide +kernel
theorem dX9_settles_164 : decode cX9_settles 164 = .ok (.getfield 360, 3) := by decide +kernel
theorem dX9_settles_167 : decode cX9_settles 167 = .ok (.aload_n 0, 1) := by decide +kernel
theorem dX9_settles_168 : decode cX9_settles 168 = .ok (.getfield 7, 3) := by decide +kernel
theorem dX9_settles_171 : decode cX9_settles 171 = .ok (.sipush 2520, 3) := by decide +kernel
theorem dX9_settles_174 : decode cX9_settles 174 = .ok (.iaload, 1) := by decide +kernel
theorem dX9_settles_175 : decode cX9_settles 175 = .ok (.if_icmp .ge 34, 3) := by decide +kernel
theorem dX9_settles_178 : decode cX9_settles 178 = .ok (.aload_n 0, 1) := by decide +kernel
theorem dX9_settles_179 : decode cX9_settles 179 = .ok (.invokevirtual 366, 3) := by decide +kernel
theorem dX9_settles_182 : decode cX9_settles 182 = .ok (.istore_n 1, 1) := by decide +kernel
theorem dX9_settles_183 : decode cX9_settles 183 = .ok (.aload_n 0, 1) := by decide +kernel
theorem dX9_settles_184 : decode cX9_settles 184 = .ok (.dup, 1) := by decide +kernel
theorem dX9_settles_185 : decode cX9_settles 185 = .ok (.getfield 360, 3) := by decide +kernel
theorem dX9_settles_188 : decode cX9_settles 188 = .ok (.iconst 1, 1) := by decide +kernel
theorem dX9_settles_189 : decode cX9_settles 189 = .ok (.iadd, 1) := by decide +kernel
theorem dX9_settles_190 : decode cX9_settles 190 = .ok (.putfield 360, 3) := by decide +kernel
theorem dX9_settles_193 : decode cX9_settles 193 = .ok (.aload_n 0, 1) := by decide +kernel
theorem dX9_settles_194 : decode cX9_settles 194 = .ok (.iload_n 1, 1) := by decide +kernel
theorem dX9_settles_195 : decode cX9_settles 195 = .ok (.ifCond .ne 7, 3) := by decide +kernel
theorem dX9_settles_198 : decode cX9_settles 198 = .ok (.iconst 1, 1) := by decide +kernel
theorem dX9_settles_199 : decode cX9_settles 199 = .ok (.goto 4, 3) := by decide +kernel
theorem dX9_settles_202 : decode cX9_settles 202 = .ok (.iconst 0, 1) := by decide +kernel
theorem dX9_settles_203 : decode cX9_settles 203 = .ok (.putfield 62, 3) := by decide +kernel
theorem dX9_settles_206 : decode cX9_settles 206 = .ok (.goto (-47), 3) := by decide +kernel
theorem dX9_settles_209 : decode cX9_settles 209 = .ok (.return_, 1) := by decide +kernel
theorem dX9_remembers_0 : decode cX9_remembers 0 = .ok (.iconst 0, 1) := by decide +kernel
theorem dX9_remembers_1 : decode cX9_remembers 1 = .ok (.istore_n 1, 1) := by decide +kernel
theorem dX9_remembers_2 : decode cX9_remembers 2 = .ok (.iload_n 1, 1) := by decide +kernel
theorem dX9_remembers_3 : decode cX9_remembers 3 = .ok (.bipush 72, 2) := by decide +kernel
theorem dX9_remembers_5 : decode cX9_remembers 5 = .ok (.if_icmp .ge 75, 3) := by decide +kernel
theorem dX9_remembers_8 : decode cX9_remembers 8 = .ok (.aload_n 0, 1) := by decide +kernel
theorem dX9_remembers_9 : decode cX9_remembers 9 = .ok (.getfield 38, 3) := by decide +kernel
theorem dX9_remembers_12 : decode cX9_remembers 12 = .ok (.iload_n 1, 1) := by decide +kernel
theorem dX9_remembers_13 : decode cX9_remembers 13 = .ok (.aload_n 0, 1) := by decide +kernel
theorem dX9_remembers_14 : decode cX9_remembers 14 = .ok (.getfield 19, 3) := by decide +kernel
theorem dX9_remembers_17 : decode cX9_remembers 17 = .ok (.iload_n 1, 1) := by decide +kernel
theorem dX9_remembers_18 : decode cX9_remembers 18 = .ok (.iaload, 1) := by decide +kernel
theorem dX9_remembers_19 : decode cX9_remembers 19 = .ok (.iastore, 1) := by decide +kernel
theorem dX9_remembers_20 : decode cX9_remembers 20 = .ok (.aload_n 0, 1) := by decide +kernel
theorem dX9_remembers_21 : decode cX9_remembers 21 = .ok (.getfield 41, 3) := by decide +kernel
theorem dX9_remembers_24 : decode cX9_remembers 24 = .ok (.iload_n 1, 1) := by decide +kernel
theorem dX9_remembers_25 : decode cX9_remembers 25 = .ok (.aload_n 0, 1) := by decide +kernel
theorem dX9_remembers_26 : decode cX9_remembers 26 = .ok (.getfield 22, 3) := by decide +kernel
theorem dX9_remembers_29 : decode cX9_remembers 29 = .ok (.iload_n 1, 1) := by decide +kernel
theorem dX9_remembers_30 : decode cX9_remembers 30 = .ok (.iaload, 1) := by decide +kernel
theorem dX9_remembers_31 : decode cX9_remembers 31 = .ok (.iastore, 1) := by decide +kernel
theorem dX9_remembers_32 : decode cX9_remembers 32 = .ok (.aload_n 0, 1) := by decide +kernel
theorem dX9_remembers_33 : decode cX9_remembers 33 = .ok (.getfield 44, 3) := by decide +kernel
theorem dX9_remembers_36 : decode cX9_remembers 36 = .ok (.iload_n 1, 1) := by decide +kernel
theorem dX9_remembers_37 : decode cX9_remembers 37 = .ok (.aload_n 0, 1) := by decide +kernel
theorem dX9_remembers_38 : decode cX9_remembers 38 = .ok (.getfield 25, 3) := by decide +kernel
theorem dX9_remembers_41 : decode cX9_remembers 41 = .ok (.iload_n 1, 1) := by decide +kernel
theorem dX9_remembers_42 : decode cX9_remembers 42 = .ok (.baload, 1) := by decide +kernel
theorem dX9_remembers_43 : decode cX9_remembers 43 = .ok (.bastore, 1) := by decide +kernel
theorem dX9_remembers_44 : decode cX9_remembers 44 = .ok (.aload_n 0, 1) := by decide +kernel
theorem dX9_remembers_45 : decode cX9_remembers 45 = .ok (.getfield 47, 3) := by decide +kernel
theorem dX9_remembers_48 : decode cX9_remembers 48 = .ok (.iload_n 1, 1) := by decide +kernel
theorem dX9_remembers_49 : decode cX9_remembers 49 = .ok (.aload_n 0, 1) := by decide +kernel
theorem dX9_remembers_50 : decode cX9_remembers 50 = .ok (.iload_n 1, 1) := by decide +kernel
theorem dX9_remembers_51 : decode cX9_remembers 51 = .ok (.invokevirtual 281, 3) := by decide +kernel
theorem dX9_remembers_54 : decode cX9_remembers 54 = .ok (.bastore, 1) := by decide +kernel
theorem dX9_remembers_55 : decode cX9_remembers 55 = .ok (.aload_n 0, 1) := by decide +kernel
theorem dX9_remembers_56 : decode cX9_remembers 56 = .ok (.getfield 50, 3) := by decide +kernel
theorem dX9_remembers_59 : decode cX9_remembers 59 = .ok (.iload_n 1, 1) := by decide +kernel
theorem dX9_remembers_60 : decode cX9_remembers 60 = .ok (.aload_n 0, 1) := by decide +kernel
theorem dX9_remembers_61 : decode cX9_remembers 61 = .ok (.getfield 32, 3) := by decide +kernel
theorem dX9_remembers_64 : decode cX9_remembers 64 = .ok (.iload_n 1, 1) := by decide +kernel
theorem dX9_remembers_65 : decode cX9_remembers 65 = .ok (.iaload, 1) := by decide +kernel
theorem dX9_remembers_66 : decode cX9_remembers 66 = .ok (.iastore, 1) := by decide +kernel
theorem dX9_remembers_67 : decode cX9_remembers 67 = .ok (.aload_n 0, 1) := by decide +kernel
theorem dX9_remembers_68 : decode cX9_remembers 68 = .ok (.getfield 59, 3) := by decide +kernel
theorem dX9_remembers_71 : decode cX9_remembers 71 = .ok (.iload_n 1, 1) := by decide +kernel
theorem dX9_remembers_72 : decode cX9_remembers 72 = .ok (.iconst 0, 1) := by decide +kernel
theorem dX9_remembers_73 : decode cX9_remembers 73 = .ok (.bastore, 1) := by decide +kernel
theorem dX9_remembers_74 : decode cX9_remembers 74 = .ok (.iinc 1 1, 3) := by decide +kernel
theorem dX9_remembers_77 : decode cX9_remembers 77 = .ok (.goto (-75), 3) := by decide +kernel
theorem dX9_remembers_80 : decode cX9_remembers 80 = .ok (.iconst 0, 1) := by decide +kernel
theorem dX9_remembers_81 : decode cX9_remembers 81 = .ok (.istore_n 1, 1) := by decide +kernel
theorem dX9_remembers_82 : decode cX9_remembers 82 = .ok (.iload_n 1, 1) := by decide +kernel
theorem dX9_remembers_83 : decode cX9_remembers 83 = .ok (.sipush 5184, 3) := by decide +kernel
theorem dX9_remembers_86 : decode cX9_remembers 86 = .ok (.if_icmp .ge 21, 3) := by decide +kernel
theorem dX9_remembers_89 : decode cX9_remembers 89 = .ok (.aload_n 0, 1) := by decide +kernel
theorem dX9_remembers_90 : decode cX9_remembers 90 = .ok (.getfield 53, 3) := by decide +kernel
theorem dX9_remembers_93 : decode cX9_remembers 93 = .ok (.iload_n 1, 1) := by decide +kernel
theorem dX9_remembers_94 : decode cX9_remembers 94 = .ok (.aload_n 0, 1) := by decide +kernel
theorem dX9_remembers_95 : decode cX9_remembers 95 = .ok (.getfield 35, 3) := by decide +kernel
theorem dX9_remembers_98 : decode cX9_remembers 98 = .ok (.iload_n 1, 1) := by decide +kernel
theorem dX9_remembers_99 : decode cX9_remembers 99 = .ok (.iaload, 1) := by decide +kernel
theorem dX9_remembers_100 : decode cX9_remembers 100 = .ok (.iastore, 1) := by decide +kernel
theorem dX9_remembers_101 : decode cX9_remembers 101 = .ok (.iinc 1 1, 3) := by decide +kernel
theorem dX9_remembers_104 : decode cX9_remembers 104 = .ok (.goto (-22), 3) := by decide +kernel
theorem dX9_remembers_107 : decode cX9_remembers 107 = .ok (.return_, 1) := by decide +kernel
theorem dX9_changedRead_0 : decode cX9_changedRead 0 = .ok (.iconst 0, 1) := by decide +kernel
theorem dX9_changedRead_1 : decode cX9_changedRead 1 = .ok (.istore_n 2, 1) := by decide +kernel
theorem dX9_changedRead_2 : decode cX9_changedRead 2 = .ok (.iload_n 2, 1) := by decide +kernel
theorem dX9_changedRead_3 : decode cX9_changedRead 3 = .ok (.aload_n 0, 1) := by decide +kernel
theorem dX9_changedRead_4 : decode cX9_changedRead 4 = .ok (.getfield 50, 3) := by decide +kernel
theorem dX9_changedRead_7 : decode cX9_changedRead 7 = .ok (.iload_n 1, 1) := by decide +kernel
theorem dX9_changedRead_8 : decode cX9_changedRead 8 = .ok (.iaload, 1) := by decide +kernel
theorem dX9_changedRead_9 : decode cX9_changedRead 9 = .ok (.if_icmp .ge 45, 3) := by decide +kernel
theorem dX9_changedRead_12 : decode cX9_changedRead 12 = .ok (.aload_n 0, 1) := by decide +kernel
theorem dX9_changedRead_13 : decode cX9_changedRead 13 = .ok (.getfield 7, 3) := by decide +kernel
theorem dX9_changedRead_16 : decode cX9_changedRead 16 = .ok (.sipush 2376, 3) := by decide +kernel
theorem dX9_changedRead_19 : decode cX9_changedRead 19 = .ok (.aload_n 0, 1) := by decide +kernel
theorem dX9_changedRead_20 : decode cX9_changedRead 20 = .ok (.getfield 53, 3) := by decide +kernel
theorem dX9_changedRead_23 : decode cX9_changedRead 23 = .ok (.bipush 72, 2) := by decide +kernel
theorem dX9_changedRead_25 : decode cX9_changedRead 25 = .ok (.iload_n 1, 1) := by decide +kernel
theorem dX9_changedRead_26 : decode cX9_changedRead 26 = .ok (.imul, 1) := by decide +kernel
theorem dX9_changedRead_27 : decode cX9_changedRead 27 = .ok (.iload_n 2, 1) := by decide +kernel
theorem dX9_changedRead_28 : decode cX9_changedRead 28 = .ok (.iadd, 1) := by decide +kernel
theorem dX9_changedRead_29 : decode cX9_changedRead 29 = .ok (.iaload, 1) := by decide +kernel
theorem dX9_changedRead_30 : decode cX9_changedRead 30 = .ok (.iadd, 1) := by decide +kernel
theorem dX9_changedRead_31 : decode cX9_changedRead 31 = .ok (.iaload, 1) := by decide +kernel
theorem dX9_changedRead_32 : decode cX9_changedRead 32 = .ok (.iconst 1, 1) := by decide +kernel
theorem dX9_changedRead_33 : decode cX9_changedRead 33 = .ok (.if_icmp .ne 15, 3) := by decide +kernel
theorem dX9_changedRead_36 : decode cX9_changedRead 36 = .ok (.aload_n 0, 1) := by decide +kernel
theorem dX9_changedRead_37 : decode cX9_changedRead 37 = .ok (.getfield 53, 3) := by decide +kernel
theorem dX9_changedRead_40 : decode cX9_changedRead 40 = .ok (.bipush 72, 2) := by decide +kernel
theorem dX9_changedRead_42 : decode cX9_changedRead 42 = .ok (.iload_n 1, 1) := by decide +kernel
theorem dX9_changedRead_43 : decode cX9_changedRead 43 = .ok (.imul, 1) := by decide +kernel
theorem dX9_changedRead_44 : decode cX9_changedRead 44 = .ok (.iload_n 2, 1) := by decide +kernel
theorem dX9_changedRead_45 : decode cX9_changedRead 45 = .ok (.iadd, 1) := by decide +kernel
theorem dX9_changedRead_46 : decode cX9_changedRead 46 = .ok (.iaload, 1) := by decide +kernel
theorem dX9_changedRead_47 : decode cX9_changedRead 47 = .ok (.ireturn, 1) := by decide +kernel
theorem dX9_changedRead_48 : decode cX9_changedRead 48 = .ok (.iinc 2 1, 3) := by decide +kernel
theorem dX9_changedRead_51 : decode cX9_changedRead 51 = .ok (.goto (-49), 3) := by decide +kernel
theorem dX9_changedRead_54 : decode cX9_changedRead 54 = .ok (.iconst (-1), 1) := by decide +kernel
theorem dX9_changedRead_55 : decode cX9_changedRead 55 = .ok (.ireturn, 1) := by decide +kernel
theorem dX9_bringsUp_0 : decode cX9_bringsUp 0 = .ok (.aload_n 0, 1) := by decide +kernel
theorem dX9_bringsUp_1 : decode cX9_bringsUp 1 = .ok (.invokevirtual 369, 3) := by decide +kernel
theorem dX9_bringsUp_4 : decode cX9_bringsUp 4 = .ok (.iconst 0, 1) := by decide +kernel
theorem dX9_bringsUp_5 : decode cX9_bringsUp 5 = .ok (.istore_n 1, 1) := by decide +kernel
theorem dX9_bringsUp_6 : decode cX9_bringsUp 6 = .ok (.iload_n 1, 1) := by decide +kernel
theorem dX9_bringsUp_7 : decode cX9_bringsUp 7 = .ok (.bipush 72, 2) := by decide +kernel
theorem dX9_bringsUp_9 : decode cX9_bringsUp 9 = .ok (.if_icmp .ge 78, 3) := by decide +kernel
theorem dX9_bringsUp_12 : decode cX9_bringsUp 12 = .ok (.aload_n 0, 1) := by decide +kernel
theorem dX9_bringsUp_13 : decode cX9_bringsUp 13 = .ok (.getfield 19, 3) := by decide +kernel
theorem dX9_bringsUp_16 : decode cX9_bringsUp 16 = .ok (.iload_n 1, 1) := by decide +kernel
theorem dX9_bringsUp_17 : decode cX9_bringsUp 17 = .ok (.iaload, 1) := by decide +kernel
theorem dX9_bringsUp_18 : decode cX9_bringsUp 18 = .ok (.aload_n 0, 1) := by decide +kernel
theorem dX9_bringsUp_19 : decode cX9_bringsUp 19 = .ok (.getfield 38, 3) := by decide +kernel
theorem dX9_bringsUp_22 : decode cX9_bringsUp 22 = .ok (.iload_n 1, 1) := by decide +kernel
theorem dX9_bringsUp_23 : decode cX9_bringsUp 23 = .ok (.iaload, 1) := by decide +kernel
theorem dX9_bringsUp_24 : decode cX9_bringsUp 24 = .ok (.if_icmp .ne 32, 3) := by decide +kernel
theorem dX9_bringsUp_27 : decode cX9_bringsUp 27 = .ok (.aload_n 0, 1) := by decide +kernel
theorem dX9_bringsUp_28 : decode cX9_bringsUp 28 = .ok (.getfield 22, 3) := by decide +kernel
theorem dX9_bringsUp_31 : decode cX9_bringsUp 31 = .ok (.iload_n 1, 1) := by decide +kernel
theorem dX9_bringsUp_32 : decode cX9_bringsUp 32 = .ok (.iaload, 1) := by decide +kernel
theorem dX9_bringsUp_33 : decode cX9_bringsUp 33 = .ok (.aload_n 0, 1) := by decide +kernel
theorem dX9_bringsUp_34 : decode cX9_bringsUp 34 = .ok (.getfield 41, 3) := by decide +kernel
theorem dX9_bringsUp_37 : decode cX9_bringsUp 37 = .ok (.iload_n 1, 1) := by decide +kernel
theorem dX9_bringsUp_38 : decode cX9_bringsUp 38 = .ok (.iaload, 1) := by decide +kernel
theorem dX9_bringsUp_39 : decode cX9_bringsUp 39 = .ok (.if_icmp .ne 17, 3) := by decide +kernel
theorem dX9_bringsUp_42 : decode cX9_bringsUp 42 = .ok (.aload_n 0, 1) := by decide +kernel
theorem dX9_bringsUp_43 : decode cX9_bringsUp 43 = .ok (.iload_n 1, 1) := by decide +kernel
theorem dX9_bringsUp_44 : decode cX9_bringsUp 44 = .ok (.invokevirtual 281, 3) := by decide +kernel
theorem dX9_bringsUp_47 : decode cX9_bringsUp 47 = .ok (.aload_n 0, 1) := by decide +kernel
theorem dX9_bringsUp_48 : decode cX9_bringsUp 48 = .ok (.getfield 47, 3) := by decide +kernel
theorem dX9_bringsUp_51 : decode cX9_bringsUp 51 = .ok (.iload_n 1, 1) := by decide +kernel
theorem dX9_bringsUp_52 : decode cX9_bringsUp 52 = .ok (.baload, 1) := by decide +kernel
theorem dX9_bringsUp_53 : decode cX9_bringsUp 53 = .ok (.if_icmp .eq 7, 3) := by decide +kernel
theorem dX9_bringsUp_56 : decode cX9_bringsUp 56 = .ok (.iconst 1, 1) := by decide +kernel
theorem dX9_bringsUp_57 : decode cX9_bringsUp 57 = .ok (.goto 4, 3) := by decide +kernel
theorem dX9_bringsUp_60 : decode cX9_bringsUp 60 = .ok (.iconst 0, 1) := by decide +kernel
theorem dX9_bringsUp_61 : decode cX9_bringsUp 61 = .ok (.istore_n 2, 1) := by decide +kernel
theorem dX9_bringsUp_62 : decode cX9_bringsUp 62 = .ok (.aload_n 0, 1) := by decide +kernel
theorem dX9_bringsUp_63 : decode cX9_bringsUp 63 = .ok (.getfield 7, 3) := by decide +kernel
theorem dX9_bringsUp_66 : decode cX9_bringsUp 66 = .ok (.sipush 2376, 3) := by decide +kernel
theorem dX9_bringsUp_69 : decode cX9_bringsUp 69 = .ok (.iload_n 1, 1) := by decide +kernel
theorem dX9_bringsUp_70 : decode cX9_bringsUp 70 = .ok (.iadd, 1) := by decide +kernel
theorem dX9_bringsUp_71 : decode cX9_bringsUp 71 = .ok (.iload_n 2, 1) := by decide +kernel
theorem dX9_bringsUp_72 : decode cX9_bringsUp 72 = .ok (.ifCond .eq 7, 3) := by decide +kernel
theorem dX9_bringsUp_75 : decode cX9_bringsUp 75 = .ok (.iconst 1, 1) := by decide +kernel
theorem dX9_bringsUp_76 : decode cX9_bringsUp 76 = .ok (.goto 4, 3) := by decide +kernel
theorem dX9_bringsUp_79 : decode cX9_bringsUp 79 = .ok (.iconst 0, 1) := by decide +kernel
theorem dX9_bringsUp_80 : decode cX9_bringsUp 80 = .ok (.iastore, 1) := by decide +kernel
theorem dX9_bringsUp_81 : decode cX9_bringsUp 81 = .ok (.iinc 1 1, 3) := by decide +kernel
theorem dX9_bringsUp_84 : decode cX9_bringsUp 84 = .ok (.goto (-78), 3) := by decide +kernel
theorem dX9_bringsUp_87 : decode cX9_bringsUp 87 = .ok (.iconst 0, 1) := by decide +kernel
theorem dX9_bringsUp_88 : decode cX9_bringsUp 88 = .ok (.istore_n 1, 1) := by decide +kernel
theorem dX9_bringsUp_89 : decode cX9_bringsUp 89 = .ok (.iconst 0, 1) := by decide +kernel
theorem dX9_bringsUp_90 : decode cX9_bringsUp 90 = .ok (.istore_n 2, 1) := by decide +kernel
theorem dX9_bringsUp_91 : decode cX9_bringsUp 91 = .ok (.iload_n 2, 1) := by decide +kernel
theorem dX9_bringsUp_92 : decode cX9_bringsUp 92 = .ok (.bipush 72, 2) := by decide +kernel
theorem dX9_bringsUp_94 : decode cX9_bringsUp 94 = .ok (.if_icmp .ge 141, 3) := by decide +kernel
theorem dX9_bringsUp_97 : decode cX9_bringsUp 97 = .ok (.aload_n 0, 1) := by decide +kernel
theorem dX9_bringsUp_98 : decode cX9_bringsUp 98 = .ok (.getfield 59, 3) := by decide +kernel
theorem dX9_bringsUp_101 : decode cX9_bringsUp 101 = .ok (.iload_n 2, 1) := by decide +kernel
theorem dX9_bringsUp_102 : decode cX9_bringsUp 102 = .ok (.baload, 1) := by decide +kernel
theorem dX9_bringsUp_103 : decode cX9_bringsUp 103 = .ok (.ifCond .eq 7, 3) := by decide +kernel
theorem dX9_bringsUp_106 : decode cX9_bringsUp 106 = .ok (.iload_n 2, 1) := by decide +kernel
theorem dX9_bringsUp_107 : decode cX9_bringsUp 107 = .ok (.goto 8, 3) := by decide +kernel
theorem dX9_bringsUp_110 : decode cX9_bringsUp 110 = .ok (.aload_n 0, 1) := by decide +kernel
theorem dX9_bringsUp_111 : decode cX9_bringsUp 111 = .ok (.iload_n 2, 1) := by decide +kernel
theorem dX9_bringsUp_112 : decode cX9_bringsUp 112 = .ok (.invokevirtual 372, 3) := by decide +kernel
theorem dX9_bringsUp_115 : decode cX9_bringsUp 115 = .ok (.istore_n 3, 1) := by decide +kernel
theorem dX9_bringsUp_116 : decode cX9_bringsUp 116 = .ok (.aload_n 0, 1) := by decide +kernel
theorem dX9_bringsUp_117 : decode cX9_bringsUp 117 = .ok (.getfield 59, 3) := by decide +kernel
theorem dX9_bringsUp_120 : decode cX9_bringsUp 120 = .ok (.iload_n 2, 1) := by decide +kernel
theorem dX9_bringsUp_121 : decode cX9_bringsUp 121 = .ok (.baload, 1) := by decide +kernel
theorem dX9_bringsUp_122 : decode cX9_bringsUp 122 = .ok (.ifCond .ne 25, 3) := by decide +kernel
theorem dX9_bringsUp_125 : decode cX9_bringsUp 125 = .ok (.aload_n 0, 1) := by decide +kernel
theorem dX9_bringsUp_126 : decode cX9_bringsUp 126 = .ok (.getfield 25, 3) := by decide +kernel
theorem dX9_bringsUp_129 : decode cX9_bringsUp 129 = .ok (.iload_n 2, 1) := by decide +kernel
theorem dX9_bringsUp_130 : decode cX9_bringsUp 130 = .ok (.baload, 1) := by decide +kernel
theorem dX9_bringsUp_131 : decode cX9_bringsUp 131 = .ok (.ifCond .ne 16, 3) := by decide +kernel
theorem dX9_bringsUp_134 : decode cX9_bringsUp 134 = .ok (.aload_n 0, 1) := by decide +kernel
theorem dX9_bringsUp_135 : decode cX9_bringsUp 135 = .ok (.getfield 44, 3) := by decide +kernel
theorem dX9_bringsUp_138 : decode cX9_bringsUp 138 = .ok (.iload_n 2, 1) := by decide +kernel
theorem dX9_bringsUp_139 : decode cX9_bringsUp 139 = .ok (.baload, 1) := by decide +kernel
theorem dX9_bringsUp_140 : decode cX9_bringsUp 140 = .ok (.ifCond .ne 7, 3) := by decide +kernel
theorem dX9_bringsUp_143 : decode cX9_bringsUp 143 = .ok (.iload_n 3, 1) := by decide +kernel
theorem dX9_bringsUp_144 : decode cX9_bringsUp 144 = .ok (.ifCond .lt 7, 3) := by decide +kernel
theorem dX9_bringsUp_147 : decode cX9_bringsUp 147 = .ok (.iconst 1, 1) := by decide +kernel
theorem dX9_bringsUp_148 : decode cX9_bringsUp 148 = .ok (.goto 4, 3) := by decide +kernel
theorem dX9_bringsUp_151 : decode cX9_bringsUp 151 = .ok (.iconst 0, 1) := by decide +kernel
theorem dX9_bringsUp_152 : decode cX9_bringsUp 152 = .ok (.istore 4, 2) := by decide +kernel
theorem dX9_bringsUp_154 : decode cX9_bringsUp 154 = .ok (.aload_n 0, 1) := by decide +kernel
theorem dX9_bringsUp_155 : decode cX9_bringsUp 155 = .ok (.getfield 7, 3) := by decide +kernel
theorem dX9_bringsUp_158 : decode cX9_bringsUp 158 = .ok (.sipush 2304, 3) := by decide +kernel
theorem dX9_bringsUp_161 : decode cX9_bringsUp 161 = .ok (.iload_n 2, 1) := by decide +kernel
theorem dX9_bringsUp_162 : decode cX9_bringsUp 162 = .ok (.iadd, 1) := by decide +kernel
theorem dX9_bringsUp_163 : decode cX9_bringsUp 163 = .ok (.iload 4, 2) := by decide +kernel
theorem dX9_bringsUp_165 : decode cX9_bringsUp 165 = .ok (.ifCond .eq 7, 3) := by decide +kernel
theorem dX9_bringsUp_168 : decode cX9_bringsUp 168 = .ok (.iconst 1, 1) := by decide +kernel
theorem dX9_bringsUp_169 : decode cX9_bringsUp 169 = .ok (.goto 4, 3) := by decide +kernel
theorem dX9_bringsUp_172 : decode cX9_bringsUp 172 = .ok (.iconst 0, 1) := by decide +kernel
theorem dX9_bringsUp_173 : decode cX9_bringsUp 173 = .ok (.iastore, 1) := by decide +kernel
theorem dX9_bringsUp_174 : decode cX9_bringsUp 174 = .ok (.aload_n 0, 1) := by decide +kernel
theorem dX9_bringsUp_175 : decode cX9_bringsUp 175 = .ok (.getfield 7, 3) := by decide +kernel
theorem dX9_bringsUp_178 : decode cX9_bringsUp 178 = .ok (.sipush 2232, 3) := by decide +kernel
theorem dX9_bringsUp_181 : decode cX9_bringsUp 181 = .ok (.iload_n 2, 1) := by decide +kernel
theorem dX9_bringsUp_182 : decode cX9_bringsUp 182 = .ok (.iadd, 1) := by decide +kernel
theorem dX9_bringsUp_183 : decode cX9_bringsUp 183 = .ok (.dup2, 1) := by decide +kernel
theorem dX9_bringsUp_184 : decode cX9_bringsUp 184 = .ok (.iaload, 1) := by decide +kernel
theorem dX9_bringsUp_185 : decode cX9_bringsUp 185 = .ok (.aload_n 0, 1) := by decide +kernel
theorem dX9_bringsUp_186 : decode cX9_bringsUp 186 = .ok (.getfield 7, 3) := by decide +kernel
theorem dX9_bringsUp_189 : decode cX9_bringsUp 189 = .ok (.sipush 2304, 3) := by decide +kernel
theorem dX9_bringsUp_192 : decode cX9_bringsUp 192 = .ok (.iload_n 2, 1) := by decide +kernel
theorem dX9_bringsUp_193 : decode cX9_bringsUp 193 = .ok (.iadd, 1) := by decide +kernel
theorem dX9_bringsUp_194 : decode cX9_bringsUp 194 = .ok (.iaload, 1) := by decide +kernel
theorem dX9_bringsUp_195 : decode cX9_bringsUp 195 = .ok (.iadd, 1) := by decide +kernel
theorem dX9_bringsUp_196 : decode cX9_bringsUp 196 = .ok (.iastore, 1) := by decide +kernel
theorem dX9_bringsUp_197 : decode cX9_bringsUp 197 = .ok (.aload_n 0, 1) := by decide +kernel
theorem dX9_bringsUp_198 : decode cX9_bringsUp 198 = .ok (.getfield 7, 3) := by decide +kernel
theorem dX9_bringsUp_201 : decode cX9_bringsUp 201 = .ok (.sipush 2448, 3) := by decide +kernel
theorem dX9_bringsUp_204 : decode cX9_bringsUp 204 = .ok (.iload_n 2, 1) := by decide +kernel
theorem dX9_bringsUp_205 : decode cX9_bringsUp 205 = .ok (.iadd, 1) := by decide +kernel
theorem dX9_bringsUp_206 : decode cX9_bringsUp 206 = .ok (.iload_n 3, 1) := by decide +kernel
theorem dX9_bringsUp_207 : decode cX9_bringsUp 207 = .ok (.ifCond .lt 7, 3) := by decide +kernel
theorem dX9_bringsUp_210 : decode cX9_bringsUp 210 = .ok (.iload_n 3, 1) := by decide +kernel
theorem dX9_bringsUp_211 : decode cX9_bringsUp 211 = .ok (.goto 4, 3) := by decide +kernel
theorem dX9_bringsUp_214 : decode cX9_bringsUp 214 = .ok (.iload_n 2, 1) := by decide +kernel
theorem dX9_bringsUp_215 : decode cX9_bringsUp 215 = .ok (.iastore, 1) := by decide +kernel
theorem dX9_bringsUp_216 : decode cX9_bringsUp 216 = .ok (.iload_n 1, 1) := by decide +kernel
theorem dX9_bringsUp_217 : decode cX9_bringsUp 217 = .ok (.aload_n 0, 1) := by decide +kernel
theorem dX9_bringsUp_218 : decode cX9_bringsUp 218 = .ok (.getfield 7, 3) := by decide +kernel
theorem dX9_bringsUp_221 : decode cX9_bringsUp 221 = .ok (.sipush 2304, 3) := by decide +kernel
theorem dX9_bringsUp_224 : decode cX9_bringsUp 224 = .ok (.iload_n 2, 1) := by decide +kernel
theorem dX9_bringsUp_225 : decode cX9_bringsUp 225 = .ok (.iadd, 1) := by decide +kernel
theorem dX9_bringsUp_226 : decode cX9_bringsUp 226 = .ok (.iaload, 1) := by decide +kernel
theorem dX9_bringsUp_227 : decode cX9_bringsUp 227 = .ok (.iadd, 1) := by decide +kernel
theorem dX9_bringsUp_228 : decode cX9_bringsUp 228 = .ok (.istore_n 1, 1) := by decide +kernel
theorem dX9_bringsUp_229 : decode cX9_bringsUp 229 = .ok (.iinc 2 1, 3) := by decide +kernel
theorem dX9_bringsUp_232 : decode cX9_bringsUp 232 = .ok (.goto (-141), 3) := by decide +kernel
theorem dX9_bringsUp_235 : decode cX9_bringsUp 235 = .ok (.iload_n 1, 1) := by decide +kernel
theorem dX9_bringsUp_236 : decode cX9_bringsUp 236 = .ok (.ireturn, 1) := by decide +kernel
theorem dX9_update_0 : decode cX9_update 0 = .ok (.aload_n 0, 1) := by decide +kernel
theorem dX9_update_1 : decode cX9_update 1 = .ok (.getfield 7, 3) := by decide +kernel
theorem dX9_update_4 : decode cX9_update 4 = .ok (.sipush 2521, 3) := by decide +kernel
theorem dX9_update_7 : decode cX9_update 7 = .ok (.iaload, 1) := by decide +kernel
theorem dX9_update_8 : decode cX9_update 8 = .ok (.ifCond .ne 6, 3) := by decide +kernel
theorem dX9_update_11 : decode cX9_update 11 = .ok (.ldc 213, 2) := by decide +kernel
theorem dX9_update_13 : decode cX9_update 13 = .ok (.ireturn, 1) := by decide +kernel
theorem dX9_update_14 : decode cX9_update 14 = .ok (.aload_n 0, 1) := by decide +kernel
theorem dX9_update_15 : decode cX9_update 15 = .ok (.invokevirtual 217, 3) := by decide +kernel
theorem dX9_update_18 : decode cX9_update 18 = .ok (.aload_n 0, 1) := by decide +kernel
theorem dX9_update_19 : decode cX9_update 19 = .ok (.invokevirtual 375, 3) := by decide +kernel
theorem dX9_update_22 : decode cX9_update 22 = .ok (.iconst 0, 1) := by decide +kernel
theorem dX9_update_23 : decode cX9_update 23 = .ok (.istore_n 1, 1) := by decide +kernel
theorem dX9_update_24 : decode cX9_update 24 = .ok (.iload_n 1, 1) := by decide +kernel
theorem dX9_update_25 : decode cX9_update 25 = .ok (.aload_n 0, 1) := by decide +kernel
theorem dX9_update_26 : decode cX9_update 26 = .ok (.getfield 7, 3) := by decide +kernel
theorem dX9_update_29 : decode cX9_update 29 = .ok (.sipush 2521, 3) := by decide +kernel
theorem dX9_update_32 : decode cX9_update 32 = .ok (.iaload, 1) := by decide +kernel
theorem dX9_update_33 : decode cX9_update 33 = .ok (.if_icmp .ge 90, 3) := by decide +kernel
theorem dX9_update_36 : decode cX9_update 36 = .ok (.sipush 2522, 3) := by decide +kernel
theorem dX9_update_39 : decode cX9_update 39 = .ok (.bipush 32, 2) := by decide +kernel
theorem dX9_update_41 : decode cX9_update 41 = .ok (.iload_n 1, 1) := by decide +kernel
theorem dX9_update_42 : decode cX9_update 42 = .ok (.imul, 1) := by decide +kernel
theorem dX9_update_43 : decode cX9_update 43 = .ok (.iadd, 1) := by decide +kernel
theorem dX9_update_44 : decode cX9_update 44 = .ok (.istore_n 2, 1) := by decide +kernel
theorem dX9_update_45 : decode cX9_update 45 = .ok (.aload_n 0, 1) := by decide +kernel
theorem dX9_update_46 : decode cX9_update 46 = .ok (.getfield 7, 3) := by decide +kernel
theorem dX9_update_49 : decode cX9_update 49 = .ok (.iload_n 2, 1) := by decide +kernel
theorem dX9_update_50 : decode cX9_update 50 = .ok (.iaload, 1) := by decide +kernel
theorem dX9_update_51 : decode cX9_update 51 = .ok (.istore_n 3, 1) := by decide +kernel
theorem dX9_update_52 : decode cX9_update 52 = .ok (.aload_n 0, 1) := by decide +kernel
theorem dX9_update_53 : decode cX9_update 53 = .ok (.getfield 59, 3) := by decide +kernel
theorem dX9_update_56 : decode cX9_update 56 = .ok (.iload_n 3, 1) := by decide +kernel
theorem dX9_update_57 : decode cX9_update 57 = .ok (.iconst 1, 1) := by decide +kernel
theorem dX9_update_58 : decode cX9_update 58 = .ok (.bastore, 1) := by decide +kernel
theorem dX9_update_59 : decode cX9_update 59 = .ok (.aload_n 0, 1) := by decide +kernel
theorem dX9_update_60 : decode cX9_update 60 = .ok (.getfield 7, 3) := by decide +kernel
theorem dX9_update_63 : decode cX9_update 63 = .ok (.iconst 0, 1) := by decide +kernel
theorem dX9_update_64 : decode cX9_update 64 = .ok (.iload_n 3, 1) := by decide +kernel
theorem dX9_update_65 : decode cX9_update 65 = .ok (.iadd, 1) := by decide +kernel
theorem dX9_update_66 : decode cX9_update 66 = .ok (.aload_n 0, 1) := by decide +kernel
theorem dX9_update_67 : decode cX9_update 67 = .ok (.getfield 7, 3) := by decide +kernel
theorem dX9_update_70 : decode cX9_update 70 = .ok (.iload_n 2, 1) := by decide +kernel
theorem dX9_update_71 : decode cX9_update 71 = .ok (.iconst 1, 1) := by decide +kernel
theorem dX9_update_72 : decode cX9_update 72 = .ok (.iadd, 1) := by decide +kernel
theorem dX9_update_73 : decode cX9_update 73 = .ok (.iaload, 1) := by decide +kernel
theorem dX9_update_74 : decode cX9_update 74 = .ok (.iastore, 1) := by decide +kernel
theorem dX9_update_75 : decode cX9_update 75 = .ok (.iconst 0, 1) := by decide +kernel
theorem dX9_update_76 : decode cX9_update 76 = .ok (.istore 4, 2) := by decide +kernel
theorem dX9_update_78 : decode cX9_update 78 = .ok (.iload 4, 2) := by decide +kernel
theorem dX9_update_80 : decode cX9_update 80 = .ok (.bipush 30, 2) := by decide +kernel
theorem dX9_update_82 : decode cX9_update 82 = .ok (.if_icmp .ge 35, 3) := by decide +kernel
theorem dX9_update_85 : decode cX9_update 85 = .ok (.aload_n 0, 1) := by decide +kernel
theorem dX9_update_86 : decode cX9_update 86 = .ok (.getfield 7, 3) := by decide +kernel
theorem dX9_update_89 : decode cX9_update 89 = .ok (.bipush 72, 2) := by decide +kernel
theorem dX9_update_91 : decode cX9_update 91 = .ok (.bipush 30, 2) := by decide +kernel
theorem dX9_update_93 : decode cX9_update 93 = .ok (.iload_n 3, 1) := by decide +kernel
theorem dX9_update_94 : decode cX9_update 94 = .ok (.imul, 1) := by decide +kernel
theorem dX9_update_95 : decode cX9_update 95 = .ok (.iadd, 1) := by decide +kernel
theorem dX9_update_96 : decode cX9_update 96 = .ok (.iload 4, 2) := by decide +kernel
theorem dX9_update_98 : decode cX9_update 98 = .ok (.iadd, 1) := by decide +kernel
theorem dX9_update_99 : decode cX9_update 99 = .ok (.aload_n 0, 1) := by decide +kernel
theorem dX9_update_100 : decode cX9_update 100 = .ok (.getfield 7, 3) := by decide +kernel
theorem dX9_update_103 : decode cX9_update 103 = .ok (.iload_n 2, 1) := by decide +kernel
theorem dX9_update_104 : decode cX9_update 104 = .ok (.iconst 2, 1) := by decide +kernel
theorem dX9_update_105 : decode cX9_update 105 = .ok (.iadd, 1) := by decide +kernel
theorem dX9_update_106 : decode cX9_update 106 = .ok (.iload 4, 2) := by decide +kernel
theorem dX9_update_108 : decode cX9_update 108 = .ok (.iadd, 1) := by decide +kernel
theorem dX9_update_109 : decode cX9_update 109 = .ok (.iaload, 1) := by decide +kernel
theorem dX9_update_110 : decode cX9_update 110 = .ok (.iastore, 1) := by decide +kernel
theorem dX9_update_111 : decode cX9_update 111 = .ok (.iinc 4 1, 3) := by decide +kernel
theorem dX9_update_114 : decode cX9_update 114 = .ok (.goto (-36), 3) := by decide +kernel
theorem dX9_update_117 : decode cX9_update 117 = .ok (.iinc 1 1, 3) := by decide +kernel
theorem dX9_update_120 : decode cX9_update 120 = .ok (.goto (-96), 3) := by decide +kernel
theorem dX9_update_123 : decode cX9_update 123 = .ok (.aload_n 0, 1) := by decide +kernel
theorem dX9_update_124 : decode cX9_update 124 = .ok (.getfield 7, 3) := by decide +kernel
theorem dX9_update_127 : decode cX9_update 127 = .ok (.sipush 2521, 3) := by decide +kernel
theorem dX9_update_130 : decode cX9_update 130 = .ok (.iconst 0, 1) := by decide +kernel
theorem dX9_update_131 : decode cX9_update 131 = .ok (.iastore, 1) := by decide +kernel
theorem dX9_update_132 : decode cX9_update 132 = .ok (.aload_n 0, 1) := by decide +kernel
theorem dX9_update_133 : decode cX9_update 133 = .ok (.invokevirtual 378, 3) := by decide +kernel
theorem dX9_update_136 : decode cX9_update 136 = .ok (.ireturn, 1) := by decide +kernel
theorem dX9_rounds_0 : decode cX9_rounds 0 = .ok (.iload_n 1, 1) := by decide +kernel
theorem dX9_rounds_1 : decode cX9_rounds 1 = .ok (.iconst 0, 1) := by decide +kernel
theorem dX9_rounds_2 : decode cX9_rounds 2 = .ok (.bipush 40, 2) := by decide +kernel
theorem dX9_rounds_4 : decode cX9_rounds 4 = .ok (.invokestatic 104, 3) := by decide +kernel
theorem dX9_rounds_7 : decode cX9_rounds 7 = .ok (.ifCond .ne 6, 3) := by decide +kernel
theorem dX9_rounds_10 : decode cX9_rounds 10 = .ok (.ldc 111, 2) := by decide +kernel
theorem dX9_rounds_12 : decode cX9_rounds 12 = .ok (.ireturn, 1) := by decide +kernel
theorem dX9_rounds_13 : decode cX9_rounds 13 = .ok (.aload_n 0, 1) := by decide +kernel
theorem dX9_rounds_14 : decode cX9_rounds 14 = .ok (.invokevirtual 217, 3) := by decide +kernel
theorem dX9_rounds_17 : decode cX9_rounds 17 = .ok (.aload_n 0, 1) := by decide +kernel
theorem dX9_rounds_18 : decode cX9_rounds 18 = .ok (.invokevirtual 375, 3) := by decide +kernel
theorem dX9_rounds_21 : decode cX9_rounds 21 = .ok (.aload_n 0, 1) := by decide +kernel
theorem dX9_rounds_22 : decode cX9_rounds 22 = .ok (.getfield 7, 3) := by decide +kernel
theorem dX9_rounds_25 : decode cX9_rounds 25 = .ok (.sipush 2520, 3) := by decide +kernel
theorem dX9_rounds_28 : decode cX9_rounds 28 = .ok (.iaload, 1) := by decide +kernel
theorem dX9_rounds_29 : decode cX9_rounds 29 = .ok (.istore_n 2, 1) := by decide +kernel
theorem dX9_rounds_30 : decode cX9_rounds 30 = .ok (.aload_n 0, 1) := by decide +kernel
theorem dX9_rounds_31 : decode cX9_rounds 31 = .ok (.getfield 7, 3) := by decide +kernel
theorem dX9_rounds_34 : decode cX9_rounds 34 = .ok (.sipush 2520, 3) := by decide +kernel
theorem dX9_rounds_37 : decode cX9_rounds 37 = .ok (.iload_n 1, 1) := by decide +kernel
theorem dX9_rounds_38 : decode cX9_rounds 38 = .ok (.iastore, 1) := by decide +kernel
theorem dX9_rounds_39 : decode cX9_rounds 39 = .ok (.aload_n 0, 1) := by decide +kernel
theorem dX9_rounds_40 : decode cX9_rounds 40 = .ok (.invokevirtual 378, 3) := by decide +kernel
theorem dX9_rounds_43 : decode cX9_rounds 43 = .ok (.istore_n 3, 1) := by decide +kernel
theorem dX9_rounds_44 : decode cX9_rounds 44 = .ok (.iload_n 2, 1) := by decide +kernel
theorem dX9_rounds_45 : decode cX9_rounds 45 = .ok (.ireturn, 1) := by decide +kernel
theorem dX9_value_0 : decode cX9_value 0 = .ok (.iload_n 1, 1) := by decide +kernel
theorem dX9_value_1 : decode cX9_value 1 = .ok (.invokestatic 210, 3) := by decide +kernel
theorem dX9_value_4 : decode cX9_value 4 = .ok (.ifCond .ne 8, 3) := by decide +kernel
theorem dX9_value_7 : decode cX9_value 7 = .ok (.ldc 111, 2) := by decide +kernel
theorem dX9_value_9 : decode cX9_value 9 = .ok (.goto 23, 3) := by decide +kernel
theorem dX9_value_12 : decode cX9_value 12 = .ok (.aload_n 0, 1) := by decide +kernel
theorem dX9_value_13 : decode cX9_value 13 = .ok (.getfield 22, 3) := by decide +kernel
theorem dX9_value_16 : decode cX9_value 16 = .ok (.iload_n 1, 1) := by decide +kernel
theorem dX9_value_17 : decode cX9_value 17 = .ok (.iaload, 1) := by decide +kernel
theorem dX9_value_18 : decode cX9_value 18 = .ok (.ifCond .le 8, 3) := by decide +kernel
theorem dX9_value_21 : decode cX9_value 21 = .ok (.ldc 206, 2) := by decide +kernel
theorem dX9_value_23 : decode cX9_value 23 = .ok (.goto 9, 3) := by decide +kernel
theorem dX9_value_26 : decode cX9_value 26 = .ok (.aload_n 0, 1) := by decide +kernel
theorem dX9_value_27 : decode cX9_value 27 = .ok (.getfield 19, 3) := by decide +kernel
theorem dX9_value_30 : decode cX9_value 30 = .ok (.iload_n 1, 1) := by decide +kernel
theorem dX9_value_31 : decode cX9_value 31 = .ok (.iaload, 1) := by decide +kernel
theorem dX9_value_32 : decode cX9_value 32 = .ok (.ireturn, 1) := by decide +kernel
theorem dX9_cellOf_0 : decode cX9_cellOf 0 = .ok (.iload_n 1, 1) := by decide +kernel
theorem dX9_cellOf_1 : decode cX9_cellOf 1 = .ok (.invokestatic 210, 3) := by decide +kernel
theorem dX9_cellOf_4 : decode cX9_cellOf 4 = .ok (.ifCond .eq 13, 3) := by decide +kernel
theorem dX9_cellOf_7 : decode cX9_cellOf 7 = .ok (.iload_n 2, 1) := by decide +kernel
theorem dX9_cellOf_8 : decode cX9_cellOf 8 = .ok (.iconst 0, 1) := by decide +kernel
theorem dX9_cellOf_9 : decode cX9_cellOf 9 = .ok (.bipush 8, 2) := by decide +kernel
theorem dX9_cellOf_11 : decode cX9_cellOf 11 = .ok (.invokestatic 104, 3) := by decide +kernel
theorem dX9_cellOf_14 : decode cX9_cellOf 14 = .ok (.ifCond .ne 6, 3) := by decide +kernel
theorem dX9_cellOf_17 : decode cX9_cellOf 17 = .ok (.ldc 111, 2) := by decide +kernel
theorem dX9_cellOf_19 : decode cX9_cellOf 19 = .ok (.ireturn, 1) := by decide +kernel
theorem dX9_cellOf_20 : decode cX9_cellOf 20 = .ok (.iload_n 2, 1) := by decide +kernel
theorem dX9_cellOf_21 : decode cX9_cellOf 21 = .ok (.tableswitch 144 0 7 #[47, 54, 75, 82, 96, 107, 118, 129], 47) := by decide +kernel
theorem dX9_cellOf_68 : decode cX9_cellOf 68 = .ok (.aload_n 0, 1) := by decide +kernel
theorem dX9_cellOf_69 : decode cX9_cellOf 69 = .ok (.getfield 22, 3) := by decide +kernel
theorem dX9_cellOf_72 : decode cX9_cellOf 72 = .ok (.iload_n 1, 1) := by decide +kernel
theorem dX9_cellOf_73 : decode cX9_cellOf 73 = .ok (.iaload, 1) := by decide +kernel
theorem dX9_cellOf_74 : decode cX9_cellOf 74 = .ok (.ireturn, 1) := by decide +kernel
theorem dX9_cellOf_75 : decode cX9_cellOf 75 = .ok (.aload_n 0, 1) := by decide +kernel
theorem dX9_cellOf_76 : decode cX9_cellOf 76 = .ok (.getfield 25, 3) := by decide +kernel
theorem dX9_cellOf_79 : decode cX9_cellOf 79 = .ok (.iload_n 1, 1) := by decide +kernel
theorem dX9_cellOf_80 : decode cX9_cellOf 80 = .ok (.baload, 1) := by decide +kernel
theorem dX9_cellOf_81 : decode cX9_cellOf 81 = .ok (.ifCond .eq 8, 3) := by decide +kernel
theorem dX9_cellOf_84 : decode cX9_cellOf 84 = .ok (.ldc 206, 2) := by decide +kernel
theorem dX9_cellOf_86 : decode cX9_cellOf 86 = .ok (.goto 9, 3) := by decide +kernel
theorem dX9_cellOf_89 : decode cX9_cellOf 89 = .ok (.aload_n 0, 1) := by decide +kernel
theorem dX9_cellOf_90 : decode cX9_cellOf 90 = .ok (.getfield 29, 3) := by decide +kernel
theorem dX9_cellOf_93 : decode cX9_cellOf 93 = .ok (.iload_n 1, 1) := by decide +kernel
theorem dX9_cellOf_94 : decode cX9_cellOf 94 = .ok (.iaload, 1) := by decide +kernel
theorem dX9_cellOf_95 : decode cX9_cellOf 95 = .ok (.ireturn, 1) := by decide +kernel
theorem dX9_cellOf_96 : decode cX9_cellOf 96 = .ok (.aload_n 0, 1) := by decide +kernel
theorem dX9_cellOf_97 : decode cX9_cellOf 97 = .ok (.getfield 32, 3) := by decide +kernel
theorem dX9_cellOf_100 : decode cX9_cellOf 100 = .ok (.iload_n 1, 1) := by decide +kernel
theorem dX9_cellOf_101 : decode cX9_cellOf 101 = .ok (.iaload, 1) := by decide +kernel
theorem dX9_cellOf_102 : decode cX9_cellOf 102 = .ok (.ireturn, 1) := by decide +kernel
theorem dX9_cellOf_103 : decode cX9_cellOf 103 = .ok (.aload_n 0, 1) := by decide +kernel
theorem dX9_cellOf_104 : decode cX9_cellOf 104 = .ok (.iload_n 1, 1) := by decide +kernel
theorem dX9_cellOf_105 : decode cX9_cellOf 105 = .ok (.invokevirtual 281, 3) := by decide +kernel
theorem dX9_cellOf_108 : decode cX9_cellOf 108 = .ok (.ifCond .eq 7, 3) := by decide +kernel
theorem dX9_cellOf_111 : decode cX9_cellOf 111 = .ok (.iconst 1, 1) := by decide +kernel
theorem dX9_cellOf_112 : decode cX9_cellOf 112 = .ok (.goto 4, 3) := by decide +kernel
theorem dX9_cellOf_115 : decode cX9_cellOf 115 = .ok (.iconst 0, 1) := by decide +kernel
theorem dX9_cellOf_116 : decode cX9_cellOf 116 = .ok (.ireturn, 1) := by decide +kernel
theorem dX9_cellOf_117 : decode cX9_cellOf 117 = .ok (.aload_n 0, 1) := by decide +kernel
theorem dX9_cellOf_118 : decode cX9_cellOf 118 = .ok (.getfield 7, 3) := by decide +kernel
theorem dX9_cellOf_121 : decode cX9_cellOf 121 = .ok (.sipush 2232, 3) := by decide +kernel
theorem dX9_cellOf_124 : decode cX9_cellOf 124 = .ok (.iload_n 1, 1) := by decide +kernel
theorem dX9_cellOf_125 : decode cX9_cellOf 125 = .ok (.iadd, 1) := by decide +kernel
theorem dX9_cellOf_126 : decode cX9_cellOf 126 = .ok (.iaload, 1) := by decide +kernel
theorem dX9_cellOf_127 : decode cX9_cellOf 127 = .ok (.ireturn, 1) := by decide +kernel
theorem dX9_cellOf_128 : decode cX9_cellOf 128 = .ok (.aload_n 0, 1) := by decide +kernel
theorem dX9_cellOf_129 : decode cX9_cellOf 129 = .ok (.getfield 7, 3) := by decide +kernel
theorem dX9_cellOf_132 : decode cX9_cellOf 132 = .ok (.sipush 2304, 3) := by decide +kernel
theorem dX9_cellOf_135 : decode cX9_cellOf 135 = .ok (.iload_n 1, 1) := by decide +kernel
theorem dX9_cellOf_136 : decode cX9_cellOf 136 = .ok (.iadd, 1) := by decide +kernel
theorem dX9_cellOf_137 : decode cX9_cellOf 137 = .ok (.iaload, 1) := by decide +kernel
theorem dX9_cellOf_138 : decode cX9_cellOf 138 = .ok (.ireturn, 1) := by decide +kernel
theorem dX9_cellOf_139 : decode cX9_cellOf 139 = .ok (.aload_n 0, 1) := by decide +kernel
theorem dX9_cellOf_140 : decode cX9_cellOf 140 = .ok (.getfield 7, 3) := by decide +kernel
theorem dX9_cellOf_143 : decode cX9_cellOf 143 = .ok (.sipush 2376, 3) := by decide +kernel
theorem dX9_cellOf_146 : decode cX9_cellOf 146 = .ok (.iload_n 1, 1) := by decide +kernel
theorem dX9_cellOf_147 : decode cX9_cellOf 147 = .ok (.iadd, 1) := by decide +kernel
theorem dX9_cellOf_148 : decode cX9_cellOf 148 = .ok (.iaload, 1) := by decide +kernel
theorem dX9_cellOf_149 : decode cX9_cellOf 149 = .ok (.ireturn, 1) := by decide +kernel
theorem dX9_cellOf_150 : decode cX9_cellOf 150 = .ok (.aload_n 0, 1) := by decide +kernel
theorem dX9_cellOf_151 : decode cX9_cellOf 151 = .ok (.getfield 25, 3) := by decide +kernel
theorem dX9_cellOf_154 : decode cX9_cellOf 154 = .ok (.iload_n 1, 1) := by decide +kernel
theorem dX9_cellOf_155 : decode cX9_cellOf 155 = .ok (.baload, 1) := by decide +kernel
theorem dX9_cellOf_156 : decode cX9_cellOf 156 = .ok (.ifCond .eq 7, 3) := by decide +kernel
theorem dX9_cellOf_159 : decode cX9_cellOf 159 = .ok (.iconst 1, 1) := by decide +kernel
theorem dX9_cellOf_160 : decode cX9_cellOf 160 = .ok (.goto 4, 3) := by decide +kernel
theorem dX9_cellOf_163 : decode cX9_cellOf 163 = .ok (.iconst 0, 1) := by decide +kernel
theorem dX9_cellOf_164 : decode cX9_cellOf 164 = .ok (.ireturn, 1) := by decide +kernel
theorem dX9_cellOf_165 : decode cX9_cellOf 165 = .ok (.aload_n 0, 1) := by decide +kernel
theorem dX9_cellOf_166 : decode cX9_cellOf 166 = .ok (.getfield 7, 3) := by decide +kernel
theorem dX9_cellOf_169 : decode cX9_cellOf 169 = .ok (.iconst 0, 1) := by decide +kernel
theorem dX9_cellOf_170 : decode cX9_cellOf 170 = .ok (.iload_n 1, 1) := by decide +kernel
theorem dX9_cellOf_171 : decode cX9_cellOf 171 = .ok (.iadd, 1) := by decide +kernel
theorem dX9_cellOf_172 : decode cX9_cellOf 172 = .ok (.iaload, 1) := by decide +kernel
theorem dX9_cellOf_173 : decode cX9_cellOf 173 = .ok (.ireturn, 1) := by decide +kernel
theorem dX9_letterAt_0 : decode cX9_letterAt 0 = .ok (.iload_n 1, 1) := by decide +kernel
theorem dX9_letterAt_1 : decode cX9_letterAt 1 = .ok (.invokestatic 210, 3) := by decide +kernel
theorem dX9_letterAt_4 : decode cX9_letterAt 4 = .ok (.ifCond .eq 7, 3) := by decide +kernel
theorem dX9_letterAt_7 : decode cX9_letterAt 7 = .ok (.iload_n 2, 1) := by decide +kernel
theorem dX9_letterAt_8 : decode cX9_letterAt 8 = .ok (.ifCond .ge 6, 3) := by decide +kernel
theorem dX9_letterAt_11 : decode cX9_letterAt 11 = .ok (.ldc 111, 2) := by decide +kernel
theorem dX9_letterAt_13 : decode cX9_letterAt 13 = .ok (.ireturn, 1) := by decide +kernel
theorem dX9_letterAt_14 : decode cX9_letterAt 14 = .ok (.iload_n 2, 1) := by decide +kernel
theorem dX9_letterAt_15 : decode cX9_letterAt 15 = .ok (.aload_n 0, 1) := by decide +kernel
theorem dX9_letterAt_16 : decode cX9_letterAt 16 = .ok (.getfield 7, 3) := by decide +kernel
theorem dX9_letterAt_19 : decode cX9_letterAt 19 = .ok (.iconst 0, 1) := by decide +kernel
theorem dX9_letterAt_20 : decode cX9_letterAt 20 = .ok (.iload_n 1, 1) := by decide +kernel
theorem dX9_letterAt_21 : decode cX9_letterAt 21 = .ok (.iadd, 1) := by decide +kernel
theorem dX9_letterAt_22 : decode cX9_letterAt 22 = .ok (.iaload, 1) := by decide +kernel
theorem dX9_letterAt_23 : decode cX9_letterAt 23 = .ok (.if_icmp .ge 12, 3) := by decide +kernel
theorem dX9_letterAt_26 : decode cX9_letterAt 26 = .ok (.aload_n 0, 1) := by decide +kernel
theorem dX9_letterAt_27 : decode cX9_letterAt 27 = .ok (.iload_n 1, 1) := by decide +kernel
theorem dX9_letterAt_28 : decode cX9_letterAt 28 = .ok (.iload_n 2, 1) := by decide +kernel
theorem dX9_letterAt_29 : decode cX9_letterAt 29 = .ok (.invokevirtual 224, 3) := by decide +kernel
theorem dX9_letterAt_32 : decode cX9_letterAt 32 = .ok (.goto 5, 3) := by decide +kernel
theorem dX9_letterAt_35 : decode cX9_letterAt 35 = .ok (.ldc 206, 2) := by decide +kernel
theorem dX9_letterAt_37 : decode cX9_letterAt 37 = .ok (.ireturn, 1) := by decide +kernel
theorem dX9_readAt_0 : decode cX9_readAt 0 = .ok (.iload_n 1, 1) := by decide +kernel
theorem dX9_readAt_1 : decode cX9_readAt 1 = .ok (.invokestatic 210, 3) := by decide +kernel
theorem dX9_readAt_4 : decode cX9_readAt 4 = .ok (.ifCond .eq 7, 3) := by decide +kernel
theorem dX9_readAt_7 : decode cX9_readAt 7 = .ok (.iload_n 2, 1) := by decide +kernel
theorem dX9_readAt_8 : decode cX9_readAt 8 = .ok (.ifCond .ge 6, 3) := by decide +kernel
theorem dX9_readAt_11 : decode cX9_readAt 11 = .ok (.ldc 111, 2) := by decide +kernel
theorem dX9_readAt_13 : decode cX9_readAt 13 = .ok (.ireturn, 1) := by decide +kernel
theorem dX9_readAt_14 : decode cX9_readAt 14 = .ok (.iload_n 2, 1) := by decide +kernel
theorem dX9_readAt_15 : decode cX9_readAt 15 = .ok (.aload_n 0, 1) := by decide +kernel
theorem dX9_readAt_16 : decode cX9_readAt 16 = .ok (.getfield 32, 3) := by decide +kernel
theorem dX9_readAt_19 : decode cX9_readAt 19 = .ok (.iload_n 1, 1) := by decide +kernel
theorem dX9_readAt_20 : decode cX9_readAt 20 = .ok (.iaload, 1) := by decide +kernel
theorem dX9_readAt_21 : decode cX9_readAt 21 = .ok (.if_icmp .ge 17, 3) := by decide +kernel
theorem dX9_readAt_24 : decode cX9_readAt 24 = .ok (.aload_n 0, 1) := by decide +kernel
theorem dX9_readAt_25 : decode cX9_readAt 25 = .ok (.getfield 35, 3) := by decide +kernel
theorem dX9_readAt_28 : decode cX9_readAt 28 = .ok (.bipush 72, 2) := by decide +kernel
theorem dX9_readAt_30 : decode cX9_readAt 30 = .ok (.iload_n 1, 1) := by decide +kernel
theorem dX9_readAt_31 : decode cX9_readAt 31 = .ok (.imul, 1) := by decide +kernel
theorem dX9_readAt_32 : decode cX9_readAt 32 = .ok (.iload_n 2, 1) := by decide +kernel
theorem dX9_readAt_33 : decode cX9_readAt 33 = .ok (.iadd, 1) := by decide +kernel
theorem dX9_readAt_34 : decode cX9_readAt 34 = .ok (.iaload, 1) := by decide +kernel
theorem dX9_readAt_35 : decode cX9_readAt 35 = .ok (.goto 5, 3) := by decide +kernel
theorem dX9_readAt_38 : decode cX9_readAt 38 = .ok (.ldc 206, 2) := by decide +kernel
theorem dX9_readAt_40 : decode cX9_readAt 40 = .ok (.ireturn, 1) := by decide +kernel
theorem dX9_doesRead_0 : decode cX9_doesRead 0 = .ok (.iconst 0, 1) := by decide +kernel
theorem dX9_doesRead_1 : decode cX9_doesRead 1 = .ok (.istore_n 3, 1) := by decide +kernel
theorem dX9_doesRead_2 : decode cX9_doesRead 2 = .ok (.iconst 0, 1) := by decide +kernel
theorem dX9_doesRead_3 : decode cX9_doesRead 3 = .ok (.istore 4, 2) := by decide +kernel
theorem dX9_doesRead_5 : decode cX9_doesRead 5 = .ok (.iload 4, 2) := by decide +kernel
theorem dX9_doesRead_7 : decode cX9_doesRead 7 = .ok (.aload_n 0, 1) := by decide +kernel
theorem dX9_doesRead_8 : decode cX9_doesRead 8 = .ok (.getfield 32, 3) := by decide +kernel
theorem dX9_doesRead_11 : decode cX9_doesRead 11 = .ok (.iload_n 1, 1) := by decide +kernel
theorem dX9_doesRead_12 : decode cX9_doesRead 12 = .ok (.iaload, 1) := by decide +kernel
theorem dX9_doesRead_13 : decode cX9_doesRead 13 = .ok (.if_icmp .ge 35, 3) := by decide +kernel
theorem dX9_doesRead_16 : decode cX9_doesRead 16 = .ok (.iload_n 3, 1) := by decide +kernel
theorem dX9_doesRead_17 : decode cX9_doesRead 17 = .ok (.ifCond .ne 19, 3) := by decide +kernel
theorem dX9_doesRead_20 : decode cX9_doesRead 20 = .ok (.aload_n 0, 1) := by decide +kernel
theorem dX9_doesRead_21 : decode cX9_doesRead 21 = .ok (.getfield 35, 3) := by decide +kernel
theorem dX9_doesRead_24 : decode cX9_doesRead 24 = .ok (.bipush 72, 2) := by decide +kernel
theorem dX9_doesRead_26 : decode cX9_doesRead 26 = .ok (.iload_n 1, 1) := by decide +kernel
theorem dX9_doesRead_27 : decode cX9_doesRead 27 = .ok (.imul, 1) := by decide +kernel
theorem dX9_doesRead_28 : decode cX9_doesRead 28 = .ok (.iload 4, 2) := by decide +kernel
theorem dX9_doesRead_30 : decode cX9_doesRead 30 = .ok (.iadd, 1) := by decide +kernel
theorem dX9_doesRead_31 : decode cX9_doesRead 31 = .ok (.iaload, 1) := by decide +kernel
theorem dX9_doesRead_32 : decode cX9_doesRead 32 = .ok (.iload_n 2, 1) := by decide +kernel
theorem dX9_doesRead_33 : decode cX9_doesRead 33 = .ok (.if_icmp .ne 7, 3) := by decide +kernel
theorem dX9_doesRead_36 : decode cX9_doesRead 36 = .ok (.iconst 1, 1) := by decide +kernel
theorem dX9_doesRead_37 : decode cX9_doesRead 37 = .ok (.goto 4, 3) := by decide +kernel
theorem dX9_doesRead_40 : decode cX9_doesRead 40 = .ok (.iconst 0, 1) := by decide +kernel
theorem dX9_doesRead_41 : decode cX9_doesRead 41 = .ok (.istore_n 3, 1) := by decide +kernel
theorem dX9_doesRead_42 : decode cX9_doesRead 42 = .ok (.iinc 4 1, 3) := by decide +kernel
theorem dX9_doesRead_45 : decode cX9_doesRead 45 = .ok (.goto (-40), 3) := by decide +kernel
theorem dX9_doesRead_48 : decode cX9_doesRead 48 = .ok (.iload_n 3, 1) := by decide +kernel
theorem dX9_doesRead_49 : decode cX9_doesRead 49 = .ok (.ireturn, 1) := by decide +kernel
theorem dX9_readerAt_0 : decode cX9_readerAt 0 = .ok (.iload_n 1, 1) := by decide +kernel
theorem dX9_readerAt_1 : decode cX9_readerAt 1 = .ok (.invokestatic 210, 3) := by decide +kernel
theorem dX9_readerAt_4 : decode cX9_readerAt 4 = .ok (.ifCond .eq 7, 3) := by decide +kernel
theorem dX9_readerAt_7 : decode cX9_readerAt 7 = .ok (.iload_n 2, 1) := by decide +kernel
theorem dX9_readerAt_8 : decode cX9_readerAt 8 = .ok (.ifCond .ge 6, 3) := by decide +kernel
theorem dX9_readerAt_11 : decode cX9_readerAt 11 = .ok (.ldc 111, 2) := by decide +kernel
theorem dX9_readerAt_13 : decode cX9_readerAt 13 = .ok (.ireturn, 1) := by decide +kernel
theorem dX9_readerAt_14 : decode cX9_readerAt 14 = .ok (.iconst 0, 1) := by decide +kernel
theorem dX9_readerAt_15 : decode cX9_readerAt 15 = .ok (.istore_n 3, 1) := by decide +kernel
theorem dX9_readerAt_16 : decode cX9_readerAt 16 = .ok (.iconst 0, 1) := by decide +kernel
theorem dX9_readerAt_17 : decode cX9_readerAt 17 = .ok (.istore 4, 2) := by decide +kernel
theorem dX9_readerAt_19 : decode cX9_readerAt 19 = .ok (.iload 4, 2) := by decide +kernel
theorem dX9_readerAt_21 : decode cX9_readerAt 21 = .ok (.bipush 72, 2) := by decide +kernel
theorem dX9_readerAt_23 : decode cX9_readerAt 23 = .ok (.if_icmp .ge 30, 3) := by decide +kernel
theorem dX9_readerAt_26 : decode cX9_readerAt 26 = .ok (.aload_n 0, 1) := by decide +kernel
theorem dX9_readerAt_27 : decode cX9_readerAt 27 = .ok (.iload 4, 2) := by decide +kernel
theorem dX9_readerAt_29 : decode cX9_readerAt 29 = .ok (.iload_n 1, 1) := by decide +kernel
theorem dX9_readerAt_30 : decode cX9_readerAt 30 = .ok (.invokevirtual 381, 3) := by decide +kernel
theorem dX9_readerAt_33 : decode cX9_readerAt 33 = .ok (.ifCond .eq 14, 3) := by decide +kernel
theorem dX9_readerAt_36 : decode cX9_readerAt 36 = .ok (.iload_n 3, 1) := by decide +kernel
theorem dX9_readerAt_37 : decode cX9_readerAt 37 = .ok (.iload_n 2, 1) := by decide +kernel
theorem dX9_readerAt_38 : decode cX9_readerAt 38 = .ok (.if_icmp .ne 6, 3) := by decide +kernel
theorem dX9_readerAt_41 : decode cX9_readerAt 41 = .ok (.iload 4, 2) := by decide +kernel
theorem dX9_readerAt_43 : decode cX9_readerAt 43 = .ok (.ireturn, 1) := by decide +kernel
theorem dX9_readerAt_44 : decode cX9_readerAt 44 = .ok (.iinc 3 1, 3) := by decide +kernel
theorem dX9_readerAt_47 : decode cX9_readerAt 47 = .ok (.iinc 4 1, 3) := by decide +kernel
theorem dX9_readerAt_50 : decode cX9_readerAt 50 = .ok (.goto (-31), 3) := by decide +kernel
theorem dX9_readerAt_53 : decode cX9_readerAt 53 = .ok (.ldc 206, 2) := by decide +kernel
theorem dX9_readerAt_55 : decode cX9_readerAt 55 = .ok (.ireturn, 1) := by decide +kernel
theorem dX9_rank_0 : decode cX9_rank 0 = .ok (.aload_n 0, 1) := by decide +kernel
theorem dX9_rank_1 : decode cX9_rank 1 = .ok (.getfield 25, 3) := by decide +kernel
theorem dX9_rank_4 : decode cX9_rank 4 = .ok (.iload_n 1, 1) := by decide +kernel
theorem dX9_rank_5 : decode cX9_rank 5 = .ok (.baload, 1) := by decide +kernel
theorem dX9_rank_6 : decode cX9_rank 6 = .ok (.ifCond .eq 11, 3) := by decide +kernel
theorem dX9_rank_9 : decode cX9_rank 9 = .ok (.sipush 5184, 3) := by decide +kernel
theorem dX9_rank_12 : decode cX9_rank 12 = .ok (.iload_n 1, 1) := by decide +kernel
theorem dX9_rank_13 : decode cX9_rank 13 = .ok (.iadd, 1) := by decide +kernel
theorem dX9_rank_14 : decode cX9_rank 14 = .ok (.goto 14, 3) := by decide +kernel
theorem dX9_rank_17 : decode cX9_rank 17 = .ok (.bipush 72, 2) := by decide +kernel
theorem dX9_rank_19 : decode cX9_rank 19 = .ok (.aload_n 0, 1) := by decide +kernel
theorem dX9_rank_20 : decode cX9_rank 20 = .ok (.getfield 29, 3) := by decide +kernel
theorem dX9_rank_23 : decode cX9_rank 23 = .ok (.iload_n 1, 1) := by decide +kernel
theorem dX9_rank_24 : decode cX9_rank 24 = .ok (.iaload, 1) := by decide +kernel
theorem dX9_rank_25 : decode cX9_rank 25 = .ok (.imul, 1) := by decide +kernel
theorem dX9_rank_26 : decode cX9_rank 26 = .ok (.iload_n 1, 1) := by decide +kernel
theorem dX9_rank_27 : decode cX9_rank 27 = .ok (.iadd, 1) := by decide +kernel
theorem dX9_rank_28 : decode cX9_rank 28 = .ok (.ireturn, 1) := by decide +kernel
theorem dX9_ranAt_0 : decode cX9_ranAt 0 = .ok (.iload_n 1, 1) := by decide +kernel
theorem dX9_ranAt_1 : decode cX9_ranAt 1 = .ok (.ifCond .ge 6, 3) := by decide +kernel
theorem dX9_ranAt_4 : decode cX9_ranAt 4 = .ok (.ldc 111, 2) := by decide +kernel
theorem dX9_ranAt_6 : decode cX9_ranAt 6 = .ok (.ireturn, 1) := by decide +kernel
theorem dX9_ranAt_7 : decode cX9_ranAt 7 = .ok (.iconst 0, 1) := by decide +kernel
theorem dX9_ranAt_8 : decode cX9_ranAt 8 = .ok (.istore_n 2, 1) := by decide +kernel
theorem dX9_ranAt_9 : decode cX9_ranAt 9 = .ok (.iload_n 2, 1) := by decide +kernel
theorem dX9_ranAt_10 : decode cX9_ranAt 10 = .ok (.bipush 72, 2) := by decide +kernel
theorem dX9_ranAt_12 : decode cX9_ranAt 12 = .ok (.if_icmp .ge 85, 3) := by decide +kernel
theorem dX9_ranAt_15 : decode cX9_ranAt 15 = .ok (.iconst 0, 1) := by decide +kernel
theorem dX9_ranAt_16 : decode cX9_ranAt 16 = .ok (.istore_n 3, 1) := by decide +kernel
theorem dX9_ranAt_17 : decode cX9_ranAt 17 = .ok (.iconst 0, 1) := by decide +kernel
theorem dX9_ranAt_18 : decode cX9_ranAt 18 = .ok (.istore 4, 2) := by decide +kernel
theorem dX9_ranAt_20 : decode cX9_ranAt 20 = .ok (.iload 4, 2) := by decide +kernel
theorem dX9_ranAt_22 : decode cX9_ranAt 22 = .ok (.bipush 72, 2) := by decide +kernel
theorem dX9_ranAt_24 : decode cX9_ranAt 24 = .ok (.if_icmp .ge 46, 3) := by decide +kernel
theorem dX9_ranAt_27 : decode cX9_ranAt 27 = .ok (.iload_n 3, 1) := by decide +kernel
theorem dX9_ranAt_28 : decode cX9_ranAt 28 = .ok (.aload_n 0, 1) := by decide +kernel
theorem dX9_ranAt_29 : decode cX9_ranAt 29 = .ok (.getfield 7, 3) := by decide +kernel
theorem dX9_ranAt_32 : decode cX9_ranAt 32 = .ok (.sipush 2304, 3) := by decide +kernel
theorem dX9_ranAt_35 : decode cX9_ranAt 35 = .ok (.iload 4, 2) := by decide +kernel
theorem dX9_ranAt_37 : decode cX9_ranAt 37 = .ok (.iadd, 1) := by decide +kernel
theorem dX9_ranAt_38 : decode cX9_ranAt 38 = .ok (.iaload, 1) := by decide +kernel
theorem dX9_ranAt_39 : decode cX9_ranAt 39 = .ok (.iconst 1, 1) := by decide +kernel
theorem dX9_ranAt_40 : decode cX9_ranAt 40 = .ok (.if_icmp .ne 21, 3) := by decide +kernel
theorem dX9_ranAt_43 : decode cX9_ranAt 43 = .ok (.aload_n 0, 1) := by decide +kernel
theorem dX9_ranAt_44 : decode cX9_ranAt 44 = .ok (.iload 4, 2) := by decide +kernel
theorem dX9_ranAt_46 : decode cX9_ranAt 46 = .ok (.invokevirtual 384, 3) := by decide +kernel
theorem dX9_ranAt_49 : decode cX9_ranAt 49 = .ok (.aload_n 0, 1) := by decide +kernel
theorem dX9_ranAt_50 : decode cX9_ranAt 50 = .ok (.iload_n 2, 1) := by decide +kernel
theorem dX9_ranAt_51 : decode cX9_ranAt 51 = .ok (.invokevirtual 384, 3) := by decide +kernel
theorem dX9_ranAt_54 : decode cX9_ranAt 54 = .ok (.if_icmp .ge 7, 3) := by decide +kernel
theorem dX9_ranAt_57 : decode cX9_ranAt 57 = .ok (.iconst 1, 1) := by decide +kernel
theorem dX9_ranAt_58 : decode cX9_ranAt 58 = .ok (.goto 4, 3) := by decide +kernel
theorem dX9_ranAt_61 : decode cX9_ranAt 61 = .ok (.iconst 0, 1) := by decide +kernel
theorem dX9_ranAt_62 : decode cX9_ranAt 62 = .ok (.iadd, 1) := by decide +kernel
theorem dX9_ranAt_63 : decode cX9_ranAt 63 = .ok (.istore_n 3, 1) := by decide +kernel
theorem dX9_ranAt_64 : decode cX9_ranAt 64 = .ok (.iinc 4 1, 3) := by decide +kernel
theorem dX9_ranAt_67 : decode cX9_ranAt 67 = .ok (.goto (-47), 3) := by decide +kernel
theorem dX9_ranAt_70 : decode cX9_ranAt 70 = .ok (.aload_n 0, 1) := by decide +kernel
theorem dX9_ranAt_71 : decode cX9_ranAt 71 = .ok (.getfield 7, 3) := by decide +kernel
theorem dX9_ranAt_74 : decode cX9_ranAt 74 = .ok (.sipush 2304, 3) := by decide +kernel
theorem dX9_ranAt_77 : decode cX9_ranAt 77 = .ok (.iload_n 2, 1) := by decide +kernel
theorem dX9_ranAt_78 : decode cX9_ranAt 78 = .ok (.iadd, 1) := by decide +kernel
theorem dX9_ranAt_79 : decode cX9_ranAt 79 = .ok (.iaload, 1) := by decide +kernel
theorem dX9_ranAt_80 : decode cX9_ranAt 80 = .ok (.iconst 1, 1) := by decide +kernel
theorem dX9_ranAt_81 : decode cX9_ranAt 81 = .ok (.if_icmp .ne 10, 3) := by decide +kernel
theorem dX9_ranAt_84 : decode cX9_ranAt 84 = .ok (.iload_n 3, 1) := by decide +kernel
theorem dX9_ranAt_85 : decode cX9_ranAt 85 = .ok (.iload_n 1, 1) := by decide +kernel
theorem dX9_ranAt_86 : decode cX9_ranAt 86 = .ok (.if_icmp .ne 5, 3) := by decide +kernel
theorem dX9_ranAt_89 : decode cX9_ranAt 89 = .ok (.iload_n 2, 1) := by decide +kernel
theorem dX9_ranAt_90 : decode cX9_ranAt 90 = .ok (.ireturn, 1) := by decide +kernel
theorem dX9_ranAt_91 : decode cX9_ranAt 91 = .ok (.iinc 2 1, 3) := by decide +kernel
theorem dX9_ranAt_94 : decode cX9_ranAt 94 = .ok (.goto (-85), 3) := by decide +kernel
theorem dX9_ranAt_97 : decode cX9_ranAt 97 = .ok (.ldc 206, 2) := by decide +kernel
theorem dX9_ranAt_99 : decode cX9_ranAt 99 = .ok (.ireturn, 1) := by decide +kernel
theorem dX9_changedAt_0 : decode cX9_changedAt 0 = .ok (.iload_n 1, 1) := by decide +kernel
theorem dX9_changedAt_1 : decode cX9_changedAt 1 = .ok (.ifCond .ge 6, 3) := by decide +kernel
theorem dX9_changedAt_4 : decode cX9_changedAt 4 = .ok (.ldc 111, 2) := by decide +kernel
theorem dX9_changedAt_6 : decode cX9_changedAt 6 = .ok (.ireturn, 1) := by decide +kernel
theorem dX9_changedAt_7 : decode cX9_changedAt 7 = .ok (.iconst 0, 1) := by decide +kernel
theorem dX9_changedAt_8 : decode cX9_changedAt 8 = .ok (.istore_n 2, 1) := by decide +kernel
theorem dX9_changedAt_9 : decode cX9_changedAt 9 = .ok (.iconst 0, 1) := by decide +kernel
theorem dX9_changedAt_10 : decode cX9_changedAt 10 = .ok (.istore_n 3, 1) := by decide +kernel
theorem dX9_changedAt_11 : decode cX9_changedAt 11 = .ok (.iload_n 3, 1) := by decide +kernel
theorem dX9_changedAt_12 : decode cX9_changedAt 12 = .ok (.bipush 72, 2) := by decide +kernel
theorem dX9_changedAt_14 : decode cX9_changedAt 14 = .ok (.if_icmp .ge 33, 3) := by decide +kernel
theorem dX9_changedAt_17 : decode cX9_changedAt 17 = .ok (.aload_n 0, 1) := by decide +kernel
theorem dX9_changedAt_18 : decode cX9_changedAt 18 = .ok (.getfield 7, 3) := by decide +kernel
theorem dX9_changedAt_21 : decode cX9_changedAt 21 = .ok (.sipush 2376, 3) := by decide +kernel
theorem dX9_changedAt_24 : decode cX9_changedAt 24 = .ok (.iload_n 3, 1) := by decide +kernel
theorem dX9_changedAt_25 : decode cX9_changedAt 25 = .ok (.iadd, 1) := by decide +kernel
theorem dX9_changedAt_26 : decode cX9_changedAt 26 = .ok (.iaload, 1) := by decide +kernel
theorem dX9_changedAt_27 : decode cX9_changedAt 27 = .ok (.iconst 1, 1) := by decide +kernel
theorem dX9_changedAt_28 : decode cX9_changedAt 28 = .ok (.if_icmp .ne 13, 3) := by decide +kernel
theorem dX9_changedAt_31 : decode cX9_changedAt 31 = .ok (.iload_n 2, 1) := by decide +kernel
theorem dX9_changedAt_32 : decode cX9_changedAt 32 = .ok (.iload_n 1, 1) := by decide +kernel
theorem dX9_changedAt_33 : decode cX9_changedAt 33 = .ok (.if_icmp .ne 5, 3) := by decide +kernel
theorem dX9_changedAt_36 : decode cX9_changedAt 36 = .ok (.iload_n 3, 1) := by decide +kernel
theorem dX9_changedAt_37 : decode cX9_changedAt 37 = .ok (.ireturn, 1) := by decide +kernel
theorem dX9_changedAt_38 : decode cX9_changedAt 38 = .ok (.iinc 2 1, 3) := by decide +kernel
theorem dX9_changedAt_41 : decode cX9_changedAt 41 = .ok (.iinc 3 1, 3) := by decide +kernel
theorem dX9_changedAt_44 : decode cX9_changedAt 44 = .ok (.goto (-33), 3) := by decide +kernel
theorem dX9_changedAt_47 : decode cX9_changedAt 47 = .ok (.ldc 206, 2) := by decide +kernel
theorem dX9_changedAt_49 : decode cX9_changedAt 49 = .ok (.ireturn, 1) := by decide +kernel
theorem dX9_cause_0 : decode cX9_cause 0 = .ok (.iload_n 1, 1) := by decide +kernel
theorem dX9_cause_1 : decode cX9_cause 1 = .ok (.invokestatic 210, 3) := by decide +kernel
theorem dX9_cause_4 : decode cX9_cause 4 = .ok (.ifCond .ne 8, 3) := by decide +kernel
theorem dX9_cause_7 : decode cX9_cause 7 = .ok (.ldc 111, 2) := by decide +kernel
theorem dX9_cause_9 : decode cX9_cause 9 = .ok (.goto 32, 3) := by decide +kernel
theorem dX9_cause_12 : decode cX9_cause 12 = .ok (.aload_n 0, 1) := by decide +kernel
theorem dX9_cause_13 : decode cX9_cause 13 = .ok (.getfield 7, 3) := by decide +kernel
theorem dX9_cause_16 : decode cX9_cause 16 = .ok (.sipush 2304, 3) := by decide +kernel
theorem dX9_cause_19 : decode cX9_cause 19 = .ok (.iload_n 1, 1) := by decide +kernel
theorem dX9_cause_20 : decode cX9_cause 20 = .ok (.iadd, 1) := by decide +kernel
theorem dX9_cause_21 : decode cX9_cause 21 = .ok (.iaload, 1) := by decide +kernel
theorem dX9_cause_22 : decode cX9_cause 22 = .ok (.iconst 1, 1) := by decide +kernel
theorem dX9_cause_23 : decode cX9_cause 23 = .ok (.if_icmp .ne 16, 3) := by decide +kernel
theorem dX9_cause_26 : decode cX9_cause 26 = .ok (.aload_n 0, 1) := by decide +kernel
theorem dX9_cause_27 : decode cX9_cause 27 = .ok (.getfield 7, 3) := by decide +kernel
theorem dX9_cause_30 : decode cX9_cause 30 = .ok (.sipush 2448, 3) := by decide +kernel
theorem dX9_cause_33 : decode cX9_cause 33 = .ok (.iload_n 1, 1) := by decide +kernel
theorem dX9_cause_34 : decode cX9_cause 34 = .ok (.iadd, 1) := by decide +kernel
theorem dX9_cause_35 : decode cX9_cause 35 = .ok (.iaload, 1) := by decide +kernel
theorem dX9_cause_36 : decode cX9_cause 36 = .ok (.goto 5, 3) := by decide +kernel
theorem dX9_cause_39 : decode cX9_cause 39 = .ok (.ldc 206, 2) := by decide +kernel
theorem dX9_cause_41 : decode cX9_cause 41 = .ok (.ireturn, 1) := by decide +kernel
theorem dX9_chainAt_0 : decode cX9_chainAt 0 = .ok (.iload_n 1, 1) := by decide +kernel
theorem dX9_chainAt_1 : decode cX9_chainAt 1 = .ok (.invokestatic 210, 3) := by decide +kernel
theorem dX9_chainAt_4 : decode cX9_chainAt 4 = .ok (.ifCond .eq 7, 3) := by decide +kernel
theorem dX9_chainAt_7 : decode cX9_chainAt 7 = .ok (.iload_n 2, 1) := by decide +kernel
theorem dX9_chainAt_8 : decode cX9_chainAt 8 = .ok (.ifCond .ge 6, 3) := by decide +kernel
theorem dX9_chainAt_11 : decode cX9_chainAt 11 = .ok (.ldc 111, 2) := by decide +kernel
theorem dX9_chainAt_13 : decode cX9_chainAt 13 = .ok (.ireturn, 1) := by decide +kernel
theorem dX9_chainAt_14 : decode cX9_chainAt 14 = .ok (.iconst 0, 1) := by decide +kernel
theorem dX9_chainAt_15 : decode cX9_chainAt 15 = .ok (.istore_n 3, 1) := by decide +kernel
theorem dX9_chainAt_16 : decode cX9_chainAt 16 = .ok (.iload_n 3, 1) := by decide +kernel
theorem dX9_chainAt_17 : decode cX9_chainAt 17 = .ok (.bipush 72, 2) := by decide +kernel
theorem dX9_chainAt_19 : decode cX9_chainAt 19 = .ok (.if_icmp .ge 33, 3) := by decide +kernel
theorem dX9_chainAt_22 : decode cX9_chainAt 22 = .ok (.aload_n 0, 1) := by decide +kernel
theorem dX9_chainAt_23 : decode cX9_chainAt 23 = .ok (.getfield 101, 3) := by decide +kernel
theorem dX9_chainAt_26 : decode cX9_chainAt 26 = .ok (.iload_n 3, 1) := by decide +kernel
theorem dX9_chainAt_27 : decode cX9_chainAt 27 = .ok (.aload_n 0, 1) := by decide +kernel
theorem dX9_chainAt_28 : decode cX9_chainAt 28 = .ok (.getfield 7, 3) := by decide +kernel
theorem dX9_chainAt_31 : decode cX9_chainAt 31 = .ok (.sipush 2304, 3) := by decide +kernel
theorem dX9_chainAt_34 : decode cX9_chainAt 34 = .ok (.iload_n 3, 1) := by decide +kernel
theorem dX9_chainAt_35 : decode cX9_chainAt 35 = .ok (.iadd, 1) := by decide +kernel
theorem dX9_chainAt_36 : decode cX9_chainAt 36 = .ok (.iaload, 1) := by decide +kernel
theorem dX9_chainAt_37 : decode cX9_chainAt 37 = .ok (.ifCond .ne 7, 3) := by decide +kernel
theorem dX9_chainAt_40 : decode cX9_chainAt 40 = .ok (.iconst 1, 1) := by decide +kernel
theorem dX9_chainAt_41 : decode cX9_chainAt 41 = .ok (.goto 4, 3) := by decide +kernel
theorem dX9_chainAt_44 : decode cX9_chainAt 44 = .ok (.iconst 0, 1) := by decide +kernel
theorem dX9_chainAt_45 : decode cX9_chainAt 45 = .ok (.bastore, 1) := by decide +kernel
theorem dX9_chainAt_46 : decode cX9_chainAt 46 = .ok (.iinc 3 1, 3) := by decide +kernel
theorem dX9_chainAt_49 : decode cX9_chainAt 49 = .ok (.goto (-33), 3) := by decide +kernel
theorem dX9_chainAt_52 : decode cX9_chainAt 52 = .ok (.iload_n 1, 1) := by decide +kernel
theorem dX9_chainAt_53 : decode cX9_chainAt 53 = .ok (.istore_n 3, 1) := by decide +kernel
theorem dX9_chainAt_54 : decode cX9_chainAt 54 = .ok (.iconst 0, 1) := by decide +kernel
theorem dX9_chainAt_55 : decode cX9_chainAt 55 = .ok (.istore 4, 2) := by decide +kernel
theorem dX9_chainAt_57 : decode cX9_chainAt 57 = .ok (.aload_n 0, 1) := by decide +kernel
theorem dX9_chainAt_58 : decode cX9_chainAt 58 = .ok (.getfield 101, 3) := by decide +kernel
theorem dX9_chainAt_61 : decode cX9_chainAt 61 = .ok (.iload_n 3, 1) := by decide +kernel
theorem dX9_chainAt_62 : decode cX9_chainAt 62 = .ok (.baload, 1) := by decide +kernel
theorem dX9_chainAt_63 : decode cX9_chainAt 63 = .ok (.ifCond .ne 35, 3) := by decide +kernel
theorem dX9_chainAt_66 : decode cX9_chainAt 66 = .ok (.iload 4, 2) := by decide +kernel
theorem dX9_chainAt_68 : decode cX9_chainAt 68 = .ok (.iload_n 2, 1) := by decide +kernel
theorem dX9_chainAt_69 : decode cX9_chainAt 69 = .ok (.if_icmp .ne 5, 3) := by decide +kernel
theorem dX9_chainAt_72 : decode cX9_chainAt 72 = .ok (.iload_n 3, 1) := by decide +kernel
theorem dX9_chainAt_73 : decode cX9_chainAt 73 = .ok (.ireturn, 1) := by decide +kernel
theorem dX9_chainAt_74 : decode cX9_chainAt 74 = .ok (.aload_n 0, 1) := by decide +kernel
theorem dX9_chainAt_75 : decode cX9_chainAt 75 = .ok (.getfield 101, 3) := by decide +kernel
theorem dX9_chainAt_78 : decode cX9_chainAt 78 = .ok (.iload_n 3, 1) := by decide +kernel
theorem dX9_chainAt_79 : decode cX9_chainAt 79 = .ok (.iconst 1, 1) := by decide +kernel
theorem dX9_chainAt_80 : decode cX9_chainAt 80 = .ok (.bastore, 1) := by decide +kernel
theorem dX9_chainAt_81 : decode cX9_chainAt 81 = .ok (.aload_n 0, 1) := by decide +kernel
theorem dX9_chainAt_82 : decode cX9_chainAt 82 = .ok (.getfield 7, 3) := by decide +kernel
theorem dX9_chainAt_85 : decode cX9_chainAt 85 = .ok (.sipush 2448, 3) := by decide +kernel
theorem dX9_chainAt_88 : decode cX9_chainAt 88 = .ok (.iload_n 3, 1) := by decide +kernel
theorem dX9_chainAt_89 : decode cX9_chainAt 89 = .ok (.iadd, 1) := by decide +kernel
theorem dX9_chainAt_90 : decode cX9_chainAt 90 = .ok (.iaload, 1) := by decide +kernel
theorem dX9_chainAt_91 : decode cX9_chainAt 91 = .ok (.istore_n 3, 1) := by decide +kernel
theorem dX9_chainAt_92 : decode cX9_chainAt 92 = .ok (.iinc 4 1, 3) := by decide +kernel
theorem dX9_chainAt_95 : decode cX9_chainAt 95 = .ok (.goto (-38), 3) := by decide +kernel
theorem dX9_chainAt_98 : decode cX9_chainAt 98 = .ok (.ldc 206, 2) := by decide +kernel
theorem dX9_chainAt_100 : decode cX9_chainAt 100 = .ok (.ireturn, 1) := by decide +kernel
theorem dX9_whatIf_0 : decode cX9_whatIf 0 = .ok (.iload_n 1, 1) := by decide +kernel
theorem dX9_whatIf_1 : decode cX9_whatIf 1 = .ok (.invokestatic 210, 3) := by decide +kernel
theorem dX9_whatIf_4 : decode cX9_whatIf 4 = .ok (.ifCond .eq 23, 3) := by decide +kernel
theorem dX9_whatIf_7 : decode cX9_whatIf 7 = .ok (.iload_n 2, 1) := by decide +kernel
theorem dX9_whatIf_8 : decode cX9_whatIf 8 = .ok (.ldc_w 387, 3) := by decide +kernel
theorem dX9_whatIf_11 : decode cX9_whatIf 11 = .ok (.ldc_w 388, 3) := by decide +kernel
theorem dX9_whatIf_14 : decode cX9_whatIf 14 = .ok (.invokestatic 104, 3) := by decide +kernel
theorem dX9_whatIf_17 : decode cX9_whatIf 17 = .ok (.ifCond .eq 10, 3) := by decide +kernel
theorem dX9_whatIf_20 : decode cX9_whatIf 20 = .ok (.iload_n 3, 1) := by decide +kernel
theorem dX9_whatIf_21 : decode cX9_whatIf 21 = .ok (.invokestatic 210, 3) := by decide +kernel
theorem dX9_whatIf_24 : decode cX9_whatIf 24 = .ok (.ifCond .ne 6, 3) := by decide +kernel
theorem dX9_whatIf_27 : decode cX9_whatIf 27 = .ok (.ldc 111, 2) := by decide +kernel
theorem dX9_whatIf_29 : decode cX9_whatIf 29 = .ok (.ireturn, 1) := by decide +kernel
theorem dX9_whatIf_30 : decode cX9_whatIf 30 = .ok (.aload_n 0, 1) := by decide +kernel
theorem dX9_whatIf_31 : decode cX9_whatIf 31 = .ok (.iload_n 1, 1) := by decide +kernel
theorem dX9_whatIf_32 : decode cX9_whatIf 32 = .ok (.putfield 97, 3) := by decide +kernel
theorem dX9_whatIf_35 : decode cX9_whatIf 35 = .ok (.aload_n 0, 1) := by decide +kernel
theorem dX9_whatIf_36 : decode cX9_whatIf 36 = .ok (.iload_n 2, 1) := by decide +kernel
theorem dX9_whatIf_37 : decode cX9_whatIf 37 = .ok (.putfield 339, 3) := by decide +kernel
theorem dX9_whatIf_40 : decode cX9_whatIf 40 = .ok (.aload_n 0, 1) := by decide +kernel
theorem dX9_whatIf_41 : decode cX9_whatIf 41 = .ok (.invokevirtual 369, 3) := by decide +kernel
theorem dX9_whatIf_44 : decode cX9_whatIf 44 = .ok (.aload_n 0, 1) := by decide +kernel
theorem dX9_whatIf_45 : decode cX9_whatIf 45 = .ok (.getfield 22, 3) := by decide +kernel
theorem dX9_whatIf_48 : decode cX9_whatIf 48 = .ok (.iload_n 3, 1) := by decide +kernel
theorem dX9_whatIf_49 : decode cX9_whatIf 49 = .ok (.iaload, 1) := by decide +kernel
theorem dX9_whatIf_50 : decode cX9_whatIf 50 = .ok (.ifCond .le 8, 3) := by decide +kernel
theorem dX9_whatIf_53 : decode cX9_whatIf 53 = .ok (.ldc 206, 2) := by decide +kernel
theorem dX9_whatIf_55 : decode cX9_whatIf 55 = .ok (.goto 9, 3) := by decide +kernel
theorem dX9_whatIf_58 : decode cX9_whatIf 58 = .ok (.aload_n 0, 1) := by decide +kernel
theorem dX9_whatIf_59 : decode cX9_whatIf 59 = .ok (.getfield 19, 3) := by decide +kernel
theorem dX9_whatIf_62 : decode cX9_whatIf 62 = .ok (.iload_n 3, 1) := by decide +kernel
theorem dX9_whatIf_63 : decode cX9_whatIf 63 = .ok (.iaload, 1) := by decide +kernel
theorem dX9_whatIf_64 : decode cX9_whatIf 64 = .ok (.istore 4, 2) := by decide +kernel
theorem dX9_whatIf_66 : decode cX9_whatIf 66 = .ok (.aload_n 0, 1) := by decide +kernel
theorem dX9_whatIf_67 : decode cX9_whatIf 67 = .ok (.iconst (-1), 1) := by decide +kernel
theorem dX9_whatIf_68 : decode cX9_whatIf 68 = .ok (.putfield 97, 3) := by decide +kernel
theorem dX9_whatIf_71 : decode cX9_whatIf 71 = .ok (.aload_n 0, 1) := by decide +kernel
theorem dX9_whatIf_72 : decode cX9_whatIf 72 = .ok (.invokevirtual 369, 3) := by decide +kernel
theorem dX9_whatIf_75 : decode cX9_whatIf 75 = .ok (.iload 4, 2) := by decide +kernel
theorem dX9_whatIf_77 : decode cX9_whatIf 77 = .ok (.ireturn, 1) := by decide +kernel
theorem dX9_inAll_0 : decode cX9_inAll 0 = .ok (.iconst 0, 1) := by decide +kernel
theorem dX9_inAll_1 : decode cX9_inAll 1 = .ok (.istore_n 2, 1) := by decide +kernel
theorem dX9_inAll_2 : decode cX9_inAll 2 = .ok (.iconst 0, 1) := by decide +kernel
theorem dX9_inAll_3 : decode cX9_inAll 3 = .ok (.istore_n 3, 1) := by decide +kernel
theorem dX9_inAll_4 : decode cX9_inAll 4 = .ok (.iload_n 3, 1) := by decide +kernel
theorem dX9_inAll_5 : decode cX9_inAll 5 = .ok (.bipush 72, 2) := by decide +kernel
theorem dX9_inAll_7 : decode cX9_inAll 7 = .ok (.if_icmp .ge 20, 3) := by decide +kernel
theorem dX9_inAll_10 : decode cX9_inAll 10 = .ok (.iload_n 2, 1) := by decide +kernel
theorem dX9_inAll_11 : decode cX9_inAll 11 = .ok (.aload_n 0, 1) := by decide +kernel
theorem dX9_inAll_12 : decode cX9_inAll 12 = .ok (.getfield 7, 3) := by decide +kernel
theorem dX9_inAll_15 : decode cX9_inAll 15 = .ok (.iload_n 1, 1) := by decide +kernel
theorem dX9_inAll_16 : decode cX9_inAll 16 = .ok (.iload_n 3, 1) := by decide +kernel
theorem dX9_inAll_17 : decode cX9_inAll 17 = .ok (.iadd, 1) := by decide +kernel
theorem dX9_inAll_18 : decode cX9_inAll 18 = .ok (.iaload, 1) := by decide +kernel
theorem dX9_inAll_19 : decode cX9_inAll 19 = .ok (.iadd, 1) := by decide +kernel
theorem dX9_inAll_20 : decode cX9_inAll 20 = .ok (.istore_n 2, 1) := by decide +kernel
theorem dX9_inAll_21 : decode cX9_inAll 21 = .ok (.iinc 3 1, 3) := by decide +kernel
theorem dX9_inAll_24 : decode cX9_inAll 24 = .ok (.goto (-20), 3) := by decide +kernel
theorem dX9_inAll_27 : decode cX9_inAll 27 = .ok (.iload_n 2, 1) := by decide +kernel
theorem dX9_inAll_28 : decode cX9_inAll 28 = .ok (.ireturn, 1) := by decide +kernel
theorem dX9_formulas_0 : decode cX9_formulas 0 = .ok (.iconst 0, 1) := by decide +kernel
theorem dX9_formulas_1 : decode cX9_formulas 1 = .ok (.istore_n 1, 1) := by decide +kernel
theorem dX9_formulas_2 : decode cX9_formulas 2 = .ok (.iconst 0, 1) := by decide +kernel
theorem dX9_formulas_3 : decode cX9_formulas 3 = .ok (.istore_n 2, 1) := by decide +kernel
theorem dX9_formulas_4 : decode cX9_formulas 4 = .ok (.iload_n 2, 1) := by decide +kernel
theorem dX9_formulas_5 : decode cX9_formulas 5 = .ok (.bipush 72, 2) := by decide +kernel
theorem dX9_formulas_7 : decode cX9_formulas 7 = .ok (.if_icmp .ge 25, 3) := by decide +kernel
theorem dX9_formulas_10 : decode cX9_formulas 10 = .ok (.iload_n 1, 1) := by decide +kernel
theorem dX9_formulas_11 : decode cX9_formulas 11 = .ok (.aload_n 0, 1) := by decide +kernel
theorem dX9_formulas_12 : decode cX9_formulas 12 = .ok (.iload_n 2, 1) := by decide +kernel
theorem dX9_formulas_13 : decode cX9_formulas 13 = .ok (.invokevirtual 281, 3) := by decide +kernel
theorem dX9_formulas_16 : decode cX9_formulas 16 = .ok (.ifCond .eq 7, 3) := by decide +kernel
theorem dX9_formulas_19 : decode cX9_formulas 19 = .ok (.iconst 0, 1) := by decide +kernel
theorem dX9_formulas_20 : decode cX9_formulas 20 = .ok (.goto 4, 3) := by decide +kernel
theorem dX9_formulas_23 : decode cX9_formulas 23 = .ok (.iconst 1, 1) := by decide +kernel
theorem dX9_formulas_24 : decode cX9_formulas 24 = .ok (.iadd, 1) := by decide +kernel
theorem dX9_formulas_25 : decode cX9_formulas 25 = .ok (.istore_n 1, 1) := by decide +kernel
theorem dX9_formulas_26 : decode cX9_formulas 26 = .ok (.iinc 2 1, 3) := by decide +kernel
theorem dX9_formulas_29 : decode cX9_formulas 29 = .ok (.goto (-25), 3) := by decide +kernel
theorem dX9_formulas_32 : decode cX9_formulas 32 = .ok (.iload_n 1, 1) := by decide +kernel
theorem dX9_formulas_33 : decode cX9_formulas 33 = .ok (.ireturn, 1) := by decide +kernel
theorem dX9_errors_0 : decode cX9_errors 0 = .ok (.iconst 0, 1) := by decide +kernel
theorem dX9_errors_1 : decode cX9_errors 1 = .ok (.istore_n 1, 1) := by decide +kernel
theorem dX9_errors_2 : decode cX9_errors 2 = .ok (.iconst 0, 1) := by decide +kernel
theorem dX9_errors_3 : decode cX9_errors 3 = .ok (.istore_n 2, 1) := by decide +kernel
theorem dX9_errors_4 : decode cX9_errors 4 = .ok (.iload_n 2, 1) := by decide +kernel
theorem dX9_errors_5 : decode cX9_errors 5 = .ok (.bipush 72, 2) := by decide +kernel
theorem dX9_errors_7 : decode cX9_errors 7 = .ok (.if_icmp .ge 26, 3) := by decide +kernel
theorem dX9_errors_10 : decode cX9_errors 10 = .ok (.iload_n 1, 1) := by decide +kernel
theorem dX9_errors_11 : decode cX9_errors 11 = .ok (.aload_n 0, 1) := by decide +kernel
theorem dX9_errors_12 : decode cX9_errors 12 = .ok (.getfield 22, 3) := by decide +kernel
theorem dX9_errors_15 : decode cX9_errors 15 = .ok (.iload_n 2, 1) := by decide +kernel
theorem dX9_errors_16 : decode cX9_errors 16 = .ok (.iaload, 1) := by decide +kernel
theorem dX9_errors_17 : decode cX9_errors 17 = .ok (.ifCond .le 7, 3) := by decide +kernel
theorem dX9_errors_20 : decode cX9_errors 20 = .ok (.iconst 1, 1) := by decide +kernel
theorem dX9_errors_21 : decode cX9_errors 21 = .ok (.goto 4, 3) := by decide +kernel
theorem dX9_errors_24 : decode cX9_errors 24 = .ok (.iconst 0, 1) := by decide +kernel
theorem dX9_errors_25 : decode cX9_errors 25 = .ok (.iadd, 1) := by decide +kernel
theorem dX9_errors_26 : decode cX9_errors 26 = .ok (.istore_n 1, 1) := by decide +kernel
theorem dX9_errors_27 : decode cX9_errors 27 = .ok (.iinc 2 1, 3) := by decide +kernel
theorem dX9_errors_30 : decode cX9_errors 30 = .ok (.goto (-26), 3) := by decide +kernel
theorem dX9_errors_33 : decode cX9_errors 33 = .ok (.iload_n 1, 1) := by decide +kernel
theorem dX9_errors_34 : decode cX9_errors 34 = .ok (.ireturn, 1) := by decide +kernel
theorem dX9_highest_0 : decode cX9_highest 0 = .ok (.iconst 0, 1) := by decide +kernel
theorem dX9_highest_1 : decode cX9_highest 1 = .ok (.istore_n 1, 1) := by decide +kernel
theorem dX9_highest_2 : decode cX9_highest 2 = .ok (.iconst 0, 1) := by decide +kernel
theorem dX9_highest_3 : decode cX9_highest 3 = .ok (.istore_n 2, 1) := by decide +kernel
theorem dX9_highest_4 : decode cX9_highest 4 = .ok (.iload_n 2, 1) := by decide +kernel
theorem dX9_highest_5 : decode cX9_highest 5 = .ok (.bipush 72, 2) := by decide +kernel
theorem dX9_highest_7 : decode cX9_highest 7 = .ok (.if_icmp .ge 39, 3) := by decide +kernel
theorem dX9_highest_10 : decode cX9_highest 10 = .ok (.aload_n 0, 1) := by decide +kernel
theorem dX9_highest_11 : decode cX9_highest 11 = .ok (.getfield 25, 3) := by decide +kernel
theorem dX9_highest_14 : decode cX9_highest 14 = .ok (.iload_n 2, 1) := by decide +kernel
theorem dX9_highest_15 : decode cX9_highest 15 = .ok (.baload, 1) := by decide +kernel
theorem dX9_highest_16 : decode cX9_highest 16 = .ok (.ifCond .ne 22, 3) := by decide +kernel
theorem dX9_highest_19 : decode cX9_highest 19 = .ok (.aload_n 0, 1) := by decide +kernel
theorem dX9_highest_20 : decode cX9_highest 20 = .ok (.getfield 29, 3) := by decide +kernel
theorem dX9_highest_23 : decode cX9_highest 23 = .ok (.iload_n 2, 1) := by decide +kernel
theorem dX9_highest_24 : decode cX9_highest 24 = .ok (.iaload, 1) := by decide +kernel
theorem dX9_highest_25 : decode cX9_highest 25 = .ok (.iload_n 1, 1) := by decide +kernel
theorem dX9_highest_26 : decode cX9_highest 26 = .ok (.if_icmp .le 12, 3) := by decide +kernel
theorem dX9_highest_29 : decode cX9_highest 29 = .ok (.aload_n 0, 1) := by decide +kernel
theorem dX9_highest_30 : decode cX9_highest 30 = .ok (.getfield 29, 3) := by decide +kernel
theorem dX9_highest_33 : decode cX9_highest 33 = .ok (.iload_n 2, 1) := by decide +kernel
theorem dX9_highest_34 : decode cX9_highest 34 = .ok (.iaload, 1) := by decide +kernel
theorem dX9_highest_35 : decode cX9_highest 35 = .ok (.goto 4, 3) := by decide +kernel
theorem dX9_highest_38 : decode cX9_highest 38 = .ok (.iload_n 1, 1) := by decide +kernel
theorem dX9_highest_39 : decode cX9_highest 39 = .ok (.istore_n 1, 1) := by decide +kernel
theorem dX9_highest_40 : decode cX9_highest 40 = .ok (.iinc 2 1, 3) := by decide +kernel
theorem dX9_highest_43 : decode cX9_highest 43 = .ok (.goto (-39), 3) := by decide +kernel
theorem dX9_highest_46 : decode cX9_highest 46 = .ok (.iload_n 1, 1) := by decide +kernel
theorem dX9_highest_47 : decode cX9_highest 47 = .ok (.ireturn, 1) := by decide +kernel
theorem dX9_count_0 : decode cX9_count 0 = .ok (.iload_n 1, 1) := by decide +kernel
theorem dX9_count_1 : decode cX9_count 1 = .ok (.tableswitch 157 0 12 #[67, 72, 81, 89, 97, 102, 115, 120, 125, 130, 139, 144, 149], 67) := by decide +kernel
theorem dX9_count_68 : decode cX9_count 68 = .ok (.aload_n 0, 1) := by decide +kernel
theorem dX9_count_69 : decode cX9_count 69 = .ok (.invokevirtual 389, 3) := by decide +kernel
theorem dX9_count_72 : decode cX9_count 72 = .ok (.ireturn, 1) := by decide +kernel
theorem dX9_count_73 : decode cX9_count 73 = .ok (.aload_n 0, 1) := by decide +kernel
theorem dX9_count_74 : decode cX9_count 74 = .ok (.getfield 7, 3) := by decide +kernel
theorem dX9_count_77 : decode cX9_count 77 = .ok (.sipush 2521, 3) := by decide +kernel
theorem dX9_count_80 : decode cX9_count 80 = .ok (.iaload, 1) := by decide +kernel
theorem dX9_count_81 : decode cX9_count 81 = .ok (.ireturn, 1) := by decide +kernel
theorem dX9_count_82 : decode cX9_count 82 = .ok (.aload_n 0, 1) := by decide +kernel
theorem dX9_count_83 : decode cX9_count 83 = .ok (.sipush 2304, 3) := by decide +kernel
theorem dX9_count_86 : decode cX9_count 86 = .ok (.invokevirtual 392, 3) := by decide +kernel
theorem dX9_count_89 : decode cX9_count 89 = .ok (.ireturn, 1) := by decide +kernel
theorem dX9_count_90 : decode cX9_count 90 = .ok (.aload_n 0, 1) := by decide +kernel
theorem dX9_count_91 : decode cX9_count 91 = .ok (.sipush 2376, 3) := by decide +kernel
theorem dX9_count_94 : decode cX9_count 94 = .ok (.invokevirtual 392, 3) := by decide +kernel
theorem dX9_count_97 : decode cX9_count 97 = .ok (.ireturn, 1) := by decide +kernel
theorem dX9_count_98 : decode cX9_count 98 = .ok (.aload_n 0, 1) := by decide +kernel
theorem dX9_count_99 : decode cX9_count 99 = .ok (.getfield 360, 3) := by decide +kernel
theorem dX9_count_102 : decode cX9_count 102 = .ok (.ireturn, 1) := by decide +kernel
theorem dX9_count_103 : decode cX9_count 103 = .ok (.aload_n 0, 1) := by decide +kernel
theorem dX9_count_104 : decode cX9_count 104 = .ok (.getfield 62, 3) := by decide +kernel
theorem dX9_count_107 : decode cX9_count 107 = .ok (.ifCond .eq 7, 3) := by decide +kernel
theorem dX9_count_110 : decode cX9_count 110 = .ok (.iconst 1, 1) := by decide +kernel
theorem dX9_count_111 : decode cX9_count 111 = .ok (.goto 4, 3) := by decide +kernel
theorem dX9_count_114 : decode cX9_count 114 = .ok (.iconst 0, 1) := by decide +kernel
theorem dX9_count_115 : decode cX9_count 115 = .ok (.ireturn, 1) := by decide +kernel
theorem dX9_count_116 : decode cX9_count 116 = .ok (.aload_n 0, 1) := by decide +kernel
theorem dX9_count_117 : decode cX9_count 117 = .ok (.invokevirtual 363, 3) := by decide +kernel
theorem dX9_count_120 : decode cX9_count 120 = .ok (.ireturn, 1) := by decide +kernel
theorem dX9_count_121 : decode cX9_count 121 = .ok (.aload_n 0, 1) := by decide +kernel
theorem dX9_count_122 : decode cX9_count 122 = .ok (.invokevirtual 395, 3) := by decide +kernel
theorem dX9_count_125 : decode cX9_count 125 = .ok (.ireturn, 1) := by decide +kernel
theorem dX9_count_126 : decode cX9_count 126 = .ok (.aload_n 0, 1) := by decide +kernel
theorem dX9_count_127 : decode cX9_count 127 = .ok (.invokevirtual 398, 3) := by decide +kernel
theorem dX9_count_130 : decode cX9_count 130 = .ok (.ireturn, 1) := by decide +kernel
theorem dX9_count_131 : decode cX9_count 131 = .ok (.aload_n 0, 1) := by decide +kernel
theorem dX9_count_132 : decode cX9_count 132 = .ok (.getfield 7, 3) := by decide +kernel
theorem dX9_count_135 : decode cX9_count 135 = .ok (.sipush 2520, 3) := by decide +kernel
theorem dX9_count_138 : decode cX9_count 138 = .ok (.iaload, 1) := by decide +kernel
theorem dX9_count_139 : decode cX9_count 139 = .ok (.ireturn, 1) := by decide +kernel
theorem dX9_count_140 : decode cX9_count 140 = .ok (.aload_n 0, 1) := by decide +kernel
theorem dX9_count_141 : decode cX9_count 141 = .ok (.getfield 108, 3) := by decide +kernel
theorem dX9_count_144 : decode cX9_count 144 = .ok (.ireturn, 1) := by decide +kernel
theorem dX9_count_145 : decode cX9_count 145 = .ok (.aload_n 0, 1) := by decide +kernel
theorem dX9_count_146 : decode cX9_count 146 = .ok (.getfield 112, 3) := by decide +kernel
theorem dX9_count_149 : decode cX9_count 149 = .ok (.ireturn, 1) := by decide +kernel
theorem dX9_count_150 : decode cX9_count 150 = .ok (.aload_n 0, 1) := by decide +kernel
theorem dX9_count_151 : decode cX9_count 151 = .ok (.sipush 2232, 3) := by decide +kernel
theorem dX9_count_154 : decode cX9_count 154 = .ok (.invokevirtual 392, 3) := by decide +kernel
theorem dX9_count_157 : decode cX9_count 157 = .ok (.ireturn, 1) := by decide +kernel
theorem dX9_count_158 : decode cX9_count 158 = .ok (.ldc 111, 2) := by decide +kernel
theorem dX9_count_160 : decode cX9_count 160 = .ok (.ireturn, 1) := by decide +kernel
theorem dX9_undo_0 : decode cX9_undo 0 = .ok (.aload_n 0, 1) := by decide +kernel
theorem dX9_undo_1 : decode cX9_undo 1 = .ok (.getfield 108, 3) := by decide +kernel
theorem dX9_undo_4 : decode cX9_undo 4 = .ok (.ifCond .ne 6, 3) := by decide +kernel
theorem dX9_undo_7 : decode cX9_undo 7 = .ok (.ldc 213, 2) := by decide +kernel
theorem dX9_undo_9 : decode cX9_undo 9 = .ok (.ireturn, 1) := by decide +kernel
theorem dX9_undo_10 : decode cX9_undo 10 = .ok (.aload_n 0, 1) := by decide +kernel
theorem dX9_undo_11 : decode cX9_undo 11 = .ok (.dup, 1) := by decide +kernel
theorem dX9_undo_12 : decode cX9_undo 12 = .ok (.getfield 108, 3) := by decide +kernel
theorem dX9_undo_15 : decode cX9_undo 15 = .ok (.iconst 1, 1) := by decide +kernel
theorem dX9_undo_16 : decode cX9_undo 16 = .ok (.isub, 1) := by decide +kernel
theorem dX9_undo_17 : decode cX9_undo 17 = .ok (.putfield 108, 3) := by decide +kernel
theorem dX9_undo_20 : decode cX9_undo 20 = .ok (.iconst 0, 1) := by decide +kernel
theorem dX9_undo_21 : decode cX9_undo 21 = .ok (.istore_n 1, 1) := by decide +kernel
theorem dX9_undo_22 : decode cX9_undo 22 = .ok (.iload_n 1, 1) := by decide +kernel
theorem dX9_undo_23 : decode cX9_undo 23 = .ok (.sipush 2778, 3) := by decide +kernel
theorem dX9_undo_26 : decode cX9_undo 26 = .ok (.if_icmp .ge 30, 3) := by decide +kernel
theorem dX9_undo_29 : decode cX9_undo 29 = .ok (.aload_n 0, 1) := by decide +kernel
theorem dX9_undo_30 : decode cX9_undo 30 = .ok (.getfield 7, 3) := by decide +kernel
theorem dX9_undo_33 : decode cX9_undo 33 = .ok (.iload_n 1, 1) := by decide +kernel
theorem dX9_undo_34 : decode cX9_undo 34 = .ok (.aload_n 0, 1) := by decide +kernel
theorem dX9_undo_35 : decode cX9_undo 35 = .ok (.getfield 13, 3) := by decide +kernel
theorem dX9_undo_38 : decode cX9_undo 38 = .ok (.sipush 2778, 3) := by decide +kernel
theorem dX9_undo_41 : decode cX9_undo 41 = .ok (.aload_n 0, 1) := by decide +kernel
theorem dX9_undo_42 : decode cX9_undo 42 = .ok (.getfield 108, 3) := by decide +kernel
theorem dX9_undo_45 : decode cX9_undo 45 = .ok (.imul, 1) := by decide +kernel
theorem dX9_undo_46 : decode cX9_undo 46 = .ok (.iload_n 1, 1) := by decide +kernel
theorem dX9_undo_47 : decode cX9_undo 47 = .ok (.iadd, 1) := by decide +kernel
theorem dX9_undo_48 : decode cX9_undo 48 = .ok (.iaload, 1) := by decide +kernel
theorem dX9_undo_49 : decode cX9_undo 49 = .ok (.iastore, 1) := by decide +kernel
theorem dX9_undo_50 : decode cX9_undo 50 = .ok (.iinc 1 1, 3) := by decide +kernel
theorem dX9_undo_53 : decode cX9_undo 53 = .ok (.goto (-31), 3) := by decide +kernel
theorem dX9_undo_56 : decode cX9_undo 56 = .ok (.aload_n 0, 1) := by decide +kernel
theorem dX9_undo_57 : decode cX9_undo 57 = .ok (.invokevirtual 369, 3) := by decide +kernel
theorem dX9_undo_60 : decode cX9_undo 60 = .ok (.aload_n 0, 1) := by decide +kernel
theorem dX9_undo_61 : decode cX9_undo 61 = .ok (.getfield 108, 3) := by decide +kernel
theorem dX9_undo_64 : decode cX9_undo 64 = .ok (.ireturn, 1) := by decide +kernel
theorem dL_law_0 : decode cL_law 0 = .ok (.new 7, 3) := by decide +kernel
theorem dL_law_3 : decode cL_law 3 = .ok (.dup, 1) := by decide +kernel
theorem dL_law_4 : decode cL_law 4 = .ok (.invokespecial 9, 3) := by decide +kernel
theorem dL_law_7 : decode cL_law 7 = .ok (.astore_n 1, 1) := by decide +kernel
theorem dL_law_8 : decode cL_law 8 = .ok (.new 10, 3) := by decide +kernel
theorem dL_law_11 : decode cL_law 11 = .ok (.dup, 1) := by decide +kernel
theorem dL_law_12 : decode cL_law 12 = .ok (.invokespecial 12, 3) := by decide +kernel
theorem dL_law_15 : decode cL_law 15 = .ok (.astore_n 2, 1) := by decide +kernel
theorem dL_law_16 : decode cL_law 16 = .ok (.iconst 0, 1) := by decide +kernel
theorem dL_law_17 : decode cL_law 17 = .ok (.istore_n 3, 1) := by decide +kernel
theorem dL_law_18 : decode cL_law 18 = .ok (.iload_n 3, 1) := by decide +kernel
theorem dL_law_19 : decode cL_law 19 = .ok (.aload_n 0, 1) := by decide +kernel
theorem dL_law_20 : decode cL_law 20 = .ok (.arraylength, 1) := by decide +kernel
theorem dL_law_21 : decode cL_law 21 = .ok (.iconst 4, 1) := by decide +kernel
theorem dL_law_22 : decode cL_law 22 = .ok (.isub, 1) := by decide +kernel
theorem dL_law_23 : decode cL_law 23 = .ok (.if_icmp .gt 628, 3) := by decide +kernel
theorem dL_law_26 : decode cL_law 26 = .ok (.aload_n 0, 1) := by decide +kernel
theorem dL_law_27 : decode cL_law 27 = .ok (.iload_n 3, 1) := by decide +kernel
theorem dL_law_28 : decode cL_law 28 = .ok (.iaload, 1) := by decide +kernel
theorem dL_law_29 : decode cL_law 29 = .ok (.bipush 31, 2) := by decide +kernel
theorem dL_law_31 : decode cL_law 31 = .ok (.iand, 1) := by decide +kernel
theorem dL_law_32 : decode cL_law 32 = .ok (.tableswitch 613 0 20 #[100, 123, 136, 149, 172, 205, 218, 241, 254, 277, 300, 333, 366, 399, 432, 455, 478, 501, 534, 577, 600], 100) := by decide +kernel
theorem dL_law_132 : decode cL_law 132 = .ok (.aload_n 1, 1) := by decide +kernel
theorem dL_law_133 : decode cL_law 133 = .ok (.aload_n 0, 1) := by decide +kernel
theorem dL_law_134 : decode cL_law 134 = .ok (.iload_n 3, 1) := by decide +kernel
theorem dL_law_135 : decode cL_law 135 = .ok (.iconst 1, 1) := by decide +kernel
theorem dL_law_136 : decode cL_law 136 = .ok (.iadd, 1) := by decide +kernel
theorem dL_law_137 : decode cL_law 137 = .ok (.iaload, 1) := by decide +kernel
theorem dL_law_138 : decode cL_law 138 = .ok (.invokevirtual 13, 3) := by decide +kernel
theorem dL_law_141 : decode cL_law 141 = .ok (.aload_n 2, 1) := by decide +kernel
theorem dL_law_142 : decode cL_law 142 = .ok (.aload_n 0, 1) := by decide +kernel
theorem dL_law_143 : decode cL_law 143 = .ok (.iload_n 3, 1) := by decide +kernel
theorem dL_law_144 : decode cL_law 144 = .ok (.iconst 1, 1) := by decide +kernel
theorem dL_law_145 : decode cL_law 145 = .ok (.iadd, 1) := by decide +kernel
theorem dL_law_146 : decode cL_law 146 = .ok (.iaload, 1) := by decide +kernel
theorem dL_law_147 : decode cL_law 147 = .ok (.invokevirtual 17, 3) := by decide +kernel
theorem dL_law_150 : decode cL_law 150 = .ok (.if_icmp .eq 495, 3) := by decide +kernel
theorem dL_law_153 : decode cL_law 153 = .ok (.iconst 0, 1) := by decide +kernel
theorem dL_law_154 : decode cL_law 154 = .ok (.ireturn, 1) := by decide +kernel
theorem dL_law_155 : decode cL_law 155 = .ok (.aload_n 1, 1) := by decide +kernel
theorem dL_law_156 : decode cL_law 156 = .ok (.invokevirtual 18, 3) := by decide +kernel
theorem dL_law_159 : decode cL_law 159 = .ok (.aload_n 2, 1) := by decide +kernel
theorem dL_law_160 : decode cL_law 160 = .ok (.invokevirtual 22, 3) := by decide +kernel
theorem dL_law_163 : decode cL_law 163 = .ok (.if_icmp .eq 482, 3) := by decide +kernel
theorem dL_law_166 : decode cL_law 166 = .ok (.iconst 0, 1) := by decide +kernel
theorem dL_law_167 : decode cL_law 167 = .ok (.ireturn, 1) := by decide +kernel
theorem dL_law_168 : decode cL_law 168 = .ok (.aload_n 1, 1) := by decide +kernel
theorem dL_law_169 : decode cL_law 169 = .ok (.invokevirtual 23, 3) := by decide +kernel
theorem dL_law_172 : decode cL_law 172 = .ok (.aload_n 2, 1) := by decide +kernel
theorem dL_law_173 : decode cL_law 173 = .ok (.invokevirtual 26, 3) := by decide +kernel
theorem dL_law_176 : decode cL_law 176 = .ok (.if_icmp .eq 469, 3) := by decide +kernel
theorem dL_law_179 : decode cL_law 179 = .ok (.iconst 0, 1) := by decide +kernel
theorem dL_law_180 : decode cL_law 180 = .ok (.ireturn, 1) := by decide +kernel
theorem dL_law_181 : decode cL_law 181 = .ok (.aload_n 1, 1) := by decide +kernel
theorem dL_law_182 : decode cL_law 182 = .ok (.aload_n 0, 1) := by decide +kernel
theorem dL_law_183 : decode cL_law 183 = .ok (.iload_n 3, 1) := by decide +kernel
theorem dL_law_184 : decode cL_law 184 = .ok (.iconst 1, 1) := by decide +kernel
theorem dL_law_185 : decode cL_law 185 = .ok (.iadd, 1) := by decide +kernel
theorem dL_law_186 : decode cL_law 186 = .ok (.iaload, 1) := by decide +kernel
theorem dL_law_187 : decode cL_law 187 = .ok (.invokevirtual 27, 3) := by decide +kernel
theorem dL_law_190 : decode cL_law 190 = .ok (.aload_n 2, 1) := by decide +kernel
theorem dL_law_191 : decode cL_law 191 = .ok (.aload_n 0, 1) := by decide +kernel
theorem dL_law_192 : decode cL_law 192 = .ok (.iload_n 3, 1) := by decide +kernel
theorem dL_law_193 : decode cL_law 193 = .ok (.iconst 1, 1) := by decide +kernel
theorem dL_law_194 : decode cL_law 194 = .ok (.iadd, 1) := by decide +kernel
theorem dL_law_195 : decode cL_law 195 = .ok (.iaload, 1) := by decide +kernel
theorem dL_law_196 : decode cL_law 196 = .ok (.invokevirtual 30, 3) := by decide +kernel
theorem dL_law_199 : decode cL_law 199 = .ok (.if_icmp .eq 446, 3) := by decide +kernel
theorem dL_law_202 : decode cL_law 202 = .ok (.iconst 0, 1) := by decide +kernel
theorem dL_law_203 : decode cL_law 203 = .ok (.ireturn, 1) := by decide +kernel
theorem dL_law_204 : decode cL_law 204 = .ok (.aload_n 1, 1) := by decide +kernel
theorem dL_law_205 : decode cL_law 205 = .ok (.aload_n 0, 1) := by decide +kernel
theorem dL_law_206 : decode cL_law 206 = .ok (.iload_n 3, 1) := by decide +kernel
theorem dL_law_207 : decode cL_law 207 = .ok (.iconst 1, 1) := by decide +kernel
theorem dL_law_208 : decode cL_law 208 = .ok (.iadd, 1) := by decide +kernel
theorem dL_law_209 : decode cL_law 209 = .ok (.iaload, 1) := by decide +kernel
theorem dL_law_210 : decode cL_law 210 = .ok (.aload_n 0, 1) := by decide +kernel
theorem dL_law_211 : decode cL_law 211 = .ok (.iload_n 3, 1) := by decide +kernel
theorem dL_law_212 : decode cL_law 212 = .ok (.iconst 2, 1) := by decide +kernel
theorem dL_law_213 : decode cL_law 213 = .ok (.iadd, 1) := by decide +kernel
theorem dL_law_214 : decode cL_law 214 = .ok (.iaload, 1) := by decide +kernel
theorem dL_law_215 : decode cL_law 215 = .ok (.invokevirtual 31, 3) := by decide +kernel
theorem dL_law_218 : decode cL_law 218 = .ok (.aload_n 2, 1) := by decide +kernel
theorem dL_law_219 : decode cL_law 219 = .ok (.aload_n 0, 1) := by decide +kernel
theorem dL_law_220 : decode cL_law 220 = .ok (.iload_n 3, 1) := by decide +kernel
theorem dL_law_221 : decode cL_law 221 = .ok (.iconst 1, 1) := by decide +kernel
theorem dL_law_222 : decode cL_law 222 = .ok (.iadd, 1) := by decide +kernel
theorem dL_law_223 : decode cL_law 223 = .ok (.iaload, 1) := by decide +kernel
theorem dL_law_224 : decode cL_law 224 = .ok (.aload_n 0, 1) := by decide +kernel
theorem dL_law_225 : decode cL_law 225 = .ok (.iload_n 3, 1) := by decide +kernel
theorem dL_law_226 : decode cL_law 226 = .ok (.iconst 2, 1) := by decide +kernel
theorem dL_law_227 : decode cL_law 227 = .ok (.iadd, 1) := by decide +kernel
theorem dL_law_228 : decode cL_law 228 = .ok (.iaload, 1) := by decide +kernel
theorem dL_law_229 : decode cL_law 229 = .ok (.invokevirtual 35, 3) := by decide +kernel
theorem dL_law_232 : decode cL_law 232 = .ok (.if_icmp .eq 413, 3) := by decide +kernel
theorem dL_law_235 : decode cL_law 235 = .ok (.iconst 0, 1) := by decide +kernel
theorem dL_law_236 : decode cL_law 236 = .ok (.ireturn, 1) := by decide +kernel
theorem dL_law_237 : decode cL_law 237 = .ok (.aload_n 1, 1) := by decide +kernel
theorem dL_law_238 : decode cL_law 238 = .ok (.invokevirtual 36, 3) := by decide +kernel
theorem dL_law_241 : decode cL_law 241 = .ok (.aload_n 2, 1) := by decide +kernel
theorem dL_law_242 : decode cL_law 242 = .ok (.invokevirtual 39, 3) := by decide +kernel
theorem dL_law_245 : decode cL_law 245 = .ok (.if_icmp .eq 400, 3) := by decide +kernel
theorem dL_law_248 : decode cL_law 248 = .ok (.iconst 0, 1) := by decide +kernel
theorem dL_law_249 : decode cL_law 249 = .ok (.ireturn, 1) := by decide +kernel
theorem dL_law_250 : decode cL_law 250 = .ok (.aload_n 1, 1) := by decide +kernel
theorem dL_law_251 : decode cL_law 251 = .ok (.aload_n 0, 1) := by decide +kernel
theorem dL_law_252 : decode cL_law 252 = .ok (.iload_n 3, 1) := by decide +kernel
theorem dL_law_253 : decode cL_law 253 = .ok (.iconst 1, 1) := by decide +kernel
theorem dL_law_254 : decode cL_law 254 = .ok (.iadd, 1) := by decide +kernel
theorem dL_law_255 : decode cL_law 255 = .ok (.iaload, 1) := by decide +kernel
theorem dL_law_256 : decode cL_law 256 = .ok (.invokevirtual 40, 3) := by decide +kernel
theorem dL_law_259 : decode cL_law 259 = .ok (.aload_n 2, 1) := by decide +kernel
theorem dL_law_260 : decode cL_law 260 = .ok (.aload_n 0, 1) := by decide +kernel
theorem dL_law_261 : decode cL_law 261 = .ok (.iload_n 3, 1) := by decide +kernel
theorem dL_law_262 : decode cL_law 262 = .ok (.iconst 1, 1) := by decide +kernel
theorem dL_law_263 : decode cL_law 263 = .ok (.iadd, 1) := by decide +kernel
theorem dL_law_264 : decode cL_law 264 = .ok (.iaload, 1) := by decide +kernel
theorem dL_law_265 : decode cL_law 265 = .ok (.invokevirtual 43, 3) := by decide +kernel
theorem dL_law_268 : decode cL_law 268 = .ok (.if_icmp .eq 377, 3) := by decide +kernel
theorem dL_law_271 : decode cL_law 271 = .ok (.iconst 0, 1) := by decide +kernel
theorem dL_law_272 : decode cL_law 272 = .ok (.ireturn, 1) := by decide +kernel
theorem dL_law_273 : decode cL_law 273 = .ok (.aload_n 1, 1) := by decide +kernel
theorem dL_law_274 : decode cL_law 274 = .ok (.invokevirtual 44, 3) := by decide +kernel
theorem dL_law_277 : decode cL_law 277 = .ok (.aload_n 2, 1) := by decide +kernel
theorem dL_law_278 : decode cL_law 278 = .ok (.invokevirtual 47, 3) := by decide +kernel
theorem dL_law_281 : decode cL_law 281 = .ok (.if_icmp .eq 364, 3) := by decide +kernel
theorem dL_law_284 : decode cL_law 284 = .ok (.iconst 0, 1) := by decide +kernel
theorem dL_law_285 : decode cL_law 285 = .ok (.ireturn, 1) := by decide +kernel
theorem dL_law_286 : decode cL_law 286 = .ok (.aload_n 1, 1) := by decide +kernel
theorem dL_law_287 : decode cL_law 287 = .ok (.aload_n 0, 1) := by decide +kernel
theorem dL_law_288 : decode cL_law 288 = .ok (.iload_n 3, 1) := by decide +kernel
theorem dL_law_289 : decode cL_law 289 = .ok (.iconst 1, 1) := by decide +kernel
theorem dL_law_290 : decode cL_law 290 = .ok (.iadd, 1) := by decide +kernel
theorem dL_law_291 : decode cL_law 291 = .ok (.iaload, 1) := by decide +kernel
theorem dL_law_292 : decode cL_law 292 = .ok (.invokevirtual 48, 3) := by decide +kernel
theorem dL_law_295 : decode cL_law 295 = .ok (.aload_n 2, 1) := by decide +kernel
theorem dL_law_296 : decode cL_law 296 = .ok (.aload_n 0, 1) := by decide +kernel
theorem dL_law_297 : decode cL_law 297 = .ok (.iload_n 3, 1) := by decide +kernel
theorem dL_law_298 : decode cL_law 298 = .ok (.iconst 1, 1) := by decide +kernel
theorem dL_law_299 : decode cL_law 299 = .ok (.iadd, 1) := by decide +kernel
theorem dL_law_300 : decode cL_law 300 = .ok (.iaload, 1) := by decide +kernel
theorem dL_law_301 : decode cL_law 301 = .ok (.invokevirtual 51, 3) := by decide +kernel
theorem dL_law_304 : decode cL_law 304 = .ok (.if_icmp .eq 341, 3) := by decide +kernel
theorem dL_law_307 : decode cL_law 307 = .ok (.iconst 0, 1) := by decide +kernel
theorem dL_law_308 : decode cL_law 308 = .ok (.ireturn, 1) := by decide +kernel
theorem dL_law_309 : decode cL_law 309 = .ok (.aload_n 1, 1) := by decide +kernel
theorem dL_law_310 : decode cL_law 310 = .ok (.aload_n 0, 1) := by decide +kernel
theorem dL_law_311 : decode cL_law 311 = .ok (.iload_n 3, 1) := by decide +kernel
theorem dL_law_312 : decode cL_law 312 = .ok (.iconst 1, 1) := by decide +kernel
theorem dL_law_313 : decode cL_law 313 = .ok (.iadd, 1) := by decide +kernel
theorem dL_law_314 : decode cL_law 314 = .ok (.iaload, 1) := by decide +kernel
theorem dL_law_315 : decode cL_law 315 = .ok (.invokevirtual 52, 3) := by decide +kernel
theorem dL_law_318 : decode cL_law 318 = .ok (.aload_n 2, 1) := by decide +kernel
theorem dL_law_319 : decode cL_law 319 = .ok (.aload_n 0, 1) := by decide +kernel
theorem dL_law_320 : decode cL_law 320 = .ok (.iload_n 3, 1) := by decide +kernel
theorem dL_law_321 : decode cL_law 321 = .ok (.iconst 1, 1) := by decide +kernel
theorem dL_law_322 : decode cL_law 322 = .ok (.iadd, 1) := by decide +kernel
theorem dL_law_323 : decode cL_law 323 = .ok (.iaload, 1) := by decide +kernel
theorem dL_law_324 : decode cL_law 324 = .ok (.invokevirtual 55, 3) := by decide +kernel
theorem dL_law_327 : decode cL_law 327 = .ok (.if_icmp .eq 318, 3) := by decide +kernel
theorem dL_law_330 : decode cL_law 330 = .ok (.iconst 0, 1) := by decide +kernel
theorem dL_law_331 : decode cL_law 331 = .ok (.ireturn, 1) := by decide +kernel
theorem dL_law_332 : decode cL_law 332 = .ok (.aload_n 1, 1) := by decide +kernel
theorem dL_law_333 : decode cL_law 333 = .ok (.aload_n 0, 1) := by decide +kernel
theorem dL_law_334 : decode cL_law 334 = .ok (.iload_n 3, 1) := by decide +kernel
theorem dL_law_335 : decode cL_law 335 = .ok (.iconst 1, 1) := by decide +kernel
theorem dL_law_336 : decode cL_law 336 = .ok (.iadd, 1) := by decide +kernel
theorem dL_law_337 : decode cL_law 337 = .ok (.iaload, 1) := by decide +kernel
theorem dL_law_338 : decode cL_law 338 = .ok (.aload_n 0, 1) := by decide +kernel
theorem dL_law_339 : decode cL_law 339 = .ok (.iload_n 3, 1) := by decide +kernel
theorem dL_law_340 : decode cL_law 340 = .ok (.iconst 2, 1) := by decide +kernel
theorem dL_law_341 : decode cL_law 341 = .ok (.iadd, 1) := by decide +kernel
theorem dL_law_342 : decode cL_law 342 = .ok (.iaload, 1) := by decide +kernel
theorem dL_law_343 : decode cL_law 343 = .ok (.invokevirtual 56, 3) := by decide +kernel
theorem dL_law_346 : decode cL_law 346 = .ok (.aload_n 2, 1) := by decide +kernel
theorem dL_law_347 : decode cL_law 347 = .ok (.aload_n 0, 1) := by decide +kernel
theorem dL_law_348 : decode cL_law 348 = .ok (.iload_n 3, 1) := by decide +kernel
theorem dL_law_349 : decode cL_law 349 = .ok (.iconst 1, 1) := by decide +kernel
theorem dL_law_350 : decode cL_law 350 = .ok (.iadd, 1) := by decide +kernel
theorem dL_law_351 : decode cL_law 351 = .ok (.iaload, 1) := by decide +kernel
theorem dL_law_352 : decode cL_law 352 = .ok (.aload_n 0, 1) := by decide +kernel
theorem dL_law_353 : decode cL_law 353 = .ok (.iload_n 3, 1) := by decide +kernel
theorem dL_law_354 : decode cL_law 354 = .ok (.iconst 2, 1) := by decide +kernel
theorem dL_law_355 : decode cL_law 355 = .ok (.iadd, 1) := by decide +kernel
theorem dL_law_356 : decode cL_law 356 = .ok (.iaload, 1) := by decide +kernel
theorem dL_law_357 : decode cL_law 357 = .ok (.invokevirtual 59, 3) := by decide +kernel
theorem dL_law_360 : decode cL_law 360 = .ok (.if_icmp .eq 285, 3) := by decide +kernel
theorem dL_law_363 : decode cL_law 363 = .ok (.iconst 0, 1) := by decide +kernel
theorem dL_law_364 : decode cL_law 364 = .ok (.ireturn, 1) := by decide +kernel
theorem dL_law_365 : decode cL_law 365 = .ok (.aload_n 1, 1) := by decide +kernel
theorem dL_law_366 : decode cL_law 366 = .ok (.aload_n 0, 1) := by decide +kernel
theorem dL_law_367 : decode cL_law 367 = .ok (.iload_n 3, 1) := by decide +kernel
theorem dL_law_368 : decode cL_law 368 = .ok (.iconst 1, 1) := by decide +kernel
theorem dL_law_369 : decode cL_law 369 = .ok (.iadd, 1) := by decide +kernel
theorem dL_law_370 : decode cL_law 370 = .ok (.iaload, 1) := by decide +kernel
theorem dL_law_371 : decode cL_law 371 = .ok (.aload_n 0, 1) := by decide +kernel
theorem dL_law_372 : decode cL_law 372 = .ok (.iload_n 3, 1) := by decide +kernel
theorem dL_law_373 : decode cL_law 373 = .ok (.iconst 2, 1) := by decide +kernel
theorem dL_law_374 : decode cL_law 374 = .ok (.iadd, 1) := by decide +kernel
theorem dL_law_375 : decode cL_law 375 = .ok (.iaload, 1) := by decide +kernel
theorem dL_law_376 : decode cL_law 376 = .ok (.invokevirtual 60, 3) := by decide +kernel
theorem dL_law_379 : decode cL_law 379 = .ok (.aload_n 2, 1) := by decide +kernel
theorem dL_law_380 : decode cL_law 380 = .ok (.aload_n 0, 1) := by decide +kernel
theorem dL_law_381 : decode cL_law 381 = .ok (.iload_n 3, 1) := by decide +kernel
theorem dL_law_382 : decode cL_law 382 = .ok (.iconst 1, 1) := by decide +kernel
theorem dL_law_383 : decode cL_law 383 = .ok (.iadd, 1) := by decide +kernel
theorem dL_law_384 : decode cL_law 384 = .ok (.iaload, 1) := by decide +kernel
theorem dL_law_385 : decode cL_law 385 = .ok (.aload_n 0, 1) := by decide +kernel
theorem dL_law_386 : decode cL_law 386 = .ok (.iload_n 3, 1) := by decide +kernel
theorem dL_law_387 : decode cL_law 387 = .ok (.iconst 2, 1) := by decide +kernel
theorem dL_law_388 : decode cL_law 388 = .ok (.iadd, 1) := by decide +kernel
theorem dL_law_389 : decode cL_law 389 = .ok (.iaload, 1) := by decide +kernel
theorem dL_law_390 : decode cL_law 390 = .ok (.invokevirtual 63, 3) := by decide +kernel
theorem dL_law_393 : decode cL_law 393 = .ok (.if_icmp .eq 252, 3) := by decide +kernel
theorem dL_law_396 : decode cL_law 396 = .ok (.iconst 0, 1) := by decide +kernel
theorem dL_law_397 : decode cL_law 397 = .ok (.ireturn, 1) := by decide +kernel
theorem dL_law_398 : decode cL_law 398 = .ok (.aload_n 1, 1) := by decide +kernel
theorem dL_law_399 : decode cL_law 399 = .ok (.aload_n 0, 1) := by decide +kernel
theorem dL_law_400 : decode cL_law 400 = .ok (.iload_n 3, 1) := by decide +kernel
theorem dL_law_401 : decode cL_law 401 = .ok (.iconst 1, 1) := by decide +kernel
theorem dL_law_402 : decode cL_law 402 = .ok (.iadd, 1) := by decide +kernel
theorem dL_law_403 : decode cL_law 403 = .ok (.iaload, 1) := by decide +kernel
theorem dL_law_404 : decode cL_law 404 = .ok (.aload_n 0, 1) := by decide +kernel
theorem dL_law_405 : decode cL_law 405 = .ok (.iload_n 3, 1) := by decide +kernel
theorem dL_law_406 : decode cL_law 406 = .ok (.iconst 2, 1) := by decide +kernel
theorem dL_law_407 : decode cL_law 407 = .ok (.iadd, 1) := by decide +kernel
theorem dL_law_408 : decode cL_law 408 = .ok (.iaload, 1) := by decide +kernel
theorem dL_law_409 : decode cL_law 409 = .ok (.invokevirtual 64, 3) := by decide +kernel
theorem dL_law_412 : decode cL_law 412 = .ok (.aload_n 2, 1) := by decide +kernel
theorem dL_law_413 : decode cL_law 413 = .ok (.aload_n 0, 1) := by decide +kernel
theorem dL_law_414 : decode cL_law 414 = .ok (.iload_n 3, 1) := by decide +kernel
theorem dL_law_415 : decode cL_law 415 = .ok (.iconst 1, 1) := by decide +kernel
theorem dL_law_416 : decode cL_law 416 = .ok (.iadd, 1) := by decide +kernel
theorem dL_law_417 : decode cL_law 417 = .ok (.iaload, 1) := by decide +kernel
theorem dL_law_418 : decode cL_law 418 = .ok (.aload_n 0, 1) := by decide +kernel
theorem dL_law_419 : decode cL_law 419 = .ok (.iload_n 3, 1) := by decide +kernel
theorem dL_law_420 : decode cL_law 420 = .ok (.iconst 2, 1) := by decide +kernel
theorem dL_law_421 : decode cL_law 421 = .ok (.iadd, 1) := by decide +kernel
theorem dL_law_422 : decode cL_law 422 = .ok (.iaload, 1) := by decide +kernel
theorem dL_law_423 : decode cL_law 423 = .ok (.invokevirtual 67, 3) := by decide +kernel
theorem dL_law_426 : decode cL_law 426 = .ok (.if_icmp .eq 219, 3) := by decide +kernel
theorem dL_law_429 : decode cL_law 429 = .ok (.iconst 0, 1) := by decide +kernel
theorem dL_law_430 : decode cL_law 430 = .ok (.ireturn, 1) := by decide +kernel
theorem dL_law_431 : decode cL_law 431 = .ok (.aload_n 1, 1) := by decide +kernel
theorem dL_law_432 : decode cL_law 432 = .ok (.aload_n 0, 1) := by decide +kernel
theorem dL_law_433 : decode cL_law 433 = .ok (.iload_n 3, 1) := by decide +kernel
theorem dL_law_434 : decode cL_law 434 = .ok (.iconst 1, 1) := by decide +kernel
theorem dL_law_435 : decode cL_law 435 = .ok (.iadd, 1) := by decide +kernel
theorem dL_law_436 : decode cL_law 436 = .ok (.iaload, 1) := by decide +kernel
theorem dL_law_437 : decode cL_law 437 = .ok (.aload_n 0, 1) := by decide +kernel
theorem dL_law_438 : decode cL_law 438 = .ok (.iload_n 3, 1) := by decide +kernel
theorem dL_law_439 : decode cL_law 439 = .ok (.iconst 2, 1) := by decide +kernel
theorem dL_law_440 : decode cL_law 440 = .ok (.iadd, 1) := by decide +kernel
theorem dL_law_441 : decode cL_law 441 = .ok (.iaload, 1) := by decide +kernel
theorem dL_law_442 : decode cL_law 442 = .ok (.invokevirtual 68, 3) := by decide +kernel
theorem dL_law_445 : decode cL_law 445 = .ok (.aload_n 2, 1) := by decide +kernel
theorem dL_law_446 : decode cL_law 446 = .ok (.aload_n 0, 1) := by decide +kernel
theorem dL_law_447 : decode cL_law 447 = .ok (.iload_n 3, 1) := by decide +kernel
theorem dL_law_448 : decode cL_law 448 = .ok (.iconst 1, 1) := by decide +kernel
theorem dL_law_449 : decode cL_law 449 = .ok (.iadd, 1) := by decide +kernel
theorem dL_law_450 : decode cL_law 450 = .ok (.iaload, 1) := by decide +kernel
theorem dL_law_451 : decode cL_law 451 = .ok (.aload_n 0, 1) := by decide +kernel
theorem dL_law_452 : decode cL_law 452 = .ok (.iload_n 3, 1) := by decide +kernel
theorem dL_law_453 : decode cL_law 453 = .ok (.iconst 2, 1) := by decide +kernel
theorem dL_law_454 : decode cL_law 454 = .ok (.iadd, 1) := by decide +kernel
theorem dL_law_455 : decode cL_law 455 = .ok (.iaload, 1) := by decide +kernel
theorem dL_law_456 : decode cL_law 456 = .ok (.invokevirtual 71, 3) := by decide +kernel
theorem dL_law_459 : decode cL_law 459 = .ok (.if_icmp .eq 186, 3) := by decide +kernel
theorem dL_law_462 : decode cL_law 462 = .ok (.iconst 0, 1) := by decide +kernel
theorem dL_law_463 : decode cL_law 463 = .ok (.ireturn, 1) := by decide +kernel
theorem dL_law_464 : decode cL_law 464 = .ok (.aload_n 1, 1) := by decide +kernel
theorem dL_law_465 : decode cL_law 465 = .ok (.aload_n 0, 1) := by decide +kernel
theorem dL_law_466 : decode cL_law 466 = .ok (.iload_n 3, 1) := by decide +kernel
theorem dL_law_467 : decode cL_law 467 = .ok (.iconst 1, 1) := by decide +kernel
theorem dL_law_468 : decode cL_law 468 = .ok (.iadd, 1) := by decide +kernel
theorem dL_law_469 : decode cL_law 469 = .ok (.iaload, 1) := by decide +kernel
theorem dL_law_470 : decode cL_law 470 = .ok (.invokevirtual 72, 3) := by decide +kernel
theorem dL_law_473 : decode cL_law 473 = .ok (.aload_n 2, 1) := by decide +kernel
theorem dL_law_474 : decode cL_law 474 = .ok (.aload_n 0, 1) := by decide +kernel
theorem dL_law_475 : decode cL_law 475 = .ok (.iload_n 3, 1) := by decide +kernel
theorem dL_law_476 : decode cL_law 476 = .ok (.iconst 1, 1) := by decide +kernel
theorem dL_law_477 : decode cL_law 477 = .ok (.iadd, 1) := by decide +kernel
theorem dL_law_478 : decode cL_law 478 = .ok (.iaload, 1) := by decide +kernel
theorem dL_law_479 : decode cL_law 479 = .ok (.invokevirtual 75, 3) := by decide +kernel
theorem dL_law_482 : decode cL_law 482 = .ok (.if_icmp .eq 163, 3) := by decide +kernel
theorem dL_law_485 : decode cL_law 485 = .ok (.iconst 0, 1) := by decide +kernel
theorem dL_law_486 : decode cL_law 486 = .ok (.ireturn, 1) := by decide +kernel
theorem dL_law_487 : decode cL_law 487 = .ok (.aload_n 1, 1) := by decide +kernel
theorem dL_law_488 : decode cL_law 488 = .ok (.aload_n 0, 1) := by decide +kernel
theorem dL_law_489 : decode cL_law 489 = .ok (.iload_n 3, 1) := by decide +kernel
theorem dL_law_490 : decode cL_law 490 = .ok (.iconst 1, 1) := by decide +kernel
theorem dL_law_491 : decode cL_law 491 = .ok (.iadd, 1) := by decide +kernel
theorem dL_law_492 : decode cL_law 492 = .ok (.iaload, 1) := by decide +kernel
theorem dL_law_493 : decode cL_law 493 = .ok (.invokevirtual 76, 3) := by decide +kernel
theorem dL_law_496 : decode cL_law 496 = .ok (.aload_n 2, 1) := by decide +kernel
theorem dL_law_497 : decode cL_law 497 = .ok (.aload_n 0, 1) := by decide +kernel
theorem dL_law_498 : decode cL_law 498 = .ok (.iload_n 3, 1) := by decide +kernel
theorem dL_law_499 : decode cL_law 499 = .ok (.iconst 1, 1) := by decide +kernel
theorem dL_law_500 : decode cL_law 500 = .ok (.iadd, 1) := by decide +kernel
theorem dL_law_501 : decode cL_law 501 = .ok (.iaload, 1) := by decide +kernel
theorem dL_law_502 : decode cL_law 502 = .ok (.invokevirtual 79, 3) := by decide +kernel
theorem dL_law_505 : decode cL_law 505 = .ok (.if_icmp .eq 140, 3) := by decide +kernel
theorem dL_law_508 : decode cL_law 508 = .ok (.iconst 0, 1) := by decide +kernel
theorem dL_law_509 : decode cL_law 509 = .ok (.ireturn, 1) := by decide +kernel
theorem dL_law_510 : decode cL_law 510 = .ok (.aload_n 1, 1) := by decide +kernel
theorem dL_law_511 : decode cL_law 511 = .ok (.aload_n 0, 1) := by decide +kernel
theorem dL_law_512 : decode cL_law 512 = .ok (.iload_n 3, 1) := by decide +kernel
theorem dL_law_513 : decode cL_law 513 = .ok (.iconst 1, 1) := by decide +kernel
theorem dL_law_514 : decode cL_law 514 = .ok (.iadd, 1) := by decide +kernel
theorem dL_law_515 : decode cL_law 515 = .ok (.iaload, 1) := by decide +kernel
theorem dL_law_516 : decode cL_law 516 = .ok (.invokevirtual 80, 3) := by decide +kernel
theorem dL_law_519 : decode cL_law 519 = .ok (.aload_n 2, 1) := by decide +kernel
theorem dL_law_520 : decode cL_law 520 = .ok (.aload_n 0, 1) := by decide +kernel
theorem dL_law_521 : decode cL_law 521 = .ok (.iload_n 3, 1) := by decide +kernel
theorem dL_law_522 : decode cL_law 522 = .ok (.iconst 1, 1) := by decide +kernel
theorem dL_law_523 : decode cL_law 523 = .ok (.iadd, 1) := by decide +kernel
theorem dL_law_524 : decode cL_law 524 = .ok (.iaload, 1) := by decide +kernel
theorem dL_law_525 : decode cL_law 525 = .ok (.invokevirtual 83, 3) := by decide +kernel
theorem dL_law_528 : decode cL_law 528 = .ok (.if_icmp .eq 117, 3) := by decide +kernel
theorem dL_law_531 : decode cL_law 531 = .ok (.iconst 0, 1) := by decide +kernel
theorem dL_law_532 : decode cL_law 532 = .ok (.ireturn, 1) := by decide +kernel
theorem dL_law_533 : decode cL_law 533 = .ok (.aload_n 1, 1) := by decide +kernel
theorem dL_law_534 : decode cL_law 534 = .ok (.aload_n 0, 1) := by decide +kernel
theorem dL_law_535 : decode cL_law 535 = .ok (.iload_n 3, 1) := by decide +kernel
theorem dL_law_536 : decode cL_law 536 = .ok (.iconst 1, 1) := by decide +kernel
theorem dL_law_537 : decode cL_law 537 = .ok (.iadd, 1) := by decide +kernel
theorem dL_law_538 : decode cL_law 538 = .ok (.iaload, 1) := by decide +kernel
theorem dL_law_539 : decode cL_law 539 = .ok (.aload_n 0, 1) := by decide +kernel
theorem dL_law_540 : decode cL_law 540 = .ok (.iload_n 3, 1) := by decide +kernel
theorem dL_law_541 : decode cL_law 541 = .ok (.iconst 2, 1) := by decide +kernel
theorem dL_law_542 : decode cL_law 542 = .ok (.iadd, 1) := by decide +kernel
theorem dL_law_543 : decode cL_law 543 = .ok (.iaload, 1) := by decide +kernel
theorem dL_law_544 : decode cL_law 544 = .ok (.invokevirtual 84, 3) := by decide +kernel
theorem dL_law_547 : decode cL_law 547 = .ok (.aload_n 2, 1) := by decide +kernel
theorem dL_law_548 : decode cL_law 548 = .ok (.aload_n 0, 1) := by decide +kernel
theorem dL_law_549 : decode cL_law 549 = .ok (.iload_n 3, 1) := by decide +kernel
theorem dL_law_550 : decode cL_law 550 = .ok (.iconst 1, 1) := by decide +kernel
theorem dL_law_551 : decode cL_law 551 = .ok (.iadd, 1) := by decide +kernel
theorem dL_law_552 : decode cL_law 552 = .ok (.iaload, 1) := by decide +kernel
theorem dL_law_553 : decode cL_law 553 = .ok (.aload_n 0, 1) := by decide +kernel
theorem dL_law_554 : decode cL_law 554 = .ok (.iload_n 3, 1) := by decide +kernel
theorem dL_law_555 : decode cL_law 555 = .ok (.iconst 2, 1) := by decide +kernel
theorem dL_law_556 : decode cL_law 556 = .ok (.iadd, 1) := by decide +kernel
theorem dL_law_557 : decode cL_law 557 = .ok (.iaload, 1) := by decide +kernel
theorem dL_law_558 : decode cL_law 558 = .ok (.invokevirtual 87, 3) := by decide +kernel
theorem dL_law_561 : decode cL_law 561 = .ok (.if_icmp .eq 84, 3) := by decide +kernel
theorem dL_law_564 : decode cL_law 564 = .ok (.iconst 0, 1) := by decide +kernel
theorem dL_law_565 : decode cL_law 565 = .ok (.ireturn, 1) := by decide +kernel
theorem dL_law_566 : decode cL_law 566 = .ok (.aload_n 1, 1) := by decide +kernel
theorem dL_law_567 : decode cL_law 567 = .ok (.aload_n 0, 1) := by decide +kernel
theorem dL_law_568 : decode cL_law 568 = .ok (.iload_n 3, 1) := by decide +kernel
theorem dL_law_569 : decode cL_law 569 = .ok (.iconst 1, 1) := by decide +kernel
theorem dL_law_570 : decode cL_law 570 = .ok (.iadd, 1) := by decide +kernel
theorem dL_law_571 : decode cL_law 571 = .ok (.iaload, 1) := by decide +kernel
theorem dL_law_572 : decode cL_law 572 = .ok (.aload_n 0, 1) := by decide +kernel
theorem dL_law_573 : decode cL_law 573 = .ok (.iload_n 3, 1) := by decide +kernel
theorem dL_law_574 : decode cL_law 574 = .ok (.iconst 2, 1) := by decide +kernel
theorem dL_law_575 : decode cL_law 575 = .ok (.iadd, 1) := by decide +kernel
theorem dL_law_576 : decode cL_law 576 = .ok (.iaload, 1) := by decide +kernel
theorem dL_law_577 : decode cL_law 577 = .ok (.aload_n 0, 1) := by decide +kernel
theorem dL_law_578 : decode cL_law 578 = .ok (.iload_n 3, 1) := by decide +kernel
theorem dL_law_579 : decode cL_law 579 = .ok (.iconst 3, 1) := by decide +kernel
theorem dL_law_580 : decode cL_law 580 = .ok (.iadd, 1) := by decide +kernel
theorem dL_law_581 : decode cL_law 581 = .ok (.iaload, 1) := by decide +kernel
theorem dL_law_582 : decode cL_law 582 = .ok (.invokevirtual 88, 3) := by decide +kernel
theorem dL_law_585 : decode cL_law 585 = .ok (.aload_n 2, 1) := by decide +kernel
theorem dL_law_586 : decode cL_law 586 = .ok (.aload_n 0, 1) := by decide +kernel
theorem dL_law_587 : decode cL_law 587 = .ok (.iload_n 3, 1) := by decide +kernel
theorem dL_law_588 : decode cL_law 588 = .ok (.iconst 1, 1) := by decide +kernel
theorem dL_law_589 : decode cL_law 589 = .ok (.iadd, 1) := by decide +kernel
theorem dL_law_590 : decode cL_law 590 = .ok (.iaload, 1) := by decide +kernel
theorem dL_law_591 : decode cL_law 591 = .ok (.aload_n 0, 1) := by decide +kernel
theorem dL_law_592 : decode cL_law 592 = .ok (.iload_n 3, 1) := by decide +kernel
theorem dL_law_593 : decode cL_law 593 = .ok (.iconst 2, 1) := by decide +kernel
theorem dL_law_594 : decode cL_law 594 = .ok (.iadd, 1) := by decide +kernel
theorem dL_law_595 : decode cL_law 595 = .ok (.iaload, 1) := by decide +kernel
theorem dL_law_596 : decode cL_law 596 = .ok (.aload_n 0, 1) := by decide +kernel
theorem dL_law_597 : decode cL_law 597 = .ok (.iload_n 3, 1) := by decide +kernel
theorem dL_law_598 : decode cL_law 598 = .ok (.iconst 3, 1) := by decide +kernel
theorem dL_law_599 : decode cL_law 599 = .ok (.iadd, 1) := by decide +kernel
theorem dL_law_600 : decode cL_law 600 = .ok (.iaload, 1) := by decide +kernel
theorem dL_law_601 : decode cL_law 601 = .ok (.invokevirtual 92, 3) := by decide +kernel
theorem dL_law_604 : decode cL_law 604 = .ok (.if_icmp .eq 41, 3) := by decide +kernel
theorem dL_law_607 : decode cL_law 607 = .ok (.iconst 0, 1) := by decide +kernel
theorem dL_law_608 : decode cL_law 608 = .ok (.ireturn, 1) := by decide +kernel
theorem dL_law_609 : decode cL_law 609 = .ok (.aload_n 1, 1) := by decide +kernel
theorem dL_law_610 : decode cL_law 610 = .ok (.aload_n 0, 1) := by decide +kernel
theorem dL_law_611 : decode cL_law 611 = .ok (.iload_n 3, 1) := by decide +kernel
theorem dL_law_612 : decode cL_law 612 = .ok (.iconst 1, 1) := by decide +kernel
theorem dL_law_613 : decode cL_law 613 = .ok (.iadd, 1) := by decide +kernel
theorem dL_law_614 : decode cL_law 614 = .ok (.iaload, 1) := by decide +kernel
theorem dL_law_615 : decode cL_law 615 = .ok (.invokevirtual 93, 3) := by decide +kernel
theorem dL_law_618 : decode cL_law 618 = .ok (.aload_n 2, 1) := by decide +kernel
theorem dL_law_619 : decode cL_law 619 = .ok (.aload_n 0, 1) := by decide +kernel
theorem dL_law_620 : decode cL_law 620 = .ok (.iload_n 3, 1) := by decide +kernel
theorem dL_law_621 : decode cL_law 621 = .ok (.iconst 1, 1) := by decide +kernel
theorem dL_law_622 : decode cL_law 622 = .ok (.iadd, 1) := by decide +kernel
theorem dL_law_623 : decode cL_law 623 = .ok (.iaload, 1) := by decide +kernel
theorem dL_law_624 : decode cL_law 624 = .ok (.invokevirtual 96, 3) := by decide +kernel
theorem dL_law_627 : decode cL_law 627 = .ok (.if_icmp .eq 18, 3) := by decide +kernel
theorem dL_law_630 : decode cL_law 630 = .ok (.iconst 0, 1) := by decide +kernel
theorem dL_law_631 : decode cL_law 631 = .ok (.ireturn, 1) := by decide +kernel
theorem dL_law_632 : decode cL_law 632 = .ok (.aload_n 1, 1) := by decide +kernel
theorem dL_law_633 : decode cL_law 633 = .ok (.invokevirtual 97, 3) := by decide +kernel
theorem dL_law_636 : decode cL_law 636 = .ok (.aload_n 2, 1) := by decide +kernel
theorem dL_law_637 : decode cL_law 637 = .ok (.invokevirtual 100, 3) := by decide +kernel
theorem dL_law_640 : decode cL_law 640 = .ok (.if_icmp .eq 5, 3) := by decide +kernel
theorem dL_law_643 : decode cL_law 643 = .ok (.iconst 0, 1) := by decide +kernel
theorem dL_law_644 : decode cL_law 644 = .ok (.ireturn, 1) := by decide +kernel
theorem dL_law_645 : decode cL_law 645 = .ok (.iinc 3 4, 3) := by decide +kernel
theorem dL_law_648 : decode cL_law 648 = .ok (.goto (-630), 3) := by decide +kernel
theorem dL_law_651 : decode cL_law 651 = .ok (.iconst 1, 1) := by decide +kernel
theorem dL_law_652 : decode cL_law 652 = .ok (.ireturn, 1) := by decide +kernel

