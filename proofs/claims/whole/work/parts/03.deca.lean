theorem dX0_init_0 : decode cX0_init 0 = .ok (.aload_n 0, 1) := by decide +kernel
theorem dX0_init_1 : decode cX0_init 1 = .ok (.invokespecial 3, 3) := by decide +kernel
theorem dX0_init_4 : decode cX0_init 4 = .ok (.aload_n 0, 1) := by decide +kernel
theorem dX0_init_5 : decode cX0_init 5 = .ok (.bipush 72, 2) := by decide +kernel
theorem dX0_init_7 : decode cX0_init 7 = .ok (.newarray .int, 2) := by decide +kernel
theorem dX0_init_9 : decode cX0_init 9 = .ok (.putfield 9, 3) := by decide +kernel
theorem dX0_init_12 : decode cX0_init 12 = .ok (.aload_n 0, 1) := by decide +kernel
theorem dX0_init_13 : decode cX0_init 13 = .ok (.new 15, 3) := by decide +kernel
theorem dX0_init_16 : decode cX0_init 16 = .ok (.dup, 1) := by decide +kernel
theorem dX0_init_17 : decode cX0_init 17 = .ok (.aload_n 1, 1) := by decide +kernel
theorem dX0_init_18 : decode cX0_init 18 = .ok (.invokespecial 17, 3) := by decide +kernel
theorem dX0_init_21 : decode cX0_init 21 = .ok (.putfield 20, 3) := by decide +kernel
theorem dX0_init_24 : decode cX0_init 24 = .ok (.return_, 1) := by decide +kernel
theorem dX0_workOut_0 : decode cX0_workOut 0 = .ok (.aload_n 0, 1) := by decide +kernel
theorem dX0_workOut_1 : decode cX0_workOut 1 = .ok (.aload_n 1, 1) := by decide +kernel
theorem dX0_workOut_2 : decode cX0_workOut 2 = .ok (.invokevirtual 24, 3) := by decide +kernel
theorem dX0_workOut_5 : decode cX0_workOut 5 = .ok (.iconst 0, 1) := by decide +kernel
theorem dX0_workOut_6 : decode cX0_workOut 6 = .ok (.istore_n 2, 1) := by decide +kernel
theorem dX0_workOut_7 : decode cX0_workOut 7 = .ok (.iload_n 2, 1) := by decide +kernel
theorem dX0_workOut_8 : decode cX0_workOut 8 = .ok (.bipush 72, 2) := by decide +kernel
theorem dX0_workOut_10 : decode cX0_workOut 10 = .ok (.if_icmp .ge 145, 3) := by decide +kernel
theorem dX0_workOut_13 : decode cX0_workOut 13 = .ok (.aload_n 0, 1) := by decide +kernel
theorem dX0_workOut_14 : decode cX0_workOut 14 = .ok (.getfield 20, 3) := by decide +kernel
theorem dX0_workOut_17 : decode cX0_workOut 17 = .ok (.getfield 27, 3) := by decide +kernel
theorem dX0_workOut_20 : decode cX0_workOut 20 = .ok (.iload_n 2, 1) := by decide +kernel
theorem dX0_workOut_21 : decode cX0_workOut 21 = .ok (.iaload, 1) := by decide +kernel
theorem dX0_workOut_22 : decode cX0_workOut 22 = .ok (.iconst 1, 1) := by decide +kernel
theorem dX0_workOut_23 : decode cX0_workOut 23 = .ok (.if_icmp .ne 12, 3) := by decide +kernel
theorem dX0_workOut_26 : decode cX0_workOut 26 = .ok (.aload_n 0, 1) := by decide +kernel
theorem dX0_workOut_27 : decode cX0_workOut 27 = .ok (.iconst 0, 1) := by decide +kernel
theorem dX0_workOut_28 : decode cX0_workOut 28 = .ok (.iload_n 2, 1) := by decide +kernel
theorem dX0_workOut_29 : decode cX0_workOut 29 = .ok (.invokevirtual 30, 3) := by decide +kernel
theorem dX0_workOut_32 : decode cX0_workOut 32 = .ok (.goto 4, 3) := by decide +kernel
theorem dX0_workOut_35 : decode cX0_workOut 35 = .ok (.iconst 0, 1) := by decide +kernel
theorem dX0_workOut_36 : decode cX0_workOut 36 = .ok (.istore_n 3, 1) := by decide +kernel
theorem dX0_workOut_37 : decode cX0_workOut 37 = .ok (.iconst 0, 1) := by decide +kernel
theorem dX0_workOut_38 : decode cX0_workOut 38 = .ok (.istore 4, 2) := by decide +kernel
theorem dX0_workOut_40 : decode cX0_workOut 40 = .ok (.iload 4, 2) := by decide +kernel
theorem dX0_workOut_42 : decode cX0_workOut 42 = .ok (.sipush 1000, 3) := by decide +kernel
theorem dX0_workOut_45 : decode cX0_workOut 45 = .ok (.if_icmp .ge 104, 3) := by decide +kernel
theorem dX0_workOut_48 : decode cX0_workOut 48 = .ok (.iload_n 3, 1) := by decide +kernel
theorem dX0_workOut_49 : decode cX0_workOut 49 = .ok (.ifCond .le 100, 3) := by decide +kernel
theorem dX0_workOut_52 : decode cX0_workOut 52 = .ok (.aload_n 0, 1) := by decide +kernel
theorem dX0_workOut_53 : decode cX0_workOut 53 = .ok (.getfield 9, 3) := by decide +kernel
theorem dX0_workOut_56 : decode cX0_workOut 56 = .ok (.iload_n 3, 1) := by decide +kernel
theorem dX0_workOut_57 : decode cX0_workOut 57 = .ok (.iconst 1, 1) := by decide +kernel
theorem dX0_workOut_58 : decode cX0_workOut 58 = .ok (.isub, 1) := by decide +kernel
theorem dX0_workOut_59 : decode cX0_workOut 59 = .ok (.iaload, 1) := by decide +kernel
theorem dX0_workOut_60 : decode cX0_workOut 60 = .ok (.istore 5, 2) := by decide +kernel
theorem dX0_workOut_62 : decode cX0_workOut 62 = .ok (.aload_n 0, 1) := by decide +kernel
theorem dX0_workOut_63 : decode cX0_workOut 63 = .ok (.getfield 20, 3) := by decide +kernel
theorem dX0_workOut_66 : decode cX0_workOut 66 = .ok (.aload_n 1, 1) := by decide +kernel
theorem dX0_workOut_67 : decode cX0_workOut 67 = .ok (.iload 5, 2) := by decide +kernel
theorem dX0_workOut_69 : decode cX0_workOut 69 = .ok (.invokevirtual 34, 3) := by decide +kernel
theorem dX0_workOut_72 : decode cX0_workOut 72 = .ok (.istore 6, 2) := by decide +kernel
theorem dX0_workOut_74 : decode cX0_workOut 74 = .ok (.aload_n 0, 1) := by decide +kernel
theorem dX0_workOut_75 : decode cX0_workOut 75 = .ok (.getfield 20, 3) := by decide +kernel
theorem dX0_workOut_78 : decode cX0_workOut 78 = .ok (.getfield 38, 3) := by decide +kernel
theorem dX0_workOut_81 : decode cX0_workOut 81 = .ok (.iconst (-1), 1) := by decide +kernel
theorem dX0_workOut_82 : decode cX0_workOut 82 = .ok (.if_icmp .ne 18, 3) := by decide +kernel
theorem dX0_workOut_85 : decode cX0_workOut 85 = .ok (.aload_n 0, 1) := by decide +kernel
theorem dX0_workOut_86 : decode cX0_workOut 86 = .ok (.aload_n 1, 1) := by decide +kernel
theorem dX0_workOut_87 : decode cX0_workOut 87 = .ok (.iload 5, 2) := by decide +kernel
theorem dX0_workOut_89 : decode cX0_workOut 89 = .ok (.iload 6, 2) := by decide +kernel
theorem dX0_workOut_91 : decode cX0_workOut 91 = .ok (.invokevirtual 42, 3) := by decide +kernel
theorem dX0_workOut_94 : decode cX0_workOut 94 = .ok (.iinc 3 (-1), 3) := by decide +kernel
theorem dX0_workOut_97 : decode cX0_workOut 97 = .ok (.goto 46, 3) := by decide +kernel
theorem dX0_workOut_100 : decode cX0_workOut 100 = .ok (.aload_n 0, 1) := by decide +kernel
theorem dX0_workOut_101 : decode cX0_workOut 101 = .ok (.getfield 20, 3) := by decide +kernel
theorem dX0_workOut_104 : decode cX0_workOut 104 = .ok (.getfield 27, 3) := by decide +kernel
theorem dX0_workOut_107 : decode cX0_workOut 107 = .ok (.aload_n 0, 1) := by decide +kernel
theorem dX0_workOut_108 : decode cX0_workOut 108 = .ok (.getfield 20, 3) := by decide +kernel
theorem dX0_workOut_111 : decode cX0_workOut 111 = .ok (.getfield 38, 3) := by decide +kernel
theorem dX0_workOut_114 : decode cX0_workOut 114 = .ok (.iaload, 1) := by decide +kernel
theorem dX0_workOut_115 : decode cX0_workOut 115 = .ok (.iconst 1, 1) := by decide +kernel
theorem dX0_workOut_116 : decode cX0_workOut 116 = .ok (.if_icmp .ne 19, 3) := by decide +kernel
theorem dX0_workOut_119 : decode cX0_workOut 119 = .ok (.aload_n 0, 1) := by decide +kernel
theorem dX0_workOut_120 : decode cX0_workOut 120 = .ok (.iload_n 3, 1) := by decide +kernel
theorem dX0_workOut_121 : decode cX0_workOut 121 = .ok (.aload_n 0, 1) := by decide +kernel
theorem dX0_workOut_122 : decode cX0_workOut 122 = .ok (.getfield 20, 3) := by decide +kernel
theorem dX0_workOut_125 : decode cX0_workOut 125 = .ok (.getfield 38, 3) := by decide +kernel
theorem dX0_workOut_128 : decode cX0_workOut 128 = .ok (.invokevirtual 30, 3) := by decide +kernel
theorem dX0_workOut_131 : decode cX0_workOut 131 = .ok (.istore_n 3, 1) := by decide +kernel
theorem dX0_workOut_132 : decode cX0_workOut 132 = .ok (.goto 11, 3) := by decide +kernel
theorem dX0_workOut_135 : decode cX0_workOut 135 = .ok (.aload_n 0, 1) := by decide +kernel
theorem dX0_workOut_136 : decode cX0_workOut 136 = .ok (.aload_n 1, 1) := by decide +kernel
theorem dX0_workOut_137 : decode cX0_workOut 137 = .ok (.iload_n 3, 1) := by decide +kernel
theorem dX0_workOut_138 : decode cX0_workOut 138 = .ok (.invokevirtual 46, 3) := by decide +kernel
theorem dX0_workOut_141 : decode cX0_workOut 141 = .ok (.iconst 0, 1) := by decide +kernel
theorem dX0_workOut_142 : decode cX0_workOut 142 = .ok (.istore_n 3, 1) := by decide +kernel
theorem dX0_workOut_143 : decode cX0_workOut 143 = .ok (.iinc 4 1, 3) := by decide +kernel
theorem dX0_workOut_146 : decode cX0_workOut 146 = .ok (.goto (-106), 3) := by decide +kernel
theorem dX0_workOut_149 : decode cX0_workOut 149 = .ok (.iinc 2 1, 3) := by decide +kernel
theorem dX0_workOut_152 : decode cX0_workOut 152 = .ok (.goto (-145), 3) := by decide +kernel
theorem dX0_workOut_155 : decode cX0_workOut 155 = .ok (.return_, 1) := by decide +kernel
theorem dX0_goOver_0 : decode cX0_goOver 0 = .ok (.iconst 0, 1) := by decide +kernel
theorem dX0_goOver_1 : decode cX0_goOver 1 = .ok (.istore_n 2, 1) := by decide +kernel
theorem dX0_goOver_2 : decode cX0_goOver 2 = .ok (.iconst 0, 1) := by decide +kernel
theorem dX0_goOver_3 : decode cX0_goOver 3 = .ok (.istore_n 3, 1) := by decide +kernel
theorem dX0_goOver_4 : decode cX0_goOver 4 = .ok (.iload_n 3, 1) := by decide +kernel
theorem dX0_goOver_5 : decode cX0_goOver 5 = .ok (.bipush 72, 2) := by decide +kernel
theorem dX0_goOver_7 : decode cX0_goOver 7 = .ok (.if_icmp .ge 49, 3) := by decide +kernel
theorem dX0_goOver_10 : decode cX0_goOver 10 = .ok (.aload_n 1, 1) := by decide +kernel
theorem dX0_goOver_11 : decode cX0_goOver 11 = .ok (.getfield 50, 3) := by decide +kernel
theorem dX0_goOver_14 : decode cX0_goOver 14 = .ok (.iload_n 3, 1) := by decide +kernel
theorem dX0_goOver_15 : decode cX0_goOver 15 = .ok (.iaload, 1) := by decide +kernel
theorem dX0_goOver_16 : decode cX0_goOver 16 = .ok (.iconst 1, 1) := by decide +kernel
theorem dX0_goOver_17 : decode cX0_goOver 17 = .ok (.if_icmp .ne 33, 3) := by decide +kernel
theorem dX0_goOver_20 : decode cX0_goOver 20 = .ok (.iconst 1, 1) := by decide +kernel
theorem dX0_goOver_21 : decode cX0_goOver 21 = .ok (.istore_n 2, 1) := by decide +kernel
theorem dX0_goOver_22 : decode cX0_goOver 22 = .ok (.aload_n 1, 1) := by decide +kernel
theorem dX0_goOver_23 : decode cX0_goOver 23 = .ok (.getfield 55, 3) := by decide +kernel
theorem dX0_goOver_26 : decode cX0_goOver 26 = .ok (.iload_n 3, 1) := by decide +kernel
theorem dX0_goOver_27 : decode cX0_goOver 27 = .ok (.aload_n 1, 1) := by decide +kernel
theorem dX0_goOver_28 : decode cX0_goOver 28 = .ok (.getfield 58, 3) := by decide +kernel
theorem dX0_goOver_31 : decode cX0_goOver 31 = .ok (.ifCond .ne 7, 3) := by decide +kernel
theorem dX0_goOver_34 : decode cX0_goOver 34 = .ok (.iconst 4, 1) := by decide +kernel
theorem dX0_goOver_35 : decode cX0_goOver 35 = .ok (.goto 4, 3) := by decide +kernel
theorem dX0_goOver_38 : decode cX0_goOver 38 = .ok (.iconst 0, 1) := by decide +kernel
theorem dX0_goOver_39 : decode cX0_goOver 39 = .ok (.iastore, 1) := by decide +kernel
theorem dX0_goOver_40 : decode cX0_goOver 40 = .ok (.aload_n 0, 1) := by decide +kernel
theorem dX0_goOver_41 : decode cX0_goOver 41 = .ok (.getfield 20, 3) := by decide +kernel
theorem dX0_goOver_44 : decode cX0_goOver 44 = .ok (.getfield 27, 3) := by decide +kernel
theorem dX0_goOver_47 : decode cX0_goOver 47 = .ok (.iload_n 3, 1) := by decide +kernel
theorem dX0_goOver_48 : decode cX0_goOver 48 = .ok (.iconst 0, 1) := by decide +kernel
theorem dX0_goOver_49 : decode cX0_goOver 49 = .ok (.iastore, 1) := by decide +kernel
theorem dX0_goOver_50 : decode cX0_goOver 50 = .ok (.iinc 3 1, 3) := by decide +kernel
theorem dX0_goOver_53 : decode cX0_goOver 53 = .ok (.goto (-49), 3) := by decide +kernel
theorem dX0_goOver_56 : decode cX0_goOver 56 = .ok (.aload_n 1, 1) := by decide +kernel
theorem dX0_goOver_57 : decode cX0_goOver 57 = .ok (.iconst 0, 1) := by decide +kernel
theorem dX0_goOver_58 : decode cX0_goOver 58 = .ok (.putfield 61, 3) := by decide +kernel
theorem dX0_goOver_61 : decode cX0_goOver 61 = .ok (.aload_n 1, 1) := by decide +kernel
theorem dX0_goOver_62 : decode cX0_goOver 62 = .ok (.iload_n 2, 1) := by decide +kernel
theorem dX0_goOver_63 : decode cX0_goOver 63 = .ok (.ifCond .ne 7, 3) := by decide +kernel
theorem dX0_goOver_66 : decode cX0_goOver 66 = .ok (.iconst 1, 1) := by decide +kernel
theorem dX0_goOver_67 : decode cX0_goOver 67 = .ok (.goto 4, 3) := by decide +kernel
theorem dX0_goOver_70 : decode cX0_goOver 70 = .ok (.iconst 0, 1) := by decide +kernel
theorem dX0_goOver_71 : decode cX0_goOver 71 = .ok (.putfield 64, 3) := by decide +kernel
theorem dX0_goOver_74 : decode cX0_goOver 74 = .ok (.iconst 0, 1) := by decide +kernel
theorem dX0_goOver_75 : decode cX0_goOver 75 = .ok (.istore_n 3, 1) := by decide +kernel
theorem dX0_goOver_76 : decode cX0_goOver 76 = .ok (.iload_n 3, 1) := by decide +kernel
theorem dX0_goOver_77 : decode cX0_goOver 77 = .ok (.aload_n 1, 1) := by decide +kernel
theorem dX0_goOver_78 : decode cX0_goOver 78 = .ok (.getfield 58, 3) := by decide +kernel
theorem dX0_goOver_81 : decode cX0_goOver 81 = .ok (.if_icmp .ge 121, 3) := by decide +kernel
theorem dX0_goOver_84 : decode cX0_goOver 84 = .ok (.aload_n 1, 1) := by decide +kernel
theorem dX0_goOver_85 : decode cX0_goOver 85 = .ok (.getfield 64, 3) := by decide +kernel
theorem dX0_goOver_88 : decode cX0_goOver 88 = .ok (.ifCond .ne 114, 3) := by decide +kernel
theorem dX0_goOver_91 : decode cX0_goOver 91 = .ok (.iconst 1, 1) := by decide +kernel
theorem dX0_goOver_92 : decode cX0_goOver 92 = .ok (.istore 4, 2) := by decide +kernel
theorem dX0_goOver_94 : decode cX0_goOver 94 = .ok (.iconst 0, 1) := by decide +kernel
theorem dX0_goOver_95 : decode cX0_goOver 95 = .ok (.istore 5, 2) := by decide +kernel
theorem dX0_goOver_97 : decode cX0_goOver 97 = .ok (.iload 5, 2) := by decide +kernel
theorem dX0_goOver_99 : decode cX0_goOver 99 = .ok (.bipush 72, 2) := by decide +kernel
theorem dX0_goOver_101 : decode cX0_goOver 101 = .ok (.if_icmp .ge 79, 3) := by decide +kernel
theorem dX0_goOver_104 : decode cX0_goOver 104 = .ok (.aload_n 1, 1) := by decide +kernel
theorem dX0_goOver_105 : decode cX0_goOver 105 = .ok (.getfield 50, 3) := by decide +kernel
theorem dX0_goOver_108 : decode cX0_goOver 108 = .ok (.iload 5, 2) := by decide +kernel
theorem dX0_goOver_110 : decode cX0_goOver 110 = .ok (.iaload, 1) := by decide +kernel
theorem dX0_goOver_111 : decode cX0_goOver 111 = .ok (.iconst 1, 1) := by decide +kernel
theorem dX0_goOver_112 : decode cX0_goOver 112 = .ok (.if_icmp .ne 62, 3) := by decide +kernel
theorem dX0_goOver_115 : decode cX0_goOver 115 = .ok (.aload_n 0, 1) := by decide +kernel
theorem dX0_goOver_116 : decode cX0_goOver 116 = .ok (.getfield 20, 3) := by decide +kernel
theorem dX0_goOver_119 : decode cX0_goOver 119 = .ok (.aload_n 1, 1) := by decide +kernel
theorem dX0_goOver_120 : decode cX0_goOver 120 = .ok (.iload 5, 2) := by decide +kernel
theorem dX0_goOver_122 : decode cX0_goOver 122 = .ok (.invokevirtual 34, 3) := by decide +kernel
theorem dX0_goOver_125 : decode cX0_goOver 125 = .ok (.istore 6, 2) := by decide +kernel
theorem dX0_goOver_127 : decode cX0_goOver 127 = .ok (.iload 4, 2) := by decide +kernel
theorem dX0_goOver_129 : decode cX0_goOver 129 = .ok (.ifCond .eq 19, 3) := by decide +kernel
theorem dX0_goOver_132 : decode cX0_goOver 132 = .ok (.aload_n 0, 1) := by decide +kernel
theorem dX0_goOver_133 : decode cX0_goOver 133 = .ok (.aload_n 1, 1) := by decide +kernel
theorem dX0_goOver_134 : decode cX0_goOver 134 = .ok (.iload 5, 2) := by decide +kernel
theorem dX0_goOver_136 : decode cX0_goOver 136 = .ok (.iload 6, 2) := by decide +kernel
theorem dX0_goOver_138 : decode cX0_goOver 138 = .ok (.invokevirtual 68, 3) := by decide +kernel
theorem dX0_goOver_141 : decode cX0_goOver 141 = .ok (.ifCond .eq 7, 3) := by decide +kernel
theorem dX0_goOver_144 : decode cX0_goOver 144 = .ok (.iconst 1, 1) := by decide +kernel
theorem dX0_goOver_145 : decode cX0_goOver 145 = .ok (.goto 4, 3) := by decide +kernel
theorem dX0_goOver_148 : decode cX0_goOver 148 = .ok (.iconst 0, 1) := by decide +kernel
theorem dX0_goOver_149 : decode cX0_goOver 149 = .ok (.istore 4, 2) := by decide +kernel
theorem dX0_goOver_151 : decode cX0_goOver 151 = .ok (.aload_n 1, 1) := by decide +kernel
theorem dX0_goOver_152 : decode cX0_goOver 152 = .ok (.getfield 72, 3) := by decide +kernel
theorem dX0_goOver_155 : decode cX0_goOver 155 = .ok (.iload 5, 2) := by decide +kernel
theorem dX0_goOver_157 : decode cX0_goOver 157 = .ok (.iload 6, 2) := by decide +kernel
theorem dX0_goOver_159 : decode cX0_goOver 159 = .ok (.iastore, 1) := by decide +kernel
theorem dX0_goOver_160 : decode cX0_goOver 160 = .ok (.aload_n 1, 1) := by decide +kernel
theorem dX0_goOver_161 : decode cX0_goOver 161 = .ok (.getfield 55, 3) := by decide +kernel
theorem dX0_goOver_164 : decode cX0_goOver 164 = .ok (.iload 5, 2) := by decide +kernel
theorem dX0_goOver_166 : decode cX0_goOver 166 = .ok (.aload_n 0, 1) := by decide +kernel
theorem dX0_goOver_167 : decode cX0_goOver 167 = .ok (.getfield 20, 3) := by decide +kernel
theorem dX0_goOver_170 : decode cX0_goOver 170 = .ok (.getfield 75, 3) := by decide +kernel
theorem dX0_goOver_173 : decode cX0_goOver 173 = .ok (.iastore, 1) := by decide +kernel
theorem dX0_goOver_174 : decode cX0_goOver 174 = .ok (.iinc 5 1, 3) := by decide +kernel
theorem dX0_goOver_177 : decode cX0_goOver 177 = .ok (.goto (-80), 3) := by decide +kernel
theorem dX0_goOver_180 : decode cX0_goOver 180 = .ok (.aload_n 1, 1) := by decide +kernel
theorem dX0_goOver_181 : decode cX0_goOver 181 = .ok (.iload 4, 2) := by decide +kernel
theorem dX0_goOver_183 : decode cX0_goOver 183 = .ok (.putfield 64, 3) := by decide +kernel
theorem dX0_goOver_186 : decode cX0_goOver 186 = .ok (.aload_n 1, 1) := by decide +kernel
theorem dX0_goOver_187 : decode cX0_goOver 187 = .ok (.dup, 1) := by decide +kernel
theorem dX0_goOver_188 : decode cX0_goOver 188 = .ok (.getfield 61, 3) := by decide +kernel
theorem dX0_goOver_191 : decode cX0_goOver 191 = .ok (.iconst 1, 1) := by decide +kernel
theorem dX0_goOver_192 : decode cX0_goOver 192 = .ok (.iadd, 1) := by decide +kernel
theorem dX0_goOver_193 : decode cX0_goOver 193 = .ok (.putfield 61, 3) := by decide +kernel
theorem dX0_goOver_196 : decode cX0_goOver 196 = .ok (.iinc 3 1, 3) := by decide +kernel
theorem dX0_goOver_199 : decode cX0_goOver 199 = .ok (.goto (-123), 3) := by decide +kernel
theorem dX0_goOver_202 : decode cX0_goOver 202 = .ok (.return_, 1) := by decide +kernel
theorem dX0_isStill_0 : decode cX0_isStill 0 = .ok (.aload_n 1, 1) := by decide +kernel
theorem dX0_isStill_1 : decode cX0_isStill 1 = .ok (.getfield 72, 3) := by decide +kernel
theorem dX0_isStill_4 : decode cX0_isStill 4 = .ok (.iload_n 2, 1) := by decide +kernel
theorem dX0_isStill_5 : decode cX0_isStill 5 = .ok (.iaload, 1) := by decide +kernel
theorem dX0_isStill_6 : decode cX0_isStill 6 = .ok (.iload_n 3, 1) := by decide +kernel
theorem dX0_isStill_7 : decode cX0_isStill 7 = .ok (.if_icmp .ne 23, 3) := by decide +kernel
theorem dX0_isStill_10 : decode cX0_isStill 10 = .ok (.aload_n 1, 1) := by decide +kernel
theorem dX0_isStill_11 : decode cX0_isStill 11 = .ok (.getfield 55, 3) := by decide +kernel
theorem dX0_isStill_14 : decode cX0_isStill 14 = .ok (.iload_n 2, 1) := by decide +kernel
theorem dX0_isStill_15 : decode cX0_isStill 15 = .ok (.iaload, 1) := by decide +kernel
theorem dX0_isStill_16 : decode cX0_isStill 16 = .ok (.aload_n 0, 1) := by decide +kernel
theorem dX0_isStill_17 : decode cX0_isStill 17 = .ok (.getfield 20, 3) := by decide +kernel
theorem dX0_isStill_20 : decode cX0_isStill 20 = .ok (.getfield 75, 3) := by decide +kernel
theorem dX0_isStill_23 : decode cX0_isStill 23 = .ok (.if_icmp .ne 7, 3) := by decide +kernel
theorem dX0_isStill_26 : decode cX0_isStill 26 = .ok (.iconst 1, 1) := by decide +kernel
theorem dX0_isStill_27 : decode cX0_isStill 27 = .ok (.goto 4, 3) := by decide +kernel
theorem dX0_isStill_30 : decode cX0_isStill 30 = .ok (.iconst 0, 1) := by decide +kernel
theorem dX0_isStill_31 : decode cX0_isStill 31 = .ok (.ireturn, 1) := by decide +kernel
theorem dX0_forget_0 : decode cX0_forget 0 = .ok (.iconst 0, 1) := by decide +kernel
theorem dX0_forget_1 : decode cX0_forget 1 = .ok (.istore_n 2, 1) := by decide +kernel
theorem dX0_forget_2 : decode cX0_forget 2 = .ok (.iload_n 2, 1) := by decide +kernel
theorem dX0_forget_3 : decode cX0_forget 3 = .ok (.bipush 72, 2) := by decide +kernel
theorem dX0_forget_5 : decode cX0_forget 5 = .ok (.if_icmp .ge 66, 3) := by decide +kernel
theorem dX0_forget_8 : decode cX0_forget 8 = .ok (.aload_n 1, 1) := by decide +kernel
theorem dX0_forget_9 : decode cX0_forget 9 = .ok (.getfield 72, 3) := by decide +kernel
theorem dX0_forget_12 : decode cX0_forget 12 = .ok (.iload_n 2, 1) := by decide +kernel
theorem dX0_forget_13 : decode cX0_forget 13 = .ok (.iconst 0, 1) := by decide +kernel
theorem dX0_forget_14 : decode cX0_forget 14 = .ok (.iastore, 1) := by decide +kernel
theorem dX0_forget_15 : decode cX0_forget 15 = .ok (.aload_n 1, 1) := by decide +kernel
theorem dX0_forget_16 : decode cX0_forget 16 = .ok (.getfield 55, 3) := by decide +kernel
theorem dX0_forget_19 : decode cX0_forget 19 = .ok (.iload_n 2, 1) := by decide +kernel
theorem dX0_forget_20 : decode cX0_forget 20 = .ok (.iconst 0, 1) := by decide +kernel
theorem dX0_forget_21 : decode cX0_forget 21 = .ok (.iastore, 1) := by decide +kernel
theorem dX0_forget_22 : decode cX0_forget 22 = .ok (.aload_n 1, 1) := by decide +kernel
theorem dX0_forget_23 : decode cX0_forget 23 = .ok (.getfield 78, 3) := by decide +kernel
theorem dX0_forget_26 : decode cX0_forget 26 = .ok (.iload_n 2, 1) := by decide +kernel
theorem dX0_forget_27 : decode cX0_forget 27 = .ok (.iconst 0, 1) := by decide +kernel
theorem dX0_forget_28 : decode cX0_forget 28 = .ok (.iastore, 1) := by decide +kernel
theorem dX0_forget_29 : decode cX0_forget 29 = .ok (.aload_n 1, 1) := by decide +kernel
theorem dX0_forget_30 : decode cX0_forget 30 = .ok (.getfield 50, 3) := by decide +kernel
theorem dX0_forget_33 : decode cX0_forget 33 = .ok (.iload_n 2, 1) := by decide +kernel
theorem dX0_forget_34 : decode cX0_forget 34 = .ok (.iconst 0, 1) := by decide +kernel
theorem dX0_forget_35 : decode cX0_forget 35 = .ok (.iastore, 1) := by decide +kernel
theorem dX0_forget_36 : decode cX0_forget 36 = .ok (.aload_n 1, 1) := by decide +kernel
theorem dX0_forget_37 : decode cX0_forget 37 = .ok (.getfield 81, 3) := by decide +kernel
theorem dX0_forget_40 : decode cX0_forget 40 = .ok (.iload_n 2, 1) := by decide +kernel
theorem dX0_forget_41 : decode cX0_forget 41 = .ok (.iconst 0, 1) := by decide +kernel
theorem dX0_forget_42 : decode cX0_forget 42 = .ok (.iastore, 1) := by decide +kernel
theorem dX0_forget_43 : decode cX0_forget 43 = .ok (.aload_n 0, 1) := by decide +kernel
theorem dX0_forget_44 : decode cX0_forget 44 = .ok (.getfield 20, 3) := by decide +kernel
theorem dX0_forget_47 : decode cX0_forget 47 = .ok (.getfield 27, 3) := by decide +kernel
theorem dX0_forget_50 : decode cX0_forget 50 = .ok (.iload_n 2, 1) := by decide +kernel
theorem dX0_forget_51 : decode cX0_forget 51 = .ok (.aload_n 1, 1) := by decide +kernel
theorem dX0_forget_52 : decode cX0_forget 52 = .ok (.iload_n 2, 1) := by decide +kernel
theorem dX0_forget_53 : decode cX0_forget 53 = .ok (.invokevirtual 84, 3) := by decide +kernel
theorem dX0_forget_56 : decode cX0_forget 56 = .ok (.ifCond .eq 7, 3) := by decide +kernel
theorem dX0_forget_59 : decode cX0_forget 59 = .ok (.iconst 0, 1) := by decide +kernel
theorem dX0_forget_60 : decode cX0_forget 60 = .ok (.goto 4, 3) := by decide +kernel
theorem dX0_forget_63 : decode cX0_forget 63 = .ok (.iconst 1, 1) := by decide +kernel
theorem dX0_forget_64 : decode cX0_forget 64 = .ok (.iastore, 1) := by decide +kernel
theorem dX0_forget_65 : decode cX0_forget 65 = .ok (.iinc 2 1, 3) := by decide +kernel
theorem dX0_forget_68 : decode cX0_forget 68 = .ok (.goto (-66), 3) := by decide +kernel
theorem dX0_forget_71 : decode cX0_forget 71 = .ok (.return_, 1) := by decide +kernel
theorem dX0_opened_0 : decode cX0_opened 0 = .ok (.iload_n 1, 1) := by decide +kernel
theorem dX0_opened_1 : decode cX0_opened 1 = .ok (.bipush 72, 2) := by decide +kernel
theorem dX0_opened_3 : decode cX0_opened 3 = .ok (.if_icmp .lt 5, 3) := by decide +kernel
theorem dX0_opened_6 : decode cX0_opened 6 = .ok (.iload_n 1, 1) := by decide +kernel
theorem dX0_opened_7 : decode cX0_opened 7 = .ok (.ireturn, 1) := by decide +kernel
theorem dX0_opened_8 : decode cX0_opened 8 = .ok (.aload_n 0, 1) := by decide +kernel
theorem dX0_opened_9 : decode cX0_opened 9 = .ok (.getfield 20, 3) := by decide +kernel
theorem dX0_opened_12 : decode cX0_opened 12 = .ok (.getfield 27, 3) := by decide +kernel
theorem dX0_opened_15 : decode cX0_opened 15 = .ok (.iload_n 2, 1) := by decide +kernel
theorem dX0_opened_16 : decode cX0_opened 16 = .ok (.iconst 2, 1) := by decide +kernel
theorem dX0_opened_17 : decode cX0_opened 17 = .ok (.iastore, 1) := by decide +kernel
theorem dX0_opened_18 : decode cX0_opened 18 = .ok (.aload_n 0, 1) := by decide +kernel
theorem dX0_opened_19 : decode cX0_opened 19 = .ok (.getfield 9, 3) := by decide +kernel
theorem dX0_opened_22 : decode cX0_opened 22 = .ok (.iload_n 1, 1) := by decide +kernel
theorem dX0_opened_23 : decode cX0_opened 23 = .ok (.iload_n 2, 1) := by decide +kernel
theorem dX0_opened_24 : decode cX0_opened 24 = .ok (.iastore, 1) := by decide +kernel
theorem dX0_opened_25 : decode cX0_opened 25 = .ok (.iload_n 1, 1) := by decide +kernel
theorem dX0_opened_26 : decode cX0_opened 26 = .ok (.iconst 1, 1) := by decide +kernel
theorem dX0_opened_27 : decode cX0_opened 27 = .ok (.iadd, 1) := by decide +kernel
theorem dX0_opened_28 : decode cX0_opened 28 = .ok (.ireturn, 1) := by decide +kernel
theorem dX0_learn_0 : decode cX0_learn 0 = .ok (.aload_n 1, 1) := by decide +kernel
theorem dX0_learn_1 : decode cX0_learn 1 = .ok (.getfield 72, 3) := by decide +kernel
theorem dX0_learn_4 : decode cX0_learn 4 = .ok (.iload_n 2, 1) := by decide +kernel
theorem dX0_learn_5 : decode cX0_learn 5 = .ok (.iload_n 3, 1) := by decide +kernel
theorem dX0_learn_6 : decode cX0_learn 6 = .ok (.iastore, 1) := by decide +kernel
theorem dX0_learn_7 : decode cX0_learn 7 = .ok (.aload_n 1, 1) := by decide +kernel
theorem dX0_learn_8 : decode cX0_learn 8 = .ok (.getfield 55, 3) := by decide +kernel
theorem dX0_learn_11 : decode cX0_learn 11 = .ok (.iload_n 2, 1) := by decide +kernel
theorem dX0_learn_12 : decode cX0_learn 12 = .ok (.aload_n 0, 1) := by decide +kernel
theorem dX0_learn_13 : decode cX0_learn 13 = .ok (.getfield 20, 3) := by decide +kernel
theorem dX0_learn_16 : decode cX0_learn 16 = .ok (.getfield 75, 3) := by decide +kernel
theorem dX0_learn_19 : decode cX0_learn 19 = .ok (.iastore, 1) := by decide +kernel
theorem dX0_learn_20 : decode cX0_learn 20 = .ok (.iconst 0, 1) := by decide +kernel
theorem dX0_learn_21 : decode cX0_learn 21 = .ok (.istore 4, 2) := by decide +kernel
theorem dX0_learn_23 : decode cX0_learn 23 = .ok (.iconst 0, 1) := by decide +kernel
theorem dX0_learn_24 : decode cX0_learn 24 = .ok (.istore 5, 2) := by decide +kernel
theorem dX0_learn_26 : decode cX0_learn 26 = .ok (.iload 5, 2) := by decide +kernel
theorem dX0_learn_28 : decode cX0_learn 28 = .ok (.aload_n 1, 1) := by decide +kernel
theorem dX0_learn_29 : decode cX0_learn 29 = .ok (.getfield 81, 3) := by decide +kernel
theorem dX0_learn_32 : decode cX0_learn 32 = .ok (.iload_n 2, 1) := by decide +kernel
theorem dX0_learn_33 : decode cX0_learn 33 = .ok (.iaload, 1) := by decide +kernel
theorem dX0_learn_34 : decode cX0_learn 34 = .ok (.if_icmp .ge 30, 3) := by decide +kernel
theorem dX0_learn_37 : decode cX0_learn 37 = .ok (.iload 4, 2) := by decide +kernel
theorem dX0_learn_39 : decode cX0_learn 39 = .ok (.aload_n 1, 1) := by decide +kernel
theorem dX0_learn_40 : decode cX0_learn 40 = .ok (.getfield 78, 3) := by decide +kernel
theorem dX0_learn_43 : decode cX0_learn 43 = .ok (.aload_n 1, 1) := by decide +kernel
theorem dX0_learn_44 : decode cX0_learn 44 = .ok (.iload_n 2, 1) := by decide +kernel
theorem dX0_learn_45 : decode cX0_learn 45 = .ok (.iload 5, 2) := by decide +kernel
theorem dX0_learn_47 : decode cX0_learn 47 = .ok (.invokevirtual 88, 3) := by decide +kernel
theorem dX0_learn_50 : decode cX0_learn 50 = .ok (.iaload, 1) := by decide +kernel
theorem dX0_learn_51 : decode cX0_learn 51 = .ok (.iconst 1, 1) := by decide +kernel
theorem dX0_learn_52 : decode cX0_learn 52 = .ok (.iadd, 1) := by decide +kernel
theorem dX0_learn_53 : decode cX0_learn 53 = .ok (.invokestatic 91, 3) := by decide +kernel
theorem dX0_learn_56 : decode cX0_learn 56 = .ok (.istore 4, 2) := by decide +kernel
theorem dX0_learn_58 : decode cX0_learn 58 = .ok (.iinc 5 1, 3) := by decide +kernel
theorem dX0_learn_61 : decode cX0_learn 61 = .ok (.goto (-35), 3) := by decide +kernel
theorem dX0_learn_64 : decode cX0_learn 64 = .ok (.aload_n 1, 1) := by decide +kernel
theorem dX0_learn_65 : decode cX0_learn 65 = .ok (.getfield 78, 3) := by decide +kernel
theorem dX0_learn_68 : decode cX0_learn 68 = .ok (.iload_n 2, 1) := by decide +kernel
theorem dX0_learn_69 : decode cX0_learn 69 = .ok (.iload 4, 2) := by decide +kernel
theorem dX0_learn_71 : decode cX0_learn 71 = .ok (.iastore, 1) := by decide +kernel
theorem dX0_learn_72 : decode cX0_learn 72 = .ok (.aload_n 0, 1) := by decide +kernel
theorem dX0_learn_73 : decode cX0_learn 73 = .ok (.getfield 20, 3) := by decide +kernel
theorem dX0_learn_76 : decode cX0_learn 76 = .ok (.getfield 27, 3) := by decide +kernel
theorem dX0_learn_79 : decode cX0_learn 79 = .ok (.iload_n 2, 1) := by decide +kernel
theorem dX0_learn_80 : decode cX0_learn 80 = .ok (.iconst 0, 1) := by decide +kernel
theorem dX0_learn_81 : decode cX0_learn 81 = .ok (.iastore, 1) := by decide +kernel
theorem dX0_learn_82 : decode cX0_learn 82 = .ok (.return_, 1) := by decide +kernel
theorem dX0_markCycle_0 : decode cX0_markCycle 0 = .ok (.iconst 0, 1) := by decide +kernel
theorem dX0_markCycle_1 : decode cX0_markCycle 1 = .ok (.istore_n 3, 1) := by decide +kernel
theorem dX0_markCycle_2 : decode cX0_markCycle 2 = .ok (.iload_n 3, 1) := by decide +kernel
theorem dX0_markCycle_3 : decode cX0_markCycle 3 = .ok (.iload_n 2, 1) := by decide +kernel
theorem dX0_markCycle_4 : decode cX0_markCycle 4 = .ok (.if_icmp .ge 21, 3) := by decide +kernel
theorem dX0_markCycle_7 : decode cX0_markCycle 7 = .ok (.aload_n 1, 1) := by decide +kernel
theorem dX0_markCycle_8 : decode cX0_markCycle 8 = .ok (.getfield 50, 3) := by decide +kernel
theorem dX0_markCycle_11 : decode cX0_markCycle 11 = .ok (.aload_n 0, 1) := by decide +kernel
theorem dX0_markCycle_12 : decode cX0_markCycle 12 = .ok (.getfield 9, 3) := by decide +kernel
theorem dX0_markCycle_15 : decode cX0_markCycle 15 = .ok (.iload_n 3, 1) := by decide +kernel
theorem dX0_markCycle_16 : decode cX0_markCycle 16 = .ok (.iaload, 1) := by decide +kernel
theorem dX0_markCycle_17 : decode cX0_markCycle 17 = .ok (.iconst 1, 1) := by decide +kernel
theorem dX0_markCycle_18 : decode cX0_markCycle 18 = .ok (.iastore, 1) := by decide +kernel
theorem dX0_markCycle_19 : decode cX0_markCycle 19 = .ok (.iinc 3 1, 3) := by decide +kernel
theorem dX0_markCycle_22 : decode cX0_markCycle 22 = .ok (.goto (-20), 3) := by decide +kernel
theorem dX0_markCycle_25 : decode cX0_markCycle 25 = .ok (.return_, 1) := by decide +kernel
theorem dX1_init_0 : decode cX1_init 0 = .ok (.aload_n 0, 1) := by decide +kernel
theorem dX1_init_1 : decode cX1_init 1 = .ok (.invokespecial 3, 3) := by decide +kernel
theorem dX1_init_4 : decode cX1_init 4 = .ok (.aload_n 0, 1) := by decide +kernel
theorem dX1_init_5 : decode cX1_init 5 = .ok (.new 9, 3) := by decide +kernel
theorem dX1_init_8 : decode cX1_init 8 = .ok (.dup, 1) := by decide +kernel
theorem dX1_init_9 : decode cX1_init 9 = .ok (.invokespecial 11, 3) := by decide +kernel
theorem dX1_init_12 : decode cX1_init 12 = .ok (.putfield 12, 3) := by decide +kernel
theorem dX1_init_15 : decode cX1_init 15 = .ok (.return_, 1) := by decide +kernel
theorem dX1_firstFault_0 : decode cX1_firstFault 0 = .ok (.aload_n 1, 1) := by decide +kernel
theorem dX1_firstFault_1 : decode cX1_firstFault 1 = .ok (.getfield 18, 3) := by decide +kernel
theorem dX1_firstFault_4 : decode cX1_firstFault 4 = .ok (.ifCond .ne 5, 3) := by decide +kernel
theorem dX1_firstFault_7 : decode cX1_firstFault 7 = .ok (.iconst (-1), 1) := by decide +kernel
theorem dX1_firstFault_8 : decode cX1_firstFault 8 = .ok (.ireturn, 1) := by decide +kernel
theorem dX1_firstFault_9 : decode cX1_firstFault 9 = .ok (.aload_n 0, 1) := by decide +kernel
theorem dX1_firstFault_10 : decode cX1_firstFault 10 = .ok (.getfield 12, 3) := by decide +kernel
theorem dX1_firstFault_13 : decode cX1_firstFault 13 = .ok (.aload_n 1, 1) := by decide +kernel
theorem dX1_firstFault_14 : decode cX1_firstFault 14 = .ok (.getfield 24, 3) := by decide +kernel
theorem dX1_firstFault_17 : decode cX1_firstFault 17 = .ok (.iconst 0, 1) := by decide +kernel
theorem dX1_firstFault_18 : decode cX1_firstFault 18 = .ok (.aload_n 1, 1) := by decide +kernel
theorem dX1_firstFault_19 : decode cX1_firstFault 19 = .ok (.getfield 18, 3) := by decide +kernel
theorem dX1_firstFault_22 : decode cX1_firstFault 22 = .ok (.invokevirtual 28, 3) := by decide +kernel
theorem dX1_firstFault_25 : decode cX1_firstFault 25 = .ok (.aload_n 0, 1) := by decide +kernel
theorem dX1_firstFault_26 : decode cX1_firstFault 26 = .ok (.iconst 0, 1) := by decide +kernel
theorem dX1_firstFault_27 : decode cX1_firstFault 27 = .ok (.invokevirtual 32, 3) := by decide +kernel
theorem dX1_firstFault_30 : decode cX1_firstFault 30 = .ok (.ifCond .eq 17, 3) := by decide +kernel
theorem dX1_firstFault_33 : decode cX1_firstFault 33 = .ok (.aload_n 0, 1) := by decide +kernel
theorem dX1_firstFault_34 : decode cX1_firstFault 34 = .ok (.getfield 12, 3) := by decide +kernel
theorem dX1_firstFault_37 : decode cX1_firstFault 37 = .ok (.invokevirtual 36, 3) := by decide +kernel
theorem dX1_firstFault_40 : decode cX1_firstFault 40 = .ok (.ifCond .eq 7, 3) := by decide +kernel
theorem dX1_firstFault_43 : decode cX1_firstFault 43 = .ok (.iconst (-1), 1) := by decide +kernel
theorem dX1_firstFault_44 : decode cX1_firstFault 44 = .ok (.goto 10, 3) := by decide +kernel
theorem dX1_firstFault_47 : decode cX1_firstFault 47 = .ok (.aload_n 0, 1) := by decide +kernel
theorem dX1_firstFault_48 : decode cX1_firstFault 48 = .ok (.getfield 12, 3) := by decide +kernel
theorem dX1_firstFault_51 : decode cX1_firstFault 51 = .ok (.getfield 40, 3) := by decide +kernel
theorem dX1_firstFault_54 : decode cX1_firstFault 54 = .ok (.ireturn, 1) := by decide +kernel
theorem dX1_formula_0 : decode cX1_formula 0 = .ok (.iconst 1, 1) := by decide +kernel
theorem dX1_formula_1 : decode cX1_formula 1 = .ok (.istore_n 2, 1) := by decide +kernel
theorem dX1_formula_2 : decode cX1_formula 2 = .ok (.iconst 0, 1) := by decide +kernel
theorem dX1_formula_3 : decode cX1_formula 3 = .ok (.istore_n 3, 1) := by decide +kernel
theorem dX1_formula_4 : decode cX1_formula 4 = .ok (.iload_n 3, 1) := by decide +kernel
theorem dX1_formula_5 : decode cX1_formula 5 = .ok (.bipush 30, 2) := by decide +kernel
theorem dX1_formula_7 : decode cX1_formula 7 = .ok (.if_icmp .ge 53, 3) := by decide +kernel
theorem dX1_formula_10 : decode cX1_formula 10 = .ok (.iload_n 2, 1) := by decide +kernel
theorem dX1_formula_11 : decode cX1_formula 11 = .ok (.ifCond .eq 49, 3) := by decide +kernel
theorem dX1_formula_14 : decode cX1_formula 14 = .ok (.aload_n 0, 1) := by decide +kernel
theorem dX1_formula_15 : decode cX1_formula 15 = .ok (.iload_n 1, 1) := by decide +kernel
theorem dX1_formula_16 : decode cX1_formula 16 = .ok (.invokevirtual 43, 3) := by decide +kernel
theorem dX1_formula_19 : decode cX1_formula 19 = .ok (.ifCond .ne 5, 3) := by decide +kernel
theorem dX1_formula_22 : decode cX1_formula 22 = .ok (.iconst 0, 1) := by decide +kernel
theorem dX1_formula_23 : decode cX1_formula 23 = .ok (.ireturn, 1) := by decide +kernel
theorem dX1_formula_24 : decode cX1_formula 24 = .ok (.aload_n 0, 1) := by decide +kernel
theorem dX1_formula_25 : decode cX1_formula 25 = .ok (.getfield 12, 3) := by decide +kernel
theorem dX1_formula_28 : decode cX1_formula 28 = .ok (.bipush 43, 2) := by decide +kernel
theorem dX1_formula_30 : decode cX1_formula 30 = .ok (.invokevirtual 46, 3) := by decide +kernel
theorem dX1_formula_33 : decode cX1_formula 33 = .ok (.ifCond .ne 15, 3) := by decide +kernel
theorem dX1_formula_36 : decode cX1_formula 36 = .ok (.aload_n 0, 1) := by decide +kernel
theorem dX1_formula_37 : decode cX1_formula 37 = .ok (.getfield 12, 3) := by decide +kernel
theorem dX1_formula_40 : decode cX1_formula 40 = .ok (.bipush 45, 2) := by decide +kernel
theorem dX1_formula_42 : decode cX1_formula 42 = .ok (.invokevirtual 46, 3) := by decide +kernel
theorem dX1_formula_45 : decode cX1_formula 45 = .ok (.ifCond .eq 7, 3) := by decide +kernel
theorem dX1_formula_48 : decode cX1_formula 48 = .ok (.iconst 1, 1) := by decide +kernel
theorem dX1_formula_49 : decode cX1_formula 49 = .ok (.goto 4, 3) := by decide +kernel
theorem dX1_formula_52 : decode cX1_formula 52 = .ok (.iconst 0, 1) := by decide +kernel
theorem dX1_formula_53 : decode cX1_formula 53 = .ok (.istore_n 2, 1) := by decide +kernel
theorem dX1_formula_54 : decode cX1_formula 54 = .ok (.iinc 3 1, 3) := by decide +kernel
theorem dX1_formula_57 : decode cX1_formula 57 = .ok (.goto (-53), 3) := by decide +kernel
theorem dX1_formula_60 : decode cX1_formula 60 = .ok (.iconst 1, 1) := by decide +kernel
theorem dX1_formula_61 : decode cX1_formula 61 = .ok (.ireturn, 1) := by decide +kernel
theorem dX1_product_0 : decode cX1_product 0 = .ok (.iconst 1, 1) := by decide +kernel
theorem dX1_product_1 : decode cX1_product 1 = .ok (.istore_n 2, 1) := by decide +kernel
theorem dX1_product_2 : decode cX1_product 2 = .ok (.iconst 0, 1) := by decide +kernel
theorem dX1_product_3 : decode cX1_product 3 = .ok (.istore_n 3, 1) := by decide +kernel
theorem dX1_product_4 : decode cX1_product 4 = .ok (.iload_n 3, 1) := by decide +kernel
theorem dX1_product_5 : decode cX1_product 5 = .ok (.bipush 30, 2) := by decide +kernel
theorem dX1_product_7 : decode cX1_product 7 = .ok (.if_icmp .ge 33, 3) := by decide +kernel
theorem dX1_product_10 : decode cX1_product 10 = .ok (.iload_n 2, 1) := by decide +kernel
theorem dX1_product_11 : decode cX1_product 11 = .ok (.ifCond .eq 29, 3) := by decide +kernel
theorem dX1_product_14 : decode cX1_product 14 = .ok (.aload_n 0, 1) := by decide +kernel
theorem dX1_product_15 : decode cX1_product 15 = .ok (.iload_n 1, 1) := by decide +kernel
theorem dX1_product_16 : decode cX1_product 16 = .ok (.invokevirtual 49, 3) := by decide +kernel
theorem dX1_product_19 : decode cX1_product 19 = .ok (.ifCond .ne 5, 3) := by decide +kernel
theorem dX1_product_22 : decode cX1_product 22 = .ok (.iconst 0, 1) := by decide +kernel
theorem dX1_product_23 : decode cX1_product 23 = .ok (.ireturn, 1) := by decide +kernel
theorem dX1_product_24 : decode cX1_product 24 = .ok (.aload_n 0, 1) := by decide +kernel
theorem dX1_product_25 : decode cX1_product 25 = .ok (.getfield 12, 3) := by decide +kernel
theorem dX1_product_28 : decode cX1_product 28 = .ok (.bipush 42, 2) := by decide +kernel
theorem dX1_product_30 : decode cX1_product 30 = .ok (.invokevirtual 46, 3) := by decide +kernel
theorem dX1_product_33 : decode cX1_product 33 = .ok (.istore_n 2, 1) := by decide +kernel
theorem dX1_product_34 : decode cX1_product 34 = .ok (.iinc 3 1, 3) := by decide +kernel
theorem dX1_product_37 : decode cX1_product 37 = .ok (.goto (-33), 3) := by decide +kernel
theorem dX1_product_40 : decode cX1_product 40 = .ok (.iconst 1, 1) := by decide +kernel
theorem dX1_product_41 : decode cX1_product 41 = .ok (.ireturn, 1) := by decide +kernel
theorem dX1_factor_0 : decode cX1_factor 0 = .ok (.iload_n 1, 1) := by decide +kernel
theorem dX1_factor_1 : decode cX1_factor 1 = .ok (.bipush 40, 2) := by decide +kernel
theorem dX1_factor_3 : decode cX1_factor 3 = .ok (.if_icmp .le 5, 3) := by decide +kernel
theorem dX1_factor_6 : decode cX1_factor 6 = .ok (.iconst 0, 1) := by decide +kernel
theorem dX1_factor_7 : decode cX1_factor 7 = .ok (.ireturn, 1) := by decide +kernel
theorem dX1_factor_8 : decode cX1_factor 8 = .ok (.aload_n 0, 1) := by decide +kernel
theorem dX1_factor_9 : decode cX1_factor 9 = .ok (.getfield 12, 3) := by decide +kernel
theorem dX1_factor_12 : decode cX1_factor 12 = .ok (.bipush 45, 2) := by decide +kernel
theorem dX1_factor_14 : decode cX1_factor 14 = .ok (.invokevirtual 46, 3) := by decide +kernel
theorem dX1_factor_17 : decode cX1_factor 17 = .ok (.ifCond .eq 11, 3) := by decide +kernel
theorem dX1_factor_20 : decode cX1_factor 20 = .ok (.aload_n 0, 1) := by decide +kernel
theorem dX1_factor_21 : decode cX1_factor 21 = .ok (.iload_n 1, 1) := by decide +kernel
theorem dX1_factor_22 : decode cX1_factor 22 = .ok (.iconst 1, 1) := by decide +kernel
theorem dX1_factor_23 : decode cX1_factor 23 = .ok (.iadd, 1) := by decide +kernel
theorem dX1_factor_24 : decode cX1_factor 24 = .ok (.invokevirtual 49, 3) := by decide +kernel
theorem dX1_factor_27 : decode cX1_factor 27 = .ok (.ireturn, 1) := by decide +kernel
theorem dX1_factor_28 : decode cX1_factor 28 = .ok (.aload_n 0, 1) := by decide +kernel
theorem dX1_factor_29 : decode cX1_factor 29 = .ok (.getfield 12, 3) := by decide +kernel
theorem dX1_factor_32 : decode cX1_factor 32 = .ok (.bipush 40, 2) := by decide +kernel
theorem dX1_factor_34 : decode cX1_factor 34 = .ok (.invokevirtual 46, 3) := by decide +kernel
theorem dX1_factor_37 : decode cX1_factor 37 = .ok (.ifCond .eq 31, 3) := by decide +kernel
theorem dX1_factor_40 : decode cX1_factor 40 = .ok (.aload_n 0, 1) := by decide +kernel
theorem dX1_factor_41 : decode cX1_factor 41 = .ok (.iload_n 1, 1) := by decide +kernel
theorem dX1_factor_42 : decode cX1_factor 42 = .ok (.iconst 1, 1) := by decide +kernel
theorem dX1_factor_43 : decode cX1_factor 43 = .ok (.iadd, 1) := by decide +kernel
theorem dX1_factor_44 : decode cX1_factor 44 = .ok (.invokevirtual 32, 3) := by decide +kernel
theorem dX1_factor_47 : decode cX1_factor 47 = .ok (.ifCond .eq 19, 3) := by decide +kernel
theorem dX1_factor_50 : decode cX1_factor 50 = .ok (.aload_n 0, 1) := by decide +kernel
theorem dX1_factor_51 : decode cX1_factor 51 = .ok (.getfield 12, 3) := by decide +kernel
theorem dX1_factor_54 : decode cX1_factor 54 = .ok (.bipush 41, 2) := by decide +kernel
theorem dX1_factor_56 : decode cX1_factor 56 = .ok (.invokevirtual 46, 3) := by decide +kernel
theorem dX1_factor_59 : decode cX1_factor 59 = .ok (.ifCond .eq 7, 3) := by decide +kernel
theorem dX1_factor_62 : decode cX1_factor 62 = .ok (.iconst 1, 1) := by decide +kernel
theorem dX1_factor_63 : decode cX1_factor 63 = .ok (.goto 4, 3) := by decide +kernel
theorem dX1_factor_66 : decode cX1_factor 66 = .ok (.iconst 0, 1) := by decide +kernel
theorem dX1_factor_67 : decode cX1_factor 67 = .ok (.ireturn, 1) := by decide +kernel
theorem dX1_factor_68 : decode cX1_factor 68 = .ok (.aload_n 0, 1) := by decide +kernel
theorem dX1_factor_69 : decode cX1_factor 69 = .ok (.getfield 12, 3) := by decide +kernel
theorem dX1_factor_72 : decode cX1_factor 72 = .ok (.iconst 0, 1) := by decide +kernel
theorem dX1_factor_73 : decode cX1_factor 73 = .ok (.invokevirtual 52, 3) := by decide +kernel
theorem dX1_factor_76 : decode cX1_factor 76 = .ok (.invokestatic 56, 3) := by decide +kernel
theorem dX1_factor_79 : decode cX1_factor 79 = .ok (.ifCond .eq 9, 3) := by decide +kernel
theorem dX1_factor_82 : decode cX1_factor 82 = .ok (.aload_n 0, 1) := by decide +kernel
theorem dX1_factor_83 : decode cX1_factor 83 = .ok (.invokevirtual 59, 3) := by decide +kernel
theorem dX1_factor_86 : decode cX1_factor 86 = .ok (.iconst 1, 1) := by decide +kernel
theorem dX1_factor_87 : decode cX1_factor 87 = .ok (.ireturn, 1) := by decide +kernel
theorem dX1_factor_88 : decode cX1_factor 88 = .ok (.aload_n 0, 1) := by decide +kernel
theorem dX1_factor_89 : decode cX1_factor 89 = .ok (.getfield 12, 3) := by decide +kernel
theorem dX1_factor_92 : decode cX1_factor 92 = .ok (.invokevirtual 62, 3) := by decide +kernel
theorem dX1_factor_95 : decode cX1_factor 95 = .ok (.ifCond .eq 18, 3) := by decide +kernel
theorem dX1_factor_98 : decode cX1_factor 98 = .ok (.aload_n 0, 1) := by decide +kernel
theorem dX1_factor_99 : decode cX1_factor 99 = .ok (.getfield 12, 3) := by decide +kernel
theorem dX1_factor_102 : decode cX1_factor 102 = .ok (.dup, 1) := by decide +kernel
theorem dX1_factor_103 : decode cX1_factor 103 = .ok (.getfield 40, 3) := by decide +kernel
theorem dX1_factor_106 : decode cX1_factor 106 = .ok (.iconst 2, 1) := by decide +kernel
theorem dX1_factor_107 : decode cX1_factor 107 = .ok (.iadd, 1) := by decide +kernel
theorem dX1_factor_108 : decode cX1_factor 108 = .ok (.putfield 40, 3) := by decide +kernel
theorem dX1_factor_111 : decode cX1_factor 111 = .ok (.iconst 1, 1) := by decide +kernel
theorem dX1_factor_112 : decode cX1_factor 112 = .ok (.ireturn, 1) := by decide +kernel
theorem dX1_factor_113 : decode cX1_factor 113 = .ok (.aload_n 0, 1) := by decide +kernel
theorem dX1_factor_114 : decode cX1_factor 114 = .ok (.iload_n 1, 1) := by decide +kernel
theorem dX1_factor_115 : decode cX1_factor 115 = .ok (.iconst 1, 1) := by decide +kernel
theorem dX1_factor_116 : decode cX1_factor 116 = .ok (.iadd, 1) := by decide +kernel
theorem dX1_factor_117 : decode cX1_factor 117 = .ok (.invokevirtual 65, 3) := by decide +kernel
theorem dX1_factor_120 : decode cX1_factor 120 = .ok (.ireturn, 1) := by decide +kernel
theorem dX1_passNumber_0 : decode cX1_passNumber 0 = .ok (.iconst 0, 1) := by decide +kernel
theorem dX1_passNumber_1 : decode cX1_passNumber 1 = .ok (.istore_n 1, 1) := by decide +kernel
theorem dX1_passNumber_2 : decode cX1_passNumber 2 = .ok (.iload_n 1, 1) := by decide +kernel
theorem dX1_passNumber_3 : decode cX1_passNumber 3 = .ok (.bipush 6, 2) := by decide +kernel
theorem dX1_passNumber_5 : decode cX1_passNumber 5 = .ok (.if_icmp .ge 36, 3) := by decide +kernel
theorem dX1_passNumber_8 : decode cX1_passNumber 8 = .ok (.aload_n 0, 1) := by decide +kernel
theorem dX1_passNumber_9 : decode cX1_passNumber 9 = .ok (.getfield 12, 3) := by decide +kernel
theorem dX1_passNumber_12 : decode cX1_passNumber 12 = .ok (.iconst 0, 1) := by decide +kernel
theorem dX1_passNumber_13 : decode cX1_passNumber 13 = .ok (.invokevirtual 52, 3) := by decide +kernel
theorem dX1_passNumber_16 : decode cX1_passNumber 16 = .ok (.invokestatic 56, 3) := by decide +kernel
theorem dX1_passNumber_19 : decode cX1_passNumber 19 = .ok (.ifCond .eq 22, 3) := by decide +kernel
theorem dX1_passNumber_22 : decode cX1_passNumber 22 = .ok (.aload_n 0, 1) := by decide +kernel
theorem dX1_passNumber_23 : decode cX1_passNumber 23 = .ok (.getfield 12, 3) := by decide +kernel
theorem dX1_passNumber_26 : decode cX1_passNumber 26 = .ok (.dup, 1) := by decide +kernel
theorem dX1_passNumber_27 : decode cX1_passNumber 27 = .ok (.getfield 40, 3) := by decide +kernel
theorem dX1_passNumber_30 : decode cX1_passNumber 30 = .ok (.iconst 1, 1) := by decide +kernel
theorem dX1_passNumber_31 : decode cX1_passNumber 31 = .ok (.iadd, 1) := by decide +kernel
theorem dX1_passNumber_32 : decode cX1_passNumber 32 = .ok (.putfield 40, 3) := by decide +kernel
theorem dX1_passNumber_35 : decode cX1_passNumber 35 = .ok (.iinc 1 1, 3) := by decide +kernel
theorem dX1_passNumber_38 : decode cX1_passNumber 38 = .ok (.goto (-36), 3) := by decide +kernel
theorem dX1_passNumber_41 : decode cX1_passNumber 41 = .ok (.return_, 1) := by decide +kernel
theorem dX1_call_0 : decode cX1_call 0 = .ok (.aload_n 0, 1) := by decide +kernel
theorem dX1_call_1 : decode cX1_call 1 = .ok (.getfield 12, 3) := by decide +kernel
theorem dX1_call_4 : decode cX1_call 4 = .ok (.iconst 0, 1) := by decide +kernel
theorem dX1_call_5 : decode cX1_call 5 = .ok (.invokevirtual 52, 3) := by decide +kernel
theorem dX1_call_8 : decode cX1_call 8 = .ok (.invokestatic 68, 3) := by decide +kernel
theorem dX1_call_11 : decode cX1_call 11 = .ok (.ifCond .eq 7, 3) := by decide +kernel
theorem dX1_call_14 : decode cX1_call 14 = .ok (.iconst 1, 1) := by decide +kernel
theorem dX1_call_15 : decode cX1_call 15 = .ok (.goto 4, 3) := by decide +kernel
theorem dX1_call_18 : decode cX1_call 18 = .ok (.iconst 0, 1) := by decide +kernel
theorem dX1_call_19 : decode cX1_call 19 = .ok (.istore_n 2, 1) := by decide +kernel
theorem dX1_call_20 : decode cX1_call 20 = .ok (.iconst 0, 1) := by decide +kernel
theorem dX1_call_21 : decode cX1_call 21 = .ok (.istore_n 3, 1) := by decide +kernel
theorem dX1_call_22 : decode cX1_call 22 = .ok (.iload_n 3, 1) := by decide +kernel
theorem dX1_call_23 : decode cX1_call 23 = .ok (.bipush 9, 2) := by decide +kernel
theorem dX1_call_25 : decode cX1_call 25 = .ok (.if_icmp .ge 62, 3) := by decide +kernel
theorem dX1_call_28 : decode cX1_call 28 = .ok (.aload_n 0, 1) := by decide +kernel
theorem dX1_call_29 : decode cX1_call 29 = .ok (.getfield 12, 3) := by decide +kernel
theorem dX1_call_32 : decode cX1_call 32 = .ok (.iload_n 3, 1) := by decide +kernel
theorem dX1_call_33 : decode cX1_call 33 = .ok (.invokestatic 71, 3) := by decide +kernel
theorem dX1_call_36 : decode cX1_call 36 = .ok (.invokevirtual 75, 3) := by decide +kernel
theorem dX1_call_39 : decode cX1_call 39 = .ok (.istore 4, 2) := by decide +kernel
theorem dX1_call_41 : decode cX1_call 41 = .ok (.iload 4, 2) := by decide +kernel
theorem dX1_call_43 : decode cX1_call 43 = .ok (.iload_n 3, 1) := by decide +kernel
theorem dX1_call_44 : decode cX1_call 44 = .ok (.invokestatic 71, 3) := by decide +kernel
theorem dX1_call_47 : decode cX1_call 47 = .ok (.invokevirtual 79, 3) := by decide +kernel
theorem dX1_call_50 : decode cX1_call 50 = .ok (.if_icmp .ne 24, 3) := by decide +kernel
theorem dX1_call_53 : decode cX1_call 53 = .ok (.aload_n 0, 1) := by decide +kernel
theorem dX1_call_54 : decode cX1_call 54 = .ok (.getfield 12, 3) := by decide +kernel
theorem dX1_call_57 : decode cX1_call 57 = .ok (.dup, 1) := by decide +kernel
theorem dX1_call_58 : decode cX1_call 58 = .ok (.getfield 40, 3) := by decide +kernel
theorem dX1_call_61 : decode cX1_call 61 = .ok (.iload 4, 2) := by decide +kernel
theorem dX1_call_63 : decode cX1_call 63 = .ok (.iadd, 1) := by decide +kernel
theorem dX1_call_64 : decode cX1_call 64 = .ok (.putfield 40, 3) := by decide +kernel
theorem dX1_call_67 : decode cX1_call 67 = .ok (.aload_n 0, 1) := by decide +kernel
theorem dX1_call_68 : decode cX1_call 68 = .ok (.iload_n 3, 1) := by decide +kernel
theorem dX1_call_69 : decode cX1_call 69 = .ok (.iload_n 1, 1) := by decide +kernel
theorem dX1_call_70 : decode cX1_call 70 = .ok (.invokevirtual 84, 3) := by decide +kernel
theorem dX1_call_73 : decode cX1_call 73 = .ok (.ireturn, 1) := by decide +kernel
theorem dX1_call_74 : decode cX1_call 74 = .ok (.iload_n 2, 1) := by decide +kernel
theorem dX1_call_75 : decode cX1_call 75 = .ok (.iload 4, 2) := by decide +kernel
theorem dX1_call_77 : decode cX1_call 77 = .ok (.invokestatic 88, 3) := by decide +kernel
theorem dX1_call_80 : decode cX1_call 80 = .ok (.istore_n 2, 1) := by decide +kernel
theorem dX1_call_81 : decode cX1_call 81 = .ok (.iinc 3 1, 3) := by decide +kernel
theorem dX1_call_84 : decode cX1_call 84 = .ok (.goto (-62), 3) := by decide +kernel
theorem dX1_call_87 : decode cX1_call 87 = .ok (.aload_n 0, 1) := by decide +kernel
theorem dX1_call_88 : decode cX1_call 88 = .ok (.getfield 12, 3) := by decide +kernel
theorem dX1_call_91 : decode cX1_call 91 = .ok (.dup, 1) := by decide +kernel
theorem dX1_call_92 : decode cX1_call 92 = .ok (.getfield 40, 3) := by decide +kernel
theorem dX1_call_95 : decode cX1_call 95 = .ok (.iload_n 2, 1) := by decide +kernel
theorem dX1_call_96 : decode cX1_call 96 = .ok (.iadd, 1) := by decide +kernel
theorem dX1_call_97 : decode cX1_call 97 = .ok (.putfield 40, 3) := by decide +kernel
theorem dX1_call_100 : decode cX1_call 100 = .ok (.iconst 0, 1) := by decide +kernel
theorem dX1_call_101 : decode cX1_call 101 = .ok (.ireturn, 1) := by decide +kernel
theorem dX1_parts_0 : decode cX1_parts 0 = .ok (.iconst 1, 1) := by decide +kernel
theorem dX1_parts_1 : decode cX1_parts 1 = .ok (.istore_n 3, 1) := by decide +kernel
theorem dX1_parts_2 : decode cX1_parts 2 = .ok (.iload_n 3, 1) := by decide +kernel
theorem dX1_parts_3 : decode cX1_parts 3 = .ok (.getstatic 94, 3) := by decide +kernel
theorem dX1_parts_6 : decode cX1_parts 6 = .ok (.iload_n 1, 1) := by decide +kernel
theorem dX1_parts_7 : decode cX1_parts 7 = .ok (.iaload, 1) := by decide +kernel
theorem dX1_parts_8 : decode cX1_parts 8 = .ok (.if_icmp .gt 84, 3) := by decide +kernel
theorem dX1_parts_11 : decode cX1_parts 11 = .ok (.aload_n 0, 1) := by decide +kernel
theorem dX1_parts_12 : decode cX1_parts 12 = .ok (.iload_n 1, 1) := by decide +kernel
theorem dX1_parts_13 : decode cX1_parts 13 = .ok (.invokevirtual 97, 3) := by decide +kernel
theorem dX1_parts_16 : decode cX1_parts 16 = .ok (.ifCond .eq 10, 3) := by decide +kernel
theorem dX1_parts_19 : decode cX1_parts 19 = .ok (.aload_n 0, 1) := by decide +kernel
theorem dX1_parts_20 : decode cX1_parts 20 = .ok (.invokevirtual 100, 3) := by decide +kernel
theorem dX1_parts_23 : decode cX1_parts 23 = .ok (.goto 8, 3) := by decide +kernel
theorem dX1_parts_26 : decode cX1_parts 26 = .ok (.aload_n 0, 1) := by decide +kernel
theorem dX1_parts_27 : decode cX1_parts 27 = .ok (.iload_n 2, 1) := by decide +kernel
theorem dX1_parts_28 : decode cX1_parts 28 = .ok (.invokevirtual 32, 3) := by decide +kernel
theorem dX1_parts_31 : decode cX1_parts 31 = .ok (.istore 4, 2) := by decide +kernel
theorem dX1_parts_33 : decode cX1_parts 33 = .ok (.iload 4, 2) := by decide +kernel
theorem dX1_parts_35 : decode cX1_parts 35 = .ok (.ifCond .ne 5, 3) := by decide +kernel
theorem dX1_parts_38 : decode cX1_parts 38 = .ok (.iconst 0, 1) := by decide +kernel
theorem dX1_parts_39 : decode cX1_parts 39 = .ok (.ireturn, 1) := by decide +kernel
theorem dX1_parts_40 : decode cX1_parts 40 = .ok (.iload_n 3, 1) := by decide +kernel
theorem dX1_parts_41 : decode cX1_parts 41 = .ok (.getstatic 103, 3) := by decide +kernel
theorem dX1_parts_44 : decode cX1_parts 44 = .ok (.iload_n 1, 1) := by decide +kernel
theorem dX1_parts_45 : decode cX1_parts 45 = .ok (.iaload, 1) := by decide +kernel
theorem dX1_parts_46 : decode cX1_parts 46 = .ok (.if_icmp .lt 17, 3) := by decide +kernel
theorem dX1_parts_49 : decode cX1_parts 49 = .ok (.aload_n 0, 1) := by decide +kernel
theorem dX1_parts_50 : decode cX1_parts 50 = .ok (.getfield 12, 3) := by decide +kernel
theorem dX1_parts_53 : decode cX1_parts 53 = .ok (.bipush 41, 2) := by decide +kernel
theorem dX1_parts_55 : decode cX1_parts 55 = .ok (.invokevirtual 46, 3) := by decide +kernel
theorem dX1_parts_58 : decode cX1_parts 58 = .ok (.ifCond .eq 5, 3) := by decide +kernel
theorem dX1_parts_61 : decode cX1_parts 61 = .ok (.iconst 1, 1) := by decide +kernel
theorem dX1_parts_62 : decode cX1_parts 62 = .ok (.ireturn, 1) := by decide +kernel
theorem dX1_parts_63 : decode cX1_parts 63 = .ok (.iload_n 3, 1) := by decide +kernel
theorem dX1_parts_64 : decode cX1_parts 64 = .ok (.getstatic 94, 3) := by decide +kernel
theorem dX1_parts_67 : decode cX1_parts 67 = .ok (.iload_n 1, 1) := by decide +kernel
theorem dX1_parts_68 : decode cX1_parts 68 = .ok (.iaload, 1) := by decide +kernel
theorem dX1_parts_69 : decode cX1_parts 69 = .ok (.if_icmp .eq 15, 3) := by decide +kernel
theorem dX1_parts_72 : decode cX1_parts 72 = .ok (.aload_n 0, 1) := by decide +kernel
theorem dX1_parts_73 : decode cX1_parts 73 = .ok (.getfield 12, 3) := by decide +kernel
theorem dX1_parts_76 : decode cX1_parts 76 = .ok (.bipush 44, 2) := by decide +kernel
theorem dX1_parts_78 : decode cX1_parts 78 = .ok (.invokevirtual 46, 3) := by decide +kernel
theorem dX1_parts_81 : decode cX1_parts 81 = .ok (.ifCond .ne 5, 3) := by decide +kernel
theorem dX1_parts_84 : decode cX1_parts 84 = .ok (.iconst 0, 1) := by decide +kernel
theorem dX1_parts_85 : decode cX1_parts 85 = .ok (.ireturn, 1) := by decide +kernel
theorem dX1_parts_86 : decode cX1_parts 86 = .ok (.iinc 3 1, 3) := by decide +kernel
theorem dX1_parts_89 : decode cX1_parts 89 = .ok (.goto (-87), 3) := by decide +kernel
theorem dX1_parts_92 : decode cX1_parts 92 = .ok (.iconst 0, 1) := by decide +kernel
theorem dX1_parts_93 : decode cX1_parts 93 = .ok (.ireturn, 1) := by decide +kernel
theorem dX1_isAtArea_0 : decode cX1_isAtArea 0 = .ok (.aload_n 0, 1) := by decide +kernel
theorem dX1_isAtArea_1 : decode cX1_isAtArea 1 = .ok (.getfield 12, 3) := by decide +kernel
theorem dX1_isAtArea_4 : decode cX1_isAtArea 4 = .ok (.invokevirtual 62, 3) := by decide +kernel
theorem dX1_isAtArea_7 : decode cX1_isAtArea 7 = .ok (.ifCond .eq 20, 3) := by decide +kernel
theorem dX1_isAtArea_10 : decode cX1_isAtArea 10 = .ok (.aload_n 0, 1) := by decide +kernel
theorem dX1_isAtArea_11 : decode cX1_isAtArea 11 = .ok (.getfield 12, 3) := by decide +kernel
theorem dX1_isAtArea_14 : decode cX1_isAtArea 14 = .ok (.iconst 2, 1) := by decide +kernel
theorem dX1_isAtArea_15 : decode cX1_isAtArea 15 = .ok (.invokevirtual 52, 3) := by decide +kernel
theorem dX1_isAtArea_18 : decode cX1_isAtArea 18 = .ok (.bipush 58, 2) := by decide +kernel
theorem dX1_isAtArea_20 : decode cX1_isAtArea 20 = .ok (.if_icmp .ne 7, 3) := by decide +kernel
theorem dX1_isAtArea_23 : decode cX1_isAtArea 23 = .ok (.iconst 1, 1) := by decide +kernel
theorem dX1_isAtArea_24 : decode cX1_isAtArea 24 = .ok (.goto 4, 3) := by decide +kernel
theorem dX1_isAtArea_27 : decode cX1_isAtArea 27 = .ok (.iconst 0, 1) := by decide +kernel
theorem dX1_isAtArea_28 : decode cX1_isAtArea 28 = .ok (.istore_n 2, 1) := by decide +kernel
theorem dX1_isAtArea_29 : decode cX1_isAtArea 29 = .ok (.iload_n 1, 1) := by decide +kernel
theorem dX1_isAtArea_30 : decode cX1_isAtArea 30 = .ok (.bipush 8, 2) := by decide +kernel
theorem dX1_isAtArea_32 : decode cX1_isAtArea 32 = .ok (.if_icmp .eq 12, 3) := by decide +kernel
theorem dX1_isAtArea_35 : decode cX1_isAtArea 35 = .ok (.iload_n 1, 1) := by decide +kernel
theorem dX1_isAtArea_36 : decode cX1_isAtArea 36 = .ok (.iconst 5, 1) := by decide +kernel
theorem dX1_isAtArea_37 : decode cX1_isAtArea 37 = .ok (.if_icmp .lt 11, 3) := by decide +kernel
theorem dX1_isAtArea_40 : decode cX1_isAtArea 40 = .ok (.iload_n 2, 1) := by decide +kernel
theorem dX1_isAtArea_41 : decode cX1_isAtArea 41 = .ok (.ifCond .eq 7, 3) := by decide +kernel
theorem dX1_isAtArea_44 : decode cX1_isAtArea 44 = .ok (.iconst 1, 1) := by decide +kernel
theorem dX1_isAtArea_45 : decode cX1_isAtArea 45 = .ok (.goto 4, 3) := by decide +kernel
theorem dX1_isAtArea_48 : decode cX1_isAtArea 48 = .ok (.iconst 0, 1) := by decide +kernel
theorem dX1_isAtArea_49 : decode cX1_isAtArea 49 = .ok (.ireturn, 1) := by decide +kernel
theorem dX1_area_0 : decode cX1_area 0 = .ok (.aload_n 0, 1) := by decide +kernel
theorem dX1_area_1 : decode cX1_area 1 = .ok (.getfield 12, 3) := by decide +kernel
theorem dX1_area_4 : decode cX1_area 4 = .ok (.iconst 0, 1) := by decide +kernel
theorem dX1_area_5 : decode cX1_area 5 = .ok (.invokevirtual 52, 3) := by decide +kernel
theorem dX1_area_8 : decode cX1_area 8 = .ok (.istore_n 1, 1) := by decide +kernel
theorem dX1_area_9 : decode cX1_area 9 = .ok (.aload_n 0, 1) := by decide +kernel
theorem dX1_area_10 : decode cX1_area 10 = .ok (.getfield 12, 3) := by decide +kernel
theorem dX1_area_13 : decode cX1_area 13 = .ok (.iconst 1, 1) := by decide +kernel
theorem dX1_area_14 : decode cX1_area 14 = .ok (.invokevirtual 52, 3) := by decide +kernel
theorem dX1_area_17 : decode cX1_area 17 = .ok (.istore_n 2, 1) := by decide +kernel
theorem dX1_area_18 : decode cX1_area 18 = .ok (.aload_n 0, 1) := by decide +kernel
theorem dX1_area_19 : decode cX1_area 19 = .ok (.bipush 97, 2) := by decide +kernel
theorem dX1_area_21 : decode cX1_area 21 = .ok (.bipush 49, 2) := by decide +kernel
theorem dX1_area_23 : decode cX1_area 23 = .ok (.invokevirtual 106, 3) := by decide +kernel
theorem dX1_area_26 : decode cX1_area 26 = .ok (.ifCond .ne 5, 3) := by decide +kernel
theorem dX1_area_29 : decode cX1_area 29 = .ok (.iconst 0, 1) := by decide +kernel
theorem dX1_area_30 : decode cX1_area 30 = .ok (.ireturn, 1) := by decide +kernel
theorem dX1_area_31 : decode cX1_area 31 = .ok (.aload_n 0, 1) := by decide +kernel
theorem dX1_area_32 : decode cX1_area 32 = .ok (.getfield 12, 3) := by decide +kernel
theorem dX1_area_35 : decode cX1_area 35 = .ok (.bipush 58, 2) := by decide +kernel
theorem dX1_area_37 : decode cX1_area 37 = .ok (.invokevirtual 46, 3) := by decide +kernel
theorem dX1_area_40 : decode cX1_area 40 = .ok (.ifCond .eq 12, 3) := by decide +kernel
theorem dX1_area_43 : decode cX1_area 43 = .ok (.aload_n 0, 1) := by decide +kernel
theorem dX1_area_44 : decode cX1_area 44 = .ok (.iload_n 1, 1) := by decide +kernel
theorem dX1_area_45 : decode cX1_area 45 = .ok (.iload_n 2, 1) := by decide +kernel
theorem dX1_area_46 : decode cX1_area 46 = .ok (.invokevirtual 106, 3) := by decide +kernel
theorem dX1_area_49 : decode cX1_area 49 = .ok (.ifCond .eq 7, 3) := by decide +kernel
theorem dX1_area_52 : decode cX1_area 52 = .ok (.iconst 1, 1) := by decide +kernel
theorem dX1_area_53 : decode cX1_area 53 = .ok (.goto 4, 3) := by decide +kernel
theorem dX1_area_56 : decode cX1_area 56 = .ok (.iconst 0, 1) := by decide +kernel
theorem dX1_area_57 : decode cX1_area 57 = .ok (.ireturn, 1) := by decide +kernel
theorem dX1_passCell_0 : decode cX1_passCell 0 = .ok (.aload_n 0, 1) := by decide +kernel
theorem dX1_passCell_1 : decode cX1_passCell 1 = .ok (.getfield 12, 3) := by decide +kernel
theorem dX1_passCell_4 : decode cX1_passCell 4 = .ok (.iconst 0, 1) := by decide +kernel
theorem dX1_passCell_5 : decode cX1_passCell 5 = .ok (.invokevirtual 52, 3) := by decide +kernel
theorem dX1_passCell_8 : decode cX1_passCell 8 = .ok (.iload_n 1, 1) := by decide +kernel
theorem dX1_passCell_9 : decode cX1_passCell 9 = .ok (.if_icmp .lt 17, 3) := by decide +kernel
theorem dX1_passCell_12 : decode cX1_passCell 12 = .ok (.aload_n 0, 1) := by decide +kernel
theorem dX1_passCell_13 : decode cX1_passCell 13 = .ok (.getfield 12, 3) := by decide +kernel
theorem dX1_passCell_16 : decode cX1_passCell 16 = .ok (.iconst 0, 1) := by decide +kernel
theorem dX1_passCell_17 : decode cX1_passCell 17 = .ok (.invokevirtual 52, 3) := by decide +kernel
theorem dX1_passCell_20 : decode cX1_passCell 20 = .ok (.invokestatic 68, 3) := by decide +kernel
theorem dX1_passCell_23 : decode cX1_passCell 23 = .ok (.ifCond .ne 5, 3) := by decide +kernel
theorem dX1_passCell_26 : decode cX1_passCell 26 = .ok (.iconst 0, 1) := by decide +kernel
theorem dX1_passCell_27 : decode cX1_passCell 27 = .ok (.ireturn, 1) := by decide +kernel
theorem dX1_passCell_28 : decode cX1_passCell 28 = .ok (.aload_n 0, 1) := by decide +kernel
theorem dX1_passCell_29 : decode cX1_passCell 29 = .ok (.getfield 12, 3) := by decide +kernel
theorem dX1_passCell_32 : decode cX1_passCell 32 = .ok (.dup, 1) := by decide +kernel
theorem dX1_passCell_33 : decode cX1_passCell 33 = .ok (.getfield 40, 3) := by decide +kernel
theorem dX1_passCell_36 : decode cX1_passCell 36 = .ok (.iconst 1, 1) := by decide +kernel
theorem dX1_passCell_37 : decode cX1_passCell 37 = .ok (.iadd, 1) := by decide +kernel
theorem dX1_passCell_38 : decode cX1_passCell 38 = .ok (.putfield 40, 3) := by decide +kernel
theorem dX1_passCell_41 : decode cX1_passCell 41 = .ok (.aload_n 0, 1) := by decide +kernel
theorem dX1_passCell_42 : decode cX1_passCell 42 = .ok (.getfield 12, 3) := by decide +kernel
theorem dX1_passCell_45 : decode cX1_passCell 45 = .ok (.iconst 0, 1) := by decide +kernel
theorem dX1_passCell_46 : decode cX1_passCell 46 = .ok (.invokevirtual 52, 3) := by decide +kernel
theorem dX1_passCell_49 : decode cX1_passCell 49 = .ok (.iload_n 2, 1) := by decide +kernel
theorem dX1_passCell_50 : decode cX1_passCell 50 = .ok (.if_icmp .lt 17, 3) := by decide +kernel
theorem dX1_passCell_53 : decode cX1_passCell 53 = .ok (.aload_n 0, 1) := by decide +kernel
theorem dX1_passCell_54 : decode cX1_passCell 54 = .ok (.getfield 12, 3) := by decide +kernel
theorem dX1_passCell_57 : decode cX1_passCell 57 = .ok (.iconst 0, 1) := by decide +kernel
theorem dX1_passCell_58 : decode cX1_passCell 58 = .ok (.invokevirtual 52, 3) := by decide +kernel
theorem dX1_passCell_61 : decode cX1_passCell 61 = .ok (.invokestatic 109, 3) := by decide +kernel
theorem dX1_passCell_64 : decode cX1_passCell 64 = .ok (.ifCond .ne 5, 3) := by decide +kernel
theorem dX1_passCell_67 : decode cX1_passCell 67 = .ok (.iconst 0, 1) := by decide +kernel
theorem dX1_passCell_68 : decode cX1_passCell 68 = .ok (.ireturn, 1) := by decide +kernel
theorem dX1_passCell_69 : decode cX1_passCell 69 = .ok (.aload_n 0, 1) := by decide +kernel
theorem dX1_passCell_70 : decode cX1_passCell 70 = .ok (.getfield 12, 3) := by decide +kernel
theorem dX1_passCell_73 : decode cX1_passCell 73 = .ok (.dup, 1) := by decide +kernel
theorem dX1_passCell_74 : decode cX1_passCell 74 = .ok (.getfield 40, 3) := by decide +kernel
theorem dX1_passCell_77 : decode cX1_passCell 77 = .ok (.iconst 1, 1) := by decide +kernel
theorem dX1_passCell_78 : decode cX1_passCell 78 = .ok (.iadd, 1) := by decide +kernel
theorem dX1_passCell_79 : decode cX1_passCell 79 = .ok (.putfield 40, 3) := by decide +kernel
theorem dX1_passCell_82 : decode cX1_passCell 82 = .ok (.iconst 1, 1) := by decide +kernel
theorem dX1_passCell_83 : decode cX1_passCell 83 = .ok (.ireturn, 1) := by decide +kernel
theorem dX2_init_0 : decode cX2_init 0 = .ok (.aload_n 0, 1) := by decide +kernel
theorem dX2_init_1 : decode cX2_init 1 = .ok (.invokespecial 1, 3) := by decide +kernel
theorem dX2_init_4 : decode cX2_init 4 = .ok (.aload_n 0, 1) := by decide +kernel
theorem dX2_init_5 : decode cX2_init 5 = .ok (.iconst 0, 1) := by decide +kernel
theorem dX2_init_6 : decode cX2_init 6 = .ok (.newarray .int, 2) := by decide +kernel
theorem dX2_init_8 : decode cX2_init 8 = .ok (.putfield 7, 3) := by decide +kernel
theorem dX2_init_11 : decode cX2_init 11 = .ok (.return_, 1) := by decide +kernel
theorem dX2_enter_0 : decode cX2_enter 0 = .ok (.aload_n 0, 1) := by decide +kernel
theorem dX2_enter_1 : decode cX2_enter 1 = .ok (.aload_n 1, 1) := by decide +kernel
theorem dX2_enter_2 : decode cX2_enter 2 = .ok (.putfield 7, 3) := by decide +kernel
theorem dX2_enter_5 : decode cX2_enter 5 = .ok (.aload_n 0, 1) := by decide +kernel
theorem dX2_enter_6 : decode cX2_enter 6 = .ok (.iload_n 2, 1) := by decide +kernel
theorem dX2_enter_7 : decode cX2_enter 7 = .ok (.putfield 13, 3) := by decide +kernel
theorem dX2_enter_10 : decode cX2_enter 10 = .ok (.aload_n 0, 1) := by decide +kernel
theorem dX2_enter_11 : decode cX2_enter 11 = .ok (.iload_n 3, 1) := by decide +kernel
theorem dX2_enter_12 : decode cX2_enter 12 = .ok (.putfield 17, 3) := by decide +kernel
theorem dX2_enter_15 : decode cX2_enter 15 = .ok (.aload_n 0, 1) := by decide +kernel
theorem dX2_enter_16 : decode cX2_enter 16 = .ok (.iconst 0, 1) := by decide +kernel
theorem dX2_enter_17 : decode cX2_enter 17 = .ok (.putfield 20, 3) := by decide +kernel
theorem dX2_enter_20 : decode cX2_enter 20 = .ok (.return_, 1) := by decide +kernel
theorem dX2_look_0 : decode cX2_look 0 = .ok (.aload_n 0, 1) := by decide +kernel
theorem dX2_look_1 : decode cX2_look 1 = .ok (.getfield 20, 3) := by decide +kernel
theorem dX2_look_4 : decode cX2_look 4 = .ok (.iload_n 1, 1) := by decide +kernel
theorem dX2_look_5 : decode cX2_look 5 = .ok (.iadd, 1) := by decide +kernel
theorem dX2_look_6 : decode cX2_look 6 = .ok (.istore_n 2, 1) := by decide +kernel
theorem dX2_look_7 : decode cX2_look 7 = .ok (.iload_n 2, 1) := by decide +kernel
theorem dX2_look_8 : decode cX2_look 8 = .ok (.ifCond .lt 25, 3) := by decide +kernel
theorem dX2_look_11 : decode cX2_look 11 = .ok (.iload_n 2, 1) := by decide +kernel
theorem dX2_look_12 : decode cX2_look 12 = .ok (.aload_n 0, 1) := by decide +kernel
theorem dX2_look_13 : decode cX2_look 13 = .ok (.getfield 17, 3) := by decide +kernel
theorem dX2_look_16 : decode cX2_look 16 = .ok (.if_icmp .ge 17, 3) := by decide +kernel
theorem dX2_look_19 : decode cX2_look 19 = .ok (.aload_n 0, 1) := by decide +kernel
theorem dX2_look_20 : decode cX2_look 20 = .ok (.getfield 7, 3) := by decide +kernel
theorem dX2_look_23 : decode cX2_look 23 = .ok (.aload_n 0, 1) := by decide +kernel
theorem dX2_look_24 : decode cX2_look 24 = .ok (.getfield 13, 3) := by decide +kernel
theorem dX2_look_27 : decode cX2_look 27 = .ok (.iload_n 2, 1) := by decide +kernel
theorem dX2_look_28 : decode cX2_look 28 = .ok (.iadd, 1) := by decide +kernel
theorem dX2_look_29 : decode cX2_look 29 = .ok (.iaload, 1) := by decide +kernel
theorem dX2_look_30 : decode cX2_look 30 = .ok (.goto 4, 3) := by decide +kernel
theorem dX2_look_33 : decode cX2_look 33 = .ok (.iconst 0, 1) := by decide +kernel
theorem dX2_look_34 : decode cX2_look 34 = .ok (.ireturn, 1) := by decide +kernel
theorem dX2_isAtEnd_0 : decode cX2_isAtEnd 0 = .ok (.aload_n 0, 1) := by decide +kernel
theorem dX2_isAtEnd_1 : decode cX2_isAtEnd 1 = .ok (.getfield 20, 3) := by decide +kernel
theorem dX2_isAtEnd_4 : decode cX2_isAtEnd 4 = .ok (.aload_n 0, 1) := by decide +kernel
theorem dX2_isAtEnd_5 : decode cX2_isAtEnd 5 = .ok (.getfield 17, 3) := by decide +kernel
theorem dX2_isAtEnd_8 : decode cX2_isAtEnd 8 = .ok (.if_icmp .lt 7, 3) := by decide +kernel
theorem dX2_isAtEnd_11 : decode cX2_isAtEnd 11 = .ok (.iconst 1, 1) := by decide +kernel
theorem dX2_isAtEnd_12 : decode cX2_isAtEnd 12 = .ok (.goto 4, 3) := by decide +kernel
theorem dX2_isAtEnd_15 : decode cX2_isAtEnd 15 = .ok (.iconst 0, 1) := by decide +kernel
theorem dX2_isAtEnd_16 : decode cX2_isAtEnd 16 = .ok (.ireturn, 1) := by decide +kernel
theorem dX2_pass_0 : decode cX2_pass 0 = .ok (.aload_n 0, 1) := by decide +kernel
theorem dX2_pass_1 : decode cX2_pass 1 = .ok (.iconst 0, 1) := by decide +kernel
theorem dX2_pass_2 : decode cX2_pass 2 = .ok (.invokevirtual 23, 3) := by decide +kernel
theorem dX2_pass_5 : decode cX2_pass 5 = .ok (.iload_n 1, 1) := by decide +kernel
theorem dX2_pass_6 : decode cX2_pass 6 = .ok (.if_icmp .ne 7, 3) := by decide +kernel
theorem dX2_pass_9 : decode cX2_pass 9 = .ok (.iconst 1, 1) := by decide +kernel
theorem dX2_pass_10 : decode cX2_pass 10 = .ok (.goto 4, 3) := by decide +kernel
theorem dX2_pass_13 : decode cX2_pass 13 = .ok (.iconst 0, 1) := by decide +kernel
theorem dX2_pass_14 : decode cX2_pass 14 = .ok (.istore_n 2, 1) := by decide +kernel
theorem dX2_pass_15 : decode cX2_pass 15 = .ok (.iload_n 2, 1) := by decide +kernel
theorem dX2_pass_16 : decode cX2_pass 16 = .ok (.ifCond .eq 13, 3) := by decide +kernel
theorem dX2_pass_19 : decode cX2_pass 19 = .ok (.aload_n 0, 1) := by decide +kernel
theorem dX2_pass_20 : decode cX2_pass 20 = .ok (.dup, 1) := by decide +kernel
theorem dX2_pass_21 : decode cX2_pass 21 = .ok (.getfield 20, 3) := by decide +kernel
theorem dX2_pass_24 : decode cX2_pass 24 = .ok (.iconst 1, 1) := by decide +kernel
theorem dX2_pass_25 : decode cX2_pass 25 = .ok (.iadd, 1) := by decide +kernel
theorem dX2_pass_26 : decode cX2_pass 26 = .ok (.putfield 20, 3) := by decide +kernel
theorem dX2_pass_29 : decode cX2_pass 29 = .ok (.iload_n 2, 1) := by decide +kernel
theorem dX2_pass_30 : decode cX2_pass 30 = .ok (.ireturn, 1) := by decide +kernel
theorem dX2_isAtCell_0 : decode cX2_isAtCell 0 = .ok (.aload_n 0, 1) := by decide +kernel
theorem dX2_isAtCell_1 : decode cX2_isAtCell 1 = .ok (.iconst 0, 1) := by decide +kernel
theorem dX2_isAtCell_2 : decode cX2_isAtCell 2 = .ok (.invokevirtual 23, 3) := by decide +kernel
theorem dX2_isAtCell_5 : decode cX2_isAtCell 5 = .ok (.invokestatic 27, 3) := by decide +kernel
theorem dX2_isAtCell_8 : decode cX2_isAtCell 8 = .ok (.ifCond .eq 18, 3) := by decide +kernel
theorem dX2_isAtCell_11 : decode cX2_isAtCell 11 = .ok (.aload_n 0, 1) := by decide +kernel
theorem dX2_isAtCell_12 : decode cX2_isAtCell 12 = .ok (.iconst 1, 1) := by decide +kernel
theorem dX2_isAtCell_13 : decode cX2_isAtCell 13 = .ok (.invokevirtual 23, 3) := by decide +kernel
theorem dX2_isAtCell_16 : decode cX2_isAtCell 16 = .ok (.invokestatic 33, 3) := by decide +kernel
theorem dX2_isAtCell_19 : decode cX2_isAtCell 19 = .ok (.ifCond .eq 7, 3) := by decide +kernel
theorem dX2_isAtCell_22 : decode cX2_isAtCell 22 = .ok (.iconst 1, 1) := by decide +kernel
theorem dX2_isAtCell_23 : decode cX2_isAtCell 23 = .ok (.goto 4, 3) := by decide +kernel
theorem dX2_isAtCell_26 : decode cX2_isAtCell 26 = .ok (.iconst 0, 1) := by decide +kernel
theorem dX2_isAtCell_27 : decode cX2_isAtCell 27 = .ok (.ireturn, 1) := by decide +kernel
theorem dX2_matching_0 : decode cX2_matching 0 = .ok (.iconst 0, 1) := by decide +kernel
theorem dX2_matching_1 : decode cX2_matching 1 = .ok (.istore_n 2, 1) := by decide +kernel
theorem dX2_matching_2 : decode cX2_matching 2 = .ok (.iload_n 2, 1) := by decide +kernel
theorem dX2_matching_3 : decode cX2_matching 3 = .ok (.aload_n 1, 1) := by decide +kernel
theorem dX2_matching_4 : decode cX2_matching 4 = .ok (.invokevirtual 36, 3) := by decide +kernel
theorem dX2_matching_7 : decode cX2_matching 7 = .ok (.if_icmp .ge 24, 3) := by decide +kernel
theorem dX2_matching_10 : decode cX2_matching 10 = .ok (.aload_n 0, 1) := by decide +kernel
theorem dX2_matching_11 : decode cX2_matching 11 = .ok (.iload_n 2, 1) := by decide +kernel
theorem dX2_matching_12 : decode cX2_matching 12 = .ok (.invokevirtual 23, 3) := by decide +kernel
theorem dX2_matching_15 : decode cX2_matching 15 = .ok (.aload_n 1, 1) := by decide +kernel
theorem dX2_matching_16 : decode cX2_matching 16 = .ok (.iload_n 2, 1) := by decide +kernel
theorem dX2_matching_17 : decode cX2_matching 17 = .ok (.invokevirtual 41, 3) := by decide +kernel
theorem dX2_matching_20 : decode cX2_matching 20 = .ok (.if_icmp .eq 5, 3) := by decide +kernel
theorem dX2_matching_23 : decode cX2_matching 23 = .ok (.iload_n 2, 1) := by decide +kernel
theorem dX2_matching_24 : decode cX2_matching 24 = .ok (.ireturn, 1) := by decide +kernel
theorem dX2_matching_25 : decode cX2_matching 25 = .ok (.iinc 2 1, 3) := by decide +kernel
theorem dX2_matching_28 : decode cX2_matching 28 = .ok (.goto (-26), 3) := by decide +kernel
theorem dX2_matching_31 : decode cX2_matching 31 = .ok (.aload_n 1, 1) := by decide +kernel
theorem dX2_matching_32 : decode cX2_matching 32 = .ok (.invokevirtual 36, 3) := by decide +kernel
theorem dX2_matching_35 : decode cX2_matching 35 = .ok (.ireturn, 1) := by decide +kernel
theorem dX3_init_0 : decode cX3_init 0 = .ok (.aload_n 0, 1) := by decide +kernel
theorem dX3_init_1 : decode cX3_init 1 = .ok (.invokespecial 3, 3) := by decide +kernel
theorem dX3_init_4 : decode cX3_init 4 = .ok (.aload_n 0, 1) := by decide +kernel
theorem dX3_init_5 : decode cX3_init 5 = .ok (.new 9, 3) := by decide +kernel
theorem dX3_init_8 : decode cX3_init 8 = .ok (.dup, 1) := by decide +kernel
theorem dX3_init_9 : decode cX3_init 9 = .ok (.invokespecial 11, 3) := by decide +kernel
theorem dX3_init_12 : decode cX3_init 12 = .ok (.putfield 12, 3) := by decide +kernel
theorem dX3_init_15 : decode cX3_init 15 = .ok (.aload_n 0, 1) := by decide +kernel
theorem dX3_init_16 : decode cX3_init 16 = .ok (.bipush 72, 2) := by decide +kernel
theorem dX3_init_18 : decode cX3_init 18 = .ok (.newarray .int, 2) := by decide +kernel
theorem dX3_init_20 : decode cX3_init 20 = .ok (.putfield 18, 3) := by decide +kernel
theorem dX3_init_23 : decode cX3_init 23 = .ok (.aload_n 0, 1) := by decide +kernel
theorem dX3_init_24 : decode cX3_init 24 = .ok (.bipush 72, 2) := by decide +kernel
theorem dX3_init_26 : decode cX3_init 26 = .ok (.newarray .int, 2) := by decide +kernel
theorem dX3_init_28 : decode cX3_init 28 = .ok (.putfield 22, 3) := by decide +kernel
theorem dX3_init_31 : decode cX3_init 31 = .ok (.aload_n 0, 1) := by decide +kernel
theorem dX3_init_32 : decode cX3_init 32 = .ok (.aload_n 1, 1) := by decide +kernel
theorem dX3_init_33 : decode cX3_init 33 = .ok (.putfield 25, 3) := by decide +kernel
theorem dX3_init_36 : decode cX3_init 36 = .ok (.return_, 1) := by decide +kernel
theorem dX3_evaluate_0 : decode cX3_evaluate 0 = .ok (.aload_n 0, 1) := by decide +kernel
theorem dX3_evaluate_1 : decode cX3_evaluate 1 = .ok (.aload_n 1, 1) := by decide +kernel
theorem dX3_evaluate_2 : decode cX3_evaluate 2 = .ok (.putfield 25, 3) := by decide +kernel
theorem dX3_evaluate_5 : decode cX3_evaluate 5 = .ok (.aload_n 0, 1) := by decide +kernel
theorem dX3_evaluate_6 : decode cX3_evaluate 6 = .ok (.iload_n 2, 1) := by decide +kernel
theorem dX3_evaluate_7 : decode cX3_evaluate 7 = .ok (.putfield 29, 3) := by decide +kernel
theorem dX3_evaluate_10 : decode cX3_evaluate 10 = .ok (.aload_n 0, 1) := by decide +kernel
theorem dX3_evaluate_11 : decode cX3_evaluate 11 = .ok (.iconst 0, 1) := by decide +kernel
theorem dX3_evaluate_12 : decode cX3_evaluate 12 = .ok (.putfield 33, 3) := by decide +kernel
theorem dX3_evaluate_15 : decode cX3_evaluate 15 = .ok (.aload_n 0, 1) := by decide +kernel
theorem dX3_evaluate_16 : decode cX3_evaluate 16 = .ok (.iconst (-1), 1) := by decide +kernel
theorem dX3_evaluate_17 : decode cX3_evaluate 17 = .ok (.putfield 36, 3) := by decide +kernel
theorem dX3_evaluate_20 : decode cX3_evaluate 20 = .ok (.aload_n 0, 1) := by decide +kernel
theorem dX3_evaluate_21 : decode cX3_evaluate 21 = .ok (.dup, 1) := by decide +kernel
theorem dX3_evaluate_22 : decode cX3_evaluate 22 = .ok (.getfield 39, 3) := by decide +kernel
theorem dX3_evaluate_25 : decode cX3_evaluate 25 = .ok (.iconst 1, 1) := by decide +kernel
theorem dX3_evaluate_26 : decode cX3_evaluate 26 = .ok (.iadd, 1) := by decide +kernel
theorem dX3_evaluate_27 : decode cX3_evaluate 27 = .ok (.putfield 39, 3) := by decide +kernel
theorem dX3_evaluate_30 : decode cX3_evaluate 30 = .ok (.aload_n 1, 1) := by decide +kernel
theorem dX3_evaluate_31 : decode cX3_evaluate 31 = .ok (.getfield 42, 3) := by decide +kernel
theorem dX3_evaluate_34 : decode cX3_evaluate 34 = .ok (.iload_n 2, 1) := by decide +kernel
theorem dX3_evaluate_35 : decode cX3_evaluate 35 = .ok (.iconst 0, 1) := by decide +kernel
theorem dX3_evaluate_36 : decode cX3_evaluate 36 = .ok (.iastore, 1) := by decide +kernel
theorem dX3_evaluate_37 : decode cX3_evaluate 37 = .ok (.aload_n 0, 1) := by decide +kernel
theorem dX3_evaluate_38 : decode cX3_evaluate 38 = .ok (.getfield 12, 3) := by decide +kernel
theorem dX3_evaluate_41 : decode cX3_evaluate 41 = .ok (.aload_n 1, 1) := by decide +kernel
theorem dX3_evaluate_42 : decode cX3_evaluate 42 = .ok (.getfield 47, 3) := by decide +kernel
theorem dX3_evaluate_45 : decode cX3_evaluate 45 = .ok (.getfield 51, 3) := by decide +kernel
theorem dX3_evaluate_48 : decode cX3_evaluate 48 = .ok (.iload_n 2, 1) := by decide +kernel
theorem dX3_evaluate_49 : decode cX3_evaluate 49 = .ok (.bipush 30, 2) := by decide +kernel
theorem dX3_evaluate_51 : decode cX3_evaluate 51 = .ok (.imul, 1) := by decide +kernel
theorem dX3_evaluate_52 : decode cX3_evaluate 52 = .ok (.aload_n 1, 1) := by decide +kernel
theorem dX3_evaluate_53 : decode cX3_evaluate 53 = .ok (.getfield 47, 3) := by decide +kernel
theorem dX3_evaluate_56 : decode cX3_evaluate 56 = .ok (.getfield 56, 3) := by decide +kernel
theorem dX3_evaluate_59 : decode cX3_evaluate 59 = .ok (.iload_n 2, 1) := by decide +kernel
theorem dX3_evaluate_60 : decode cX3_evaluate 60 = .ok (.iaload, 1) := by decide +kernel
theorem dX3_evaluate_61 : decode cX3_evaluate 61 = .ok (.invokevirtual 59, 3) := by decide +kernel
theorem dX3_evaluate_64 : decode cX3_evaluate 64 = .ok (.aload_n 0, 1) := by decide +kernel
theorem dX3_evaluate_65 : decode cX3_evaluate 65 = .ok (.iconst 0, 1) := by decide +kernel
theorem dX3_evaluate_66 : decode cX3_evaluate 66 = .ok (.invokevirtual 63, 3) := by decide +kernel
theorem dX3_evaluate_69 : decode cX3_evaluate 69 = .ok (.lstore_n 3, 1) := by decide +kernel
theorem dX3_evaluate_70 : decode cX3_evaluate 70 = .ok (.aload_n 0, 1) := by decide +kernel
theorem dX3_evaluate_71 : decode cX3_evaluate 71 = .ok (.getfield 33, 3) := by decide +kernel
theorem dX3_evaluate_74 : decode cX3_evaluate 74 = .ok (.ifCond .ne 8, 3) := by decide +kernel
theorem dX3_evaluate_77 : decode cX3_evaluate 77 = .ok (.lload_n 3, 1) := by decide +kernel
theorem dX3_evaluate_78 : decode cX3_evaluate 78 = .ok (.l2i, 1) := by decide +kernel
theorem dX3_evaluate_79 : decode cX3_evaluate 79 = .ok (.goto 4, 3) := by decide +kernel
theorem dX3_evaluate_82 : decode cX3_evaluate 82 = .ok (.iconst 0, 1) := by decide +kernel
theorem dX3_evaluate_83 : decode cX3_evaluate 83 = .ok (.ireturn, 1) := by decide +kernel
theorem dX3_formula_0 : decode cX3_formula 0 = .ok (.aload_n 0, 1) := by decide +kernel
theorem dX3_formula_1 : decode cX3_formula 1 = .ok (.iload_n 1, 1) := by decide +kernel
theorem dX3_formula_2 : decode cX3_formula 2 = .ok (.invokevirtual 67, 3) := by decide +kernel
theorem dX3_formula_5 : decode cX3_formula 5 = .ok (.lstore_n 2, 1) := by decide +kernel
theorem dX3_formula_6 : decode cX3_formula 6 = .ok (.iconst 0, 1) := by decide +kernel
theorem dX3_formula_7 : decode cX3_formula 7 = .ok (.istore 4, 2) := by decide +kernel
theorem dX3_formula_9 : decode cX3_formula 9 = .ok (.iload 4, 2) := by decide +kernel
theorem dX3_formula_11 : decode cX3_formula 11 = .ok (.bipush 30, 2) := by decide +kernel
theorem dX3_formula_13 : decode cX3_formula 13 = .ok (.if_icmp .ge 72, 3) := by decide +kernel
theorem dX3_formula_16 : decode cX3_formula 16 = .ok (.aload_n 0, 1) := by decide +kernel
theorem dX3_formula_17 : decode cX3_formula 17 = .ok (.getfield 33, 3) := by decide +kernel
theorem dX3_formula_20 : decode cX3_formula 20 = .ok (.ifCond .ne 65, 3) := by decide +kernel
theorem dX3_formula_23 : decode cX3_formula 23 = .ok (.aload_n 0, 1) := by decide +kernel
theorem dX3_formula_24 : decode cX3_formula 24 = .ok (.getfield 12, 3) := by decide +kernel
theorem dX3_formula_27 : decode cX3_formula 27 = .ok (.bipush 43, 2) := by decide +kernel
theorem dX3_formula_29 : decode cX3_formula 29 = .ok (.invokevirtual 70, 3) := by decide +kernel
theorem dX3_formula_32 : decode cX3_formula 32 = .ok (.ifCond .eq 18, 3) := by decide +kernel
theorem dX3_formula_35 : decode cX3_formula 35 = .ok (.aload_n 0, 1) := by decide +kernel
theorem dX3_formula_36 : decode cX3_formula 36 = .ok (.lload_n 2, 1) := by decide +kernel
theorem dX3_formula_37 : decode cX3_formula 37 = .ok (.aload_n 0, 1) := by decide +kernel
theorem dX3_formula_38 : decode cX3_formula 38 = .ok (.iload_n 1, 1) := by decide +kernel
theorem dX3_formula_39 : decode cX3_formula 39 = .ok (.invokevirtual 67, 3) := by decide +kernel
theorem dX3_formula_42 : decode cX3_formula 42 = .ok (.ladd, 1) := by decide +kernel
theorem dX3_formula_43 : decode cX3_formula 43 = .ok (.invokevirtual 74, 3) := by decide +kernel
theorem dX3_formula_46 : decode cX3_formula 46 = .ok (.lstore_n 2, 1) := by decide +kernel
theorem dX3_formula_47 : decode cX3_formula 47 = .ok (.goto 32, 3) := by decide +kernel
theorem dX3_formula_50 : decode cX3_formula 50 = .ok (.aload_n 0, 1) := by decide +kernel
theorem dX3_formula_51 : decode cX3_formula 51 = .ok (.getfield 12, 3) := by decide +kernel
theorem dX3_formula_54 : decode cX3_formula 54 = .ok (.bipush 45, 2) := by decide +kernel
theorem dX3_formula_56 : decode cX3_formula 56 = .ok (.invokevirtual 70, 3) := by decide +kernel
theorem dX3_formula_59 : decode cX3_formula 59 = .ok (.ifCond .eq 18, 3) := by decide +kernel
theorem dX3_formula_62 : decode cX3_formula 62 = .ok (.aload_n 0, 1) := by decide +kernel
theorem dX3_formula_63 : decode cX3_formula 63 = .ok (.lload_n 2, 1) := by decide +kernel
theorem dX3_formula_64 : decode cX3_formula 64 = .ok (.aload_n 0, 1) := by decide +kernel
theorem dX3_formula_65 : decode cX3_formula 65 = .ok (.iload_n 1, 1) := by decide +kernel
theorem dX3_formula_66 : decode cX3_formula 66 = .ok (.invokevirtual 67, 3) := by decide +kernel
theorem dX3_formula_69 : decode cX3_formula 69 = .ok (.lsub, 1) := by decide +kernel
theorem dX3_formula_70 : decode cX3_formula 70 = .ok (.invokevirtual 74, 3) := by decide +kernel
theorem dX3_formula_73 : decode cX3_formula 73 = .ok (.lstore_n 2, 1) := by decide +kernel
theorem dX3_formula_74 : decode cX3_formula 74 = .ok (.goto 5, 3) := by decide +kernel
theorem dX3_formula_77 : decode cX3_formula 77 = .ok (.lload_n 2, 1) := by decide +kernel
theorem dX3_formula_78 : decode cX3_formula 78 = .ok (.lreturn, 1) := by decide +kernel
theorem dX3_formula_79 : decode cX3_formula 79 = .ok (.iinc 4 1, 3) := by decide +kernel
theorem dX3_formula_82 : decode cX3_formula 82 = .ok (.goto (-73), 3) := by decide +kernel
theorem dX3_formula_85 : decode cX3_formula 85 = .ok (.lload_n 2, 1) := by decide +kernel
theorem dX3_formula_86 : decode cX3_formula 86 = .ok (.lreturn, 1) := by decide +kernel
theorem dX3_product_0 : decode cX3_product 0 = .ok (.aload_n 0, 1) := by decide +kernel
theorem dX3_product_1 : decode cX3_product 1 = .ok (.iload_n 1, 1) := by decide +kernel
theorem dX3_product_2 : decode cX3_product 2 = .ok (.invokevirtual 78, 3) := by decide +kernel
theorem dX3_product_5 : decode cX3_product 5 = .ok (.lstore_n 2, 1) := by decide +kernel
theorem dX3_product_6 : decode cX3_product 6 = .ok (.iconst 0, 1) := by decide +kernel
theorem dX3_product_7 : decode cX3_product 7 = .ok (.istore 4, 2) := by decide +kernel
theorem dX3_product_9 : decode cX3_product 9 = .ok (.iload 4, 2) := by decide +kernel
theorem dX3_product_11 : decode cX3_product 11 = .ok (.bipush 30, 2) := by decide +kernel
theorem dX3_product_13 : decode cX3_product 13 = .ok (.if_icmp .ge 42, 3) := by decide +kernel
theorem dX3_product_16 : decode cX3_product 16 = .ok (.aload_n 0, 1) := by decide +kernel
theorem dX3_product_17 : decode cX3_product 17 = .ok (.getfield 33, 3) := by decide +kernel
theorem dX3_product_20 : decode cX3_product 20 = .ok (.ifCond .ne 35, 3) := by decide +kernel
theorem dX3_product_23 : decode cX3_product 23 = .ok (.aload_n 0, 1) := by decide +kernel
theorem dX3_product_24 : decode cX3_product 24 = .ok (.getfield 12, 3) := by decide +kernel
theorem dX3_product_27 : decode cX3_product 27 = .ok (.bipush 42, 2) := by decide +kernel
theorem dX3_product_29 : decode cX3_product 29 = .ok (.invokevirtual 70, 3) := by decide +kernel
theorem dX3_product_32 : decode cX3_product 32 = .ok (.ifCond .ne 5, 3) := by decide +kernel
theorem dX3_product_35 : decode cX3_product 35 = .ok (.lload_n 2, 1) := by decide +kernel
theorem dX3_product_36 : decode cX3_product 36 = .ok (.lreturn, 1) := by decide +kernel
theorem dX3_product_37 : decode cX3_product 37 = .ok (.aload_n 0, 1) := by decide +kernel
theorem dX3_product_38 : decode cX3_product 38 = .ok (.lload_n 2, 1) := by decide +kernel
theorem dX3_product_39 : decode cX3_product 39 = .ok (.aload_n 0, 1) := by decide +kernel
theorem dX3_product_40 : decode cX3_product 40 = .ok (.iload_n 1, 1) := by decide +kernel
theorem dX3_product_41 : decode cX3_product 41 = .ok (.invokevirtual 78, 3) := by decide +kernel
theorem dX3_product_44 : decode cX3_product 44 = .ok (.lmul, 1) := by decide +kernel
theorem dX3_product_45 : decode cX3_product 45 = .ok (.invokevirtual 74, 3) := by decide +kernel
theorem dX3_product_48 : decode cX3_product 48 = .ok (.lstore_n 2, 1) := by decide +kernel
theorem dX3_product_49 : decode cX3_product 49 = .ok (.iinc 4 1, 3) := by decide +kernel
theorem dX3_product_52 : decode cX3_product 52 = .ok (.goto (-43), 3) := by decide +kernel
theorem dX3_product_55 : decode cX3_product 55 = .ok (.lload_n 2, 1) := by decide +kernel
theorem dX3_product_56 : decode cX3_product 56 = .ok (.lreturn, 1) := by decide +kernel
theorem dX3_bounded_0 : decode cX3_bounded 0 = .ok (.aload_n 0, 1) := by decide +kernel
theorem dX3_bounded_1 : decode cX3_bounded 1 = .ok (.getfield 33, 3) := by decide +kernel
theorem dX3_bounded_4 : decode cX3_bounded 4 = .ok (.ifCond .eq 5, 3) := by decide +kernel
theorem dX3_bounded_7 : decode cX3_bounded 7 = .ok (.lconst 0, 1) := by decide +kernel
theorem dX3_bounded_8 : decode cX3_bounded 8 = .ok (.lreturn, 1) := by decide +kernel
theorem dX3_bounded_9 : decode cX3_bounded 9 = .ok (.lload_n 1, 1) := by decide +kernel
theorem dX3_bounded_10 : decode cX3_bounded 10 = .ok (.ldc2_w 81, 3) := by decide +kernel
theorem dX3_bounded_13 : decode cX3_bounded 13 = .ok (.lcmp, 1) := by decide +kernel
theorem dX3_bounded_14 : decode cX3_bounded 14 = .ok (.ifCond .lt 11, 3) := by decide +kernel
theorem dX3_bounded_17 : decode cX3_bounded 17 = .ok (.lload_n 1, 1) := by decide +kernel
theorem dX3_bounded_18 : decode cX3_bounded 18 = .ok (.ldc2_w 83, 3) := by decide +kernel
theorem dX3_bounded_21 : decode cX3_bounded 21 = .ok (.lcmp, 1) := by decide +kernel
theorem dX3_bounded_22 : decode cX3_bounded 22 = .ok (.ifCond .le 10, 3) := by decide +kernel
theorem dX3_bounded_25 : decode cX3_bounded 25 = .ok (.aload_n 0, 1) := by decide +kernel
theorem dX3_bounded_26 : decode cX3_bounded 26 = .ok (.iconst 1, 1) := by decide +kernel
theorem dX3_bounded_27 : decode cX3_bounded 27 = .ok (.putfield 33, 3) := by decide +kernel
theorem dX3_bounded_30 : decode cX3_bounded 30 = .ok (.lconst 0, 1) := by decide +kernel
theorem dX3_bounded_31 : decode cX3_bounded 31 = .ok (.lreturn, 1) := by decide +kernel
theorem dX3_bounded_32 : decode cX3_bounded 32 = .ok (.lload_n 1, 1) := by decide +kernel
theorem dX3_bounded_33 : decode cX3_bounded 33 = .ok (.lreturn, 1) := by decide +kernel
theorem dX3_fail_0 : decode cX3_fail 0 = .ok (.aload_n 0, 1) := by decide +kernel
theorem dX3_fail_1 : decode cX3_fail 1 = .ok (.iload_n 1, 1) := by decide +kernel
theorem dX3_fail_2 : decode cX3_fail 2 = .ok (.putfield 33, 3) := by decide +kernel
theorem dX3_fail_5 : decode cX3_fail 5 = .ok (.lconst 0, 1) := by decide +kernel
theorem dX3_fail_6 : decode cX3_fail 6 = .ok (.lreturn, 1) := by decide +kernel
theorem dX3_factor_0 : decode cX3_factor 0 = .ok (.iload_n 1, 1) := by decide +kernel
theorem dX3_factor_1 : decode cX3_factor 1 = .ok (.bipush 40, 2) := by decide +kernel
theorem dX3_factor_3 : decode cX3_factor 3 = .ok (.if_icmp .le 9, 3) := by decide +kernel
theorem dX3_factor_6 : decode cX3_factor 6 = .ok (.aload_n 0, 1) := by decide +kernel
theorem dX3_factor_7 : decode cX3_factor 7 = .ok (.iconst 1, 1) := by decide +kernel
theorem dX3_factor_8 : decode cX3_factor 8 = .ok (.invokevirtual 85, 3) := by decide +kernel
theorem dX3_factor_11 : decode cX3_factor 11 = .ok (.lreturn, 1) := by decide +kernel
theorem dX3_factor_12 : decode cX3_factor 12 = .ok (.aload_n 0, 1) := by decide +kernel
theorem dX3_factor_13 : decode cX3_factor 13 = .ok (.getfield 12, 3) := by decide +kernel
theorem dX3_factor_16 : decode cX3_factor 16 = .ok (.bipush 45, 2) := by decide +kernel
theorem dX3_factor_18 : decode cX3_factor 18 = .ok (.invokevirtual 70, 3) := by decide +kernel
theorem dX3_factor_21 : decode cX3_factor 21 = .ok (.ifCond .eq 12, 3) := by decide +kernel
theorem dX3_factor_24 : decode cX3_factor 24 = .ok (.aload_n 0, 1) := by decide +kernel
theorem dX3_factor_25 : decode cX3_factor 25 = .ok (.iload_n 1, 1) := by decide +kernel
theorem dX3_factor_26 : decode cX3_factor 26 = .ok (.iconst 1, 1) := by decide +kernel
theorem dX3_factor_27 : decode cX3_factor 27 = .ok (.iadd, 1) := by decide +kernel
theorem dX3_factor_28 : decode cX3_factor 28 = .ok (.invokevirtual 78, 3) := by decide +kernel
theorem dX3_factor_31 : decode cX3_factor 31 = .ok (.lneg, 1) := by decide +kernel
theorem dX3_factor_32 : decode cX3_factor 32 = .ok (.lreturn, 1) := by decide +kernel
theorem dX3_factor_33 : decode cX3_factor 33 = .ok (.aload_n 0, 1) := by decide +kernel
theorem dX3_factor_34 : decode cX3_factor 34 = .ok (.getfield 12, 3) := by decide +kernel
theorem dX3_factor_37 : decode cX3_factor 37 = .ok (.bipush 40, 2) := by decide +kernel
theorem dX3_factor_39 : decode cX3_factor 39 = .ok (.invokevirtual 70, 3) := by decide +kernel
theorem dX3_factor_42 : decode cX3_factor 42 = .ok (.ifCond .eq 26, 3) := by decide +kernel
theorem dX3_factor_45 : decode cX3_factor 45 = .ok (.aload_n 0, 1) := by decide +kernel
theorem dX3_factor_46 : decode cX3_factor 46 = .ok (.iload_n 1, 1) := by decide +kernel
theorem dX3_factor_47 : decode cX3_factor 47 = .ok (.iconst 1, 1) := by decide +kernel
theorem dX3_factor_48 : decode cX3_factor 48 = .ok (.iadd, 1) := by decide +kernel
theorem dX3_factor_49 : decode cX3_factor 49 = .ok (.invokevirtual 63, 3) := by decide +kernel
theorem dX3_factor_52 : decode cX3_factor 52 = .ok (.lstore_n 2, 1) := by decide +kernel
theorem dX3_factor_53 : decode cX3_factor 53 = .ok (.aload_n 0, 1) := by decide +kernel
theorem dX3_factor_54 : decode cX3_factor 54 = .ok (.getfield 12, 3) := by decide +kernel
theorem dX3_factor_57 : decode cX3_factor 57 = .ok (.dup, 1) := by decide +kernel
theorem dX3_factor_58 : decode cX3_factor 58 = .ok (.getfield 88, 3) := by decide +kernel
theorem dX3_factor_61 : decode cX3_factor 61 = .ok (.iconst 1, 1) := by decide +kernel
theorem dX3_factor_62 : decode cX3_factor 62 = .ok (.iadd, 1) := by decide +kernel
theorem dX3_factor_63 : decode cX3_factor 63 = .ok (.putfield 88, 3) := by decide +kernel
theorem dX3_factor_66 : decode cX3_factor 66 = .ok (.lload_n 2, 1) := by decide +kernel
theorem dX3_factor_67 : decode cX3_factor 67 = .ok (.lreturn, 1) := by decide +kernel
theorem dX3_factor_68 : decode cX3_factor 68 = .ok (.aload_n 0, 1) := by decide +kernel
theorem dX3_factor_69 : decode cX3_factor 69 = .ok (.getfield 12, 3) := by decide +kernel
theorem dX3_factor_72 : decode cX3_factor 72 = .ok (.iconst 0, 1) := by decide +kernel
theorem dX3_factor_73 : decode cX3_factor 73 = .ok (.invokevirtual 91, 3) := by decide +kernel
theorem dX3_factor_76 : decode cX3_factor 76 = .ok (.invokestatic 95, 3) := by decide +kernel
theorem dX3_factor_79 : decode cX3_factor 79 = .ok (.ifCond .eq 8, 3) := by decide +kernel
theorem dX3_factor_82 : decode cX3_factor 82 = .ok (.aload_n 0, 1) := by decide +kernel
theorem dX3_factor_83 : decode cX3_factor 83 = .ok (.invokevirtual 98, 3) := by decide +kernel
theorem dX3_factor_86 : decode cX3_factor 86 = .ok (.lreturn, 1) := by decide +kernel
theorem dX3_factor_87 : decode cX3_factor 87 = .ok (.aload_n 0, 1) := by decide +kernel
theorem dX3_factor_88 : decode cX3_factor 88 = .ok (.getfield 12, 3) := by decide +kernel
theorem dX3_factor_91 : decode cX3_factor 91 = .ok (.invokevirtual 102, 3) := by decide +kernel
theorem dX3_factor_94 : decode cX3_factor 94 = .ok (.ifCond .eq 12, 3) := by decide +kernel
theorem dX3_factor_97 : decode cX3_factor 97 = .ok (.aload_n 0, 1) := by decide +kernel
theorem dX3_factor_98 : decode cX3_factor 98 = .ok (.aload_n 0, 1) := by decide +kernel
theorem dX3_factor_99 : decode cX3_factor 99 = .ok (.invokevirtual 106, 3) := by decide +kernel
theorem dX3_factor_102 : decode cX3_factor 102 = .ok (.invokevirtual 110, 3) := by decide +kernel
theorem dX3_factor_105 : decode cX3_factor 105 = .ok (.lreturn, 1) := by decide +kernel
theorem dX3_factor_106 : decode cX3_factor 106 = .ok (.aload_n 0, 1) := by decide +kernel
theorem dX3_factor_107 : decode cX3_factor 107 = .ok (.iload_n 1, 1) := by decide +kernel
theorem dX3_factor_108 : decode cX3_factor 108 = .ok (.iconst 1, 1) := by decide +kernel
theorem dX3_factor_109 : decode cX3_factor 109 = .ok (.iadd, 1) := by decide +kernel
theorem dX3_factor_110 : decode cX3_factor 110 = .ok (.invokevirtual 113, 3) := by decide +kernel
theorem dX3_factor_113 : decode cX3_factor 113 = .ok (.lreturn, 1) := by decide +kernel
theorem dX3_passNumber_0 : decode cX3_passNumber 0 = .ok (.lconst 0, 1) := by decide +kernel
theorem dX3_passNumber_1 : decode cX3_passNumber 1 = .ok (.lstore_n 1, 1) := by decide +kernel
theorem dX3_passNumber_2 : decode cX3_passNumber 2 = .ok (.iconst 0, 1) := by decide +kernel
theorem dX3_passNumber_3 : decode cX3_passNumber 3 = .ok (.istore_n 3, 1) := by decide +kernel
theorem dX3_passNumber_4 : decode cX3_passNumber 4 = .ok (.iload_n 3, 1) := by decide +kernel
theorem dX3_passNumber_5 : decode cX3_passNumber 5 = .ok (.bipush 6, 2) := by decide +kernel
theorem dX3_passNumber_7 : decode cX3_passNumber 7 = .ok (.if_icmp .ge 56, 3) := by decide +kernel
theorem dX3_passNumber_10 : decode cX3_passNumber 10 = .ok (.aload_n 0, 1) := by decide +kernel
theorem dX3_passNumber_11 : decode cX3_passNumber 11 = .ok (.getfield 12, 3) := by decide +kernel
theorem dX3_passNumber_14 : decode cX3_passNumber 14 = .ok (.iconst 0, 1) := by decide +kernel
theorem dX3_passNumber_15 : decode cX3_passNumber 15 = .ok (.invokevirtual 91, 3) := by decide +kernel
theorem dX3_passNumber_18 : decode cX3_passNumber 18 = .ok (.invokestatic 95, 3) := by decide +kernel
theorem dX3_passNumber_21 : decode cX3_passNumber 21 = .ok (.ifCond .eq 42, 3) := by decide +kernel
theorem dX3_passNumber_24 : decode cX3_passNumber 24 = .ok (.lload_n 1, 1) := by decide +kernel
theorem dX3_passNumber_25 : decode cX3_passNumber 25 = .ok (.ldc2_w 116, 3) := by decide +kernel
theorem dX3_passNumber_28 : decode cX3_passNumber 28 = .ok (.lmul, 1) := by decide +kernel
theorem dX3_passNumber_29 : decode cX3_passNumber 29 = .ok (.aload_n 0, 1) := by decide +kernel
theorem dX3_passNumber_30 : decode cX3_passNumber 30 = .ok (.getfield 12, 3) := by decide +kernel
theorem dX3_passNumber_33 : decode cX3_passNumber 33 = .ok (.iconst 0, 1) := by decide +kernel
theorem dX3_passNumber_34 : decode cX3_passNumber 34 = .ok (.invokevirtual 91, 3) := by decide +kernel
theorem dX3_passNumber_37 : decode cX3_passNumber 37 = .ok (.i2l, 1) := by decide +kernel
theorem dX3_passNumber_38 : decode cX3_passNumber 38 = .ok (.ladd, 1) := by decide +kernel
theorem dX3_passNumber_39 : decode cX3_passNumber 39 = .ok (.ldc2_w 118, 3) := by decide +kernel
theorem dX3_passNumber_42 : decode cX3_passNumber 42 = .ok (.lsub, 1) := by decide +kernel
theorem dX3_passNumber_43 : decode cX3_passNumber 43 = .ok (.lstore_n 1, 1) := by decide +kernel
theorem dX3_passNumber_44 : decode cX3_passNumber 44 = .ok (.aload_n 0, 1) := by decide +kernel
theorem dX3_passNumber_45 : decode cX3_passNumber 45 = .ok (.getfield 12, 3) := by decide +kernel
theorem dX3_passNumber_48 : decode cX3_passNumber 48 = .ok (.dup, 1) := by decide +kernel
theorem dX3_passNumber_49 : decode cX3_passNumber 49 = .ok (.getfield 88, 3) := by decide +kernel
theorem dX3_passNumber_52 : decode cX3_passNumber 52 = .ok (.iconst 1, 1) := by decide +kernel
theorem dX3_passNumber_53 : decode cX3_passNumber 53 = .ok (.iadd, 1) := by decide +kernel
theorem dX3_passNumber_54 : decode cX3_passNumber 54 = .ok (.putfield 88, 3) := by decide +kernel
theorem dX3_passNumber_57 : decode cX3_passNumber 57 = .ok (.iinc 3 1, 3) := by decide +kernel
theorem dX3_passNumber_60 : decode cX3_passNumber 60 = .ok (.goto (-56), 3) := by decide +kernel
theorem dX3_passNumber_63 : decode cX3_passNumber 63 = .ok (.lload_n 1, 1) := by decide +kernel
theorem dX3_passNumber_64 : decode cX3_passNumber 64 = .ok (.lreturn, 1) := by decide +kernel
theorem dX3_passCell_0 : decode cX3_passCell 0 = .ok (.aload_n 0, 1) := by decide +kernel
theorem dX3_passCell_1 : decode cX3_passCell 1 = .ok (.getfield 12, 3) := by decide +kernel
theorem dX3_passCell_4 : decode cX3_passCell 4 = .ok (.iconst 1, 1) := by decide +kernel
theorem dX3_passCell_5 : decode cX3_passCell 5 = .ok (.invokevirtual 91, 3) := by decide +kernel
theorem dX3_passCell_8 : decode cX3_passCell 8 = .ok (.bipush 49, 2) := by decide +kernel
theorem dX3_passCell_10 : decode cX3_passCell 10 = .ok (.isub, 1) := by decide +kernel
theorem dX3_passCell_11 : decode cX3_passCell 11 = .ok (.bipush 8, 2) := by decide +kernel
theorem dX3_passCell_13 : decode cX3_passCell 13 = .ok (.imul, 1) := by decide +kernel
theorem dX3_passCell_14 : decode cX3_passCell 14 = .ok (.aload_n 0, 1) := by decide +kernel
theorem dX3_passCell_15 : decode cX3_passCell 15 = .ok (.getfield 12, 3) := by decide +kernel
theorem dX3_passCell_18 : decode cX3_passCell 18 = .ok (.iconst 0, 1) := by decide +kernel
theorem dX3_passCell_19 : decode cX3_passCell 19 = .ok (.invokevirtual 91, 3) := by decide +kernel
theorem dX3_passCell_22 : decode cX3_passCell 22 = .ok (.iadd, 1) := by decide +kernel
theorem dX3_passCell_23 : decode cX3_passCell 23 = .ok (.bipush 97, 2) := by decide +kernel
theorem dX3_passCell_25 : decode cX3_passCell 25 = .ok (.isub, 1) := by decide +kernel
theorem dX3_passCell_26 : decode cX3_passCell 26 = .ok (.istore_n 1, 1) := by decide +kernel
theorem dX3_passCell_27 : decode cX3_passCell 27 = .ok (.aload_n 0, 1) := by decide +kernel
theorem dX3_passCell_28 : decode cX3_passCell 28 = .ok (.getfield 12, 3) := by decide +kernel
theorem dX3_passCell_31 : decode cX3_passCell 31 = .ok (.dup, 1) := by decide +kernel
theorem dX3_passCell_32 : decode cX3_passCell 32 = .ok (.getfield 88, 3) := by decide +kernel
theorem dX3_passCell_35 : decode cX3_passCell 35 = .ok (.iconst 2, 1) := by decide +kernel
theorem dX3_passCell_36 : decode cX3_passCell 36 = .ok (.iadd, 1) := by decide +kernel
theorem dX3_passCell_37 : decode cX3_passCell 37 = .ok (.putfield 88, 3) := by decide +kernel
theorem dX3_passCell_40 : decode cX3_passCell 40 = .ok (.iload_n 1, 1) := by decide +kernel
theorem dX3_passCell_41 : decode cX3_passCell 41 = .ok (.ireturn, 1) := by decide +kernel
theorem dX3_readCell_0 : decode cX3_readCell 0 = .ok (.iload_n 1, 1) := by decide +kernel
theorem dX3_readCell_1 : decode cX3_readCell 1 = .ok (.invokestatic 120, 3) := by decide +kernel
theorem dX3_readCell_4 : decode cX3_readCell 4 = .ok (.ifCond .ne 9, 3) := by decide +kernel
theorem dX3_readCell_7 : decode cX3_readCell 7 = .ok (.aload_n 0, 1) := by decide +kernel
theorem dX3_readCell_8 : decode cX3_readCell 8 = .ok (.iconst 3, 1) := by decide +kernel
theorem dX3_readCell_9 : decode cX3_readCell 9 = .ok (.invokevirtual 85, 3) := by decide +kernel
theorem dX3_readCell_12 : decode cX3_readCell 12 = .ok (.lreturn, 1) := by decide +kernel
theorem dX3_readCell_13 : decode cX3_readCell 13 = .ok (.aload_n 0, 1) := by decide +kernel
theorem dX3_readCell_14 : decode cX3_readCell 14 = .ok (.getfield 22, 3) := by decide +kernel
theorem dX3_readCell_17 : decode cX3_readCell 17 = .ok (.iload_n 1, 1) := by decide +kernel
theorem dX3_readCell_18 : decode cX3_readCell 18 = .ok (.iaload, 1) := by decide +kernel
theorem dX3_readCell_19 : decode cX3_readCell 19 = .ok (.aload_n 0, 1) := by decide +kernel
theorem dX3_readCell_20 : decode cX3_readCell 20 = .ok (.getfield 39, 3) := by decide +kernel
theorem dX3_readCell_23 : decode cX3_readCell 23 = .ok (.if_icmp .eq 75, 3) := by decide +kernel
theorem dX3_readCell_26 : decode cX3_readCell 26 = .ok (.aload_n 0, 1) := by decide +kernel
theorem dX3_readCell_27 : decode cX3_readCell 27 = .ok (.getfield 25, 3) := by decide +kernel
theorem dX3_readCell_30 : decode cX3_readCell 30 = .ok (.getfield 42, 3) := by decide +kernel
theorem dX3_readCell_33 : decode cX3_readCell 33 = .ok (.aload_n 0, 1) := by decide +kernel
theorem dX3_readCell_34 : decode cX3_readCell 34 = .ok (.getfield 29, 3) := by decide +kernel
theorem dX3_readCell_37 : decode cX3_readCell 37 = .ok (.iaload, 1) := by decide +kernel
theorem dX3_readCell_38 : decode cX3_readCell 38 = .ok (.bipush 72, 2) := by decide +kernel
theorem dX3_readCell_40 : decode cX3_readCell 40 = .ok (.if_icmp .ge 58, 3) := by decide +kernel
theorem dX3_readCell_43 : decode cX3_readCell 43 = .ok (.aload_n 0, 1) := by decide +kernel
theorem dX3_readCell_44 : decode cX3_readCell 44 = .ok (.getfield 22, 3) := by decide +kernel
theorem dX3_readCell_47 : decode cX3_readCell 47 = .ok (.iload_n 1, 1) := by decide +kernel
theorem dX3_readCell_48 : decode cX3_readCell 48 = .ok (.aload_n 0, 1) := by decide +kernel
theorem dX3_readCell_49 : decode cX3_readCell 49 = .ok (.getfield 39, 3) := by decide +kernel
theorem dX3_readCell_52 : decode cX3_readCell 52 = .ok (.iastore, 1) := by decide +kernel
theorem dX3_readCell_53 : decode cX3_readCell 53 = .ok (.aload_n 0, 1) := by decide +kernel
theorem dX3_readCell_54 : decode cX3_readCell 54 = .ok (.getfield 25, 3) := by decide +kernel
theorem dX3_readCell_57 : decode cX3_readCell 57 = .ok (.getfield 123, 3) := by decide +kernel
theorem dX3_readCell_60 : decode cX3_readCell 60 = .ok (.aload_n 0, 1) := by decide +kernel
theorem dX3_readCell_61 : decode cX3_readCell 61 = .ok (.getfield 29, 3) := by decide +kernel
theorem dX3_readCell_64 : decode cX3_readCell 64 = .ok (.bipush 72, 2) := by decide +kernel
theorem dX3_readCell_66 : decode cX3_readCell 66 = .ok (.imul, 1) := by decide +kernel
theorem dX3_readCell_67 : decode cX3_readCell 67 = .ok (.aload_n 0, 1) := by decide +kernel
theorem dX3_readCell_68 : decode cX3_readCell 68 = .ok (.getfield 25, 3) := by decide +kernel
theorem dX3_readCell_71 : decode cX3_readCell 71 = .ok (.getfield 42, 3) := by decide +kernel
theorem dX3_readCell_74 : decode cX3_readCell 74 = .ok (.aload_n 0, 1) := by decide +kernel
theorem dX3_readCell_75 : decode cX3_readCell 75 = .ok (.getfield 29, 3) := by decide +kernel
theorem dX3_readCell_78 : decode cX3_readCell 78 = .ok (.iaload, 1) := by decide +kernel
theorem dX3_readCell_79 : decode cX3_readCell 79 = .ok (.iadd, 1) := by decide +kernel
theorem dX3_readCell_80 : decode cX3_readCell 80 = .ok (.iload_n 1, 1) := by decide +kernel
theorem dX3_readCell_81 : decode cX3_readCell 81 = .ok (.iastore, 1) := by decide +kernel
theorem dX3_readCell_82 : decode cX3_readCell 82 = .ok (.aload_n 0, 1) := by decide +kernel
theorem dX3_readCell_83 : decode cX3_readCell 83 = .ok (.getfield 25, 3) := by decide +kernel
theorem dX3_readCell_86 : decode cX3_readCell 86 = .ok (.getfield 42, 3) := by decide +kernel
theorem dX3_readCell_89 : decode cX3_readCell 89 = .ok (.aload_n 0, 1) := by decide +kernel
theorem dX3_readCell_90 : decode cX3_readCell 90 = .ok (.getfield 29, 3) := by decide +kernel
theorem dX3_readCell_93 : decode cX3_readCell 93 = .ok (.dup2, 1) := by decide +kernel
theorem dX3_readCell_94 : decode cX3_readCell 94 = .ok (.iaload, 1) := by decide +kernel
theorem dX3_readCell_95 : decode cX3_readCell 95 = .ok (.iconst 1, 1) := by decide +kernel
theorem dX3_readCell_96 : decode cX3_readCell 96 = .ok (.iadd, 1) := by decide +kernel
theorem dX3_readCell_97 : decode cX3_readCell 97 = .ok (.iastore, 1) := by decide +kernel
theorem dX3_readCell_98 : decode cX3_readCell 98 = .ok (.aload_n 0, 1) := by decide +kernel
theorem dX3_readCell_99 : decode cX3_readCell 99 = .ok (.getfield 18, 3) := by decide +kernel
theorem dX3_readCell_102 : decode cX3_readCell 102 = .ok (.iload_n 1, 1) := by decide +kernel
theorem dX3_readCell_103 : decode cX3_readCell 103 = .ok (.iaload, 1) := by decide +kernel
theorem dX3_readCell_104 : decode cX3_readCell 104 = .ok (.ifCond .eq 14, 3) := by decide +kernel
theorem dX3_readCell_107 : decode cX3_readCell 107 = .ok (.aload_n 0, 1) := by decide +kernel
theorem dX3_readCell_108 : decode cX3_readCell 108 = .ok (.iload_n 1, 1) := by decide +kernel
theorem dX3_readCell_109 : decode cX3_readCell 109 = .ok (.putfield 36, 3) := by decide +kernel
theorem dX3_readCell_112 : decode cX3_readCell 112 = .ok (.aload_n 0, 1) := by decide +kernel
theorem dX3_readCell_113 : decode cX3_readCell 113 = .ok (.iconst 4, 1) := by decide +kernel
theorem dX3_readCell_114 : decode cX3_readCell 114 = .ok (.invokevirtual 85, 3) := by decide +kernel
theorem dX3_readCell_117 : decode cX3_readCell 117 = .ok (.lreturn, 1) := by decide +kernel
theorem dX3_readCell_118 : decode cX3_readCell 118 = .ok (.aload_n 0, 1) := by decide +kernel
theorem dX3_readCell_119 : decode cX3_readCell 119 = .ok (.aload_n 0, 1) := by decide +kernel
theorem dX3_readCell_120 : decode cX3_readCell 120 = .ok (.getfield 25, 3) := by decide +kernel
theorem dX3_readCell_123 : decode cX3_readCell 123 = .ok (.getfield 126, 3) := by decide +kernel
theorem dX3_readCell_126 : decode cX3_readCell 126 = .ok (.iload_n 1, 1) := by decide +kernel
theorem dX3_readCell_127 : decode cX3_readCell 127 = .ok (.iaload, 1) := by decide +kernel
theorem dX3_readCell_128 : decode cX3_readCell 128 = .ok (.putfield 33, 3) := by decide +kernel
theorem dX3_readCell_131 : decode cX3_readCell 131 = .ok (.aload_n 0, 1) := by decide +kernel
theorem dX3_readCell_132 : decode cX3_readCell 132 = .ok (.getfield 25, 3) := by decide +kernel
theorem dX3_readCell_135 : decode cX3_readCell 135 = .ok (.getfield 129, 3) := by decide +kernel
theorem dX3_readCell_138 : decode cX3_readCell 138 = .ok (.iload_n 1, 1) := by decide +kernel
theorem dX3_readCell_139 : decode cX3_readCell 139 = .ok (.iaload, 1) := by decide +kernel
theorem dX3_readCell_140 : decode cX3_readCell 140 = .ok (.i2l, 1) := by decide +kernel
theorem dX3_readCell_141 : decode cX3_readCell 141 = .ok (.lreturn, 1) := by decide +kernel
theorem dX3_call_0 : decode cX3_call 0 = .ok (.iconst 0, 1) := by decide +kernel
theorem dX3_call_1 : decode cX3_call 1 = .ok (.istore_n 2, 1) := by decide +kernel
theorem dX3_call_2 : decode cX3_call 2 = .ok (.iload_n 2, 1) := by decide +kernel
theorem dX3_call_3 : decode cX3_call 3 = .ok (.bipush 9, 2) := by decide +kernel
theorem dX3_call_5 : decode cX3_call 5 = .ok (.if_icmp .ge 102, 3) := by decide +kernel
theorem dX3_call_8 : decode cX3_call 8 = .ok (.iload_n 2, 1) := by decide +kernel
theorem dX3_call_9 : decode cX3_call 9 = .ok (.invokestatic 132, 3) := by decide +kernel
theorem dX3_call_12 : decode cX3_call 12 = .ok (.astore_n 3, 1) := by decide +kernel
theorem dX3_call_13 : decode cX3_call 13 = .ok (.aload_n 0, 1) := by decide +kernel
theorem dX3_call_14 : decode cX3_call 14 = .ok (.getfield 12, 3) := by decide +kernel
theorem dX3_call_17 : decode cX3_call 17 = .ok (.aload_n 3, 1) := by decide +kernel
theorem dX3_call_18 : decode cX3_call 18 = .ok (.invokevirtual 136, 3) := by decide +kernel
theorem dX3_call_21 : decode cX3_call 21 = .ok (.aload_n 3, 1) := by decide +kernel
theorem dX3_call_22 : decode cX3_call 22 = .ok (.invokevirtual 140, 3) := by decide +kernel
theorem dX3_call_25 : decode cX3_call 25 = .ok (.if_icmp .ne 76, 3) := by decide +kernel
theorem dX3_call_28 : decode cX3_call 28 = .ok (.aload_n 0, 1) := by decide +kernel
theorem dX3_call_29 : decode cX3_call 29 = .ok (.getfield 12, 3) := by decide +kernel
theorem dX3_call_32 : decode cX3_call 32 = .ok (.dup, 1) := by decide +kernel
theorem dX3_call_33 : decode cX3_call 33 = .ok (.getfield 88, 3) := by decide +kernel
theorem dX3_call_36 : decode cX3_call 36 = .ok (.aload_n 3, 1) := by decide +kernel
theorem dX3_call_37 : decode cX3_call 37 = .ok (.invokevirtual 140, 3) := by decide +kernel
theorem dX3_call_40 : decode cX3_call 40 = .ok (.iadd, 1) := by decide +kernel
theorem dX3_call_41 : decode cX3_call 41 = .ok (.putfield 88, 3) := by decide +kernel
theorem dX3_call_44 : decode cX3_call 44 = .ok (.iload_n 2, 1) := by decide +kernel
theorem dX3_call_45 : decode cX3_call 45 = .ok (.tableswitch 49 0 4 #[35, 35, 42, 42, 42], 35) := by decide +kernel
theorem dX3_call_80 : decode cX3_call 80 = .ok (.aload_n 0, 1) := by decide +kernel
theorem dX3_call_81 : decode cX3_call 81 = .ok (.iload_n 2, 1) := by decide +kernel
theorem dX3_call_82 : decode cX3_call 82 = .ok (.iload_n 1, 1) := by decide +kernel
theorem dX3_call_83 : decode cX3_call 83 = .ok (.invokevirtual 145, 3) := by decide +kernel
theorem dX3_call_86 : decode cX3_call 86 = .ok (.lreturn, 1) := by decide +kernel
theorem dX3_call_87 : decode cX3_call 87 = .ok (.aload_n 0, 1) := by decide +kernel
theorem dX3_call_88 : decode cX3_call 88 = .ok (.iload_n 2, 1) := by decide +kernel
theorem dX3_call_89 : decode cX3_call 89 = .ok (.iload_n 1, 1) := by decide +kernel
theorem dX3_call_90 : decode cX3_call 90 = .ok (.invokevirtual 149, 3) := by decide +kernel
theorem dX3_call_93 : decode cX3_call 93 = .ok (.lreturn, 1) := by decide +kernel
theorem dX3_call_94 : decode cX3_call 94 = .ok (.aload_n 0, 1) := by decide +kernel
theorem dX3_call_95 : decode cX3_call 95 = .ok (.iload_n 2, 1) := by decide +kernel
theorem dX3_call_96 : decode cX3_call 96 = .ok (.iload_n 1, 1) := by decide +kernel
theorem dX3_call_97 : decode cX3_call 97 = .ok (.invokevirtual 152, 3) := by decide +kernel
theorem dX3_call_100 : decode cX3_call 100 = .ok (.lreturn, 1) := by decide +kernel
theorem dX3_call_101 : decode cX3_call 101 = .ok (.iinc 2 1, 3) := by decide +kernel
theorem dX3_call_104 : decode cX3_call 104 = .ok (.goto (-102), 3) := by decide +kernel
theorem dX3_call_107 : decode cX3_call 107 = .ok (.aload_n 0, 1) := by decide +kernel
theorem dX3_call_108 : decode cX3_call 108 = .ok (.iconst 3, 1) := by decide +kernel
theorem dX3_call_109 : decode cX3_call 109 = .ok (.invokevirtual 85, 3) := by decide +kernel
theorem dX3_call_112 : decode cX3_call 112 = .ok (.lreturn, 1) := by decide +kernel
theorem dX3_choose_0 : decode cX3_choose 0 = .ok (.aload_n 0, 1) := by decide +kernel
theorem dX3_choose_1 : decode cX3_choose 1 = .ok (.iload_n 2, 1) := by decide +kernel
theorem dX3_choose_2 : decode cX3_choose 2 = .ok (.invokevirtual 63, 3) := by decide +kernel
theorem dX3_choose_5 : decode cX3_choose 5 = .ok (.lstore_n 3, 1) := by decide +kernel
theorem dX3_choose_6 : decode cX3_choose 6 = .ok (.aload_n 0, 1) := by decide +kernel
theorem dX3_choose_7 : decode cX3_choose 7 = .ok (.getfield 33, 3) := by decide +kernel
theorem dX3_choose_10 : decode cX3_choose 10 = .ok (.ifCond .eq 5, 3) := by decide +kernel
theorem dX3_choose_13 : decode cX3_choose 13 = .ok (.lconst 0, 1) := by decide +kernel
theorem dX3_choose_14 : decode cX3_choose 14 = .ok (.lreturn, 1) := by decide +kernel
theorem dX3_choose_15 : decode cX3_choose 15 = .ok (.iload_n 1, 1) := by decide +kernel
theorem dX3_choose_16 : decode cX3_choose 16 = .ok (.ifCond .ne 17, 3) := by decide +kernel
theorem dX3_choose_19 : decode cX3_choose 19 = .ok (.lload_n 3, 1) := by decide +kernel
theorem dX3_choose_20 : decode cX3_choose 20 = .ok (.lconst 0, 1) := by decide +kernel
theorem dX3_choose_21 : decode cX3_choose 21 = .ok (.lcmp, 1) := by decide +kernel
theorem dX3_choose_22 : decode cX3_choose 22 = .ok (.ifCond .ne 9, 3) := by decide +kernel
theorem dX3_choose_25 : decode cX3_choose 25 = .ok (.ldc2_w 155, 3) := by decide +kernel
theorem dX3_choose_28 : decode cX3_choose 28 = .ok (.goto 4, 3) := by decide +kernel
theorem dX3_choose_31 : decode cX3_choose 31 = .ok (.lconst 1, 1) := by decide +kernel
theorem dX3_choose_32 : decode cX3_choose 32 = .ok (.lstore_n 3, 1) := by decide +kernel
theorem dX3_choose_33 : decode cX3_choose 33 = .ok (.lload_n 3, 1) := by decide +kernel
theorem dX3_choose_34 : decode cX3_choose 34 = .ok (.lconst 1, 1) := by decide +kernel
theorem dX3_choose_35 : decode cX3_choose 35 = .ok (.lcmp, 1) := by decide +kernel
theorem dX3_choose_36 : decode cX3_choose 36 = .ok (.ifCond .lt 14, 3) := by decide +kernel
theorem dX3_choose_39 : decode cX3_choose 39 = .ok (.lload_n 3, 1) := by decide +kernel
theorem dX3_choose_40 : decode cX3_choose 40 = .ok (.getstatic 157, 3) := by decide +kernel
theorem dX3_choose_43 : decode cX3_choose 43 = .ok (.iload_n 1, 1) := by decide +kernel
theorem dX3_choose_44 : decode cX3_choose 44 = .ok (.iaload, 1) := by decide +kernel
theorem dX3_choose_45 : decode cX3_choose 45 = .ok (.i2l, 1) := by decide +kernel
theorem dX3_choose_46 : decode cX3_choose 46 = .ok (.lcmp, 1) := by decide +kernel
theorem dX3_choose_47 : decode cX3_choose 47 = .ok (.ifCond .lt 9, 3) := by decide +kernel
theorem dX3_choose_50 : decode cX3_choose 50 = .ok (.aload_n 0, 1) := by decide +kernel
theorem dX3_choose_51 : decode cX3_choose 51 = .ok (.iconst 3, 1) := by decide +kernel
theorem dX3_choose_52 : decode cX3_choose 52 = .ok (.invokevirtual 85, 3) := by decide +kernel
theorem dX3_choose_55 : decode cX3_choose 55 = .ok (.lreturn, 1) := by decide +kernel
theorem dX3_choose_56 : decode cX3_choose 56 = .ok (.iconst 1, 1) := by decide +kernel
theorem dX3_choose_57 : decode cX3_choose 57 = .ok (.istore 5, 2) := by decide +kernel
theorem dX3_choose_59 : decode cX3_choose 59 = .ok (.iload 5, 2) := by decide +kernel
theorem dX3_choose_61 : decode cX3_choose 61 = .ok (.i2l, 1) := by decide +kernel
theorem dX3_choose_62 : decode cX3_choose 62 = .ok (.lload_n 3, 1) := by decide +kernel
theorem dX3_choose_63 : decode cX3_choose 63 = .ok (.lcmp, 1) := by decide +kernel
theorem dX3_choose_64 : decode cX3_choose 64 = .ok (.ifCond .ge 25, 3) := by decide +kernel
theorem dX3_choose_67 : decode cX3_choose 67 = .ok (.aload_n 0, 1) := by decide +kernel
theorem dX3_choose_68 : decode cX3_choose 68 = .ok (.getfield 12, 3) := by decide +kernel
theorem dX3_choose_71 : decode cX3_choose 71 = .ok (.bipush 44, 2) := by decide +kernel
theorem dX3_choose_73 : decode cX3_choose 73 = .ok (.invokevirtual 70, 3) := by decide +kernel
theorem dX3_choose_76 : decode cX3_choose 76 = .ok (.ifCond .eq 13, 3) := by decide +kernel
theorem dX3_choose_79 : decode cX3_choose 79 = .ok (.aload_n 0, 1) := by decide +kernel
theorem dX3_choose_80 : decode cX3_choose 80 = .ok (.invokevirtual 160, 3) := by decide +kernel
theorem dX3_choose_83 : decode cX3_choose 83 = .ok (.iinc 5 1, 3) := by decide +kernel
theorem dX3_choose_86 : decode cX3_choose 86 = .ok (.goto (-27), 3) := by decide +kernel
theorem dX3_choose_89 : decode cX3_choose 89 = .ok (.aload_n 0, 1) := by decide +kernel
theorem dX3_choose_90 : decode cX3_choose 90 = .ok (.getfield 12, 3) := by decide +kernel
theorem dX3_choose_93 : decode cX3_choose 93 = .ok (.bipush 44, 2) := by decide +kernel
theorem dX3_choose_95 : decode cX3_choose 95 = .ok (.invokevirtual 70, 3) := by decide +kernel
theorem dX3_choose_98 : decode cX3_choose 98 = .ok (.ifCond .ne 9, 3) := by decide +kernel
theorem dX3_choose_101 : decode cX3_choose 101 = .ok (.aload_n 0, 1) := by decide +kernel
theorem dX3_choose_102 : decode cX3_choose 102 = .ok (.iconst 3, 1) := by decide +kernel
theorem dX3_choose_103 : decode cX3_choose 103 = .ok (.invokevirtual 85, 3) := by decide +kernel
theorem dX3_choose_106 : decode cX3_choose 106 = .ok (.lreturn, 1) := by decide +kernel
theorem dX3_choose_107 : decode cX3_choose 107 = .ok (.aload_n 0, 1) := by decide +kernel
theorem dX3_choose_108 : decode cX3_choose 108 = .ok (.iload_n 2, 1) := by decide +kernel
theorem dX3_choose_109 : decode cX3_choose 109 = .ok (.invokevirtual 63, 3) := by decide +kernel
theorem dX3_choose_112 : decode cX3_choose 112 = .ok (.lstore 5, 2) := by decide +kernel
theorem dX3_choose_114 : decode cX3_choose 114 = .ok (.iconst 0, 1) := by decide +kernel
theorem dX3_choose_115 : decode cX3_choose 115 = .ok (.istore 7, 2) := by decide +kernel
theorem dX3_choose_117 : decode cX3_choose 117 = .ok (.iload 7, 2) := by decide +kernel
theorem dX3_choose_119 : decode cX3_choose 119 = .ok (.getstatic 157, 3) := by decide +kernel
theorem dX3_choose_122 : decode cX3_choose 122 = .ok (.iload_n 1, 1) := by decide +kernel
theorem dX3_choose_123 : decode cX3_choose 123 = .ok (.iaload, 1) := by decide +kernel
theorem dX3_choose_124 : decode cX3_choose 124 = .ok (.if_icmp .ge 25, 3) := by decide +kernel
theorem dX3_choose_127 : decode cX3_choose 127 = .ok (.aload_n 0, 1) := by decide +kernel
theorem dX3_choose_128 : decode cX3_choose 128 = .ok (.getfield 12, 3) := by decide +kernel
theorem dX3_choose_131 : decode cX3_choose 131 = .ok (.bipush 44, 2) := by decide +kernel
theorem dX3_choose_133 : decode cX3_choose 133 = .ok (.invokevirtual 70, 3) := by decide +kernel
theorem dX3_choose_136 : decode cX3_choose 136 = .ok (.ifCond .eq 13, 3) := by decide +kernel
theorem dX3_choose_139 : decode cX3_choose 139 = .ok (.aload_n 0, 1) := by decide +kernel
theorem dX3_choose_140 : decode cX3_choose 140 = .ok (.invokevirtual 160, 3) := by decide +kernel
theorem dX3_choose_143 : decode cX3_choose 143 = .ok (.iinc 7 1, 3) := by decide +kernel
theorem dX3_choose_146 : decode cX3_choose 146 = .ok (.goto (-29), 3) := by decide +kernel
theorem dX3_choose_149 : decode cX3_choose 149 = .ok (.aload_n 0, 1) := by decide +kernel
theorem dX3_choose_150 : decode cX3_choose 150 = .ok (.getfield 12, 3) := by decide +kernel
theorem dX3_choose_153 : decode cX3_choose 153 = .ok (.dup, 1) := by decide +kernel
theorem dX3_choose_154 : decode cX3_choose 154 = .ok (.getfield 88, 3) := by decide +kernel
theorem dX3_choose_157 : decode cX3_choose 157 = .ok (.iconst 1, 1) := by decide +kernel
theorem dX3_choose_158 : decode cX3_choose 158 = .ok (.iadd, 1) := by decide +kernel
theorem dX3_choose_159 : decode cX3_choose 159 = .ok (.putfield 88, 3) := by decide +kernel
theorem dX3_choose_162 : decode cX3_choose 162 = .ok (.lload 5, 2) := by decide +kernel
theorem dX3_choose_164 : decode cX3_choose 164 = .ok (.lreturn, 1) := by decide +kernel
theorem dX3_skipPart_0 : decode cX3_skipPart 0 = .ok (.iconst 0, 1) := by decide +kernel
theorem dX3_skipPart_1 : decode cX3_skipPart 1 = .ok (.istore_n 1, 1) := by decide +kernel
theorem dX3_skipPart_2 : decode cX3_skipPart 2 = .ok (.iconst 0, 1) := by decide +kernel
theorem dX3_skipPart_3 : decode cX3_skipPart 3 = .ok (.istore_n 2, 1) := by decide +kernel
theorem dX3_skipPart_4 : decode cX3_skipPart 4 = .ok (.iload_n 2, 1) := by decide +kernel
theorem dX3_skipPart_5 : decode cX3_skipPart 5 = .ok (.bipush 30, 2) := by decide +kernel
theorem dX3_skipPart_7 : decode cX3_skipPart 7 = .ok (.if_icmp .ge 69, 3) := by decide +kernel
theorem dX3_skipPart_10 : decode cX3_skipPart 10 = .ok (.aload_n 0, 1) := by decide +kernel
theorem dX3_skipPart_11 : decode cX3_skipPart 11 = .ok (.getfield 12, 3) := by decide +kernel
theorem dX3_skipPart_14 : decode cX3_skipPart 14 = .ok (.iconst 0, 1) := by decide +kernel
theorem dX3_skipPart_15 : decode cX3_skipPart 15 = .ok (.invokevirtual 91, 3) := by decide +kernel
theorem dX3_skipPart_18 : decode cX3_skipPart 18 = .ok (.istore_n 3, 1) := by decide +kernel
theorem dX3_skipPart_19 : decode cX3_skipPart 19 = .ok (.iload_n 1, 1) := by decide +kernel
theorem dX3_skipPart_20 : decode cX3_skipPart 20 = .ok (.ifCond .ne 16, 3) := by decide +kernel
theorem dX3_skipPart_23 : decode cX3_skipPart 23 = .ok (.iload_n 3, 1) := by decide +kernel
theorem dX3_skipPart_24 : decode cX3_skipPart 24 = .ok (.bipush 44, 2) := by decide +kernel
theorem dX3_skipPart_26 : decode cX3_skipPart 26 = .ok (.if_icmp .eq 9, 3) := by decide +kernel
theorem dX3_skipPart_29 : decode cX3_skipPart 29 = .ok (.iload_n 3, 1) := by decide +kernel
theorem dX3_skipPart_30 : decode cX3_skipPart 30 = .ok (.bipush 41, 2) := by decide +kernel
theorem dX3_skipPart_32 : decode cX3_skipPart 32 = .ok (.if_icmp .ne 4, 3) := by decide +kernel
theorem dX3_skipPart_35 : decode cX3_skipPart 35 = .ok (.return_, 1) := by decide +kernel
theorem dX3_skipPart_36 : decode cX3_skipPart 36 = .ok (.iload_n 3, 1) := by decide +kernel
theorem dX3_skipPart_37 : decode cX3_skipPart 37 = .ok (.bipush 40, 2) := by decide +kernel
theorem dX3_skipPart_39 : decode cX3_skipPart 39 = .ok (.if_icmp .ne 9, 3) := by decide +kernel
theorem dX3_skipPart_42 : decode cX3_skipPart 42 = .ok (.iinc 1 1, 3) := by decide +kernel
theorem dX3_skipPart_45 : decode cX3_skipPart 45 = .ok (.goto 12, 3) := by decide +kernel
theorem dX3_skipPart_48 : decode cX3_skipPart 48 = .ok (.iload_n 3, 1) := by decide +kernel
theorem dX3_skipPart_49 : decode cX3_skipPart 49 = .ok (.bipush 41, 2) := by decide +kernel
theorem dX3_skipPart_51 : decode cX3_skipPart 51 = .ok (.if_icmp .ne 6, 3) := by decide +kernel
theorem dX3_skipPart_54 : decode cX3_skipPart 54 = .ok (.iinc 1 (-1), 3) := by decide +kernel
theorem dX3_skipPart_57 : decode cX3_skipPart 57 = .ok (.aload_n 0, 1) := by decide +kernel
theorem dX3_skipPart_58 : decode cX3_skipPart 58 = .ok (.getfield 12, 3) := by decide +kernel
theorem dX3_skipPart_61 : decode cX3_skipPart 61 = .ok (.dup, 1) := by decide +kernel
theorem dX3_skipPart_62 : decode cX3_skipPart 62 = .ok (.getfield 88, 3) := by decide +kernel
theorem dX3_skipPart_65 : decode cX3_skipPart 65 = .ok (.iconst 1, 1) := by decide +kernel
theorem dX3_skipPart_66 : decode cX3_skipPart 66 = .ok (.iadd, 1) := by decide +kernel
theorem dX3_skipPart_67 : decode cX3_skipPart 67 = .ok (.putfield 88, 3) := by decide +kernel
theorem dX3_skipPart_70 : decode cX3_skipPart 70 = .ok (.iinc 2 1, 3) := by decide +kernel
theorem dX3_skipPart_73 : decode cX3_skipPart 73 = .ok (.goto (-69), 3) := by decide +kernel
theorem dX3_skipPart_76 : decode cX3_skipPart 76 = .ok (.return_, 1) := by decide +kernel
theorem dX3_combine_0 : decode cX3_combine 0 = .ok (.aload_n 0, 1) := by decide +kernel
theorem dX3_combine_1 : decode cX3_combine 1 = .ok (.iload_n 2, 1) := by decide +kernel
theorem dX3_combine_2 : decode cX3_combine 2 = .ok (.invokevirtual 63, 3) := by decide +kernel
theorem dX3_combine_5 : decode cX3_combine 5 = .ok (.lstore_n 3, 1) := by decide +kernel
theorem dX3_combine_6 : decode cX3_combine 6 = .ok (.aload_n 0, 1) := by decide +kernel
theorem dX3_combine_7 : decode cX3_combine 7 = .ok (.getfield 12, 3) := by decide +kernel
theorem dX3_combine_10 : decode cX3_combine 10 = .ok (.dup, 1) := by decide +kernel
theorem dX3_combine_11 : decode cX3_combine 11 = .ok (.getfield 88, 3) := by decide +kernel
theorem dX3_combine_14 : decode cX3_combine 14 = .ok (.iconst 1, 1) := by decide +kernel
theorem dX3_combine_15 : decode cX3_combine 15 = .ok (.iadd, 1) := by decide +kernel
theorem dX3_combine_16 : decode cX3_combine 16 = .ok (.putfield 88, 3) := by decide +kernel
theorem dX3_combine_19 : decode cX3_combine 19 = .ok (.aload_n 0, 1) := by decide +kernel
theorem dX3_combine_20 : decode cX3_combine 20 = .ok (.getfield 33, 3) := by decide +kernel
theorem dX3_combine_23 : decode cX3_combine 23 = .ok (.ifCond .ne 11, 3) := by decide +kernel
theorem dX3_combine_26 : decode cX3_combine 26 = .ok (.aload_n 0, 1) := by decide +kernel
theorem dX3_combine_27 : decode cX3_combine 27 = .ok (.iload_n 2, 1) := by decide +kernel
theorem dX3_combine_28 : decode cX3_combine 28 = .ok (.invokevirtual 63, 3) := by decide +kernel
theorem dX3_combine_31 : decode cX3_combine 31 = .ok (.goto 4, 3) := by decide +kernel
theorem dX3_combine_34 : decode cX3_combine 34 = .ok (.lconst 0, 1) := by decide +kernel
theorem dX3_combine_35 : decode cX3_combine 35 = .ok (.lstore 5, 2) := by decide +kernel
theorem dX3_combine_37 : decode cX3_combine 37 = .ok (.aload_n 0, 1) := by decide +kernel
theorem dX3_combine_38 : decode cX3_combine 38 = .ok (.getfield 12, 3) := by decide +kernel
theorem dX3_combine_41 : decode cX3_combine 41 = .ok (.dup, 1) := by decide +kernel
theorem dX3_combine_42 : decode cX3_combine 42 = .ok (.getfield 88, 3) := by decide +kernel
theorem dX3_combine_45 : decode cX3_combine 45 = .ok (.iconst 1, 1) := by decide +kernel
theorem dX3_combine_46 : decode cX3_combine 46 = .ok (.iadd, 1) := by decide +kernel
theorem dX3_combine_47 : decode cX3_combine 47 = .ok (.putfield 88, 3) := by decide +kernel
theorem dX3_combine_50 : decode cX3_combine 50 = .ok (.aload_n 0, 1) := by decide +kernel
theorem dX3_combine_51 : decode cX3_combine 51 = .ok (.getfield 33, 3) := by decide +kernel
theorem dX3_combine_54 : decode cX3_combine 54 = .ok (.ifCond .eq 5, 3) := by decide +kernel
theorem dX3_combine_57 : decode cX3_combine 57 = .ok (.lconst 0, 1) := by decide +kernel
theorem dX3_combine_58 : decode cX3_combine 58 = .ok (.lreturn, 1) := by decide +kernel
theorem dX3_combine_59 : decode cX3_combine 59 = .ok (.iload_n 1, 1) := by decide +kernel
theorem dX3_combine_60 : decode cX3_combine 60 = .ok (.iconst 4, 1) := by decide +kernel
theorem dX3_combine_61 : decode cX3_combine 61 = .ok (.if_icmp .ne 67, 3) := by decide +kernel
theorem dX3_combine_64 : decode cX3_combine 64 = .ok (.lload_n 3, 1) := by decide +kernel
theorem dX3_combine_65 : decode cX3_combine 65 = .ok (.lconst 0, 1) := by decide +kernel
theorem dX3_combine_66 : decode cX3_combine 66 = .ok (.lcmp, 1) := by decide +kernel
theorem dX3_combine_67 : decode cX3_combine 67 = .ok (.ifCond .lt 31, 3) := by decide +kernel
theorem dX3_combine_70 : decode cX3_combine 70 = .ok (.lload_n 3, 1) := by decide +kernel
theorem dX3_combine_71 : decode cX3_combine 71 = .ok (.ldc2_w 163, 3) := by decide +kernel
theorem dX3_combine_74 : decode cX3_combine 74 = .ok (.lcmp, 1) := by decide +kernel
theorem dX3_combine_75 : decode cX3_combine 75 = .ok (.ifCond .ge 23, 3) := by decide +kernel
theorem dX3_combine_78 : decode cX3_combine 78 = .ok (.lload 5, 2) := by decide +kernel
theorem dX3_combine_80 : decode cX3_combine 80 = .ok (.lconst 0, 1) := by decide +kernel
theorem dX3_combine_81 : decode cX3_combine 81 = .ok (.lcmp, 1) := by decide +kernel
theorem dX3_combine_82 : decode cX3_combine 82 = .ok (.ifCond .lt 16, 3) := by decide +kernel
theorem dX3_combine_85 : decode cX3_combine 85 = .ok (.lload 5, 2) := by decide +kernel
theorem dX3_combine_87 : decode cX3_combine 87 = .ok (.ldc2_w 165, 3) := by decide +kernel
theorem dX3_combine_90 : decode cX3_combine 90 = .ok (.lcmp, 1) := by decide +kernel
theorem dX3_combine_91 : decode cX3_combine 91 = .ok (.ifCond .ge 7, 3) := by decide +kernel
theorem dX3_combine_94 : decode cX3_combine 94 = .ok (.iconst 1, 1) := by decide +kernel
theorem dX3_combine_95 : decode cX3_combine 95 = .ok (.goto 4, 3) := by decide +kernel
theorem dX3_combine_98 : decode cX3_combine 98 = .ok (.iconst 0, 1) := by decide +kernel
theorem dX3_combine_99 : decode cX3_combine 99 = .ok (.istore 7, 2) := by decide +kernel
theorem dX3_combine_101 : decode cX3_combine 101 = .ok (.iload 7, 2) := by decide +kernel
theorem dX3_combine_103 : decode cX3_combine 103 = .ok (.ifCond .eq 19, 3) := by decide +kernel
theorem dX3_combine_106 : decode cX3_combine 106 = .ok (.aload_n 0, 1) := by decide +kernel
theorem dX3_combine_107 : decode cX3_combine 107 = .ok (.lload 5, 2) := by decide +kernel
theorem dX3_combine_109 : decode cX3_combine 109 = .ok (.ldc2_w 163, 3) := by decide +kernel
theorem dX3_combine_112 : decode cX3_combine 112 = .ok (.lmul, 1) := by decide +kernel
theorem dX3_combine_113 : decode cX3_combine 113 = .ok (.lload_n 3, 1) := by decide +kernel
theorem dX3_combine_114 : decode cX3_combine 114 = .ok (.ladd, 1) := by decide +kernel
theorem dX3_combine_115 : decode cX3_combine 115 = .ok (.l2i, 1) := by decide +kernel
theorem dX3_combine_116 : decode cX3_combine 116 = .ok (.invokevirtual 110, 3) := by decide +kernel
theorem dX3_combine_119 : decode cX3_combine 119 = .ok (.goto 8, 3) := by decide +kernel
theorem dX3_combine_122 : decode cX3_combine 122 = .ok (.aload_n 0, 1) := by decide +kernel
theorem dX3_combine_123 : decode cX3_combine 123 = .ok (.iconst 3, 1) := by decide +kernel
theorem dX3_combine_124 : decode cX3_combine 124 = .ok (.invokevirtual 85, 3) := by decide +kernel
theorem dX3_combine_127 : decode cX3_combine 127 = .ok (.lreturn, 1) := by decide +kernel
theorem dX3_combine_128 : decode cX3_combine 128 = .ok (.lload 5, 2) := by decide +kernel
theorem dX3_combine_130 : decode cX3_combine 130 = .ok (.lconst 0, 1) := by decide +kernel
theorem dX3_combine_131 : decode cX3_combine 131 = .ok (.lcmp, 1) := by decide +kernel
theorem dX3_combine_132 : decode cX3_combine 132 = .ok (.ifCond .ne 9, 3) := by decide +kernel
theorem dX3_combine_135 : decode cX3_combine 135 = .ok (.aload_n 0, 1) := by decide +kernel
theorem dX3_combine_136 : decode cX3_combine 136 = .ok (.iconst 2, 1) := by decide +kernel
theorem dX3_combine_137 : decode cX3_combine 137 = .ok (.invokevirtual 85, 3) := by decide +kernel
theorem dX3_combine_140 : decode cX3_combine 140 = .ok (.lreturn, 1) := by decide +kernel
theorem dX3_combine_141 : decode cX3_combine 141 = .ok (.iload_n 1, 1) := by decide +kernel
theorem dX3_combine_142 : decode cX3_combine 142 = .ok (.iconst 2, 1) := by decide +kernel
theorem dX3_combine_143 : decode cX3_combine 143 = .ok (.if_icmp .ne 12, 3) := by decide +kernel
theorem dX3_combine_146 : decode cX3_combine 146 = .ok (.lload_n 3, 1) := by decide +kernel
theorem dX3_combine_147 : decode cX3_combine 147 = .ok (.lload 5, 2) := by decide +kernel
theorem dX3_combine_149 : decode cX3_combine 149 = .ok (.invokestatic 167, 3) := by decide +kernel
theorem dX3_combine_152 : decode cX3_combine 152 = .ok (.goto 9, 3) := by decide +kernel
theorem dX3_combine_155 : decode cX3_combine 155 = .ok (.lload_n 3, 1) := by decide +kernel
theorem dX3_combine_156 : decode cX3_combine 156 = .ok (.lload 5, 2) := by decide +kernel
theorem dX3_combine_158 : decode cX3_combine 158 = .ok (.invokestatic 173, 3) := by decide +kernel
theorem dX3_combine_161 : decode cX3_combine 161 = .ok (.lreturn, 1) := by decide +kernel
theorem dX3_gather_0 : decode cX3_gather 0 = .ok (.ldc2_w 176, 3) := by decide +kernel
theorem dX3_gather_3 : decode cX3_gather 3 = .ok (.lstore_n 3, 1) := by decide +kernel
theorem dX3_gather_4 : decode cX3_gather 4 = .ok (.iconst 1, 1) := by decide +kernel
theorem dX3_gather_5 : decode cX3_gather 5 = .ok (.istore 5, 2) := by decide +kernel
theorem dX3_gather_7 : decode cX3_gather 7 = .ok (.iconst 0, 1) := by decide +kernel
theorem dX3_gather_8 : decode cX3_gather 8 = .ok (.istore 6, 2) := by decide +kernel
theorem dX3_gather_10 : decode cX3_gather 10 = .ok (.iload 6, 2) := by decide +kernel
theorem dX3_gather_12 : decode cX3_gather 12 = .ok (.getstatic 157, 3) := by decide +kernel
theorem dX3_gather_15 : decode cX3_gather 15 = .ok (.iload_n 1, 1) := by decide +kernel
theorem dX3_gather_16 : decode cX3_gather 16 = .ok (.iaload, 1) := by decide +kernel
theorem dX3_gather_17 : decode cX3_gather 17 = .ok (.if_icmp .ge 83, 3) := by decide +kernel
theorem dX3_gather_20 : decode cX3_gather 20 = .ok (.iload 5, 2) := by decide +kernel
theorem dX3_gather_22 : decode cX3_gather 22 = .ok (.ifCond .eq 78, 3) := by decide +kernel
theorem dX3_gather_25 : decode cX3_gather 25 = .ok (.aload_n 0, 1) := by decide +kernel
theorem dX3_gather_26 : decode cX3_gather 26 = .ok (.invokevirtual 178, 3) := by decide +kernel
theorem dX3_gather_29 : decode cX3_gather 29 = .ok (.ifCond .eq 13, 3) := by decide +kernel
theorem dX3_gather_32 : decode cX3_gather 32 = .ok (.aload_n 0, 1) := by decide +kernel
theorem dX3_gather_33 : decode cX3_gather 33 = .ok (.iload_n 1, 1) := by decide +kernel
theorem dX3_gather_34 : decode cX3_gather 34 = .ok (.lload_n 3, 1) := by decide +kernel
theorem dX3_gather_35 : decode cX3_gather 35 = .ok (.invokevirtual 181, 3) := by decide +kernel
theorem dX3_gather_38 : decode cX3_gather 38 = .ok (.lstore_n 3, 1) := by decide +kernel
theorem dX3_gather_39 : decode cX3_gather 39 = .ok (.goto 15, 3) := by decide +kernel
theorem dX3_gather_42 : decode cX3_gather 42 = .ok (.aload_n 0, 1) := by decide +kernel
theorem dX3_gather_43 : decode cX3_gather 43 = .ok (.iload_n 1, 1) := by decide +kernel
theorem dX3_gather_44 : decode cX3_gather 44 = .ok (.lload_n 3, 1) := by decide +kernel
theorem dX3_gather_45 : decode cX3_gather 45 = .ok (.aload_n 0, 1) := by decide +kernel
theorem dX3_gather_46 : decode cX3_gather 46 = .ok (.iload_n 2, 1) := by decide +kernel
theorem dX3_gather_47 : decode cX3_gather 47 = .ok (.invokevirtual 63, 3) := by decide +kernel
theorem dX3_gather_50 : decode cX3_gather 50 = .ok (.invokevirtual 185, 3) := by decide +kernel
theorem dX3_gather_53 : decode cX3_gather 53 = .ok (.lstore_n 3, 1) := by decide +kernel
theorem dX3_gather_54 : decode cX3_gather 54 = .ok (.aload_n 0, 1) := by decide +kernel
theorem dX3_gather_55 : decode cX3_gather 55 = .ok (.getfield 33, 3) := by decide +kernel
theorem dX3_gather_58 : decode cX3_gather 58 = .ok (.ifCond .ne 20, 3) := by decide +kernel
theorem dX3_gather_61 : decode cX3_gather 61 = .ok (.aload_n 0, 1) := by decide +kernel
theorem dX3_gather_62 : decode cX3_gather 62 = .ok (.getfield 12, 3) := by decide +kernel
theorem dX3_gather_65 : decode cX3_gather 65 = .ok (.iconst 0, 1) := by decide +kernel
theorem dX3_gather_66 : decode cX3_gather 66 = .ok (.invokevirtual 91, 3) := by decide +kernel
theorem dX3_gather_69 : decode cX3_gather 69 = .ok (.bipush 44, 2) := by decide +kernel
theorem dX3_gather_71 : decode cX3_gather 71 = .ok (.if_icmp .ne 7, 3) := by decide +kernel
theorem dX3_gather_74 : decode cX3_gather 74 = .ok (.iconst 1, 1) := by decide +kernel
theorem dX3_gather_75 : decode cX3_gather 75 = .ok (.goto 4, 3) := by decide +kernel
theorem dX3_gather_78 : decode cX3_gather 78 = .ok (.iconst 0, 1) := by decide +kernel
theorem dX3_gather_79 : decode cX3_gather 79 = .ok (.istore 5, 2) := by decide +kernel
theorem dX3_gather_81 : decode cX3_gather 81 = .ok (.aload_n 0, 1) := by decide +kernel
theorem dX3_gather_82 : decode cX3_gather 82 = .ok (.getfield 12, 3) := by decide +kernel
theorem dX3_gather_85 : decode cX3_gather 85 = .ok (.dup, 1) := by decide +kernel
theorem dX3_gather_86 : decode cX3_gather 86 = .ok (.getfield 88, 3) := by decide +kernel
theorem dX3_gather_89 : decode cX3_gather 89 = .ok (.iconst 1, 1) := by decide +kernel
theorem dX3_gather_90 : decode cX3_gather 90 = .ok (.iadd, 1) := by decide +kernel
theorem dX3_gather_91 : decode cX3_gather 91 = .ok (.putfield 88, 3) := by decide +kernel
theorem dX3_gather_94 : decode cX3_gather 94 = .ok (.iinc 6 1, 3) := by decide +kernel
theorem dX3_gather_97 : decode cX3_gather 97 = .ok (.goto (-87), 3) := by decide +kernel
theorem dX3_gather_100 : decode cX3_gather 100 = .ok (.lload_n 3, 1) := by decide +kernel
theorem dX3_gather_101 : decode cX3_gather 101 = .ok (.ldc2_w 176, 3) := by decide +kernel
theorem dX3_gather_104 : decode cX3_gather 104 = .ok (.lcmp, 1) := by decide +kernel
theorem dX3_gather_105 : decode cX3_gather 105 = .ok (.ifCond .ne 7, 3) := by decide +kernel
theorem dX3_gather_108 : decode cX3_gather 108 = .ok (.lconst 0, 1) := by decide +kernel
theorem dX3_gather_109 : decode cX3_gather 109 = .ok (.goto 4, 3) := by decide +kernel
theorem dX3_gather_112 : decode cX3_gather 112 = .ok (.lload_n 3, 1) := by decide +kernel
theorem dX3_gather_113 : decode cX3_gather 113 = .ok (.lreturn, 1) := by decide +kernel
theorem dX3_isAtArea_0 : decode cX3_isAtArea 0 = .ok (.aload_n 0, 1) := by decide +kernel
theorem dX3_isAtArea_1 : decode cX3_isAtArea 1 = .ok (.getfield 12, 3) := by decide +kernel
theorem dX3_isAtArea_4 : decode cX3_isAtArea 4 = .ok (.iconst 2, 1) := by decide +kernel
theorem dX3_isAtArea_5 : decode cX3_isAtArea 5 = .ok (.invokevirtual 91, 3) := by decide +kernel
theorem dX3_isAtArea_8 : decode cX3_isAtArea 8 = .ok (.istore_n 1, 1) := by decide +kernel
theorem dX3_isAtArea_9 : decode cX3_isAtArea 9 = .ok (.aload_n 0, 1) := by decide +kernel
theorem dX3_isAtArea_10 : decode cX3_isAtArea 10 = .ok (.getfield 12, 3) := by decide +kernel
theorem dX3_isAtArea_13 : decode cX3_isAtArea 13 = .ok (.invokevirtual 102, 3) := by decide +kernel
theorem dX3_isAtArea_16 : decode cX3_isAtArea 16 = .ok (.ifCond .eq 25, 3) := by decide +kernel
theorem dX3_isAtArea_19 : decode cX3_isAtArea 19 = .ok (.iload_n 1, 1) := by decide +kernel
theorem dX3_isAtArea_20 : decode cX3_isAtArea 20 = .ok (.bipush 58, 2) := by decide +kernel
theorem dX3_isAtArea_22 : decode cX3_isAtArea 22 = .ok (.if_icmp .eq 15, 3) := by decide +kernel
theorem dX3_isAtArea_25 : decode cX3_isAtArea 25 = .ok (.iload_n 1, 1) := by decide +kernel
theorem dX3_isAtArea_26 : decode cX3_isAtArea 26 = .ok (.bipush 44, 2) := by decide +kernel
theorem dX3_isAtArea_28 : decode cX3_isAtArea 28 = .ok (.if_icmp .eq 9, 3) := by decide +kernel
theorem dX3_isAtArea_31 : decode cX3_isAtArea 31 = .ok (.iload_n 1, 1) := by decide +kernel
theorem dX3_isAtArea_32 : decode cX3_isAtArea 32 = .ok (.bipush 41, 2) := by decide +kernel
theorem dX3_isAtArea_34 : decode cX3_isAtArea 34 = .ok (.if_icmp .ne 7, 3) := by decide +kernel
theorem dX3_isAtArea_37 : decode cX3_isAtArea 37 = .ok (.iconst 1, 1) := by decide +kernel
theorem dX3_isAtArea_38 : decode cX3_isAtArea 38 = .ok (.goto 4, 3) := by decide +kernel
theorem dX3_isAtArea_41 : decode cX3_isAtArea 41 = .ok (.iconst 0, 1) := by decide +kernel
theorem dX3_isAtArea_42 : decode cX3_isAtArea 42 = .ok (.ireturn, 1) := by decide +kernel
theorem dX3_gatherArea_0 : decode cX3_gatherArea 0 = .ok (.aload_n 0, 1) := by decide +kernel
theorem dX3_gatherArea_1 : decode cX3_gatherArea 1 = .ok (.invokevirtual 106, 3) := by decide +kernel
theorem dX3_gatherArea_4 : decode cX3_gatherArea 4 = .ok (.istore 4, 2) := by decide +kernel
theorem dX3_gatherArea_6 : decode cX3_gatherArea 6 = .ok (.aload_n 0, 1) := by decide +kernel
theorem dX3_gatherArea_7 : decode cX3_gatherArea 7 = .ok (.getfield 12, 3) := by decide +kernel
theorem dX3_gatherArea_10 : decode cX3_gatherArea 10 = .ok (.bipush 58, 2) := by decide +kernel
theorem dX3_gatherArea_12 : decode cX3_gatherArea 12 = .ok (.invokevirtual 70, 3) := by decide +kernel
theorem dX3_gatherArea_15 : decode cX3_gatherArea 15 = .ok (.ifCond .eq 10, 3) := by decide +kernel
theorem dX3_gatherArea_18 : decode cX3_gatherArea 18 = .ok (.aload_n 0, 1) := by decide +kernel
theorem dX3_gatherArea_19 : decode cX3_gatherArea 19 = .ok (.invokevirtual 106, 3) := by decide +kernel
theorem dX3_gatherArea_22 : decode cX3_gatherArea 22 = .ok (.goto 5, 3) := by decide +kernel
theorem dX3_gatherArea_25 : decode cX3_gatherArea 25 = .ok (.iload 4, 2) := by decide +kernel
theorem dX3_gatherArea_27 : decode cX3_gatherArea 27 = .ok (.istore 5, 2) := by decide +kernel
theorem dX3_gatherArea_29 : decode cX3_gatherArea 29 = .ok (.lload_n 2, 1) := by decide +kernel
theorem dX3_gatherArea_30 : decode cX3_gatherArea 30 = .ok (.lstore 6, 2) := by decide +kernel
theorem dX3_gatherArea_32 : decode cX3_gatherArea 32 = .ok (.iload 4, 2) := by decide +kernel
theorem dX3_gatherArea_34 : decode cX3_gatherArea 34 = .ok (.bipush 8, 2) := by decide +kernel
theorem dX3_gatherArea_36 : decode cX3_gatherArea 36 = .ok (.idiv, 1) := by decide +kernel
theorem dX3_gatherArea_37 : decode cX3_gatherArea 37 = .ok (.istore 8, 2) := by decide +kernel
theorem dX3_gatherArea_39 : decode cX3_gatherArea 39 = .ok (.iload 8, 2) := by decide +kernel
theorem dX3_gatherArea_41 : decode cX3_gatherArea 41 = .ok (.iload 5, 2) := by decide +kernel
theorem dX3_gatherArea_43 : decode cX3_gatherArea 43 = .ok (.bipush 8, 2) := by decide +kernel
theorem dX3_gatherArea_45 : decode cX3_gatherArea 45 = .ok (.idiv, 1) := by decide +kernel
theorem dX3_gatherArea_46 : decode cX3_gatherArea 46 = .ok (.if_icmp .gt 89, 3) := by decide +kernel
theorem dX3_gatherArea_49 : decode cX3_gatherArea 49 = .ok (.iload 4, 2) := by decide +kernel
theorem dX3_gatherArea_51 : decode cX3_gatherArea 51 = .ok (.bipush 8, 2) := by decide +kernel
theorem dX3_gatherArea_53 : decode cX3_gatherArea 53 = .ok (.irem, 1) := by decide +kernel
theorem dX3_gatherArea_54 : decode cX3_gatherArea 54 = .ok (.istore 9, 2) := by decide +kernel
theorem dX3_gatherArea_56 : decode cX3_gatherArea 56 = .ok (.iload 9, 2) := by decide +kernel
theorem dX3_gatherArea_58 : decode cX3_gatherArea 58 = .ok (.iload 5, 2) := by decide +kernel
theorem dX3_gatherArea_60 : decode cX3_gatherArea 60 = .ok (.bipush 8, 2) := by decide +kernel
theorem dX3_gatherArea_62 : decode cX3_gatherArea 62 = .ok (.irem, 1) := by decide +kernel
theorem dX3_gatherArea_63 : decode cX3_gatherArea 63 = .ok (.if_icmp .gt 66, 3) := by decide +kernel
theorem dX3_gatherArea_66 : decode cX3_gatherArea 66 = .ok (.iload 8, 2) := by decide +kernel
theorem dX3_gatherArea_68 : decode cX3_gatherArea 68 = .ok (.bipush 8, 2) := by decide +kernel
theorem dX3_gatherArea_70 : decode cX3_gatherArea 70 = .ok (.imul, 1) := by decide +kernel
theorem dX3_gatherArea_71 : decode cX3_gatherArea 71 = .ok (.iload 9, 2) := by decide +kernel
theorem dX3_gatherArea_73 : decode cX3_gatherArea 73 = .ok (.iadd, 1) := by decide +kernel
theorem dX3_gatherArea_74 : decode cX3_gatherArea 74 = .ok (.istore 10, 2) := by decide +kernel
theorem dX3_gatherArea_76 : decode cX3_gatherArea 76 = .ok (.aload_n 0, 1) := by decide +kernel
theorem dX3_gatherArea_77 : decode cX3_gatherArea 77 = .ok (.iload 10, 2) := by decide +kernel
theorem dX3_gatherArea_79 : decode cX3_gatherArea 79 = .ok (.invokevirtual 110, 3) := by decide +kernel
theorem dX3_gatherArea_82 : decode cX3_gatherArea 82 = .ok (.lstore 11, 2) := by decide +kernel
theorem dX3_gatherArea_84 : decode cX3_gatherArea 84 = .ok (.aload_n 0, 1) := by decide +kernel
theorem dX3_gatherArea_85 : decode cX3_gatherArea 85 = .ok (.getfield 33, 3) := by decide +kernel
theorem dX3_gatherArea_88 : decode cX3_gatherArea 88 = .ok (.ifCond .ne 26, 3) := by decide +kernel
theorem dX3_gatherArea_91 : decode cX3_gatherArea 91 = .ok (.aload_n 0, 1) := by decide +kernel
theorem dX3_gatherArea_92 : decode cX3_gatherArea 92 = .ok (.getfield 25, 3) := by decide +kernel
theorem dX3_gatherArea_95 : decode cX3_gatherArea 95 = .ok (.iload 10, 2) := by decide +kernel
theorem dX3_gatherArea_97 : decode cX3_gatherArea 97 = .ok (.invokevirtual 189, 3) := by decide +kernel
theorem dX3_gatherArea_100 : decode cX3_gatherArea 100 = .ok (.ifCond .ne 14, 3) := by decide +kernel
theorem dX3_gatherArea_103 : decode cX3_gatherArea 103 = .ok (.aload_n 0, 1) := by decide +kernel
theorem dX3_gatherArea_104 : decode cX3_gatherArea 104 = .ok (.iload_n 1, 1) := by decide +kernel
theorem dX3_gatherArea_105 : decode cX3_gatherArea 105 = .ok (.lload 6, 2) := by decide +kernel
theorem dX3_gatherArea_107 : decode cX3_gatherArea 107 = .ok (.lload 11, 2) := by decide +kernel
theorem dX3_gatherArea_109 : decode cX3_gatherArea 109 = .ok (.invokevirtual 185, 3) := by decide +kernel
theorem dX3_gatherArea_112 : decode cX3_gatherArea 112 = .ok (.lstore 6, 2) := by decide +kernel
theorem dX3_gatherArea_114 : decode cX3_gatherArea 114 = .ok (.aload_n 0, 1) := by decide +kernel
theorem dX3_gatherArea_115 : decode cX3_gatherArea 115 = .ok (.getfield 33, 3) := by decide +kernel
theorem dX3_gatherArea_118 : decode cX3_gatherArea 118 = .ok (.ifCond .eq 5, 3) := by decide +kernel
theorem dX3_gatherArea_121 : decode cX3_gatherArea 121 = .ok (.lconst 0, 1) := by decide +kernel
theorem dX3_gatherArea_122 : decode cX3_gatherArea 122 = .ok (.lreturn, 1) := by decide +kernel
theorem dX3_gatherArea_123 : decode cX3_gatherArea 123 = .ok (.iinc 9 1, 3) := by decide +kernel
theorem dX3_gatherArea_126 : decode cX3_gatherArea 126 = .ok (.goto (-70), 3) := by decide +kernel
theorem dX3_gatherArea_129 : decode cX3_gatherArea 129 = .ok (.iinc 8 1, 3) := by decide +kernel
theorem dX3_gatherArea_132 : decode cX3_gatherArea 132 = .ok (.goto (-93), 3) := by decide +kernel
theorem dX3_gatherArea_135 : decode cX3_gatherArea 135 = .ok (.lload 6, 2) := by decide +kernel
theorem dX3_gatherArea_137 : decode cX3_gatherArea 137 = .ok (.lreturn, 1) := by decide +kernel
theorem dX3_joined_0 : decode cX3_joined 0 = .ok (.aload_n 0, 1) := by decide +kernel
theorem dX3_joined_1 : decode cX3_joined 1 = .ok (.getfield 33, 3) := by decide +kernel
theorem dX3_joined_4 : decode cX3_joined 4 = .ok (.ifCond .eq 5, 3) := by decide +kernel
theorem dX3_joined_7 : decode cX3_joined 7 = .ok (.lconst 0, 1) := by decide +kernel
theorem dX3_joined_8 : decode cX3_joined 8 = .ok (.lreturn, 1) := by decide +kernel
theorem dX3_joined_9 : decode cX3_joined 9 = .ok (.iload_n 1, 1) := by decide +kernel
theorem dX3_joined_10 : decode cX3_joined 10 = .ok (.bipush 8, 2) := by decide +kernel
theorem dX3_joined_12 : decode cX3_joined 12 = .ok (.if_icmp .ne 19, 3) := by decide +kernel
theorem dX3_joined_15 : decode cX3_joined 15 = .ok (.lload_n 2, 1) := by decide +kernel
theorem dX3_joined_16 : decode cX3_joined 16 = .ok (.ldc2_w 176, 3) := by decide +kernel
theorem dX3_joined_19 : decode cX3_joined 19 = .ok (.lcmp, 1) := by decide +kernel
theorem dX3_joined_20 : decode cX3_joined 20 = .ok (.ifCond .ne 7, 3) := by decide +kernel
theorem dX3_joined_23 : decode cX3_joined 23 = .ok (.lconst 1, 1) := by decide +kernel
theorem dX3_joined_24 : decode cX3_joined 24 = .ok (.goto 6, 3) := by decide +kernel
theorem dX3_joined_27 : decode cX3_joined 27 = .ok (.lload_n 2, 1) := by decide +kernel
theorem dX3_joined_28 : decode cX3_joined 28 = .ok (.lconst 1, 1) := by decide +kernel
theorem dX3_joined_29 : decode cX3_joined 29 = .ok (.ladd, 1) := by decide +kernel
theorem dX3_joined_30 : decode cX3_joined 30 = .ok (.lreturn, 1) := by decide +kernel
theorem dX3_joined_31 : decode cX3_joined 31 = .ok (.lload_n 2, 1) := by decide +kernel
theorem dX3_joined_32 : decode cX3_joined 32 = .ok (.ldc2_w 176, 3) := by decide +kernel
theorem dX3_joined_35 : decode cX3_joined 35 = .ok (.lcmp, 1) := by decide +kernel
theorem dX3_joined_36 : decode cX3_joined 36 = .ok (.ifCond .ne 6, 3) := by decide +kernel
theorem dX3_joined_39 : decode cX3_joined 39 = .ok (.lload 4, 2) := by decide +kernel
theorem dX3_joined_41 : decode cX3_joined 41 = .ok (.lreturn, 1) := by decide +kernel
theorem dX3_joined_42 : decode cX3_joined 42 = .ok (.iload_n 1, 1) := by decide +kernel
theorem dX3_joined_43 : decode cX3_joined 43 = .ok (.lookupswitch 39 #[(5, 25), (6, 32)], 25) := by decide +kernel
theorem dX3_joined_68 : decode cX3_joined 68 = .ok (.lload_n 2, 1) := by decide +kernel
theorem dX3_joined_69 : decode cX3_joined 69 = .ok (.lload 4, 2) := by decide +kernel
theorem dX3_joined_71 : decode cX3_joined 71 = .ok (.invokestatic 192, 3) := by decide +kernel
theorem dX3_joined_74 : decode cX3_joined 74 = .ok (.lreturn, 1) := by decide +kernel
theorem dX3_joined_75 : decode cX3_joined 75 = .ok (.lload_n 2, 1) := by decide +kernel
theorem dX3_joined_76 : decode cX3_joined 76 = .ok (.lload 4, 2) := by decide +kernel
theorem dX3_joined_78 : decode cX3_joined 78 = .ok (.invokestatic 195, 3) := by decide +kernel
theorem dX3_joined_81 : decode cX3_joined 81 = .ok (.lreturn, 1) := by decide +kernel
theorem dX3_joined_82 : decode cX3_joined 82 = .ok (.aload_n 0, 1) := by decide +kernel
theorem dX3_joined_83 : decode cX3_joined 83 = .ok (.lload_n 2, 1) := by decide +kernel
theorem dX3_joined_84 : decode cX3_joined 84 = .ok (.lload 4, 2) := by decide +kernel
theorem dX3_joined_86 : decode cX3_joined 86 = .ok (.ladd, 1) := by decide +kernel
theorem dX3_joined_87 : decode cX3_joined 87 = .ok (.invokevirtual 74, 3) := by decide +kernel
theorem dX3_joined_90 : decode cX3_joined 90 = .ok (.lreturn, 1) := by decide +kernel
theorem dX4_init_0 : decode cX4_init 0 = .ok (.aload_n 0, 1) := by decide +kernel
theorem dX4_init_1 : decode cX4_init 1 = .ok (.invokespecial 3, 3) := by decide +kernel
theorem dX4_init_4 : decode cX4_init 4 = .ok (.aload_n 0, 1) := by decide +kernel
theorem dX4_init_5 : decode cX4_init 5 = .ok (.iconst 4, 1) := by decide +kernel
theorem dX4_init_6 : decode cX4_init 6 = .ok (.anewarray 9, 3) := by decide +kernel
theorem dX4_init_9 : decode cX4_init 9 = .ok (.putfield 11, 3) := by decide +kernel
theorem dX4_init_12 : decode cX4_init 12 = .ok (.iconst 0, 1) := by decide +kernel
theorem dX4_init_13 : decode cX4_init 13 = .ok (.istore_n 1, 1) := by decide +kernel
theorem dX4_init_14 : decode cX4_init 14 = .ok (.iload_n 1, 1) := by decide +kernel
theorem dX4_init_15 : decode cX4_init 15 = .ok (.iconst 4, 1) := by decide +kernel
theorem dX4_init_16 : decode cX4_init 16 = .ok (.if_icmp .ge 22, 3) := by decide +kernel
theorem dX4_init_19 : decode cX4_init 19 = .ok (.aload_n 0, 1) := by decide +kernel
theorem dX4_init_20 : decode cX4_init 20 = .ok (.getfield 11, 3) := by decide +kernel
theorem dX4_init_23 : decode cX4_init 23 = .ok (.iload_n 1, 1) := by decide +kernel
theorem dX4_init_24 : decode cX4_init 24 = .ok (.new 9, 3) := by decide +kernel
theorem dX4_init_27 : decode cX4_init 27 = .ok (.dup, 1) := by decide +kernel
theorem dX4_init_28 : decode cX4_init 28 = .ok (.invokespecial 17, 3) := by decide +kernel
theorem dX4_init_31 : decode cX4_init 31 = .ok (.aastore, 1) := by decide +kernel
theorem dX4_init_32 : decode cX4_init 32 = .ok (.iinc 1 1, 3) := by decide +kernel
theorem dX4_init_35 : decode cX4_init 35 = .ok (.goto (-21), 3) := by decide +kernel
theorem dX4_init_38 : decode cX4_init 38 = .ok (.return_, 1) := by decide +kernel
theorem dX4_keep_0 : decode cX4_keep 0 = .ok (.aload_n 0, 1) := by decide +kernel
theorem dX4_keep_1 : decode cX4_keep 1 = .ok (.getfield 18, 3) := by decide +kernel
theorem dX4_keep_4 : decode cX4_keep 4 = .ok (.iconst 4, 1) := by decide +kernel
theorem dX4_keep_5 : decode cX4_keep 5 = .ok (.if_icmp .lt 7, 3) := by decide +kernel
theorem dX4_keep_8 : decode cX4_keep 8 = .ok (.aload_n 0, 1) := by decide +kernel
theorem dX4_keep_9 : decode cX4_keep 9 = .ok (.invokevirtual 22, 3) := by decide +kernel
theorem dX4_keep_12 : decode cX4_keep 12 = .ok (.aload_n 0, 1) := by decide +kernel
theorem dX4_keep_13 : decode cX4_keep 13 = .ok (.getfield 11, 3) := by decide +kernel
theorem dX4_keep_16 : decode cX4_keep 16 = .ok (.aload_n 0, 1) := by decide +kernel
theorem dX4_keep_17 : decode cX4_keep 17 = .ok (.getfield 18, 3) := by decide +kernel
theorem dX4_keep_20 : decode cX4_keep 20 = .ok (.aaload, 1) := by decide +kernel
theorem dX4_keep_21 : decode cX4_keep 21 = .ok (.astore_n 2, 1) := by decide +kernel
theorem dX4_keep_22 : decode cX4_keep 22 = .ok (.aload_n 2, 1) := by decide +kernel
theorem dX4_keep_23 : decode cX4_keep 23 = .ok (.aload_n 1, 1) := by decide +kernel
theorem dX4_keep_24 : decode cX4_keep 24 = .ok (.invokevirtual 25, 3) := by decide +kernel
theorem dX4_keep_27 : decode cX4_keep 27 = .ok (.aload_n 0, 1) := by decide +kernel
theorem dX4_keep_28 : decode cX4_keep 28 = .ok (.dup, 1) := by decide +kernel
theorem dX4_keep_29 : decode cX4_keep 29 = .ok (.getfield 18, 3) := by decide +kernel
theorem dX4_keep_32 : decode cX4_keep 32 = .ok (.iconst 1, 1) := by decide +kernel
theorem dX4_keep_33 : decode cX4_keep 33 = .ok (.iadd, 1) := by decide +kernel
theorem dX4_keep_34 : decode cX4_keep 34 = .ok (.putfield 18, 3) := by decide +kernel
theorem dX4_keep_37 : decode cX4_keep 37 = .ok (.aload_n 2, 1) := by decide +kernel
theorem dX4_keep_38 : decode cX4_keep 38 = .ok (.areturn, 1) := by decide +kernel
theorem dX4_giveBack_0 : decode cX4_giveBack 0 = .ok (.aload_n 0, 1) := by decide +kernel
theorem dX4_giveBack_1 : decode cX4_giveBack 1 = .ok (.getfield 18, 3) := by decide +kernel
theorem dX4_giveBack_4 : decode cX4_giveBack 4 = .ok (.ifCond .le 26, 3) := by decide +kernel
theorem dX4_giveBack_7 : decode cX4_giveBack 7 = .ok (.aload_n 0, 1) := by decide +kernel
theorem dX4_giveBack_8 : decode cX4_giveBack 8 = .ok (.dup, 1) := by decide +kernel
theorem dX4_giveBack_9 : decode cX4_giveBack 9 = .ok (.getfield 18, 3) := by decide +kernel
theorem dX4_giveBack_12 : decode cX4_giveBack 12 = .ok (.iconst 1, 1) := by decide +kernel
theorem dX4_giveBack_13 : decode cX4_giveBack 13 = .ok (.isub, 1) := by decide +kernel
theorem dX4_giveBack_14 : decode cX4_giveBack 14 = .ok (.putfield 18, 3) := by decide +kernel
theorem dX4_giveBack_17 : decode cX4_giveBack 17 = .ok (.aload_n 1, 1) := by decide +kernel
theorem dX4_giveBack_18 : decode cX4_giveBack 18 = .ok (.aload_n 0, 1) := by decide +kernel
theorem dX4_giveBack_19 : decode cX4_giveBack 19 = .ok (.getfield 11, 3) := by decide +kernel
theorem dX4_giveBack_22 : decode cX4_giveBack 22 = .ok (.aload_n 0, 1) := by decide +kernel
theorem dX4_giveBack_23 : decode cX4_giveBack 23 = .ok (.getfield 18, 3) := by decide +kernel
theorem dX4_giveBack_26 : decode cX4_giveBack 26 = .ok (.aaload, 1) := by decide +kernel
theorem dX4_giveBack_27 : decode cX4_giveBack 27 = .ok (.invokevirtual 25, 3) := by decide +kernel
theorem dX4_giveBack_30 : decode cX4_giveBack 30 = .ok (.return_, 1) := by decide +kernel
theorem dX4_dropOldest_0 : decode cX4_dropOldest 0 = .ok (.aload_n 0, 1) := by decide +kernel
theorem dX4_dropOldest_1 : decode cX4_dropOldest 1 = .ok (.getfield 11, 3) := by decide +kernel
theorem dX4_dropOldest_4 : decode cX4_dropOldest 4 = .ok (.iconst 0, 1) := by decide +kernel
theorem dX4_dropOldest_5 : decode cX4_dropOldest 5 = .ok (.aaload, 1) := by decide +kernel
theorem dX4_dropOldest_6 : decode cX4_dropOldest 6 = .ok (.astore_n 1, 1) := by decide +kernel
theorem dX4_dropOldest_7 : decode cX4_dropOldest 7 = .ok (.iconst 1, 1) := by decide +kernel
theorem dX4_dropOldest_8 : decode cX4_dropOldest 8 = .ok (.istore_n 2, 1) := by decide +kernel
theorem dX4_dropOldest_9 : decode cX4_dropOldest 9 = .ok (.iload_n 2, 1) := by decide +kernel
theorem dX4_dropOldest_10 : decode cX4_dropOldest 10 = .ok (.iconst 4, 1) := by decide +kernel
theorem dX4_dropOldest_11 : decode cX4_dropOldest 11 = .ok (.if_icmp .ge 23, 3) := by decide +kernel
theorem dX4_dropOldest_14 : decode cX4_dropOldest 14 = .ok (.aload_n 0, 1) := by decide +kernel
theorem dX4_dropOldest_15 : decode cX4_dropOldest 15 = .ok (.getfield 11, 3) := by decide +kernel
theorem dX4_dropOldest_18 : decode cX4_dropOldest 18 = .ok (.iload_n 2, 1) := by decide +kernel
theorem dX4_dropOldest_19 : decode cX4_dropOldest 19 = .ok (.iconst 1, 1) := by decide +kernel
theorem dX4_dropOldest_20 : decode cX4_dropOldest 20 = .ok (.isub, 1) := by decide +kernel
theorem dX4_dropOldest_21 : decode cX4_dropOldest 21 = .ok (.aload_n 0, 1) := by decide +kernel
theorem dX4_dropOldest_22 : decode cX4_dropOldest 22 = .ok (.getfield 11, 3) := by decide +kernel
theorem dX4_dropOldest_25 : decode cX4_dropOldest 25 = .ok (.iload_n 2, 1) := by decide +kernel
theorem dX4_dropOldest_26 : decode cX4_dropOldest 26 = .ok (.aaload, 1) := by decide +kernel
theorem dX4_dropOldest_27 : decode cX4_dropOldest 27 = .ok (.aastore, 1) := by decide +kernel
theorem dX4_dropOldest_28 : decode cX4_dropOldest 28 = .ok (.iinc 2 1, 3) := by decide +kernel
theorem dX4_dropOldest_31 : decode cX4_dropOldest 31 = .ok (.goto (-22), 3) := by decide +kernel
theorem dX4_dropOldest_34 : decode cX4_dropOldest 34 = .ok (.aload_n 0, 1) := by decide +kernel
theorem dX4_dropOldest_35 : decode cX4_dropOldest 35 = .ok (.getfield 11, 3) := by decide +kernel
theorem dX4_dropOldest_38 : decode cX4_dropOldest 38 = .ok (.iconst 3, 1) := by decide +kernel
theorem dX4_dropOldest_39 : decode cX4_dropOldest 39 = .ok (.aload_n 1, 1) := by decide +kernel
theorem dX4_dropOldest_40 : decode cX4_dropOldest 40 = .ok (.aastore, 1) := by decide +kernel
theorem dX4_dropOldest_41 : decode cX4_dropOldest 41 = .ok (.aload_n 0, 1) := by decide +kernel
theorem dX4_dropOldest_42 : decode cX4_dropOldest 42 = .ok (.iconst 3, 1) := by decide +kernel
theorem dX4_dropOldest_43 : decode cX4_dropOldest 43 = .ok (.putfield 18, 3) := by decide +kernel
theorem dX4_dropOldest_46 : decode cX4_dropOldest 46 = .ok (.return_, 1) := by decide +kernel
theorem dX5_init_0 : decode cX5_init 0 = .ok (.aload_n 0, 1) := by decide +kernel
theorem dX5_init_1 : decode cX5_init 1 = .ok (.invokespecial 3, 3) := by decide +kernel
theorem dX5_init_4 : decode cX5_init 4 = .ok (.aload_n 0, 1) := by decide +kernel
theorem dX5_init_5 : decode cX5_init 5 = .ok (.new 9, 3) := by decide +kernel
theorem dX5_init_8 : decode cX5_init 8 = .ok (.dup, 1) := by decide +kernel
theorem dX5_init_9 : decode cX5_init 9 = .ok (.invokespecial 11, 3) := by decide +kernel
theorem dX5_init_12 : decode cX5_init 12 = .ok (.putfield 12, 3) := by decide +kernel
theorem dX5_init_15 : decode cX5_init 15 = .ok (.aload_n 0, 1) := by decide +kernel
theorem dX5_init_16 : decode cX5_init 16 = .ok (.new 9, 3) := by decide +kernel
theorem dX5_init_19 : decode cX5_init 19 = .ok (.dup, 1) := by decide +kernel
theorem dX5_init_20 : decode cX5_init 20 = .ok (.invokespecial 11, 3) := by decide +kernel
theorem dX5_init_23 : decode cX5_init 23 = .ok (.putfield 18, 3) := by decide +kernel
theorem dX5_init_26 : decode cX5_init 26 = .ok (.aload_n 0, 1) := by decide +kernel
theorem dX5_init_27 : decode cX5_init 27 = .ok (.bipush 72, 2) := by decide +kernel
theorem dX5_init_29 : decode cX5_init 29 = .ok (.newarray .int, 2) := by decide +kernel
theorem dX5_init_31 : decode cX5_init 31 = .ok (.putfield 21, 3) := by decide +kernel
theorem dX5_init_34 : decode cX5_init 34 = .ok (.aload_n 0, 1) := by decide +kernel
theorem dX5_init_35 : decode cX5_init 35 = .ok (.bipush 72, 2) := by decide +kernel
theorem dX5_init_37 : decode cX5_init 37 = .ok (.newarray .int, 2) := by decide +kernel
theorem dX5_init_39 : decode cX5_init 39 = .ok (.putfield 25, 3) := by decide +kernel
theorem dX5_init_42 : decode cX5_init 42 = .ok (.aload_n 0, 1) := by decide +kernel
theorem dX5_init_43 : decode cX5_init 43 = .ok (.bipush 72, 2) := by decide +kernel
theorem dX5_init_45 : decode cX5_init 45 = .ok (.newarray .int, 2) := by decide +kernel
theorem dX5_init_47 : decode cX5_init 47 = .ok (.putfield 28, 3) := by decide +kernel
theorem dX5_init_50 : decode cX5_init 50 = .ok (.aload_n 0, 1) := by decide +kernel
theorem dX5_init_51 : decode cX5_init 51 = .ok (.bipush 72, 2) := by decide +kernel
theorem dX5_init_53 : decode cX5_init 53 = .ok (.newarray .int, 2) := by decide +kernel
theorem dX5_init_55 : decode cX5_init 55 = .ok (.putfield 31, 3) := by decide +kernel
theorem dX5_init_58 : decode cX5_init 58 = .ok (.aload_n 0, 1) := by decide +kernel
theorem dX5_init_59 : decode cX5_init 59 = .ok (.bipush 72, 2) := by decide +kernel
theorem dX5_init_61 : decode cX5_init 61 = .ok (.newarray .int, 2) := by decide +kernel
theorem dX5_init_63 : decode cX5_init 63 = .ok (.putfield 34, 3) := by decide +kernel
theorem dX5_init_66 : decode cX5_init 66 = .ok (.aload_n 0, 1) := by decide +kernel
theorem dX5_init_67 : decode cX5_init 67 = .ok (.sipush 5184, 3) := by decide +kernel
theorem dX5_init_70 : decode cX5_init 70 = .ok (.newarray .int, 2) := by decide +kernel
theorem dX5_init_72 : decode cX5_init 72 = .ok (.putfield 37, 3) := by decide +kernel
theorem dX5_init_75 : decode cX5_init 75 = .ok (.aload_n 0, 1) := by decide +kernel
theorem dX5_init_76 : decode cX5_init 76 = .ok (.bipush 72, 2) := by decide +kernel
theorem dX5_init_78 : decode cX5_init 78 = .ok (.newarray .int, 2) := by decide +kernel
theorem dX5_init_80 : decode cX5_init 80 = .ok (.putfield 40, 3) := by decide +kernel
theorem dX5_init_83 : decode cX5_init 83 = .ok (.aload_n 0, 1) := by decide +kernel
theorem dX5_init_84 : decode cX5_init 84 = .ok (.bipush 72, 2) := by decide +kernel
theorem dX5_init_86 : decode cX5_init 86 = .ok (.newarray .int, 2) := by decide +kernel
theorem dX5_init_88 : decode cX5_init 88 = .ok (.putfield 43, 3) := by decide +kernel
theorem dX5_init_91 : decode cX5_init 91 = .ok (.aload_n 0, 1) := by decide +kernel
theorem dX5_init_92 : decode cX5_init 92 = .ok (.bipush 72, 2) := by decide +kernel
theorem dX5_init_94 : decode cX5_init 94 = .ok (.newarray .int, 2) := by decide +kernel
theorem dX5_init_96 : decode cX5_init 96 = .ok (.putfield 46, 3) := by decide +kernel
theorem dX5_init_99 : decode cX5_init 99 = .ok (.aload_n 0, 1) := by decide +kernel
theorem dX5_init_100 : decode cX5_init 100 = .ok (.iconst 1, 1) := by decide +kernel
theorem dX5_init_101 : decode cX5_init 101 = .ok (.putfield 49, 3) := by decide +kernel
theorem dX5_init_104 : decode cX5_init 104 = .ok (.iconst 0, 1) := by decide +kernel
theorem dX5_init_105 : decode cX5_init 105 = .ok (.istore_n 1, 1) := by decide +kernel
theorem dX5_init_106 : decode cX5_init 106 = .ok (.iload_n 1, 1) := by decide +kernel
theorem dX5_init_107 : decode cX5_init 107 = .ok (.bipush 72, 2) := by decide +kernel
theorem dX5_init_109 : decode cX5_init 109 = .ok (.if_icmp .ge 26, 3) := by decide +kernel
theorem dX5_init_112 : decode cX5_init 112 = .ok (.aload_n 0, 1) := by decide +kernel
theorem dX5_init_113 : decode cX5_init 113 = .ok (.getfield 18, 3) := by decide +kernel
theorem dX5_init_116 : decode cX5_init 116 = .ok (.getfield 53, 3) := by decide +kernel
theorem dX5_init_119 : decode cX5_init 119 = .ok (.iload_n 1, 1) := by decide +kernel
theorem dX5_init_120 : decode cX5_init 120 = .ok (.iconst (-1), 1) := by decide +kernel
theorem dX5_init_121 : decode cX5_init 121 = .ok (.iastore, 1) := by decide +kernel
theorem dX5_init_122 : decode cX5_init 122 = .ok (.aload_n 0, 1) := by decide +kernel
theorem dX5_init_123 : decode cX5_init 123 = .ok (.getfield 46, 3) := by decide +kernel
theorem dX5_init_126 : decode cX5_init 126 = .ok (.iload_n 1, 1) := by decide +kernel
theorem dX5_init_127 : decode cX5_init 127 = .ok (.iconst (-1), 1) := by decide +kernel
theorem dX5_init_128 : decode cX5_init 128 = .ok (.iastore, 1) := by decide +kernel
theorem dX5_init_129 : decode cX5_init 129 = .ok (.iinc 1 1, 3) := by decide +kernel
theorem dX5_init_132 : decode cX5_init 132 = .ok (.goto (-26), 3) := by decide +kernel
theorem dX5_init_135 : decode cX5_init 135 = .ok (.return_, 1) := by decide +kernel
theorem dX5_takeAll_0 : decode cX5_takeAll 0 = .ok (.aload_n 0, 1) := by decide +kernel
theorem dX5_takeAll_1 : decode cX5_takeAll 1 = .ok (.getfield 12, 3) := by decide +kernel
theorem dX5_takeAll_4 : decode cX5_takeAll 4 = .ok (.aload_n 1, 1) := by decide +kernel
theorem dX5_takeAll_5 : decode cX5_takeAll 5 = .ok (.getfield 12, 3) := by decide +kernel
theorem dX5_takeAll_8 : decode cX5_takeAll 8 = .ok (.invokevirtual 56, 3) := by decide +kernel
theorem dX5_takeAll_11 : decode cX5_takeAll 11 = .ok (.aload_n 0, 1) := by decide +kernel
theorem dX5_takeAll_12 : decode cX5_takeAll 12 = .ok (.getfield 18, 3) := by decide +kernel
theorem dX5_takeAll_15 : decode cX5_takeAll 15 = .ok (.aload_n 1, 1) := by decide +kernel
theorem dX5_takeAll_16 : decode cX5_takeAll 16 = .ok (.getfield 18, 3) := by decide +kernel
theorem dX5_takeAll_19 : decode cX5_takeAll 19 = .ok (.invokevirtual 56, 3) := by decide +kernel
theorem dX5_takeAll_22 : decode cX5_takeAll 22 = .ok (.aload_n 1, 1) := by decide +kernel
theorem dX5_takeAll_23 : decode cX5_takeAll 23 = .ok (.getfield 21, 3) := by decide +kernel
theorem dX5_takeAll_26 : decode cX5_takeAll 26 = .ok (.iconst 0, 1) := by decide +kernel
theorem dX5_takeAll_27 : decode cX5_takeAll 27 = .ok (.aload_n 0, 1) := by decide +kernel
theorem dX5_takeAll_28 : decode cX5_takeAll 28 = .ok (.getfield 21, 3) := by decide +kernel
theorem dX5_takeAll_31 : decode cX5_takeAll 31 = .ok (.iconst 0, 1) := by decide +kernel
theorem dX5_takeAll_32 : decode cX5_takeAll 32 = .ok (.bipush 72, 2) := by decide +kernel
theorem dX5_takeAll_34 : decode cX5_takeAll 34 = .ok (.invokestatic 60, 3) := by decide +kernel
theorem dX5_takeAll_37 : decode cX5_takeAll 37 = .ok (.aload_n 1, 1) := by decide +kernel
theorem dX5_takeAll_38 : decode cX5_takeAll 38 = .ok (.getfield 25, 3) := by decide +kernel
theorem dX5_takeAll_41 : decode cX5_takeAll 41 = .ok (.iconst 0, 1) := by decide +kernel
theorem dX5_takeAll_42 : decode cX5_takeAll 42 = .ok (.aload_n 0, 1) := by decide +kernel
theorem dX5_takeAll_43 : decode cX5_takeAll 43 = .ok (.getfield 25, 3) := by decide +kernel
theorem dX5_takeAll_46 : decode cX5_takeAll 46 = .ok (.iconst 0, 1) := by decide +kernel
theorem dX5_takeAll_47 : decode cX5_takeAll 47 = .ok (.bipush 72, 2) := by decide +kernel
theorem dX5_takeAll_49 : decode cX5_takeAll 49 = .ok (.invokestatic 60, 3) := by decide +kernel
theorem dX5_takeAll_52 : decode cX5_takeAll 52 = .ok (.aload_n 1, 1) := by decide +kernel
theorem dX5_takeAll_53 : decode cX5_takeAll 53 = .ok (.getfield 28, 3) := by decide +kernel
theorem dX5_takeAll_56 : decode cX5_takeAll 56 = .ok (.iconst 0, 1) := by decide +kernel
theorem dX5_takeAll_57 : decode cX5_takeAll 57 = .ok (.aload_n 0, 1) := by decide +kernel
theorem dX5_takeAll_58 : decode cX5_takeAll 58 = .ok (.getfield 28, 3) := by decide +kernel
theorem dX5_takeAll_61 : decode cX5_takeAll 61 = .ok (.iconst 0, 1) := by decide +kernel
theorem dX5_takeAll_62 : decode cX5_takeAll 62 = .ok (.bipush 72, 2) := by decide +kernel
theorem dX5_takeAll_64 : decode cX5_takeAll 64 = .ok (.invokestatic 60, 3) := by decide +kernel
theorem dX5_takeAll_67 : decode cX5_takeAll 67 = .ok (.aload_n 1, 1) := by decide +kernel
theorem dX5_takeAll_68 : decode cX5_takeAll 68 = .ok (.getfield 31, 3) := by decide +kernel
theorem dX5_takeAll_71 : decode cX5_takeAll 71 = .ok (.iconst 0, 1) := by decide +kernel
theorem dX5_takeAll_72 : decode cX5_takeAll 72 = .ok (.aload_n 0, 1) := by decide +kernel
theorem dX5_takeAll_73 : decode cX5_takeAll 73 = .ok (.getfield 31, 3) := by decide +kernel
theorem dX5_takeAll_76 : decode cX5_takeAll 76 = .ok (.iconst 0, 1) := by decide +kernel
theorem dX5_takeAll_77 : decode cX5_takeAll 77 = .ok (.bipush 72, 2) := by decide +kernel
theorem dX5_takeAll_79 : decode cX5_takeAll 79 = .ok (.invokestatic 60, 3) := by decide +kernel
theorem dX5_takeAll_82 : decode cX5_takeAll 82 = .ok (.aload_n 1, 1) := by decide +kernel
theorem dX5_takeAll_83 : decode cX5_takeAll 83 = .ok (.getfield 34, 3) := by decide +kernel
theorem dX5_takeAll_86 : decode cX5_takeAll 86 = .ok (.iconst 0, 1) := by decide +kernel
theorem dX5_takeAll_87 : decode cX5_takeAll 87 = .ok (.aload_n 0, 1) := by decide +kernel
theorem dX5_takeAll_88 : decode cX5_takeAll 88 = .ok (.getfield 34, 3) := by decide +kernel
theorem dX5_takeAll_91 : decode cX5_takeAll 91 = .ok (.iconst 0, 1) := by decide +kernel
theorem dX5_takeAll_92 : decode cX5_takeAll 92 = .ok (.bipush 72, 2) := by decide +kernel
theorem dX5_takeAll_94 : decode cX5_takeAll 94 = .ok (.invokestatic 60, 3) := by decide +kernel
theorem dX5_takeAll_97 : decode cX5_takeAll 97 = .ok (.aload_n 1, 1) := by decide +kernel
theorem dX5_takeAll_98 : decode cX5_takeAll 98 = .ok (.getfield 37, 3) := by decide +kernel
theorem dX5_takeAll_101 : decode cX5_takeAll 101 = .ok (.iconst 0, 1) := by decide +kernel
theorem dX5_takeAll_102 : decode cX5_takeAll 102 = .ok (.aload_n 0, 1) := by decide +kernel
theorem dX5_takeAll_103 : decode cX5_takeAll 103 = .ok (.getfield 37, 3) := by decide +kernel
theorem dX5_takeAll_106 : decode cX5_takeAll 106 = .ok (.iconst 0, 1) := by decide +kernel
theorem dX5_takeAll_107 : decode cX5_takeAll 107 = .ok (.sipush 5184, 3) := by decide +kernel
theorem dX5_takeAll_110 : decode cX5_takeAll 110 = .ok (.invokestatic 60, 3) := by decide +kernel
theorem dX5_takeAll_113 : decode cX5_takeAll 113 = .ok (.aload_n 1, 1) := by decide +kernel
theorem dX5_takeAll_114 : decode cX5_takeAll 114 = .ok (.getfield 40, 3) := by decide +kernel
theorem dX5_takeAll_117 : decode cX5_takeAll 117 = .ok (.iconst 0, 1) := by decide +kernel
theorem dX5_takeAll_118 : decode cX5_takeAll 118 = .ok (.aload_n 0, 1) := by decide +kernel
theorem dX5_takeAll_119 : decode cX5_takeAll 119 = .ok (.getfield 40, 3) := by decide +kernel
theorem dX5_takeAll_122 : decode cX5_takeAll 122 = .ok (.iconst 0, 1) := by decide +kernel
theorem dX5_takeAll_123 : decode cX5_takeAll 123 = .ok (.bipush 72, 2) := by decide +kernel
theorem dX5_takeAll_125 : decode cX5_takeAll 125 = .ok (.invokestatic 60, 3) := by decide +kernel
theorem dX5_takeAll_128 : decode cX5_takeAll 128 = .ok (.aload_n 1, 1) := by decide +kernel
theorem dX5_takeAll_129 : decode cX5_takeAll 129 = .ok (.getfield 43, 3) := by decide +kernel
theorem dX5_takeAll_132 : decode cX5_takeAll 132 = .ok (.iconst 0, 1) := by decide +kernel
theorem dX5_takeAll_133 : decode cX5_takeAll 133 = .ok (.aload_n 0, 1) := by decide +kernel
theorem dX5_takeAll_134 : decode cX5_takeAll 134 = .ok (.getfield 43, 3) := by decide +kernel
theorem dX5_takeAll_137 : decode cX5_takeAll 137 = .ok (.iconst 0, 1) := by decide +kernel
theorem dX5_takeAll_138 : decode cX5_takeAll 138 = .ok (.bipush 72, 2) := by decide +kernel
theorem dX5_takeAll_140 : decode cX5_takeAll 140 = .ok (.invokestatic 60, 3) := by decide +kernel
theorem dX5_takeAll_143 : decode cX5_takeAll 143 = .ok (.aload_n 1, 1) := by decide +kernel
theorem dX5_takeAll_144 : decode cX5_takeAll 144 = .ok (.getfield 46, 3) := by decide +kernel
theorem dX5_takeAll_147 : decode cX5_takeAll 147 = .ok (.iconst 0, 1) := by decide +kernel
theorem dX5_takeAll_148 : decode cX5_takeAll 148 = .ok (.aload_n 0, 1) := by decide +kernel
theorem dX5_takeAll_149 : decode cX5_takeAll 149 = .ok (.getfield 46, 3) := by decide +kernel
theorem dX5_takeAll_152 : decode cX5_takeAll 152 = .ok (.iconst 0, 1) := by decide +kernel
theorem dX5_takeAll_153 : decode cX5_takeAll 153 = .ok (.bipush 72, 2) := by decide +kernel
theorem dX5_takeAll_155 : decode cX5_takeAll 155 = .ok (.invokestatic 60, 3) := by decide +kernel
theorem dX5_takeAll_158 : decode cX5_takeAll 158 = .ok (.aload_n 0, 1) := by decide +kernel
theorem dX5_takeAll_159 : decode cX5_takeAll 159 = .ok (.aload_n 1, 1) := by decide +kernel
theorem dX5_takeAll_160 : decode cX5_takeAll 160 = .ok (.getfield 66, 3) := by decide +kernel
theorem dX5_takeAll_163 : decode cX5_takeAll 163 = .ok (.putfield 66, 3) := by decide +kernel
theorem dX5_takeAll_166 : decode cX5_takeAll 166 = .ok (.aload_n 0, 1) := by decide +kernel
theorem dX5_takeAll_167 : decode cX5_takeAll 167 = .ok (.aload_n 1, 1) := by decide +kernel
theorem dX5_takeAll_168 : decode cX5_takeAll 168 = .ok (.getfield 70, 3) := by decide +kernel
theorem dX5_takeAll_171 : decode cX5_takeAll 171 = .ok (.putfield 70, 3) := by decide +kernel
theorem dX5_takeAll_174 : decode cX5_takeAll 174 = .ok (.aload_n 0, 1) := by decide +kernel
theorem dX5_takeAll_175 : decode cX5_takeAll 175 = .ok (.aload_n 1, 1) := by decide +kernel
theorem dX5_takeAll_176 : decode cX5_takeAll 176 = .ok (.getfield 49, 3) := by decide +kernel
theorem dX5_takeAll_179 : decode cX5_takeAll 179 = .ok (.putfield 49, 3) := by decide +kernel
theorem dX5_takeAll_182 : decode cX5_takeAll 182 = .ok (.return_, 1) := by decide +kernel
theorem dX5_isEmpty_0 : decode cX5_isEmpty 0 = .ok (.aload_n 0, 1) := by decide +kernel
theorem dX5_isEmpty_1 : decode cX5_isEmpty 1 = .ok (.getfield 12, 3) := by decide +kernel
theorem dX5_isEmpty_4 : decode cX5_isEmpty 4 = .ok (.getfield 53, 3) := by decide +kernel
theorem dX5_isEmpty_7 : decode cX5_isEmpty 7 = .ok (.iload_n 1, 1) := by decide +kernel
theorem dX5_isEmpty_8 : decode cX5_isEmpty 8 = .ok (.iaload, 1) := by decide +kernel
theorem dX5_isEmpty_9 : decode cX5_isEmpty 9 = .ok (.ifCond .ne 7, 3) := by decide +kernel
theorem dX5_isEmpty_12 : decode cX5_isEmpty 12 = .ok (.iconst 1, 1) := by decide +kernel
theorem dX5_isEmpty_13 : decode cX5_isEmpty 13 = .ok (.goto 4, 3) := by decide +kernel
theorem dX5_isEmpty_16 : decode cX5_isEmpty 16 = .ok (.iconst 0, 1) := by decide +kernel
theorem dX5_isEmpty_17 : decode cX5_isEmpty 17 = .ok (.ireturn, 1) := by decide +kernel
theorem dX5_waits_0 : decode cX5_waits 0 = .ok (.aload_n 0, 1) := by decide +kernel
theorem dX5_waits_1 : decode cX5_waits 1 = .ok (.getfield 18, 3) := by decide +kernel
theorem dX5_waits_4 : decode cX5_waits 4 = .ok (.getfield 53, 3) := by decide +kernel
theorem dX5_waits_7 : decode cX5_waits 7 = .ok (.iload_n 1, 1) := by decide +kernel
theorem dX5_waits_8 : decode cX5_waits 8 = .ok (.iaload, 1) := by decide +kernel
theorem dX5_waits_9 : decode cX5_waits 9 = .ok (.iconst (-1), 1) := by decide +kernel
theorem dX5_waits_10 : decode cX5_waits 10 = .ok (.if_icmp .eq 7, 3) := by decide +kernel
theorem dX5_waits_13 : decode cX5_waits 13 = .ok (.iconst 1, 1) := by decide +kernel
theorem dX5_waits_14 : decode cX5_waits 14 = .ok (.goto 4, 3) := by decide +kernel
theorem dX5_waits_17 : decode cX5_waits 17 = .ok (.iconst 0, 1) := by decide +kernel
theorem dX5_waits_18 : decode cX5_waits 18 = .ok (.ireturn, 1) := by decide +kernel
theorem dX5_waitingEdits_0 : decode cX5_waitingEdits 0 = .ok (.iconst 0, 1) := by decide +kernel
theorem dX5_waitingEdits_1 : decode cX5_waitingEdits 1 = .ok (.istore_n 1, 1) := by decide +kernel
theorem dX5_waitingEdits_2 : decode cX5_waitingEdits 2 = .ok (.iconst 0, 1) := by decide +kernel
theorem dX5_waitingEdits_3 : decode cX5_waitingEdits 3 = .ok (.istore_n 2, 1) := by decide +kernel
theorem dX5_waitingEdits_4 : decode cX5_waitingEdits 4 = .ok (.iload_n 2, 1) := by decide +kernel
theorem dX5_waitingEdits_5 : decode cX5_waitingEdits 5 = .ok (.bipush 72, 2) := by decide +kernel
theorem dX5_waitingEdits_7 : decode cX5_waitingEdits 7 = .ok (.if_icmp .ge 20, 3) := by decide +kernel
theorem dX5_waitingEdits_10 : decode cX5_waitingEdits 10 = .ok (.aload_n 0, 1) := by decide +kernel
theorem dX5_waitingEdits_11 : decode cX5_waitingEdits 11 = .ok (.iload_n 2, 1) := by decide +kernel
theorem dX5_waitingEdits_12 : decode cX5_waitingEdits 12 = .ok (.invokevirtual 73, 3) := by decide +kernel
theorem dX5_waitingEdits_15 : decode cX5_waitingEdits 15 = .ok (.ifCond .eq 6, 3) := by decide +kernel
theorem dX5_waitingEdits_18 : decode cX5_waitingEdits 18 = .ok (.iinc 1 1, 3) := by decide +kernel
theorem dX5_waitingEdits_21 : decode cX5_waitingEdits 21 = .ok (.iinc 2 1, 3) := by decide +kernel
theorem dX5_waitingEdits_24 : decode cX5_waitingEdits 24 = .ok (.goto (-20), 3) := by decide +kernel
theorem dX5_waitingEdits_27 : decode cX5_waitingEdits 27 = .ok (.iload_n 1, 1) := by decide +kernel
theorem dX5_waitingEdits_28 : decode cX5_waitingEdits 28 = .ok (.ireturn, 1) := by decide +kernel
theorem dX5_readOf_0 : decode cX5_readOf 0 = .ok (.aload_n 0, 1) := by decide +kernel
theorem dX5_readOf_1 : decode cX5_readOf 1 = .ok (.getfield 37, 3) := by decide +kernel
theorem dX5_readOf_4 : decode cX5_readOf 4 = .ok (.iload_n 1, 1) := by decide +kernel
theorem dX5_readOf_5 : decode cX5_readOf 5 = .ok (.bipush 72, 2) := by decide +kernel
theorem dX5_readOf_7 : decode cX5_readOf 7 = .ok (.imul, 1) := by decide +kernel
theorem dX5_readOf_8 : decode cX5_readOf 8 = .ok (.iload_n 2, 1) := by decide +kernel
theorem dX5_readOf_9 : decode cX5_readOf 9 = .ok (.iadd, 1) := by decide +kernel
theorem dX5_readOf_10 : decode cX5_readOf 10 = .ok (.iaload, 1) := by decide +kernel
theorem dX5_readOf_11 : decode cX5_readOf 11 = .ok (.ireturn, 1) := by decide +kernel
theorem dX5_hasRead_0 : decode cX5_hasRead 0 = .ok (.iconst 0, 1) := by decide +kernel
theorem dX5_hasRead_1 : decode cX5_hasRead 1 = .ok (.istore_n 3, 1) := by decide +kernel
theorem dX5_hasRead_2 : decode cX5_hasRead 2 = .ok (.iload_n 3, 1) := by decide +kernel
theorem dX5_hasRead_3 : decode cX5_hasRead 3 = .ok (.aload_n 0, 1) := by decide +kernel
theorem dX5_hasRead_4 : decode cX5_hasRead 4 = .ok (.getfield 34, 3) := by decide +kernel
theorem dX5_hasRead_7 : decode cX5_hasRead 7 = .ok (.iload_n 1, 1) := by decide +kernel
theorem dX5_hasRead_8 : decode cX5_hasRead 8 = .ok (.iaload, 1) := by decide +kernel
theorem dX5_hasRead_9 : decode cX5_hasRead 9 = .ok (.if_icmp .ge 21, 3) := by decide +kernel
theorem dX5_hasRead_12 : decode cX5_hasRead 12 = .ok (.aload_n 0, 1) := by decide +kernel
theorem dX5_hasRead_13 : decode cX5_hasRead 13 = .ok (.iload_n 1, 1) := by decide +kernel
theorem dX5_hasRead_14 : decode cX5_hasRead 14 = .ok (.iload_n 3, 1) := by decide +kernel
theorem dX5_hasRead_15 : decode cX5_hasRead 15 = .ok (.invokevirtual 77, 3) := by decide +kernel
theorem dX5_hasRead_18 : decode cX5_hasRead 18 = .ok (.iload_n 2, 1) := by decide +kernel
theorem dX5_hasRead_19 : decode cX5_hasRead 19 = .ok (.if_icmp .ne 5, 3) := by decide +kernel
theorem dX5_hasRead_22 : decode cX5_hasRead 22 = .ok (.iconst 1, 1) := by decide +kernel
theorem dX5_hasRead_23 : decode cX5_hasRead 23 = .ok (.ireturn, 1) := by decide +kernel
theorem dX5_hasRead_24 : decode cX5_hasRead 24 = .ok (.iinc 3 1, 3) := by decide +kernel
theorem dX5_hasRead_27 : decode cX5_hasRead 27 = .ok (.goto (-25), 3) := by decide +kernel
theorem dX5_hasRead_30 : decode cX5_hasRead 30 = .ok (.iconst 0, 1) := by decide +kernel
theorem dX5_hasRead_31 : decode cX5_hasRead 31 = .ok (.ireturn, 1) := by decide +kernel
theorem dX5_fact_0 : decode cX5_fact 0 = .ok (.iload_n 2, 1) := by decide +kernel
theorem dX5_fact_1 : decode cX5_fact 1 = .ok (.tableswitch 134 0 7 #[47, 54, 76, 83, 97, 104, 120, 127], 47) := by decide +kernel
theorem dX5_fact_48 : decode cX5_fact 48 = .ok (.aload_n 0, 1) := by decide +kernel
theorem dX5_fact_49 : decode cX5_fact 49 = .ok (.getfield 25, 3) := by decide +kernel
theorem dX5_fact_52 : decode cX5_fact 52 = .ok (.iload_n 1, 1) := by decide +kernel
theorem dX5_fact_53 : decode cX5_fact 53 = .ok (.iaload, 1) := by decide +kernel
theorem dX5_fact_54 : decode cX5_fact 54 = .ok (.ireturn, 1) := by decide +kernel
theorem dX5_fact_55 : decode cX5_fact 55 = .ok (.aload_n 0, 1) := by decide +kernel
theorem dX5_fact_56 : decode cX5_fact 56 = .ok (.getfield 31, 3) := by decide +kernel
theorem dX5_fact_59 : decode cX5_fact 59 = .ok (.iload_n 1, 1) := by decide +kernel
theorem dX5_fact_60 : decode cX5_fact 60 = .ok (.iaload, 1) := by decide +kernel
theorem dX5_fact_61 : decode cX5_fact 61 = .ok (.iconst 1, 1) := by decide +kernel
theorem dX5_fact_62 : decode cX5_fact 62 = .ok (.if_icmp .ne 8, 3) := by decide +kernel
theorem dX5_fact_65 : decode cX5_fact 65 = .ok (.ldc 81, 2) := by decide +kernel
theorem dX5_fact_67 : decode cX5_fact 67 = .ok (.goto 9, 3) := by decide +kernel
theorem dX5_fact_70 : decode cX5_fact 70 = .ok (.aload_n 0, 1) := by decide +kernel
theorem dX5_fact_71 : decode cX5_fact 71 = .ok (.getfield 28, 3) := by decide +kernel
theorem dX5_fact_74 : decode cX5_fact 74 = .ok (.iload_n 1, 1) := by decide +kernel
theorem dX5_fact_75 : decode cX5_fact 75 = .ok (.iaload, 1) := by decide +kernel
theorem dX5_fact_76 : decode cX5_fact 76 = .ok (.ireturn, 1) := by decide +kernel
theorem dX5_fact_77 : decode cX5_fact 77 = .ok (.aload_n 0, 1) := by decide +kernel
theorem dX5_fact_78 : decode cX5_fact 78 = .ok (.getfield 34, 3) := by decide +kernel
theorem dX5_fact_81 : decode cX5_fact 81 = .ok (.iload_n 1, 1) := by decide +kernel
theorem dX5_fact_82 : decode cX5_fact 82 = .ok (.iaload, 1) := by decide +kernel
theorem dX5_fact_83 : decode cX5_fact 83 = .ok (.ireturn, 1) := by decide +kernel
theorem dX5_fact_84 : decode cX5_fact 84 = .ok (.aload_n 0, 1) := by decide +kernel
theorem dX5_fact_85 : decode cX5_fact 85 = .ok (.iload_n 1, 1) := by decide +kernel
theorem dX5_fact_86 : decode cX5_fact 86 = .ok (.invokevirtual 82, 3) := by decide +kernel
theorem dX5_fact_89 : decode cX5_fact 89 = .ok (.ifCond .eq 7, 3) := by decide +kernel
theorem dX5_fact_92 : decode cX5_fact 92 = .ok (.iconst 1, 1) := by decide +kernel
theorem dX5_fact_93 : decode cX5_fact 93 = .ok (.goto 4, 3) := by decide +kernel
theorem dX5_fact_96 : decode cX5_fact 96 = .ok (.iconst 0, 1) := by decide +kernel
theorem dX5_fact_97 : decode cX5_fact 97 = .ok (.ireturn, 1) := by decide +kernel
theorem dX5_fact_98 : decode cX5_fact 98 = .ok (.aload_n 0, 1) := by decide +kernel
theorem dX5_fact_99 : decode cX5_fact 99 = .ok (.getfield 40, 3) := by decide +kernel
theorem dX5_fact_102 : decode cX5_fact 102 = .ok (.iload_n 1, 1) := by decide +kernel
theorem dX5_fact_103 : decode cX5_fact 103 = .ok (.iaload, 1) := by decide +kernel
theorem dX5_fact_104 : decode cX5_fact 104 = .ok (.ireturn, 1) := by decide +kernel
theorem dX5_fact_105 : decode cX5_fact 105 = .ok (.aload_n 0, 1) := by decide +kernel
theorem dX5_fact_106 : decode cX5_fact 106 = .ok (.getfield 46, 3) := by decide +kernel
theorem dX5_fact_109 : decode cX5_fact 109 = .ok (.iload_n 1, 1) := by decide +kernel
theorem dX5_fact_110 : decode cX5_fact 110 = .ok (.iaload, 1) := by decide +kernel
theorem dX5_fact_111 : decode cX5_fact 111 = .ok (.iconst (-1), 1) := by decide +kernel
theorem dX5_fact_112 : decode cX5_fact 112 = .ok (.if_icmp .ne 7, 3) := by decide +kernel
theorem dX5_fact_115 : decode cX5_fact 115 = .ok (.iconst 0, 1) := by decide +kernel
theorem dX5_fact_116 : decode cX5_fact 116 = .ok (.goto 4, 3) := by decide +kernel
theorem dX5_fact_119 : decode cX5_fact 119 = .ok (.iconst 1, 1) := by decide +kernel
theorem dX5_fact_120 : decode cX5_fact 120 = .ok (.ireturn, 1) := by decide +kernel
theorem dX5_fact_121 : decode cX5_fact 121 = .ok (.aload_n 0, 1) := by decide +kernel
theorem dX5_fact_122 : decode cX5_fact 122 = .ok (.getfield 43, 3) := by decide +kernel
theorem dX5_fact_125 : decode cX5_fact 125 = .ok (.iload_n 1, 1) := by decide +kernel
theorem dX5_fact_126 : decode cX5_fact 126 = .ok (.iaload, 1) := by decide +kernel
theorem dX5_fact_127 : decode cX5_fact 127 = .ok (.ireturn, 1) := by decide +kernel
theorem dX5_fact_128 : decode cX5_fact 128 = .ok (.aload_n 0, 1) := by decide +kernel
theorem dX5_fact_129 : decode cX5_fact 129 = .ok (.getfield 31, 3) := by decide +kernel
theorem dX5_fact_132 : decode cX5_fact 132 = .ok (.iload_n 1, 1) := by decide +kernel
theorem dX5_fact_133 : decode cX5_fact 133 = .ok (.iaload, 1) := by decide +kernel
theorem dX5_fact_134 : decode cX5_fact 134 = .ok (.ireturn, 1) := by decide +kernel
theorem dX5_fact_135 : decode cX5_fact 135 = .ok (.aload_n 0, 1) := by decide +kernel
theorem dX5_fact_136 : decode cX5_fact 136 = .ok (.getfield 12, 3) := by decide +kernel
theorem dX5_fact_139 : decode cX5_fact 139 = .ok (.getfield 53, 3) := by decide +kernel
theorem dX5_fact_142 : decode cX5_fact 142 = .ok (.iload_n 1, 1) := by decide +kernel
theorem dX5_fact_143 : decode cX5_fact 143 = .ok (.iaload, 1) := by decide +kernel
theorem dX5_fact_144 : decode cX5_fact 144 = .ok (.ireturn, 1) := by decide +kernel
theorem dX5_cellsWithErrors_0 : decode cX5_cellsWithErrors 0 = .ok (.iconst 0, 1) := by decide +kernel
theorem dX5_cellsWithErrors_1 : decode cX5_cellsWithErrors 1 = .ok (.istore_n 1, 1) := by decide +kernel
theorem dX5_cellsWithErrors_2 : decode cX5_cellsWithErrors 2 = .ok (.iconst 0, 1) := by decide +kernel
theorem dX5_cellsWithErrors_3 : decode cX5_cellsWithErrors 3 = .ok (.istore_n 2, 1) := by decide +kernel
theorem dX5_cellsWithErrors_4 : decode cX5_cellsWithErrors 4 = .ok (.iload_n 2, 1) := by decide +kernel
theorem dX5_cellsWithErrors_5 : decode cX5_cellsWithErrors 5 = .ok (.bipush 72, 2) := by decide +kernel
theorem dX5_cellsWithErrors_7 : decode cX5_cellsWithErrors 7 = .ok (.if_icmp .ge 21, 3) := by decide +kernel
theorem dX5_cellsWithErrors_10 : decode cX5_cellsWithErrors 10 = .ok (.aload_n 0, 1) := by decide +kernel
theorem dX5_cellsWithErrors_11 : decode cX5_cellsWithErrors 11 = .ok (.getfield 25, 3) := by decide +kernel
theorem dX5_cellsWithErrors_14 : decode cX5_cellsWithErrors 14 = .ok (.iload_n 2, 1) := by decide +kernel
theorem dX5_cellsWithErrors_15 : decode cX5_cellsWithErrors 15 = .ok (.iaload, 1) := by decide +kernel
theorem dX5_cellsWithErrors_16 : decode cX5_cellsWithErrors 16 = .ok (.ifCond .eq 6, 3) := by decide +kernel
theorem dX5_cellsWithErrors_19 : decode cX5_cellsWithErrors 19 = .ok (.iinc 1 1, 3) := by decide +kernel
theorem dX5_cellsWithErrors_22 : decode cX5_cellsWithErrors 22 = .ok (.iinc 2 1, 3) := by decide +kernel
theorem dX5_cellsWithErrors_25 : decode cX5_cellsWithErrors 25 = .ok (.goto (-21), 3) := by decide +kernel
theorem dX5_cellsWithErrors_28 : decode cX5_cellsWithErrors 28 = .ok (.iload_n 1, 1) := by decide +kernel
theorem dX5_cellsWithErrors_29 : decode cX5_cellsWithErrors 29 = .ok (.ireturn, 1) := by decide +kernel
theorem dX5_greatestHeight_0 : decode cX5_greatestHeight 0 = .ok (.iconst 0, 1) := by decide +kernel
theorem dX5_greatestHeight_1 : decode cX5_greatestHeight 1 = .ok (.istore_n 1, 1) := by decide +kernel
theorem dX5_greatestHeight_2 : decode cX5_greatestHeight 2 = .ok (.iconst 0, 1) := by decide +kernel
theorem dX5_greatestHeight_3 : decode cX5_greatestHeight 3 = .ok (.istore_n 2, 1) := by decide +kernel
theorem dX5_greatestHeight_4 : decode cX5_greatestHeight 4 = .ok (.iload_n 2, 1) := by decide +kernel
theorem dX5_greatestHeight_5 : decode cX5_greatestHeight 5 = .ok (.bipush 72, 2) := by decide +kernel
theorem dX5_greatestHeight_7 : decode cX5_greatestHeight 7 = .ok (.if_icmp .ge 29, 3) := by decide +kernel
theorem dX5_greatestHeight_10 : decode cX5_greatestHeight 10 = .ok (.aload_n 0, 1) := by decide +kernel
theorem dX5_greatestHeight_11 : decode cX5_greatestHeight 11 = .ok (.getfield 31, 3) := by decide +kernel
theorem dX5_greatestHeight_14 : decode cX5_greatestHeight 14 = .ok (.iload_n 2, 1) := by decide +kernel
theorem dX5_greatestHeight_15 : decode cX5_greatestHeight 15 = .ok (.iaload, 1) := by decide +kernel
theorem dX5_greatestHeight_16 : decode cX5_greatestHeight 16 = .ok (.ifCond .ne 14, 3) := by decide +kernel
theorem dX5_greatestHeight_19 : decode cX5_greatestHeight 19 = .ok (.iload_n 1, 1) := by decide +kernel
theorem dX5_greatestHeight_20 : decode cX5_greatestHeight 20 = .ok (.aload_n 0, 1) := by decide +kernel
theorem dX5_greatestHeight_21 : decode cX5_greatestHeight 21 = .ok (.getfield 28, 3) := by decide +kernel
theorem dX5_greatestHeight_24 : decode cX5_greatestHeight 24 = .ok (.iload_n 2, 1) := by decide +kernel
theorem dX5_greatestHeight_25 : decode cX5_greatestHeight 25 = .ok (.iaload, 1) := by decide +kernel
theorem dX5_greatestHeight_26 : decode cX5_greatestHeight 26 = .ok (.invokestatic 85, 3) := by decide +kernel
theorem dX5_greatestHeight_29 : decode cX5_greatestHeight 29 = .ok (.istore_n 1, 1) := by decide +kernel
theorem dX5_greatestHeight_30 : decode cX5_greatestHeight 30 = .ok (.iinc 2 1, 3) := by decide +kernel
theorem dX5_greatestHeight_33 : decode cX5_greatestHeight 33 = .ok (.goto (-29), 3) := by decide +kernel
theorem dX5_greatestHeight_36 : decode cX5_greatestHeight 36 = .ok (.iload_n 1, 1) := by decide +kernel
theorem dX5_greatestHeight_37 : decode cX5_greatestHeight 37 = .ok (.ireturn, 1) := by decide +kernel
theorem dX5_rankOf_0 : decode cX5_rankOf 0 = .ok (.aload_n 0, 1) := by decide +kernel
theorem dX5_rankOf_1 : decode cX5_rankOf 1 = .ok (.getfield 31, 3) := by decide +kernel
theorem dX5_rankOf_4 : decode cX5_rankOf 4 = .ok (.iload_n 1, 1) := by decide +kernel
theorem dX5_rankOf_5 : decode cX5_rankOf 5 = .ok (.iaload, 1) := by decide +kernel
theorem dX5_rankOf_6 : decode cX5_rankOf 6 = .ok (.iconst 1, 1) := by decide +kernel
theorem dX5_rankOf_7 : decode cX5_rankOf 7 = .ok (.if_icmp .ne 8, 3) := by decide +kernel
theorem dX5_rankOf_10 : decode cX5_rankOf 10 = .ok (.bipush 72, 2) := by decide +kernel
theorem dX5_rankOf_12 : decode cX5_rankOf 12 = .ok (.goto 9, 3) := by decide +kernel
theorem dX5_rankOf_15 : decode cX5_rankOf 15 = .ok (.aload_n 0, 1) := by decide +kernel
theorem dX5_rankOf_16 : decode cX5_rankOf 16 = .ok (.getfield 28, 3) := by decide +kernel
theorem dX5_rankOf_19 : decode cX5_rankOf 19 = .ok (.iload_n 1, 1) := by decide +kernel
theorem dX5_rankOf_20 : decode cX5_rankOf 20 = .ok (.iaload, 1) := by decide +kernel
theorem dX5_rankOf_21 : decode cX5_rankOf 21 = .ok (.ireturn, 1) := by decide +kernel
theorem dX5_markChanges_0 : decode cX5_markChanges 0 = .ok (.iconst 0, 1) := by decide +kernel
theorem dX5_markChanges_1 : decode cX5_markChanges 1 = .ok (.istore_n 2, 1) := by decide +kernel
theorem dX5_markChanges_2 : decode cX5_markChanges 2 = .ok (.iload_n 2, 1) := by decide +kernel
theorem dX5_markChanges_3 : decode cX5_markChanges 3 = .ok (.bipush 72, 2) := by decide +kernel
theorem dX5_markChanges_5 : decode cX5_markChanges 5 = .ok (.if_icmp .ge 73, 3) := by decide +kernel
theorem dX5_markChanges_8 : decode cX5_markChanges 8 = .ok (.aload_n 0, 1) := by decide +kernel
theorem dX5_markChanges_9 : decode cX5_markChanges 9 = .ok (.getfield 21, 3) := by decide +kernel
theorem dX5_markChanges_12 : decode cX5_markChanges 12 = .ok (.iload_n 2, 1) := by decide +kernel
theorem dX5_markChanges_13 : decode cX5_markChanges 13 = .ok (.iaload, 1) := by decide +kernel
theorem dX5_markChanges_14 : decode cX5_markChanges 14 = .ok (.aload_n 1, 1) := by decide +kernel
theorem dX5_markChanges_15 : decode cX5_markChanges 15 = .ok (.getfield 21, 3) := by decide +kernel
theorem dX5_markChanges_18 : decode cX5_markChanges 18 = .ok (.iload_n 2, 1) := by decide +kernel
theorem dX5_markChanges_19 : decode cX5_markChanges 19 = .ok (.iaload, 1) := by decide +kernel
theorem dX5_markChanges_20 : decode cX5_markChanges 20 = .ok (.if_icmp .ne 35, 3) := by decide +kernel
theorem dX5_markChanges_23 : decode cX5_markChanges 23 = .ok (.aload_n 0, 1) := by decide +kernel
theorem dX5_markChanges_24 : decode cX5_markChanges 24 = .ok (.getfield 25, 3) := by decide +kernel
theorem dX5_markChanges_27 : decode cX5_markChanges 27 = .ok (.iload_n 2, 1) := by decide +kernel
theorem dX5_markChanges_28 : decode cX5_markChanges 28 = .ok (.iaload, 1) := by decide +kernel
theorem dX5_markChanges_29 : decode cX5_markChanges 29 = .ok (.aload_n 1, 1) := by decide +kernel
theorem dX5_markChanges_30 : decode cX5_markChanges 30 = .ok (.getfield 25, 3) := by decide +kernel
theorem dX5_markChanges_33 : decode cX5_markChanges 33 = .ok (.iload_n 2, 1) := by decide +kernel
theorem dX5_markChanges_34 : decode cX5_markChanges 34 = .ok (.iaload, 1) := by decide +kernel
theorem dX5_markChanges_35 : decode cX5_markChanges 35 = .ok (.if_icmp .ne 20, 3) := by decide +kernel
theorem dX5_markChanges_38 : decode cX5_markChanges 38 = .ok (.aload_n 0, 1) := by decide +kernel
theorem dX5_markChanges_39 : decode cX5_markChanges 39 = .ok (.iload_n 2, 1) := by decide +kernel
theorem dX5_markChanges_40 : decode cX5_markChanges 40 = .ok (.invokevirtual 82, 3) := by decide +kernel
theorem dX5_markChanges_43 : decode cX5_markChanges 43 = .ok (.aload_n 1, 1) := by decide +kernel
theorem dX5_markChanges_44 : decode cX5_markChanges 44 = .ok (.iload_n 2, 1) := by decide +kernel
theorem dX5_markChanges_45 : decode cX5_markChanges 45 = .ok (.invokevirtual 82, 3) := by decide +kernel
theorem dX5_markChanges_48 : decode cX5_markChanges 48 = .ok (.if_icmp .ne 7, 3) := by decide +kernel
theorem dX5_markChanges_51 : decode cX5_markChanges 51 = .ok (.iconst 1, 1) := by decide +kernel
theorem dX5_markChanges_52 : decode cX5_markChanges 52 = .ok (.goto 4, 3) := by decide +kernel
theorem dX5_markChanges_55 : decode cX5_markChanges 55 = .ok (.iconst 0, 1) := by decide +kernel
theorem dX5_markChanges_56 : decode cX5_markChanges 56 = .ok (.istore_n 3, 1) := by decide +kernel
theorem dX5_markChanges_57 : decode cX5_markChanges 57 = .ok (.aload_n 0, 1) := by decide +kernel
theorem dX5_markChanges_58 : decode cX5_markChanges 58 = .ok (.getfield 43, 3) := by decide +kernel
theorem dX5_markChanges_61 : decode cX5_markChanges 61 = .ok (.iload_n 2, 1) := by decide +kernel
theorem dX5_markChanges_62 : decode cX5_markChanges 62 = .ok (.iload_n 3, 1) := by decide +kernel
theorem dX5_markChanges_63 : decode cX5_markChanges 63 = .ok (.ifCond .eq 7, 3) := by decide +kernel
theorem dX5_markChanges_66 : decode cX5_markChanges 66 = .ok (.iconst 0, 1) := by decide +kernel
theorem dX5_markChanges_67 : decode cX5_markChanges 67 = .ok (.goto 4, 3) := by decide +kernel
theorem dX5_markChanges_70 : decode cX5_markChanges 70 = .ok (.iconst 1, 1) := by decide +kernel
theorem dX5_markChanges_71 : decode cX5_markChanges 71 = .ok (.iastore, 1) := by decide +kernel
theorem dX5_markChanges_72 : decode cX5_markChanges 72 = .ok (.iinc 2 1, 3) := by decide +kernel
theorem dX5_markChanges_75 : decode cX5_markChanges 75 = .ok (.goto (-73), 3) := by decide +kernel
theorem dX5_markChanges_78 : decode cX5_markChanges 78 = .ok (.return_, 1) := by decide +kernel
theorem dX5_causeOf_0 : decode cX5_causeOf 0 = .ok (.iload_n 3, 1) := by decide +kernel
theorem dX5_causeOf_1 : decode cX5_causeOf 1 = .ok (.ifCond .eq 5, 3) := by decide +kernel
theorem dX5_causeOf_4 : decode cX5_causeOf 4 = .ok (.iload_n 1, 1) := by decide +kernel
theorem dX5_causeOf_5 : decode cX5_causeOf 5 = .ok (.ireturn, 1) := by decide +kernel
theorem dX5_causeOf_6 : decode cX5_causeOf 6 = .ok (.iconst 0, 1) := by decide +kernel
theorem dX5_causeOf_7 : decode cX5_causeOf 7 = .ok (.istore 4, 2) := by decide +kernel
theorem dX5_causeOf_9 : decode cX5_causeOf 9 = .ok (.iload 4, 2) := by decide +kernel
theorem dX5_causeOf_11 : decode cX5_causeOf 11 = .ok (.aload_n 2, 1) := by decide +kernel
theorem dX5_causeOf_12 : decode cX5_causeOf 12 = .ok (.getfield 34, 3) := by decide +kernel
theorem dX5_causeOf_15 : decode cX5_causeOf 15 = .ok (.iload_n 1, 1) := by decide +kernel
theorem dX5_causeOf_16 : decode cX5_causeOf 16 = .ok (.iaload, 1) := by decide +kernel
theorem dX5_causeOf_17 : decode cX5_causeOf 17 = .ok (.if_icmp .ge 32, 3) := by decide +kernel
theorem dX5_causeOf_20 : decode cX5_causeOf 20 = .ok (.aload_n 2, 1) := by decide +kernel
theorem dX5_causeOf_21 : decode cX5_causeOf 21 = .ok (.iload_n 1, 1) := by decide +kernel
theorem dX5_causeOf_22 : decode cX5_causeOf 22 = .ok (.iload 4, 2) := by decide +kernel
theorem dX5_causeOf_24 : decode cX5_causeOf 24 = .ok (.invokevirtual 77, 3) := by decide +kernel
theorem dX5_causeOf_27 : decode cX5_causeOf 27 = .ok (.istore 5, 2) := by decide +kernel
theorem dX5_causeOf_29 : decode cX5_causeOf 29 = .ok (.aload_n 0, 1) := by decide +kernel
theorem dX5_causeOf_30 : decode cX5_causeOf 30 = .ok (.getfield 43, 3) := by decide +kernel
theorem dX5_causeOf_33 : decode cX5_causeOf 33 = .ok (.iload 5, 2) := by decide +kernel
theorem dX5_causeOf_35 : decode cX5_causeOf 35 = .ok (.iaload, 1) := by decide +kernel
theorem dX5_causeOf_36 : decode cX5_causeOf 36 = .ok (.iconst 1, 1) := by decide +kernel
theorem dX5_causeOf_37 : decode cX5_causeOf 37 = .ok (.if_icmp .ne 6, 3) := by decide +kernel
theorem dX5_causeOf_40 : decode cX5_causeOf 40 = .ok (.iload 5, 2) := by decide +kernel
theorem dX5_causeOf_42 : decode cX5_causeOf 42 = .ok (.ireturn, 1) := by decide +kernel
theorem dX5_causeOf_43 : decode cX5_causeOf 43 = .ok (.iinc 4 1, 3) := by decide +kernel
theorem dX5_causeOf_46 : decode cX5_causeOf 46 = .ok (.goto (-37), 3) := by decide +kernel
theorem dX5_causeOf_49 : decode cX5_causeOf 49 = .ok (.aload_n 0, 1) := by decide +kernel
theorem dX5_causeOf_50 : decode cX5_causeOf 50 = .ok (.getfield 31, 3) := by decide +kernel
theorem dX5_causeOf_53 : decode cX5_causeOf 53 = .ok (.iload_n 1, 1) := by decide +kernel
theorem dX5_causeOf_54 : decode cX5_causeOf 54 = .ok (.iaload, 1) := by decide +kernel
theorem dX5_causeOf_55 : decode cX5_causeOf 55 = .ok (.iconst 1, 1) := by decide +kernel
theorem dX5_causeOf_56 : decode cX5_causeOf 56 = .ok (.if_icmp .eq 13, 3) := by decide +kernel
theorem dX5_causeOf_59 : decode cX5_causeOf 59 = .ok (.aload_n 2, 1) := by decide +kernel
theorem dX5_causeOf_60 : decode cX5_causeOf 60 = .ok (.getfield 31, 3) := by decide +kernel
theorem dX5_causeOf_63 : decode cX5_causeOf 63 = .ok (.iload_n 1, 1) := by decide +kernel
theorem dX5_causeOf_64 : decode cX5_causeOf 64 = .ok (.iaload, 1) := by decide +kernel
theorem dX5_causeOf_65 : decode cX5_causeOf 65 = .ok (.iconst 1, 1) := by decide +kernel
theorem dX5_causeOf_66 : decode cX5_causeOf 66 = .ok (.if_icmp .ne 7, 3) := by decide +kernel
theorem dX5_causeOf_69 : decode cX5_causeOf 69 = .ok (.iload_n 1, 1) := by decide +kernel
theorem dX5_causeOf_70 : decode cX5_causeOf 70 = .ok (.goto 4, 3) := by decide +kernel
theorem dX5_causeOf_73 : decode cX5_causeOf 73 = .ok (.iconst (-1), 1) := by decide +kernel
theorem dX5_causeOf_74 : decode cX5_causeOf 74 = .ok (.ireturn, 1) := by decide +kernel
theorem dX6_init_0 : decode cX6_init 0 = .ok (.aload_n 0, 1) := by decide +kernel
theorem dX6_init_1 : decode cX6_init 1 = .ok (.invokespecial 3, 3) := by decide +kernel
theorem dX6_init_4 : decode cX6_init 4 = .ok (.aload_n 0, 1) := by decide +kernel
theorem dX6_init_5 : decode cX6_init 5 = .ok (.bipush 30, 2) := by decide +kernel
theorem dX6_init_7 : decode cX6_init 7 = .ok (.newarray .int, 2) := by decide +kernel
theorem dX6_init_9 : decode cX6_init 9 = .ok (.putfield 9, 3) := by decide +kernel
theorem dX6_init_12 : decode cX6_init 12 = .ok (.return_, 1) := by decide +kernel
theorem dX6_add_0 : decode cX6_add 0 = .ok (.aload_n 0, 1) := by decide +kernel
theorem dX6_add_1 : decode cX6_add 1 = .ok (.getfield 15, 3) := by decide +kernel
theorem dX6_add_4 : decode cX6_add 4 = .ok (.ifCond .lt 32, 3) := by decide +kernel
theorem dX6_add_7 : decode cX6_add 7 = .ok (.aload_n 0, 1) := by decide +kernel
theorem dX6_add_8 : decode cX6_add 8 = .ok (.getfield 15, 3) := by decide +kernel
theorem dX6_add_11 : decode cX6_add 11 = .ok (.bipush 30, 2) := by decide +kernel
theorem dX6_add_13 : decode cX6_add 13 = .ok (.if_icmp .ge 23, 3) := by decide +kernel
theorem dX6_add_16 : decode cX6_add 16 = .ok (.aload_n 0, 1) := by decide +kernel
theorem dX6_add_17 : decode cX6_add 17 = .ok (.getfield 9, 3) := by decide +kernel
theorem dX6_add_20 : decode cX6_add 20 = .ok (.aload_n 0, 1) := by decide +kernel
theorem dX6_add_21 : decode cX6_add 21 = .ok (.getfield 15, 3) := by decide +kernel
theorem dX6_add_24 : decode cX6_add 24 = .ok (.iload_n 1, 1) := by decide +kernel
theorem dX6_add_25 : decode cX6_add 25 = .ok (.iastore, 1) := by decide +kernel
theorem dX6_add_26 : decode cX6_add 26 = .ok (.aload_n 0, 1) := by decide +kernel
theorem dX6_add_27 : decode cX6_add 27 = .ok (.dup, 1) := by decide +kernel
theorem dX6_add_28 : decode cX6_add 28 = .ok (.getfield 15, 3) := by decide +kernel
theorem dX6_add_31 : decode cX6_add 31 = .ok (.iconst 1, 1) := by decide +kernel
theorem dX6_add_32 : decode cX6_add 32 = .ok (.iadd, 1) := by decide +kernel
theorem dX6_add_33 : decode cX6_add 33 = .ok (.putfield 15, 3) := by decide +kernel
theorem dX6_add_36 : decode cX6_add 36 = .ok (.return_, 1) := by decide +kernel
theorem dX7_init_0 : decode cX7_init 0 = .ok (.aload_n 0, 1) := by decide +kernel
theorem dX7_init_1 : decode cX7_init 1 = .ok (.invokespecial 3, 3) := by decide +kernel
theorem dX7_init_4 : decode cX7_init 4 = .ok (.aload_n 0, 1) := by decide +kernel
theorem dX7_init_5 : decode cX7_init 5 = .ok (.sipush 2160, 3) := by decide +kernel
theorem dX7_init_8 : decode cX7_init 8 = .ok (.newarray .int, 2) := by decide +kernel
theorem dX7_init_10 : decode cX7_init 10 = .ok (.putfield 9, 3) := by decide +kernel
theorem dX7_init_13 : decode cX7_init 13 = .ok (.aload_n 0, 1) := by decide +kernel
theorem dX7_init_14 : decode cX7_init 14 = .ok (.bipush 72, 2) := by decide +kernel
theorem dX7_init_16 : decode cX7_init 16 = .ok (.newarray .int, 2) := by decide +kernel
theorem dX7_init_18 : decode cX7_init 18 = .ok (.putfield 15, 3) := by decide +kernel
theorem dX7_init_21 : decode cX7_init 21 = .ok (.return_, 1) := by decide +kernel
theorem dX7_letter_0 : decode cX7_letter 0 = .ok (.iload_n 2, 1) := by decide +kernel
theorem dX7_letter_1 : decode cX7_letter 1 = .ok (.ifCond .lt 27, 3) := by decide +kernel
theorem dX7_letter_4 : decode cX7_letter 4 = .ok (.iload_n 2, 1) := by decide +kernel
theorem dX7_letter_5 : decode cX7_letter 5 = .ok (.aload_n 0, 1) := by decide +kernel
theorem dX7_letter_6 : decode cX7_letter 6 = .ok (.getfield 15, 3) := by decide +kernel
theorem dX7_letter_9 : decode cX7_letter 9 = .ok (.iload_n 1, 1) := by decide +kernel
theorem dX7_letter_10 : decode cX7_letter 10 = .ok (.iaload, 1) := by decide +kernel
theorem dX7_letter_11 : decode cX7_letter 11 = .ok (.if_icmp .ge 17, 3) := by decide +kernel
theorem dX7_letter_14 : decode cX7_letter 14 = .ok (.aload_n 0, 1) := by decide +kernel
theorem dX7_letter_15 : decode cX7_letter 15 = .ok (.getfield 9, 3) := by decide +kernel
theorem dX7_letter_18 : decode cX7_letter 18 = .ok (.iload_n 1, 1) := by decide +kernel
theorem dX7_letter_19 : decode cX7_letter 19 = .ok (.bipush 30, 2) := by decide +kernel
theorem dX7_letter_21 : decode cX7_letter 21 = .ok (.imul, 1) := by decide +kernel
theorem dX7_letter_22 : decode cX7_letter 22 = .ok (.iload_n 2, 1) := by decide +kernel
theorem dX7_letter_23 : decode cX7_letter 23 = .ok (.iadd, 1) := by decide +kernel
theorem dX7_letter_24 : decode cX7_letter 24 = .ok (.iaload, 1) := by decide +kernel
theorem dX7_letter_25 : decode cX7_letter 25 = .ok (.goto 4, 3) := by decide +kernel
theorem dX7_letter_28 : decode cX7_letter 28 = .ok (.iconst 0, 1) := by decide +kernel
theorem dX7_letter_29 : decode cX7_letter 29 = .ok (.ireturn, 1) := by decide +kernel
theorem dX7_take_0 : decode cX7_take 0 = .ok (.aload_n 2, 1) := by decide +kernel
theorem dX7_take_1 : decode cX7_take 1 = .ok (.getfield 18, 3) := by decide +kernel
theorem dX7_take_4 : decode cX7_take 4 = .ok (.iconst 0, 1) := by decide +kernel
theorem dX7_take_5 : decode cX7_take 5 = .ok (.aload_n 0, 1) := by decide +kernel
theorem dX7_take_6 : decode cX7_take 6 = .ok (.getfield 9, 3) := by decide +kernel
theorem dX7_take_9 : decode cX7_take 9 = .ok (.iload_n 1, 1) := by decide +kernel
theorem dX7_take_10 : decode cX7_take 10 = .ok (.bipush 30, 2) := by decide +kernel
theorem dX7_take_12 : decode cX7_take 12 = .ok (.imul, 1) := by decide +kernel
theorem dX7_take_13 : decode cX7_take 13 = .ok (.bipush 30, 2) := by decide +kernel
theorem dX7_take_15 : decode cX7_take 15 = .ok (.invokestatic 21, 3) := by decide +kernel
theorem dX7_take_18 : decode cX7_take 18 = .ok (.aload_n 0, 1) := by decide +kernel
theorem dX7_take_19 : decode cX7_take 19 = .ok (.getfield 15, 3) := by decide +kernel
theorem dX7_take_22 : decode cX7_take 22 = .ok (.iload_n 1, 1) := by decide +kernel
theorem dX7_take_23 : decode cX7_take 23 = .ok (.aload_n 2, 1) := by decide +kernel
theorem dX7_take_24 : decode cX7_take 24 = .ok (.getfield 27, 3) := by decide +kernel
theorem dX7_take_27 : decode cX7_take 27 = .ok (.iastore, 1) := by decide +kernel
theorem dX7_take_28 : decode cX7_take 28 = .ok (.return_, 1) := by decide +kernel
theorem dX7_takeSame_0 : decode cX7_takeSame 0 = .ok (.iload_n 1, 1) := by decide +kernel
theorem dX7_takeSame_1 : decode cX7_takeSame 1 = .ok (.bipush 30, 2) := by decide +kernel
theorem dX7_takeSame_3 : decode cX7_takeSame 3 = .ok (.imul, 1) := by decide +kernel
theorem dX7_takeSame_4 : decode cX7_takeSame 4 = .ok (.istore_n 3, 1) := by decide +kernel
theorem dX7_takeSame_5 : decode cX7_takeSame 5 = .ok (.aload_n 2, 1) := by decide +kernel
theorem dX7_takeSame_6 : decode cX7_takeSame 6 = .ok (.getfield 9, 3) := by decide +kernel
theorem dX7_takeSame_9 : decode cX7_takeSame 9 = .ok (.iload_n 3, 1) := by decide +kernel
theorem dX7_takeSame_10 : decode cX7_takeSame 10 = .ok (.aload_n 0, 1) := by decide +kernel
theorem dX7_takeSame_11 : decode cX7_takeSame 11 = .ok (.getfield 9, 3) := by decide +kernel
theorem dX7_takeSame_14 : decode cX7_takeSame 14 = .ok (.iload_n 3, 1) := by decide +kernel
theorem dX7_takeSame_15 : decode cX7_takeSame 15 = .ok (.bipush 30, 2) := by decide +kernel
theorem dX7_takeSame_17 : decode cX7_takeSame 17 = .ok (.invokestatic 21, 3) := by decide +kernel
theorem dX7_takeSame_20 : decode cX7_takeSame 20 = .ok (.aload_n 0, 1) := by decide +kernel
theorem dX7_takeSame_21 : decode cX7_takeSame 21 = .ok (.getfield 15, 3) := by decide +kernel
theorem dX7_takeSame_24 : decode cX7_takeSame 24 = .ok (.iload_n 1, 1) := by decide +kernel
theorem dX7_takeSame_25 : decode cX7_takeSame 25 = .ok (.aload_n 2, 1) := by decide +kernel
theorem dX7_takeSame_26 : decode cX7_takeSame 26 = .ok (.getfield 15, 3) := by decide +kernel
theorem dX7_takeSame_29 : decode cX7_takeSame 29 = .ok (.iload_n 1, 1) := by decide +kernel
theorem dX7_takeSame_30 : decode cX7_takeSame 30 = .ok (.iaload, 1) := by decide +kernel
theorem dX7_takeSame_31 : decode cX7_takeSame 31 = .ok (.iastore, 1) := by decide +kernel
theorem dX7_takeSame_32 : decode cX7_takeSame 32 = .ok (.return_, 1) := by decide +kernel
theorem dX7_takeAll_0 : decode cX7_takeAll 0 = .ok (.aload_n 1, 1) := by decide +kernel
theorem dX7_takeAll_1 : decode cX7_takeAll 1 = .ok (.getfield 9, 3) := by decide +kernel
theorem dX7_takeAll_4 : decode cX7_takeAll 4 = .ok (.iconst 0, 1) := by decide +kernel
theorem dX7_takeAll_5 : decode cX7_takeAll 5 = .ok (.aload_n 0, 1) := by decide +kernel
theorem dX7_takeAll_6 : decode cX7_takeAll 6 = .ok (.getfield 9, 3) := by decide +kernel
theorem dX7_takeAll_9 : decode cX7_takeAll 9 = .ok (.iconst 0, 1) := by decide +kernel
theorem dX7_takeAll_10 : decode cX7_takeAll 10 = .ok (.sipush 2160, 3) := by decide +kernel
theorem dX7_takeAll_13 : decode cX7_takeAll 13 = .ok (.invokestatic 21, 3) := by decide +kernel
theorem dX7_takeAll_16 : decode cX7_takeAll 16 = .ok (.aload_n 1, 1) := by decide +kernel
theorem dX7_takeAll_17 : decode cX7_takeAll 17 = .ok (.getfield 15, 3) := by decide +kernel
theorem dX7_takeAll_20 : decode cX7_takeAll 20 = .ok (.iconst 0, 1) := by decide +kernel
theorem dX7_takeAll_21 : decode cX7_takeAll 21 = .ok (.aload_n 0, 1) := by decide +kernel
theorem dX7_takeAll_22 : decode cX7_takeAll 22 = .ok (.getfield 15, 3) := by decide +kernel
theorem dX7_takeAll_25 : decode cX7_takeAll 25 = .ok (.iconst 0, 1) := by decide +kernel
theorem dX7_takeAll_26 : decode cX7_takeAll 26 = .ok (.bipush 72, 2) := by decide +kernel
theorem dX7_takeAll_28 : decode cX7_takeAll 28 = .ok (.invokestatic 21, 3) := by decide +kernel
theorem dX7_takeAll_31 : decode cX7_takeAll 31 = .ok (.return_, 1) := by decide +kernel
theorem dX7_clearAll_0 : decode cX7_clearAll 0 = .ok (.iconst 0, 1) := by decide +kernel
theorem dX7_clearAll_1 : decode cX7_clearAll 1 = .ok (.istore_n 2, 1) := by decide +kernel
theorem dX7_clearAll_2 : decode cX7_clearAll 2 = .ok (.iload_n 2, 1) := by decide +kernel
theorem dX7_clearAll_3 : decode cX7_clearAll 3 = .ok (.bipush 72, 2) := by decide +kernel
theorem dX7_clearAll_5 : decode cX7_clearAll 5 = .ok (.if_icmp .ge 16, 3) := by decide +kernel
theorem dX7_clearAll_8 : decode cX7_clearAll 8 = .ok (.aload_n 0, 1) := by decide +kernel
theorem dX7_clearAll_9 : decode cX7_clearAll 9 = .ok (.getfield 15, 3) := by decide +kernel
theorem dX7_clearAll_12 : decode cX7_clearAll 12 = .ok (.iload_n 2, 1) := by decide +kernel
theorem dX7_clearAll_13 : decode cX7_clearAll 13 = .ok (.iload_n 1, 1) := by decide +kernel
theorem dX7_clearAll_14 : decode cX7_clearAll 14 = .ok (.iastore, 1) := by decide +kernel
theorem dX7_clearAll_15 : decode cX7_clearAll 15 = .ok (.iinc 2 1, 3) := by decide +kernel
theorem dX7_clearAll_18 : decode cX7_clearAll 18 = .ok (.goto (-16), 3) := by decide +kernel
theorem dX7_clearAll_21 : decode cX7_clearAll 21 = .ok (.return_, 1) := by decide +kernel
theorem dX8_init_0 : decode cX8_init 0 = .ok (.aload_n 0, 1) := by decide +kernel
theorem dX8_init_1 : decode cX8_init 1 = .ok (.invokespecial 1, 3) := by decide +kernel
theorem dX8_init_4 : decode cX8_init 4 = .ok (.aload_n 0, 1) := by decide +kernel
theorem dX8_init_5 : decode cX8_init 5 = .ok (.new 7, 3) := by decide +kernel
theorem dX8_init_8 : decode cX8_init 8 = .ok (.dup, 1) := by decide +kernel
theorem dX8_init_9 : decode cX8_init 9 = .ok (.invokespecial 9, 3) := by decide +kernel
theorem dX8_init_12 : decode cX8_init 12 = .ok (.putfield 10, 3) := by decide +kernel
theorem dX8_init_15 : decode cX8_init 15 = .ok (.aload_n 0, 1) := by decide +kernel
theorem dX8_init_16 : decode cX8_init 16 = .ok (.new 7, 3) := by decide +kernel
theorem dX8_init_19 : decode cX8_init 19 = .ok (.dup, 1) := by decide +kernel
theorem dX8_init_20 : decode cX8_init 20 = .ok (.invokespecial 9, 3) := by decide +kernel
theorem dX8_init_23 : decode cX8_init 23 = .ok (.putfield 16, 3) := by decide +kernel
theorem dX8_init_26 : decode cX8_init 26 = .ok (.aload_n 0, 1) := by decide +kernel
theorem dX8_init_27 : decode cX8_init 27 = .ok (.new 19, 3) := by decide +kernel
theorem dX8_init_30 : decode cX8_init 30 = .ok (.dup, 1) := by decide +kernel
theorem dX8_init_31 : decode cX8_init 31 = .ok (.invokespecial 21, 3) := by decide +kernel
theorem dX8_init_34 : decode cX8_init 34 = .ok (.putfield 22, 3) := by decide +kernel
theorem dX8_init_37 : decode cX8_init 37 = .ok (.aload_n 0, 1) := by decide +kernel
theorem dX8_init_38 : decode cX8_init 38 = .ok (.new 19, 3) := by decide +kernel
theorem dX8_init_41 : decode cX8_init 41 = .ok (.dup, 1) := by decide +kernel
theorem dX8_init_42 : decode cX8_init 42 = .ok (.invokespecial 21, 3) := by decide +kernel
theorem dX8_init_45 : decode cX8_init 45 = .ok (.putfield 26, 3) := by decide +kernel
theorem dX8_init_48 : decode cX8_init 48 = .ok (.aload_n 0, 1) := by decide +kernel
theorem dX8_init_49 : decode cX8_init 49 = .ok (.new 29, 3) := by decide +kernel
theorem dX8_init_52 : decode cX8_init 52 = .ok (.dup, 1) := by decide +kernel
theorem dX8_init_53 : decode cX8_init 53 = .ok (.invokespecial 31, 3) := by decide +kernel
theorem dX8_init_56 : decode cX8_init 56 = .ok (.putfield 32, 3) := by decide +kernel
theorem dX8_init_59 : decode cX8_init 59 = .ok (.aload_n 0, 1) := by decide +kernel
theorem dX8_init_60 : decode cX8_init 60 = .ok (.new 36, 3) := by decide +kernel
theorem dX8_init_63 : decode cX8_init 63 = .ok (.dup, 1) := by decide +kernel
theorem dX8_init_64 : decode cX8_init 64 = .ok (.invokespecial 38, 3) := by decide +kernel
theorem dX8_init_67 : decode cX8_init 67 = .ok (.putfield 39, 3) := by decide +kernel
theorem dX8_init_70 : decode cX8_init 70 = .ok (.aload_n 0, 1) := by decide +kernel
theorem dX8_init_71 : decode cX8_init 71 = .ok (.new 43, 3) := by decide +kernel
theorem dX8_init_74 : decode cX8_init 74 = .ok (.dup, 1) := by decide +kernel
theorem dX8_init_75 : decode cX8_init 75 = .ok (.aload_n 0, 1) := by decide +kernel
theorem dX8_init_76 : decode cX8_init 76 = .ok (.getfield 26, 3) := by decide +kernel
theorem dX8_init_79 : decode cX8_init 79 = .ok (.invokespecial 45, 3) := by decide +kernel
theorem dX8_init_82 : decode cX8_init 82 = .ok (.putfield 48, 3) := by decide +kernel
theorem dX8_init_85 : decode cX8_init 85 = .ok (.aload_n 0, 1) := by decide +kernel
theorem dX8_init_86 : decode cX8_init 86 = .ok (.bipush 72, 2) := by decide +kernel
theorem dX8_init_88 : decode cX8_init 88 = .ok (.newarray .int, 2) := by decide +kernel
theorem dX8_init_90 : decode cX8_init 90 = .ok (.putfield 52, 3) := by decide +kernel
theorem dX8_init_93 : decode cX8_init 93 = .ok (.return_, 1) := by decide +kernel
theorem dX8_type_0 : decode cX8_type 0 = .ok (.iload_n 1, 1) := by decide +kernel
theorem dX8_type_1 : decode cX8_type 1 = .ok (.bipush 32, 2) := by decide +kernel
theorem dX8_type_3 : decode cX8_type 3 = .ok (.if_icmp .lt 9, 3) := by decide +kernel
theorem dX8_type_6 : decode cX8_type 6 = .ok (.iload_n 1, 1) := by decide +kernel
theorem dX8_type_7 : decode cX8_type 7 = .ok (.bipush 126, 2) := by decide +kernel
theorem dX8_type_9 : decode cX8_type 9 = .ok (.if_icmp .le 6, 3) := by decide +kernel
theorem dX8_type_12 : decode cX8_type 12 = .ok (.ldc 56, 2) := by decide +kernel
theorem dX8_type_14 : decode cX8_type 14 = .ok (.ireturn, 1) := by decide +kernel
theorem dX8_type_15 : decode cX8_type 15 = .ok (.aload_n 0, 1) := by decide +kernel
theorem dX8_type_16 : decode cX8_type 16 = .ok (.getfield 10, 3) := by decide +kernel
theorem dX8_type_19 : decode cX8_type 19 = .ok (.getfield 57, 3) := by decide +kernel
theorem dX8_type_22 : decode cX8_type 22 = .ok (.bipush 30, 2) := by decide +kernel
theorem dX8_type_24 : decode cX8_type 24 = .ok (.if_icmp .lt 6, 3) := by decide +kernel
theorem dX8_type_27 : decode cX8_type 27 = .ok (.ldc 61, 2) := by decide +kernel
theorem dX8_type_29 : decode cX8_type 29 = .ok (.ireturn, 1) := by decide +kernel
theorem dX8_type_30 : decode cX8_type 30 = .ok (.aload_n 0, 1) := by decide +kernel
theorem dX8_type_31 : decode cX8_type 31 = .ok (.getfield 10, 3) := by decide +kernel
theorem dX8_type_34 : decode cX8_type 34 = .ok (.iload_n 1, 1) := by decide +kernel
theorem dX8_type_35 : decode cX8_type 35 = .ok (.invokevirtual 62, 3) := by decide +kernel
theorem dX8_type_38 : decode cX8_type 38 = .ok (.aload_n 0, 1) := by decide +kernel
theorem dX8_type_39 : decode cX8_type 39 = .ok (.getfield 10, 3) := by decide +kernel
theorem dX8_type_42 : decode cX8_type 42 = .ok (.getfield 57, 3) := by decide +kernel
theorem dX8_type_45 : decode cX8_type 45 = .ok (.ireturn, 1) := by decide +kernel
theorem dX8_clearText_0 : decode cX8_clearText 0 = .ok (.aload_n 0, 1) := by decide +kernel
theorem dX8_clearText_1 : decode cX8_clearText 1 = .ok (.getfield 10, 3) := by decide +kernel
theorem dX8_clearText_4 : decode cX8_clearText 4 = .ok (.getfield 57, 3) := by decide +kernel
theorem dX8_clearText_7 : decode cX8_clearText 7 = .ok (.istore_n 1, 1) := by decide +kernel
theorem dX8_clearText_8 : decode cX8_clearText 8 = .ok (.aload_n 0, 1) := by decide +kernel
theorem dX8_clearText_9 : decode cX8_clearText 9 = .ok (.getfield 10, 3) := by decide +kernel
theorem dX8_clearText_12 : decode cX8_clearText 12 = .ok (.iconst 0, 1) := by decide +kernel
theorem dX8_clearText_13 : decode cX8_clearText 13 = .ok (.putfield 57, 3) := by decide +kernel
theorem dX8_clearText_16 : decode cX8_clearText 16 = .ok (.iload_n 1, 1) := by decide +kernel
theorem dX8_clearText_17 : decode cX8_clearText 17 = .ok (.ireturn, 1) := by decide +kernel
theorem dX8_fault_0 : decode cX8_fault 0 = .ok (.aload_n 0, 1) := by decide +kernel
theorem dX8_fault_1 : decode cX8_fault 1 = .ok (.getfield 39, 3) := by decide +kernel
theorem dX8_fault_4 : decode cX8_fault 4 = .ok (.aload_n 0, 1) := by decide +kernel
theorem dX8_fault_5 : decode cX8_fault 5 = .ok (.getfield 10, 3) := by decide +kernel
theorem dX8_fault_8 : decode cX8_fault 8 = .ok (.invokevirtual 66, 3) := by decide +kernel
theorem dX8_fault_11 : decode cX8_fault 11 = .ok (.istore_n 1, 1) := by decide +kernel
theorem dX8_fault_12 : decode cX8_fault 12 = .ok (.iload_n 1, 1) := by decide +kernel
theorem dX8_fault_13 : decode cX8_fault 13 = .ok (.iconst (-1), 1) := by decide +kernel
theorem dX8_fault_14 : decode cX8_fault 14 = .ok (.if_icmp .ne 8, 3) := by decide +kernel
theorem dX8_fault_17 : decode cX8_fault 17 = .ok (.ldc 70, 2) := by decide +kernel
theorem dX8_fault_19 : decode cX8_fault 19 = .ok (.goto 4, 3) := by decide +kernel
theorem dX8_fault_22 : decode cX8_fault 22 = .ok (.iload_n 1, 1) := by decide +kernel
theorem dX8_fault_23 : decode cX8_fault 23 = .ok (.ireturn, 1) := by decide +kernel
theorem dX8_put_0 : decode cX8_put 0 = .ok (.iload_n 1, 1) := by decide +kernel
theorem dX8_put_1 : decode cX8_put 1 = .ok (.invokestatic 71, 3) := by decide +kernel
theorem dX8_put_4 : decode cX8_put 4 = .ok (.ifCond .ne 6, 3) := by decide +kernel
theorem dX8_put_7 : decode cX8_put 7 = .ok (.ldc 56, 2) := by decide +kernel
theorem dX8_put_9 : decode cX8_put 9 = .ok (.ireturn, 1) := by decide +kernel
theorem dX8_put_10 : decode cX8_put 10 = .ok (.aload_n 0, 1) := by decide +kernel
theorem dX8_put_11 : decode cX8_put 11 = .ok (.getfield 39, 3) := by decide +kernel
theorem dX8_put_14 : decode cX8_put 14 = .ok (.aload_n 0, 1) := by decide +kernel
theorem dX8_put_15 : decode cX8_put 15 = .ok (.getfield 10, 3) := by decide +kernel
theorem dX8_put_18 : decode cX8_put 18 = .ok (.invokevirtual 66, 3) := by decide +kernel
theorem dX8_put_21 : decode cX8_put 21 = .ok (.iconst (-1), 1) := by decide +kernel
theorem dX8_put_22 : decode cX8_put 22 = .ok (.if_icmp .eq 6, 3) := by decide +kernel
theorem dX8_put_25 : decode cX8_put 25 = .ok (.ldc 75, 2) := by decide +kernel
theorem dX8_put_27 : decode cX8_put 27 = .ok (.ireturn, 1) := by decide +kernel
theorem dX8_put_28 : decode cX8_put 28 = .ok (.aload_n 0, 1) := by decide +kernel
theorem dX8_put_29 : decode cX8_put 29 = .ok (.iload_n 1, 1) := by decide +kernel
theorem dX8_put_30 : decode cX8_put 30 = .ok (.aload_n 0, 1) := by decide +kernel
theorem dX8_put_31 : decode cX8_put 31 = .ok (.getfield 10, 3) := by decide +kernel
theorem dX8_put_34 : decode cX8_put 34 = .ok (.invokevirtual 76, 3) := by decide +kernel
theorem dX8_put_37 : decode cX8_put 37 = .ok (.ireturn, 1) := by decide +kernel
theorem dX8_copy_0 : decode cX8_copy 0 = .ok (.iload_n 1, 1) := by decide +kernel
theorem dX8_copy_1 : decode cX8_copy 1 = .ok (.invokestatic 71, 3) := by decide +kernel
theorem dX8_copy_4 : decode cX8_copy 4 = .ok (.ifCond .eq 10, 3) := by decide +kernel
theorem dX8_copy_7 : decode cX8_copy 7 = .ok (.iload_n 2, 1) := by decide +kernel
theorem dX8_copy_8 : decode cX8_copy 8 = .ok (.invokestatic 71, 3) := by decide +kernel
theorem dX8_copy_11 : decode cX8_copy 11 = .ok (.ifCond .ne 6, 3) := by decide +kernel
theorem dX8_copy_14 : decode cX8_copy 14 = .ok (.ldc 56, 2) := by decide +kernel
theorem dX8_copy_16 : decode cX8_copy 16 = .ok (.ireturn, 1) := by decide +kernel
theorem dX8_copy_17 : decode cX8_copy 17 = .ok (.iload_n 2, 1) := by decide +kernel
theorem dX8_copy_18 : decode cX8_copy 18 = .ok (.bipush 8, 2) := by decide +kernel
theorem dX8_copy_20 : decode cX8_copy 20 = .ok (.irem, 1) := by decide +kernel
theorem dX8_copy_21 : decode cX8_copy 21 = .ok (.iload_n 1, 1) := by decide +kernel
theorem dX8_copy_22 : decode cX8_copy 22 = .ok (.bipush 8, 2) := by decide +kernel
theorem dX8_copy_24 : decode cX8_copy 24 = .ok (.irem, 1) := by decide +kernel
theorem dX8_copy_25 : decode cX8_copy 25 = .ok (.isub, 1) := by decide +kernel
theorem dX8_copy_26 : decode cX8_copy 26 = .ok (.istore_n 3, 1) := by decide +kernel
theorem dX8_copy_27 : decode cX8_copy 27 = .ok (.iload_n 2, 1) := by decide +kernel
theorem dX8_copy_28 : decode cX8_copy 28 = .ok (.bipush 8, 2) := by decide +kernel
theorem dX8_copy_30 : decode cX8_copy 30 = .ok (.idiv, 1) := by decide +kernel
theorem dX8_copy_31 : decode cX8_copy 31 = .ok (.iload_n 1, 1) := by decide +kernel
theorem dX8_copy_32 : decode cX8_copy 32 = .ok (.bipush 8, 2) := by decide +kernel
theorem dX8_copy_34 : decode cX8_copy 34 = .ok (.idiv, 1) := by decide +kernel
theorem dX8_copy_35 : decode cX8_copy 35 = .ok (.isub, 1) := by decide +kernel
theorem dX8_copy_36 : decode cX8_copy 36 = .ok (.istore 4, 2) := by decide +kernel
theorem dX8_copy_38 : decode cX8_copy 38 = .ok (.aload_n 0, 1) := by decide +kernel
theorem dX8_copy_39 : decode cX8_copy 39 = .ok (.iload_n 1, 1) := by decide +kernel
theorem dX8_copy_40 : decode cX8_copy 40 = .ok (.iload_n 3, 1) := by decide +kernel
theorem dX8_copy_41 : decode cX8_copy 41 = .ok (.iload 4, 2) := by decide +kernel
theorem dX8_copy_43 : decode cX8_copy 43 = .ok (.invokevirtual 80, 3) := by decide +kernel
theorem dX8_copy_46 : decode cX8_copy 46 = .ok (.ifCond .ne 6, 3) := by decide +kernel
theorem dX8_copy_49 : decode cX8_copy 49 = .ok (.ldc 75, 2) := by decide +kernel
theorem dX8_copy_51 : decode cX8_copy 51 = .ok (.ireturn, 1) := by decide +kernel
theorem dX8_copy_52 : decode cX8_copy 52 = .ok (.aload_n 0, 1) := by decide +kernel
theorem dX8_copy_53 : decode cX8_copy 53 = .ok (.iload_n 2, 1) := by decide +kernel
theorem dX8_copy_54 : decode cX8_copy 54 = .ok (.aload_n 0, 1) := by decide +kernel
theorem dX8_copy_55 : decode cX8_copy 55 = .ok (.getfield 16, 3) := by decide +kernel
theorem dX8_copy_58 : decode cX8_copy 58 = .ok (.invokevirtual 76, 3) := by decide +kernel
theorem dX8_copy_61 : decode cX8_copy 61 = .ok (.ireturn, 1) := by decide +kernel
theorem dX8_drop_0 : decode cX8_drop 0 = .ok (.aload_n 0, 1) := by decide +kernel
theorem dX8_drop_1 : decode cX8_drop 1 = .ok (.getfield 22, 3) := by decide +kernel
theorem dX8_drop_4 : decode cX8_drop 4 = .ok (.invokevirtual 84, 3) := by decide +kernel
theorem dX8_drop_7 : decode cX8_drop 7 = .ok (.istore_n 1, 1) := by decide +kernel
theorem dX8_drop_8 : decode cX8_drop 8 = .ok (.iload_n 1, 1) := by decide +kernel
theorem dX8_drop_9 : decode cX8_drop 9 = .ok (.ifCond .ne 6, 3) := by decide +kernel
theorem dX8_drop_12 : decode cX8_drop 12 = .ok (.ldc 75, 2) := by decide +kernel
theorem dX8_drop_14 : decode cX8_drop 14 = .ok (.ireturn, 1) := by decide +kernel
theorem dX8_drop_15 : decode cX8_drop 15 = .ok (.aload_n 0, 1) := by decide +kernel
theorem dX8_drop_16 : decode cX8_drop 16 = .ok (.getfield 32, 3) := by decide +kernel
theorem dX8_drop_19 : decode cX8_drop 19 = .ok (.aload_n 0, 1) := by decide +kernel
theorem dX8_drop_20 : decode cX8_drop 20 = .ok (.getfield 22, 3) := by decide +kernel
theorem dX8_drop_23 : decode cX8_drop 23 = .ok (.invokevirtual 88, 3) := by decide +kernel
theorem dX8_drop_26 : decode cX8_drop 26 = .ok (.pop, 1) := by decide +kernel
theorem dX8_drop_27 : decode cX8_drop 27 = .ok (.aload_n 0, 1) := by decide +kernel
theorem dX8_drop_28 : decode cX8_drop 28 = .ok (.getfield 22, 3) := by decide +kernel
theorem dX8_drop_31 : decode cX8_drop 31 = .ok (.getfield 92, 3) := by decide +kernel
theorem dX8_drop_34 : decode cX8_drop 34 = .ok (.iconst (-1), 1) := by decide +kernel
theorem dX8_drop_35 : decode cX8_drop 35 = .ok (.invokevirtual 96, 3) := by decide +kernel
theorem dX8_drop_38 : decode cX8_drop 38 = .ok (.iload_n 1, 1) := by decide +kernel
theorem dX8_drop_39 : decode cX8_drop 39 = .ok (.ireturn, 1) := by decide +kernel
theorem dX8_waitingAt_0 : decode cX8_waitingAt 0 = .ok (.iload_n 1, 1) := by decide +kernel
theorem dX8_waitingAt_1 : decode cX8_waitingAt 1 = .ok (.ifCond .ge 6, 3) := by decide +kernel
theorem dX8_waitingAt_4 : decode cX8_waitingAt 4 = .ok (.ldc 56, 2) := by decide +kernel
theorem dX8_waitingAt_6 : decode cX8_waitingAt 6 = .ok (.ireturn, 1) := by decide +kernel
theorem dX8_waitingAt_7 : decode cX8_waitingAt 7 = .ok (.iload_n 1, 1) := by decide +kernel
theorem dX8_waitingAt_8 : decode cX8_waitingAt 8 = .ok (.istore_n 2, 1) := by decide +kernel
theorem dX8_waitingAt_9 : decode cX8_waitingAt 9 = .ok (.iconst 0, 1) := by decide +kernel
theorem dX8_waitingAt_10 : decode cX8_waitingAt 10 = .ok (.istore_n 3, 1) := by decide +kernel
theorem dX8_waitingAt_11 : decode cX8_waitingAt 11 = .ok (.iload_n 3, 1) := by decide +kernel
theorem dX8_waitingAt_12 : decode cX8_waitingAt 12 = .ok (.bipush 72, 2) := by decide +kernel
theorem dX8_waitingAt_14 : decode cX8_waitingAt 14 = .ok (.if_icmp .ge 29, 3) := by decide +kernel
theorem dX8_waitingAt_17 : decode cX8_waitingAt 17 = .ok (.aload_n 0, 1) := by decide +kernel
theorem dX8_waitingAt_18 : decode cX8_waitingAt 18 = .ok (.getfield 22, 3) := by decide +kernel
theorem dX8_waitingAt_21 : decode cX8_waitingAt 21 = .ok (.iload_n 3, 1) := by decide +kernel
theorem dX8_waitingAt_22 : decode cX8_waitingAt 22 = .ok (.invokevirtual 101, 3) := by decide +kernel
theorem dX8_waitingAt_25 : decode cX8_waitingAt 25 = .ok (.ifCond .eq 12, 3) := by decide +kernel
theorem dX8_waitingAt_28 : decode cX8_waitingAt 28 = .ok (.iload_n 2, 1) := by decide +kernel
theorem dX8_waitingAt_29 : decode cX8_waitingAt 29 = .ok (.ifCond .ne 5, 3) := by decide +kernel
theorem dX8_waitingAt_32 : decode cX8_waitingAt 32 = .ok (.iload_n 3, 1) := by decide +kernel
theorem dX8_waitingAt_33 : decode cX8_waitingAt 33 = .ok (.ireturn, 1) := by decide +kernel
theorem dX8_waitingAt_34 : decode cX8_waitingAt 34 = .ok (.iinc 2 (-1), 3) := by decide +kernel
theorem dX8_waitingAt_37 : decode cX8_waitingAt 37 = .ok (.iinc 3 1, 3) := by decide +kernel
theorem dX8_waitingAt_40 : decode cX8_waitingAt 40 = .ok (.goto (-29), 3) := by decide +kernel
theorem dX8_waitingAt_43 : decode cX8_waitingAt 43 = .ok (.ldc 70, 2) := by decide +kernel
theorem dX8_waitingAt_45 : decode cX8_waitingAt 45 = .ok (.ireturn, 1) := by decide +kernel
theorem dX8_update_0 : decode cX8_update 0 = .ok (.aload_n 0, 1) := by decide +kernel
theorem dX8_update_1 : decode cX8_update 1 = .ok (.getfield 22, 3) := by decide +kernel
theorem dX8_update_4 : decode cX8_update 4 = .ok (.invokevirtual 84, 3) := by decide +kernel
theorem dX8_update_7 : decode cX8_update 7 = .ok (.ifCond .ne 6, 3) := by decide +kernel
theorem dX8_update_10 : decode cX8_update 10 = .ok (.ldc 75, 2) := by decide +kernel
theorem dX8_update_12 : decode cX8_update 12 = .ok (.ireturn, 1) := by decide +kernel
theorem dX8_update_13 : decode cX8_update 13 = .ok (.aload_n 0, 1) := by decide +kernel
theorem dX8_update_14 : decode cX8_update 14 = .ok (.getfield 32, 3) := by decide +kernel
theorem dX8_update_17 : decode cX8_update 17 = .ok (.aload_n 0, 1) := by decide +kernel
theorem dX8_update_18 : decode cX8_update 18 = .ok (.getfield 22, 3) := by decide +kernel
theorem dX8_update_21 : decode cX8_update 21 = .ok (.invokevirtual 88, 3) := by decide +kernel
theorem dX8_update_24 : decode cX8_update 24 = .ok (.astore_n 1, 1) := by decide +kernel
theorem dX8_update_25 : decode cX8_update 25 = .ok (.iconst 0, 1) := by decide +kernel
theorem dX8_update_26 : decode cX8_update 26 = .ok (.istore_n 2, 1) := by decide +kernel
theorem dX8_update_27 : decode cX8_update 27 = .ok (.iload_n 2, 1) := by decide +kernel
theorem dX8_update_28 : decode cX8_update 28 = .ok (.bipush 72, 2) := by decide +kernel
theorem dX8_update_30 : decode cX8_update 30 = .ok (.if_icmp .ge 38, 3) := by decide +kernel
theorem dX8_update_33 : decode cX8_update 33 = .ok (.aload_n 0, 1) := by decide +kernel
theorem dX8_update_34 : decode cX8_update 34 = .ok (.getfield 22, 3) := by decide +kernel
theorem dX8_update_37 : decode cX8_update 37 = .ok (.iload_n 2, 1) := by decide +kernel
theorem dX8_update_38 : decode cX8_update 38 = .ok (.invokevirtual 101, 3) := by decide +kernel
theorem dX8_update_41 : decode cX8_update 41 = .ok (.ifCond .eq 21, 3) := by decide +kernel
theorem dX8_update_44 : decode cX8_update 44 = .ok (.aload_n 0, 1) := by decide +kernel
theorem dX8_update_45 : decode cX8_update 45 = .ok (.getfield 22, 3) := by decide +kernel
theorem dX8_update_48 : decode cX8_update 48 = .ok (.getfield 104, 3) := by decide +kernel
theorem dX8_update_51 : decode cX8_update 51 = .ok (.iload_n 2, 1) := by decide +kernel
theorem dX8_update_52 : decode cX8_update 52 = .ok (.aload_n 0, 1) := by decide +kernel
theorem dX8_update_53 : decode cX8_update 53 = .ok (.getfield 22, 3) := by decide +kernel
theorem dX8_update_56 : decode cX8_update 56 = .ok (.getfield 92, 3) := by decide +kernel
theorem dX8_update_59 : decode cX8_update 59 = .ok (.invokevirtual 107, 3) := by decide +kernel
theorem dX8_update_62 : decode cX8_update 62 = .ok (.iinc 2 1, 3) := by decide +kernel
theorem dX8_update_65 : decode cX8_update 65 = .ok (.goto (-38), 3) := by decide +kernel
theorem dX8_update_68 : decode cX8_update 68 = .ok (.aload_n 0, 1) := by decide +kernel
theorem dX8_update_69 : decode cX8_update 69 = .ok (.getfield 22, 3) := by decide +kernel
theorem dX8_update_72 : decode cX8_update 72 = .ok (.getfield 92, 3) := by decide +kernel
theorem dX8_update_75 : decode cX8_update 75 = .ok (.iconst (-1), 1) := by decide +kernel
theorem dX8_update_76 : decode cX8_update 76 = .ok (.invokevirtual 96, 3) := by decide +kernel
theorem dX8_update_79 : decode cX8_update 79 = .ok (.aload_n 0, 1) := by decide +kernel
theorem dX8_update_80 : decode cX8_update 80 = .ok (.aload_n 1, 1) := by decide +kernel
theorem dX8_update_81 : decode cX8_update 81 = .ok (.iconst 1, 1) := by decide +kernel
theorem dX8_update_82 : decode cX8_update 82 = .ok (.invokevirtual 111, 3) := by decide +kernel
theorem dX8_update_85 : decode cX8_update 85 = .ok (.ireturn, 1) := by decide +kernel
theorem dX8_rounds_0 : decode cX8_rounds 0 = .ok (.iload_n 1, 1) := by decide +kernel
theorem dX8_rounds_1 : decode cX8_rounds 1 = .ok (.ifCond .lt 9, 3) := by decide +kernel
theorem dX8_rounds_4 : decode cX8_rounds 4 = .ok (.iload_n 1, 1) := by decide +kernel
theorem dX8_rounds_5 : decode cX8_rounds 5 = .ok (.bipush 40, 2) := by decide +kernel
theorem dX8_rounds_7 : decode cX8_rounds 7 = .ok (.if_icmp .le 6, 3) := by decide +kernel
theorem dX8_rounds_10 : decode cX8_rounds 10 = .ok (.ldc 56, 2) := by decide +kernel
theorem dX8_rounds_12 : decode cX8_rounds 12 = .ok (.ireturn, 1) := by decide +kernel
theorem dX8_rounds_13 : decode cX8_rounds 13 = .ok (.aload_n 0, 1) := by decide +kernel
theorem dX8_rounds_14 : decode cX8_rounds 14 = .ok (.getfield 32, 3) := by decide +kernel
theorem dX8_rounds_17 : decode cX8_rounds 17 = .ok (.aload_n 0, 1) := by decide +kernel
theorem dX8_rounds_18 : decode cX8_rounds 18 = .ok (.getfield 22, 3) := by decide +kernel
theorem dX8_rounds_21 : decode cX8_rounds 21 = .ok (.invokevirtual 88, 3) := by decide +kernel
theorem dX8_rounds_24 : decode cX8_rounds 24 = .ok (.astore_n 2, 1) := by decide +kernel
theorem dX8_rounds_25 : decode cX8_rounds 25 = .ok (.aload_n 0, 1) := by decide +kernel
theorem dX8_rounds_26 : decode cX8_rounds 26 = .ok (.getfield 22, 3) := by decide +kernel
theorem dX8_rounds_29 : decode cX8_rounds 29 = .ok (.iload_n 1, 1) := by decide +kernel
theorem dX8_rounds_30 : decode cX8_rounds 30 = .ok (.putfield 115, 3) := by decide +kernel
theorem dX8_rounds_33 : decode cX8_rounds 33 = .ok (.aload_n 0, 1) := by decide +kernel
theorem dX8_rounds_34 : decode cX8_rounds 34 = .ok (.aload_n 2, 1) := by decide +kernel
theorem dX8_rounds_35 : decode cX8_rounds 35 = .ok (.iconst 0, 1) := by decide +kernel
theorem dX8_rounds_36 : decode cX8_rounds 36 = .ok (.invokevirtual 111, 3) := by decide +kernel
theorem dX8_rounds_39 : decode cX8_rounds 39 = .ok (.pop, 1) := by decide +kernel
theorem dX8_rounds_40 : decode cX8_rounds 40 = .ok (.aload_n 2, 1) := by decide +kernel
theorem dX8_rounds_41 : decode cX8_rounds 41 = .ok (.getfield 115, 3) := by decide +kernel
theorem dX8_rounds_44 : decode cX8_rounds 44 = .ok (.ireturn, 1) := by decide +kernel
theorem dX8_value_0 : decode cX8_value 0 = .ok (.iload_n 1, 1) := by decide +kernel
theorem dX8_value_1 : decode cX8_value 1 = .ok (.invokestatic 71, 3) := by decide +kernel
theorem dX8_value_4 : decode cX8_value 4 = .ok (.ifCond .ne 6, 3) := by decide +kernel
theorem dX8_value_7 : decode cX8_value 7 = .ok (.ldc 56, 2) := by decide +kernel
theorem dX8_value_9 : decode cX8_value 9 = .ok (.ireturn, 1) := by decide +kernel
theorem dX8_value_10 : decode cX8_value 10 = .ok (.aload_n 0, 1) := by decide +kernel
theorem dX8_value_11 : decode cX8_value 11 = .ok (.getfield 22, 3) := by decide +kernel
theorem dX8_value_14 : decode cX8_value 14 = .ok (.getfield 118, 3) := by decide +kernel
theorem dX8_value_17 : decode cX8_value 17 = .ok (.iload_n 1, 1) := by decide +kernel
theorem dX8_value_18 : decode cX8_value 18 = .ok (.iaload, 1) := by decide +kernel
theorem dX8_value_19 : decode cX8_value 19 = .ok (.ifCond .ne 15, 3) := by decide +kernel
theorem dX8_value_22 : decode cX8_value 22 = .ok (.aload_n 0, 1) := by decide +kernel
theorem dX8_value_23 : decode cX8_value 23 = .ok (.getfield 22, 3) := by decide +kernel
theorem dX8_value_26 : decode cX8_value 26 = .ok (.getfield 121, 3) := by decide +kernel
theorem dX8_value_29 : decode cX8_value 29 = .ok (.iload_n 1, 1) := by decide +kernel
theorem dX8_value_30 : decode cX8_value 30 = .ok (.iaload, 1) := by decide +kernel
theorem dX8_value_31 : decode cX8_value 31 = .ok (.goto 5, 3) := by decide +kernel
theorem dX8_value_34 : decode cX8_value 34 = .ok (.ldc 70, 2) := by decide +kernel
theorem dX8_value_36 : decode cX8_value 36 = .ok (.ireturn, 1) := by decide +kernel
theorem dX8_cellOf_0 : decode cX8_cellOf 0 = .ok (.iload_n 1, 1) := by decide +kernel
theorem dX8_cellOf_1 : decode cX8_cellOf 1 = .ok (.invokestatic 71, 3) := by decide +kernel
theorem dX8_cellOf_4 : decode cX8_cellOf 4 = .ok (.ifCond .eq 13, 3) := by decide +kernel
theorem dX8_cellOf_7 : decode cX8_cellOf 7 = .ok (.iload_n 2, 1) := by decide +kernel
theorem dX8_cellOf_8 : decode cX8_cellOf 8 = .ok (.ifCond .lt 9, 3) := by decide +kernel
theorem dX8_cellOf_11 : decode cX8_cellOf 11 = .ok (.iload_n 2, 1) := by decide +kernel
theorem dX8_cellOf_12 : decode cX8_cellOf 12 = .ok (.bipush 8, 2) := by decide +kernel
theorem dX8_cellOf_14 : decode cX8_cellOf 14 = .ok (.if_icmp .le 6, 3) := by decide +kernel
theorem dX8_cellOf_17 : decode cX8_cellOf 17 = .ok (.ldc 56, 2) := by decide +kernel
theorem dX8_cellOf_19 : decode cX8_cellOf 19 = .ok (.ireturn, 1) := by decide +kernel
theorem dX8_cellOf_20 : decode cX8_cellOf 20 = .ok (.aload_n 0, 1) := by decide +kernel
theorem dX8_cellOf_21 : decode cX8_cellOf 21 = .ok (.getfield 22, 3) := by decide +kernel
theorem dX8_cellOf_24 : decode cX8_cellOf 24 = .ok (.iload_n 1, 1) := by decide +kernel
theorem dX8_cellOf_25 : decode cX8_cellOf 25 = .ok (.iload_n 2, 1) := by decide +kernel
theorem dX8_cellOf_26 : decode cX8_cellOf 26 = .ok (.invokevirtual 124, 3) := by decide +kernel
theorem dX8_cellOf_29 : decode cX8_cellOf 29 = .ok (.ireturn, 1) := by decide +kernel
theorem dX8_letterAt_0 : decode cX8_letterAt 0 = .ok (.iload_n 1, 1) := by decide +kernel
theorem dX8_letterAt_1 : decode cX8_letterAt 1 = .ok (.invokestatic 71, 3) := by decide +kernel
theorem dX8_letterAt_4 : decode cX8_letterAt 4 = .ok (.ifCond .eq 7, 3) := by decide +kernel
theorem dX8_letterAt_7 : decode cX8_letterAt 7 = .ok (.iload_n 2, 1) := by decide +kernel
theorem dX8_letterAt_8 : decode cX8_letterAt 8 = .ok (.ifCond .ge 6, 3) := by decide +kernel
theorem dX8_letterAt_11 : decode cX8_letterAt 11 = .ok (.ldc 56, 2) := by decide +kernel
theorem dX8_letterAt_13 : decode cX8_letterAt 13 = .ok (.ireturn, 1) := by decide +kernel
theorem dX8_letterAt_14 : decode cX8_letterAt 14 = .ok (.iload_n 2, 1) := by decide +kernel
theorem dX8_letterAt_15 : decode cX8_letterAt 15 = .ok (.aload_n 0, 1) := by decide +kernel
theorem dX8_letterAt_16 : decode cX8_letterAt 16 = .ok (.getfield 22, 3) := by decide +kernel
theorem dX8_letterAt_19 : decode cX8_letterAt 19 = .ok (.getfield 104, 3) := by decide +kernel
theorem dX8_letterAt_22 : decode cX8_letterAt 22 = .ok (.getfield 128, 3) := by decide +kernel
theorem dX8_letterAt_25 : decode cX8_letterAt 25 = .ok (.iload_n 1, 1) := by decide +kernel
theorem dX8_letterAt_26 : decode cX8_letterAt 26 = .ok (.iaload, 1) := by decide +kernel
theorem dX8_letterAt_27 : decode cX8_letterAt 27 = .ok (.if_icmp .lt 6, 3) := by decide +kernel
theorem dX8_letterAt_30 : decode cX8_letterAt 30 = .ok (.ldc 70, 2) := by decide +kernel
theorem dX8_letterAt_32 : decode cX8_letterAt 32 = .ok (.ireturn, 1) := by decide +kernel
theorem dX8_letterAt_33 : decode cX8_letterAt 33 = .ok (.aload_n 0, 1) := by decide +kernel
theorem dX8_letterAt_34 : decode cX8_letterAt 34 = .ok (.getfield 22, 3) := by decide +kernel
theorem dX8_letterAt_37 : decode cX8_letterAt 37 = .ok (.getfield 104, 3) := by decide +kernel
theorem dX8_letterAt_40 : decode cX8_letterAt 40 = .ok (.iload_n 1, 1) := by decide +kernel
theorem dX8_letterAt_41 : decode cX8_letterAt 41 = .ok (.iload_n 2, 1) := by decide +kernel
theorem dX8_letterAt_42 : decode cX8_letterAt 42 = .ok (.invokevirtual 131, 3) := by decide +kernel
theorem dX8_letterAt_45 : decode cX8_letterAt 45 = .ok (.ireturn, 1) := by decide +kernel
theorem dX8_readAt_0 : decode cX8_readAt 0 = .ok (.iload_n 1, 1) := by decide +kernel
theorem dX8_readAt_1 : decode cX8_readAt 1 = .ok (.invokestatic 71, 3) := by decide +kernel
theorem dX8_readAt_4 : decode cX8_readAt 4 = .ok (.ifCond .eq 7, 3) := by decide +kernel
theorem dX8_readAt_7 : decode cX8_readAt 7 = .ok (.iload_n 2, 1) := by decide +kernel
theorem dX8_readAt_8 : decode cX8_readAt 8 = .ok (.ifCond .ge 6, 3) := by decide +kernel
theorem dX8_readAt_11 : decode cX8_readAt 11 = .ok (.ldc 56, 2) := by decide +kernel
theorem dX8_readAt_13 : decode cX8_readAt 13 = .ok (.ireturn, 1) := by decide +kernel
theorem dX8_readAt_14 : decode cX8_readAt 14 = .ok (.iload_n 2, 1) := by decide +kernel
theorem dX8_readAt_15 : decode cX8_readAt 15 = .ok (.aload_n 0, 1) := by decide +kernel
theorem dX8_readAt_16 : decode cX8_readAt 16 = .ok (.getfield 22, 3) := by decide +kernel
theorem dX8_readAt_19 : decode cX8_readAt 19 = .ok (.getfield 134, 3) := by decide +kernel
theorem dX8_readAt_22 : decode cX8_readAt 22 = .ok (.iload_n 1, 1) := by decide +kernel
theorem dX8_readAt_23 : decode cX8_readAt 23 = .ok (.iaload, 1) := by decide +kernel
theorem dX8_readAt_24 : decode cX8_readAt 24 = .ok (.if_icmp .ge 15, 3) := by decide +kernel
theorem dX8_readAt_27 : decode cX8_readAt 27 = .ok (.aload_n 0, 1) := by decide +kernel
theorem dX8_readAt_28 : decode cX8_readAt 28 = .ok (.getfield 22, 3) := by decide +kernel
theorem dX8_readAt_31 : decode cX8_readAt 31 = .ok (.iload_n 1, 1) := by decide +kernel
theorem dX8_readAt_32 : decode cX8_readAt 32 = .ok (.iload_n 2, 1) := by decide +kernel
theorem dX8_readAt_33 : decode cX8_readAt 33 = .ok (.invokevirtual 137, 3) := by decide +kernel
theorem dX8_readAt_36 : decode cX8_readAt 36 = .ok (.goto 5, 3) := by decide +kernel
theorem dX8_readAt_39 : decode cX8_readAt 39 = .ok (.ldc 70, 2) := by decide +kernel
theorem dX8_readAt_41 : decode cX8_readAt 41 = .ok (.ireturn, 1) := by decide +kernel
theorem dX8_readerAt_0 : decode cX8_readerAt 0 = .ok (.iload_n 1, 1) := by decide +kernel
theorem dX8_readerAt_1 : decode cX8_readerAt 1 = .ok (.invokestatic 71, 3) := by decide +kernel
theorem dX8_readerAt_4 : decode cX8_readerAt 4 = .ok (.ifCond .eq 7, 3) := by decide +kernel
theorem dX8_readerAt_7 : decode cX8_readerAt 7 = .ok (.iload_n 2, 1) := by decide +kernel
theorem dX8_readerAt_8 : decode cX8_readerAt 8 = .ok (.ifCond .ge 6, 3) := by decide +kernel
theorem dX8_readerAt_11 : decode cX8_readerAt 11 = .ok (.ldc 56, 2) := by decide +kernel
theorem dX8_readerAt_13 : decode cX8_readerAt 13 = .ok (.ireturn, 1) := by decide +kernel
theorem dX8_readerAt_14 : decode cX8_readerAt 14 = .ok (.iload_n 2, 1) := by decide +kernel
theorem dX8_readerAt_15 : decode cX8_readerAt 15 = .ok (.istore_n 3, 1) := by decide +kernel
theorem dX8_readerAt_16 : decode cX8_readerAt 16 = .ok (.iconst 0, 1) := by decide +kernel
theorem dX8_readerAt_17 : decode cX8_readerAt 17 = .ok (.istore 4, 2) := by decide +kernel
theorem dX8_readerAt_19 : decode cX8_readerAt 19 = .ok (.iload 4, 2) := by decide +kernel
theorem dX8_readerAt_21 : decode cX8_readerAt 21 = .ok (.bipush 72, 2) := by decide +kernel
theorem dX8_readerAt_23 : decode cX8_readerAt 23 = .ok (.if_icmp .ge 32, 3) := by decide +kernel
theorem dX8_readerAt_26 : decode cX8_readerAt 26 = .ok (.aload_n 0, 1) := by decide +kernel
theorem dX8_readerAt_27 : decode cX8_readerAt 27 = .ok (.getfield 22, 3) := by decide +kernel
theorem dX8_readerAt_30 : decode cX8_readerAt 30 = .ok (.iload 4, 2) := by decide +kernel
theorem dX8_readerAt_32 : decode cX8_readerAt 32 = .ok (.iload_n 1, 1) := by decide +kernel
theorem dX8_readerAt_33 : decode cX8_readerAt 33 = .ok (.invokevirtual 140, 3) := by decide +kernel
theorem dX8_readerAt_36 : decode cX8_readerAt 36 = .ok (.ifCond .eq 13, 3) := by decide +kernel
theorem dX8_readerAt_39 : decode cX8_readerAt 39 = .ok (.iload_n 3, 1) := by decide +kernel
theorem dX8_readerAt_40 : decode cX8_readerAt 40 = .ok (.ifCond .ne 6, 3) := by decide +kernel
theorem dX8_readerAt_43 : decode cX8_readerAt 43 = .ok (.iload 4, 2) := by decide +kernel
theorem dX8_readerAt_45 : decode cX8_readerAt 45 = .ok (.ireturn, 1) := by decide +kernel
theorem dX8_readerAt_46 : decode cX8_readerAt 46 = .ok (.iinc 3 (-1), 3) := by decide +kernel
theorem dX8_readerAt_49 : decode cX8_readerAt 49 = .ok (.iinc 4 1, 3) := by decide +kernel
theorem dX8_readerAt_52 : decode cX8_readerAt 52 = .ok (.goto (-33), 3) := by decide +kernel
theorem dX8_readerAt_55 : decode cX8_readerAt 55 = .ok (.ldc 70, 2) := by decide +kernel
theorem dX8_readerAt_57 : decode cX8_readerAt 57 = .ok (.ireturn, 1) := by decide +kernel
theorem dX8_ranAt_0 : decode cX8_ranAt 0 = .ok (.iload_n 1, 1) := by decide +kernel
theorem dX8_ranAt_1 : decode cX8_ranAt 1 = .ok (.ifCond .ge 6, 3) := by decide +kernel
theorem dX8_ranAt_4 : decode cX8_ranAt 4 = .ok (.ldc 56, 2) := by decide +kernel
theorem dX8_ranAt_6 : decode cX8_ranAt 6 = .ok (.ireturn, 1) := by decide +kernel
theorem dX8_ranAt_7 : decode cX8_ranAt 7 = .ok (.iload_n 1, 1) := by decide +kernel
theorem dX8_ranAt_8 : decode cX8_ranAt 8 = .ok (.istore_n 2, 1) := by decide +kernel
theorem dX8_ranAt_9 : decode cX8_ranAt 9 = .ok (.iconst 0, 1) := by decide +kernel
theorem dX8_ranAt_10 : decode cX8_ranAt 10 = .ok (.istore_n 3, 1) := by decide +kernel
theorem dX8_ranAt_11 : decode cX8_ranAt 11 = .ok (.iload_n 3, 1) := by decide +kernel
theorem dX8_ranAt_12 : decode cX8_ranAt 12 = .ok (.bipush 72, 2) := by decide +kernel
theorem dX8_ranAt_14 : decode cX8_ranAt 14 = .ok (.if_icmp .gt 62, 3) := by decide +kernel
theorem dX8_ranAt_17 : decode cX8_ranAt 17 = .ok (.iconst 0, 1) := by decide +kernel
theorem dX8_ranAt_18 : decode cX8_ranAt 18 = .ok (.istore 4, 2) := by decide +kernel
theorem dX8_ranAt_20 : decode cX8_ranAt 20 = .ok (.iload 4, 2) := by decide +kernel
theorem dX8_ranAt_22 : decode cX8_ranAt 22 = .ok (.bipush 72, 2) := by decide +kernel
theorem dX8_ranAt_24 : decode cX8_ranAt 24 = .ok (.if_icmp .ge 46, 3) := by decide +kernel
theorem dX8_ranAt_27 : decode cX8_ranAt 27 = .ok (.aload_n 0, 1) := by decide +kernel
theorem dX8_ranAt_28 : decode cX8_ranAt 28 = .ok (.getfield 22, 3) := by decide +kernel
theorem dX8_ranAt_31 : decode cX8_ranAt 31 = .ok (.getfield 144, 3) := by decide +kernel
theorem dX8_ranAt_34 : decode cX8_ranAt 34 = .ok (.iload 4, 2) := by decide +kernel
theorem dX8_ranAt_36 : decode cX8_ranAt 36 = .ok (.iaload, 1) := by decide +kernel
theorem dX8_ranAt_37 : decode cX8_ranAt 37 = .ok (.iconst (-1), 1) := by decide +kernel
theorem dX8_ranAt_38 : decode cX8_ranAt 38 = .ok (.if_icmp .eq 26, 3) := by decide +kernel
theorem dX8_ranAt_41 : decode cX8_ranAt 41 = .ok (.aload_n 0, 1) := by decide +kernel
theorem dX8_ranAt_42 : decode cX8_ranAt 42 = .ok (.getfield 22, 3) := by decide +kernel
theorem dX8_ranAt_45 : decode cX8_ranAt 45 = .ok (.iload 4, 2) := by decide +kernel
theorem dX8_ranAt_47 : decode cX8_ranAt 47 = .ok (.invokevirtual 147, 3) := by decide +kernel
theorem dX8_ranAt_50 : decode cX8_ranAt 50 = .ok (.iload_n 3, 1) := by decide +kernel
theorem dX8_ranAt_51 : decode cX8_ranAt 51 = .ok (.if_icmp .ne 13, 3) := by decide +kernel
theorem dX8_ranAt_54 : decode cX8_ranAt 54 = .ok (.iload_n 2, 1) := by decide +kernel
theorem dX8_ranAt_55 : decode cX8_ranAt 55 = .ok (.ifCond .ne 6, 3) := by decide +kernel
theorem dX8_ranAt_58 : decode cX8_ranAt 58 = .ok (.iload 4, 2) := by decide +kernel
theorem dX8_ranAt_60 : decode cX8_ranAt 60 = .ok (.ireturn, 1) := by decide +kernel
theorem dX8_ranAt_61 : decode cX8_ranAt 61 = .ok (.iinc 2 (-1), 3) := by decide +kernel
theorem dX8_ranAt_64 : decode cX8_ranAt 64 = .ok (.iinc 4 1, 3) := by decide +kernel
theorem dX8_ranAt_67 : decode cX8_ranAt 67 = .ok (.goto (-47), 3) := by decide +kernel
theorem dX8_ranAt_70 : decode cX8_ranAt 70 = .ok (.iinc 3 1, 3) := by decide +kernel
theorem dX8_ranAt_73 : decode cX8_ranAt 73 = .ok (.goto (-62), 3) := by decide +kernel
theorem dX8_ranAt_76 : decode cX8_ranAt 76 = .ok (.ldc 70, 2) := by decide +kernel
theorem dX8_ranAt_78 : decode cX8_ranAt 78 = .ok (.ireturn, 1) := by decide +kernel
theorem dX8_changedAt_0 : decode cX8_changedAt 0 = .ok (.iload_n 1, 1) := by decide +kernel
theorem dX8_changedAt_1 : decode cX8_changedAt 1 = .ok (.ifCond .ge 6, 3) := by decide +kernel
theorem dX8_changedAt_4 : decode cX8_changedAt 4 = .ok (.ldc 56, 2) := by decide +kernel
theorem dX8_changedAt_6 : decode cX8_changedAt 6 = .ok (.ireturn, 1) := by decide +kernel
theorem dX8_changedAt_7 : decode cX8_changedAt 7 = .ok (.iload_n 1, 1) := by decide +kernel
theorem dX8_changedAt_8 : decode cX8_changedAt 8 = .ok (.istore_n 2, 1) := by decide +kernel
theorem dX8_changedAt_9 : decode cX8_changedAt 9 = .ok (.iconst 0, 1) := by decide +kernel
theorem dX8_changedAt_10 : decode cX8_changedAt 10 = .ok (.istore_n 3, 1) := by decide +kernel
theorem dX8_changedAt_11 : decode cX8_changedAt 11 = .ok (.iload_n 3, 1) := by decide +kernel
theorem dX8_changedAt_12 : decode cX8_changedAt 12 = .ok (.bipush 72, 2) := by decide +kernel
theorem dX8_changedAt_14 : decode cX8_changedAt 14 = .ok (.if_icmp .ge 31, 3) := by decide +kernel
theorem dX8_changedAt_17 : decode cX8_changedAt 17 = .ok (.aload_n 0, 1) := by decide +kernel
theorem dX8_changedAt_18 : decode cX8_changedAt 18 = .ok (.getfield 22, 3) := by decide +kernel
theorem dX8_changedAt_21 : decode cX8_changedAt 21 = .ok (.getfield 151, 3) := by decide +kernel
theorem dX8_changedAt_24 : decode cX8_changedAt 24 = .ok (.iload_n 3, 1) := by decide +kernel
theorem dX8_changedAt_25 : decode cX8_changedAt 25 = .ok (.iaload, 1) := by decide +kernel
theorem dX8_changedAt_26 : decode cX8_changedAt 26 = .ok (.iconst 1, 1) := by decide +kernel
theorem dX8_changedAt_27 : decode cX8_changedAt 27 = .ok (.if_icmp .ne 12, 3) := by decide +kernel
theorem dX8_changedAt_30 : decode cX8_changedAt 30 = .ok (.iload_n 2, 1) := by decide +kernel
theorem dX8_changedAt_31 : decode cX8_changedAt 31 = .ok (.ifCond .ne 5, 3) := by decide +kernel
theorem dX8_changedAt_34 : decode cX8_changedAt 34 = .ok (.iload_n 3, 1) := by decide +kernel
theorem dX8_changedAt_35 : decode cX8_changedAt 35 = .ok (.ireturn, 1) := by decide +kernel
theorem dX8_changedAt_36 : decode cX8_changedAt 36 = .ok (.iinc 2 (-1), 3) := by decide +kernel
theorem dX8_changedAt_39 : decode cX8_changedAt 39 = .ok (.iinc 3 1, 3) := by decide +kernel
theorem dX8_changedAt_42 : decode cX8_changedAt 42 = .ok (.goto (-31), 3) := by decide +kernel
theorem dX8_changedAt_45 : decode cX8_changedAt 45 = .ok (.ldc 70, 2) := by decide +kernel
theorem dX8_changedAt_47 : decode cX8_changedAt 47 = .ok (.ireturn, 1) := by decide +kernel
theorem dX8_cause_0 : decode cX8_cause 0 = .ok (.iload_n 1, 1) := by decide +kernel
theorem dX8_cause_1 : decode cX8_cause 1 = .ok (.invokestatic 71, 3) := by decide +kernel
theorem dX8_cause_4 : decode cX8_cause 4 = .ok (.ifCond .ne 6, 3) := by decide +kernel
theorem dX8_cause_7 : decode cX8_cause 7 = .ok (.ldc 56, 2) := by decide +kernel
theorem dX8_cause_9 : decode cX8_cause 9 = .ok (.ireturn, 1) := by decide +kernel
theorem dX8_cause_10 : decode cX8_cause 10 = .ok (.aload_n 0, 1) := by decide +kernel
theorem dX8_cause_11 : decode cX8_cause 11 = .ok (.getfield 22, 3) := by decide +kernel
theorem dX8_cause_14 : decode cX8_cause 14 = .ok (.getfield 144, 3) := by decide +kernel
theorem dX8_cause_17 : decode cX8_cause 17 = .ok (.iload_n 1, 1) := by decide +kernel
theorem dX8_cause_18 : decode cX8_cause 18 = .ok (.iaload, 1) := by decide +kernel
theorem dX8_cause_19 : decode cX8_cause 19 = .ok (.iconst (-1), 1) := by decide +kernel
theorem dX8_cause_20 : decode cX8_cause 20 = .ok (.if_icmp .ne 8, 3) := by decide +kernel
theorem dX8_cause_23 : decode cX8_cause 23 = .ok (.ldc 70, 2) := by decide +kernel
theorem dX8_cause_25 : decode cX8_cause 25 = .ok (.goto 12, 3) := by decide +kernel
theorem dX8_cause_28 : decode cX8_cause 28 = .ok (.aload_n 0, 1) := by decide +kernel
theorem dX8_cause_29 : decode cX8_cause 29 = .ok (.getfield 22, 3) := by decide +kernel
theorem dX8_cause_32 : decode cX8_cause 32 = .ok (.getfield 144, 3) := by decide +kernel
theorem dX8_cause_35 : decode cX8_cause 35 = .ok (.iload_n 1, 1) := by decide +kernel
theorem dX8_cause_36 : decode cX8_cause 36 = .ok (.iaload, 1) := by decide +kernel
theorem dX8_cause_37 : decode cX8_cause 37 = .ok (.ireturn, 1) := by decide +kernel
theorem dX8_chainAt_0 : decode cX8_chainAt 0 = .ok (.iload_n 1, 1) := by decide +kernel
theorem dX8_chainAt_1 : decode cX8_chainAt 1 = .ok (.invokestatic 71, 3) := by decide +kernel
theorem dX8_chainAt_4 : decode cX8_chainAt 4 = .ok (.ifCond .eq 7, 3) := by decide +kernel
theorem dX8_chainAt_7 : decode cX8_chainAt 7 = .ok (.iload_n 2, 1) := by decide +kernel
theorem dX8_chainAt_8 : decode cX8_chainAt 8 = .ok (.ifCond .ge 6, 3) := by decide +kernel
theorem dX8_chainAt_11 : decode cX8_chainAt 11 = .ok (.ldc 56, 2) := by decide +kernel
theorem dX8_chainAt_13 : decode cX8_chainAt 13 = .ok (.ireturn, 1) := by decide +kernel
theorem dX8_chainAt_14 : decode cX8_chainAt 14 = .ok (.aload_n 0, 1) := by decide +kernel
theorem dX8_chainAt_15 : decode cX8_chainAt 15 = .ok (.iload_n 1, 1) := by decide +kernel
theorem dX8_chainAt_16 : decode cX8_chainAt 16 = .ok (.invokevirtual 154, 3) := by decide +kernel
theorem dX8_chainAt_19 : decode cX8_chainAt 19 = .ok (.istore_n 3, 1) := by decide +kernel
theorem dX8_chainAt_20 : decode cX8_chainAt 20 = .ok (.iload_n 2, 1) := by decide +kernel
theorem dX8_chainAt_21 : decode cX8_chainAt 21 = .ok (.iload_n 3, 1) := by decide +kernel
theorem dX8_chainAt_22 : decode cX8_chainAt 22 = .ok (.if_icmp .ge 12, 3) := by decide +kernel
theorem dX8_chainAt_25 : decode cX8_chainAt 25 = .ok (.aload_n 0, 1) := by decide +kernel
theorem dX8_chainAt_26 : decode cX8_chainAt 26 = .ok (.getfield 52, 3) := by decide +kernel
theorem dX8_chainAt_29 : decode cX8_chainAt 29 = .ok (.iload_n 2, 1) := by decide +kernel
theorem dX8_chainAt_30 : decode cX8_chainAt 30 = .ok (.iaload, 1) := by decide +kernel
theorem dX8_chainAt_31 : decode cX8_chainAt 31 = .ok (.goto 5, 3) := by decide +kernel
theorem dX8_chainAt_34 : decode cX8_chainAt 34 = .ok (.ldc 70, 2) := by decide +kernel
theorem dX8_chainAt_36 : decode cX8_chainAt 36 = .ok (.ireturn, 1) := by decide +kernel
theorem dX8_whatIf_0 : decode cX8_whatIf 0 = .ok (.iload_n 1, 1) := by decide +kernel
theorem dX8_whatIf_1 : decode cX8_whatIf 1 = .ok (.invokestatic 71, 3) := by decide +kernel
theorem dX8_whatIf_4 : decode cX8_whatIf 4 = .ok (.ifCond .eq 22, 3) := by decide +kernel
theorem dX8_whatIf_7 : decode cX8_whatIf 7 = .ok (.iload_n 3, 1) := by decide +kernel
theorem dX8_whatIf_8 : decode cX8_whatIf 8 = .ok (.invokestatic 71, 3) := by decide +kernel
theorem dX8_whatIf_11 : decode cX8_whatIf 11 = .ok (.ifCond .eq 15, 3) := by decide +kernel
theorem dX8_whatIf_14 : decode cX8_whatIf 14 = .ok (.iload_n 2, 1) := by decide +kernel
theorem dX8_whatIf_15 : decode cX8_whatIf 15 = .ok (.ldc 157, 2) := by decide +kernel
theorem dX8_whatIf_17 : decode cX8_whatIf 17 = .ok (.if_icmp .lt 9, 3) := by decide +kernel
theorem dX8_whatIf_20 : decode cX8_whatIf 20 = .ok (.iload_n 2, 1) := by decide +kernel
theorem dX8_whatIf_21 : decode cX8_whatIf 21 = .ok (.ldc 158, 2) := by decide +kernel
theorem dX8_whatIf_23 : decode cX8_whatIf 23 = .ok (.if_icmp .le 6, 3) := by decide +kernel
theorem dX8_whatIf_26 : decode cX8_whatIf 26 = .ok (.ldc 56, 2) := by decide +kernel
theorem dX8_whatIf_28 : decode cX8_whatIf 28 = .ok (.ireturn, 1) := by decide +kernel
theorem dX8_whatIf_29 : decode cX8_whatIf 29 = .ok (.aload_n 0, 1) := by decide +kernel
theorem dX8_whatIf_30 : decode cX8_whatIf 30 = .ok (.iload_n 2, 1) := by decide +kernel
theorem dX8_whatIf_31 : decode cX8_whatIf 31 = .ok (.invokevirtual 159, 3) := by decide +kernel
theorem dX8_whatIf_34 : decode cX8_whatIf 34 = .ok (.aload_n 0, 1) := by decide +kernel
theorem dX8_whatIf_35 : decode cX8_whatIf 35 = .ok (.getfield 26, 3) := by decide +kernel
theorem dX8_whatIf_38 : decode cX8_whatIf 38 = .ok (.getfield 104, 3) := by decide +kernel
theorem dX8_whatIf_41 : decode cX8_whatIf 41 = .ok (.aload_n 0, 1) := by decide +kernel
theorem dX8_whatIf_42 : decode cX8_whatIf 42 = .ok (.getfield 22, 3) := by decide +kernel
theorem dX8_whatIf_45 : decode cX8_whatIf 45 = .ok (.getfield 104, 3) := by decide +kernel
theorem dX8_whatIf_48 : decode cX8_whatIf 48 = .ok (.invokevirtual 162, 3) := by decide +kernel
theorem dX8_whatIf_51 : decode cX8_whatIf 51 = .ok (.aload_n 0, 1) := by decide +kernel
theorem dX8_whatIf_52 : decode cX8_whatIf 52 = .ok (.getfield 26, 3) := by decide +kernel
theorem dX8_whatIf_55 : decode cX8_whatIf 55 = .ok (.getfield 104, 3) := by decide +kernel
theorem dX8_whatIf_58 : decode cX8_whatIf 58 = .ok (.iload_n 1, 1) := by decide +kernel
theorem dX8_whatIf_59 : decode cX8_whatIf 59 = .ok (.aload_n 0, 1) := by decide +kernel
theorem dX8_whatIf_60 : decode cX8_whatIf 60 = .ok (.getfield 16, 3) := by decide +kernel
theorem dX8_whatIf_63 : decode cX8_whatIf 63 = .ok (.invokevirtual 166, 3) := by decide +kernel
theorem dX8_whatIf_66 : decode cX8_whatIf 66 = .ok (.aload_n 0, 1) := by decide +kernel
theorem dX8_whatIf_67 : decode cX8_whatIf 67 = .ok (.getfield 26, 3) := by decide +kernel
theorem dX8_whatIf_70 : decode cX8_whatIf 70 = .ok (.aload_n 0, 1) := by decide +kernel
theorem dX8_whatIf_71 : decode cX8_whatIf 71 = .ok (.getfield 22, 3) := by decide +kernel
theorem dX8_whatIf_74 : decode cX8_whatIf 74 = .ok (.getfield 115, 3) := by decide +kernel
theorem dX8_whatIf_77 : decode cX8_whatIf 77 = .ok (.putfield 115, 3) := by decide +kernel
theorem dX8_whatIf_80 : decode cX8_whatIf 80 = .ok (.aload_n 0, 1) := by decide +kernel
theorem dX8_whatIf_81 : decode cX8_whatIf 81 = .ok (.getfield 48, 3) := by decide +kernel
theorem dX8_whatIf_84 : decode cX8_whatIf 84 = .ok (.aload_n 0, 1) := by decide +kernel
theorem dX8_whatIf_85 : decode cX8_whatIf 85 = .ok (.getfield 26, 3) := by decide +kernel
theorem dX8_whatIf_88 : decode cX8_whatIf 88 = .ok (.invokevirtual 170, 3) := by decide +kernel
theorem dX8_whatIf_91 : decode cX8_whatIf 91 = .ok (.aload_n 0, 1) := by decide +kernel
theorem dX8_whatIf_92 : decode cX8_whatIf 92 = .ok (.getfield 48, 3) := by decide +kernel
theorem dX8_whatIf_95 : decode cX8_whatIf 95 = .ok (.aload_n 0, 1) := by decide +kernel
theorem dX8_whatIf_96 : decode cX8_whatIf 96 = .ok (.getfield 26, 3) := by decide +kernel
theorem dX8_whatIf_99 : decode cX8_whatIf 99 = .ok (.invokevirtual 173, 3) := by decide +kernel
theorem dX8_whatIf_102 : decode cX8_whatIf 102 = .ok (.aload_n 0, 1) := by decide +kernel
theorem dX8_whatIf_103 : decode cX8_whatIf 103 = .ok (.getfield 26, 3) := by decide +kernel
theorem dX8_whatIf_106 : decode cX8_whatIf 106 = .ok (.getfield 118, 3) := by decide +kernel
theorem dX8_whatIf_109 : decode cX8_whatIf 109 = .ok (.iload_n 3, 1) := by decide +kernel
theorem dX8_whatIf_110 : decode cX8_whatIf 110 = .ok (.iaload, 1) := by decide +kernel
theorem dX8_whatIf_111 : decode cX8_whatIf 111 = .ok (.ifCond .ne 15, 3) := by decide +kernel
theorem dX8_whatIf_114 : decode cX8_whatIf 114 = .ok (.aload_n 0, 1) := by decide +kernel
theorem dX8_whatIf_115 : decode cX8_whatIf 115 = .ok (.getfield 26, 3) := by decide +kernel
theorem dX8_whatIf_118 : decode cX8_whatIf 118 = .ok (.getfield 121, 3) := by decide +kernel
theorem dX8_whatIf_121 : decode cX8_whatIf 121 = .ok (.iload_n 3, 1) := by decide +kernel
theorem dX8_whatIf_122 : decode cX8_whatIf 122 = .ok (.iaload, 1) := by decide +kernel
theorem dX8_whatIf_123 : decode cX8_whatIf 123 = .ok (.goto 5, 3) := by decide +kernel
theorem dX8_whatIf_126 : decode cX8_whatIf 126 = .ok (.ldc 70, 2) := by decide +kernel
theorem dX8_whatIf_128 : decode cX8_whatIf 128 = .ok (.ireturn, 1) := by decide +kernel
theorem dX8_count_0 : decode cX8_count 0 = .ok (.iload_n 1, 1) := by decide +kernel
theorem dX8_count_1 : decode cX8_count 1 = .ok (.tableswitch 174 0 12 #[67, 76, 84, 90, 97, 105, 121, 128, 136, 144, 152, 160, 168], 67) := by decide +kernel
theorem dX8_count_68 : decode cX8_count 68 = .ok (.bipush 72, 2) := by decide +kernel
theorem dX8_count_70 : decode cX8_count 70 = .ok (.aload_n 0, 1) := by decide +kernel
theorem dX8_count_71 : decode cX8_count 71 = .ok (.iconst 3, 1) := by decide +kernel
theorem dX8_count_72 : decode cX8_count 72 = .ok (.invokevirtual 176, 3) := by decide +kernel
theorem dX8_count_75 : decode cX8_count 75 = .ok (.isub, 1) := by decide +kernel
theorem dX8_count_76 : decode cX8_count 76 = .ok (.ireturn, 1) := by decide +kernel
theorem dX8_count_77 : decode cX8_count 77 = .ok (.aload_n 0, 1) := by decide +kernel
theorem dX8_count_78 : decode cX8_count 78 = .ok (.getfield 22, 3) := by decide +kernel
theorem dX8_count_81 : decode cX8_count 81 = .ok (.invokevirtual 84, 3) := by decide +kernel
theorem dX8_count_84 : decode cX8_count 84 = .ok (.ireturn, 1) := by decide +kernel
theorem dX8_count_85 : decode cX8_count 85 = .ok (.aload_n 0, 1) := by decide +kernel
theorem dX8_count_86 : decode cX8_count 86 = .ok (.iconst 5, 1) := by decide +kernel
theorem dX8_count_87 : decode cX8_count 87 = .ok (.invokevirtual 176, 3) := by decide +kernel
theorem dX8_count_90 : decode cX8_count 90 = .ok (.ireturn, 1) := by decide +kernel
theorem dX8_count_91 : decode cX8_count 91 = .ok (.aload_n 0, 1) := by decide +kernel
theorem dX8_count_92 : decode cX8_count 92 = .ok (.bipush 6, 2) := by decide +kernel
theorem dX8_count_94 : decode cX8_count 94 = .ok (.invokevirtual 176, 3) := by decide +kernel
theorem dX8_count_97 : decode cX8_count 97 = .ok (.ireturn, 1) := by decide +kernel
theorem dX8_count_98 : decode cX8_count 98 = .ok (.aload_n 0, 1) := by decide +kernel
theorem dX8_count_99 : decode cX8_count 99 = .ok (.getfield 22, 3) := by decide +kernel
theorem dX8_count_102 : decode cX8_count 102 = .ok (.getfield 179, 3) := by decide +kernel
theorem dX8_count_105 : decode cX8_count 105 = .ok (.ireturn, 1) := by decide +kernel
theorem dX8_count_106 : decode cX8_count 106 = .ok (.aload_n 0, 1) := by decide +kernel
theorem dX8_count_107 : decode cX8_count 107 = .ok (.getfield 22, 3) := by decide +kernel
theorem dX8_count_110 : decode cX8_count 110 = .ok (.getfield 182, 3) := by decide +kernel
theorem dX8_count_113 : decode cX8_count 113 = .ok (.ifCond .eq 7, 3) := by decide +kernel
theorem dX8_count_116 : decode cX8_count 116 = .ok (.iconst 1, 1) := by decide +kernel
theorem dX8_count_117 : decode cX8_count 117 = .ok (.goto 4, 3) := by decide +kernel
theorem dX8_count_120 : decode cX8_count 120 = .ok (.iconst 0, 1) := by decide +kernel
theorem dX8_count_121 : decode cX8_count 121 = .ok (.ireturn, 1) := by decide +kernel
theorem dX8_count_122 : decode cX8_count 122 = .ok (.aload_n 0, 1) := by decide +kernel
theorem dX8_count_123 : decode cX8_count 123 = .ok (.bipush 7, 2) := by decide +kernel
theorem dX8_count_125 : decode cX8_count 125 = .ok (.invokevirtual 176, 3) := by decide +kernel
theorem dX8_count_128 : decode cX8_count 128 = .ok (.ireturn, 1) := by decide +kernel
theorem dX8_count_129 : decode cX8_count 129 = .ok (.aload_n 0, 1) := by decide +kernel
theorem dX8_count_130 : decode cX8_count 130 = .ok (.getfield 22, 3) := by decide +kernel
theorem dX8_count_133 : decode cX8_count 133 = .ok (.invokevirtual 186, 3) := by decide +kernel
theorem dX8_count_136 : decode cX8_count 136 = .ok (.ireturn, 1) := by decide +kernel
theorem dX8_count_137 : decode cX8_count 137 = .ok (.aload_n 0, 1) := by decide +kernel
theorem dX8_count_138 : decode cX8_count 138 = .ok (.getfield 22, 3) := by decide +kernel
theorem dX8_count_141 : decode cX8_count 141 = .ok (.invokevirtual 189, 3) := by decide +kernel
theorem dX8_count_144 : decode cX8_count 144 = .ok (.ireturn, 1) := by decide +kernel
theorem dX8_count_145 : decode cX8_count 145 = .ok (.aload_n 0, 1) := by decide +kernel
theorem dX8_count_146 : decode cX8_count 146 = .ok (.getfield 22, 3) := by decide +kernel
theorem dX8_count_149 : decode cX8_count 149 = .ok (.getfield 115, 3) := by decide +kernel
theorem dX8_count_152 : decode cX8_count 152 = .ok (.ireturn, 1) := by decide +kernel
theorem dX8_count_153 : decode cX8_count 153 = .ok (.aload_n 0, 1) := by decide +kernel
theorem dX8_count_154 : decode cX8_count 154 = .ok (.getfield 32, 3) := by decide +kernel
theorem dX8_count_157 : decode cX8_count 157 = .ok (.getfield 192, 3) := by decide +kernel
theorem dX8_count_160 : decode cX8_count 160 = .ok (.ireturn, 1) := by decide +kernel
theorem dX8_count_161 : decode cX8_count 161 = .ok (.aload_n 0, 1) := by decide +kernel
theorem dX8_count_162 : decode cX8_count 162 = .ok (.getfield 10, 3) := by decide +kernel
theorem dX8_count_165 : decode cX8_count 165 = .ok (.getfield 57, 3) := by decide +kernel
theorem dX8_count_168 : decode cX8_count 168 = .ok (.ireturn, 1) := by decide +kernel
theorem dX8_count_169 : decode cX8_count 169 = .ok (.aload_n 0, 1) := by decide +kernel
theorem dX8_count_170 : decode cX8_count 170 = .ok (.iconst 4, 1) := by decide +kernel
theorem dX8_count_171 : decode cX8_count 171 = .ok (.invokevirtual 176, 3) := by decide +kernel
theorem dX8_count_174 : decode cX8_count 174 = .ok (.ireturn, 1) := by decide +kernel
theorem dX8_count_175 : decode cX8_count 175 = .ok (.ldc 56, 2) := by decide +kernel
theorem dX8_count_177 : decode cX8_count 177 = .ok (.ireturn, 1) := by decide +kernel
theorem dX8_undo_0 : decode cX8_undo 0 = .ok (.aload_n 0, 1) := by decide +kernel
theorem dX8_undo_1 : decode cX8_undo 1 = .ok (.getfield 32, 3) := by decide +kernel
theorem dX8_undo_4 : decode cX8_undo 4 = .ok (.getfield 192, 3) := by decide +kernel
theorem dX8_undo_7 : decode cX8_undo 7 = .ok (.ifCond .ne 6, 3) := by decide +kernel
theorem dX8_undo_10 : decode cX8_undo 10 = .ok (.ldc 75, 2) := by decide +kernel
theorem dX8_undo_12 : decode cX8_undo 12 = .ok (.ireturn, 1) := by decide +kernel
theorem dX8_undo_13 : decode cX8_undo 13 = .ok (.aload_n 0, 1) := by decide +kernel
theorem dX8_undo_14 : decode cX8_undo 14 = .ok (.getfield 32, 3) := by decide +kernel
theorem dX8_undo_17 : decode cX8_undo 17 = .ok (.aload_n 0, 1) := by decide +kernel
theorem dX8_undo_18 : decode cX8_undo 18 = .ok (.getfield 22, 3) := by decide +kernel
theorem dX8_undo_21 : decode cX8_undo 21 = .ok (.invokevirtual 195, 3) := by decide +kernel
theorem dX8_undo_24 : decode cX8_undo 24 = .ok (.aload_n 0, 1) := by decide +kernel
theorem dX8_undo_25 : decode cX8_undo 25 = .ok (.getfield 32, 3) := by decide +kernel
theorem dX8_undo_28 : decode cX8_undo 28 = .ok (.getfield 192, 3) := by decide +kernel
theorem dX8_undo_31 : decode cX8_undo 31 = .ok (.ireturn, 1) := by decide +kernel
theorem dX8_letWait_0 : decode cX8_letWait 0 = .ok (.aload_n 0, 1) := by decide +kernel
theorem dX8_letWait_1 : decode cX8_letWait 1 = .ok (.getfield 22, 3) := by decide +kernel
theorem dX8_letWait_4 : decode cX8_letWait 4 = .ok (.iload_n 1, 1) := by decide +kernel
theorem dX8_letWait_5 : decode cX8_letWait 5 = .ok (.invokevirtual 101, 3) := by decide +kernel
theorem dX8_letWait_8 : decode cX8_letWait 8 = .ok (.ifCond .ne 18, 3) := by decide +kernel
theorem dX8_letWait_11 : decode cX8_letWait 11 = .ok (.aload_n 0, 1) := by decide +kernel
theorem dX8_letWait_12 : decode cX8_letWait 12 = .ok (.getfield 22, 3) := by decide +kernel
theorem dX8_letWait_15 : decode cX8_letWait 15 = .ok (.invokevirtual 84, 3) := by decide +kernel
theorem dX8_letWait_18 : decode cX8_letWait 18 = .ok (.bipush 8, 2) := by decide +kernel
theorem dX8_letWait_20 : decode cX8_letWait 20 = .ok (.if_icmp .lt 6, 3) := by decide +kernel
theorem dX8_letWait_23 : decode cX8_letWait 23 = .ok (.ldc 61, 2) := by decide +kernel
theorem dX8_letWait_25 : decode cX8_letWait 25 = .ok (.ireturn, 1) := by decide +kernel
theorem dX8_letWait_26 : decode cX8_letWait 26 = .ok (.aload_n 0, 1) := by decide +kernel
theorem dX8_letWait_27 : decode cX8_letWait 27 = .ok (.getfield 32, 3) := by decide +kernel
theorem dX8_letWait_30 : decode cX8_letWait 30 = .ok (.aload_n 0, 1) := by decide +kernel
theorem dX8_letWait_31 : decode cX8_letWait 31 = .ok (.getfield 22, 3) := by decide +kernel
theorem dX8_letWait_34 : decode cX8_letWait 34 = .ok (.invokevirtual 88, 3) := by decide +kernel
theorem dX8_letWait_37 : decode cX8_letWait 37 = .ok (.pop, 1) := by decide +kernel
theorem dX8_letWait_38 : decode cX8_letWait 38 = .ok (.aload_n 0, 1) := by decide +kernel
theorem dX8_letWait_39 : decode cX8_letWait 39 = .ok (.getfield 22, 3) := by decide +kernel
theorem dX8_letWait_42 : decode cX8_letWait 42 = .ok (.getfield 92, 3) := by decide +kernel
theorem dX8_letWait_45 : decode cX8_letWait 45 = .ok (.iload_n 1, 1) := by decide +kernel
theorem dX8_letWait_46 : decode cX8_letWait 46 = .ok (.aload_n 2, 1) := by decide +kernel
theorem dX8_letWait_47 : decode cX8_letWait 47 = .ok (.invokevirtual 166, 3) := by decide +kernel
theorem dX8_letWait_50 : decode cX8_letWait 50 = .ok (.aload_n 0, 1) := by decide +kernel
theorem dX8_letWait_51 : decode cX8_letWait 51 = .ok (.getfield 22, 3) := by decide +kernel
theorem dX8_letWait_54 : decode cX8_letWait 54 = .ok (.invokevirtual 84, 3) := by decide +kernel
theorem dX8_letWait_57 : decode cX8_letWait 57 = .ok (.ireturn, 1) := by decide +kernel
theorem dX8_draftShifted_0 : decode cX8_draftShifted 0 = .ok (.aload_n 0, 1) := by decide +kernel
theorem dX8_draftShifted_1 : decode cX8_draftShifted 1 = .ok (.getfield 16, 3) := by decide +kernel
theorem dX8_draftShifted_4 : decode cX8_draftShifted 4 = .ok (.iconst 0, 1) := by decide +kernel
theorem dX8_draftShifted_5 : decode cX8_draftShifted 5 = .ok (.putfield 57, 3) := by decide +kernel
theorem dX8_draftShifted_8 : decode cX8_draftShifted 8 = .ok (.iconst 0, 1) := by decide +kernel
theorem dX8_draftShifted_9 : decode cX8_draftShifted 9 = .ok (.istore 4, 2) := by decide +kernel
theorem dX8_draftShifted_11 : decode cX8_draftShifted 11 = .ok (.iload 4, 2) := by decide +kernel
theorem dX8_draftShifted_13 : decode cX8_draftShifted 13 = .ok (.aload_n 0, 1) := by decide +kernel
theorem dX8_draftShifted_14 : decode cX8_draftShifted 14 = .ok (.getfield 22, 3) := by decide +kernel
theorem dX8_draftShifted_17 : decode cX8_draftShifted 17 = .ok (.getfield 104, 3) := by decide +kernel
theorem dX8_draftShifted_20 : decode cX8_draftShifted 20 = .ok (.getfield 128, 3) := by decide +kernel
theorem dX8_draftShifted_23 : decode cX8_draftShifted 23 = .ok (.iload_n 1, 1) := by decide +kernel
theorem dX8_draftShifted_24 : decode cX8_draftShifted 24 = .ok (.iaload, 1) := by decide +kernel
theorem dX8_draftShifted_25 : decode cX8_draftShifted 25 = .ok (.if_icmp .ge 37, 3) := by decide +kernel
theorem dX8_draftShifted_28 : decode cX8_draftShifted 28 = .ok (.aload_n 0, 1) := by decide +kernel
theorem dX8_draftShifted_29 : decode cX8_draftShifted 29 = .ok (.iload_n 1, 1) := by decide +kernel
theorem dX8_draftShifted_30 : decode cX8_draftShifted 30 = .ok (.iload 4, 2) := by decide +kernel
theorem dX8_draftShifted_32 : decode cX8_draftShifted 32 = .ok (.iload_n 2, 1) := by decide +kernel
theorem dX8_draftShifted_33 : decode cX8_draftShifted 33 = .ok (.iload_n 3, 1) := by decide +kernel
theorem dX8_draftShifted_34 : decode cX8_draftShifted 34 = .ok (.invokevirtual 198, 3) := by decide +kernel
theorem dX8_draftShifted_37 : decode cX8_draftShifted 37 = .ok (.istore 5, 2) := by decide +kernel
theorem dX8_draftShifted_39 : decode cX8_draftShifted 39 = .ok (.iload 5, 2) := by decide +kernel
theorem dX8_draftShifted_41 : decode cX8_draftShifted 41 = .ok (.iconst (-1), 1) := by decide +kernel
theorem dX8_draftShifted_42 : decode cX8_draftShifted 42 = .ok (.if_icmp .ne 5, 3) := by decide +kernel
theorem dX8_draftShifted_45 : decode cX8_draftShifted 45 = .ok (.iconst 0, 1) := by decide +kernel
theorem dX8_draftShifted_46 : decode cX8_draftShifted 46 = .ok (.ireturn, 1) := by decide +kernel
theorem dX8_draftShifted_47 : decode cX8_draftShifted 47 = .ok (.aload_n 0, 1) := by decide +kernel
theorem dX8_draftShifted_48 : decode cX8_draftShifted 48 = .ok (.getfield 16, 3) := by decide +kernel
theorem dX8_draftShifted_51 : decode cX8_draftShifted 51 = .ok (.iload 5, 2) := by decide +kernel
theorem dX8_draftShifted_53 : decode cX8_draftShifted 53 = .ok (.invokevirtual 62, 3) := by decide +kernel
theorem dX8_draftShifted_56 : decode cX8_draftShifted 56 = .ok (.iinc 4 1, 3) := by decide +kernel
theorem dX8_draftShifted_59 : decode cX8_draftShifted 59 = .ok (.goto (-48), 3) := by decide +kernel
theorem dX8_draftShifted_62 : decode cX8_draftShifted 62 = .ok (.iconst 1, 1) := by decide +kernel
theorem dX8_draftShifted_63 : decode cX8_draftShifted 63 = .ok (.ireturn, 1) := by decide +kernel
theorem dX8_shiftedLetter_0 : decode cX8_shiftedLetter 0 = .ok (.aload_n 0, 1) := by decide +kernel
theorem dX8_shiftedLetter_1 : decode cX8_shiftedLetter 1 = .ok (.getfield 22, 3) := by decide +kernel
theorem dX8_shiftedLetter_4 : decode cX8_shiftedLetter 4 = .ok (.getfield 104, 3) := by decide +kernel
theorem dX8_shiftedLetter_7 : decode cX8_shiftedLetter 7 = .ok (.iload_n 1, 1) := by decide +kernel
theorem dX8_shiftedLetter_8 : decode cX8_shiftedLetter 8 = .ok (.iload_n 2, 1) := by decide +kernel
theorem dX8_shiftedLetter_9 : decode cX8_shiftedLetter 9 = .ok (.invokevirtual 131, 3) := by decide +kernel
theorem dX8_shiftedLetter_12 : decode cX8_shiftedLetter 12 = .ok (.istore 5, 2) := by decide +kernel
theorem dX8_shiftedLetter_14 : decode cX8_shiftedLetter 14 = .ok (.iload 5, 2) := by decide +kernel
theorem dX8_shiftedLetter_16 : decode cX8_shiftedLetter 16 = .ok (.invokestatic 202, 3) := by decide +kernel
theorem dX8_shiftedLetter_19 : decode cX8_shiftedLetter 19 = .ok (.ifCond .eq 42, 3) := by decide +kernel
theorem dX8_shiftedLetter_22 : decode cX8_shiftedLetter 22 = .ok (.aload_n 0, 1) := by decide +kernel
theorem dX8_shiftedLetter_23 : decode cX8_shiftedLetter 23 = .ok (.getfield 22, 3) := by decide +kernel
theorem dX8_shiftedLetter_26 : decode cX8_shiftedLetter 26 = .ok (.getfield 104, 3) := by decide +kernel
theorem dX8_shiftedLetter_29 : decode cX8_shiftedLetter 29 = .ok (.iload_n 1, 1) := by decide +kernel
theorem dX8_shiftedLetter_30 : decode cX8_shiftedLetter 30 = .ok (.iload_n 2, 1) := by decide +kernel
theorem dX8_shiftedLetter_31 : decode cX8_shiftedLetter 31 = .ok (.iconst 1, 1) := by decide +kernel
theorem dX8_shiftedLetter_32 : decode cX8_shiftedLetter 32 = .ok (.iadd, 1) := by decide +kernel
theorem dX8_shiftedLetter_33 : decode cX8_shiftedLetter 33 = .ok (.invokevirtual 131, 3) := by decide +kernel
theorem dX8_shiftedLetter_36 : decode cX8_shiftedLetter 36 = .ok (.invokestatic 205, 3) := by decide +kernel
theorem dX8_shiftedLetter_39 : decode cX8_shiftedLetter 39 = .ok (.ifCond .eq 22, 3) := by decide +kernel
theorem dX8_shiftedLetter_42 : decode cX8_shiftedLetter 42 = .ok (.iload 5, 2) := by decide +kernel
theorem dX8_shiftedLetter_44 : decode cX8_shiftedLetter 44 = .ok (.iload_n 3, 1) := by decide +kernel
theorem dX8_shiftedLetter_45 : decode cX8_shiftedLetter 45 = .ok (.iadd, 1) := by decide +kernel
theorem dX8_shiftedLetter_46 : decode cX8_shiftedLetter 46 = .ok (.invokestatic 202, 3) := by decide +kernel
theorem dX8_shiftedLetter_49 : decode cX8_shiftedLetter 49 = .ok (.ifCond .eq 10, 3) := by decide +kernel
theorem dX8_shiftedLetter_52 : decode cX8_shiftedLetter 52 = .ok (.iload 5, 2) := by decide +kernel
theorem dX8_shiftedLetter_54 : decode cX8_shiftedLetter 54 = .ok (.iload_n 3, 1) := by decide +kernel
theorem dX8_shiftedLetter_55 : decode cX8_shiftedLetter 55 = .ok (.iadd, 1) := by decide +kernel
theorem dX8_shiftedLetter_56 : decode cX8_shiftedLetter 56 = .ok (.goto 4, 3) := by decide +kernel
theorem dX8_shiftedLetter_59 : decode cX8_shiftedLetter 59 = .ok (.iconst (-1), 1) := by decide +kernel
theorem dX8_shiftedLetter_60 : decode cX8_shiftedLetter 60 = .ok (.ireturn, 1) := by decide +kernel
theorem dX8_shiftedLetter_61 : decode cX8_shiftedLetter 61 = .ok (.iload 5, 2) := by decide +kernel
theorem dX8_shiftedLetter_63 : decode cX8_shiftedLetter 63 = .ok (.invokestatic 205, 3) := by decide +kernel
theorem dX8_shiftedLetter_66 : decode cX8_shiftedLetter 66 = .ok (.ifCond .eq 44, 3) := by decide +kernel
theorem dX8_shiftedLetter_69 : decode cX8_shiftedLetter 69 = .ok (.aload_n 0, 1) := by decide +kernel
theorem dX8_shiftedLetter_70 : decode cX8_shiftedLetter 70 = .ok (.getfield 22, 3) := by decide +kernel
theorem dX8_shiftedLetter_73 : decode cX8_shiftedLetter 73 = .ok (.getfield 104, 3) := by decide +kernel
theorem dX8_shiftedLetter_76 : decode cX8_shiftedLetter 76 = .ok (.iload_n 1, 1) := by decide +kernel
theorem dX8_shiftedLetter_77 : decode cX8_shiftedLetter 77 = .ok (.iload_n 2, 1) := by decide +kernel
theorem dX8_shiftedLetter_78 : decode cX8_shiftedLetter 78 = .ok (.iconst 1, 1) := by decide +kernel
theorem dX8_shiftedLetter_79 : decode cX8_shiftedLetter 79 = .ok (.isub, 1) := by decide +kernel
theorem dX8_shiftedLetter_80 : decode cX8_shiftedLetter 80 = .ok (.invokevirtual 131, 3) := by decide +kernel
theorem dX8_shiftedLetter_83 : decode cX8_shiftedLetter 83 = .ok (.invokestatic 202, 3) := by decide +kernel
theorem dX8_shiftedLetter_86 : decode cX8_shiftedLetter 86 = .ok (.ifCond .eq 24, 3) := by decide +kernel
theorem dX8_shiftedLetter_89 : decode cX8_shiftedLetter 89 = .ok (.iload 5, 2) := by decide +kernel
theorem dX8_shiftedLetter_91 : decode cX8_shiftedLetter 91 = .ok (.iload 4, 2) := by decide +kernel
theorem dX8_shiftedLetter_93 : decode cX8_shiftedLetter 93 = .ok (.iadd, 1) := by decide +kernel
theorem dX8_shiftedLetter_94 : decode cX8_shiftedLetter 94 = .ok (.invokestatic 205, 3) := by decide +kernel
theorem dX8_shiftedLetter_97 : decode cX8_shiftedLetter 97 = .ok (.ifCond .eq 11, 3) := by decide +kernel
theorem dX8_shiftedLetter_100 : decode cX8_shiftedLetter 100 = .ok (.iload 5, 2) := by decide +kernel
theorem dX8_shiftedLetter_102 : decode cX8_shiftedLetter 102 = .ok (.iload 4, 2) := by decide +kernel
theorem dX8_shiftedLetter_104 : decode cX8_shiftedLetter 104 = .ok (.iadd, 1) := by decide +kernel
theorem dX8_shiftedLetter_105 : decode cX8_shiftedLetter 105 = .ok (.goto 4, 3) := by decide +kernel
theorem dX8_shiftedLetter_108 : decode cX8_shiftedLetter 108 = .ok (.iconst (-1), 1) := by decide +kernel
theorem dX8_shiftedLetter_109 : decode cX8_shiftedLetter 109 = .ok (.ireturn, 1) := by decide +kernel
theorem dX8_shiftedLetter_110 : decode cX8_shiftedLetter 110 = .ok (.iload 5, 2) := by decide +kernel
theorem dX8_shiftedLetter_112 : decode cX8_shiftedLetter 112 = .ok (.ireturn, 1) := by decide +kernel
theorem dX8_draftNumber_0 : decode cX8_draftNumber 0 = .ok (.aload_n 0, 1) := by decide +kernel
theorem dX8_draftNumber_1 : decode cX8_draftNumber 1 = .ok (.getfield 16, 3) := by decide +kernel
theorem dX8_draftNumber_4 : decode cX8_draftNumber 4 = .ok (.iconst 0, 1) := by decide +kernel
theorem dX8_draftNumber_5 : decode cX8_draftNumber 5 = .ok (.putfield 57, 3) := by decide +kernel
theorem dX8_draftNumber_8 : decode cX8_draftNumber 8 = .ok (.iload_n 1, 1) := by decide +kernel
theorem dX8_draftNumber_9 : decode cX8_draftNumber 9 = .ok (.ifCond .ge 12, 3) := by decide +kernel
theorem dX8_draftNumber_12 : decode cX8_draftNumber 12 = .ok (.aload_n 0, 1) := by decide +kernel
theorem dX8_draftNumber_13 : decode cX8_draftNumber 13 = .ok (.getfield 16, 3) := by decide +kernel
theorem dX8_draftNumber_16 : decode cX8_draftNumber 16 = .ok (.bipush 45, 2) := by decide +kernel
theorem dX8_draftNumber_18 : decode cX8_draftNumber 18 = .ok (.invokevirtual 62, 3) := by decide +kernel
theorem dX8_draftNumber_21 : decode cX8_draftNumber 21 = .ok (.iload_n 1, 1) := by decide +kernel
theorem dX8_draftNumber_22 : decode cX8_draftNumber 22 = .ok (.invokestatic 208, 3) := by decide +kernel
theorem dX8_draftNumber_25 : decode cX8_draftNumber 25 = .ok (.istore_n 2, 1) := by decide +kernel
theorem dX8_draftNumber_26 : decode cX8_draftNumber 26 = .ok (.ldc 213, 2) := by decide +kernel
theorem dX8_draftNumber_28 : decode cX8_draftNumber 28 = .ok (.istore_n 3, 1) := by decide +kernel
theorem dX8_draftNumber_29 : decode cX8_draftNumber 29 = .ok (.iload_n 3, 1) := by decide +kernel
theorem dX8_draftNumber_30 : decode cX8_draftNumber 30 = .ok (.ifCond .le 27, 3) := by decide +kernel
theorem dX8_draftNumber_33 : decode cX8_draftNumber 33 = .ok (.aload_n 0, 1) := by decide +kernel
theorem dX8_draftNumber_34 : decode cX8_draftNumber 34 = .ok (.getfield 16, 3) := by decide +kernel
theorem dX8_draftNumber_37 : decode cX8_draftNumber 37 = .ok (.bipush 48, 2) := by decide +kernel
theorem dX8_draftNumber_39 : decode cX8_draftNumber 39 = .ok (.iload_n 2, 1) := by decide +kernel
theorem dX8_draftNumber_40 : decode cX8_draftNumber 40 = .ok (.iload_n 3, 1) := by decide +kernel
theorem dX8_draftNumber_41 : decode cX8_draftNumber 41 = .ok (.idiv, 1) := by decide +kernel
theorem dX8_draftNumber_42 : decode cX8_draftNumber 42 = .ok (.bipush 10, 2) := by decide +kernel
theorem dX8_draftNumber_44 : decode cX8_draftNumber 44 = .ok (.irem, 1) := by decide +kernel
theorem dX8_draftNumber_45 : decode cX8_draftNumber 45 = .ok (.iadd, 1) := by decide +kernel
theorem dX8_draftNumber_46 : decode cX8_draftNumber 46 = .ok (.invokevirtual 62, 3) := by decide +kernel
theorem dX8_draftNumber_49 : decode cX8_draftNumber 49 = .ok (.iload_n 3, 1) := by decide +kernel
theorem dX8_draftNumber_50 : decode cX8_draftNumber 50 = .ok (.bipush 10, 2) := by decide +kernel
theorem dX8_draftNumber_52 : decode cX8_draftNumber 52 = .ok (.idiv, 1) := by decide +kernel
theorem dX8_draftNumber_53 : decode cX8_draftNumber 53 = .ok (.istore_n 3, 1) := by decide +kernel
theorem dX8_draftNumber_54 : decode cX8_draftNumber 54 = .ok (.goto (-25), 3) := by decide +kernel
theorem dX8_draftNumber_57 : decode cX8_draftNumber 57 = .ok (.return_, 1) := by decide +kernel
theorem dX8_bringUpToDate_0 : decode cX8_bringUpToDate 0 = .ok (.aload_n 0, 1) := by decide +kernel
theorem dX8_bringUpToDate_1 : decode cX8_bringUpToDate 1 = .ok (.getfield 48, 3) := by decide +kernel
theorem dX8_bringUpToDate_4 : decode cX8_bringUpToDate 4 = .ok (.aload_n 0, 1) := by decide +kernel
theorem dX8_bringUpToDate_5 : decode cX8_bringUpToDate 5 = .ok (.getfield 22, 3) := by decide +kernel
theorem dX8_bringUpToDate_8 : decode cX8_bringUpToDate 8 = .ok (.invokevirtual 170, 3) := by decide +kernel
theorem dX8_bringUpToDate_11 : decode cX8_bringUpToDate 11 = .ok (.aload_n 0, 1) := by decide +kernel
theorem dX8_bringUpToDate_12 : decode cX8_bringUpToDate 12 = .ok (.getfield 48, 3) := by decide +kernel
theorem dX8_bringUpToDate_15 : decode cX8_bringUpToDate 15 = .ok (.aload_n 0, 1) := by decide +kernel
theorem dX8_bringUpToDate_16 : decode cX8_bringUpToDate 16 = .ok (.getfield 22, 3) := by decide +kernel
theorem dX8_bringUpToDate_19 : decode cX8_bringUpToDate 19 = .ok (.invokevirtual 173, 3) := by decide +kernel
theorem dX8_bringUpToDate_22 : decode cX8_bringUpToDate 22 = .ok (.aload_n 0, 1) := by decide +kernel
theorem dX8_bringUpToDate_23 : decode cX8_bringUpToDate 23 = .ok (.getfield 22, 3) := by decide +kernel
theorem dX8_bringUpToDate_26 : decode cX8_bringUpToDate 26 = .ok (.aload_n 1, 1) := by decide +kernel
theorem dX8_bringUpToDate_27 : decode cX8_bringUpToDate 27 = .ok (.invokevirtual 214, 3) := by decide +kernel
theorem dX8_bringUpToDate_30 : decode cX8_bringUpToDate 30 = .ok (.iconst 0, 1) := by decide +kernel
theorem dX8_bringUpToDate_31 : decode cX8_bringUpToDate 31 = .ok (.istore_n 3, 1) := by decide +kernel
theorem dX8_bringUpToDate_32 : decode cX8_bringUpToDate 32 = .ok (.iconst 0, 1) := by decide +kernel
theorem dX8_bringUpToDate_33 : decode cX8_bringUpToDate 33 = .ok (.istore 4, 2) := by decide +kernel
theorem dX8_bringUpToDate_35 : decode cX8_bringUpToDate 35 = .ok (.iload 4, 2) := by decide +kernel
theorem dX8_bringUpToDate_37 : decode cX8_bringUpToDate 37 = .ok (.bipush 72, 2) := by decide +kernel
theorem dX8_bringUpToDate_39 : decode cX8_bringUpToDate 39 = .ok (.if_icmp .ge 82, 3) := by decide +kernel
theorem dX8_bringUpToDate_42 : decode cX8_bringUpToDate 42 = .ok (.iload_n 2, 1) := by decide +kernel
theorem dX8_bringUpToDate_43 : decode cX8_bringUpToDate 43 = .ok (.ifCond .eq 16, 3) := by decide +kernel
theorem dX8_bringUpToDate_46 : decode cX8_bringUpToDate 46 = .ok (.aload_n 1, 1) := by decide +kernel
theorem dX8_bringUpToDate_47 : decode cX8_bringUpToDate 47 = .ok (.iload 4, 2) := by decide +kernel
theorem dX8_bringUpToDate_49 : decode cX8_bringUpToDate 49 = .ok (.invokevirtual 101, 3) := by decide +kernel
theorem dX8_bringUpToDate_52 : decode cX8_bringUpToDate 52 = .ok (.ifCond .eq 7, 3) := by decide +kernel
theorem dX8_bringUpToDate_55 : decode cX8_bringUpToDate 55 = .ok (.iconst 1, 1) := by decide +kernel
theorem dX8_bringUpToDate_56 : decode cX8_bringUpToDate 56 = .ok (.goto 4, 3) := by decide +kernel
theorem dX8_bringUpToDate_59 : decode cX8_bringUpToDate 59 = .ok (.iconst 0, 1) := by decide +kernel
theorem dX8_bringUpToDate_60 : decode cX8_bringUpToDate 60 = .ok (.istore 5, 2) := by decide +kernel
theorem dX8_bringUpToDate_62 : decode cX8_bringUpToDate 62 = .ok (.aload_n 0, 1) := by decide +kernel
theorem dX8_bringUpToDate_63 : decode cX8_bringUpToDate 63 = .ok (.getfield 22, 3) := by decide +kernel
theorem dX8_bringUpToDate_66 : decode cX8_bringUpToDate 66 = .ok (.getfield 144, 3) := by decide +kernel
theorem dX8_bringUpToDate_69 : decode cX8_bringUpToDate 69 = .ok (.iload 4, 2) := by decide +kernel
theorem dX8_bringUpToDate_71 : decode cX8_bringUpToDate 71 = .ok (.aload_n 0, 1) := by decide +kernel
theorem dX8_bringUpToDate_72 : decode cX8_bringUpToDate 72 = .ok (.getfield 22, 3) := by decide +kernel
theorem dX8_bringUpToDate_75 : decode cX8_bringUpToDate 75 = .ok (.iload 4, 2) := by decide +kernel
theorem dX8_bringUpToDate_77 : decode cX8_bringUpToDate 77 = .ok (.aload_n 1, 1) := by decide +kernel
theorem dX8_bringUpToDate_78 : decode cX8_bringUpToDate 78 = .ok (.iload 5, 2) := by decide +kernel
theorem dX8_bringUpToDate_80 : decode cX8_bringUpToDate 80 = .ok (.invokevirtual 217, 3) := by decide +kernel
theorem dX8_bringUpToDate_83 : decode cX8_bringUpToDate 83 = .ok (.iastore, 1) := by decide +kernel
theorem dX8_bringUpToDate_84 : decode cX8_bringUpToDate 84 = .ok (.aload_n 0, 1) := by decide +kernel
theorem dX8_bringUpToDate_85 : decode cX8_bringUpToDate 85 = .ok (.getfield 22, 3) := by decide +kernel
theorem dX8_bringUpToDate_88 : decode cX8_bringUpToDate 88 = .ok (.getfield 144, 3) := by decide +kernel
theorem dX8_bringUpToDate_91 : decode cX8_bringUpToDate 91 = .ok (.iload 4, 2) := by decide +kernel
theorem dX8_bringUpToDate_93 : decode cX8_bringUpToDate 93 = .ok (.iaload, 1) := by decide +kernel
theorem dX8_bringUpToDate_94 : decode cX8_bringUpToDate 94 = .ok (.iconst (-1), 1) := by decide +kernel
theorem dX8_bringUpToDate_95 : decode cX8_bringUpToDate 95 = .ok (.if_icmp .eq 20, 3) := by decide +kernel
theorem dX8_bringUpToDate_98 : decode cX8_bringUpToDate 98 = .ok (.aload_n 0, 1) := by decide +kernel
theorem dX8_bringUpToDate_99 : decode cX8_bringUpToDate 99 = .ok (.getfield 22, 3) := by decide +kernel
theorem dX8_bringUpToDate_102 : decode cX8_bringUpToDate 102 = .ok (.getfield 221, 3) := by decide +kernel
theorem dX8_bringUpToDate_105 : decode cX8_bringUpToDate 105 = .ok (.iload 4, 2) := by decide +kernel
theorem dX8_bringUpToDate_107 : decode cX8_bringUpToDate 107 = .ok (.dup2, 1) := by decide +kernel
theorem dX8_bringUpToDate_108 : decode cX8_bringUpToDate 108 = .ok (.iaload, 1) := by decide +kernel
theorem dX8_bringUpToDate_109 : decode cX8_bringUpToDate 109 = .ok (.iconst 1, 1) := by decide +kernel
theorem dX8_bringUpToDate_110 : decode cX8_bringUpToDate 110 = .ok (.iadd, 1) := by decide +kernel
theorem dX8_bringUpToDate_111 : decode cX8_bringUpToDate 111 = .ok (.iastore, 1) := by decide +kernel
theorem dX8_bringUpToDate_112 : decode cX8_bringUpToDate 112 = .ok (.iinc 3 1, 3) := by decide +kernel
theorem dX8_bringUpToDate_115 : decode cX8_bringUpToDate 115 = .ok (.iinc 4 1, 3) := by decide +kernel
theorem dX8_bringUpToDate_118 : decode cX8_bringUpToDate 118 = .ok (.goto (-83), 3) := by decide +kernel
theorem dX8_bringUpToDate_121 : decode cX8_bringUpToDate 121 = .ok (.iload_n 3, 1) := by decide +kernel
theorem dX8_bringUpToDate_122 : decode cX8_bringUpToDate 122 = .ok (.ireturn, 1) := by decide +kernel
theorem dX8_followCauses_0 : decode cX8_followCauses 0 = .ok (.aload_n 0, 1) := by decide +kernel
theorem dX8_followCauses_1 : decode cX8_followCauses 1 = .ok (.getfield 22, 3) := by decide +kernel
theorem dX8_followCauses_4 : decode cX8_followCauses 4 = .ok (.getfield 144, 3) := by decide +kernel
theorem dX8_followCauses_7 : decode cX8_followCauses 7 = .ok (.iload_n 1, 1) := by decide +kernel
theorem dX8_followCauses_8 : decode cX8_followCauses 8 = .ok (.iaload, 1) := by decide +kernel
theorem dX8_followCauses_9 : decode cX8_followCauses 9 = .ok (.iconst (-1), 1) := by decide +kernel
theorem dX8_followCauses_10 : decode cX8_followCauses 10 = .ok (.if_icmp .ne 7, 3) := by decide +kernel
theorem dX8_followCauses_13 : decode cX8_followCauses 13 = .ok (.iconst (-1), 1) := by decide +kernel
theorem dX8_followCauses_14 : decode cX8_followCauses 14 = .ok (.goto 4, 3) := by decide +kernel
theorem dX8_followCauses_17 : decode cX8_followCauses 17 = .ok (.iload_n 1, 1) := by decide +kernel
theorem dX8_followCauses_18 : decode cX8_followCauses 18 = .ok (.istore_n 2, 1) := by decide +kernel
theorem dX8_followCauses_19 : decode cX8_followCauses 19 = .ok (.iconst 0, 1) := by decide +kernel
theorem dX8_followCauses_20 : decode cX8_followCauses 20 = .ok (.istore_n 3, 1) := by decide +kernel
theorem dX8_followCauses_21 : decode cX8_followCauses 21 = .ok (.iconst 0, 1) := by decide +kernel
theorem dX8_followCauses_22 : decode cX8_followCauses 22 = .ok (.istore 4, 2) := by decide +kernel
theorem dX8_followCauses_24 : decode cX8_followCauses 24 = .ok (.iload 4, 2) := by decide +kernel
theorem dX8_followCauses_26 : decode cX8_followCauses 26 = .ok (.bipush 72, 2) := by decide +kernel
theorem dX8_followCauses_28 : decode cX8_followCauses 28 = .ok (.if_icmp .ge 62, 3) := by decide +kernel
theorem dX8_followCauses_31 : decode cX8_followCauses 31 = .ok (.iload_n 2, 1) := by decide +kernel
theorem dX8_followCauses_32 : decode cX8_followCauses 32 = .ok (.iconst (-1), 1) := by decide +kernel
theorem dX8_followCauses_33 : decode cX8_followCauses 33 = .ok (.if_icmp .eq 57, 3) := by decide +kernel
theorem dX8_followCauses_36 : decode cX8_followCauses 36 = .ok (.aload_n 0, 1) := by decide +kernel
theorem dX8_followCauses_37 : decode cX8_followCauses 37 = .ok (.getfield 52, 3) := by decide +kernel
theorem dX8_followCauses_40 : decode cX8_followCauses 40 = .ok (.iload_n 3, 1) := by decide +kernel
theorem dX8_followCauses_41 : decode cX8_followCauses 41 = .ok (.iload_n 2, 1) := by decide +kernel
theorem dX8_followCauses_42 : decode cX8_followCauses 42 = .ok (.iastore, 1) := by decide +kernel
theorem dX8_followCauses_43 : decode cX8_followCauses 43 = .ok (.iinc 3 1, 3) := by decide +kernel
theorem dX8_followCauses_46 : decode cX8_followCauses 46 = .ok (.aload_n 0, 1) := by decide +kernel
theorem dX8_followCauses_47 : decode cX8_followCauses 47 = .ok (.getfield 22, 3) := by decide +kernel
theorem dX8_followCauses_50 : decode cX8_followCauses 50 = .ok (.getfield 144, 3) := by decide +kernel
theorem dX8_followCauses_53 : decode cX8_followCauses 53 = .ok (.iload_n 2, 1) := by decide +kernel
theorem dX8_followCauses_54 : decode cX8_followCauses 54 = .ok (.iaload, 1) := by decide +kernel
theorem dX8_followCauses_55 : decode cX8_followCauses 55 = .ok (.istore_n 2, 1) := by decide +kernel
theorem dX8_followCauses_56 : decode cX8_followCauses 56 = .ok (.iconst 0, 1) := by decide +kernel
theorem dX8_followCauses_57 : decode cX8_followCauses 57 = .ok (.istore 5, 2) := by decide +kernel
theorem dX8_followCauses_59 : decode cX8_followCauses 59 = .ok (.iload 5, 2) := by decide +kernel
theorem dX8_followCauses_61 : decode cX8_followCauses 61 = .ok (.iload_n 3, 1) := by decide +kernel
theorem dX8_followCauses_62 : decode cX8_followCauses 62 = .ok (.if_icmp .ge 22, 3) := by decide +kernel
theorem dX8_followCauses_65 : decode cX8_followCauses 65 = .ok (.aload_n 0, 1) := by decide +kernel
theorem dX8_followCauses_66 : decode cX8_followCauses 66 = .ok (.getfield 52, 3) := by decide +kernel
theorem dX8_followCauses_69 : decode cX8_followCauses 69 = .ok (.iload 5, 2) := by decide +kernel
theorem dX8_followCauses_71 : decode cX8_followCauses 71 = .ok (.iaload, 1) := by decide +kernel
theorem dX8_followCauses_72 : decode cX8_followCauses 72 = .ok (.iload_n 2, 1) := by decide +kernel
theorem dX8_followCauses_73 : decode cX8_followCauses 73 = .ok (.if_icmp .ne 5, 3) := by decide +kernel
theorem dX8_followCauses_76 : decode cX8_followCauses 76 = .ok (.iload_n 3, 1) := by decide +kernel
theorem dX8_followCauses_77 : decode cX8_followCauses 77 = .ok (.ireturn, 1) := by decide +kernel
theorem dX8_followCauses_78 : decode cX8_followCauses 78 = .ok (.iinc 5 1, 3) := by decide +kernel
theorem dX8_followCauses_81 : decode cX8_followCauses 81 = .ok (.goto (-22), 3) := by decide +kernel
theorem dX8_followCauses_84 : decode cX8_followCauses 84 = .ok (.iinc 4 1, 3) := by decide +kernel
theorem dX8_followCauses_87 : decode cX8_followCauses 87 = .ok (.goto (-63), 3) := by decide +kernel
theorem dX8_followCauses_90 : decode cX8_followCauses 90 = .ok (.iload_n 3, 1) := by decide +kernel
theorem dX8_followCauses_91 : decode cX8_followCauses 91 = .ok (.ireturn, 1) := by decide +kernel
theorem dX8_sumOfFacts_0 : decode cX8_sumOfFacts 0 = .ok (.iconst 0, 1) := by decide +kernel
theorem dX8_sumOfFacts_1 : decode cX8_sumOfFacts 1 = .ok (.istore_n 2, 1) := by decide +kernel
theorem dX8_sumOfFacts_2 : decode cX8_sumOfFacts 2 = .ok (.iconst 0, 1) := by decide +kernel
theorem dX8_sumOfFacts_3 : decode cX8_sumOfFacts 3 = .ok (.istore_n 3, 1) := by decide +kernel
theorem dX8_sumOfFacts_4 : decode cX8_sumOfFacts 4 = .ok (.iload_n 3, 1) := by decide +kernel
theorem dX8_sumOfFacts_5 : decode cX8_sumOfFacts 5 = .ok (.bipush 72, 2) := by decide +kernel
theorem dX8_sumOfFacts_7 : decode cX8_sumOfFacts 7 = .ok (.if_icmp .ge 21, 3) := by decide +kernel
theorem dX8_sumOfFacts_10 : decode cX8_sumOfFacts 10 = .ok (.iload_n 2, 1) := by decide +kernel
theorem dX8_sumOfFacts_11 : decode cX8_sumOfFacts 11 = .ok (.aload_n 0, 1) := by decide +kernel
theorem dX8_sumOfFacts_12 : decode cX8_sumOfFacts 12 = .ok (.getfield 22, 3) := by decide +kernel
theorem dX8_sumOfFacts_15 : decode cX8_sumOfFacts 15 = .ok (.iload_n 3, 1) := by decide +kernel
theorem dX8_sumOfFacts_16 : decode cX8_sumOfFacts 16 = .ok (.iload_n 1, 1) := by decide +kernel
theorem dX8_sumOfFacts_17 : decode cX8_sumOfFacts 17 = .ok (.invokevirtual 124, 3) := by decide +kernel
theorem dX8_sumOfFacts_20 : decode cX8_sumOfFacts 20 = .ok (.iadd, 1) := by decide +kernel
theorem dX8_sumOfFacts_21 : decode cX8_sumOfFacts 21 = .ok (.istore_n 2, 1) := by decide +kernel
theorem dX8_sumOfFacts_22 : decode cX8_sumOfFacts 22 = .ok (.iinc 3 1, 3) := by decide +kernel
theorem dX8_sumOfFacts_25 : decode cX8_sumOfFacts 25 = .ok (.goto (-21), 3) := by decide +kernel
theorem dX8_sumOfFacts_28 : decode cX8_sumOfFacts 28 = .ok (.iload_n 2, 1) := by decide +kernel
theorem dX8_sumOfFacts_29 : decode cX8_sumOfFacts 29 = .ok (.ireturn, 1) := by decide +kernel
theorem dX8_isCell_0 : decode cX8_isCell 0 = .ok (.iload_n 0, 1) := by decide +kernel
theorem dX8_isCell_1 : decode cX8_isCell 1 = .ok (.ifCond .lt 13, 3) := by decide +kernel
theorem dX8_isCell_4 : decode cX8_isCell 4 = .ok (.iload_n 0, 1) := by decide +kernel
theorem dX8_isCell_5 : decode cX8_isCell 5 = .ok (.bipush 72, 2) := by decide +kernel
theorem dX8_isCell_7 : decode cX8_isCell 7 = .ok (.if_icmp .ge 7, 3) := by decide +kernel
theorem dX8_isCell_10 : decode cX8_isCell 10 = .ok (.iconst 1, 1) := by decide +kernel
theorem dX8_isCell_11 : decode cX8_isCell 11 = .ok (.goto 4, 3) := by decide +kernel
theorem dX8_isCell_14 : decode cX8_isCell 14 = .ok (.iconst 0, 1) := by decide +kernel
theorem dX8_isCell_15 : decode cX8_isCell 15 = .ok (.ireturn, 1) := by decide +kernel
theorem dX8_isColumnLetter_0 : decode cX8_isColumnLetter 0 = .ok (.iload_n 0, 1) := by decide +kernel
theorem dX8_isColumnLetter_1 : decode cX8_isColumnLetter 1 = .ok (.bipush 97, 2) := by decide +kernel
theorem dX8_isColumnLetter_3 : decode cX8_isColumnLetter 3 = .ok (.if_icmp .lt 13, 3) := by decide +kernel
theorem dX8_isColumnLetter_6 : decode cX8_isColumnLetter 6 = .ok (.iload_n 0, 1) := by decide +kernel
theorem dX8_isColumnLetter_7 : decode cX8_isColumnLetter 7 = .ok (.bipush 104, 2) := by decide +kernel
theorem dX8_isColumnLetter_9 : decode cX8_isColumnLetter 9 = .ok (.if_icmp .gt 7, 3) := by decide +kernel
theorem dX8_isColumnLetter_12 : decode cX8_isColumnLetter 12 = .ok (.iconst 1, 1) := by decide +kernel
theorem dX8_isColumnLetter_13 : decode cX8_isColumnLetter 13 = .ok (.goto 4, 3) := by decide +kernel
theorem dX8_isColumnLetter_16 : decode cX8_isColumnLetter 16 = .ok (.iconst 0, 1) := by decide +kernel
theorem dX8_isColumnLetter_17 : decode cX8_isColumnLetter 17 = .ok (.ireturn, 1) := by decide +kernel
theorem dX8_isRowDigit_0 : decode cX8_isRowDigit 0 = .ok (.iload_n 0, 1) := by decide +kernel
theorem dX8_isRowDigit_1 : decode cX8_isRowDigit 1 = .ok (.bipush 49, 2) := by decide +kernel
theorem dX8_isRowDigit_3 : decode cX8_isRowDigit 3 = .ok (.if_icmp .lt 13, 3) := by decide +kernel
theorem dX8_isRowDigit_6 : decode cX8_isRowDigit 6 = .ok (.iload_n 0, 1) := by decide +kernel
theorem dX8_isRowDigit_7 : decode cX8_isRowDigit 7 = .ok (.bipush 57, 2) := by decide +kernel
theorem dX8_isRowDigit_9 : decode cX8_isRowDigit 9 = .ok (.if_icmp .gt 7, 3) := by decide +kernel
theorem dX8_isRowDigit_12 : decode cX8_isRowDigit 12 = .ok (.iconst 1, 1) := by decide +kernel
theorem dX8_isRowDigit_13 : decode cX8_isRowDigit 13 = .ok (.goto 4, 3) := by decide +kernel
theorem dX8_isRowDigit_16 : decode cX8_isRowDigit 16 = .ok (.iconst 0, 1) := by decide +kernel
theorem dX8_isRowDigit_17 : decode cX8_isRowDigit 17 = .ok (.ireturn, 1) := by decide +kernel
theorem dX8_isDigit_0 : decode cX8_isDigit 0 = .ok (.iload_n 0, 1) := by decide +kernel
theorem dX8_isDigit_1 : decode cX8_isDigit 1 = .ok (.bipush 48, 2) := by decide +kernel
theorem dX8_isDigit_3 : decode cX8_isDigit 3 = .ok (.if_icmp .lt 13, 3) := by decide +kernel
theorem dX8_isDigit_6 : decode cX8_isDigit 6 = .ok (.iload_n 0, 1) := by decide +kernel
theorem dX8_isDigit_7 : decode cX8_isDigit 7 = .ok (.bipush 57, 2) := by decide +kernel
theorem dX8_isDigit_9 : decode cX8_isDigit 9 = .ok (.if_icmp .gt 7, 3) := by decide +kernel
theorem dX8_isDigit_12 : decode cX8_isDigit 12 = .ok (.iconst 1, 1) := by decide +kernel
theorem dX8_isDigit_13 : decode cX8_isDigit 13 = .ok (.goto 4, 3) := by decide +kernel
theorem dX8_isDigit_16 : decode cX8_isDigit 16 = .ok (.iconst 0, 1) := by decide +kernel
theorem dX8_isDigit_17 : decode cX8_isDigit 17 = .ok (.ireturn, 1) := by decide +kernel
theorem dX8_nameOf_0 : decode cX8_nameOf 0 = .ok (.iload_n 0, 1) := by decide +kernel
theorem dX8_nameOf_1 : decode cX8_nameOf 1 = .ok (.tableswitch 71 0 7 #[47, 50, 53, 56, 59, 62, 65, 68], 47) := by decide +kernel
theorem dX8_nameOf_48 : decode cX8_nameOf 48 = .ok (.ldc 224, 2) := by decide +kernel
theorem dX8_nameOf_50 : decode cX8_nameOf 50 = .ok (.areturn, 1) := by decide +kernel
theorem dX8_nameOf_51 : decode cX8_nameOf 51 = .ok (.ldc 226, 2) := by decide +kernel
theorem dX8_nameOf_53 : decode cX8_nameOf 53 = .ok (.areturn, 1) := by decide +kernel
theorem dX8_nameOf_54 : decode cX8_nameOf 54 = .ok (.ldc 228, 2) := by decide +kernel
theorem dX8_nameOf_56 : decode cX8_nameOf 56 = .ok (.areturn, 1) := by decide +kernel
theorem dX8_nameOf_57 : decode cX8_nameOf 57 = .ok (.ldc 230, 2) := by decide +kernel
theorem dX8_nameOf_59 : decode cX8_nameOf 59 = .ok (.areturn, 1) := by decide +kernel
theorem dX8_nameOf_60 : decode cX8_nameOf 60 = .ok (.ldc 232, 2) := by decide +kernel
theorem dX8_nameOf_62 : decode cX8_nameOf 62 = .ok (.areturn, 1) := by decide +kernel
theorem dX8_nameOf_63 : decode cX8_nameOf 63 = .ok (.ldc 234, 2) := by decide +kernel
theorem dX8_nameOf_65 : decode cX8_nameOf 65 = .ok (.areturn, 1) := by decide +kernel
theorem dX8_nameOf_66 : decode cX8_nameOf 66 = .ok (.ldc 236, 2) := by decide +kernel
theorem dX8_nameOf_68 : decode cX8_nameOf 68 = .ok (.areturn, 1) := by decide +kernel
theorem dX8_nameOf_69 : decode cX8_nameOf 69 = .ok (.ldc 238, 2) := by decide +kernel
theorem dX8_nameOf_71 : decode cX8_nameOf 71 = .ok (.areturn, 1) := by decide +kernel
theorem dX8_nameOf_72 : decode cX8_nameOf 72 = .ok (.ldc 240, 2) := by decide +kernel
theorem dX8_nameOf_74 : decode cX8_nameOf 74 = .ok (.areturn, 1) := by decide +kernel
theorem dJ9_floorDiv_f86c9_0 : decode cJ9_floorDiv_f86c9 0 = .ok (.lload_n 0, 1) := by decide +kernel
theorem dJ9_floorDiv_f86c9_1 : decode cJ9_floorDiv_f86c9 1 = .ok (.lload_n 2, 1) := by decide +kernel
theorem dJ9_floorDiv_f86c9_2 : decode cJ9_floorDiv_f86c9 2 = .ok (.ldiv, 1) := by decide +kernel
theorem dJ9_floorDiv_f86c9_3 : decode cJ9_floorDiv_f86c9 3 = .ok (.lstore 4, 2) := by decide +kernel
theorem dJ9_floorDiv_f86c9_5 : decode cJ9_floorDiv_f86c9 5 = .ok (.lload_n 0, 1) := by decide +kernel
theorem dJ9_floorDiv_f86c9_6 : decode cJ9_floorDiv_f86c9 6 = .ok (.lload_n 2, 1) := by decide +kernel
theorem dJ9_floorDiv_f86c9_7 : decode cJ9_floorDiv_f86c9 7 = .ok (.lxor, 1) := by decide +kernel
theorem dJ9_floorDiv_f86c9_8 : decode cJ9_floorDiv_f86c9 8 = .ok (.lconst 0, 1) := by decide +kernel
theorem dJ9_floorDiv_f86c9_9 : decode cJ9_floorDiv_f86c9 9 = .ok (.lcmp, 1) := by decide +kernel
theorem dJ9_floorDiv_f86c9_10 : decode cJ9_floorDiv_f86c9 10 = .ok (.ifCond .ge 17, 3) := by decide +kernel
theorem dJ9_floorDiv_f86c9_13 : decode cJ9_floorDiv_f86c9 13 = .ok (.lload 4, 2) := by decide +kernel
theorem dJ9_floorDiv_f86c9_15 : decode cJ9_floorDiv_f86c9 15 = .ok (.lload_n 2, 1) := by decide +kernel
theorem dJ9_floorDiv_f86c9_16 : decode cJ9_floorDiv_f86c9 16 = .ok (.lmul, 1) := by decide +kernel
theorem dJ9_floorDiv_f86c9_17 : decode cJ9_floorDiv_f86c9 17 = .ok (.lload_n 0, 1) := by decide +kernel
theorem dJ9_floorDiv_f86c9_18 : decode cJ9_floorDiv_f86c9 18 = .ok (.lcmp, 1) := by decide +kernel
theorem dJ9_floorDiv_f86c9_19 : decode cJ9_floorDiv_f86c9 19 = .ok (.ifCond .eq 8, 3) := by decide +kernel
theorem dJ9_floorDiv_f86c9_22 : decode cJ9_floorDiv_f86c9 22 = .ok (.lload 4, 2) := by decide +kernel
theorem dJ9_floorDiv_f86c9_24 : decode cJ9_floorDiv_f86c9 24 = .ok (.lconst 1, 1) := by decide +kernel
theorem dJ9_floorDiv_f86c9_25 : decode cJ9_floorDiv_f86c9 25 = .ok (.lsub, 1) := by decide +kernel
theorem dJ9_floorDiv_f86c9_26 : decode cJ9_floorDiv_f86c9 26 = .ok (.lreturn, 1) := by decide +kernel
theorem dJ9_floorDiv_f86c9_27 : decode cJ9_floorDiv_f86c9 27 = .ok (.lload 4, 2) := by decide +kernel
theorem dJ9_floorDiv_f86c9_29 : decode cJ9_floorDiv_f86c9 29 = .ok (.lreturn, 1) := by decide +kernel
theorem dJ9_floorMod_f86c9_0 : decode cJ9_floorMod_f86c9 0 = .ok (.lload_n 0, 1) := by decide +kernel
theorem dJ9_floorMod_f86c9_1 : decode cJ9_floorMod_f86c9 1 = .ok (.lload_n 2, 1) := by decide +kernel
theorem dJ9_floorMod_f86c9_2 : decode cJ9_floorMod_f86c9 2 = .ok (.lrem, 1) := by decide +kernel
theorem dJ9_floorMod_f86c9_3 : decode cJ9_floorMod_f86c9 3 = .ok (.lstore 4, 2) := by decide +kernel
theorem dJ9_floorMod_f86c9_5 : decode cJ9_floorMod_f86c9 5 = .ok (.lload_n 0, 1) := by decide +kernel
theorem dJ9_floorMod_f86c9_6 : decode cJ9_floorMod_f86c9 6 = .ok (.lload_n 2, 1) := by decide +kernel
theorem dJ9_floorMod_f86c9_7 : decode cJ9_floorMod_f86c9 7 = .ok (.lxor, 1) := by decide +kernel
theorem dJ9_floorMod_f86c9_8 : decode cJ9_floorMod_f86c9 8 = .ok (.lconst 0, 1) := by decide +kernel
theorem dJ9_floorMod_f86c9_9 : decode cJ9_floorMod_f86c9 9 = .ok (.lcmp, 1) := by decide +kernel
theorem dJ9_floorMod_f86c9_10 : decode cJ9_floorMod_f86c9 10 = .ok (.ifCond .ge 15, 3) := by decide +kernel
theorem dJ9_floorMod_f86c9_13 : decode cJ9_floorMod_f86c9 13 = .ok (.lload 4, 2) := by decide +kernel
theorem dJ9_floorMod_f86c9_15 : decode cJ9_floorMod_f86c9 15 = .ok (.lconst 0, 1) := by decide +kernel
theorem dJ9_floorMod_f86c9_16 : decode cJ9_floorMod_f86c9 16 = .ok (.lcmp, 1) := by decide +kernel
theorem dJ9_floorMod_f86c9_17 : decode cJ9_floorMod_f86c9 17 = .ok (.ifCond .eq 8, 3) := by decide +kernel
theorem dJ9_floorMod_f86c9_20 : decode cJ9_floorMod_f86c9 20 = .ok (.lload 4, 2) := by decide +kernel
theorem dJ9_floorMod_f86c9_22 : decode cJ9_floorMod_f86c9 22 = .ok (.lload_n 2, 1) := by decide +kernel
theorem dJ9_floorMod_f86c9_23 : decode cJ9_floorMod_f86c9 23 = .ok (.ladd, 1) := by decide +kernel
theorem dJ9_floorMod_f86c9_24 : decode cJ9_floorMod_f86c9 24 = .ok (.lreturn, 1) := by decide +kernel
theorem dJ9_floorMod_f86c9_25 : decode cJ9_floorMod_f86c9 25 = .ok (.lload 4, 2) := by decide +kernel
theorem dJ9_floorMod_f86c9_27 : decode cJ9_floorMod_f86c9 27 = .ok (.lreturn, 1) := by decide +kernel
theorem dJ9_abs_0f7a4_0 : decode cJ9_abs_0f7a4 0 = .ok (.iload_n 0, 1) := by decide +kernel
theorem dJ9_abs_0f7a4_1 : decode cJ9_abs_0f7a4 1 = .ok (.ifCond .ge 8, 3) := by decide +kernel
theorem dJ9_abs_0f7a4_4 : decode cJ9_abs_0f7a4 4 = .ok (.iload_n 0, 1) := by decide +kernel
theorem dJ9_abs_0f7a4_5 : decode cJ9_abs_0f7a4 5 = .ok (.ineg, 1) := by decide +kernel
theorem dJ9_abs_0f7a4_6 : decode cJ9_abs_0f7a4 6 = .ok (.goto 4, 3) := by decide +kernel
theorem dJ9_abs_0f7a4_9 : decode cJ9_abs_0f7a4 9 = .ok (.iload_n 0, 1) := by decide +kernel
theorem dJ9_abs_0f7a4_10 : decode cJ9_abs_0f7a4 10 = .ok (.ireturn, 1) := by decide +kernel
theorem dJ9_max_7cf53_0 : decode cJ9_max_7cf53 0 = .ok (.iload_n 0, 1) := by decide +kernel
theorem dJ9_max_7cf53_1 : decode cJ9_max_7cf53 1 = .ok (.iload_n 1, 1) := by decide +kernel
theorem dJ9_max_7cf53_2 : decode cJ9_max_7cf53 2 = .ok (.if_icmp .lt 7, 3) := by decide +kernel
theorem dJ9_max_7cf53_5 : decode cJ9_max_7cf53 5 = .ok (.iload_n 0, 1) := by decide +kernel
theorem dJ9_max_7cf53_6 : decode cJ9_max_7cf53 6 = .ok (.goto 4, 3) := by decide +kernel
theorem dJ9_max_7cf53_9 : decode cJ9_max_7cf53 9 = .ok (.iload_n 1, 1) := by decide +kernel
theorem dJ9_max_7cf53_10 : decode cJ9_max_7cf53 10 = .ok (.ireturn, 1) := by decide +kernel
theorem dJ9_max_f86c9_0 : decode cJ9_max_f86c9 0 = .ok (.lload_n 0, 1) := by decide +kernel
theorem dJ9_max_f86c9_1 : decode cJ9_max_f86c9 1 = .ok (.lload_n 2, 1) := by decide +kernel
theorem dJ9_max_f86c9_2 : decode cJ9_max_f86c9 2 = .ok (.lcmp, 1) := by decide +kernel
theorem dJ9_max_f86c9_3 : decode cJ9_max_f86c9 3 = .ok (.ifCond .lt 7, 3) := by decide +kernel
theorem dJ9_max_f86c9_6 : decode cJ9_max_f86c9 6 = .ok (.lload_n 0, 1) := by decide +kernel
theorem dJ9_max_f86c9_7 : decode cJ9_max_f86c9 7 = .ok (.goto 4, 3) := by decide +kernel
theorem dJ9_max_f86c9_10 : decode cJ9_max_f86c9 10 = .ok (.lload_n 2, 1) := by decide +kernel
theorem dJ9_max_f86c9_11 : decode cJ9_max_f86c9 11 = .ok (.lreturn, 1) := by decide +kernel
theorem dJ9_min_f86c9_0 : decode cJ9_min_f86c9 0 = .ok (.lload_n 0, 1) := by decide +kernel
theorem dJ9_min_f86c9_1 : decode cJ9_min_f86c9 1 = .ok (.lload_n 2, 1) := by decide +kernel
theorem dJ9_min_f86c9_2 : decode cJ9_min_f86c9 2 = .ok (.lcmp, 1) := by decide +kernel
theorem dJ9_min_f86c9_3 : decode cJ9_min_f86c9 3 = .ok (.ifCond .gt 7, 3) := by decide +kernel
theorem dJ9_min_f86c9_6 : decode cJ9_min_f86c9 6 = .ok (.lload_n 0, 1) := by decide +kernel
theorem dJ9_min_f86c9_7 : decode cJ9_min_f86c9 7 = .ok (.goto 4, 3) := by decide +kernel
theorem dJ9_min_f86c9_10 : decode cJ9_min_f86c9 10 = .ok (.lload_n 2, 1) := by decide +kernel
theorem dJ9_min_f86c9_11 : decode cJ9_min_f86c9 11 = .ok (.lreturn, 1) := by decide +kernel
theorem dJ0_length_8abf5_0 : decode cJ0_length_8abf5 0 = .ok (.aload_n 0, 1) := by decide +kernel
theorem dJ0_length_8abf5_1 : decode cJ0_length_8abf5 1 = .ok (.getfield 9, 3) := by decide +kernel
theorem dJ0_length_8abf5_4 : decode cJ0_length_8abf5 4 = .ok (.arraylength, 1) := by decide +kernel
theorem dJ0_length_8abf5_5 : decode cJ0_length_8abf5 5 = .ok (.aload_n 0, 1) := by decide +kernel
theorem dJ0_length_8abf5_6 : decode cJ0_length_8abf5 6 = .ok (.invokevirtual 335, 3) := by decide +kernel
theorem dJ0_length_8abf5_9 : decode cJ0_length_8abf5 9 = .ok (.ishr, 1) := by decide +kernel
theorem dJ0_length_8abf5_10 : decode cJ0_length_8abf5 10 = .ok (.ireturn, 1) := by decide +kernel
theorem dJ0_charAt_5068e_0 : decode cJ0_charAt_5068e 0 = .ok (.aload_n 0, 1) := by decide +kernel
theorem dJ0_charAt_5068e_1 : decode cJ0_charAt_5068e 1 = .ok (.invokevirtual 492, 3) := by decide +kernel
theorem dJ0_charAt_5068e_4 : decode cJ0_charAt_5068e 4 = .ok (.ifCond .eq 12, 3) := by decide +kernel
theorem dJ0_charAt_5068e_7 : decode cJ0_charAt_5068e 7 = .ok (.aload_n 0, 1) := by decide +kernel
theorem dJ0_charAt_5068e_8 : decode cJ0_charAt_5068e 8 = .ok (.getfield 9, 3) := by decide +kernel
theorem dJ0_charAt_5068e_11 : decode cJ0_charAt_5068e 11 = .ok (.iload_n 1, 1) := by decide +kernel
theorem dJ0_charAt_5068e_12 : decode cJ0_charAt_5068e 12 = .ok (.invokestatic 495, 3) := by decide +kernel
theorem dJ0_charAt_5068e_15 : decode cJ0_charAt_5068e 15 = .ok (.ireturn, 1) := by decide +kernel
theorem dJ0_charAt_5068e_16 : decode cJ0_charAt_5068e 16 = .ok (.aload_n 0, 1) := by decide +kernel
theorem dJ0_charAt_5068e_17 : decode cJ0_charAt_5068e 17 = .ok (.getfield 9, 3) := by decide +kernel
theorem dJ0_charAt_5068e_20 : decode cJ0_charAt_5068e 20 = .ok (.iload_n 1, 1) := by decide +kernel
theorem dJ0_charAt_5068e_21 : decode cJ0_charAt_5068e 21 = .ok (.invokestatic 498, 3) := by decide +kernel
theorem dJ0_charAt_5068e_24 : decode cJ0_charAt_5068e 24 = .ok (.ireturn, 1) := by decide +kernel
theorem dJ0_coder_7d493_0 : decode cJ0_coder_7d493 0 = .ok (.getstatic 38, 3) := by decide +kernel
theorem dJ0_coder_7d493_3 : decode cJ0_coder_7d493 3 = .ok (.ifCond .eq 10, 3) := by decide +kernel
theorem dJ0_coder_7d493_6 : decode cJ0_coder_7d493 6 = .ok (.aload_n 0, 1) := by decide +kernel
theorem dJ0_coder_7d493_7 : decode cJ0_coder_7d493 7 = .ok (.getfield 15, 3) := by decide +kernel
theorem dJ0_coder_7d493_10 : decode cJ0_coder_7d493 10 = .ok (.goto 4, 3) := by decide +kernel
theorem dJ0_coder_7d493_13 : decode cJ0_coder_7d493 13 = .ok (.iconst 1, 1) := by decide +kernel
theorem dJ0_coder_7d493_14 : decode cJ0_coder_7d493 14 = .ok (.ireturn, 1) := by decide +kernel
theorem dJ0_isLatin1_aae02_0 : decode cJ0_isLatin1_aae02 0 = .ok (.getstatic 38, 3) := by decide +kernel
theorem dJ0_isLatin1_aae02_3 : decode cJ0_isLatin1_aae02 3 = .ok (.ifCond .eq 14, 3) := by decide +kernel
theorem dJ0_isLatin1_aae02_6 : decode cJ0_isLatin1_aae02 6 = .ok (.aload_n 0, 1) := by decide +kernel
theorem dJ0_isLatin1_aae02_7 : decode cJ0_isLatin1_aae02 7 = .ok (.getfield 15, 3) := by decide +kernel
theorem dJ0_isLatin1_aae02_10 : decode cJ0_isLatin1_aae02 10 = .ok (.ifCond .ne 7, 3) := by decide +kernel
theorem dJ0_isLatin1_aae02_13 : decode cJ0_isLatin1_aae02 13 = .ok (.iconst 1, 1) := by decide +kernel
theorem dJ0_isLatin1_aae02_14 : decode cJ0_isLatin1_aae02 14 = .ok (.goto 4, 3) := by decide +kernel
theorem dJ0_isLatin1_aae02_17 : decode cJ0_isLatin1_aae02 17 = .ok (.iconst 0, 1) := by decide +kernel
theorem dJ0_isLatin1_aae02_18 : decode cJ0_isLatin1_aae02 18 = .ok (.ireturn, 1) := by decide +kernel
theorem dJ0_checkIndex_df160_0 : decode cJ0_checkIndex_df160 0 = .ok (.iload_n 0, 1) := by decide +kernel
theorem dJ0_checkIndex_df160_1 : decode cJ0_checkIndex_df160 1 = .ok (.iload_n 1, 1) := by decide +kernel
theorem dJ0_checkIndex_df160_2 : decode cJ0_checkIndex_df160 2 = .ok (.getstatic 1053, 3) := by decide +kernel
theorem dJ0_checkIndex_df160_5 : decode cJ0_checkIndex_df160 5 = .ok (.invokestatic 1059, 3) := by decide +kernel
theorem dJ0_checkIndex_df160_8 : decode cJ0_checkIndex_df160 8 = .ok (.pop, 1) := by decide +kernel
theorem dJ0_checkIndex_df160_9 : decode cJ0_checkIndex_df160 9 = .ok (.return_, 1) := by decide +kernel
theorem dJ1_charAt_3b067_0 : decode cJ1_charAt_3b067 0 = .ok (.iload_n 1, 1) := by decide +kernel
theorem dJ1_charAt_3b067_1 : decode cJ1_charAt_3b067 1 = .ok (.aload_n 0, 1) := by decide +kernel
theorem dJ1_charAt_3b067_2 : decode cJ1_charAt_3b067 2 = .ok (.arraylength, 1) := by decide +kernel
theorem dJ1_charAt_3b067_3 : decode cJ1_charAt_3b067 3 = .ok (.invokestatic 9, 3) := by decide +kernel
theorem dJ1_charAt_3b067_6 : decode cJ1_charAt_3b067 6 = .ok (.aload_n 0, 1) := by decide +kernel
theorem dJ1_charAt_3b067_7 : decode cJ1_charAt_3b067 7 = .ok (.iload_n 1, 1) := by decide +kernel
theorem dJ1_charAt_3b067_8 : decode cJ1_charAt_3b067 8 = .ok (.baload, 1) := by decide +kernel
theorem dJ1_charAt_3b067_9 : decode cJ1_charAt_3b067 9 = .ok (.sipush 255, 3) := by decide +kernel
theorem dJ1_charAt_3b067_12 : decode cJ1_charAt_3b067 12 = .ok (.iand, 1) := by decide +kernel
theorem dJ1_charAt_3b067_13 : decode cJ1_charAt_3b067 13 = .ok (.i2c, 1) := by decide +kernel
theorem dJ1_charAt_3b067_14 : decode cJ1_charAt_3b067 14 = .ok (.ireturn, 1) := by decide +kernel
theorem dJ2_getChar_3b067_0 : decode cJ2_getChar_3b067 0 = .ok (.getstatic 44, 3) := by decide +kernel
theorem dJ2_getChar_3b067_3 : decode cJ2_getChar_3b067 3 = .ok (.ifCond .ne 25, 3) := by decide +kernel
theorem dJ2_getChar_3b067_6 : decode cJ2_getChar_3b067 6 = .ok (.iload_n 1, 1) := by decide +kernel
theorem dJ2_getChar_3b067_7 : decode cJ2_getChar_3b067 7 = .ok (.ifCond .lt 11, 3) := by decide +kernel
theorem dJ2_getChar_3b067_10 : decode cJ2_getChar_3b067 10 = .ok (.iload_n 1, 1) := by decide +kernel
theorem dJ2_getChar_3b067_11 : decode cJ2_getChar_3b067 11 = .ok (.aload_n 0, 1) := by decide +kernel
theorem dJ2_getChar_3b067_12 : decode cJ2_getChar_3b067 12 = .ok (.invokestatic 48, 3) := by decide +kernel
theorem dJ2_getChar_3b067_15 : decode cJ2_getChar_3b067 15 = .ok (.if_icmp .lt 13, 3) := by decide +kernel
theorem dJ2_getChar_3b067_18 : decode cJ2_getChar_3b067 18 = .ok (.new 52, 3) := by decide +kernel
theorem dJ2_getChar_3b067_21 : decode cJ2_getChar_3b067 21 = .ok (.dup, 1) := by decide +kernel
theorem dJ2_getChar_3b067_22 : decode cJ2_getChar_3b067 22 = .ok (.ldc 54, 2) := by decide +kernel
theorem dJ2_getChar_3b067_24 : decode cJ2_getChar_3b067 24 = .ok (.invokespecial 56, 3) := by decide +kernel
theorem dJ2_getChar_3b067_27 : decode cJ2_getChar_3b067 27 = .ok (.athrow, 1) := by decide +kernel
theorem dJ2_getChar_3b067_28 : decode cJ2_getChar_3b067 28 = .ok (.iload_n 1, 1) := by decide +kernel
theorem dJ2_getChar_3b067_29 : decode cJ2_getChar_3b067 29 = .ok (.iconst 1, 1) := by decide +kernel
theorem dJ2_getChar_3b067_30 : decode cJ2_getChar_3b067 30 = .ok (.ishl, 1) := by decide +kernel
theorem dJ2_getChar_3b067_31 : decode cJ2_getChar_3b067 31 = .ok (.istore_n 1, 1) := by decide +kernel
theorem dJ2_getChar_3b067_32 : decode cJ2_getChar_3b067 32 = .ok (.aload_n 0, 1) := by decide +kernel
theorem dJ2_getChar_3b067_33 : decode cJ2_getChar_3b067 33 = .ok (.iload_n 1, 1) := by decide +kernel
theorem dJ2_getChar_3b067_34 : decode cJ2_getChar_3b067 34 = .ok (.iinc 1 1, 3) := by decide +kernel
theorem dJ2_getChar_3b067_37 : decode cJ2_getChar_3b067 37 = .ok (.baload, 1) := by decide +kernel
theorem dJ2_getChar_3b067_38 : decode cJ2_getChar_3b067 38 = .ok (.sipush 255, 3) := by decide +kernel
theorem dJ2_getChar_3b067_41 : decode cJ2_getChar_3b067 41 = .ok (.iand, 1) := by decide +kernel
theorem dJ2_getChar_3b067_42 : decode cJ2_getChar_3b067 42 = .ok (.getstatic 59, 3) := by decide +kernel
theorem dJ2_getChar_3b067_45 : decode cJ2_getChar_3b067 45 = .ok (.ishl, 1) := by decide +kernel
theorem dJ2_getChar_3b067_46 : decode cJ2_getChar_3b067 46 = .ok (.aload_n 0, 1) := by decide +kernel
theorem dJ2_getChar_3b067_47 : decode cJ2_getChar_3b067 47 = .ok (.iload_n 1, 1) := by decide +kernel
theorem dJ2_getChar_3b067_48 : decode cJ2_getChar_3b067 48 = .ok (.baload, 1) := by decide +kernel
theorem dJ2_getChar_3b067_49 : decode cJ2_getChar_3b067 49 = .ok (.sipush 255, 3) := by decide +kernel
theorem dJ2_getChar_3b067_52 : decode cJ2_getChar_3b067 52 = .ok (.iand, 1) := by decide +kernel
theorem dJ2_getChar_3b067_53 : decode cJ2_getChar_3b067 53 = .ok (.getstatic 63, 3) := by decide +kernel
theorem dJ2_getChar_3b067_56 : decode cJ2_getChar_3b067 56 = .ok (.ishl, 1) := by decide +kernel
theorem dJ2_getChar_3b067_57 : decode cJ2_getChar_3b067 57 = .ok (.ior, 1) := by decide +kernel
theorem dJ2_getChar_3b067_58 : decode cJ2_getChar_3b067 58 = .ok (.i2c, 1) := by decide +kernel
theorem dJ2_getChar_3b067_59 : decode cJ2_getChar_3b067 59 = .ok (.ireturn, 1) := by decide +kernel
theorem dJ2_length_9d52b_0 : decode cJ2_length_9d52b 0 = .ok (.aload_n 0, 1) := by decide +kernel
theorem dJ2_length_9d52b_1 : decode cJ2_length_9d52b 1 = .ok (.arraylength, 1) := by decide +kernel
theorem dJ2_length_9d52b_2 : decode cJ2_length_9d52b 2 = .ok (.iconst 1, 1) := by decide +kernel
theorem dJ2_length_9d52b_3 : decode cJ2_length_9d52b 3 = .ok (.ishr, 1) := by decide +kernel
theorem dJ2_length_9d52b_4 : decode cJ2_length_9d52b 4 = .ok (.ireturn, 1) := by decide +kernel
theorem dJ2_charAt_3b067_0 : decode cJ2_charAt_3b067 0 = .ok (.iload_n 1, 1) := by decide +kernel
theorem dJ2_charAt_3b067_1 : decode cJ2_charAt_3b067 1 = .ok (.aload_n 0, 1) := by decide +kernel
theorem dJ2_charAt_3b067_2 : decode cJ2_charAt_3b067 2 = .ok (.invokestatic 67, 3) := by decide +kernel
theorem dJ2_charAt_3b067_5 : decode cJ2_charAt_3b067 5 = .ok (.aload_n 0, 1) := by decide +kernel
theorem dJ2_charAt_3b067_6 : decode cJ2_charAt_3b067 6 = .ok (.iload_n 1, 1) := by decide +kernel
theorem dJ2_charAt_3b067_7 : decode cJ2_charAt_3b067 7 = .ok (.invokestatic 71, 3) := by decide +kernel
theorem dJ2_charAt_3b067_10 : decode cJ2_charAt_3b067 10 = .ok (.ireturn, 1) := by decide +kernel
theorem dJ2_checkIndex_2214a_0 : decode cJ2_checkIndex_2214a 0 = .ok (.iload_n 0, 1) := by decide +kernel
theorem dJ2_checkIndex_2214a_1 : decode cJ2_checkIndex_2214a 1 = .ok (.aload_n 1, 1) := by decide +kernel
theorem dJ2_checkIndex_2214a_2 : decode cJ2_checkIndex_2214a 2 = .ok (.invokestatic 48, 3) := by decide +kernel
theorem dJ2_checkIndex_2214a_5 : decode cJ2_checkIndex_2214a 5 = .ok (.invokestatic 414, 3) := by decide +kernel
theorem dJ2_checkIndex_2214a_8 : decode cJ2_checkIndex_2214a 8 = .ok (.return_, 1) := by decide +kernel
theorem dJ3_checkIndex_8e157_0 : decode cJ3_checkIndex_8e157 0 = .ok (.iload_n 0, 1) := by decide +kernel
theorem dJ3_checkIndex_8e157_1 : decode cJ3_checkIndex_8e157 1 = .ok (.ifCond .lt 8, 3) := by decide +kernel
theorem dJ3_checkIndex_8e157_4 : decode cJ3_checkIndex_8e157 4 = .ok (.iload_n 0, 1) := by decide +kernel
theorem dJ3_checkIndex_8e157_5 : decode cJ3_checkIndex_8e157 5 = .ok (.iload_n 1, 1) := by decide +kernel
theorem dJ3_checkIndex_8e157_6 : decode cJ3_checkIndex_8e157 6 = .ok (.if_icmp .lt 10, 3) := by decide +kernel
theorem dJ3_checkIndex_8e157_9 : decode cJ3_checkIndex_8e157 9 = .ok (.aload_n 2, 1) := by decide +kernel
theorem dJ3_checkIndex_8e157_10 : decode cJ3_checkIndex_8e157 10 = .ok (.iload_n 0, 1) := by decide +kernel
theorem dJ3_checkIndex_8e157_11 : decode cJ3_checkIndex_8e157 11 = .ok (.iload_n 1, 1) := by decide +kernel
theorem dJ3_checkIndex_8e157_12 : decode cJ3_checkIndex_8e157 12 = .ok (.invokestatic 95, 3) := by decide +kernel
theorem dJ3_checkIndex_8e157_15 : decode cJ3_checkIndex_8e157 15 = .ok (.athrow, 1) := by decide +kernel
theorem dJ3_checkIndex_8e157_16 : decode cJ3_checkIndex_8e157 16 = .ok (.iload_n 0, 1) := by decide +kernel
theorem dJ3_checkIndex_8e157_17 : decode cJ3_checkIndex_8e157 17 = .ok (.ireturn, 1) := by decide +kernel
