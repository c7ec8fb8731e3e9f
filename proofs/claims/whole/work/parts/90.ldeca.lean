/-! ===== the law: its instructions ===== -/
theorem dL_0 : decode code 0 = .ok (.new 7, 3) := by decide +kernel
theorem dL_3 : decode code 3 = .ok (.dup, 1) := by decide +kernel
theorem dL_4 : decode code 4 = .ok (.invokespecial 9, 3) := by decide +kernel
theorem dL_7 : decode code 7 = .ok (.astore_n 1, 1) := by decide +kernel
theorem dL_8 : decode code 8 = .ok (.new 10, 3) := by decide +kernel
theorem dL_11 : decode code 11 = .ok (.dup, 1) := by decide +kernel
theorem dL_12 : decode code 12 = .ok (.invokespecial 12, 3) := by decide +kernel
theorem dL_15 : decode code 15 = .ok (.astore_n 2, 1) := by decide +kernel
theorem dL_16 : decode code 16 = .ok (.iconst 0, 1) := by decide +kernel
theorem dL_17 : decode code 17 = .ok (.istore_n 3, 1) := by decide +kernel
theorem dL_18 : decode code 18 = .ok (.iload_n 3, 1) := by decide +kernel
theorem dL_19 : decode code 19 = .ok (.aload_n 0, 1) := by decide +kernel
theorem dL_20 : decode code 20 = .ok (.arraylength, 1) := by decide +kernel
theorem dL_21 : decode code 21 = .ok (.iconst 4, 1) := by decide +kernel
theorem dL_22 : decode code 22 = .ok (.isub, 1) := by decide +kernel
theorem dL_23 : decode code 23 = .ok (.if_icmp .gt 628, 3) := by decide +kernel
theorem dL_26 : decode code 26 = .ok (.aload_n 0, 1) := by decide +kernel
theorem dL_27 : decode code 27 = .ok (.iload_n 3, 1) := by decide +kernel
theorem dL_28 : decode code 28 = .ok (.iaload, 1) := by decide +kernel
theorem dL_29 : decode code 29 = .ok (.bipush 31, 2) := by decide +kernel
theorem dL_31 : decode code 31 = .ok (.iand, 1) := by decide +kernel
theorem dL_32 : decode code 32 = .ok (.tableswitch 613 0 20 #[100, 123, 136, 149, 172, 205, 218, 241, 254, 277, 300, 333, 366, 399, 432, 455, 478, 501, 534, 577, 600], 100) := by decide +kernel
theorem dL_132 : decode code 132 = .ok (.aload_n 1, 1) := by decide +kernel
theorem dL_133 : decode code 133 = .ok (.aload_n 0, 1) := by decide +kernel
theorem dL_134 : decode code 134 = .ok (.iload_n 3, 1) := by decide +kernel
theorem dL_135 : decode code 135 = .ok (.iconst 1, 1) := by decide +kernel
theorem dL_136 : decode code 136 = .ok (.iadd, 1) := by decide +kernel
theorem dL_137 : decode code 137 = .ok (.iaload, 1) := by decide +kernel
theorem dL_138 : decode code 138 = .ok (.invokevirtual 13, 3) := by decide +kernel
theorem dL_141 : decode code 141 = .ok (.aload_n 2, 1) := by decide +kernel
theorem dL_142 : decode code 142 = .ok (.aload_n 0, 1) := by decide +kernel
theorem dL_143 : decode code 143 = .ok (.iload_n 3, 1) := by decide +kernel
theorem dL_144 : decode code 144 = .ok (.iconst 1, 1) := by decide +kernel
theorem dL_145 : decode code 145 = .ok (.iadd, 1) := by decide +kernel
theorem dL_146 : decode code 146 = .ok (.iaload, 1) := by decide +kernel
theorem dL_147 : decode code 147 = .ok (.invokevirtual 17, 3) := by decide +kernel
theorem dL_150 : decode code 150 = .ok (.if_icmp .eq 495, 3) := by decide +kernel
theorem dL_153 : decode code 153 = .ok (.iconst 0, 1) := by decide +kernel
theorem dL_154 : decode code 154 = .ok (.ireturn, 1) := by decide +kernel
theorem dL_155 : decode code 155 = .ok (.aload_n 1, 1) := by decide +kernel
theorem dL_156 : decode code 156 = .ok (.invokevirtual 18, 3) := by decide +kernel
theorem dL_159 : decode code 159 = .ok (.aload_n 2, 1) := by decide +kernel
theorem dL_160 : decode code 160 = .ok (.invokevirtual 22, 3) := by decide +kernel
theorem dL_163 : decode code 163 = .ok (.if_icmp .eq 482, 3) := by decide +kernel
theorem dL_166 : decode code 166 = .ok (.iconst 0, 1) := by decide +kernel
theorem dL_167 : decode code 167 = .ok (.ireturn, 1) := by decide +kernel
theorem dL_168 : decode code 168 = .ok (.aload_n 1, 1) := by decide +kernel
theorem dL_169 : decode code 169 = .ok (.invokevirtual 23, 3) := by decide +kernel
theorem dL_172 : decode code 172 = .ok (.aload_n 2, 1) := by decide +kernel
theorem dL_173 : decode code 173 = .ok (.invokevirtual 26, 3) := by decide +kernel
theorem dL_176 : decode code 176 = .ok (.if_icmp .eq 469, 3) := by decide +kernel
theorem dL_179 : decode code 179 = .ok (.iconst 0, 1) := by decide +kernel
theorem dL_180 : decode code 180 = .ok (.ireturn, 1) := by decide +kernel
theorem dL_181 : decode code 181 = .ok (.aload_n 1, 1) := by decide +kernel
theorem dL_182 : decode code 182 = .ok (.aload_n 0, 1) := by decide +kernel
theorem dL_183 : decode code 183 = .ok (.iload_n 3, 1) := by decide +kernel
theorem dL_184 : decode code 184 = .ok (.iconst 1, 1) := by decide +kernel
theorem dL_185 : decode code 185 = .ok (.iadd, 1) := by decide +kernel
theorem dL_186 : decode code 186 = .ok (.iaload, 1) := by decide +kernel
theorem dL_187 : decode code 187 = .ok (.invokevirtual 27, 3) := by decide +kernel
theorem dL_190 : decode code 190 = .ok (.aload_n 2, 1) := by decide +kernel
theorem dL_191 : decode code 191 = .ok (.aload_n 0, 1) := by decide +kernel
theorem dL_192 : decode code 192 = .ok (.iload_n 3, 1) := by decide +kernel
theorem dL_193 : decode code 193 = .ok (.iconst 1, 1) := by decide +kernel
theorem dL_194 : decode code 194 = .ok (.iadd, 1) := by decide +kernel
theorem dL_195 : decode code 195 = .ok (.iaload, 1) := by decide +kernel
theorem dL_196 : decode code 196 = .ok (.invokevirtual 30, 3) := by decide +kernel
theorem dL_199 : decode code 199 = .ok (.if_icmp .eq 446, 3) := by decide +kernel
theorem dL_202 : decode code 202 = .ok (.iconst 0, 1) := by decide +kernel
theorem dL_203 : decode code 203 = .ok (.ireturn, 1) := by decide +kernel
theorem dL_204 : decode code 204 = .ok (.aload_n 1, 1) := by decide +kernel
theorem dL_205 : decode code 205 = .ok (.aload_n 0, 1) := by decide +kernel
theorem dL_206 : decode code 206 = .ok (.iload_n 3, 1) := by decide +kernel
theorem dL_207 : decode code 207 = .ok (.iconst 1, 1) := by decide +kernel
theorem dL_208 : decode code 208 = .ok (.iadd, 1) := by decide +kernel
theorem dL_209 : decode code 209 = .ok (.iaload, 1) := by decide +kernel
theorem dL_210 : decode code 210 = .ok (.aload_n 0, 1) := by decide +kernel
theorem dL_211 : decode code 211 = .ok (.iload_n 3, 1) := by decide +kernel
theorem dL_212 : decode code 212 = .ok (.iconst 2, 1) := by decide +kernel
theorem dL_213 : decode code 213 = .ok (.iadd, 1) := by decide +kernel
theorem dL_214 : decode code 214 = .ok (.iaload, 1) := by decide +kernel
theorem dL_215 : decode code 215 = .ok (.invokevirtual 31, 3) := by decide +kernel
theorem dL_218 : decode code 218 = .ok (.aload_n 2, 1) := by decide +kernel
theorem dL_219 : decode code 219 = .ok (.aload_n 0, 1) := by decide +kernel
theorem dL_220 : decode code 220 = .ok (.iload_n 3, 1) := by decide +kernel
theorem dL_221 : decode code 221 = .ok (.iconst 1, 1) := by decide +kernel
theorem dL_222 : decode code 222 = .ok (.iadd, 1) := by decide +kernel
theorem dL_223 : decode code 223 = .ok (.iaload, 1) := by decide +kernel
theorem dL_224 : decode code 224 = .ok (.aload_n 0, 1) := by decide +kernel
theorem dL_225 : decode code 225 = .ok (.iload_n 3, 1) := by decide +kernel
theorem dL_226 : decode code 226 = .ok (.iconst 2, 1) := by decide +kernel
theorem dL_227 : decode code 227 = .ok (.iadd, 1) := by decide +kernel
theorem dL_228 : decode code 228 = .ok (.iaload, 1) := by decide +kernel
theorem dL_229 : decode code 229 = .ok (.invokevirtual 35, 3) := by decide +kernel
theorem dL_232 : decode code 232 = .ok (.if_icmp .eq 413, 3) := by decide +kernel
theorem dL_235 : decode code 235 = .ok (.iconst 0, 1) := by decide +kernel
theorem dL_236 : decode code 236 = .ok (.ireturn, 1) := by decide +kernel
theorem dL_237 : decode code 237 = .ok (.aload_n 1, 1) := by decide +kernel
theorem dL_238 : decode code 238 = .ok (.invokevirtual 36, 3) := by decide +kernel
theorem dL_241 : decode code 241 = .ok (.aload_n 2, 1) := by decide +kernel
theorem dL_242 : decode code 242 = .ok (.invokevirtual 39, 3) := by decide +kernel
theorem dL_245 : decode code 245 = .ok (.if_icmp .eq 400, 3) := by decide +kernel
theorem dL_248 : decode code 248 = .ok (.iconst 0, 1) := by decide +kernel
theorem dL_249 : decode code 249 = .ok (.ireturn, 1) := by decide +kernel
theorem dL_250 : decode code 250 = .ok (.aload_n 1, 1) := by decide +kernel
theorem dL_251 : decode code 251 = .ok (.aload_n 0, 1) := by decide +kernel
theorem dL_252 : decode code 252 = .ok (.iload_n 3, 1) := by decide +kernel
theorem dL_253 : decode code 253 = .ok (.iconst 1, 1) := by decide +kernel
theorem dL_254 : decode code 254 = .ok (.iadd, 1) := by decide +kernel
theorem dL_255 : decode code 255 = .ok (.iaload, 1) := by decide +kernel
