theorem dX0_init_0 : decode cX0_init 0 = .ok (.aload_n 0, 1) := by decide +kernel
theorem dX0_init_1 : decode cX0_init 1 = .ok (.invokespecial 3, 3) := by decide +kernel
theorem dX0_init_4 : decode cX0_init 4 = .ok (.aload_n 0, 1) := by decide +kernel
theorem dX0_init_5 : decode cX0_init 5 = .ok (.bipush 40, 2) := by decide +kernel
theorem dX0_init_7 : decode cX0_init 7 = .ok (.newarray .int, 2) := by decide +kernel
theorem dX0_init_9 : decode cX0_init 9 = .ok (.putfield 9, 3) := by decide +kernel
theorem dX0_init_12 : decode cX0_init 12 = .ok (.return_, 1) := by decide +kernel
theorem dX0_answer_0 : decode cX0_answer 0 = .ok (.aload_n 0, 1) := by decide +kernel
theorem dX0_answer_1 : decode cX0_answer 1 = .ok (.iload_n 1, 1) := by decide +kernel
theorem dX0_answer_2 : decode cX0_answer 2 = .ok (.putfield 15, 3) := by decide +kernel
theorem dX0_answer_5 : decode cX0_answer 5 = .ok (.aload_n 0, 1) := by decide +kernel
theorem dX0_answer_6 : decode cX0_answer 6 = .ok (.iload_n 2, 1) := by decide +kernel
theorem dX0_answer_7 : decode cX0_answer 7 = .ok (.putfield 19, 3) := by decide +kernel
theorem dX0_answer_10 : decode cX0_answer 10 = .ok (.aload_n 0, 1) := by decide +kernel
theorem dX0_answer_11 : decode cX0_answer 11 = .ok (.iload_n 3, 1) := by decide +kernel
theorem dX0_answer_12 : decode cX0_answer 12 = .ok (.putfield 22, 3) := by decide +kernel
theorem dX0_answer_15 : decode cX0_answer 15 = .ok (.aload_n 0, 1) := by decide +kernel
theorem dX0_answer_16 : decode cX0_answer 16 = .ok (.iconst 0, 1) := by decide +kernel
theorem dX0_answer_17 : decode cX0_answer 17 = .ok (.putfield 25, 3) := by decide +kernel
theorem dX0_answer_20 : decode cX0_answer 20 = .ok (.aload_n 0, 1) := by decide +kernel
theorem dX0_answer_21 : decode cX0_answer 21 = .ok (.aload_n 0, 1) := by decide +kernel
theorem dX0_answer_22 : decode cX0_answer 22 = .ok (.getfield 15, 3) := by decide +kernel
theorem dX0_answer_25 : decode cX0_answer 25 = .ok (.iload 4, 2) := by decide +kernel
theorem dX0_answer_27 : decode cX0_answer 27 = .ok (.iload 5, 2) := by decide +kernel
theorem dX0_answer_29 : decode cX0_answer 29 = .ok (.iconst 0, 1) := by decide +kernel
theorem dX0_answer_30 : decode cX0_answer 30 = .ok (.invokevirtual 28, 3) := by decide +kernel
theorem dX0_answer_33 : decode cX0_answer 33 = .ok (.ireturn, 1) := by decide +kernel
theorem dX0_call_0 : decode cX0_call 0 = .ok (.iload_n 1, 1) := by decide +kernel
theorem dX0_call_1 : decode cX0_call 1 = .ok (.istore 5, 2) := by decide +kernel
theorem dX0_call_3 : decode cX0_call 3 = .ok (.iconst 0, 1) := by decide +kernel
theorem dX0_call_4 : decode cX0_call 4 = .ok (.istore 6, 2) := by decide +kernel
theorem dX0_call_6 : decode cX0_call 6 = .ok (.iload 6, 2) := by decide +kernel
theorem dX0_call_8 : decode cX0_call 8 = .ok (.bipush 6, 2) := by decide +kernel
theorem dX0_call_10 : decode cX0_call 10 = .ok (.if_icmp .gt 77, 3) := by decide +kernel
theorem dX0_call_13 : decode cX0_call 13 = .ok (.iload 5, 2) := by decide +kernel
theorem dX0_call_15 : decode cX0_call 15 = .ok (.iconst 0, 1) := by decide +kernel
theorem dX0_call_16 : decode cX0_call 16 = .ok (.bipush 6, 2) := by decide +kernel
theorem dX0_call_18 : decode cX0_call 18 = .ok (.invokestatic 34, 3) := by decide +kernel
theorem dX0_call_21 : decode cX0_call 21 = .ok (.ifCond .eq 66, 3) := by decide +kernel
theorem dX0_call_24 : decode cX0_call 24 = .ok (.iload 5, 2) := by decide +kernel
theorem dX0_call_26 : decode cX0_call 26 = .ok (.iconst 4, 1) := by decide +kernel
theorem dX0_call_27 : decode cX0_call 27 = .ok (.imul, 1) := by decide +kernel
theorem dX0_call_28 : decode cX0_call 28 = .ok (.iload_n 2, 1) := by decide +kernel
theorem dX0_call_29 : decode cX0_call 29 = .ok (.iadd, 1) := by decide +kernel
theorem dX0_call_30 : decode cX0_call 30 = .ok (.istore 7, 2) := by decide +kernel
theorem dX0_call_32 : decode cX0_call 32 = .ok (.iload 7, 2) := by decide +kernel
theorem dX0_call_34 : decode cX0_call 34 = .ok (.iconst 0, 1) := by decide +kernel
theorem dX0_call_35 : decode cX0_call 35 = .ok (.getstatic 38, 3) := by decide +kernel
theorem dX0_call_38 : decode cX0_call 38 = .ok (.arraylength, 1) := by decide +kernel
theorem dX0_call_39 : decode cX0_call 39 = .ok (.iconst 1, 1) := by decide +kernel
theorem dX0_call_40 : decode cX0_call 40 = .ok (.isub, 1) := by decide +kernel
theorem dX0_call_41 : decode cX0_call 41 = .ok (.invokestatic 34, 3) := by decide +kernel
theorem dX0_call_44 : decode cX0_call 44 = .ok (.ifCond .eq 12, 3) := by decide +kernel
theorem dX0_call_47 : decode cX0_call 47 = .ok (.getstatic 38, 3) := by decide +kernel
theorem dX0_call_50 : decode cX0_call 50 = .ok (.iload 7, 2) := by decide +kernel
theorem dX0_call_52 : decode cX0_call 52 = .ok (.iaload, 1) := by decide +kernel
theorem dX0_call_53 : decode cX0_call 53 = .ok (.goto 4, 3) := by decide +kernel
theorem dX0_call_56 : decode cX0_call 56 = .ok (.iconst 0, 1) := by decide +kernel
theorem dX0_call_57 : decode cX0_call 57 = .ok (.istore 8, 2) := by decide +kernel
theorem dX0_call_59 : decode cX0_call 59 = .ok (.iload 8, 2) := by decide +kernel
theorem dX0_call_61 : decode cX0_call 61 = .ok (.ifCond .eq 13, 3) := by decide +kernel
theorem dX0_call_64 : decode cX0_call 64 = .ok (.aload_n 0, 1) := by decide +kernel
theorem dX0_call_65 : decode cX0_call 65 = .ok (.iload 8, 2) := by decide +kernel
theorem dX0_call_67 : decode cX0_call 67 = .ok (.iload_n 3, 1) := by decide +kernel
theorem dX0_call_68 : decode cX0_call 68 = .ok (.iload 4, 2) := by decide +kernel
theorem dX0_call_70 : decode cX0_call 70 = .ok (.invokevirtual 41, 3) := by decide +kernel
theorem dX0_call_73 : decode cX0_call 73 = .ok (.ireturn, 1) := by decide +kernel
theorem dX0_call_74 : decode cX0_call 74 = .ok (.iload 5, 2) := by decide +kernel
theorem dX0_call_76 : decode cX0_call 76 = .ok (.invokestatic 45, 3) := by decide +kernel
theorem dX0_call_79 : decode cX0_call 79 = .ok (.istore 5, 2) := by decide +kernel
theorem dX0_call_81 : decode cX0_call 81 = .ok (.iinc 6 1, 3) := by decide +kernel
theorem dX0_call_84 : decode cX0_call 84 = .ok (.goto (-78), 3) := by decide +kernel
theorem dX0_call_87 : decode cX0_call 87 = .ok (.iconst 0, 1) := by decide +kernel
theorem dX0_call_88 : decode cX0_call 88 = .ok (.ireturn, 1) := by decide +kernel
theorem dX0_own_0 : decode cX0_own 0 = .ok (.aload_n 0, 1) := by decide +kernel
theorem dX0_own_1 : decode cX0_own 1 = .ok (.aload_n 0, 1) := by decide +kernel
theorem dX0_own_2 : decode cX0_own 2 = .ok (.getfield 15, 3) := by decide +kernel
theorem dX0_own_5 : decode cX0_own 5 = .ok (.iload_n 1, 1) := by decide +kernel
theorem dX0_own_6 : decode cX0_own 6 = .ok (.iload_n 2, 1) := by decide +kernel
theorem dX0_own_7 : decode cX0_own 7 = .ok (.iload_n 3, 1) := by decide +kernel
theorem dX0_own_8 : decode cX0_own 8 = .ok (.iconst 1, 1) := by decide +kernel
theorem dX0_own_9 : decode cX0_own 9 = .ok (.iadd, 1) := by decide +kernel
theorem dX0_own_10 : decode cX0_own 10 = .ok (.invokevirtual 28, 3) := by decide +kernel
theorem dX0_own_13 : decode cX0_own 13 = .ok (.ireturn, 1) := by decide +kernel
theorem dX0_above_0 : decode cX0_above 0 = .ok (.aload_n 0, 1) := by decide +kernel
theorem dX0_above_1 : decode cX0_above 1 = .ok (.iload_n 1, 1) := by decide +kernel
theorem dX0_above_2 : decode cX0_above 2 = .ok (.bipush 10, 2) := by decide +kernel
theorem dX0_above_4 : decode cX0_above 4 = .ok (.idiv, 1) := by decide +kernel
theorem dX0_above_5 : decode cX0_above 5 = .ok (.iconst 1, 1) := by decide +kernel
theorem dX0_above_6 : decode cX0_above 6 = .ok (.isub, 1) := by decide +kernel
theorem dX0_above_7 : decode cX0_above 7 = .ok (.invokestatic 45, 3) := by decide +kernel
theorem dX0_above_10 : decode cX0_above 10 = .ok (.iload_n 2, 1) := by decide +kernel
theorem dX0_above_11 : decode cX0_above 11 = .ok (.iload_n 3, 1) := by decide +kernel
theorem dX0_above_12 : decode cX0_above 12 = .ok (.iload 4, 2) := by decide +kernel
theorem dX0_above_14 : decode cX0_above 14 = .ok (.iconst 1, 1) := by decide +kernel
theorem dX0_above_15 : decode cX0_above 15 = .ok (.iadd, 1) := by decide +kernel
theorem dX0_above_16 : decode cX0_above 16 = .ok (.invokevirtual 28, 3) := by decide +kernel
theorem dX0_above_19 : decode cX0_above 19 = .ok (.ireturn, 1) := by decide +kernel
theorem dX0_run_0 : decode cX0_run 0 = .ok (.iload_n 3, 1) := by decide +kernel
theorem dX0_run_1 : decode cX0_run 1 = .ok (.bipush 40, 2) := by decide +kernel
theorem dX0_run_3 : decode cX0_run 3 = .ok (.if_icmp .le 5, 3) := by decide +kernel
theorem dX0_run_6 : decode cX0_run 6 = .ok (.iconst 0, 1) := by decide +kernel
theorem dX0_run_7 : decode cX0_run 7 = .ok (.ireturn, 1) := by decide +kernel
theorem dX0_run_8 : decode cX0_run 8 = .ok (.aload_n 0, 1) := by decide +kernel
theorem dX0_run_9 : decode cX0_run 9 = .ok (.getfield 25, 3) := by decide +kernel
theorem dX0_run_12 : decode cX0_run 12 = .ok (.iconst 0, 1) := by decide +kernel
theorem dX0_run_13 : decode cX0_run 13 = .ok (.aload_n 0, 1) := by decide +kernel
theorem dX0_run_14 : decode cX0_run 14 = .ok (.getfield 9, 3) := by decide +kernel
theorem dX0_run_17 : decode cX0_run 17 = .ok (.arraylength, 1) := by decide +kernel
theorem dX0_run_18 : decode cX0_run 18 = .ok (.iconst 1, 1) := by decide +kernel
theorem dX0_run_19 : decode cX0_run 19 = .ok (.isub, 1) := by decide +kernel
theorem dX0_run_20 : decode cX0_run 20 = .ok (.invokestatic 34, 3) := by decide +kernel
theorem dX0_run_23 : decode cX0_run 23 = .ok (.ifCond .eq 23, 3) := by decide +kernel
theorem dX0_run_26 : decode cX0_run 26 = .ok (.aload_n 0, 1) := by decide +kernel
theorem dX0_run_27 : decode cX0_run 27 = .ok (.getfield 9, 3) := by decide +kernel
theorem dX0_run_30 : decode cX0_run 30 = .ok (.aload_n 0, 1) := by decide +kernel
theorem dX0_run_31 : decode cX0_run 31 = .ok (.getfield 25, 3) := by decide +kernel
theorem dX0_run_34 : decode cX0_run 34 = .ok (.iload_n 1, 1) := by decide +kernel
theorem dX0_run_35 : decode cX0_run 35 = .ok (.iastore, 1) := by decide +kernel
theorem dX0_run_36 : decode cX0_run 36 = .ok (.aload_n 0, 1) := by decide +kernel
theorem dX0_run_37 : decode cX0_run 37 = .ok (.dup, 1) := by decide +kernel
theorem dX0_run_38 : decode cX0_run 38 = .ok (.getfield 25, 3) := by decide +kernel
theorem dX0_run_41 : decode cX0_run 41 = .ok (.iconst 1, 1) := by decide +kernel
theorem dX0_run_42 : decode cX0_run 42 = .ok (.iadd, 1) := by decide +kernel
theorem dX0_run_43 : decode cX0_run 43 = .ok (.putfield 25, 3) := by decide +kernel
theorem dX0_run_46 : decode cX0_run 46 = .ok (.iload_n 1, 1) := by decide +kernel
theorem dX0_run_47 : decode cX0_run 47 = .ok (.lookupswitch 234 #[(10, 97), (11, 104), (12, 114), (13, 121), (20, 137), (30, 154), (40, 165), (50, 175), (60, 186), (70, 203), (71, 217)], 97) := by decide +kernel
theorem dX0_run_144 : decode cX0_run 144 = .ok (.iload_n 2, 1) := by decide +kernel
theorem dX0_run_145 : decode cX0_run 145 = .ok (.aload_n 0, 1) := by decide +kernel
theorem dX0_run_146 : decode cX0_run 146 = .ok (.getfield 19, 3) := by decide +kernel
theorem dX0_run_149 : decode cX0_run 149 = .ok (.iadd, 1) := by decide +kernel
theorem dX0_run_150 : decode cX0_run 150 = .ok (.ireturn, 1) := by decide +kernel
theorem dX0_run_151 : decode cX0_run 151 = .ok (.aload_n 0, 1) := by decide +kernel
theorem dX0_run_152 : decode cX0_run 152 = .ok (.iconst 0, 1) := by decide +kernel
theorem dX0_run_153 : decode cX0_run 153 = .ok (.iload_n 2, 1) := by decide +kernel
theorem dX0_run_154 : decode cX0_run 154 = .ok (.iload_n 3, 1) := by decide +kernel
theorem dX0_run_155 : decode cX0_run 155 = .ok (.invokevirtual 49, 3) := by decide +kernel
theorem dX0_run_158 : decode cX0_run 158 = .ok (.iconst 2, 1) := by decide +kernel
theorem dX0_run_159 : decode cX0_run 159 = .ok (.imul, 1) := by decide +kernel
theorem dX0_run_160 : decode cX0_run 160 = .ok (.ireturn, 1) := by decide +kernel
theorem dX0_run_161 : decode cX0_run 161 = .ok (.iload_n 2, 1) := by decide +kernel
theorem dX0_run_162 : decode cX0_run 162 = .ok (.aload_n 0, 1) := by decide +kernel
theorem dX0_run_163 : decode cX0_run 163 = .ok (.getfield 22, 3) := by decide +kernel
theorem dX0_run_166 : decode cX0_run 166 = .ok (.isub, 1) := by decide +kernel
theorem dX0_run_167 : decode cX0_run 167 = .ok (.ireturn, 1) := by decide +kernel
theorem dX0_run_168 : decode cX0_run 168 = .ok (.aload_n 0, 1) := by decide +kernel
theorem dX0_run_169 : decode cX0_run 169 = .ok (.iconst 1, 1) := by decide +kernel
theorem dX0_run_170 : decode cX0_run 170 = .ok (.iload_n 2, 1) := by decide +kernel
theorem dX0_run_171 : decode cX0_run 171 = .ok (.iload_n 3, 1) := by decide +kernel
theorem dX0_run_172 : decode cX0_run 172 = .ok (.invokevirtual 49, 3) := by decide +kernel
theorem dX0_run_175 : decode cX0_run 175 = .ok (.aload_n 0, 1) := by decide +kernel
theorem dX0_run_176 : decode cX0_run 176 = .ok (.iconst 2, 1) := by decide +kernel
theorem dX0_run_177 : decode cX0_run 177 = .ok (.iload_n 2, 1) := by decide +kernel
theorem dX0_run_178 : decode cX0_run 178 = .ok (.iload_n 3, 1) := by decide +kernel
theorem dX0_run_179 : decode cX0_run 179 = .ok (.invokevirtual 49, 3) := by decide +kernel
theorem dX0_run_182 : decode cX0_run 182 = .ok (.ixor, 1) := by decide +kernel
theorem dX0_run_183 : decode cX0_run 183 = .ok (.ireturn, 1) := by decide +kernel
theorem dX0_run_184 : decode cX0_run 184 = .ok (.aload_n 0, 1) := by decide +kernel
theorem dX0_run_185 : decode cX0_run 185 = .ok (.iload_n 1, 1) := by decide +kernel
theorem dX0_run_186 : decode cX0_run 186 = .ok (.iconst 1, 1) := by decide +kernel
theorem dX0_run_187 : decode cX0_run 187 = .ok (.iload_n 2, 1) := by decide +kernel
theorem dX0_run_188 : decode cX0_run 188 = .ok (.iload_n 3, 1) := by decide +kernel
theorem dX0_run_189 : decode cX0_run 189 = .ok (.invokevirtual 52, 3) := by decide +kernel
theorem dX0_run_192 : decode cX0_run 192 = .ok (.aload_n 0, 1) := by decide +kernel
theorem dX0_run_193 : decode cX0_run 193 = .ok (.iconst 2, 1) := by decide +kernel
theorem dX0_run_194 : decode cX0_run 194 = .ok (.iconst 1, 1) := by decide +kernel
theorem dX0_run_195 : decode cX0_run 195 = .ok (.iload_n 3, 1) := by decide +kernel
theorem dX0_run_196 : decode cX0_run 196 = .ok (.invokevirtual 49, 3) := by decide +kernel
theorem dX0_run_199 : decode cX0_run 199 = .ok (.isub, 1) := by decide +kernel
theorem dX0_run_200 : decode cX0_run 200 = .ok (.ireturn, 1) := by decide +kernel
theorem dX0_run_201 : decode cX0_run 201 = .ok (.aload_n 0, 1) := by decide +kernel
theorem dX0_run_202 : decode cX0_run 202 = .ok (.iload_n 1, 1) := by decide +kernel
theorem dX0_run_203 : decode cX0_run 203 = .ok (.iconst 0, 1) := by decide +kernel
theorem dX0_run_204 : decode cX0_run 204 = .ok (.iload_n 2, 1) := by decide +kernel
theorem dX0_run_205 : decode cX0_run 205 = .ok (.iload_n 3, 1) := by decide +kernel
theorem dX0_run_206 : decode cX0_run 206 = .ok (.invokevirtual 52, 3) := by decide +kernel
theorem dX0_run_209 : decode cX0_run 209 = .ok (.iconst 3, 1) := by decide +kernel
theorem dX0_run_210 : decode cX0_run 210 = .ok (.imul, 1) := by decide +kernel
theorem dX0_run_211 : decode cX0_run 211 = .ok (.ireturn, 1) := by decide +kernel
theorem dX0_run_212 : decode cX0_run 212 = .ok (.aload_n 0, 1) := by decide +kernel
theorem dX0_run_213 : decode cX0_run 213 = .ok (.iload_n 1, 1) := by decide +kernel
theorem dX0_run_214 : decode cX0_run 214 = .ok (.iconst 2, 1) := by decide +kernel
theorem dX0_run_215 : decode cX0_run 215 = .ok (.iload_n 2, 1) := by decide +kernel
theorem dX0_run_216 : decode cX0_run 216 = .ok (.iload_n 3, 1) := by decide +kernel
theorem dX0_run_217 : decode cX0_run 217 = .ok (.invokevirtual 52, 3) := by decide +kernel
theorem dX0_run_220 : decode cX0_run 220 = .ok (.ineg, 1) := by decide +kernel
theorem dX0_run_221 : decode cX0_run 221 = .ok (.ireturn, 1) := by decide +kernel
theorem dX0_run_222 : decode cX0_run 222 = .ok (.aload_n 0, 1) := by decide +kernel
theorem dX0_run_223 : decode cX0_run 223 = .ok (.iload_n 1, 1) := by decide +kernel
theorem dX0_run_224 : decode cX0_run 224 = .ok (.iconst 1, 1) := by decide +kernel
theorem dX0_run_225 : decode cX0_run 225 = .ok (.iload_n 2, 1) := by decide +kernel
theorem dX0_run_226 : decode cX0_run 226 = .ok (.iconst 1, 1) := by decide +kernel
theorem dX0_run_227 : decode cX0_run 227 = .ok (.iadd, 1) := by decide +kernel
theorem dX0_run_228 : decode cX0_run 228 = .ok (.iload_n 3, 1) := by decide +kernel
theorem dX0_run_229 : decode cX0_run 229 = .ok (.invokevirtual 52, 3) := by decide +kernel
theorem dX0_run_232 : decode cX0_run 232 = .ok (.ireturn, 1) := by decide +kernel
theorem dX0_run_233 : decode cX0_run 233 = .ok (.aload_n 0, 1) := by decide +kernel
theorem dX0_run_234 : decode cX0_run 234 = .ok (.iload_n 1, 1) := by decide +kernel
theorem dX0_run_235 : decode cX0_run 235 = .ok (.iconst 3, 1) := by decide +kernel
theorem dX0_run_236 : decode cX0_run 236 = .ok (.iload_n 2, 1) := by decide +kernel
theorem dX0_run_237 : decode cX0_run 237 = .ok (.iload_n 3, 1) := by decide +kernel
theorem dX0_run_238 : decode cX0_run 238 = .ok (.invokevirtual 52, 3) := by decide +kernel
theorem dX0_run_241 : decode cX0_run 241 = .ok (.aload_n 0, 1) := by decide +kernel
theorem dX0_run_242 : decode cX0_run 242 = .ok (.iconst 0, 1) := by decide +kernel
theorem dX0_run_243 : decode cX0_run 243 = .ok (.iconst 2, 1) := by decide +kernel
theorem dX0_run_244 : decode cX0_run 244 = .ok (.iload_n 3, 1) := by decide +kernel
theorem dX0_run_245 : decode cX0_run 245 = .ok (.invokevirtual 49, 3) := by decide +kernel
theorem dX0_run_248 : decode cX0_run 248 = .ok (.isub, 1) := by decide +kernel
theorem dX0_run_249 : decode cX0_run 249 = .ok (.ireturn, 1) := by decide +kernel
theorem dX0_run_250 : decode cX0_run 250 = .ok (.aload_n 0, 1) := by decide +kernel
theorem dX0_run_251 : decode cX0_run 251 = .ok (.iload_n 1, 1) := by decide +kernel
theorem dX0_run_252 : decode cX0_run 252 = .ok (.iconst 2, 1) := by decide +kernel
theorem dX0_run_253 : decode cX0_run 253 = .ok (.iload_n 2, 1) := by decide +kernel
theorem dX0_run_254 : decode cX0_run 254 = .ok (.iload_n 3, 1) := by decide +kernel
theorem dX0_run_255 : decode cX0_run 255 = .ok (.invokevirtual 52, 3) := by decide +kernel
theorem dX0_run_258 : decode cX0_run 258 = .ok (.aload_n 0, 1) := by decide +kernel
theorem dX0_run_259 : decode cX0_run 259 = .ok (.getfield 19, 3) := by decide +kernel
theorem dX0_run_262 : decode cX0_run 262 = .ok (.ixor, 1) := by decide +kernel
theorem dX0_run_263 : decode cX0_run 263 = .ok (.ireturn, 1) := by decide +kernel
theorem dX0_run_264 : decode cX0_run 264 = .ok (.aload_n 0, 1) := by decide +kernel
theorem dX0_run_265 : decode cX0_run 265 = .ok (.iconst 1, 1) := by decide +kernel
theorem dX0_run_266 : decode cX0_run 266 = .ok (.iload_n 2, 1) := by decide +kernel
theorem dX0_run_267 : decode cX0_run 267 = .ok (.iload_n 3, 1) := by decide +kernel
theorem dX0_run_268 : decode cX0_run 268 = .ok (.invokevirtual 49, 3) := by decide +kernel
theorem dX0_run_271 : decode cX0_run 271 = .ok (.aload_n 0, 1) := by decide +kernel
theorem dX0_run_272 : decode cX0_run 272 = .ok (.iload_n 1, 1) := by decide +kernel
theorem dX0_run_273 : decode cX0_run 273 = .ok (.iconst 3, 1) := by decide +kernel
theorem dX0_run_274 : decode cX0_run 274 = .ok (.iload_n 2, 1) := by decide +kernel
theorem dX0_run_275 : decode cX0_run 275 = .ok (.iload_n 3, 1) := by decide +kernel
theorem dX0_run_276 : decode cX0_run 276 = .ok (.invokevirtual 52, 3) := by decide +kernel
theorem dX0_run_279 : decode cX0_run 279 = .ok (.isub, 1) := by decide +kernel
theorem dX0_run_280 : decode cX0_run 280 = .ok (.ireturn, 1) := by decide +kernel
theorem dX0_run_281 : decode cX0_run 281 = .ok (.iconst 0, 1) := by decide +kernel
theorem dX0_run_282 : decode cX0_run 282 = .ok (.ireturn, 1) := by decide +kernel
theorem dX1_init_0 : decode cX1_init 0 = .ok (.aload_n 0, 1) := by decide +kernel
theorem dX1_init_1 : decode cX1_init 1 = .ok (.invokespecial 3, 3) := by decide +kernel
theorem dX1_init_4 : decode cX1_init 4 = .ok (.aload_n 0, 1) := by decide +kernel
theorem dX1_init_5 : decode cX1_init 5 = .ok (.iconst 5, 1) := by decide +kernel
theorem dX1_init_6 : decode cX1_init 6 = .ok (.anewarray 9, 3) := by decide +kernel
theorem dX1_init_9 : decode cX1_init 9 = .ok (.putfield 11, 3) := by decide +kernel
theorem dX1_init_12 : decode cX1_init 12 = .ok (.iconst 0, 1) := by decide +kernel
theorem dX1_init_13 : decode cX1_init 13 = .ok (.istore_n 1, 1) := by decide +kernel
theorem dX1_init_14 : decode cX1_init 14 = .ok (.iload_n 1, 1) := by decide +kernel
theorem dX1_init_15 : decode cX1_init 15 = .ok (.aload_n 0, 1) := by decide +kernel
theorem dX1_init_16 : decode cX1_init 16 = .ok (.getfield 11, 3) := by decide +kernel
theorem dX1_init_19 : decode cX1_init 19 = .ok (.arraylength, 1) := by decide +kernel
theorem dX1_init_20 : decode cX1_init 20 = .ok (.if_icmp .ge 22, 3) := by decide +kernel
theorem dX1_init_23 : decode cX1_init 23 = .ok (.aload_n 0, 1) := by decide +kernel
theorem dX1_init_24 : decode cX1_init 24 = .ok (.getfield 11, 3) := by decide +kernel
theorem dX1_init_27 : decode cX1_init 27 = .ok (.iload_n 1, 1) := by decide +kernel
theorem dX1_init_28 : decode cX1_init 28 = .ok (.new 9, 3) := by decide +kernel
theorem dX1_init_31 : decode cX1_init 31 = .ok (.dup, 1) := by decide +kernel
theorem dX1_init_32 : decode cX1_init 32 = .ok (.invokespecial 17, 3) := by decide +kernel
theorem dX1_init_35 : decode cX1_init 35 = .ok (.aastore, 1) := by decide +kernel
theorem dX1_init_36 : decode cX1_init 36 = .ok (.iinc 1 1, 3) := by decide +kernel
theorem dX1_init_39 : decode cX1_init 39 = .ok (.goto (-25), 3) := by decide +kernel
theorem dX1_init_42 : decode cX1_init 42 = .ok (.return_, 1) := by decide +kernel
theorem dX1_play_0 : decode cX1_play 0 = .ok (.aload_n 0, 1) := by decide +kernel
theorem dX1_play_1 : decode cX1_play 1 = .ok (.iload_n 2, 1) := by decide +kernel
theorem dX1_play_2 : decode cX1_play 2 = .ok (.putfield 18, 3) := by decide +kernel
theorem dX1_play_5 : decode cX1_play 5 = .ok (.aload_n 0, 1) := by decide +kernel
theorem dX1_play_6 : decode cX1_play 6 = .ok (.iload_n 3, 1) := by decide +kernel
theorem dX1_play_7 : decode cX1_play 7 = .ok (.putfield 22, 3) := by decide +kernel
theorem dX1_play_10 : decode cX1_play 10 = .ok (.aload_n 0, 1) := by decide +kernel
theorem dX1_play_11 : decode cX1_play 11 = .ok (.iload 4, 2) := by decide +kernel
theorem dX1_play_13 : decode cX1_play 13 = .ok (.iconst 0, 1) := by decide +kernel
theorem dX1_play_14 : decode cX1_play 14 = .ok (.iconst 4, 1) := by decide +kernel
theorem dX1_play_15 : decode cX1_play 15 = .ok (.invokestatic 25, 3) := by decide +kernel
theorem dX1_play_18 : decode cX1_play 18 = .ok (.putfield 29, 3) := by decide +kernel
theorem dX1_play_21 : decode cX1_play 21 = .ok (.aload_n 0, 1) := by decide +kernel
theorem dX1_play_22 : decode cX1_play 22 = .ok (.getfield 11, 3) := by decide +kernel
theorem dX1_play_25 : decode cX1_play 25 = .ok (.iconst 0, 1) := by decide +kernel
theorem dX1_play_26 : decode cX1_play 26 = .ok (.aaload, 1) := by decide +kernel
theorem dX1_play_27 : decode cX1_play 27 = .ok (.astore 5, 2) := by decide +kernel
theorem dX1_play_29 : decode cX1_play 29 = .ok (.aload 5, 2) := by decide +kernel
theorem dX1_play_31 : decode cX1_play 31 = .ok (.aload_n 1, 1) := by decide +kernel
theorem dX1_play_32 : decode cX1_play 32 = .ok (.getfield 32, 3) := by decide +kernel
theorem dX1_play_35 : decode cX1_play 35 = .ok (.invokevirtual 38, 3) := by decide +kernel
theorem dX1_play_38 : decode cX1_play 38 = .ok (.aload 5, 2) := by decide +kernel
theorem dX1_play_40 : decode cX1_play 40 = .ok (.iconst 0, 1) := by decide +kernel
theorem dX1_play_41 : decode cX1_play 41 = .ok (.putfield 42, 3) := by decide +kernel
theorem dX1_play_44 : decode cX1_play 44 = .ok (.aload 5, 2) := by decide +kernel
theorem dX1_play_46 : decode cX1_play 46 = .ok (.iconst (-1), 1) := by decide +kernel
theorem dX1_play_47 : decode cX1_play 47 = .ok (.putfield 45, 3) := by decide +kernel
theorem dX1_play_50 : decode cX1_play 50 = .ok (.aload 5, 2) := by decide +kernel
theorem dX1_play_52 : decode cX1_play 52 = .ok (.iconst 0, 1) := by decide +kernel
theorem dX1_play_53 : decode cX1_play 53 = .ok (.putfield 48, 3) := by decide +kernel
theorem dX1_play_56 : decode cX1_play 56 = .ok (.aload_n 0, 1) := by decide +kernel
theorem dX1_play_57 : decode cX1_play 57 = .ok (.aload_n 1, 1) := by decide +kernel
theorem dX1_play_58 : decode cX1_play 58 = .ok (.iconst 0, 1) := by decide +kernel
theorem dX1_play_59 : decode cX1_play 59 = .ok (.invokevirtual 51, 3) := by decide +kernel
theorem dX1_play_62 : decode cX1_play 62 = .ok (.ireturn, 1) := by decide +kernel
theorem dX1_turn_0 : decode cX1_turn 0 = .ok (.aload_n 0, 1) := by decide +kernel
theorem dX1_turn_1 : decode cX1_turn 1 = .ok (.getfield 11, 3) := by decide +kernel
theorem dX1_turn_4 : decode cX1_turn 4 = .ok (.iload_n 2, 1) := by decide +kernel
theorem dX1_turn_5 : decode cX1_turn 5 = .ok (.iconst 0, 1) := by decide +kernel
theorem dX1_turn_6 : decode cX1_turn 6 = .ok (.iconst 4, 1) := by decide +kernel
theorem dX1_turn_7 : decode cX1_turn 7 = .ok (.invokestatic 25, 3) := by decide +kernel
theorem dX1_turn_10 : decode cX1_turn 10 = .ok (.aaload, 1) := by decide +kernel
theorem dX1_turn_11 : decode cX1_turn 11 = .ok (.astore_n 3, 1) := by decide +kernel
theorem dX1_turn_12 : decode cX1_turn 12 = .ok (.iload_n 2, 1) := by decide +kernel
theorem dX1_turn_13 : decode cX1_turn 13 = .ok (.aload_n 0, 1) := by decide +kernel
theorem dX1_turn_14 : decode cX1_turn 14 = .ok (.getfield 29, 3) := by decide +kernel
theorem dX1_turn_17 : decode cX1_turn 17 = .ok (.if_icmp .lt 10, 3) := by decide +kernel
theorem dX1_turn_20 : decode cX1_turn 20 = .ok (.aload_n 0, 1) := by decide +kernel
theorem dX1_turn_21 : decode cX1_turn 21 = .ok (.aload_n 1, 1) := by decide +kernel
theorem dX1_turn_22 : decode cX1_turn 22 = .ok (.aload_n 3, 1) := by decide +kernel
theorem dX1_turn_23 : decode cX1_turn 23 = .ok (.invokevirtual 55, 3) := by decide +kernel
theorem dX1_turn_26 : decode cX1_turn 26 = .ok (.ireturn, 1) := by decide +kernel
theorem dX1_turn_27 : decode cX1_turn 27 = .ok (.iload_n 2, 1) := by decide +kernel
theorem dX1_turn_28 : decode cX1_turn 28 = .ok (.iconst 2, 1) := by decide +kernel
theorem dX1_turn_29 : decode cX1_turn 29 = .ok (.irem, 1) := by decide +kernel
theorem dX1_turn_30 : decode cX1_turn 30 = .ok (.ifCond .ne 10, 3) := by decide +kernel
theorem dX1_turn_33 : decode cX1_turn 33 = .ok (.aload_n 0, 1) := by decide +kernel
theorem dX1_turn_34 : decode cX1_turn 34 = .ok (.getfield 18, 3) := by decide +kernel
theorem dX1_turn_37 : decode cX1_turn 37 = .ok (.goto 7, 3) := by decide +kernel
theorem dX1_turn_40 : decode cX1_turn 40 = .ok (.aload_n 0, 1) := by decide +kernel
theorem dX1_turn_41 : decode cX1_turn 41 = .ok (.getfield 22, 3) := by decide +kernel
theorem dX1_turn_44 : decode cX1_turn 44 = .ok (.istore 4, 2) := by decide +kernel
theorem dX1_turn_46 : decode cX1_turn 46 = .ok (.iconst (-1), 1) := by decide +kernel
theorem dX1_turn_47 : decode cX1_turn 47 = .ok (.istore 5, 2) := by decide +kernel
theorem dX1_turn_49 : decode cX1_turn 49 = .ok (.iconst 0, 1) := by decide +kernel
theorem dX1_turn_50 : decode cX1_turn 50 = .ok (.istore 6, 2) := by decide +kernel
theorem dX1_turn_52 : decode cX1_turn 52 = .ok (.iconst 0, 1) := by decide +kernel
theorem dX1_turn_53 : decode cX1_turn 53 = .ok (.istore 7, 2) := by decide +kernel
theorem dX1_turn_55 : decode cX1_turn 55 = .ok (.iconst 0, 1) := by decide +kernel
theorem dX1_turn_56 : decode cX1_turn 56 = .ok (.istore 8, 2) := by decide +kernel
theorem dX1_turn_58 : decode cX1_turn 58 = .ok (.iload 8, 2) := by decide +kernel
theorem dX1_turn_60 : decode cX1_turn 60 = .ok (.aload_n 1, 1) := by decide +kernel
theorem dX1_turn_61 : decode cX1_turn 61 = .ok (.getfield 59, 3) := by decide +kernel
theorem dX1_turn_64 : decode cX1_turn 64 = .ok (.if_icmp .ge 95, 3) := by decide +kernel
theorem dX1_turn_67 : decode cX1_turn 67 = .ok (.iload 8, 2) := by decide +kernel
theorem dX1_turn_69 : decode cX1_turn 69 = .ok (.bipush 12, 2) := by decide +kernel
theorem dX1_turn_71 : decode cX1_turn 71 = .ok (.if_icmp .ge 88, 3) := by decide +kernel
theorem dX1_turn_74 : decode cX1_turn 74 = .ok (.iload 7, 2) := by decide +kernel
theorem dX1_turn_76 : decode cX1_turn 76 = .ok (.iconst 4, 1) := by decide +kernel
theorem dX1_turn_77 : decode cX1_turn 77 = .ok (.if_icmp .ge 82, 3) := by decide +kernel
theorem dX1_turn_80 : decode cX1_turn 80 = .ok (.aload_n 1, 1) := by decide +kernel
theorem dX1_turn_81 : decode cX1_turn 81 = .ok (.getfield 62, 3) := by decide +kernel
theorem dX1_turn_84 : decode cX1_turn 84 = .ok (.iload 8, 2) := by decide +kernel
theorem dX1_turn_86 : decode cX1_turn 86 = .ok (.iaload, 1) := by decide +kernel
theorem dX1_turn_87 : decode cX1_turn 87 = .ok (.iload 4, 2) := by decide +kernel
theorem dX1_turn_89 : decode cX1_turn 89 = .ok (.if_icmp .ne 64, 3) := by decide +kernel
theorem dX1_turn_92 : decode cX1_turn 92 = .ok (.aload_n 3, 1) := by decide +kernel
theorem dX1_turn_93 : decode cX1_turn 93 = .ok (.getfield 66, 3) := by decide +kernel
theorem dX1_turn_96 : decode cX1_turn 96 = .ok (.iload 8, 2) := by decide +kernel
theorem dX1_turn_98 : decode cX1_turn 98 = .ok (.iaload, 1) := by decide +kernel
theorem dX1_turn_99 : decode cX1_turn 99 = .ok (.ifCond .eq 6, 3) := by decide +kernel
theorem dX1_turn_102 : decode cX1_turn 102 = .ok (.goto 51, 3) := by decide +kernel
theorem dX1_turn_105 : decode cX1_turn 105 = .ok (.iinc 7 1, 3) := by decide +kernel
theorem dX1_turn_108 : decode cX1_turn 108 = .ok (.aload_n 1, 1) := by decide +kernel
theorem dX1_turn_109 : decode cX1_turn 109 = .ok (.aload_n 3, 1) := by decide +kernel
theorem dX1_turn_110 : decode cX1_turn 110 = .ok (.iload 8, 2) := by decide +kernel
theorem dX1_turn_112 : decode cX1_turn 112 = .ok (.invokevirtual 69, 3) := by decide +kernel
theorem dX1_turn_115 : decode cX1_turn 115 = .ok (.ifCond .eq 38, 3) := by decide +kernel
theorem dX1_turn_118 : decode cX1_turn 118 = .ok (.aload_n 0, 1) := by decide +kernel
theorem dX1_turn_119 : decode cX1_turn 119 = .ok (.aload_n 1, 1) := by decide +kernel
theorem dX1_turn_120 : decode cX1_turn 120 = .ok (.iload 8, 2) := by decide +kernel
theorem dX1_turn_122 : decode cX1_turn 122 = .ok (.iload_n 2, 1) := by decide +kernel
theorem dX1_turn_123 : decode cX1_turn 123 = .ok (.invokevirtual 73, 3) := by decide +kernel
theorem dX1_turn_126 : decode cX1_turn 126 = .ok (.istore 9, 2) := by decide +kernel
theorem dX1_turn_128 : decode cX1_turn 128 = .ok (.iload 5, 2) := by decide +kernel
theorem dX1_turn_130 : decode cX1_turn 130 = .ok (.iconst (-1), 1) := by decide +kernel
theorem dX1_turn_131 : decode cX1_turn 131 = .ok (.if_icmp .eq 14, 3) := by decide +kernel
theorem dX1_turn_134 : decode cX1_turn 134 = .ok (.iload 9, 2) := by decide +kernel
theorem dX1_turn_136 : decode cX1_turn 136 = .ok (.iload 6, 2) := by decide +kernel
theorem dX1_turn_138 : decode cX1_turn 138 = .ok (.iload_n 2, 1) := by decide +kernel
theorem dX1_turn_139 : decode cX1_turn 139 = .ok (.invokestatic 77, 3) := by decide +kernel
theorem dX1_turn_142 : decode cX1_turn 142 = .ok (.ifCond .eq 11, 3) := by decide +kernel
theorem dX1_turn_145 : decode cX1_turn 145 = .ok (.iload 8, 2) := by decide +kernel
theorem dX1_turn_147 : decode cX1_turn 147 = .ok (.istore 5, 2) := by decide +kernel
theorem dX1_turn_149 : decode cX1_turn 149 = .ok (.iload 9, 2) := by decide +kernel
theorem dX1_turn_151 : decode cX1_turn 151 = .ok (.istore 6, 2) := by decide +kernel
theorem dX1_turn_153 : decode cX1_turn 153 = .ok (.iinc 8 1, 3) := by decide +kernel
theorem dX1_turn_156 : decode cX1_turn 156 = .ok (.goto (-98), 3) := by decide +kernel
theorem dX1_turn_159 : decode cX1_turn 159 = .ok (.aload_n 0, 1) := by decide +kernel
theorem dX1_turn_160 : decode cX1_turn 160 = .ok (.aload_n 1, 1) := by decide +kernel
theorem dX1_turn_161 : decode cX1_turn 161 = .ok (.bipush 12, 2) := by decide +kernel
theorem dX1_turn_163 : decode cX1_turn 163 = .ok (.iload_n 2, 1) := by decide +kernel
theorem dX1_turn_164 : decode cX1_turn 164 = .ok (.invokevirtual 73, 3) := by decide +kernel
theorem dX1_turn_167 : decode cX1_turn 167 = .ok (.istore 8, 2) := by decide +kernel
theorem dX1_turn_169 : decode cX1_turn 169 = .ok (.iload 5, 2) := by decide +kernel
theorem dX1_turn_171 : decode cX1_turn 171 = .ok (.iconst (-1), 1) := by decide +kernel
theorem dX1_turn_172 : decode cX1_turn 172 = .ok (.if_icmp .eq 14, 3) := by decide +kernel
theorem dX1_turn_175 : decode cX1_turn 175 = .ok (.iload 8, 2) := by decide +kernel
theorem dX1_turn_177 : decode cX1_turn 177 = .ok (.iload 6, 2) := by decide +kernel
theorem dX1_turn_179 : decode cX1_turn 179 = .ok (.iload_n 2, 1) := by decide +kernel
theorem dX1_turn_180 : decode cX1_turn 180 = .ok (.invokestatic 77, 3) := by decide +kernel
theorem dX1_turn_183 : decode cX1_turn 183 = .ok (.ifCond .eq 11, 3) := by decide +kernel
theorem dX1_turn_186 : decode cX1_turn 186 = .ok (.bipush 12, 2) := by decide +kernel
theorem dX1_turn_188 : decode cX1_turn 188 = .ok (.istore 5, 2) := by decide +kernel
theorem dX1_turn_190 : decode cX1_turn 190 = .ok (.iload 8, 2) := by decide +kernel
theorem dX1_turn_192 : decode cX1_turn 192 = .ok (.istore 6, 2) := by decide +kernel
theorem dX1_turn_194 : decode cX1_turn 194 = .ok (.aload_n 0, 1) := by decide +kernel
theorem dX1_turn_195 : decode cX1_turn 195 = .ok (.iload_n 2, 1) := by decide +kernel
theorem dX1_turn_196 : decode cX1_turn 196 = .ok (.ifCond .ne 8, 3) := by decide +kernel
theorem dX1_turn_199 : decode cX1_turn 199 = .ok (.iload 5, 2) := by decide +kernel
theorem dX1_turn_201 : decode cX1_turn 201 = .ok (.goto 7, 3) := by decide +kernel
theorem dX1_turn_204 : decode cX1_turn 204 = .ok (.aload_n 0, 1) := by decide +kernel
theorem dX1_turn_205 : decode cX1_turn 205 = .ok (.getfield 81, 3) := by decide +kernel
theorem dX1_turn_208 : decode cX1_turn 208 = .ok (.putfield 81, 3) := by decide +kernel
theorem dX1_turn_211 : decode cX1_turn 211 = .ok (.iload 6, 2) := by decide +kernel
theorem dX1_turn_213 : decode cX1_turn 213 = .ok (.ireturn, 1) := by decide +kernel
theorem dX1_valueOf_0 : decode cX1_valueOf 0 = .ok (.iload_n 3, 1) := by decide +kernel
theorem dX1_valueOf_1 : decode cX1_valueOf 1 = .ok (.iconst 0, 1) := by decide +kernel
theorem dX1_valueOf_2 : decode cX1_valueOf 2 = .ok (.iconst 3, 1) := by decide +kernel
theorem dX1_valueOf_3 : decode cX1_valueOf 3 = .ok (.invokestatic 84, 3) := by decide +kernel
theorem dX1_valueOf_6 : decode cX1_valueOf 6 = .ok (.ifCond .ne 5, 3) := by decide +kernel
theorem dX1_valueOf_9 : decode cX1_valueOf 9 = .ok (.iconst 0, 1) := by decide +kernel
theorem dX1_valueOf_10 : decode cX1_valueOf 10 = .ok (.ireturn, 1) := by decide +kernel
theorem dX1_valueOf_11 : decode cX1_valueOf 11 = .ok (.aload_n 0, 1) := by decide +kernel
theorem dX1_valueOf_12 : decode cX1_valueOf 12 = .ok (.getfield 11, 3) := by decide +kernel
theorem dX1_valueOf_15 : decode cX1_valueOf 15 = .ok (.iload_n 3, 1) := by decide +kernel
theorem dX1_valueOf_16 : decode cX1_valueOf 16 = .ok (.iconst 1, 1) := by decide +kernel
theorem dX1_valueOf_17 : decode cX1_valueOf 17 = .ok (.iadd, 1) := by decide +kernel
theorem dX1_valueOf_18 : decode cX1_valueOf 18 = .ok (.aaload, 1) := by decide +kernel
theorem dX1_valueOf_19 : decode cX1_valueOf 19 = .ok (.astore 4, 2) := by decide +kernel
theorem dX1_valueOf_21 : decode cX1_valueOf 21 = .ok (.aload 4, 2) := by decide +kernel
theorem dX1_valueOf_23 : decode cX1_valueOf 23 = .ok (.aload_n 0, 1) := by decide +kernel
theorem dX1_valueOf_24 : decode cX1_valueOf 24 = .ok (.getfield 11, 3) := by decide +kernel
theorem dX1_valueOf_27 : decode cX1_valueOf 27 = .ok (.iload_n 3, 1) := by decide +kernel
theorem dX1_valueOf_28 : decode cX1_valueOf 28 = .ok (.aaload, 1) := by decide +kernel
theorem dX1_valueOf_29 : decode cX1_valueOf 29 = .ok (.invokevirtual 38, 3) := by decide +kernel
theorem dX1_valueOf_32 : decode cX1_valueOf 32 = .ok (.aload_n 1, 1) := by decide +kernel
theorem dX1_valueOf_33 : decode cX1_valueOf 33 = .ok (.iload_n 2, 1) := by decide +kernel
theorem dX1_valueOf_34 : decode cX1_valueOf 34 = .ok (.invokevirtual 87, 3) := by decide +kernel
theorem dX1_valueOf_37 : decode cX1_valueOf 37 = .ok (.ifCond .eq 22, 3) := by decide +kernel
theorem dX1_valueOf_40 : decode cX1_valueOf 40 = .ok (.aload_n 1, 1) := by decide +kernel
theorem dX1_valueOf_41 : decode cX1_valueOf 41 = .ok (.aload 4, 2) := by decide +kernel
theorem dX1_valueOf_43 : decode cX1_valueOf 43 = .ok (.iload_n 2, 1) := by decide +kernel
theorem dX1_valueOf_44 : decode cX1_valueOf 44 = .ok (.invokevirtual 91, 3) := by decide +kernel
theorem dX1_valueOf_47 : decode cX1_valueOf 47 = .ok (.aload_n 1, 1) := by decide +kernel
theorem dX1_valueOf_48 : decode cX1_valueOf 48 = .ok (.aload 4, 2) := by decide +kernel
theorem dX1_valueOf_50 : decode cX1_valueOf 50 = .ok (.aload_n 1, 1) := by decide +kernel
theorem dX1_valueOf_51 : decode cX1_valueOf 51 = .ok (.aload 4, 2) := by decide +kernel
theorem dX1_valueOf_53 : decode cX1_valueOf 53 = .ok (.invokevirtual 95, 3) := by decide +kernel
theorem dX1_valueOf_56 : decode cX1_valueOf 56 = .ok (.invokevirtual 99, 3) := by decide +kernel
theorem dX1_valueOf_59 : decode cX1_valueOf 59 = .ok (.aload_n 0, 1) := by decide +kernel
theorem dX1_valueOf_60 : decode cX1_valueOf 60 = .ok (.aload_n 1, 1) := by decide +kernel
theorem dX1_valueOf_61 : decode cX1_valueOf 61 = .ok (.iload_n 3, 1) := by decide +kernel
theorem dX1_valueOf_62 : decode cX1_valueOf 62 = .ok (.iconst 1, 1) := by decide +kernel
theorem dX1_valueOf_63 : decode cX1_valueOf 63 = .ok (.iadd, 1) := by decide +kernel
theorem dX1_valueOf_64 : decode cX1_valueOf 64 = .ok (.invokevirtual 51, 3) := by decide +kernel
theorem dX1_valueOf_67 : decode cX1_valueOf 67 = .ok (.ireturn, 1) := by decide +kernel
theorem dX1_isBetter_0 : decode cX1_isBetter 0 = .ok (.iload_n 2, 1) := by decide +kernel
theorem dX1_isBetter_1 : decode cX1_isBetter 1 = .ok (.iconst 2, 1) := by decide +kernel
theorem dX1_isBetter_2 : decode cX1_isBetter 2 = .ok (.irem, 1) := by decide +kernel
theorem dX1_isBetter_3 : decode cX1_isBetter 3 = .ok (.ifCond .ne 16, 3) := by decide +kernel
theorem dX1_isBetter_6 : decode cX1_isBetter 6 = .ok (.iload_n 0, 1) := by decide +kernel
theorem dX1_isBetter_7 : decode cX1_isBetter 7 = .ok (.iload_n 1, 1) := by decide +kernel
theorem dX1_isBetter_8 : decode cX1_isBetter 8 = .ok (.if_icmp .le 7, 3) := by decide +kernel
theorem dX1_isBetter_11 : decode cX1_isBetter 11 = .ok (.iconst 1, 1) := by decide +kernel
theorem dX1_isBetter_12 : decode cX1_isBetter 12 = .ok (.goto 17, 3) := by decide +kernel
theorem dX1_isBetter_15 : decode cX1_isBetter 15 = .ok (.iconst 0, 1) := by decide +kernel
theorem dX1_isBetter_16 : decode cX1_isBetter 16 = .ok (.goto 13, 3) := by decide +kernel
theorem dX1_isBetter_19 : decode cX1_isBetter 19 = .ok (.iload_n 0, 1) := by decide +kernel
theorem dX1_isBetter_20 : decode cX1_isBetter 20 = .ok (.iload_n 1, 1) := by decide +kernel
theorem dX1_isBetter_21 : decode cX1_isBetter 21 = .ok (.if_icmp .ge 7, 3) := by decide +kernel
theorem dX1_isBetter_24 : decode cX1_isBetter 24 = .ok (.iconst 1, 1) := by decide +kernel
theorem dX1_isBetter_25 : decode cX1_isBetter 25 = .ok (.goto 4, 3) := by decide +kernel
theorem dX1_isBetter_28 : decode cX1_isBetter 28 = .ok (.iconst 0, 1) := by decide +kernel
theorem dX1_isBetter_29 : decode cX1_isBetter 29 = .ok (.ireturn, 1) := by decide +kernel
theorem dX1_growth_0 : decode cX1_growth 0 = .ok (.aload_n 1, 1) := by decide +kernel
theorem dX1_growth_1 : decode cX1_growth 1 = .ok (.aload_n 0, 1) := by decide +kernel
theorem dX1_growth_2 : decode cX1_growth 2 = .ok (.getfield 18, 3) := by decide +kernel
theorem dX1_growth_5 : decode cX1_growth 5 = .ok (.invokevirtual 102, 3) := by decide +kernel
theorem dX1_growth_8 : decode cX1_growth 8 = .ok (.ifCond .eq 14, 3) := by decide +kernel
theorem dX1_growth_11 : decode cX1_growth 11 = .ok (.aload_n 1, 1) := by decide +kernel
theorem dX1_growth_12 : decode cX1_growth 12 = .ok (.aload_n 0, 1) := by decide +kernel
theorem dX1_growth_13 : decode cX1_growth 13 = .ok (.getfield 22, 3) := by decide +kernel
theorem dX1_growth_16 : decode cX1_growth 16 = .ok (.invokevirtual 102, 3) := by decide +kernel
theorem dX1_growth_19 : decode cX1_growth 19 = .ok (.ifCond .ne 5, 3) := by decide +kernel
theorem dX1_growth_22 : decode cX1_growth 22 = .ok (.iconst 0, 1) := by decide +kernel
theorem dX1_growth_23 : decode cX1_growth 23 = .ok (.ireturn, 1) := by decide +kernel
theorem dX1_growth_24 : decode cX1_growth 24 = .ok (.aload_n 0, 1) := by decide +kernel
theorem dX1_growth_25 : decode cX1_growth 25 = .ok (.getfield 11, 3) := by decide +kernel
theorem dX1_growth_28 : decode cX1_growth 28 = .ok (.iconst 0, 1) := by decide +kernel
theorem dX1_growth_29 : decode cX1_growth 29 = .ok (.aaload, 1) := by decide +kernel
theorem dX1_growth_30 : decode cX1_growth 30 = .ok (.getfield 105, 3) := by decide +kernel
theorem dX1_growth_33 : decode cX1_growth 33 = .ok (.astore_n 3, 1) := by decide +kernel
theorem dX1_growth_34 : decode cX1_growth 34 = .ok (.aload_n 2, 1) := by decide +kernel
theorem dX1_growth_35 : decode cX1_growth 35 = .ok (.getfield 105, 3) := by decide +kernel
theorem dX1_growth_38 : decode cX1_growth 38 = .ok (.aload_n 0, 1) := by decide +kernel
theorem dX1_growth_39 : decode cX1_growth 39 = .ok (.getfield 18, 3) := by decide +kernel
theorem dX1_growth_42 : decode cX1_growth 42 = .ok (.iaload, 1) := by decide +kernel
theorem dX1_growth_43 : decode cX1_growth 43 = .ok (.aload_n 3, 1) := by decide +kernel
theorem dX1_growth_44 : decode cX1_growth 44 = .ok (.aload_n 0, 1) := by decide +kernel
theorem dX1_growth_45 : decode cX1_growth 45 = .ok (.getfield 18, 3) := by decide +kernel
theorem dX1_growth_48 : decode cX1_growth 48 = .ok (.iaload, 1) := by decide +kernel
theorem dX1_growth_49 : decode cX1_growth 49 = .ok (.isub, 1) := by decide +kernel
theorem dX1_growth_50 : decode cX1_growth 50 = .ok (.aload_n 2, 1) := by decide +kernel
theorem dX1_growth_51 : decode cX1_growth 51 = .ok (.getfield 105, 3) := by decide +kernel
theorem dX1_growth_54 : decode cX1_growth 54 = .ok (.aload_n 0, 1) := by decide +kernel
theorem dX1_growth_55 : decode cX1_growth 55 = .ok (.getfield 22, 3) := by decide +kernel
theorem dX1_growth_58 : decode cX1_growth 58 = .ok (.iaload, 1) := by decide +kernel
theorem dX1_growth_59 : decode cX1_growth 59 = .ok (.aload_n 3, 1) := by decide +kernel
theorem dX1_growth_60 : decode cX1_growth 60 = .ok (.aload_n 0, 1) := by decide +kernel
theorem dX1_growth_61 : decode cX1_growth 61 = .ok (.getfield 22, 3) := by decide +kernel
theorem dX1_growth_64 : decode cX1_growth 64 = .ok (.iaload, 1) := by decide +kernel
theorem dX1_growth_65 : decode cX1_growth 65 = .ok (.isub, 1) := by decide +kernel
theorem dX1_growth_66 : decode cX1_growth 66 = .ok (.isub, 1) := by decide +kernel
theorem dX1_growth_67 : decode cX1_growth 67 = .ok (.ireturn, 1) := by decide +kernel
theorem dX2_init_0 : decode cX2_init 0 = .ok (.aload_n 0, 1) := by decide +kernel
theorem dX2_init_1 : decode cX2_init 1 = .ok (.invokespecial 3, 3) := by decide +kernel
theorem dX2_init_4 : decode cX2_init 4 = .ok (.aload_n 0, 1) := by decide +kernel
theorem dX2_init_5 : decode cX2_init 5 = .ok (.iconst 4, 1) := by decide +kernel
theorem dX2_init_6 : decode cX2_init 6 = .ok (.newarray .int, 2) := by decide +kernel
theorem dX2_init_8 : decode cX2_init 8 = .ok (.putfield 9, 3) := by decide +kernel
theorem dX2_init_11 : decode cX2_init 11 = .ok (.aload_n 0, 1) := by decide +kernel
theorem dX2_init_12 : decode cX2_init 12 = .ok (.iconst 4, 1) := by decide +kernel
theorem dX2_init_13 : decode cX2_init 13 = .ok (.newarray .int, 2) := by decide +kernel
theorem dX2_init_15 : decode cX2_init 15 = .ok (.putfield 15, 3) := by decide +kernel
theorem dX2_init_18 : decode cX2_init 18 = .ok (.aload_n 0, 1) := by decide +kernel
theorem dX2_init_19 : decode cX2_init 19 = .ok (.bipush 12, 2) := by decide +kernel
theorem dX2_init_21 : decode cX2_init 21 = .ok (.newarray .int, 2) := by decide +kernel
theorem dX2_init_23 : decode cX2_init 23 = .ok (.putfield 18, 3) := by decide +kernel
theorem dX2_init_26 : decode cX2_init 26 = .ok (.aload_n 0, 1) := by decide +kernel
theorem dX2_init_27 : decode cX2_init 27 = .ok (.iconst (-1), 1) := by decide +kernel
theorem dX2_init_28 : decode cX2_init 28 = .ok (.putfield 21, 3) := by decide +kernel
theorem dX2_init_31 : decode cX2_init 31 = .ok (.return_, 1) := by decide +kernel
theorem dX2_copy_0 : decode cX2_copy 0 = .ok (.aload_n 1, 1) := by decide +kernel
theorem dX2_copy_1 : decode cX2_copy 1 = .ok (.getfield 9, 3) := by decide +kernel
theorem dX2_copy_4 : decode cX2_copy 4 = .ok (.iconst 0, 1) := by decide +kernel
theorem dX2_copy_5 : decode cX2_copy 5 = .ok (.aload_n 0, 1) := by decide +kernel
theorem dX2_copy_6 : decode cX2_copy 6 = .ok (.getfield 9, 3) := by decide +kernel
theorem dX2_copy_9 : decode cX2_copy 9 = .ok (.iconst 0, 1) := by decide +kernel
theorem dX2_copy_10 : decode cX2_copy 10 = .ok (.iconst 4, 1) := by decide +kernel
theorem dX2_copy_11 : decode cX2_copy 11 = .ok (.invokestatic 25, 3) := by decide +kernel
theorem dX2_copy_14 : decode cX2_copy 14 = .ok (.aload_n 1, 1) := by decide +kernel
theorem dX2_copy_15 : decode cX2_copy 15 = .ok (.getfield 15, 3) := by decide +kernel
theorem dX2_copy_18 : decode cX2_copy 18 = .ok (.iconst 0, 1) := by decide +kernel
theorem dX2_copy_19 : decode cX2_copy 19 = .ok (.aload_n 0, 1) := by decide +kernel
theorem dX2_copy_20 : decode cX2_copy 20 = .ok (.getfield 15, 3) := by decide +kernel
theorem dX2_copy_23 : decode cX2_copy 23 = .ok (.iconst 0, 1) := by decide +kernel
theorem dX2_copy_24 : decode cX2_copy 24 = .ok (.iconst 4, 1) := by decide +kernel
theorem dX2_copy_25 : decode cX2_copy 25 = .ok (.invokestatic 25, 3) := by decide +kernel
theorem dX2_copy_28 : decode cX2_copy 28 = .ok (.aload_n 1, 1) := by decide +kernel
theorem dX2_copy_29 : decode cX2_copy 29 = .ok (.getfield 18, 3) := by decide +kernel
theorem dX2_copy_32 : decode cX2_copy 32 = .ok (.iconst 0, 1) := by decide +kernel
theorem dX2_copy_33 : decode cX2_copy 33 = .ok (.aload_n 0, 1) := by decide +kernel
theorem dX2_copy_34 : decode cX2_copy 34 = .ok (.getfield 18, 3) := by decide +kernel
theorem dX2_copy_37 : decode cX2_copy 37 = .ok (.iconst 0, 1) := by decide +kernel
theorem dX2_copy_38 : decode cX2_copy 38 = .ok (.bipush 12, 2) := by decide +kernel
theorem dX2_copy_40 : decode cX2_copy 40 = .ok (.invokestatic 25, 3) := by decide +kernel
theorem dX2_copy_43 : decode cX2_copy 43 = .ok (.aload_n 0, 1) := by decide +kernel
theorem dX2_copy_44 : decode cX2_copy 44 = .ok (.aload_n 1, 1) := by decide +kernel
theorem dX2_copy_45 : decode cX2_copy 45 = .ok (.getfield 31, 3) := by decide +kernel
theorem dX2_copy_48 : decode cX2_copy 48 = .ok (.putfield 31, 3) := by decide +kernel
theorem dX2_copy_51 : decode cX2_copy 51 = .ok (.aload_n 0, 1) := by decide +kernel
theorem dX2_copy_52 : decode cX2_copy 52 = .ok (.aload_n 1, 1) := by decide +kernel
theorem dX2_copy_53 : decode cX2_copy 53 = .ok (.getfield 34, 3) := by decide +kernel
theorem dX2_copy_56 : decode cX2_copy 56 = .ok (.putfield 34, 3) := by decide +kernel
theorem dX2_copy_59 : decode cX2_copy 59 = .ok (.aload_n 0, 1) := by decide +kernel
theorem dX2_copy_60 : decode cX2_copy 60 = .ok (.aload_n 1, 1) := by decide +kernel
theorem dX2_copy_61 : decode cX2_copy 61 = .ok (.getfield 37, 3) := by decide +kernel
theorem dX2_copy_64 : decode cX2_copy 64 = .ok (.putfield 37, 3) := by decide +kernel
theorem dX2_copy_67 : decode cX2_copy 67 = .ok (.aload_n 0, 1) := by decide +kernel
theorem dX2_copy_68 : decode cX2_copy 68 = .ok (.aload_n 1, 1) := by decide +kernel
theorem dX2_copy_69 : decode cX2_copy 69 = .ok (.getfield 21, 3) := by decide +kernel
theorem dX2_copy_72 : decode cX2_copy 72 = .ok (.putfield 21, 3) := by decide +kernel
theorem dX2_copy_75 : decode cX2_copy 75 = .ok (.aload_n 0, 1) := by decide +kernel
theorem dX2_copy_76 : decode cX2_copy 76 = .ok (.aload_n 1, 1) := by decide +kernel
theorem dX2_copy_77 : decode cX2_copy 77 = .ok (.getfield 40, 3) := by decide +kernel
theorem dX2_copy_80 : decode cX2_copy 80 = .ok (.putfield 40, 3) := by decide +kernel
theorem dX2_copy_83 : decode cX2_copy 83 = .ok (.return_, 1) := by decide +kernel
theorem dX2_lose_0 : decode cX2_lose 0 = .ok (.iload_n 1, 1) := by decide +kernel
theorem dX2_lose_1 : decode cX2_lose 1 = .ok (.iconst 0, 1) := by decide +kernel
theorem dX2_lose_2 : decode cX2_lose 2 = .ok (.aload_n 0, 1) := by decide +kernel
theorem dX2_lose_3 : decode cX2_lose 3 = .ok (.getfield 9, 3) := by decide +kernel
theorem dX2_lose_6 : decode cX2_lose 6 = .ok (.arraylength, 1) := by decide +kernel
theorem dX2_lose_7 : decode cX2_lose 7 = .ok (.iconst 1, 1) := by decide +kernel
theorem dX2_lose_8 : decode cX2_lose 8 = .ok (.isub, 1) := by decide +kernel
theorem dX2_lose_9 : decode cX2_lose 9 = .ok (.invokestatic 43, 3) := by decide +kernel
theorem dX2_lose_12 : decode cX2_lose 12 = .ok (.ifCond .ne 5, 3) := by decide +kernel
theorem dX2_lose_15 : decode cX2_lose 15 = .ok (.iconst 0, 1) := by decide +kernel
theorem dX2_lose_16 : decode cX2_lose 16 = .ok (.ireturn, 1) := by decide +kernel
theorem dX2_lose_17 : decode cX2_lose 17 = .ok (.aload_n 0, 1) := by decide +kernel
theorem dX2_lose_18 : decode cX2_lose 18 = .ok (.getfield 9, 3) := by decide +kernel
theorem dX2_lose_21 : decode cX2_lose 21 = .ok (.iload_n 1, 1) := by decide +kernel
theorem dX2_lose_22 : decode cX2_lose 22 = .ok (.iaload, 1) := by decide +kernel
theorem dX2_lose_23 : decode cX2_lose 23 = .ok (.iload_n 2, 1) := by decide +kernel
theorem dX2_lose_24 : decode cX2_lose 24 = .ok (.invokestatic 47, 3) := by decide +kernel
theorem dX2_lose_27 : decode cX2_lose 27 = .ok (.istore_n 3, 1) := by decide +kernel
theorem dX2_lose_28 : decode cX2_lose 28 = .ok (.aload_n 0, 1) := by decide +kernel
theorem dX2_lose_29 : decode cX2_lose 29 = .ok (.getfield 9, 3) := by decide +kernel
theorem dX2_lose_32 : decode cX2_lose 32 = .ok (.iload_n 1, 1) := by decide +kernel
theorem dX2_lose_33 : decode cX2_lose 33 = .ok (.dup2, 1) := by decide +kernel
theorem dX2_lose_34 : decode cX2_lose 34 = .ok (.iaload, 1) := by decide +kernel
theorem dX2_lose_35 : decode cX2_lose 35 = .ok (.iload_n 3, 1) := by decide +kernel
theorem dX2_lose_36 : decode cX2_lose 36 = .ok (.isub, 1) := by decide +kernel
theorem dX2_lose_37 : decode cX2_lose 37 = .ok (.iastore, 1) := by decide +kernel
theorem dX2_lose_38 : decode cX2_lose 38 = .ok (.iload_n 3, 1) := by decide +kernel
theorem dX2_lose_39 : decode cX2_lose 39 = .ok (.ireturn, 1) := by decide +kernel
theorem dX2_floorGets_0 : decode cX2_floorGets 0 = .ok (.aload_n 0, 1) := by decide +kernel
theorem dX2_floorGets_1 : decode cX2_floorGets 1 = .ok (.ldc 53, 2) := by decide +kernel
theorem dX2_floorGets_3 : decode cX2_floorGets 3 = .ok (.aload_n 0, 1) := by decide +kernel
theorem dX2_floorGets_4 : decode cX2_floorGets 4 = .ok (.getfield 34, 3) := by decide +kernel
theorem dX2_floorGets_7 : decode cX2_floorGets 7 = .ok (.iload_n 1, 1) := by decide +kernel
theorem dX2_floorGets_8 : decode cX2_floorGets 8 = .ok (.iadd, 1) := by decide +kernel
theorem dX2_floorGets_9 : decode cX2_floorGets 9 = .ok (.invokestatic 47, 3) := by decide +kernel
theorem dX2_floorGets_12 : decode cX2_floorGets 12 = .ok (.putfield 34, 3) := by decide +kernel
theorem dX2_floorGets_15 : decode cX2_floorGets 15 = .ok (.return_, 1) := by decide +kernel
theorem dX2_end_0 : decode cX2_end 0 = .ok (.iload_n 1, 1) := by decide +kernel
theorem dX2_end_1 : decode cX2_end 1 = .ok (.iconst 0, 1) := by decide +kernel
theorem dX2_end_2 : decode cX2_end 2 = .ok (.aload_n 0, 1) := by decide +kernel
theorem dX2_end_3 : decode cX2_end 3 = .ok (.getfield 18, 3) := by decide +kernel
theorem dX2_end_6 : decode cX2_end 6 = .ok (.arraylength, 1) := by decide +kernel
theorem dX2_end_7 : decode cX2_end 7 = .ok (.iconst 1, 1) := by decide +kernel
theorem dX2_end_8 : decode cX2_end 8 = .ok (.isub, 1) := by decide +kernel
theorem dX2_end_9 : decode cX2_end 9 = .ok (.invokestatic 43, 3) := by decide +kernel
theorem dX2_end_12 : decode cX2_end 12 = .ok (.ifCond .eq 10, 3) := by decide +kernel
theorem dX2_end_15 : decode cX2_end 15 = .ok (.aload_n 0, 1) := by decide +kernel
theorem dX2_end_16 : decode cX2_end 16 = .ok (.getfield 18, 3) := by decide +kernel
theorem dX2_end_19 : decode cX2_end 19 = .ok (.iload_n 1, 1) := by decide +kernel
theorem dX2_end_20 : decode cX2_end 20 = .ok (.iload_n 2, 1) := by decide +kernel
theorem dX2_end_21 : decode cX2_end 21 = .ok (.iastore, 1) := by decide +kernel
theorem dX2_end_22 : decode cX2_end 22 = .ok (.aload_n 0, 1) := by decide +kernel
theorem dX2_end_23 : decode cX2_end 23 = .ok (.iconst (-1), 1) := by decide +kernel
theorem dX2_end_24 : decode cX2_end 24 = .ok (.putfield 21, 3) := by decide +kernel
theorem dX2_end_27 : decode cX2_end 27 = .ok (.aload_n 0, 1) := by decide +kernel
theorem dX2_end_28 : decode cX2_end 28 = .ok (.iconst 0, 1) := by decide +kernel
theorem dX2_end_29 : decode cX2_end 29 = .ok (.putfield 40, 3) := by decide +kernel
theorem dX2_end_32 : decode cX2_end 32 = .ok (.return_, 1) := by decide +kernel
theorem dX3_init_0 : decode cX3_init 0 = .ok (.aload_n 0, 1) := by decide +kernel
theorem dX3_init_1 : decode cX3_init 1 = .ok (.invokespecial 3, 3) := by decide +kernel
theorem dX3_init_4 : decode cX3_init 4 = .ok (.aload_n 0, 1) := by decide +kernel
theorem dX3_init_5 : decode cX3_init 5 = .ok (.iconst 4, 1) := by decide +kernel
theorem dX3_init_6 : decode cX3_init 6 = .ok (.newarray .int, 2) := by decide +kernel
theorem dX3_init_8 : decode cX3_init 8 = .ok (.putfield 9, 3) := by decide +kernel
theorem dX3_init_11 : decode cX3_init 11 = .ok (.aload_n 0, 1) := by decide +kernel
theorem dX3_init_12 : decode cX3_init 12 = .ok (.bipush 16, 2) := by decide +kernel
theorem dX3_init_14 : decode cX3_init 14 = .ok (.newarray .int, 2) := by decide +kernel
theorem dX3_init_16 : decode cX3_init 16 = .ok (.putfield 15, 3) := by decide +kernel
theorem dX3_init_19 : decode cX3_init 19 = .ok (.return_, 1) := by decide +kernel
theorem dX3_weigh_0 : decode cX3_weigh 0 = .ok (.aload_n 1, 1) := by decide +kernel
theorem dX3_weigh_1 : decode cX3_weigh 1 = .ok (.getfield 18, 3) := by decide +kernel
theorem dX3_weigh_4 : decode cX3_weigh 4 = .ok (.iconst 4, 1) := by decide +kernel
theorem dX3_weigh_5 : decode cX3_weigh 5 = .ok (.invokestatic 24, 3) := by decide +kernel
theorem dX3_weigh_8 : decode cX3_weigh 8 = .ok (.istore_n 3, 1) := by decide +kernel
theorem dX3_weigh_9 : decode cX3_weigh 9 = .ok (.aload_n 0, 1) := by decide +kernel
theorem dX3_weigh_10 : decode cX3_weigh 10 = .ok (.iconst 1, 1) := by decide +kernel
theorem dX3_weigh_11 : decode cX3_weigh 11 = .ok (.iload_n 3, 1) := by decide +kernel
theorem dX3_weigh_12 : decode cX3_weigh 12 = .ok (.ishl, 1) := by decide +kernel
theorem dX3_weigh_13 : decode cX3_weigh 13 = .ok (.putfield 30, 3) := by decide +kernel
theorem dX3_weigh_16 : decode cX3_weigh 16 = .ok (.aload_n 0, 1) := by decide +kernel
theorem dX3_weigh_17 : decode cX3_weigh 17 = .ok (.getfield 15, 3) := by decide +kernel
theorem dX3_weigh_20 : decode cX3_weigh 20 = .ok (.iconst 0, 1) := by decide +kernel
theorem dX3_weigh_21 : decode cX3_weigh 21 = .ok (.iconst 0, 1) := by decide +kernel
theorem dX3_weigh_22 : decode cX3_weigh 22 = .ok (.iastore, 1) := by decide +kernel
theorem dX3_weigh_23 : decode cX3_weigh 23 = .ok (.iconst 1, 1) := by decide +kernel
theorem dX3_weigh_24 : decode cX3_weigh 24 = .ok (.istore 4, 2) := by decide +kernel
theorem dX3_weigh_26 : decode cX3_weigh 26 = .ok (.iload 4, 2) := by decide +kernel
theorem dX3_weigh_28 : decode cX3_weigh 28 = .ok (.aload_n 0, 1) := by decide +kernel
theorem dX3_weigh_29 : decode cX3_weigh 29 = .ok (.getfield 30, 3) := by decide +kernel
theorem dX3_weigh_32 : decode cX3_weigh 32 = .ok (.if_icmp .ge 37, 3) := by decide +kernel
theorem dX3_weigh_35 : decode cX3_weigh 35 = .ok (.iload 4, 2) := by decide +kernel
theorem dX3_weigh_37 : decode cX3_weigh 37 = .ok (.aload_n 0, 1) := by decide +kernel
theorem dX3_weigh_38 : decode cX3_weigh 38 = .ok (.getfield 15, 3) := by decide +kernel
theorem dX3_weigh_41 : decode cX3_weigh 41 = .ok (.arraylength, 1) := by decide +kernel
theorem dX3_weigh_42 : decode cX3_weigh 42 = .ok (.if_icmp .ge 27, 3) := by decide +kernel
theorem dX3_weigh_45 : decode cX3_weigh 45 = .ok (.aload_n 2, 1) := by decide +kernel
theorem dX3_weigh_46 : decode cX3_weigh 46 = .ok (.aload_n 1, 1) := by decide +kernel
theorem dX3_weigh_47 : decode cX3_weigh 47 = .ok (.iload 4, 2) := by decide +kernel
theorem dX3_weigh_49 : decode cX3_weigh 49 = .ok (.invokevirtual 33, 3) := by decide +kernel
theorem dX3_weigh_52 : decode cX3_weigh 52 = .ok (.aload_n 0, 1) := by decide +kernel
theorem dX3_weigh_53 : decode cX3_weigh 53 = .ok (.getfield 15, 3) := by decide +kernel
theorem dX3_weigh_56 : decode cX3_weigh 56 = .ok (.iload 4, 2) := by decide +kernel
theorem dX3_weigh_58 : decode cX3_weigh 58 = .ok (.aload_n 2, 1) := by decide +kernel
theorem dX3_weigh_59 : decode cX3_weigh 59 = .ok (.getfield 39, 3) := by decide +kernel
theorem dX3_weigh_62 : decode cX3_weigh 62 = .ok (.iastore, 1) := by decide +kernel
theorem dX3_weigh_63 : decode cX3_weigh 63 = .ok (.iinc 4 1, 3) := by decide +kernel
theorem dX3_weigh_66 : decode cX3_weigh 66 = .ok (.goto (-40), 3) := by decide +kernel
theorem dX3_weigh_69 : decode cX3_weigh 69 = .ok (.aload_n 0, 1) := by decide +kernel
theorem dX3_weigh_70 : decode cX3_weigh 70 = .ok (.iload_n 3, 1) := by decide +kernel
theorem dX3_weigh_71 : decode cX3_weigh 71 = .ok (.invokestatic 42, 3) := by decide +kernel
theorem dX3_weigh_74 : decode cX3_weigh 74 = .ok (.putfield 46, 3) := by decide +kernel
theorem dX3_weigh_77 : decode cX3_weigh 77 = .ok (.iconst 0, 1) := by decide +kernel
theorem dX3_weigh_78 : decode cX3_weigh 78 = .ok (.istore 4, 2) := by decide +kernel
theorem dX3_weigh_80 : decode cX3_weigh 80 = .ok (.iload 4, 2) := by decide +kernel
theorem dX3_weigh_82 : decode cX3_weigh 82 = .ok (.iload_n 3, 1) := by decide +kernel
theorem dX3_weigh_83 : decode cX3_weigh 83 = .ok (.if_icmp .ge 23, 3) := by decide +kernel
theorem dX3_weigh_86 : decode cX3_weigh 86 = .ok (.aload_n 0, 1) := by decide +kernel
theorem dX3_weigh_87 : decode cX3_weigh 87 = .ok (.getfield 9, 3) := by decide +kernel
theorem dX3_weigh_90 : decode cX3_weigh 90 = .ok (.iload 4, 2) := by decide +kernel
theorem dX3_weigh_92 : decode cX3_weigh 92 = .ok (.aload_n 0, 1) := by decide +kernel
theorem dX3_weigh_93 : decode cX3_weigh 93 = .ok (.iload 4, 2) := by decide +kernel
theorem dX3_weigh_95 : decode cX3_weigh 95 = .ok (.iload_n 3, 1) := by decide +kernel
theorem dX3_weigh_96 : decode cX3_weigh 96 = .ok (.invokevirtual 49, 3) := by decide +kernel
theorem dX3_weigh_99 : decode cX3_weigh 99 = .ok (.iastore, 1) := by decide +kernel
theorem dX3_weigh_100 : decode cX3_weigh 100 = .ok (.iinc 4 1, 3) := by decide +kernel
theorem dX3_weigh_103 : decode cX3_weigh 103 = .ok (.goto (-23), 3) := by decide +kernel
theorem dX3_weigh_106 : decode cX3_weigh 106 = .ok (.return_, 1) := by decide +kernel
theorem dX3_gainOf_0 : decode cX3_gainOf 0 = .ok (.iconst 1, 1) := by decide +kernel
theorem dX3_gainOf_1 : decode cX3_gainOf 1 = .ok (.iload_n 1, 1) := by decide +kernel
theorem dX3_gainOf_2 : decode cX3_gainOf 2 = .ok (.ishl, 1) := by decide +kernel
theorem dX3_gainOf_3 : decode cX3_gainOf 3 = .ok (.istore_n 3, 1) := by decide +kernel
theorem dX3_gainOf_4 : decode cX3_gainOf 4 = .ok (.iconst 0, 1) := by decide +kernel
theorem dX3_gainOf_5 : decode cX3_gainOf 5 = .ok (.istore 4, 2) := by decide +kernel
theorem dX3_gainOf_7 : decode cX3_gainOf 7 = .ok (.iconst 0, 1) := by decide +kernel
theorem dX3_gainOf_8 : decode cX3_gainOf 8 = .ok (.istore 5, 2) := by decide +kernel
theorem dX3_gainOf_10 : decode cX3_gainOf 10 = .ok (.iload 5, 2) := by decide +kernel
theorem dX3_gainOf_12 : decode cX3_gainOf 12 = .ok (.aload_n 0, 1) := by decide +kernel
theorem dX3_gainOf_13 : decode cX3_gainOf 13 = .ok (.getfield 30, 3) := by decide +kernel
theorem dX3_gainOf_16 : decode cX3_gainOf 16 = .ok (.if_icmp .ge 77, 3) := by decide +kernel
theorem dX3_gainOf_19 : decode cX3_gainOf 19 = .ok (.iload 5, 2) := by decide +kernel
theorem dX3_gainOf_21 : decode cX3_gainOf 21 = .ok (.aload_n 0, 1) := by decide +kernel
theorem dX3_gainOf_22 : decode cX3_gainOf 22 = .ok (.getfield 15, 3) := by decide +kernel
theorem dX3_gainOf_25 : decode cX3_gainOf 25 = .ok (.arraylength, 1) := by decide +kernel
theorem dX3_gainOf_26 : decode cX3_gainOf 26 = .ok (.if_icmp .ge 67, 3) := by decide +kernel
theorem dX3_gainOf_29 : decode cX3_gainOf 29 = .ok (.iload 5, 2) := by decide +kernel
theorem dX3_gainOf_31 : decode cX3_gainOf 31 = .ok (.iload_n 3, 1) := by decide +kernel
theorem dX3_gainOf_32 : decode cX3_gainOf 32 = .ok (.iand, 1) := by decide +kernel
theorem dX3_gainOf_33 : decode cX3_gainOf 33 = .ok (.ifCond .eq 54, 3) := by decide +kernel
theorem dX3_gainOf_36 : decode cX3_gainOf 36 = .ok (.iload 5, 2) := by decide +kernel
theorem dX3_gainOf_38 : decode cX3_gainOf 38 = .ok (.invokestatic 52, 3) := by decide +kernel
theorem dX3_gainOf_41 : decode cX3_gainOf 41 = .ok (.iconst 1, 1) := by decide +kernel
theorem dX3_gainOf_42 : decode cX3_gainOf 42 = .ok (.isub, 1) := by decide +kernel
theorem dX3_gainOf_43 : decode cX3_gainOf 43 = .ok (.istore 6, 2) := by decide +kernel
theorem dX3_gainOf_45 : decode cX3_gainOf 45 = .ok (.iload 6, 2) := by decide +kernel
theorem dX3_gainOf_47 : decode cX3_gainOf 47 = .ok (.invokestatic 42, 3) := by decide +kernel
theorem dX3_gainOf_50 : decode cX3_gainOf 50 = .ok (.iload_n 2, 1) := by decide +kernel
theorem dX3_gainOf_51 : decode cX3_gainOf 51 = .ok (.iconst 1, 1) := by decide +kernel
theorem dX3_gainOf_52 : decode cX3_gainOf 52 = .ok (.isub, 1) := by decide +kernel
theorem dX3_gainOf_53 : decode cX3_gainOf 53 = .ok (.iload 6, 2) := by decide +kernel
theorem dX3_gainOf_55 : decode cX3_gainOf 55 = .ok (.isub, 1) := by decide +kernel
theorem dX3_gainOf_56 : decode cX3_gainOf 56 = .ok (.invokestatic 42, 3) := by decide +kernel
theorem dX3_gainOf_59 : decode cX3_gainOf 59 = .ok (.imul, 1) := by decide +kernel
theorem dX3_gainOf_60 : decode cX3_gainOf 60 = .ok (.istore 7, 2) := by decide +kernel
theorem dX3_gainOf_62 : decode cX3_gainOf 62 = .ok (.iload 4, 2) := by decide +kernel
theorem dX3_gainOf_64 : decode cX3_gainOf 64 = .ok (.iload 7, 2) := by decide +kernel
theorem dX3_gainOf_66 : decode cX3_gainOf 66 = .ok (.aload_n 0, 1) := by decide +kernel
theorem dX3_gainOf_67 : decode cX3_gainOf 67 = .ok (.getfield 15, 3) := by decide +kernel
theorem dX3_gainOf_70 : decode cX3_gainOf 70 = .ok (.iload 5, 2) := by decide +kernel
theorem dX3_gainOf_72 : decode cX3_gainOf 72 = .ok (.iaload, 1) := by decide +kernel
theorem dX3_gainOf_73 : decode cX3_gainOf 73 = .ok (.aload_n 0, 1) := by decide +kernel
theorem dX3_gainOf_74 : decode cX3_gainOf 74 = .ok (.getfield 15, 3) := by decide +kernel
theorem dX3_gainOf_77 : decode cX3_gainOf 77 = .ok (.iload 5, 2) := by decide +kernel
theorem dX3_gainOf_79 : decode cX3_gainOf 79 = .ok (.iload_n 3, 1) := by decide +kernel
theorem dX3_gainOf_80 : decode cX3_gainOf 80 = .ok (.ixor, 1) := by decide +kernel
theorem dX3_gainOf_81 : decode cX3_gainOf 81 = .ok (.iaload, 1) := by decide +kernel
theorem dX3_gainOf_82 : decode cX3_gainOf 82 = .ok (.isub, 1) := by decide +kernel
theorem dX3_gainOf_83 : decode cX3_gainOf 83 = .ok (.imul, 1) := by decide +kernel
theorem dX3_gainOf_84 : decode cX3_gainOf 84 = .ok (.iadd, 1) := by decide +kernel
theorem dX3_gainOf_85 : decode cX3_gainOf 85 = .ok (.istore 4, 2) := by decide +kernel
theorem dX3_gainOf_87 : decode cX3_gainOf 87 = .ok (.iinc 5 1, 3) := by decide +kernel
theorem dX3_gainOf_90 : decode cX3_gainOf 90 = .ok (.goto (-80), 3) := by decide +kernel
theorem dX3_gainOf_93 : decode cX3_gainOf 93 = .ok (.iload 4, 2) := by decide +kernel
theorem dX3_gainOf_95 : decode cX3_gainOf 95 = .ok (.ireturn, 1) := by decide +kernel
theorem dX3_leastLeaving_0 : decode cX3_leastLeaving 0 = .ok (.iconst 1, 1) := by decide +kernel
theorem dX3_leastLeaving_1 : decode cX3_leastLeaving 1 = .ok (.istore_n 1, 1) := by decide +kernel
theorem dX3_leastLeaving_2 : decode cX3_leastLeaving 2 = .ok (.iload_n 1, 1) := by decide +kernel
theorem dX3_leastLeaving_3 : decode cX3_leastLeaving 3 = .ok (.aload_n 0, 1) := by decide +kernel
theorem dX3_leastLeaving_4 : decode cX3_leastLeaving 4 = .ok (.getfield 30, 3) := by decide +kernel
theorem dX3_leastLeaving_7 : decode cX3_leastLeaving 7 = .ok (.if_icmp .ge 65, 3) := by decide +kernel
theorem dX3_leastLeaving_10 : decode cX3_leastLeaving 10 = .ok (.iload_n 1, 1) := by decide +kernel
theorem dX3_leastLeaving_11 : decode cX3_leastLeaving 11 = .ok (.aload_n 0, 1) := by decide +kernel
theorem dX3_leastLeaving_12 : decode cX3_leastLeaving 12 = .ok (.getfield 15, 3) := by decide +kernel
theorem dX3_leastLeaving_15 : decode cX3_leastLeaving 15 = .ok (.arraylength, 1) := by decide +kernel
theorem dX3_leastLeaving_16 : decode cX3_leastLeaving 16 = .ok (.if_icmp .ge 56, 3) := by decide +kernel
theorem dX3_leastLeaving_19 : decode cX3_leastLeaving 19 = .ok (.iconst 0, 1) := by decide +kernel
theorem dX3_leastLeaving_20 : decode cX3_leastLeaving 20 = .ok (.istore_n 2, 1) := by decide +kernel
theorem dX3_leastLeaving_21 : decode cX3_leastLeaving 21 = .ok (.iconst 0, 1) := by decide +kernel
theorem dX3_leastLeaving_22 : decode cX3_leastLeaving 22 = .ok (.istore_n 3, 1) := by decide +kernel
theorem dX3_leastLeaving_23 : decode cX3_leastLeaving 23 = .ok (.iload_n 3, 1) := by decide +kernel
theorem dX3_leastLeaving_24 : decode cX3_leastLeaving 24 = .ok (.iconst 4, 1) := by decide +kernel
theorem dX3_leastLeaving_25 : decode cX3_leastLeaving 25 = .ok (.if_icmp .ge 24, 3) := by decide +kernel
theorem dX3_leastLeaving_28 : decode cX3_leastLeaving 28 = .ok (.iload_n 2, 1) := by decide +kernel
theorem dX3_leastLeaving_29 : decode cX3_leastLeaving 29 = .ok (.iload_n 1, 1) := by decide +kernel
theorem dX3_leastLeaving_30 : decode cX3_leastLeaving 30 = .ok (.iload_n 3, 1) := by decide +kernel
theorem dX3_leastLeaving_31 : decode cX3_leastLeaving 31 = .ok (.ishr, 1) := by decide +kernel
theorem dX3_leastLeaving_32 : decode cX3_leastLeaving 32 = .ok (.iconst 1, 1) := by decide +kernel
theorem dX3_leastLeaving_33 : decode cX3_leastLeaving 33 = .ok (.iand, 1) := by decide +kernel
theorem dX3_leastLeaving_34 : decode cX3_leastLeaving 34 = .ok (.aload_n 0, 1) := by decide +kernel
theorem dX3_leastLeaving_35 : decode cX3_leastLeaving 35 = .ok (.getfield 9, 3) := by decide +kernel
theorem dX3_leastLeaving_38 : decode cX3_leastLeaving 38 = .ok (.iload_n 3, 1) := by decide +kernel
theorem dX3_leastLeaving_39 : decode cX3_leastLeaving 39 = .ok (.iaload, 1) := by decide +kernel
theorem dX3_leastLeaving_40 : decode cX3_leastLeaving 40 = .ok (.imul, 1) := by decide +kernel
theorem dX3_leastLeaving_41 : decode cX3_leastLeaving 41 = .ok (.iadd, 1) := by decide +kernel
theorem dX3_leastLeaving_42 : decode cX3_leastLeaving 42 = .ok (.istore_n 2, 1) := by decide +kernel
theorem dX3_leastLeaving_43 : decode cX3_leastLeaving 43 = .ok (.iinc 3 1, 3) := by decide +kernel
theorem dX3_leastLeaving_46 : decode cX3_leastLeaving 46 = .ok (.goto (-23), 3) := by decide +kernel
theorem dX3_leastLeaving_49 : decode cX3_leastLeaving 49 = .ok (.aload_n 0, 1) := by decide +kernel
theorem dX3_leastLeaving_50 : decode cX3_leastLeaving 50 = .ok (.getfield 15, 3) := by decide +kernel
theorem dX3_leastLeaving_53 : decode cX3_leastLeaving 53 = .ok (.iload_n 1, 1) := by decide +kernel
theorem dX3_leastLeaving_54 : decode cX3_leastLeaving 54 = .ok (.iaload, 1) := by decide +kernel
theorem dX3_leastLeaving_55 : decode cX3_leastLeaving 55 = .ok (.aload_n 0, 1) := by decide +kernel
theorem dX3_leastLeaving_56 : decode cX3_leastLeaving 56 = .ok (.getfield 46, 3) := by decide +kernel
theorem dX3_leastLeaving_59 : decode cX3_leastLeaving 59 = .ok (.imul, 1) := by decide +kernel
theorem dX3_leastLeaving_60 : decode cX3_leastLeaving 60 = .ok (.iload_n 2, 1) := by decide +kernel
theorem dX3_leastLeaving_61 : decode cX3_leastLeaving 61 = .ok (.if_icmp .le 5, 3) := by decide +kernel
theorem dX3_leastLeaving_64 : decode cX3_leastLeaving 64 = .ok (.iload_n 1, 1) := by decide +kernel
theorem dX3_leastLeaving_65 : decode cX3_leastLeaving 65 = .ok (.ireturn, 1) := by decide +kernel
theorem dX3_leastLeaving_66 : decode cX3_leastLeaving 66 = .ok (.iinc 1 1, 3) := by decide +kernel
theorem dX3_leastLeaving_69 : decode cX3_leastLeaving 69 = .ok (.goto (-67), 3) := by decide +kernel
theorem dX3_leastLeaving_72 : decode cX3_leastLeaving 72 = .ok (.iconst 0, 1) := by decide +kernel
theorem dX3_leastLeaving_73 : decode cX3_leastLeaving 73 = .ok (.ireturn, 1) := by decide +kernel
theorem dX3_factorial_0 : decode cX3_factorial 0 = .ok (.iconst 1, 1) := by decide +kernel
theorem dX3_factorial_1 : decode cX3_factorial 1 = .ok (.istore_n 1, 1) := by decide +kernel
theorem dX3_factorial_2 : decode cX3_factorial 2 = .ok (.iconst 2, 1) := by decide +kernel
theorem dX3_factorial_3 : decode cX3_factorial 3 = .ok (.istore_n 2, 1) := by decide +kernel
theorem dX3_factorial_4 : decode cX3_factorial 4 = .ok (.iload_n 2, 1) := by decide +kernel
theorem dX3_factorial_5 : decode cX3_factorial 5 = .ok (.iload_n 0, 1) := by decide +kernel
theorem dX3_factorial_6 : decode cX3_factorial 6 = .ok (.if_icmp .gt 13, 3) := by decide +kernel
theorem dX3_factorial_9 : decode cX3_factorial 9 = .ok (.iload_n 1, 1) := by decide +kernel
theorem dX3_factorial_10 : decode cX3_factorial 10 = .ok (.iload_n 2, 1) := by decide +kernel
theorem dX3_factorial_11 : decode cX3_factorial 11 = .ok (.imul, 1) := by decide +kernel
theorem dX3_factorial_12 : decode cX3_factorial 12 = .ok (.istore_n 1, 1) := by decide +kernel
theorem dX3_factorial_13 : decode cX3_factorial 13 = .ok (.iinc 2 1, 3) := by decide +kernel
theorem dX3_factorial_16 : decode cX3_factorial 16 = .ok (.goto (-12), 3) := by decide +kernel
theorem dX3_factorial_19 : decode cX3_factorial 19 = .ok (.iload_n 1, 1) := by decide +kernel
theorem dX3_factorial_20 : decode cX3_factorial 20 = .ok (.ireturn, 1) := by decide +kernel
theorem dX4_above_0 : decode cX4_above 0 = .ok (.iload_n 0, 1) := by decide +kernel
theorem dX4_above_1 : decode cX4_above 1 = .ok (.tableswitch 47 1 6 #[39, 39, 39, 41, 43, 45], 39) := by decide +kernel
theorem dX4_above_40 : decode cX4_above 40 = .ok (.iconst 0, 1) := by decide +kernel
theorem dX4_above_41 : decode cX4_above 41 = .ok (.ireturn, 1) := by decide +kernel
theorem dX4_above_42 : decode cX4_above 42 = .ok (.iconst 1, 1) := by decide +kernel
theorem dX4_above_43 : decode cX4_above 43 = .ok (.ireturn, 1) := by decide +kernel
theorem dX4_above_44 : decode cX4_above 44 = .ok (.iconst 2, 1) := by decide +kernel
theorem dX4_above_45 : decode cX4_above 45 = .ok (.ireturn, 1) := by decide +kernel
theorem dX4_above_46 : decode cX4_above 46 = .ok (.iconst 3, 1) := by decide +kernel
theorem dX4_above_47 : decode cX4_above 47 = .ok (.ireturn, 1) := by decide +kernel
theorem dX4_above_48 : decode cX4_above 48 = .ok (.iconst (-1), 1) := by decide +kernel
theorem dX4_above_49 : decode cX4_above 49 = .ok (.ireturn, 1) := by decide +kernel
theorem dX4_isUnder_0 : decode cX4_isUnder 0 = .ok (.iload_n 0, 1) := by decide +kernel
theorem dX4_isUnder_1 : decode cX4_isUnder 1 = .ok (.istore_n 2, 1) := by decide +kernel
theorem dX4_isUnder_2 : decode cX4_isUnder 2 = .ok (.iconst 0, 1) := by decide +kernel
theorem dX4_isUnder_3 : decode cX4_isUnder 3 = .ok (.istore_n 3, 1) := by decide +kernel
theorem dX4_isUnder_4 : decode cX4_isUnder 4 = .ok (.iload_n 3, 1) := by decide +kernel
theorem dX4_isUnder_5 : decode cX4_isUnder 5 = .ok (.bipush 6, 2) := by decide +kernel
theorem dX4_isUnder_7 : decode cX4_isUnder 7 = .ok (.if_icmp .gt 26, 3) := by decide +kernel
theorem dX4_isUnder_10 : decode cX4_isUnder 10 = .ok (.iload_n 2, 1) := by decide +kernel
theorem dX4_isUnder_11 : decode cX4_isUnder 11 = .ok (.iconst (-1), 1) := by decide +kernel
theorem dX4_isUnder_12 : decode cX4_isUnder 12 = .ok (.if_icmp .eq 21, 3) := by decide +kernel
theorem dX4_isUnder_15 : decode cX4_isUnder 15 = .ok (.iload_n 2, 1) := by decide +kernel
theorem dX4_isUnder_16 : decode cX4_isUnder 16 = .ok (.iload_n 1, 1) := by decide +kernel
theorem dX4_isUnder_17 : decode cX4_isUnder 17 = .ok (.if_icmp .ne 5, 3) := by decide +kernel
theorem dX4_isUnder_20 : decode cX4_isUnder 20 = .ok (.iconst 1, 1) := by decide +kernel
theorem dX4_isUnder_21 : decode cX4_isUnder 21 = .ok (.ireturn, 1) := by decide +kernel
theorem dX4_isUnder_22 : decode cX4_isUnder 22 = .ok (.iload_n 2, 1) := by decide +kernel
theorem dX4_isUnder_23 : decode cX4_isUnder 23 = .ok (.invokestatic 11, 3) := by decide +kernel
theorem dX4_isUnder_26 : decode cX4_isUnder 26 = .ok (.istore_n 2, 1) := by decide +kernel
theorem dX4_isUnder_27 : decode cX4_isUnder 27 = .ok (.iinc 3 1, 3) := by decide +kernel
theorem dX4_isUnder_30 : decode cX4_isUnder 30 = .ok (.goto (-26), 3) := by decide +kernel
theorem dX4_isUnder_33 : decode cX4_isUnder 33 = .ok (.iconst 0, 1) := by decide +kernel
theorem dX4_isUnder_34 : decode cX4_isUnder 34 = .ok (.ireturn, 1) := by decide +kernel
theorem dX4_runs_0 : decode cX4_runs 0 = .ok (.iconst 5, 1) := by decide +kernel
theorem dX4_runs_1 : decode cX4_runs 1 = .ok (.iload_n 1, 1) := by decide +kernel
theorem dX4_runs_2 : decode cX4_runs 2 = .ok (.iconst 2, 1) := by decide +kernel
theorem dX4_runs_3 : decode cX4_runs 3 = .ok (.idiv, 1) := by decide +kernel
theorem dX4_runs_4 : decode cX4_runs 4 = .ok (.isub, 1) := by decide +kernel
theorem dX4_runs_5 : decode cX4_runs 5 = .ok (.invokestatic 15, 3) := by decide +kernel
theorem dX4_runs_8 : decode cX4_runs 8 = .ok (.istore_n 2, 1) := by decide +kernel
theorem dX4_runs_9 : decode cX4_runs 9 = .ok (.iload_n 0, 1) := by decide +kernel
theorem dX4_runs_10 : decode cX4_runs 10 = .ok (.tableswitch 63 1 6 #[38, 42, 44, 46, 52, 59], 38) := by decide +kernel
theorem dX4_runs_48 : decode cX4_runs 48 = .ok (.iconst 5, 1) := by decide +kernel
theorem dX4_runs_49 : decode cX4_runs 49 = .ok (.iload_n 1, 1) := by decide +kernel
theorem dX4_runs_50 : decode cX4_runs 50 = .ok (.iadd, 1) := by decide +kernel
theorem dX4_runs_51 : decode cX4_runs 51 = .ok (.ireturn, 1) := by decide +kernel
theorem dX4_runs_52 : decode cX4_runs 52 = .ok (.iload_n 2, 1) := by decide +kernel
theorem dX4_runs_53 : decode cX4_runs 53 = .ok (.ireturn, 1) := by decide +kernel
theorem dX4_runs_54 : decode cX4_runs 54 = .ok (.iconst 1, 1) := by decide +kernel
theorem dX4_runs_55 : decode cX4_runs 55 = .ok (.ireturn, 1) := by decide +kernel
theorem dX4_runs_56 : decode cX4_runs 56 = .ok (.iconst 2, 1) := by decide +kernel
theorem dX4_runs_57 : decode cX4_runs 57 = .ok (.iconst 5, 1) := by decide +kernel
theorem dX4_runs_58 : decode cX4_runs 58 = .ok (.iload_n 1, 1) := by decide +kernel
theorem dX4_runs_59 : decode cX4_runs 59 = .ok (.iadd, 1) := by decide +kernel
theorem dX4_runs_60 : decode cX4_runs 60 = .ok (.imul, 1) := by decide +kernel
theorem dX4_runs_61 : decode cX4_runs 61 = .ok (.ireturn, 1) := by decide +kernel
theorem dX4_runs_62 : decode cX4_runs 62 = .ok (.iload_n 2, 1) := by decide +kernel
theorem dX4_runs_63 : decode cX4_runs 63 = .ok (.iconst 2, 1) := by decide +kernel
theorem dX4_runs_64 : decode cX4_runs 64 = .ok (.idiv, 1) := by decide +kernel
theorem dX4_runs_65 : decode cX4_runs 65 = .ok (.invokestatic 15, 3) := by decide +kernel
theorem dX4_runs_68 : decode cX4_runs 68 = .ok (.ireturn, 1) := by decide +kernel
theorem dX4_runs_69 : decode cX4_runs 69 = .ok (.iconst 1, 1) := by decide +kernel
theorem dX4_runs_70 : decode cX4_runs 70 = .ok (.iload_n 1, 1) := by decide +kernel
theorem dX4_runs_71 : decode cX4_runs 71 = .ok (.iadd, 1) := by decide +kernel
theorem dX4_runs_72 : decode cX4_runs 72 = .ok (.ireturn, 1) := by decide +kernel
theorem dX4_runs_73 : decode cX4_runs 73 = .ok (.iconst 5, 1) := by decide +kernel
theorem dX4_runs_74 : decode cX4_runs 74 = .ok (.ireturn, 1) := by decide +kernel
theorem dX4_atLeastOne_0 : decode cX4_atLeastOne 0 = .ok (.iload_n 0, 1) := by decide +kernel
theorem dX4_atLeastOne_1 : decode cX4_atLeastOne 1 = .ok (.iconst 1, 1) := by decide +kernel
theorem dX4_atLeastOne_2 : decode cX4_atLeastOne 2 = .ok (.if_icmp .ge 7, 3) := by decide +kernel
theorem dX4_atLeastOne_5 : decode cX4_atLeastOne 5 = .ok (.iconst 1, 1) := by decide +kernel
theorem dX4_atLeastOne_6 : decode cX4_atLeastOne 6 = .ok (.goto 4, 3) := by decide +kernel
theorem dX4_atLeastOne_9 : decode cX4_atLeastOne 9 = .ok (.iload_n 0, 1) := by decide +kernel
theorem dX4_atLeastOne_10 : decode cX4_atLeastOne 10 = .ok (.ireturn, 1) := by decide +kernel
theorem dX4_drips_0 : decode cX4_drips 0 = .ok (.iload_n 0, 1) := by decide +kernel
theorem dX4_drips_1 : decode cX4_drips 1 = .ok (.tableswitch 51 1 6 #[39, 51, 49, 43, 51, 49], 39) := by decide +kernel
theorem dX4_drips_40 : decode cX4_drips 40 = .ok (.iload_n 1, 1) := by decide +kernel
theorem dX4_drips_41 : decode cX4_drips 41 = .ok (.iconst 2, 1) := by decide +kernel
theorem dX4_drips_42 : decode cX4_drips 42 = .ok (.idiv, 1) := by decide +kernel
theorem dX4_drips_43 : decode cX4_drips 43 = .ok (.ireturn, 1) := by decide +kernel
theorem dX4_drips_44 : decode cX4_drips 44 = .ok (.iload_n 1, 1) := by decide +kernel
theorem dX4_drips_45 : decode cX4_drips 45 = .ok (.iconst 2, 1) := by decide +kernel
theorem dX4_drips_46 : decode cX4_drips 46 = .ok (.idiv, 1) := by decide +kernel
theorem dX4_drips_47 : decode cX4_drips 47 = .ok (.iconst 1, 1) := by decide +kernel
theorem dX4_drips_48 : decode cX4_drips 48 = .ok (.iadd, 1) := by decide +kernel
theorem dX4_drips_49 : decode cX4_drips 49 = .ok (.ireturn, 1) := by decide +kernel
theorem dX4_drips_50 : decode cX4_drips 50 = .ok (.iconst 1, 1) := by decide +kernel
theorem dX4_drips_51 : decode cX4_drips 51 = .ok (.ireturn, 1) := by decide +kernel
theorem dX4_drips_52 : decode cX4_drips 52 = .ok (.iconst 0, 1) := by decide +kernel
theorem dX4_drips_53 : decode cX4_drips 53 = .ok (.ireturn, 1) := by decide +kernel
theorem dX5_init_0 : decode cX5_init 0 = .ok (.aload_n 0, 1) := by decide +kernel
theorem dX5_init_1 : decode cX5_init 1 = .ok (.invokespecial 3, 3) := by decide +kernel
theorem dX5_init_4 : decode cX5_init 4 = .ok (.aload_n 0, 1) := by decide +kernel
theorem dX5_init_5 : decode cX5_init 5 = .ok (.iconst 5, 1) := by decide +kernel
theorem dX5_init_6 : decode cX5_init 6 = .ok (.newarray .int, 2) := by decide +kernel
theorem dX5_init_8 : decode cX5_init 8 = .ok (.putfield 9, 3) := by decide +kernel
theorem dX5_init_11 : decode cX5_init 11 = .ok (.aload_n 0, 1) := by decide +kernel
theorem dX5_init_12 : decode cX5_init 12 = .ok (.iconst 5, 1) := by decide +kernel
theorem dX5_init_13 : decode cX5_init 13 = .ok (.newarray .int, 2) := by decide +kernel
theorem dX5_init_15 : decode cX5_init 15 = .ok (.putfield 15, 3) := by decide +kernel
theorem dX5_init_18 : decode cX5_init 18 = .ok (.aload_n 0, 1) := by decide +kernel
theorem dX5_init_19 : decode cX5_init 19 = .ok (.iconst 5, 1) := by decide +kernel
theorem dX5_init_20 : decode cX5_init 20 = .ok (.newarray .int, 2) := by decide +kernel
theorem dX5_init_22 : decode cX5_init 22 = .ok (.putfield 18, 3) := by decide +kernel
theorem dX5_init_25 : decode cX5_init 25 = .ok (.return_, 1) := by decide +kernel
theorem dX5_find_0 : decode cX5_find 0 = .ok (.aload_n 0, 1) := by decide +kernel
theorem dX5_find_1 : decode cX5_find 1 = .ok (.iconst 0, 1) := by decide +kernel
theorem dX5_find_2 : decode cX5_find 2 = .ok (.putfield 21, 3) := by decide +kernel
theorem dX5_find_5 : decode cX5_find 5 = .ok (.aload_n 0, 1) := by decide +kernel
theorem dX5_find_6 : decode cX5_find 6 = .ok (.iconst 0, 1) := by decide +kernel
theorem dX5_find_7 : decode cX5_find 7 = .ok (.putfield 25, 3) := by decide +kernel
theorem dX5_find_10 : decode cX5_find 10 = .ok (.aload_n 0, 1) := by decide +kernel
theorem dX5_find_11 : decode cX5_find 11 = .ok (.iconst 0, 1) := by decide +kernel
theorem dX5_find_12 : decode cX5_find 12 = .ok (.putfield 28, 3) := by decide +kernel
theorem dX5_find_15 : decode cX5_find 15 = .ok (.iload_n 2, 1) := by decide +kernel
theorem dX5_find_16 : decode cX5_find 16 = .ok (.invokestatic 31, 3) := by decide +kernel
theorem dX5_find_19 : decode cX5_find 19 = .ok (.istore_n 3, 1) := by decide +kernel
theorem dX5_find_20 : decode cX5_find 20 = .ok (.aload_n 1, 1) := by decide +kernel
theorem dX5_find_21 : decode cX5_find 21 = .ok (.iload_n 3, 1) := by decide +kernel
theorem dX5_find_22 : decode cX5_find 22 = .ok (.invokevirtual 35, 3) := by decide +kernel
theorem dX5_find_25 : decode cX5_find 25 = .ok (.ifCond .ne 4, 3) := by decide +kernel
theorem dX5_find_28 : decode cX5_find 28 = .ok (.return_, 1) := by decide +kernel
theorem dX5_find_29 : decode cX5_find 29 = .ok (.aload_n 0, 1) := by decide +kernel
theorem dX5_find_30 : decode cX5_find 30 = .ok (.aload_n 1, 1) := by decide +kernel
theorem dX5_find_31 : decode cX5_find 31 = .ok (.getfield 41, 3) := by decide +kernel
theorem dX5_find_34 : decode cX5_find 34 = .ok (.getfield 45, 3) := by decide +kernel
theorem dX5_find_37 : decode cX5_find 37 = .ok (.iload_n 3, 1) := by decide +kernel
theorem dX5_find_38 : decode cX5_find 38 = .ok (.iaload, 1) := by decide +kernel
theorem dX5_find_39 : decode cX5_find 39 = .ok (.putfield 50, 3) := by decide +kernel
theorem dX5_find_42 : decode cX5_find 42 = .ok (.aload_n 0, 1) := by decide +kernel
theorem dX5_find_43 : decode cX5_find 43 = .ok (.aload_n 1, 1) := by decide +kernel
theorem dX5_find_44 : decode cX5_find 44 = .ok (.iload_n 2, 1) := by decide +kernel
theorem dX5_find_45 : decode cX5_find 45 = .ok (.invokevirtual 52, 3) := by decide +kernel
theorem dX5_find_48 : decode cX5_find 48 = .ok (.aload_n 1, 1) := by decide +kernel
theorem dX5_find_49 : decode cX5_find 49 = .ok (.iload_n 3, 1) := by decide +kernel
theorem dX5_find_50 : decode cX5_find 50 = .ok (.invokevirtual 55, 3) := by decide +kernel
theorem dX5_find_53 : decode cX5_find 53 = .ok (.invokestatic 58, 3) := by decide +kernel
theorem dX5_find_56 : decode cX5_find 56 = .ok (.putfield 62, 3) := by decide +kernel
theorem dX5_find_59 : decode cX5_find 59 = .ok (.aload_n 0, 1) := by decide +kernel
theorem dX5_find_60 : decode cX5_find 60 = .ok (.aload_n 1, 1) := by decide +kernel
theorem dX5_find_61 : decode cX5_find 61 = .ok (.iload_n 2, 1) := by decide +kernel
theorem dX5_find_62 : decode cX5_find 62 = .ok (.invokevirtual 65, 3) := by decide +kernel
theorem dX5_find_65 : decode cX5_find 65 = .ok (.aload_n 0, 1) := by decide +kernel
theorem dX5_find_66 : decode cX5_find 66 = .ok (.aload_n 1, 1) := by decide +kernel
theorem dX5_find_67 : decode cX5_find 67 = .ok (.iconst 0, 1) := by decide +kernel
theorem dX5_find_68 : decode cX5_find 68 = .ok (.iconst 0, 1) := by decide +kernel
theorem dX5_find_69 : decode cX5_find 69 = .ok (.iconst 0, 1) := by decide +kernel
theorem dX5_find_70 : decode cX5_find 70 = .ok (.iconst 0, 1) := by decide +kernel
theorem dX5_find_71 : decode cX5_find 71 = .ok (.invokevirtual 69, 3) := by decide +kernel
theorem dX5_find_74 : decode cX5_find 74 = .ok (.return_, 1) := by decide +kernel
theorem dX5_leastOf_0 : decode cX5_leastOf 0 = .ok (.iconst 0, 1) := by decide +kernel
theorem dX5_leastOf_1 : decode cX5_leastOf 1 = .ok (.istore_n 1, 1) := by decide +kernel
theorem dX5_leastOf_2 : decode cX5_leastOf 2 = .ok (.iload_n 1, 1) := by decide +kernel
theorem dX5_leastOf_3 : decode cX5_leastOf 3 = .ok (.iconst 4, 1) := by decide +kernel
theorem dX5_leastOf_4 : decode cX5_leastOf 4 = .ok (.if_icmp .ge 17, 3) := by decide +kernel
theorem dX5_leastOf_7 : decode cX5_leastOf 7 = .ok (.iload_n 0, 1) := by decide +kernel
theorem dX5_leastOf_8 : decode cX5_leastOf 8 = .ok (.iload_n 1, 1) := by decide +kernel
theorem dX5_leastOf_9 : decode cX5_leastOf 9 = .ok (.ishr, 1) := by decide +kernel
theorem dX5_leastOf_10 : decode cX5_leastOf 10 = .ok (.iconst 1, 1) := by decide +kernel
theorem dX5_leastOf_11 : decode cX5_leastOf 11 = .ok (.iand, 1) := by decide +kernel
theorem dX5_leastOf_12 : decode cX5_leastOf 12 = .ok (.ifCond .ne 9, 3) := by decide +kernel
theorem dX5_leastOf_15 : decode cX5_leastOf 15 = .ok (.iinc 1 1, 3) := by decide +kernel
theorem dX5_leastOf_18 : decode cX5_leastOf 18 = .ok (.goto (-16), 3) := by decide +kernel
theorem dX5_leastOf_21 : decode cX5_leastOf 21 = .ok (.iload_n 1, 1) := by decide +kernel
theorem dX5_leastOf_22 : decode cX5_leastOf 22 = .ok (.ireturn, 1) := by decide +kernel
theorem dX5_gather_0 : decode cX5_gather 0 = .ok (.aload_n 0, 1) := by decide +kernel
theorem dX5_gather_1 : decode cX5_gather 1 = .ok (.iconst 0, 1) := by decide +kernel
theorem dX5_gather_2 : decode cX5_gather 2 = .ok (.putfield 73, 3) := by decide +kernel
theorem dX5_gather_5 : decode cX5_gather 5 = .ok (.iconst 0, 1) := by decide +kernel
theorem dX5_gather_6 : decode cX5_gather 6 = .ok (.istore_n 3, 1) := by decide +kernel
theorem dX5_gather_7 : decode cX5_gather 7 = .ok (.iload_n 3, 1) := by decide +kernel
theorem dX5_gather_8 : decode cX5_gather 8 = .ok (.aload_n 1, 1) := by decide +kernel
theorem dX5_gather_9 : decode cX5_gather 9 = .ok (.getfield 76, 3) := by decide +kernel
theorem dX5_gather_12 : decode cX5_gather 12 = .ok (.if_icmp .ge 69, 3) := by decide +kernel
theorem dX5_gather_15 : decode cX5_gather 15 = .ok (.iload_n 3, 1) := by decide +kernel
theorem dX5_gather_16 : decode cX5_gather 16 = .ok (.bipush 12, 2) := by decide +kernel
theorem dX5_gather_18 : decode cX5_gather 18 = .ok (.if_icmp .ge 63, 3) := by decide +kernel
theorem dX5_gather_21 : decode cX5_gather 21 = .ok (.aload_n 0, 1) := by decide +kernel
theorem dX5_gather_22 : decode cX5_gather 22 = .ok (.getfield 73, 3) := by decide +kernel
theorem dX5_gather_25 : decode cX5_gather 25 = .ok (.iconst 5, 1) := by decide +kernel
theorem dX5_gather_26 : decode cX5_gather 26 = .ok (.if_icmp .ge 55, 3) := by decide +kernel
theorem dX5_gather_29 : decode cX5_gather 29 = .ok (.iload_n 2, 1) := by decide +kernel
theorem dX5_gather_30 : decode cX5_gather 30 = .ok (.aload_n 1, 1) := by decide +kernel
theorem dX5_gather_31 : decode cX5_gather 31 = .ok (.getfield 79, 3) := by decide +kernel
theorem dX5_gather_34 : decode cX5_gather 34 = .ok (.iload_n 3, 1) := by decide +kernel
theorem dX5_gather_35 : decode cX5_gather 35 = .ok (.iaload, 1) := by decide +kernel
theorem dX5_gather_36 : decode cX5_gather 36 = .ok (.ishr, 1) := by decide +kernel
theorem dX5_gather_37 : decode cX5_gather 37 = .ok (.iconst 1, 1) := by decide +kernel
theorem dX5_gather_38 : decode cX5_gather 38 = .ok (.iand, 1) := by decide +kernel
theorem dX5_gather_39 : decode cX5_gather 39 = .ok (.iconst 1, 1) := by decide +kernel
theorem dX5_gather_40 : decode cX5_gather 40 = .ok (.if_icmp .ne 35, 3) := by decide +kernel
theorem dX5_gather_43 : decode cX5_gather 43 = .ok (.aload_n 1, 1) := by decide +kernel
theorem dX5_gather_44 : decode cX5_gather 44 = .ok (.getfield 41, 3) := by decide +kernel
theorem dX5_gather_47 : decode cX5_gather 47 = .ok (.getfield 82, 3) := by decide +kernel
theorem dX5_gather_50 : decode cX5_gather 50 = .ok (.iload_n 3, 1) := by decide +kernel
theorem dX5_gather_51 : decode cX5_gather 51 = .ok (.iaload, 1) := by decide +kernel
theorem dX5_gather_52 : decode cX5_gather 52 = .ok (.ifCond .ne 23, 3) := by decide +kernel
theorem dX5_gather_55 : decode cX5_gather 55 = .ok (.aload_n 0, 1) := by decide +kernel
theorem dX5_gather_56 : decode cX5_gather 56 = .ok (.getfield 15, 3) := by decide +kernel
theorem dX5_gather_59 : decode cX5_gather 59 = .ok (.aload_n 0, 1) := by decide +kernel
theorem dX5_gather_60 : decode cX5_gather 60 = .ok (.getfield 73, 3) := by decide +kernel
theorem dX5_gather_63 : decode cX5_gather 63 = .ok (.iload_n 3, 1) := by decide +kernel
theorem dX5_gather_64 : decode cX5_gather 64 = .ok (.iastore, 1) := by decide +kernel
theorem dX5_gather_65 : decode cX5_gather 65 = .ok (.aload_n 0, 1) := by decide +kernel
theorem dX5_gather_66 : decode cX5_gather 66 = .ok (.dup, 1) := by decide +kernel
theorem dX5_gather_67 : decode cX5_gather 67 = .ok (.getfield 73, 3) := by decide +kernel
theorem dX5_gather_70 : decode cX5_gather 70 = .ok (.iconst 1, 1) := by decide +kernel
theorem dX5_gather_71 : decode cX5_gather 71 = .ok (.iadd, 1) := by decide +kernel
theorem dX5_gather_72 : decode cX5_gather 72 = .ok (.putfield 73, 3) := by decide +kernel
theorem dX5_gather_75 : decode cX5_gather 75 = .ok (.iinc 3 1, 3) := by decide +kernel
theorem dX5_gather_78 : decode cX5_gather 78 = .ok (.goto (-71), 3) := by decide +kernel
theorem dX5_gather_81 : decode cX5_gather 81 = .ok (.return_, 1) := by decide +kernel
theorem dX5_lengthen_0 : decode cX5_lengthen 0 = .ok (.iconst 0, 1) := by decide +kernel
theorem dX5_lengthen_1 : decode cX5_lengthen 1 = .ok (.istore 6, 2) := by decide +kernel
theorem dX5_lengthen_3 : decode cX5_lengthen 3 = .ok (.iload 6, 2) := by decide +kernel
theorem dX5_lengthen_5 : decode cX5_lengthen 5 = .ok (.aload_n 0, 1) := by decide +kernel
theorem dX5_lengthen_6 : decode cX5_lengthen 6 = .ok (.getfield 73, 3) := by decide +kernel
theorem dX5_lengthen_9 : decode cX5_lengthen 9 = .ok (.if_icmp .ge 53, 3) := by decide +kernel
theorem dX5_lengthen_12 : decode cX5_lengthen 12 = .ok (.iload 6, 2) := by decide +kernel
theorem dX5_lengthen_14 : decode cX5_lengthen 14 = .ok (.iconst 5, 1) := by decide +kernel
theorem dX5_lengthen_15 : decode cX5_lengthen 15 = .ok (.if_icmp .ge 47, 3) := by decide +kernel
theorem dX5_lengthen_18 : decode cX5_lengthen 18 = .ok (.iload_n 2, 1) := by decide +kernel
theorem dX5_lengthen_19 : decode cX5_lengthen 19 = .ok (.iconst 5, 1) := by decide +kernel
theorem dX5_lengthen_20 : decode cX5_lengthen 20 = .ok (.if_icmp .ge 42, 3) := by decide +kernel
theorem dX5_lengthen_23 : decode cX5_lengthen 23 = .ok (.aload_n 1, 1) := by decide +kernel
theorem dX5_lengthen_24 : decode cX5_lengthen 24 = .ok (.aload_n 0, 1) := by decide +kernel
theorem dX5_lengthen_25 : decode cX5_lengthen 25 = .ok (.getfield 15, 3) := by decide +kernel
theorem dX5_lengthen_28 : decode cX5_lengthen 28 = .ok (.iload 6, 2) := by decide +kernel
theorem dX5_lengthen_30 : decode cX5_lengthen 30 = .ok (.iaload, 1) := by decide +kernel
theorem dX5_lengthen_31 : decode cX5_lengthen 31 = .ok (.iload_n 3, 1) := by decide +kernel
theorem dX5_lengthen_32 : decode cX5_lengthen 32 = .ok (.invokestatic 85, 3) := by decide +kernel
theorem dX5_lengthen_35 : decode cX5_lengthen 35 = .ok (.ifCond .eq 21, 3) := by decide +kernel
theorem dX5_lengthen_38 : decode cX5_lengthen 38 = .ok (.aload_n 0, 1) := by decide +kernel
theorem dX5_lengthen_39 : decode cX5_lengthen 39 = .ok (.aload_n 1, 1) := by decide +kernel
theorem dX5_lengthen_40 : decode cX5_lengthen 40 = .ok (.aload_n 0, 1) := by decide +kernel
theorem dX5_lengthen_41 : decode cX5_lengthen 41 = .ok (.getfield 15, 3) := by decide +kernel
theorem dX5_lengthen_44 : decode cX5_lengthen 44 = .ok (.iload 6, 2) := by decide +kernel
theorem dX5_lengthen_46 : decode cX5_lengthen 46 = .ok (.iaload, 1) := by decide +kernel
theorem dX5_lengthen_47 : decode cX5_lengthen 47 = .ok (.iload_n 2, 1) := by decide +kernel
theorem dX5_lengthen_48 : decode cX5_lengthen 48 = .ok (.iload_n 3, 1) := by decide +kernel
theorem dX5_lengthen_49 : decode cX5_lengthen 49 = .ok (.iload 4, 2) := by decide +kernel
theorem dX5_lengthen_51 : decode cX5_lengthen 51 = .ok (.iload 5, 2) := by decide +kernel
theorem dX5_lengthen_53 : decode cX5_lengthen 53 = .ok (.invokevirtual 89, 3) := by decide +kernel
theorem dX5_lengthen_56 : decode cX5_lengthen 56 = .ok (.iinc 6 1, 3) := by decide +kernel
theorem dX5_lengthen_59 : decode cX5_lengthen 59 = .ok (.goto (-56), 3) := by decide +kernel
theorem dX5_lengthen_62 : decode cX5_lengthen 62 = .ok (.return_, 1) := by decide +kernel
theorem dX5_append_0 : decode cX5_append 0 = .ok (.aload_n 1, 1) := by decide +kernel
theorem dX5_append_1 : decode cX5_append 1 = .ok (.iload_n 2, 1) := by decide +kernel
theorem dX5_append_2 : decode cX5_append 2 = .ok (.invokevirtual 93, 3) := by decide +kernel
theorem dX5_append_5 : decode cX5_append 5 = .ok (.ifCond .eq 12, 3) := by decide +kernel
theorem dX5_append_8 : decode cX5_append 8 = .ok (.iload_n 3, 1) := by decide +kernel
theorem dX5_append_9 : decode cX5_append 9 = .ok (.iconst 0, 1) := by decide +kernel
theorem dX5_append_10 : decode cX5_append 10 = .ok (.iconst 4, 1) := by decide +kernel
theorem dX5_append_11 : decode cX5_append 11 = .ok (.invokestatic 96, 3) := by decide +kernel
theorem dX5_append_14 : decode cX5_append 14 = .ok (.ifCond .ne 4, 3) := by decide +kernel
theorem dX5_append_17 : decode cX5_append 17 = .ok (.return_, 1) := by decide +kernel
theorem dX5_append_18 : decode cX5_append 18 = .ok (.iload 5, 2) := by decide +kernel
theorem dX5_append_20 : decode cX5_append 20 = .ok (.aload_n 1, 1) := by decide +kernel
theorem dX5_append_21 : decode cX5_append 21 = .ok (.getfield 100, 3) := by decide +kernel
theorem dX5_append_24 : decode cX5_append 24 = .ok (.iload_n 2, 1) := by decide +kernel
theorem dX5_append_25 : decode cX5_append 25 = .ok (.iaload, 1) := by decide +kernel
theorem dX5_append_26 : decode cX5_append 26 = .ok (.iadd, 1) := by decide +kernel
theorem dX5_append_27 : decode cX5_append 27 = .ok (.istore 7, 2) := by decide +kernel
theorem dX5_append_29 : decode cX5_append 29 = .ok (.iload 7, 2) := by decide +kernel
theorem dX5_append_31 : decode cX5_append 31 = .ok (.aload_n 0, 1) := by decide +kernel
theorem dX5_append_32 : decode cX5_append 32 = .ok (.getfield 62, 3) := by decide +kernel
theorem dX5_append_35 : decode cX5_append 35 = .ok (.if_icmp .le 4, 3) := by decide +kernel
theorem dX5_append_38 : decode cX5_append 38 = .ok (.return_, 1) := by decide +kernel
theorem dX5_append_39 : decode cX5_append 39 = .ok (.iload 6, 2) := by decide +kernel
theorem dX5_append_41 : decode cX5_append 41 = .ok (.aload_n 1, 1) := by decide +kernel
theorem dX5_append_42 : decode cX5_append 42 = .ok (.aload_n 1, 1) := by decide +kernel
theorem dX5_append_43 : decode cX5_append 43 = .ok (.getfield 103, 3) := by decide +kernel
theorem dX5_append_46 : decode cX5_append 46 = .ok (.iload_n 2, 1) := by decide +kernel
theorem dX5_append_47 : decode cX5_append 47 = .ok (.iaload, 1) := by decide +kernel
theorem dX5_append_48 : decode cX5_append 48 = .ok (.aload_n 1, 1) := by decide +kernel
theorem dX5_append_49 : decode cX5_append 49 = .ok (.getfield 100, 3) := by decide +kernel
theorem dX5_append_52 : decode cX5_append 52 = .ok (.iload_n 2, 1) := by decide +kernel
theorem dX5_append_53 : decode cX5_append 53 = .ok (.iaload, 1) := by decide +kernel
theorem dX5_append_54 : decode cX5_append 54 = .ok (.aload_n 0, 1) := by decide +kernel
theorem dX5_append_55 : decode cX5_append 55 = .ok (.getfield 50, 3) := by decide +kernel
theorem dX5_append_58 : decode cX5_append 58 = .ok (.iload 6, 2) := by decide +kernel
theorem dX5_append_60 : decode cX5_append 60 = .ok (.iadd, 1) := by decide +kernel
theorem dX5_append_61 : decode cX5_append 61 = .ok (.invokevirtual 106, 3) := by decide +kernel
theorem dX5_append_64 : decode cX5_append 64 = .ok (.iadd, 1) := by decide +kernel
theorem dX5_append_65 : decode cX5_append 65 = .ok (.istore 8, 2) := by decide +kernel
theorem dX5_append_67 : decode cX5_append 67 = .ok (.aload_n 0, 1) := by decide +kernel
theorem dX5_append_68 : decode cX5_append 68 = .ok (.getfield 18, 3) := by decide +kernel
theorem dX5_append_71 : decode cX5_append 71 = .ok (.iload_n 3, 1) := by decide +kernel
theorem dX5_append_72 : decode cX5_append 72 = .ok (.iload_n 2, 1) := by decide +kernel
theorem dX5_append_73 : decode cX5_append 73 = .ok (.iastore, 1) := by decide +kernel
theorem dX5_append_74 : decode cX5_append 74 = .ok (.aload_n 0, 1) := by decide +kernel
theorem dX5_append_75 : decode cX5_append 75 = .ok (.iload_n 3, 1) := by decide +kernel
theorem dX5_append_76 : decode cX5_append 76 = .ok (.iconst 1, 1) := by decide +kernel
theorem dX5_append_77 : decode cX5_append 77 = .ok (.iadd, 1) := by decide +kernel
theorem dX5_append_78 : decode cX5_append 78 = .ok (.iload 7, 2) := by decide +kernel
theorem dX5_append_80 : decode cX5_append 80 = .ok (.iload 8, 2) := by decide +kernel
theorem dX5_append_82 : decode cX5_append 82 = .ok (.invokevirtual 110, 3) := by decide +kernel
theorem dX5_append_85 : decode cX5_append 85 = .ok (.aload_n 0, 1) := by decide +kernel
theorem dX5_append_86 : decode cX5_append 86 = .ok (.aload_n 1, 1) := by decide +kernel
theorem dX5_append_87 : decode cX5_append 87 = .ok (.iload_n 3, 1) := by decide +kernel
theorem dX5_append_88 : decode cX5_append 88 = .ok (.iconst 1, 1) := by decide +kernel
theorem dX5_append_89 : decode cX5_append 89 = .ok (.iadd, 1) := by decide +kernel
theorem dX5_append_90 : decode cX5_append 90 = .ok (.iload 4, 2) := by decide +kernel
theorem dX5_append_92 : decode cX5_append 92 = .ok (.iconst 1, 1) := by decide +kernel
theorem dX5_append_93 : decode cX5_append 93 = .ok (.iload_n 2, 1) := by decide +kernel
theorem dX5_append_94 : decode cX5_append 94 = .ok (.ishl, 1) := by decide +kernel
theorem dX5_append_95 : decode cX5_append 95 = .ok (.ior, 1) := by decide +kernel
theorem dX5_append_96 : decode cX5_append 96 = .ok (.iload 7, 2) := by decide +kernel
theorem dX5_append_98 : decode cX5_append 98 = .ok (.iload 8, 2) := by decide +kernel
theorem dX5_append_100 : decode cX5_append 100 = .ok (.invokevirtual 69, 3) := by decide +kernel
theorem dX5_append_103 : decode cX5_append 103 = .ok (.return_, 1) := by decide +kernel
theorem dX5_mayCome_0 : decode cX5_mayCome 0 = .ok (.aload_n 0, 1) := by decide +kernel
theorem dX5_mayCome_1 : decode cX5_mayCome 1 = .ok (.iload_n 1, 1) := by decide +kernel
theorem dX5_mayCome_2 : decode cX5_mayCome 2 = .ok (.invokevirtual 93, 3) := by decide +kernel
theorem dX5_mayCome_5 : decode cX5_mayCome 5 = .ok (.ifCond .eq 12, 3) := by decide +kernel
theorem dX5_mayCome_8 : decode cX5_mayCome 8 = .ok (.iload_n 2, 1) := by decide +kernel
theorem dX5_mayCome_9 : decode cX5_mayCome 9 = .ok (.iload_n 1, 1) := by decide +kernel
theorem dX5_mayCome_10 : decode cX5_mayCome 10 = .ok (.ishr, 1) := by decide +kernel
theorem dX5_mayCome_11 : decode cX5_mayCome 11 = .ok (.iconst 1, 1) := by decide +kernel
theorem dX5_mayCome_12 : decode cX5_mayCome 12 = .ok (.iand, 1) := by decide +kernel
theorem dX5_mayCome_13 : decode cX5_mayCome 13 = .ok (.iconst 1, 1) := by decide +kernel
theorem dX5_mayCome_14 : decode cX5_mayCome 14 = .ok (.if_icmp .ne 5, 3) := by decide +kernel
theorem dX5_mayCome_17 : decode cX5_mayCome 17 = .ok (.iconst 0, 1) := by decide +kernel
theorem dX5_mayCome_18 : decode cX5_mayCome 18 = .ok (.ireturn, 1) := by decide +kernel
theorem dX5_mayCome_19 : decode cX5_mayCome 19 = .ok (.aload_n 0, 1) := by decide +kernel
theorem dX5_mayCome_20 : decode cX5_mayCome 20 = .ok (.aload_n 0, 1) := by decide +kernel
theorem dX5_mayCome_21 : decode cX5_mayCome 21 = .ok (.getfield 41, 3) := by decide +kernel
theorem dX5_mayCome_24 : decode cX5_mayCome 24 = .ok (.iload_n 1, 1) := by decide +kernel
theorem dX5_mayCome_25 : decode cX5_mayCome 25 = .ok (.invokevirtual 114, 3) := by decide +kernel
theorem dX5_mayCome_28 : decode cX5_mayCome 28 = .ok (.ifCond .ne 17, 3) := by decide +kernel
theorem dX5_mayCome_31 : decode cX5_mayCome 31 = .ok (.iload_n 2, 1) := by decide +kernel
theorem dX5_mayCome_32 : decode cX5_mayCome 32 = .ok (.aload_n 0, 1) := by decide +kernel
theorem dX5_mayCome_33 : decode cX5_mayCome 33 = .ok (.getfield 118, 3) := by decide +kernel
theorem dX5_mayCome_36 : decode cX5_mayCome 36 = .ok (.iload_n 1, 1) := by decide +kernel
theorem dX5_mayCome_37 : decode cX5_mayCome 37 = .ok (.iaload, 1) := by decide +kernel
theorem dX5_mayCome_38 : decode cX5_mayCome 38 = .ok (.ishr, 1) := by decide +kernel
theorem dX5_mayCome_39 : decode cX5_mayCome 39 = .ok (.iconst 1, 1) := by decide +kernel
theorem dX5_mayCome_40 : decode cX5_mayCome 40 = .ok (.iand, 1) := by decide +kernel
theorem dX5_mayCome_41 : decode cX5_mayCome 41 = .ok (.iconst 1, 1) := by decide +kernel
theorem dX5_mayCome_42 : decode cX5_mayCome 42 = .ok (.if_icmp .ne 7, 3) := by decide +kernel
theorem dX5_mayCome_45 : decode cX5_mayCome 45 = .ok (.iconst 1, 1) := by decide +kernel
theorem dX5_mayCome_46 : decode cX5_mayCome 46 = .ok (.goto 4, 3) := by decide +kernel
theorem dX5_mayCome_49 : decode cX5_mayCome 49 = .ok (.iconst 0, 1) := by decide +kernel
theorem dX5_mayCome_50 : decode cX5_mayCome 50 = .ok (.ireturn, 1) := by decide +kernel
theorem dX5_keepIfBetter_0 : decode cX5_keepIfBetter 0 = .ok (.iload_n 3, 1) := by decide +kernel
theorem dX5_keepIfBetter_1 : decode cX5_keepIfBetter 1 = .ok (.aload_n 0, 1) := by decide +kernel
theorem dX5_keepIfBetter_2 : decode cX5_keepIfBetter 2 = .ok (.getfield 25, 3) := by decide +kernel
theorem dX5_keepIfBetter_5 : decode cX5_keepIfBetter 5 = .ok (.if_icmp .gt 19, 3) := by decide +kernel
theorem dX5_keepIfBetter_8 : decode cX5_keepIfBetter 8 = .ok (.iload_n 3, 1) := by decide +kernel
theorem dX5_keepIfBetter_9 : decode cX5_keepIfBetter 9 = .ok (.aload_n 0, 1) := by decide +kernel
theorem dX5_keepIfBetter_10 : decode cX5_keepIfBetter 10 = .ok (.getfield 25, 3) := by decide +kernel
theorem dX5_keepIfBetter_13 : decode cX5_keepIfBetter 13 = .ok (.if_icmp .ne 45, 3) := by decide +kernel
theorem dX5_keepIfBetter_16 : decode cX5_keepIfBetter 16 = .ok (.iload_n 2, 1) := by decide +kernel
theorem dX5_keepIfBetter_17 : decode cX5_keepIfBetter 17 = .ok (.aload_n 0, 1) := by decide +kernel
theorem dX5_keepIfBetter_18 : decode cX5_keepIfBetter 18 = .ok (.getfield 28, 3) := by decide +kernel
theorem dX5_keepIfBetter_21 : decode cX5_keepIfBetter 21 = .ok (.if_icmp .ge 37, 3) := by decide +kernel
theorem dX5_keepIfBetter_24 : decode cX5_keepIfBetter 24 = .ok (.aload_n 0, 1) := by decide +kernel
theorem dX5_keepIfBetter_25 : decode cX5_keepIfBetter 25 = .ok (.getfield 18, 3) := by decide +kernel
theorem dX5_keepIfBetter_28 : decode cX5_keepIfBetter 28 = .ok (.iconst 0, 1) := by decide +kernel
theorem dX5_keepIfBetter_29 : decode cX5_keepIfBetter 29 = .ok (.aload_n 0, 1) := by decide +kernel
theorem dX5_keepIfBetter_30 : decode cX5_keepIfBetter 30 = .ok (.getfield 9, 3) := by decide +kernel
theorem dX5_keepIfBetter_33 : decode cX5_keepIfBetter 33 = .ok (.iconst 0, 1) := by decide +kernel
theorem dX5_keepIfBetter_34 : decode cX5_keepIfBetter 34 = .ok (.iload_n 1, 1) := by decide +kernel
theorem dX5_keepIfBetter_35 : decode cX5_keepIfBetter 35 = .ok (.iconst 0, 1) := by decide +kernel
theorem dX5_keepIfBetter_36 : decode cX5_keepIfBetter 36 = .ok (.iconst 5, 1) := by decide +kernel
theorem dX5_keepIfBetter_37 : decode cX5_keepIfBetter 37 = .ok (.invokestatic 121, 3) := by decide +kernel
theorem dX5_keepIfBetter_40 : decode cX5_keepIfBetter 40 = .ok (.invokestatic 124, 3) := by decide +kernel
theorem dX5_keepIfBetter_43 : decode cX5_keepIfBetter 43 = .ok (.aload_n 0, 1) := by decide +kernel
theorem dX5_keepIfBetter_44 : decode cX5_keepIfBetter 44 = .ok (.iload_n 1, 1) := by decide +kernel
theorem dX5_keepIfBetter_45 : decode cX5_keepIfBetter 45 = .ok (.putfield 21, 3) := by decide +kernel
theorem dX5_keepIfBetter_48 : decode cX5_keepIfBetter 48 = .ok (.aload_n 0, 1) := by decide +kernel
theorem dX5_keepIfBetter_49 : decode cX5_keepIfBetter 49 = .ok (.iload_n 3, 1) := by decide +kernel
theorem dX5_keepIfBetter_50 : decode cX5_keepIfBetter 50 = .ok (.putfield 25, 3) := by decide +kernel
theorem dX5_keepIfBetter_53 : decode cX5_keepIfBetter 53 = .ok (.aload_n 0, 1) := by decide +kernel
theorem dX5_keepIfBetter_54 : decode cX5_keepIfBetter 54 = .ok (.iload_n 2, 1) := by decide +kernel
theorem dX5_keepIfBetter_55 : decode cX5_keepIfBetter 55 = .ok (.putfield 28, 3) := by decide +kernel
theorem dX5_keepIfBetter_58 : decode cX5_keepIfBetter 58 = .ok (.return_, 1) := by decide +kernel
theorem dX6_init_0 : decode cX6_init 0 = .ok (.aload_n 0, 1) := by decide +kernel
theorem dX6_init_1 : decode cX6_init 1 = .ok (.invokespecial 3, 3) := by decide +kernel
theorem dX6_init_4 : decode cX6_init 4 = .ok (.aload_n 0, 1) := by decide +kernel
theorem dX6_init_5 : decode cX6_init 5 = .ok (.new 9, 3) := by decide +kernel
theorem dX6_init_8 : decode cX6_init 8 = .ok (.dup, 1) := by decide +kernel
theorem dX6_init_9 : decode cX6_init 9 = .ok (.invokespecial 11, 3) := by decide +kernel
theorem dX6_init_12 : decode cX6_init 12 = .ok (.putfield 12, 3) := by decide +kernel
theorem dX6_init_15 : decode cX6_init 15 = .ok (.aload_n 0, 1) := by decide +kernel
theorem dX6_init_16 : decode cX6_init 16 = .ok (.ldc 18, 2) := by decide +kernel
theorem dX6_init_18 : decode cX6_init 18 = .ok (.putfield 20, 3) := by decide +kernel
theorem dX6_init_21 : decode cX6_init 21 = .ok (.return_, 1) := by decide +kernel
theorem dX6_read_0 : decode cX6_read 0 = .ok (.aload_n 0, 1) := by decide +kernel
theorem dX6_read_1 : decode cX6_read 1 = .ok (.aload_n 1, 1) := by decide +kernel
theorem dX6_read_2 : decode cX6_read 2 = .ok (.putfield 24, 3) := by decide +kernel
theorem dX6_read_5 : decode cX6_read 5 = .ok (.aload_n 0, 1) := by decide +kernel
theorem dX6_read_6 : decode cX6_read 6 = .ok (.iload_n 2, 1) := by decide +kernel
theorem dX6_read_7 : decode cX6_read 7 = .ok (.putfield 28, 3) := by decide +kernel
theorem dX6_read_10 : decode cX6_read 10 = .ok (.aload_n 0, 1) := by decide +kernel
theorem dX6_read_11 : decode cX6_read 11 = .ok (.iconst 0, 1) := by decide +kernel
theorem dX6_read_12 : decode cX6_read 12 = .ok (.putfield 32, 3) := by decide +kernel
theorem dX6_read_15 : decode cX6_read 15 = .ok (.aload_n 0, 1) := by decide +kernel
theorem dX6_read_16 : decode cX6_read 16 = .ok (.iload_n 3, 1) := by decide +kernel
theorem dX6_read_17 : decode cX6_read 17 = .ok (.ifCond .ne 8, 3) := by decide +kernel
theorem dX6_read_20 : decode cX6_read 20 = .ok (.ldc 18, 2) := by decide +kernel
theorem dX6_read_22 : decode cX6_read 22 = .ok (.goto 5, 3) := by decide +kernel
theorem dX6_read_25 : decode cX6_read 25 = .ok (.ldc 35, 2) := by decide +kernel
theorem dX6_read_27 : decode cX6_read 27 = .ok (.putfield 20, 3) := by decide +kernel
theorem dX6_read_30 : decode cX6_read 30 = .ok (.aload_n 0, 1) := by decide +kernel
theorem dX6_read_31 : decode cX6_read 31 = .ok (.getfield 12, 3) := by decide +kernel
theorem dX6_read_34 : decode cX6_read 34 = .ok (.invokevirtual 37, 3) := by decide +kernel
theorem dX6_read_37 : decode cX6_read 37 = .ok (.aload_n 0, 1) := by decide +kernel
theorem dX6_read_38 : decode cX6_read 38 = .ok (.iconst 0, 1) := by decide +kernel
theorem dX6_read_39 : decode cX6_read 39 = .ok (.invokevirtual 40, 3) := by decide +kernel
theorem dX6_read_42 : decode cX6_read 42 = .ok (.ifCond .eq 18, 3) := by decide +kernel
theorem dX6_read_45 : decode cX6_read 45 = .ok (.aload_n 0, 1) := by decide +kernel
theorem dX6_read_46 : decode cX6_read 46 = .ok (.getfield 32, 3) := by decide +kernel
theorem dX6_read_49 : decode cX6_read 49 = .ok (.aload_n 0, 1) := by decide +kernel
theorem dX6_read_50 : decode cX6_read 50 = .ok (.getfield 28, 3) := by decide +kernel
theorem dX6_read_53 : decode cX6_read 53 = .ok (.if_icmp .ne 7, 3) := by decide +kernel
theorem dX6_read_56 : decode cX6_read 56 = .ok (.iconst 1, 1) := by decide +kernel
theorem dX6_read_57 : decode cX6_read 57 = .ok (.goto 4, 3) := by decide +kernel
theorem dX6_read_60 : decode cX6_read 60 = .ok (.iconst 0, 1) := by decide +kernel
theorem dX6_read_61 : decode cX6_read 61 = .ok (.istore 4, 2) := by decide +kernel
theorem dX6_read_63 : decode cX6_read 63 = .ok (.iload 4, 2) := by decide +kernel
theorem dX6_read_65 : decode cX6_read 65 = .ok (.ifCond .eq 7, 3) := by decide +kernel
theorem dX6_read_68 : decode cX6_read 68 = .ok (.iconst (-1), 1) := by decide +kernel
theorem dX6_read_69 : decode cX6_read 69 = .ok (.goto 7, 3) := by decide +kernel
theorem dX6_read_72 : decode cX6_read 72 = .ok (.aload_n 0, 1) := by decide +kernel
theorem dX6_read_73 : decode cX6_read 73 = .ok (.getfield 32, 3) := by decide +kernel
theorem dX6_read_76 : decode cX6_read 76 = .ok (.ireturn, 1) := by decide +kernel
theorem dX6_next_0 : decode cX6_next 0 = .ok (.aload_n 0, 1) := by decide +kernel
theorem dX6_next_1 : decode cX6_next 1 = .ok (.getfield 24, 3) := by decide +kernel
theorem dX6_next_4 : decode cX6_next 4 = .ok (.ifnull 44, 3) := by decide +kernel
theorem dX6_next_7 : decode cX6_next 7 = .ok (.aload_n 0, 1) := by decide +kernel
theorem dX6_next_8 : decode cX6_next 8 = .ok (.getfield 32, 3) := by decide +kernel
theorem dX6_next_11 : decode cX6_next 11 = .ok (.aload_n 0, 1) := by decide +kernel
theorem dX6_next_12 : decode cX6_next 12 = .ok (.getfield 28, 3) := by decide +kernel
theorem dX6_next_15 : decode cX6_next 15 = .ok (.if_icmp .ge 33, 3) := by decide +kernel
theorem dX6_next_18 : decode cX6_next 18 = .ok (.aload_n 0, 1) := by decide +kernel
theorem dX6_next_19 : decode cX6_next 19 = .ok (.getfield 32, 3) := by decide +kernel
theorem dX6_next_22 : decode cX6_next 22 = .ok (.iconst 0, 1) := by decide +kernel
theorem dX6_next_23 : decode cX6_next 23 = .ok (.aload_n 0, 1) := by decide +kernel
theorem dX6_next_24 : decode cX6_next 24 = .ok (.getfield 24, 3) := by decide +kernel
theorem dX6_next_27 : decode cX6_next 27 = .ok (.arraylength, 1) := by decide +kernel
theorem dX6_next_28 : decode cX6_next 28 = .ok (.iconst 1, 1) := by decide +kernel
theorem dX6_next_29 : decode cX6_next 29 = .ok (.isub, 1) := by decide +kernel
theorem dX6_next_30 : decode cX6_next 30 = .ok (.invokestatic 44, 3) := by decide +kernel
theorem dX6_next_33 : decode cX6_next 33 = .ok (.ifCond .eq 15, 3) := by decide +kernel
theorem dX6_next_36 : decode cX6_next 36 = .ok (.aload_n 0, 1) := by decide +kernel
theorem dX6_next_37 : decode cX6_next 37 = .ok (.getfield 24, 3) := by decide +kernel
theorem dX6_next_40 : decode cX6_next 40 = .ok (.aload_n 0, 1) := by decide +kernel
theorem dX6_next_41 : decode cX6_next 41 = .ok (.getfield 32, 3) := by decide +kernel
theorem dX6_next_44 : decode cX6_next 44 = .ok (.iaload, 1) := by decide +kernel
theorem dX6_next_45 : decode cX6_next 45 = .ok (.goto 4, 3) := by decide +kernel
theorem dX6_next_48 : decode cX6_next 48 = .ok (.iconst (-1), 1) := by decide +kernel
theorem dX6_next_49 : decode cX6_next 49 = .ok (.ireturn, 1) := by decide +kernel
theorem dX6_readT_0 : decode cX6_readT 0 = .ok (.iload_n 1, 1) := by decide +kernel
theorem dX6_readT_1 : decode cX6_readT 1 = .ok (.iconst 5, 1) := by decide +kernel
theorem dX6_readT_2 : decode cX6_readT 2 = .ok (.if_icmp .gt 11, 3) := by decide +kernel
theorem dX6_readT_5 : decode cX6_readT 5 = .ok (.aload_n 0, 1) := by decide +kernel
theorem dX6_readT_6 : decode cX6_readT 6 = .ok (.iload_n 1, 1) := by decide +kernel
theorem dX6_readT_7 : decode cX6_readT 7 = .ok (.invokevirtual 48, 3) := by decide +kernel
theorem dX6_readT_10 : decode cX6_readT 10 = .ok (.ifCond .ne 5, 3) := by decide +kernel
theorem dX6_readT_13 : decode cX6_readT 13 = .ok (.iconst 0, 1) := by decide +kernel
theorem dX6_readT_14 : decode cX6_readT 14 = .ok (.ireturn, 1) := by decide +kernel
theorem dX6_readT_15 : decode cX6_readT 15 = .ok (.iconst 0, 1) := by decide +kernel
theorem dX6_readT_16 : decode cX6_readT 16 = .ok (.istore_n 2, 1) := by decide +kernel
theorem dX6_readT_17 : decode cX6_readT 17 = .ok (.iload_n 2, 1) := by decide +kernel
theorem dX6_readT_18 : decode cX6_readT 18 = .ok (.bipush 50, 2) := by decide +kernel
theorem dX6_readT_20 : decode cX6_readT 20 = .ok (.if_icmp .ge 47, 3) := by decide +kernel
theorem dX6_readT_23 : decode cX6_readT 23 = .ok (.aload_n 0, 1) := by decide +kernel
theorem dX6_readT_24 : decode cX6_readT 24 = .ok (.invokevirtual 51, 3) := by decide +kernel
theorem dX6_readT_27 : decode cX6_readT 27 = .ok (.bipush 124, 2) := by decide +kernel
theorem dX6_readT_29 : decode cX6_readT 29 = .ok (.if_icmp .ne 38, 3) := by decide +kernel
theorem dX6_readT_32 : decode cX6_readT 32 = .ok (.aload_n 0, 1) := by decide +kernel
theorem dX6_readT_33 : decode cX6_readT 33 = .ok (.dup, 1) := by decide +kernel
theorem dX6_readT_34 : decode cX6_readT 34 = .ok (.getfield 32, 3) := by decide +kernel
theorem dX6_readT_37 : decode cX6_readT 37 = .ok (.iconst 1, 1) := by decide +kernel
theorem dX6_readT_38 : decode cX6_readT 38 = .ok (.iadd, 1) := by decide +kernel
theorem dX6_readT_39 : decode cX6_readT 39 = .ok (.putfield 32, 3) := by decide +kernel
theorem dX6_readT_42 : decode cX6_readT 42 = .ok (.aload_n 0, 1) := by decide +kernel
theorem dX6_readT_43 : decode cX6_readT 43 = .ok (.iload_n 1, 1) := by decide +kernel
theorem dX6_readT_44 : decode cX6_readT 44 = .ok (.invokevirtual 48, 3) := by decide +kernel
theorem dX6_readT_47 : decode cX6_readT 47 = .ok (.ifCond .ne 5, 3) := by decide +kernel
theorem dX6_readT_50 : decode cX6_readT 50 = .ok (.iconst 0, 1) := by decide +kernel
theorem dX6_readT_51 : decode cX6_readT 51 = .ok (.ireturn, 1) := by decide +kernel
theorem dX6_readT_52 : decode cX6_readT 52 = .ok (.aload_n 0, 1) := by decide +kernel
theorem dX6_readT_53 : decode cX6_readT 53 = .ok (.getfield 12, 3) := by decide +kernel
theorem dX6_readT_56 : decode cX6_readT 56 = .ok (.bipush (-124), 2) := by decide +kernel
theorem dX6_readT_58 : decode cX6_readT 58 = .ok (.invokevirtual 55, 3) := by decide +kernel
theorem dX6_readT_61 : decode cX6_readT 61 = .ok (.iinc 2 1, 3) := by decide +kernel
theorem dX6_readT_64 : decode cX6_readT 64 = .ok (.goto (-47), 3) := by decide +kernel
theorem dX6_readT_67 : decode cX6_readT 67 = .ok (.iconst 1, 1) := by decide +kernel
theorem dX6_readT_68 : decode cX6_readT 68 = .ok (.ireturn, 1) := by decide +kernel
theorem dX6_readA_0 : decode cX6_readA 0 = .ok (.aload_n 0, 1) := by decide +kernel
theorem dX6_readA_1 : decode cX6_readA 1 = .ok (.iload_n 1, 1) := by decide +kernel
theorem dX6_readA_2 : decode cX6_readA 2 = .ok (.invokevirtual 59, 3) := by decide +kernel
theorem dX6_readA_5 : decode cX6_readA 5 = .ok (.ifCond .ne 5, 3) := by decide +kernel
theorem dX6_readA_8 : decode cX6_readA 8 = .ok (.iconst 0, 1) := by decide +kernel
theorem dX6_readA_9 : decode cX6_readA 9 = .ok (.ireturn, 1) := by decide +kernel
theorem dX6_readA_10 : decode cX6_readA 10 = .ok (.iconst 0, 1) := by decide +kernel
theorem dX6_readA_11 : decode cX6_readA 11 = .ok (.istore_n 2, 1) := by decide +kernel
theorem dX6_readA_12 : decode cX6_readA 12 = .ok (.iload_n 2, 1) := by decide +kernel
theorem dX6_readA_13 : decode cX6_readA 13 = .ok (.bipush 50, 2) := by decide +kernel
theorem dX6_readA_15 : decode cX6_readA 15 = .ok (.if_icmp .ge 47, 3) := by decide +kernel
theorem dX6_readA_18 : decode cX6_readA 18 = .ok (.aload_n 0, 1) := by decide +kernel
theorem dX6_readA_19 : decode cX6_readA 19 = .ok (.invokevirtual 51, 3) := by decide +kernel
theorem dX6_readA_22 : decode cX6_readA 22 = .ok (.bipush 38, 2) := by decide +kernel
theorem dX6_readA_24 : decode cX6_readA 24 = .ok (.if_icmp .ne 38, 3) := by decide +kernel
theorem dX6_readA_27 : decode cX6_readA 27 = .ok (.aload_n 0, 1) := by decide +kernel
theorem dX6_readA_28 : decode cX6_readA 28 = .ok (.dup, 1) := by decide +kernel
theorem dX6_readA_29 : decode cX6_readA 29 = .ok (.getfield 32, 3) := by decide +kernel
theorem dX6_readA_32 : decode cX6_readA 32 = .ok (.iconst 1, 1) := by decide +kernel
theorem dX6_readA_33 : decode cX6_readA 33 = .ok (.iadd, 1) := by decide +kernel
theorem dX6_readA_34 : decode cX6_readA 34 = .ok (.putfield 32, 3) := by decide +kernel
theorem dX6_readA_37 : decode cX6_readA 37 = .ok (.aload_n 0, 1) := by decide +kernel
theorem dX6_readA_38 : decode cX6_readA 38 = .ok (.iload_n 1, 1) := by decide +kernel
theorem dX6_readA_39 : decode cX6_readA 39 = .ok (.invokevirtual 59, 3) := by decide +kernel
theorem dX6_readA_42 : decode cX6_readA 42 = .ok (.ifCond .ne 5, 3) := by decide +kernel
theorem dX6_readA_45 : decode cX6_readA 45 = .ok (.iconst 0, 1) := by decide +kernel
theorem dX6_readA_46 : decode cX6_readA 46 = .ok (.ireturn, 1) := by decide +kernel
theorem dX6_readA_47 : decode cX6_readA 47 = .ok (.aload_n 0, 1) := by decide +kernel
theorem dX6_readA_48 : decode cX6_readA 48 = .ok (.getfield 12, 3) := by decide +kernel
theorem dX6_readA_51 : decode cX6_readA 51 = .ok (.bipush (-38), 2) := by decide +kernel
theorem dX6_readA_53 : decode cX6_readA 53 = .ok (.invokevirtual 55, 3) := by decide +kernel
theorem dX6_readA_56 : decode cX6_readA 56 = .ok (.iinc 2 1, 3) := by decide +kernel
theorem dX6_readA_59 : decode cX6_readA 59 = .ok (.goto (-47), 3) := by decide +kernel
theorem dX6_readA_62 : decode cX6_readA 62 = .ok (.iconst 1, 1) := by decide +kernel
theorem dX6_readA_63 : decode cX6_readA 63 = .ok (.ireturn, 1) := by decide +kernel
theorem dX6_readB_0 : decode cX6_readB 0 = .ok (.aload_n 0, 1) := by decide +kernel
theorem dX6_readB_1 : decode cX6_readB 1 = .ok (.iload_n 1, 1) := by decide +kernel
theorem dX6_readB_2 : decode cX6_readB 2 = .ok (.invokevirtual 62, 3) := by decide +kernel
theorem dX6_readB_5 : decode cX6_readB 5 = .ok (.ifCond .ne 5, 3) := by decide +kernel
theorem dX6_readB_8 : decode cX6_readB 8 = .ok (.iconst 0, 1) := by decide +kernel
theorem dX6_readB_9 : decode cX6_readB 9 = .ok (.ireturn, 1) := by decide +kernel
theorem dX6_readB_10 : decode cX6_readB 10 = .ok (.aload_n 0, 1) := by decide +kernel
theorem dX6_readB_11 : decode cX6_readB 11 = .ok (.invokevirtual 51, 3) := by decide +kernel
theorem dX6_readB_14 : decode cX6_readB 14 = .ok (.istore_n 2, 1) := by decide +kernel
theorem dX6_readB_15 : decode cX6_readB 15 = .ok (.iload_n 2, 1) := by decide +kernel
theorem dX6_readB_16 : decode cX6_readB 16 = .ok (.bipush 60, 2) := by decide +kernel
theorem dX6_readB_18 : decode cX6_readB 18 = .ok (.if_icmp .eq 17, 3) := by decide +kernel
theorem dX6_readB_21 : decode cX6_readB 21 = .ok (.iload_n 2, 1) := by decide +kernel
theorem dX6_readB_22 : decode cX6_readB 22 = .ok (.bipush 61, 2) := by decide +kernel
theorem dX6_readB_24 : decode cX6_readB 24 = .ok (.if_icmp .eq 11, 3) := by decide +kernel
theorem dX6_readB_27 : decode cX6_readB 27 = .ok (.iload_n 2, 1) := by decide +kernel
theorem dX6_readB_28 : decode cX6_readB 28 = .ok (.bipush 62, 2) := by decide +kernel
theorem dX6_readB_30 : decode cX6_readB 30 = .ok (.if_icmp .eq 5, 3) := by decide +kernel
theorem dX6_readB_33 : decode cX6_readB 33 = .ok (.iconst 1, 1) := by decide +kernel
theorem dX6_readB_34 : decode cX6_readB 34 = .ok (.ireturn, 1) := by decide +kernel
theorem dX6_readB_35 : decode cX6_readB 35 = .ok (.aload_n 0, 1) := by decide +kernel
theorem dX6_readB_36 : decode cX6_readB 36 = .ok (.dup, 1) := by decide +kernel
theorem dX6_readB_37 : decode cX6_readB 37 = .ok (.getfield 32, 3) := by decide +kernel
theorem dX6_readB_40 : decode cX6_readB 40 = .ok (.iconst 1, 1) := by decide +kernel
theorem dX6_readB_41 : decode cX6_readB 41 = .ok (.iadd, 1) := by decide +kernel
theorem dX6_readB_42 : decode cX6_readB 42 = .ok (.putfield 32, 3) := by decide +kernel
theorem dX6_readB_45 : decode cX6_readB 45 = .ok (.aload_n 0, 1) := by decide +kernel
theorem dX6_readB_46 : decode cX6_readB 46 = .ok (.iload_n 1, 1) := by decide +kernel
theorem dX6_readB_47 : decode cX6_readB 47 = .ok (.invokevirtual 62, 3) := by decide +kernel
theorem dX6_readB_50 : decode cX6_readB 50 = .ok (.ifCond .ne 5, 3) := by decide +kernel
theorem dX6_readB_53 : decode cX6_readB 53 = .ok (.iconst 0, 1) := by decide +kernel
theorem dX6_readB_54 : decode cX6_readB 54 = .ok (.ireturn, 1) := by decide +kernel
theorem dX6_readB_55 : decode cX6_readB 55 = .ok (.aload_n 0, 1) := by decide +kernel
theorem dX6_readB_56 : decode cX6_readB 56 = .ok (.getfield 12, 3) := by decide +kernel
theorem dX6_readB_59 : decode cX6_readB 59 = .ok (.iload_n 2, 1) := by decide +kernel
theorem dX6_readB_60 : decode cX6_readB 60 = .ok (.ineg, 1) := by decide +kernel
theorem dX6_readB_61 : decode cX6_readB 61 = .ok (.invokevirtual 55, 3) := by decide +kernel
theorem dX6_readB_64 : decode cX6_readB 64 = .ok (.iconst 1, 1) := by decide +kernel
theorem dX6_readB_65 : decode cX6_readB 65 = .ok (.ireturn, 1) := by decide +kernel
theorem dX6_readS_0 : decode cX6_readS 0 = .ok (.aload_n 0, 1) := by decide +kernel
theorem dX6_readS_1 : decode cX6_readS 1 = .ok (.iload_n 1, 1) := by decide +kernel
theorem dX6_readS_2 : decode cX6_readS 2 = .ok (.invokevirtual 65, 3) := by decide +kernel
theorem dX6_readS_5 : decode cX6_readS 5 = .ok (.ifCond .ne 5, 3) := by decide +kernel
theorem dX6_readS_8 : decode cX6_readS 8 = .ok (.iconst 0, 1) := by decide +kernel
theorem dX6_readS_9 : decode cX6_readS 9 = .ok (.ireturn, 1) := by decide +kernel
theorem dX6_readS_10 : decode cX6_readS 10 = .ok (.iconst 0, 1) := by decide +kernel
theorem dX6_readS_11 : decode cX6_readS 11 = .ok (.istore_n 2, 1) := by decide +kernel
theorem dX6_readS_12 : decode cX6_readS 12 = .ok (.iload_n 2, 1) := by decide +kernel
theorem dX6_readS_13 : decode cX6_readS 13 = .ok (.bipush 50, 2) := by decide +kernel
theorem dX6_readS_15 : decode cX6_readS 15 = .ok (.if_icmp .ge 61, 3) := by decide +kernel
theorem dX6_readS_18 : decode cX6_readS 18 = .ok (.aload_n 0, 1) := by decide +kernel
theorem dX6_readS_19 : decode cX6_readS 19 = .ok (.invokevirtual 51, 3) := by decide +kernel
theorem dX6_readS_22 : decode cX6_readS 22 = .ok (.bipush 43, 2) := by decide +kernel
theorem dX6_readS_24 : decode cX6_readS 24 = .ok (.if_icmp .eq 12, 3) := by decide +kernel
theorem dX6_readS_27 : decode cX6_readS 27 = .ok (.aload_n 0, 1) := by decide +kernel
theorem dX6_readS_28 : decode cX6_readS 28 = .ok (.invokevirtual 51, 3) := by decide +kernel
theorem dX6_readS_31 : decode cX6_readS 31 = .ok (.bipush 45, 2) := by decide +kernel
theorem dX6_readS_33 : decode cX6_readS 33 = .ok (.if_icmp .ne 43, 3) := by decide +kernel
theorem dX6_readS_36 : decode cX6_readS 36 = .ok (.aload_n 0, 1) := by decide +kernel
theorem dX6_readS_37 : decode cX6_readS 37 = .ok (.invokevirtual 51, 3) := by decide +kernel
theorem dX6_readS_40 : decode cX6_readS 40 = .ok (.istore_n 3, 1) := by decide +kernel
theorem dX6_readS_41 : decode cX6_readS 41 = .ok (.aload_n 0, 1) := by decide +kernel
theorem dX6_readS_42 : decode cX6_readS 42 = .ok (.dup, 1) := by decide +kernel
theorem dX6_readS_43 : decode cX6_readS 43 = .ok (.getfield 32, 3) := by decide +kernel
theorem dX6_readS_46 : decode cX6_readS 46 = .ok (.iconst 1, 1) := by decide +kernel
theorem dX6_readS_47 : decode cX6_readS 47 = .ok (.iadd, 1) := by decide +kernel
theorem dX6_readS_48 : decode cX6_readS 48 = .ok (.putfield 32, 3) := by decide +kernel
theorem dX6_readS_51 : decode cX6_readS 51 = .ok (.aload_n 0, 1) := by decide +kernel
theorem dX6_readS_52 : decode cX6_readS 52 = .ok (.iload_n 1, 1) := by decide +kernel
theorem dX6_readS_53 : decode cX6_readS 53 = .ok (.invokevirtual 65, 3) := by decide +kernel
theorem dX6_readS_56 : decode cX6_readS 56 = .ok (.ifCond .ne 5, 3) := by decide +kernel
theorem dX6_readS_59 : decode cX6_readS 59 = .ok (.iconst 0, 1) := by decide +kernel
theorem dX6_readS_60 : decode cX6_readS 60 = .ok (.ireturn, 1) := by decide +kernel
theorem dX6_readS_61 : decode cX6_readS 61 = .ok (.aload_n 0, 1) := by decide +kernel
theorem dX6_readS_62 : decode cX6_readS 62 = .ok (.getfield 12, 3) := by decide +kernel
theorem dX6_readS_65 : decode cX6_readS 65 = .ok (.iload_n 3, 1) := by decide +kernel
theorem dX6_readS_66 : decode cX6_readS 66 = .ok (.ineg, 1) := by decide +kernel
theorem dX6_readS_67 : decode cX6_readS 67 = .ok (.invokevirtual 55, 3) := by decide +kernel
theorem dX6_readS_70 : decode cX6_readS 70 = .ok (.iinc 2 1, 3) := by decide +kernel
theorem dX6_readS_73 : decode cX6_readS 73 = .ok (.goto (-61), 3) := by decide +kernel
theorem dX6_readS_76 : decode cX6_readS 76 = .ok (.iconst 1, 1) := by decide +kernel
theorem dX6_readS_77 : decode cX6_readS 77 = .ok (.ireturn, 1) := by decide +kernel
theorem dX6_readP_0 : decode cX6_readP 0 = .ok (.aload_n 0, 1) := by decide +kernel
theorem dX6_readP_1 : decode cX6_readP 1 = .ok (.iload_n 1, 1) := by decide +kernel
theorem dX6_readP_2 : decode cX6_readP 2 = .ok (.invokevirtual 68, 3) := by decide +kernel
theorem dX6_readP_5 : decode cX6_readP 5 = .ok (.ifCond .ne 5, 3) := by decide +kernel
theorem dX6_readP_8 : decode cX6_readP 8 = .ok (.iconst 0, 1) := by decide +kernel
theorem dX6_readP_9 : decode cX6_readP 9 = .ok (.ireturn, 1) := by decide +kernel
theorem dX6_readP_10 : decode cX6_readP 10 = .ok (.iconst 0, 1) := by decide +kernel
theorem dX6_readP_11 : decode cX6_readP 11 = .ok (.istore_n 2, 1) := by decide +kernel
theorem dX6_readP_12 : decode cX6_readP 12 = .ok (.iload_n 2, 1) := by decide +kernel
theorem dX6_readP_13 : decode cX6_readP 13 = .ok (.bipush 50, 2) := by decide +kernel
theorem dX6_readP_15 : decode cX6_readP 15 = .ok (.if_icmp .ge 70, 3) := by decide +kernel
theorem dX6_readP_18 : decode cX6_readP 18 = .ok (.aload_n 0, 1) := by decide +kernel
theorem dX6_readP_19 : decode cX6_readP 19 = .ok (.invokevirtual 51, 3) := by decide +kernel
theorem dX6_readP_22 : decode cX6_readP 22 = .ok (.bipush 42, 2) := by decide +kernel
theorem dX6_readP_24 : decode cX6_readP 24 = .ok (.if_icmp .eq 21, 3) := by decide +kernel
theorem dX6_readP_27 : decode cX6_readP 27 = .ok (.aload_n 0, 1) := by decide +kernel
theorem dX6_readP_28 : decode cX6_readP 28 = .ok (.invokevirtual 51, 3) := by decide +kernel
theorem dX6_readP_31 : decode cX6_readP 31 = .ok (.bipush 47, 2) := by decide +kernel
theorem dX6_readP_33 : decode cX6_readP 33 = .ok (.if_icmp .eq 12, 3) := by decide +kernel
theorem dX6_readP_36 : decode cX6_readP 36 = .ok (.aload_n 0, 1) := by decide +kernel
theorem dX6_readP_37 : decode cX6_readP 37 = .ok (.invokevirtual 51, 3) := by decide +kernel
theorem dX6_readP_40 : decode cX6_readP 40 = .ok (.bipush 37, 2) := by decide +kernel
theorem dX6_readP_42 : decode cX6_readP 42 = .ok (.if_icmp .ne 43, 3) := by decide +kernel
theorem dX6_readP_45 : decode cX6_readP 45 = .ok (.aload_n 0, 1) := by decide +kernel
theorem dX6_readP_46 : decode cX6_readP 46 = .ok (.invokevirtual 51, 3) := by decide +kernel
theorem dX6_readP_49 : decode cX6_readP 49 = .ok (.istore_n 3, 1) := by decide +kernel
theorem dX6_readP_50 : decode cX6_readP 50 = .ok (.aload_n 0, 1) := by decide +kernel
theorem dX6_readP_51 : decode cX6_readP 51 = .ok (.dup, 1) := by decide +kernel
theorem dX6_readP_52 : decode cX6_readP 52 = .ok (.getfield 32, 3) := by decide +kernel
theorem dX6_readP_55 : decode cX6_readP 55 = .ok (.iconst 1, 1) := by decide +kernel
theorem dX6_readP_56 : decode cX6_readP 56 = .ok (.iadd, 1) := by decide +kernel
theorem dX6_readP_57 : decode cX6_readP 57 = .ok (.putfield 32, 3) := by decide +kernel
theorem dX6_readP_60 : decode cX6_readP 60 = .ok (.aload_n 0, 1) := by decide +kernel
theorem dX6_readP_61 : decode cX6_readP 61 = .ok (.iload_n 1, 1) := by decide +kernel
theorem dX6_readP_62 : decode cX6_readP 62 = .ok (.invokevirtual 68, 3) := by decide +kernel
theorem dX6_readP_65 : decode cX6_readP 65 = .ok (.ifCond .ne 5, 3) := by decide +kernel
theorem dX6_readP_68 : decode cX6_readP 68 = .ok (.iconst 0, 1) := by decide +kernel
theorem dX6_readP_69 : decode cX6_readP 69 = .ok (.ireturn, 1) := by decide +kernel
theorem dX6_readP_70 : decode cX6_readP 70 = .ok (.aload_n 0, 1) := by decide +kernel
theorem dX6_readP_71 : decode cX6_readP 71 = .ok (.getfield 12, 3) := by decide +kernel
theorem dX6_readP_74 : decode cX6_readP 74 = .ok (.iload_n 3, 1) := by decide +kernel
theorem dX6_readP_75 : decode cX6_readP 75 = .ok (.ineg, 1) := by decide +kernel
theorem dX6_readP_76 : decode cX6_readP 76 = .ok (.invokevirtual 55, 3) := by decide +kernel
theorem dX6_readP_79 : decode cX6_readP 79 = .ok (.iinc 2 1, 3) := by decide +kernel
theorem dX6_readP_82 : decode cX6_readP 82 = .ok (.goto (-70), 3) := by decide +kernel
theorem dX6_readP_85 : decode cX6_readP 85 = .ok (.iconst 1, 1) := by decide +kernel
theorem dX6_readP_86 : decode cX6_readP 86 = .ok (.ireturn, 1) := by decide +kernel
theorem dX6_readQ_0 : decode cX6_readQ 0 = .ok (.aload_n 0, 1) := by decide +kernel
theorem dX6_readQ_1 : decode cX6_readQ 1 = .ok (.invokevirtual 51, 3) := by decide +kernel
theorem dX6_readQ_4 : decode cX6_readQ 4 = .ok (.istore_n 2, 1) := by decide +kernel
theorem dX6_readQ_5 : decode cX6_readQ 5 = .ok (.iload_n 2, 1) := by decide +kernel
theorem dX6_readQ_6 : decode cX6_readQ 6 = .ok (.invokestatic 71, 3) := by decide +kernel
theorem dX6_readQ_9 : decode cX6_readQ 9 = .ok (.ifCond .eq 9, 3) := by decide +kernel
theorem dX6_readQ_12 : decode cX6_readQ 12 = .ok (.aload_n 0, 1) := by decide +kernel
theorem dX6_readQ_13 : decode cX6_readQ 13 = .ok (.invokevirtual 74, 3) := by decide +kernel
theorem dX6_readQ_16 : decode cX6_readQ 16 = .ok (.iconst 1, 1) := by decide +kernel
theorem dX6_readQ_17 : decode cX6_readQ 17 = .ok (.ireturn, 1) := by decide +kernel
theorem dX6_readQ_18 : decode cX6_readQ 18 = .ok (.iload_n 2, 1) := by decide +kernel
theorem dX6_readQ_19 : decode cX6_readQ 19 = .ok (.bipush 33, 2) := by decide +kernel
theorem dX6_readQ_21 : decode cX6_readQ 21 = .ok (.if_icmp .eq 9, 3) := by decide +kernel
theorem dX6_readQ_24 : decode cX6_readQ 24 = .ok (.iload_n 2, 1) := by decide +kernel
theorem dX6_readQ_25 : decode cX6_readQ 25 = .ok (.bipush 40, 2) := by decide +kernel
theorem dX6_readQ_27 : decode cX6_readQ 27 = .ok (.if_icmp .ne 25, 3) := by decide +kernel
theorem dX6_readQ_30 : decode cX6_readQ 30 = .ok (.iload_n 1, 1) := by decide +kernel
theorem dX6_readQ_31 : decode cX6_readQ 31 = .ok (.iconst 5, 1) := by decide +kernel
theorem dX6_readQ_32 : decode cX6_readQ 32 = .ok (.if_icmp .ge 18, 3) := by decide +kernel
theorem dX6_readQ_35 : decode cX6_readQ 35 = .ok (.aload_n 0, 1) := by decide +kernel
theorem dX6_readQ_36 : decode cX6_readQ 36 = .ok (.iload_n 2, 1) := by decide +kernel
theorem dX6_readQ_37 : decode cX6_readQ 37 = .ok (.iload_n 1, 1) := by decide +kernel
theorem dX6_readQ_38 : decode cX6_readQ 38 = .ok (.iconst 1, 1) := by decide +kernel
theorem dX6_readQ_39 : decode cX6_readQ 39 = .ok (.iadd, 1) := by decide +kernel
theorem dX6_readQ_40 : decode cX6_readQ 40 = .ok (.invokevirtual 77, 3) := by decide +kernel
theorem dX6_readQ_43 : decode cX6_readQ 43 = .ok (.ifCond .eq 7, 3) := by decide +kernel
theorem dX6_readQ_46 : decode cX6_readQ 46 = .ok (.iconst 1, 1) := by decide +kernel
theorem dX6_readQ_47 : decode cX6_readQ 47 = .ok (.goto 4, 3) := by decide +kernel
theorem dX6_readQ_50 : decode cX6_readQ 50 = .ok (.iconst 0, 1) := by decide +kernel
theorem dX6_readQ_51 : decode cX6_readQ 51 = .ok (.ireturn, 1) := by decide +kernel
theorem dX6_readQ_52 : decode cX6_readQ 52 = .ok (.iload_n 2, 1) := by decide +kernel
theorem dX6_readQ_53 : decode cX6_readQ 53 = .ok (.iconst (-1), 1) := by decide +kernel
theorem dX6_readQ_54 : decode cX6_readQ 54 = .ok (.if_icmp .ne 7, 3) := by decide +kernel
theorem dX6_readQ_57 : decode cX6_readQ 57 = .ok (.iconst (-1), 1) := by decide +kernel
theorem dX6_readQ_58 : decode cX6_readQ 58 = .ok (.goto 12, 3) := by decide +kernel
theorem dX6_readQ_61 : decode cX6_readQ 61 = .ok (.aload_n 0, 1) := by decide +kernel
theorem dX6_readQ_62 : decode cX6_readQ 62 = .ok (.getfield 20, 3) := by decide +kernel
theorem dX6_readQ_65 : decode cX6_readQ 65 = .ok (.iload_n 2, 1) := by decide +kernel
theorem dX6_readQ_66 : decode cX6_readQ 66 = .ok (.i2c, 1) := by decide +kernel
theorem dX6_readQ_67 : decode cX6_readQ 67 = .ok (.invokevirtual 81, 3) := by decide +kernel
theorem dX6_readQ_70 : decode cX6_readQ 70 = .ok (.istore_n 3, 1) := by decide +kernel
theorem dX6_readQ_71 : decode cX6_readQ 71 = .ok (.iload_n 3, 1) := by decide +kernel
theorem dX6_readQ_72 : decode cX6_readQ 72 = .ok (.ifCond .ge 5, 3) := by decide +kernel
theorem dX6_readQ_75 : decode cX6_readQ 75 = .ok (.iconst 0, 1) := by decide +kernel
theorem dX6_readQ_76 : decode cX6_readQ 76 = .ok (.ireturn, 1) := by decide +kernel
theorem dX6_readQ_77 : decode cX6_readQ 77 = .ok (.aload_n 0, 1) := by decide +kernel
theorem dX6_readQ_78 : decode cX6_readQ 78 = .ok (.dup, 1) := by decide +kernel
theorem dX6_readQ_79 : decode cX6_readQ 79 = .ok (.getfield 32, 3) := by decide +kernel
theorem dX6_readQ_82 : decode cX6_readQ 82 = .ok (.iconst 1, 1) := by decide +kernel
theorem dX6_readQ_83 : decode cX6_readQ 83 = .ok (.iadd, 1) := by decide +kernel
theorem dX6_readQ_84 : decode cX6_readQ 84 = .ok (.putfield 32, 3) := by decide +kernel
theorem dX6_readQ_87 : decode cX6_readQ 87 = .ok (.aload_n 0, 1) := by decide +kernel
theorem dX6_readQ_88 : decode cX6_readQ 88 = .ok (.getfield 12, 3) := by decide +kernel
theorem dX6_readQ_91 : decode cX6_readQ 91 = .ok (.iconst (-1), 1) := by decide +kernel
theorem dX6_readQ_92 : decode cX6_readQ 92 = .ok (.iload_n 3, 1) := by decide +kernel
theorem dX6_readQ_93 : decode cX6_readQ 93 = .ok (.isub, 1) := by decide +kernel
theorem dX6_readQ_94 : decode cX6_readQ 94 = .ok (.invokevirtual 55, 3) := by decide +kernel
theorem dX6_readQ_97 : decode cX6_readQ 97 = .ok (.iconst 1, 1) := by decide +kernel
theorem dX6_readQ_98 : decode cX6_readQ 98 = .ok (.ireturn, 1) := by decide +kernel
theorem dX6_readOpen_0 : decode cX6_readOpen 0 = .ok (.aload_n 0, 1) := by decide +kernel
theorem dX6_readOpen_1 : decode cX6_readOpen 1 = .ok (.dup, 1) := by decide +kernel
theorem dX6_readOpen_2 : decode cX6_readOpen 2 = .ok (.getfield 32, 3) := by decide +kernel
theorem dX6_readOpen_5 : decode cX6_readOpen 5 = .ok (.iconst 1, 1) := by decide +kernel
theorem dX6_readOpen_6 : decode cX6_readOpen 6 = .ok (.iadd, 1) := by decide +kernel
theorem dX6_readOpen_7 : decode cX6_readOpen 7 = .ok (.putfield 32, 3) := by decide +kernel
theorem dX6_readOpen_10 : decode cX6_readOpen 10 = .ok (.iload_n 1, 1) := by decide +kernel
theorem dX6_readOpen_11 : decode cX6_readOpen 11 = .ok (.bipush 33, 2) := by decide +kernel
theorem dX6_readOpen_13 : decode cX6_readOpen 13 = .ok (.if_icmp .ne 24, 3) := by decide +kernel
theorem dX6_readOpen_16 : decode cX6_readOpen 16 = .ok (.aload_n 0, 1) := by decide +kernel
theorem dX6_readOpen_17 : decode cX6_readOpen 17 = .ok (.iload_n 2, 1) := by decide +kernel
theorem dX6_readOpen_18 : decode cX6_readOpen 18 = .ok (.invokevirtual 68, 3) := by decide +kernel
theorem dX6_readOpen_21 : decode cX6_readOpen 21 = .ok (.ifCond .ne 5, 3) := by decide +kernel
theorem dX6_readOpen_24 : decode cX6_readOpen 24 = .ok (.iconst 0, 1) := by decide +kernel
theorem dX6_readOpen_25 : decode cX6_readOpen 25 = .ok (.ireturn, 1) := by decide +kernel
theorem dX6_readOpen_26 : decode cX6_readOpen 26 = .ok (.aload_n 0, 1) := by decide +kernel
theorem dX6_readOpen_27 : decode cX6_readOpen 27 = .ok (.getfield 12, 3) := by decide +kernel
theorem dX6_readOpen_30 : decode cX6_readOpen 30 = .ok (.bipush (-33), 2) := by decide +kernel
theorem dX6_readOpen_32 : decode cX6_readOpen 32 = .ok (.invokevirtual 55, 3) := by decide +kernel
theorem dX6_readOpen_35 : decode cX6_readOpen 35 = .ok (.iconst 1, 1) := by decide +kernel
theorem dX6_readOpen_36 : decode cX6_readOpen 36 = .ok (.ireturn, 1) := by decide +kernel
theorem dX6_readOpen_37 : decode cX6_readOpen 37 = .ok (.aload_n 0, 1) := by decide +kernel
theorem dX6_readOpen_38 : decode cX6_readOpen 38 = .ok (.iload_n 2, 1) := by decide +kernel
theorem dX6_readOpen_39 : decode cX6_readOpen 39 = .ok (.invokevirtual 40, 3) := by decide +kernel
theorem dX6_readOpen_42 : decode cX6_readOpen 42 = .ok (.ifCond .eq 12, 3) := by decide +kernel
theorem dX6_readOpen_45 : decode cX6_readOpen 45 = .ok (.aload_n 0, 1) := by decide +kernel
theorem dX6_readOpen_46 : decode cX6_readOpen 46 = .ok (.invokevirtual 51, 3) := by decide +kernel
theorem dX6_readOpen_49 : decode cX6_readOpen 49 = .ok (.bipush 41, 2) := by decide +kernel
theorem dX6_readOpen_51 : decode cX6_readOpen 51 = .ok (.if_icmp .eq 5, 3) := by decide +kernel
theorem dX6_readOpen_54 : decode cX6_readOpen 54 = .ok (.iconst 0, 1) := by decide +kernel
theorem dX6_readOpen_55 : decode cX6_readOpen 55 = .ok (.ireturn, 1) := by decide +kernel
theorem dX6_readOpen_56 : decode cX6_readOpen 56 = .ok (.aload_n 0, 1) := by decide +kernel
theorem dX6_readOpen_57 : decode cX6_readOpen 57 = .ok (.dup, 1) := by decide +kernel
theorem dX6_readOpen_58 : decode cX6_readOpen 58 = .ok (.getfield 32, 3) := by decide +kernel
theorem dX6_readOpen_61 : decode cX6_readOpen 61 = .ok (.iconst 1, 1) := by decide +kernel
theorem dX6_readOpen_62 : decode cX6_readOpen 62 = .ok (.iadd, 1) := by decide +kernel
theorem dX6_readOpen_63 : decode cX6_readOpen 63 = .ok (.putfield 32, 3) := by decide +kernel
theorem dX6_readOpen_66 : decode cX6_readOpen 66 = .ok (.iconst 1, 1) := by decide +kernel
theorem dX6_readOpen_67 : decode cX6_readOpen 67 = .ok (.ireturn, 1) := by decide +kernel
theorem dX6_readNumber_0 : decode cX6_readNumber 0 = .ok (.iconst 0, 1) := by decide +kernel
theorem dX6_readNumber_1 : decode cX6_readNumber 1 = .ok (.istore_n 1, 1) := by decide +kernel
theorem dX6_readNumber_2 : decode cX6_readNumber 2 = .ok (.iconst 0, 1) := by decide +kernel
theorem dX6_readNumber_3 : decode cX6_readNumber 3 = .ok (.istore_n 2, 1) := by decide +kernel
theorem dX6_readNumber_4 : decode cX6_readNumber 4 = .ok (.iload_n 2, 1) := by decide +kernel
theorem dX6_readNumber_5 : decode cX6_readNumber 5 = .ok (.iconst 4, 1) := by decide +kernel
theorem dX6_readNumber_6 : decode cX6_readNumber 6 = .ok (.if_icmp .ge 42, 3) := by decide +kernel
theorem dX6_readNumber_9 : decode cX6_readNumber 9 = .ok (.aload_n 0, 1) := by decide +kernel
theorem dX6_readNumber_10 : decode cX6_readNumber 10 = .ok (.invokevirtual 51, 3) := by decide +kernel
theorem dX6_readNumber_13 : decode cX6_readNumber 13 = .ok (.invokestatic 71, 3) := by decide +kernel
theorem dX6_readNumber_16 : decode cX6_readNumber 16 = .ok (.ifCond .eq 32, 3) := by decide +kernel
theorem dX6_readNumber_19 : decode cX6_readNumber 19 = .ok (.iload_n 1, 1) := by decide +kernel
theorem dX6_readNumber_20 : decode cX6_readNumber 20 = .ok (.bipush 10, 2) := by decide +kernel
theorem dX6_readNumber_22 : decode cX6_readNumber 22 = .ok (.imul, 1) := by decide +kernel
theorem dX6_readNumber_23 : decode cX6_readNumber 23 = .ok (.aload_n 0, 1) := by decide +kernel
theorem dX6_readNumber_24 : decode cX6_readNumber 24 = .ok (.invokevirtual 51, 3) := by decide +kernel
theorem dX6_readNumber_27 : decode cX6_readNumber 27 = .ok (.iadd, 1) := by decide +kernel
theorem dX6_readNumber_28 : decode cX6_readNumber 28 = .ok (.bipush 48, 2) := by decide +kernel
theorem dX6_readNumber_30 : decode cX6_readNumber 30 = .ok (.isub, 1) := by decide +kernel
theorem dX6_readNumber_31 : decode cX6_readNumber 31 = .ok (.istore_n 1, 1) := by decide +kernel
theorem dX6_readNumber_32 : decode cX6_readNumber 32 = .ok (.aload_n 0, 1) := by decide +kernel
theorem dX6_readNumber_33 : decode cX6_readNumber 33 = .ok (.dup, 1) := by decide +kernel
theorem dX6_readNumber_34 : decode cX6_readNumber 34 = .ok (.getfield 32, 3) := by decide +kernel
theorem dX6_readNumber_37 : decode cX6_readNumber 37 = .ok (.iconst 1, 1) := by decide +kernel
theorem dX6_readNumber_38 : decode cX6_readNumber 38 = .ok (.iadd, 1) := by decide +kernel
theorem dX6_readNumber_39 : decode cX6_readNumber 39 = .ok (.putfield 32, 3) := by decide +kernel
theorem dX6_readNumber_42 : decode cX6_readNumber 42 = .ok (.iinc 2 1, 3) := by decide +kernel
theorem dX6_readNumber_45 : decode cX6_readNumber 45 = .ok (.goto (-41), 3) := by decide +kernel
theorem dX6_readNumber_48 : decode cX6_readNumber 48 = .ok (.aload_n 0, 1) := by decide +kernel
theorem dX6_readNumber_49 : decode cX6_readNumber 49 = .ok (.getfield 12, 3) := by decide +kernel
theorem dX6_readNumber_52 : decode cX6_readNumber 52 = .ok (.iload_n 1, 1) := by decide +kernel
theorem dX6_readNumber_53 : decode cX6_readNumber 53 = .ok (.invokevirtual 55, 3) := by decide +kernel
theorem dX6_readNumber_56 : decode cX6_readNumber 56 = .ok (.return_, 1) := by decide +kernel
theorem dX6_isDigit_0 : decode cX6_isDigit 0 = .ok (.iload_n 0, 1) := by decide +kernel
theorem dX6_isDigit_1 : decode cX6_isDigit 1 = .ok (.bipush 48, 2) := by decide +kernel
theorem dX6_isDigit_3 : decode cX6_isDigit 3 = .ok (.bipush 57, 2) := by decide +kernel
theorem dX6_isDigit_5 : decode cX6_isDigit 5 = .ok (.invokestatic 44, 3) := by decide +kernel
theorem dX6_isDigit_8 : decode cX6_isDigit 8 = .ok (.ireturn, 1) := by decide +kernel
theorem dX7_init_0 : decode cX7_init 0 = .ok (.aload_n 0, 1) := by decide +kernel
theorem dX7_init_1 : decode cX7_init 1 = .ok (.invokespecial 3, 3) := by decide +kernel
theorem dX7_init_4 : decode cX7_init 4 = .ok (.aload_n 0, 1) := by decide +kernel
theorem dX7_init_5 : decode cX7_init 5 = .ok (.bipush 32, 2) := by decide +kernel
theorem dX7_init_7 : decode cX7_init 7 = .ok (.newarray .int, 2) := by decide +kernel
theorem dX7_init_9 : decode cX7_init 9 = .ok (.putfield 9, 3) := by decide +kernel
theorem dX7_init_12 : decode cX7_init 12 = .ok (.aload_n 0, 1) := by decide +kernel
theorem dX7_init_13 : decode cX7_init 13 = .ok (.bipush 32, 2) := by decide +kernel
theorem dX7_init_15 : decode cX7_init 15 = .ok (.newarray .long, 2) := by decide +kernel
theorem dX7_init_17 : decode cX7_init 17 = .ok (.putfield 15, 3) := by decide +kernel
theorem dX7_init_20 : decode cX7_init 20 = .ok (.aload_n 0, 1) := by decide +kernel
theorem dX7_init_21 : decode cX7_init 21 = .ok (.bipush 32, 2) := by decide +kernel
theorem dX7_init_23 : decode cX7_init 23 = .ok (.newarray .int, 2) := by decide +kernel
theorem dX7_init_25 : decode cX7_init 25 = .ok (.putfield 19, 3) := by decide +kernel
theorem dX7_init_28 : decode cX7_init 28 = .ok (.aload_n 0, 1) := by decide +kernel
theorem dX7_init_29 : decode cX7_init 29 = .ok (.bipush 32, 2) := by decide +kernel
theorem dX7_init_31 : decode cX7_init 31 = .ok (.newarray .long, 2) := by decide +kernel
theorem dX7_init_33 : decode cX7_init 33 = .ok (.putfield 22, 3) := by decide +kernel
theorem dX7_init_36 : decode cX7_init 36 = .ok (.return_, 1) := by decide +kernel
theorem dX7_weigh_0 : decode cX7_weigh 0 = .ok (.aload_n 1, 1) := by decide +kernel
theorem dX7_weigh_1 : decode cX7_weigh 1 = .ok (.iload_n 2, 1) := by decide +kernel
theorem dX7_weigh_2 : decode cX7_weigh 2 = .ok (.iload 4, 2) := by decide +kernel
theorem dX7_weigh_4 : decode cX7_weigh 4 = .ok (.aload_n 0, 1) := by decide +kernel
theorem dX7_weigh_5 : decode cX7_weigh 5 = .ok (.getfield 9, 3) := by decide +kernel
theorem dX7_weigh_8 : decode cX7_weigh 8 = .ok (.aload_n 0, 1) := by decide +kernel
theorem dX7_weigh_9 : decode cX7_weigh 9 = .ok (.getfield 15, 3) := by decide +kernel
theorem dX7_weigh_12 : decode cX7_weigh 12 = .ok (.invokestatic 25, 3) := by decide +kernel
theorem dX7_weigh_15 : decode cX7_weigh 15 = .ok (.istore 5, 2) := by decide +kernel
theorem dX7_weigh_17 : decode cX7_weigh 17 = .ok (.aload_n 1, 1) := by decide +kernel
theorem dX7_weigh_18 : decode cX7_weigh 18 = .ok (.iload_n 3, 1) := by decide +kernel
theorem dX7_weigh_19 : decode cX7_weigh 19 = .ok (.iload 4, 2) := by decide +kernel
theorem dX7_weigh_21 : decode cX7_weigh 21 = .ok (.aload_n 0, 1) := by decide +kernel
theorem dX7_weigh_22 : decode cX7_weigh 22 = .ok (.getfield 19, 3) := by decide +kernel
theorem dX7_weigh_25 : decode cX7_weigh 25 = .ok (.aload_n 0, 1) := by decide +kernel
theorem dX7_weigh_26 : decode cX7_weigh 26 = .ok (.getfield 22, 3) := by decide +kernel
theorem dX7_weigh_29 : decode cX7_weigh 29 = .ok (.invokestatic 25, 3) := by decide +kernel
theorem dX7_weigh_32 : decode cX7_weigh 32 = .ok (.istore 6, 2) := by decide +kernel
theorem dX7_weigh_34 : decode cX7_weigh 34 = .ok (.aload_n 0, 1) := by decide +kernel
theorem dX7_weigh_35 : decode cX7_weigh 35 = .ok (.lconst 0, 1) := by decide +kernel
theorem dX7_weigh_36 : decode cX7_weigh 36 = .ok (.putfield 29, 3) := by decide +kernel
theorem dX7_weigh_39 : decode cX7_weigh 39 = .ok (.aload_n 0, 1) := by decide +kernel
theorem dX7_weigh_40 : decode cX7_weigh 40 = .ok (.lconst 0, 1) := by decide +kernel
theorem dX7_weigh_41 : decode cX7_weigh 41 = .ok (.putfield 33, 3) := by decide +kernel
theorem dX7_weigh_44 : decode cX7_weigh 44 = .ok (.iconst 0, 1) := by decide +kernel
theorem dX7_weigh_45 : decode cX7_weigh 45 = .ok (.istore 7, 2) := by decide +kernel
theorem dX7_weigh_47 : decode cX7_weigh 47 = .ok (.iload 7, 2) := by decide +kernel
theorem dX7_weigh_49 : decode cX7_weigh 49 = .ok (.iload 5, 2) := by decide +kernel
theorem dX7_weigh_51 : decode cX7_weigh 51 = .ok (.if_icmp .ge 101, 3) := by decide +kernel
theorem dX7_weigh_54 : decode cX7_weigh 54 = .ok (.iload 7, 2) := by decide +kernel
theorem dX7_weigh_56 : decode cX7_weigh 56 = .ok (.aload_n 0, 1) := by decide +kernel
theorem dX7_weigh_57 : decode cX7_weigh 57 = .ok (.getfield 9, 3) := by decide +kernel
theorem dX7_weigh_60 : decode cX7_weigh 60 = .ok (.arraylength, 1) := by decide +kernel
theorem dX7_weigh_61 : decode cX7_weigh 61 = .ok (.if_icmp .ge 91, 3) := by decide +kernel
theorem dX7_weigh_64 : decode cX7_weigh 64 = .ok (.iconst 0, 1) := by decide +kernel
theorem dX7_weigh_65 : decode cX7_weigh 65 = .ok (.istore 8, 2) := by decide +kernel
theorem dX7_weigh_67 : decode cX7_weigh 67 = .ok (.iload 8, 2) := by decide +kernel
theorem dX7_weigh_69 : decode cX7_weigh 69 = .ok (.iload 6, 2) := by decide +kernel
theorem dX7_weigh_71 : decode cX7_weigh 71 = .ok (.if_icmp .ge 75, 3) := by decide +kernel
theorem dX7_weigh_74 : decode cX7_weigh 74 = .ok (.iload 8, 2) := by decide +kernel
theorem dX7_weigh_76 : decode cX7_weigh 76 = .ok (.aload_n 0, 1) := by decide +kernel
theorem dX7_weigh_77 : decode cX7_weigh 77 = .ok (.getfield 19, 3) := by decide +kernel
theorem dX7_weigh_80 : decode cX7_weigh 80 = .ok (.arraylength, 1) := by decide +kernel
theorem dX7_weigh_81 : decode cX7_weigh 81 = .ok (.if_icmp .ge 65, 3) := by decide +kernel
theorem dX7_weigh_84 : decode cX7_weigh 84 = .ok (.aload_n 0, 1) := by decide +kernel
theorem dX7_weigh_85 : decode cX7_weigh 85 = .ok (.getfield 15, 3) := by decide +kernel
theorem dX7_weigh_88 : decode cX7_weigh 88 = .ok (.iload 7, 2) := by decide +kernel
theorem dX7_weigh_90 : decode cX7_weigh 90 = .ok (.laload, 1) := by decide +kernel
theorem dX7_weigh_91 : decode cX7_weigh 91 = .ok (.aload_n 0, 1) := by decide +kernel
theorem dX7_weigh_92 : decode cX7_weigh 92 = .ok (.getfield 22, 3) := by decide +kernel
theorem dX7_weigh_95 : decode cX7_weigh 95 = .ok (.iload 8, 2) := by decide +kernel
theorem dX7_weigh_97 : decode cX7_weigh 97 = .ok (.laload, 1) := by decide +kernel
theorem dX7_weigh_98 : decode cX7_weigh 98 = .ok (.lmul, 1) := by decide +kernel
theorem dX7_weigh_99 : decode cX7_weigh 99 = .ok (.lstore 9, 2) := by decide +kernel
theorem dX7_weigh_101 : decode cX7_weigh 101 = .ok (.aload_n 0, 1) := by decide +kernel
theorem dX7_weigh_102 : decode cX7_weigh 102 = .ok (.dup, 1) := by decide +kernel
theorem dX7_weigh_103 : decode cX7_weigh 103 = .ok (.getfield 33, 3) := by decide +kernel
theorem dX7_weigh_106 : decode cX7_weigh 106 = .ok (.lload 9, 2) := by decide +kernel
theorem dX7_weigh_108 : decode cX7_weigh 108 = .ok (.ladd, 1) := by decide +kernel
theorem dX7_weigh_109 : decode cX7_weigh 109 = .ok (.putfield 33, 3) := by decide +kernel
theorem dX7_weigh_112 : decode cX7_weigh 112 = .ok (.aload_n 0, 1) := by decide +kernel
theorem dX7_weigh_113 : decode cX7_weigh 113 = .ok (.getfield 9, 3) := by decide +kernel
theorem dX7_weigh_116 : decode cX7_weigh 116 = .ok (.iload 7, 2) := by decide +kernel
theorem dX7_weigh_118 : decode cX7_weigh 118 = .ok (.iaload, 1) := by decide +kernel
theorem dX7_weigh_119 : decode cX7_weigh 119 = .ok (.aload_n 0, 1) := by decide +kernel
theorem dX7_weigh_120 : decode cX7_weigh 120 = .ok (.getfield 19, 3) := by decide +kernel
theorem dX7_weigh_123 : decode cX7_weigh 123 = .ok (.iload 8, 2) := by decide +kernel
theorem dX7_weigh_125 : decode cX7_weigh 125 = .ok (.iaload, 1) := by decide +kernel
theorem dX7_weigh_126 : decode cX7_weigh 126 = .ok (.if_icmp .le 14, 3) := by decide +kernel
theorem dX7_weigh_129 : decode cX7_weigh 129 = .ok (.aload_n 0, 1) := by decide +kernel
theorem dX7_weigh_130 : decode cX7_weigh 130 = .ok (.dup, 1) := by decide +kernel
theorem dX7_weigh_131 : decode cX7_weigh 131 = .ok (.getfield 29, 3) := by decide +kernel
theorem dX7_weigh_134 : decode cX7_weigh 134 = .ok (.lload 9, 2) := by decide +kernel
theorem dX7_weigh_136 : decode cX7_weigh 136 = .ok (.ladd, 1) := by decide +kernel
theorem dX7_weigh_137 : decode cX7_weigh 137 = .ok (.putfield 29, 3) := by decide +kernel
theorem dX7_weigh_140 : decode cX7_weigh 140 = .ok (.iinc 8 1, 3) := by decide +kernel
theorem dX7_weigh_143 : decode cX7_weigh 143 = .ok (.goto (-76), 3) := by decide +kernel
theorem dX7_weigh_146 : decode cX7_weigh 146 = .ok (.iinc 7 1, 3) := by decide +kernel
theorem dX7_weigh_149 : decode cX7_weigh 149 = .ok (.goto (-102), 3) := by decide +kernel
theorem dX7_weigh_152 : decode cX7_weigh 152 = .ok (.return_, 1) := by decide +kernel
theorem dX7_lay_0 : decode cX7_lay 0 = .ok (.aload_n 3, 1) := by decide +kernel
theorem dX7_lay_1 : decode cX7_lay 1 = .ok (.iconst 0, 1) := by decide +kernel
theorem dX7_lay_2 : decode cX7_lay 2 = .ok (.iconst 0, 1) := by decide +kernel
theorem dX7_lay_3 : decode cX7_lay 3 = .ok (.iastore, 1) := by decide +kernel
theorem dX7_lay_4 : decode cX7_lay 4 = .ok (.aload 4, 2) := by decide +kernel
theorem dX7_lay_6 : decode cX7_lay 6 = .ok (.iconst 0, 1) := by decide +kernel
theorem dX7_lay_7 : decode cX7_lay 7 = .ok (.lconst 1, 1) := by decide +kernel
theorem dX7_lay_8 : decode cX7_lay 8 = .ok (.lastore, 1) := by decide +kernel
theorem dX7_lay_9 : decode cX7_lay 9 = .ok (.iconst 1, 1) := by decide +kernel
theorem dX7_lay_10 : decode cX7_lay 10 = .ok (.istore 5, 2) := by decide +kernel
theorem dX7_lay_12 : decode cX7_lay 12 = .ok (.iconst 0, 1) := by decide +kernel
theorem dX7_lay_13 : decode cX7_lay 13 = .ok (.istore 6, 2) := by decide +kernel
theorem dX7_lay_15 : decode cX7_lay 15 = .ok (.iconst 0, 1) := by decide +kernel
theorem dX7_lay_16 : decode cX7_lay 16 = .ok (.istore 7, 2) := by decide +kernel
theorem dX7_lay_18 : decode cX7_lay 18 = .ok (.iload 7, 2) := by decide +kernel
theorem dX7_lay_20 : decode cX7_lay 20 = .ok (.aload_n 0, 1) := by decide +kernel
theorem dX7_lay_21 : decode cX7_lay 21 = .ok (.getfield 36, 3) := by decide +kernel
theorem dX7_lay_24 : decode cX7_lay 24 = .ok (.if_icmp .ge 133, 3) := by decide +kernel
theorem dX7_lay_27 : decode cX7_lay 27 = .ok (.iload 7, 2) := by decide +kernel
theorem dX7_lay_29 : decode cX7_lay 29 = .ok (.bipush 12, 2) := by decide +kernel
theorem dX7_lay_31 : decode cX7_lay 31 = .ok (.if_icmp .ge 126, 3) := by decide +kernel
theorem dX7_lay_34 : decode cX7_lay 34 = .ok (.iload 6, 2) := by decide +kernel
theorem dX7_lay_36 : decode cX7_lay 36 = .ok (.iconst 5, 1) := by decide +kernel
theorem dX7_lay_37 : decode cX7_lay 37 = .ok (.if_icmp .ge 120, 3) := by decide +kernel
theorem dX7_lay_40 : decode cX7_lay 40 = .ok (.aload_n 0, 1) := by decide +kernel
theorem dX7_lay_41 : decode cX7_lay 41 = .ok (.getfield 42, 3) := by decide +kernel
theorem dX7_lay_44 : decode cX7_lay 44 = .ok (.iload 7, 2) := by decide +kernel
theorem dX7_lay_46 : decode cX7_lay 46 = .ok (.iaload, 1) := by decide +kernel
theorem dX7_lay_47 : decode cX7_lay 47 = .ok (.iload_n 1, 1) := by decide +kernel
theorem dX7_lay_48 : decode cX7_lay 48 = .ok (.if_icmp .ne 103, 3) := by decide +kernel
theorem dX7_lay_51 : decode cX7_lay 51 = .ok (.aload_n 0, 1) := by decide +kernel
theorem dX7_lay_52 : decode cX7_lay 52 = .ok (.getfield 45, 3) := by decide +kernel
theorem dX7_lay_55 : decode cX7_lay 55 = .ok (.getfield 49, 3) := by decide +kernel
theorem dX7_lay_58 : decode cX7_lay 58 = .ok (.iload 7, 2) := by decide +kernel
theorem dX7_lay_60 : decode cX7_lay 60 = .ok (.iaload, 1) := by decide +kernel
theorem dX7_lay_61 : decode cX7_lay 61 = .ok (.iconst 1, 1) := by decide +kernel
theorem dX7_lay_62 : decode cX7_lay 62 = .ok (.if_icmp .eq 6, 3) := by decide +kernel
theorem dX7_lay_65 : decode cX7_lay 65 = .ok (.goto 86, 3) := by decide +kernel
theorem dX7_lay_68 : decode cX7_lay 68 = .ok (.iinc 6 1, 3) := by decide +kernel
theorem dX7_lay_71 : decode cX7_lay 71 = .ok (.iconst 0, 1) := by decide +kernel
theorem dX7_lay_72 : decode cX7_lay 72 = .ok (.istore 8, 2) := by decide +kernel
theorem dX7_lay_74 : decode cX7_lay 74 = .ok (.iload 8, 2) := by decide +kernel
theorem dX7_lay_76 : decode cX7_lay 76 = .ok (.iload 5, 2) := by decide +kernel
theorem dX7_lay_78 : decode cX7_lay 78 = .ok (.if_icmp .ge 67, 3) := by decide +kernel
theorem dX7_lay_81 : decode cX7_lay 81 = .ok (.iload 5, 2) := by decide +kernel
theorem dX7_lay_83 : decode cX7_lay 83 = .ok (.iload 8, 2) := by decide +kernel
theorem dX7_lay_85 : decode cX7_lay 85 = .ok (.iadd, 1) := by decide +kernel
theorem dX7_lay_86 : decode cX7_lay 86 = .ok (.aload_n 3, 1) := by decide +kernel
theorem dX7_lay_87 : decode cX7_lay 87 = .ok (.arraylength, 1) := by decide +kernel
theorem dX7_lay_88 : decode cX7_lay 88 = .ok (.if_icmp .ge 57, 3) := by decide +kernel
theorem dX7_lay_91 : decode cX7_lay 91 = .ok (.aload_n 3, 1) := by decide +kernel
theorem dX7_lay_92 : decode cX7_lay 92 = .ok (.iload 5, 2) := by decide +kernel
theorem dX7_lay_94 : decode cX7_lay 94 = .ok (.iload 8, 2) := by decide +kernel
theorem dX7_lay_96 : decode cX7_lay 96 = .ok (.iadd, 1) := by decide +kernel
theorem dX7_lay_97 : decode cX7_lay 97 = .ok (.aload_n 3, 1) := by decide +kernel
theorem dX7_lay_98 : decode cX7_lay 98 = .ok (.iload 8, 2) := by decide +kernel
theorem dX7_lay_100 : decode cX7_lay 100 = .ok (.iaload, 1) := by decide +kernel
theorem dX7_lay_101 : decode cX7_lay 101 = .ok (.aload_n 0, 1) := by decide +kernel
theorem dX7_lay_102 : decode cX7_lay 102 = .ok (.getfield 54, 3) := by decide +kernel
theorem dX7_lay_105 : decode cX7_lay 105 = .ok (.iload 7, 2) := by decide +kernel
theorem dX7_lay_107 : decode cX7_lay 107 = .ok (.iaload, 1) := by decide +kernel
theorem dX7_lay_108 : decode cX7_lay 108 = .ok (.iadd, 1) := by decide +kernel
theorem dX7_lay_109 : decode cX7_lay 109 = .ok (.iastore, 1) := by decide +kernel
theorem dX7_lay_110 : decode cX7_lay 110 = .ok (.aload 4, 2) := by decide +kernel
theorem dX7_lay_112 : decode cX7_lay 112 = .ok (.iload 5, 2) := by decide +kernel
theorem dX7_lay_114 : decode cX7_lay 114 = .ok (.iload 8, 2) := by decide +kernel
theorem dX7_lay_116 : decode cX7_lay 116 = .ok (.iadd, 1) := by decide +kernel
theorem dX7_lay_117 : decode cX7_lay 117 = .ok (.aload 4, 2) := by decide +kernel
theorem dX7_lay_119 : decode cX7_lay 119 = .ok (.iload 8, 2) := by decide +kernel
theorem dX7_lay_121 : decode cX7_lay 121 = .ok (.laload, 1) := by decide +kernel
theorem dX7_lay_122 : decode cX7_lay 122 = .ok (.iload_n 2, 1) := by decide +kernel
theorem dX7_lay_123 : decode cX7_lay 123 = .ok (.i2l, 1) := by decide +kernel
theorem dX7_lay_124 : decode cX7_lay 124 = .ok (.lmul, 1) := by decide +kernel
theorem dX7_lay_125 : decode cX7_lay 125 = .ok (.lastore, 1) := by decide +kernel
theorem dX7_lay_126 : decode cX7_lay 126 = .ok (.aload 4, 2) := by decide +kernel
theorem dX7_lay_128 : decode cX7_lay 128 = .ok (.iload 8, 2) := by decide +kernel
theorem dX7_lay_130 : decode cX7_lay 130 = .ok (.dup2, 1) := by decide +kernel
theorem dX7_lay_131 : decode cX7_lay 131 = .ok (.laload, 1) := by decide +kernel
theorem dX7_lay_132 : decode cX7_lay 132 = .ok (.bipush 16, 2) := by decide +kernel
theorem dX7_lay_134 : decode cX7_lay 134 = .ok (.iload_n 2, 1) := by decide +kernel
theorem dX7_lay_135 : decode cX7_lay 135 = .ok (.isub, 1) := by decide +kernel
theorem dX7_lay_136 : decode cX7_lay 136 = .ok (.i2l, 1) := by decide +kernel
theorem dX7_lay_137 : decode cX7_lay 137 = .ok (.lmul, 1) := by decide +kernel
theorem dX7_lay_138 : decode cX7_lay 138 = .ok (.lastore, 1) := by decide +kernel
theorem dX7_lay_139 : decode cX7_lay 139 = .ok (.iinc 8 1, 3) := by decide +kernel
theorem dX7_lay_142 : decode cX7_lay 142 = .ok (.goto (-68), 3) := by decide +kernel
theorem dX7_lay_145 : decode cX7_lay 145 = .ok (.iload 5, 2) := by decide +kernel
theorem dX7_lay_147 : decode cX7_lay 147 = .ok (.iconst 2, 1) := by decide +kernel
theorem dX7_lay_148 : decode cX7_lay 148 = .ok (.imul, 1) := by decide +kernel
theorem dX7_lay_149 : decode cX7_lay 149 = .ok (.istore 5, 2) := by decide +kernel
theorem dX7_lay_151 : decode cX7_lay 151 = .ok (.iinc 7 1, 3) := by decide +kernel
theorem dX7_lay_154 : decode cX7_lay 154 = .ok (.goto (-136), 3) := by decide +kernel
theorem dX7_lay_157 : decode cX7_lay 157 = .ok (.iload 5, 2) := by decide +kernel
theorem dX7_lay_159 : decode cX7_lay 159 = .ok (.ireturn, 1) := by decide +kernel
theorem dX8_init_0 : decode cX8_init 0 = .ok (.aload_n 0, 1) := by decide +kernel
theorem dX8_init_1 : decode cX8_init 1 = .ok (.invokespecial 3, 3) := by decide +kernel
theorem dX8_init_4 : decode cX8_init 4 = .ok (.aload_n 0, 1) := by decide +kernel
theorem dX8_init_5 : decode cX8_init 5 = .ok (.iconst 4, 1) := by decide +kernel
theorem dX8_init_6 : decode cX8_init 6 = .ok (.newarray .int, 2) := by decide +kernel
theorem dX8_init_8 : decode cX8_init 8 = .ok (.putfield 9, 3) := by decide +kernel
theorem dX8_init_11 : decode cX8_init 11 = .ok (.aload_n 0, 1) := by decide +kernel
theorem dX8_init_12 : decode cX8_init 12 = .ok (.iconst 4, 1) := by decide +kernel
theorem dX8_init_13 : decode cX8_init 13 = .ok (.newarray .int, 2) := by decide +kernel
theorem dX8_init_15 : decode cX8_init 15 = .ok (.putfield 15, 3) := by decide +kernel
theorem dX8_init_18 : decode cX8_init 18 = .ok (.aload_n 0, 1) := by decide +kernel
theorem dX8_init_19 : decode cX8_init 19 = .ok (.iconst 4, 1) := by decide +kernel
theorem dX8_init_20 : decode cX8_init 20 = .ok (.bipush 40, 2) := by decide +kernel
theorem dX8_init_22 : decode cX8_init 22 = .ok (.multianewarray 18 2, 4) := by decide +kernel
theorem dX8_init_26 : decode cX8_init 26 = .ok (.putfield 20, 3) := by decide +kernel
theorem dX8_init_29 : decode cX8_init 29 = .ok (.return_, 1) := by decide +kernel
theorem dX8_has_0 : decode cX8_has 0 = .ok (.iload_n 1, 1) := by decide +kernel
theorem dX8_has_1 : decode cX8_has 1 = .ok (.iconst 0, 1) := by decide +kernel
theorem dX8_has_2 : decode cX8_has 2 = .ok (.iconst 3, 1) := by decide +kernel
theorem dX8_has_3 : decode cX8_has 3 = .ok (.invokestatic 23, 3) := by decide +kernel
theorem dX8_has_6 : decode cX8_has 6 = .ok (.ireturn, 1) := by decide +kernel
theorem dX8_isMissing_0 : decode cX8_isMissing 0 = .ok (.aload_n 0, 1) := by decide +kernel
theorem dX8_isMissing_1 : decode cX8_isMissing 1 = .ok (.iload_n 1, 1) := by decide +kernel
theorem dX8_isMissing_2 : decode cX8_isMissing 2 = .ok (.invokevirtual 27, 3) := by decide +kernel
theorem dX8_isMissing_5 : decode cX8_isMissing 5 = .ok (.ifCond .eq 12, 3) := by decide +kernel
theorem dX8_isMissing_8 : decode cX8_isMissing 8 = .ok (.aload_n 0, 1) := by decide +kernel
theorem dX8_isMissing_9 : decode cX8_isMissing 9 = .ok (.getfield 9, 3) := by decide +kernel
theorem dX8_isMissing_12 : decode cX8_isMissing 12 = .ok (.iload_n 1, 1) := by decide +kernel
theorem dX8_isMissing_13 : decode cX8_isMissing 13 = .ok (.iaload, 1) := by decide +kernel
theorem dX8_isMissing_14 : decode cX8_isMissing 14 = .ok (.ifCond .ne 7, 3) := by decide +kernel
theorem dX8_isMissing_17 : decode cX8_isMissing 17 = .ok (.iconst 1, 1) := by decide +kernel
theorem dX8_isMissing_18 : decode cX8_isMissing 18 = .ok (.goto 4, 3) := by decide +kernel
theorem dX8_isMissing_21 : decode cX8_isMissing 21 = .ok (.iconst 0, 1) := by decide +kernel
theorem dX8_isMissing_22 : decode cX8_isMissing 22 = .ok (.ireturn, 1) := by decide +kernel
theorem dX8_lay_0 : decode cX8_lay 0 = .ok (.aload_n 0, 1) := by decide +kernel
theorem dX8_lay_1 : decode cX8_lay 1 = .ok (.iload_n 1, 1) := by decide +kernel
theorem dX8_lay_2 : decode cX8_lay 2 = .ok (.invokevirtual 27, 3) := by decide +kernel
theorem dX8_lay_5 : decode cX8_lay 5 = .ok (.ifCond .eq 13, 3) := by decide +kernel
theorem dX8_lay_8 : decode cX8_lay 8 = .ok (.iload_n 3, 1) := by decide +kernel
theorem dX8_lay_9 : decode cX8_lay 9 = .ok (.iconst 0, 1) := by decide +kernel
theorem dX8_lay_10 : decode cX8_lay 10 = .ok (.bipush 40, 2) := by decide +kernel
theorem dX8_lay_12 : decode cX8_lay 12 = .ok (.invokestatic 23, 3) := by decide +kernel
theorem dX8_lay_15 : decode cX8_lay 15 = .ok (.ifCond .ne 4, 3) := by decide +kernel
theorem dX8_lay_18 : decode cX8_lay 18 = .ok (.return_, 1) := by decide +kernel
theorem dX8_lay_19 : decode cX8_lay 19 = .ok (.aload_n 0, 1) := by decide +kernel
theorem dX8_lay_20 : decode cX8_lay 20 = .ok (.getfield 9, 3) := by decide +kernel
theorem dX8_lay_23 : decode cX8_lay 23 = .ok (.iload_n 1, 1) := by decide +kernel
theorem dX8_lay_24 : decode cX8_lay 24 = .ok (.iload_n 2, 1) := by decide +kernel
theorem dX8_lay_25 : decode cX8_lay 25 = .ok (.iastore, 1) := by decide +kernel
theorem dX8_lay_26 : decode cX8_lay 26 = .ok (.aload_n 0, 1) := by decide +kernel
theorem dX8_lay_27 : decode cX8_lay 27 = .ok (.getfield 15, 3) := by decide +kernel
theorem dX8_lay_30 : decode cX8_lay 30 = .ok (.iload_n 1, 1) := by decide +kernel
theorem dX8_lay_31 : decode cX8_lay 31 = .ok (.iload_n 3, 1) := by decide +kernel
theorem dX8_lay_32 : decode cX8_lay 32 = .ok (.iastore, 1) := by decide +kernel
theorem dX8_lay_33 : decode cX8_lay 33 = .ok (.iconst 0, 1) := by decide +kernel
theorem dX8_lay_34 : decode cX8_lay 34 = .ok (.istore 4, 2) := by decide +kernel
theorem dX8_lay_36 : decode cX8_lay 36 = .ok (.iload 4, 2) := by decide +kernel
theorem dX8_lay_38 : decode cX8_lay 38 = .ok (.bipush 40, 2) := by decide +kernel
theorem dX8_lay_40 : decode cX8_lay 40 = .ok (.if_icmp .ge 19, 3) := by decide +kernel
theorem dX8_lay_43 : decode cX8_lay 43 = .ok (.aload_n 0, 1) := by decide +kernel
theorem dX8_lay_44 : decode cX8_lay 44 = .ok (.getfield 20, 3) := by decide +kernel
theorem dX8_lay_47 : decode cX8_lay 47 = .ok (.iload_n 1, 1) := by decide +kernel
theorem dX8_lay_48 : decode cX8_lay 48 = .ok (.aaload, 1) := by decide +kernel
theorem dX8_lay_49 : decode cX8_lay 49 = .ok (.iload 4, 2) := by decide +kernel
theorem dX8_lay_51 : decode cX8_lay 51 = .ok (.iconst 0, 1) := by decide +kernel
theorem dX8_lay_52 : decode cX8_lay 52 = .ok (.iastore, 1) := by decide +kernel
theorem dX8_lay_53 : decode cX8_lay 53 = .ok (.iinc 4 1, 3) := by decide +kernel
theorem dX8_lay_56 : decode cX8_lay 56 = .ok (.goto (-20), 3) := by decide +kernel
theorem dX8_lay_59 : decode cX8_lay 59 = .ok (.return_, 1) := by decide +kernel
theorem dX8_cutTo_0 : decode cX8_cutTo 0 = .ok (.iload_n 1, 1) := by decide +kernel
theorem dX8_cutTo_1 : decode cX8_cutTo 1 = .ok (.bipush 8, 2) := by decide +kernel
theorem dX8_cutTo_3 : decode cX8_cutTo 3 = .ok (.if_icmp .ne 8, 3) := by decide +kernel
theorem dX8_cutTo_6 : decode cX8_cutTo 6 = .ok (.iload_n 2, 1) := by decide +kernel
theorem dX8_cutTo_7 : decode cX8_cutTo 7 = .ok (.i2b, 1) := by decide +kernel
theorem dX8_cutTo_8 : decode cX8_cutTo 8 = .ok (.goto 15, 3) := by decide +kernel
theorem dX8_cutTo_11 : decode cX8_cutTo 11 = .ok (.iload_n 1, 1) := by decide +kernel
theorem dX8_cutTo_12 : decode cX8_cutTo 12 = .ok (.bipush 16, 2) := by decide +kernel
theorem dX8_cutTo_14 : decode cX8_cutTo 14 = .ok (.if_icmp .ne 8, 3) := by decide +kernel
theorem dX8_cutTo_17 : decode cX8_cutTo 17 = .ok (.iload_n 2, 1) := by decide +kernel
theorem dX8_cutTo_18 : decode cX8_cutTo 18 = .ok (.i2s, 1) := by decide +kernel
theorem dX8_cutTo_19 : decode cX8_cutTo 19 = .ok (.goto 4, 3) := by decide +kernel
theorem dX8_cutTo_22 : decode cX8_cutTo 22 = .ok (.iload_n 2, 1) := by decide +kernel
theorem dX8_cutTo_23 : decode cX8_cutTo 23 = .ok (.ireturn, 1) := by decide +kernel
theorem dX8_stand_0 : decode cX8_stand 0 = .ok (.aload_n 0, 1) := by decide +kernel
theorem dX8_stand_1 : decode cX8_stand 1 = .ok (.iload_n 1, 1) := by decide +kernel
theorem dX8_stand_2 : decode cX8_stand 2 = .ok (.invokevirtual 27, 3) := by decide +kernel
theorem dX8_stand_5 : decode cX8_stand 5 = .ok (.ifCond .eq 37, 3) := by decide +kernel
theorem dX8_stand_8 : decode cX8_stand 8 = .ok (.iload_n 2, 1) := by decide +kernel
theorem dX8_stand_9 : decode cX8_stand 9 = .ok (.ifCond .lt 33, 3) := by decide +kernel
theorem dX8_stand_12 : decode cX8_stand 12 = .ok (.iload_n 3, 1) := by decide +kernel
theorem dX8_stand_13 : decode cX8_stand 13 = .ok (.ifCond .lt 29, 3) := by decide +kernel
theorem dX8_stand_16 : decode cX8_stand 16 = .ok (.iload_n 2, 1) := by decide +kernel
theorem dX8_stand_17 : decode cX8_stand 17 = .ok (.aload_n 0, 1) := by decide +kernel
theorem dX8_stand_18 : decode cX8_stand 18 = .ok (.getfield 15, 3) := by decide +kernel
theorem dX8_stand_21 : decode cX8_stand 21 = .ok (.iload_n 1, 1) := by decide +kernel
theorem dX8_stand_22 : decode cX8_stand 22 = .ok (.iaload, 1) := by decide +kernel
theorem dX8_stand_23 : decode cX8_stand 23 = .ok (.if_icmp .gt 19, 3) := by decide +kernel
theorem dX8_stand_26 : decode cX8_stand 26 = .ok (.iload_n 3, 1) := by decide +kernel
theorem dX8_stand_27 : decode cX8_stand 27 = .ok (.aload_n 0, 1) := by decide +kernel
theorem dX8_stand_28 : decode cX8_stand 28 = .ok (.getfield 15, 3) := by decide +kernel
theorem dX8_stand_31 : decode cX8_stand 31 = .ok (.iload_n 1, 1) := by decide +kernel
theorem dX8_stand_32 : decode cX8_stand 32 = .ok (.iaload, 1) := by decide +kernel
theorem dX8_stand_33 : decode cX8_stand 33 = .ok (.iload_n 2, 1) := by decide +kernel
theorem dX8_stand_34 : decode cX8_stand 34 = .ok (.isub, 1) := by decide +kernel
theorem dX8_stand_35 : decode cX8_stand 35 = .ok (.if_icmp .gt 7, 3) := by decide +kernel
theorem dX8_stand_38 : decode cX8_stand 38 = .ok (.iconst 1, 1) := by decide +kernel
theorem dX8_stand_39 : decode cX8_stand 39 = .ok (.goto 4, 3) := by decide +kernel
theorem dX8_stand_42 : decode cX8_stand 42 = .ok (.iconst 0, 1) := by decide +kernel
theorem dX8_stand_43 : decode cX8_stand 43 = .ok (.ireturn, 1) := by decide +kernel
theorem dX9_init_0 : decode cX9_init 0 = .ok (.aload_n 0, 1) := by decide +kernel
theorem dX9_init_1 : decode cX9_init 1 = .ok (.invokespecial 3, 3) := by decide +kernel
theorem dX9_init_4 : decode cX9_init 4 = .ok (.aload_n 0, 1) := by decide +kernel
theorem dX9_init_5 : decode cX9_init 5 = .ok (.iconst 4, 1) := by decide +kernel
theorem dX9_init_6 : decode cX9_init 6 = .ok (.newarray .int, 2) := by decide +kernel
theorem dX9_init_8 : decode cX9_init 8 = .ok (.putfield 9, 3) := by decide +kernel
theorem dX9_init_11 : decode cX9_init 11 = .ok (.aload_n 0, 1) := by decide +kernel
theorem dX9_init_12 : decode cX9_init 12 = .ok (.iconst 4, 1) := by decide +kernel
theorem dX9_init_13 : decode cX9_init 13 = .ok (.newarray .int, 2) := by decide +kernel
theorem dX9_init_15 : decode cX9_init 15 = .ok (.putfield 15, 3) := by decide +kernel
theorem dX9_init_18 : decode cX9_init 18 = .ok (.aload_n 0, 1) := by decide +kernel
theorem dX9_init_19 : decode cX9_init 19 = .ok (.iconst 4, 1) := by decide +kernel
theorem dX9_init_20 : decode cX9_init 20 = .ok (.newarray .int, 2) := by decide +kernel
theorem dX9_init_22 : decode cX9_init 22 = .ok (.putfield 18, 3) := by decide +kernel
theorem dX9_init_25 : decode cX9_init 25 = .ok (.aload_n 0, 1) := by decide +kernel
theorem dX9_init_26 : decode cX9_init 26 = .ok (.bipush 12, 2) := by decide +kernel
theorem dX9_init_28 : decode cX9_init 28 = .ok (.newarray .int, 2) := by decide +kernel
theorem dX9_init_30 : decode cX9_init 30 = .ok (.putfield 21, 3) := by decide +kernel
theorem dX9_init_33 : decode cX9_init 33 = .ok (.aload_n 0, 1) := by decide +kernel
theorem dX9_init_34 : decode cX9_init 34 = .ok (.bipush 12, 2) := by decide +kernel
theorem dX9_init_36 : decode cX9_init 36 = .ok (.newarray .int, 2) := by decide +kernel
theorem dX9_init_38 : decode cX9_init 38 = .ok (.putfield 24, 3) := by decide +kernel
theorem dX9_init_41 : decode cX9_init 41 = .ok (.aload_n 0, 1) := by decide +kernel
theorem dX9_init_42 : decode cX9_init 42 = .ok (.bipush 12, 2) := by decide +kernel
theorem dX9_init_44 : decode cX9_init 44 = .ok (.newarray .int, 2) := by decide +kernel
theorem dX9_init_46 : decode cX9_init 46 = .ok (.putfield 27, 3) := by decide +kernel
theorem dX9_init_49 : decode cX9_init 49 = .ok (.aload_n 0, 1) := by decide +kernel
theorem dX9_init_50 : decode cX9_init 50 = .ok (.bipush 12, 2) := by decide +kernel
theorem dX9_init_52 : decode cX9_init 52 = .ok (.newarray .int, 2) := by decide +kernel
theorem dX9_init_54 : decode cX9_init 54 = .ok (.putfield 30, 3) := by decide +kernel
theorem dX9_init_57 : decode cX9_init 57 = .ok (.aload_n 0, 1) := by decide +kernel
theorem dX9_init_58 : decode cX9_init 58 = .ok (.new 33, 3) := by decide +kernel
theorem dX9_init_61 : decode cX9_init 61 = .ok (.dup, 1) := by decide +kernel
theorem dX9_init_62 : decode cX9_init 62 = .ok (.invokespecial 35, 3) := by decide +kernel
theorem dX9_init_65 : decode cX9_init 65 = .ok (.putfield 36, 3) := by decide +kernel
theorem dX9_init_68 : decode cX9_init 68 = .ok (.aload_n 0, 1) := by decide +kernel
theorem dX9_init_69 : decode cX9_init 69 = .ok (.new 40, 3) := by decide +kernel
theorem dX9_init_72 : decode cX9_init 72 = .ok (.dup, 1) := by decide +kernel
theorem dX9_init_73 : decode cX9_init 73 = .ok (.invokespecial 42, 3) := by decide +kernel
theorem dX9_init_76 : decode cX9_init 76 = .ok (.putfield 43, 3) := by decide +kernel
theorem dX9_init_79 : decode cX9_init 79 = .ok (.aload_n 0, 1) := by decide +kernel
theorem dX9_init_80 : decode cX9_init 80 = .ok (.new 40, 3) := by decide +kernel
theorem dX9_init_83 : decode cX9_init 83 = .ok (.dup, 1) := by decide +kernel
theorem dX9_init_84 : decode cX9_init 84 = .ok (.invokespecial 42, 3) := by decide +kernel
theorem dX9_init_87 : decode cX9_init 87 = .ok (.putfield 47, 3) := by decide +kernel
theorem dX9_init_90 : decode cX9_init 90 = .ok (.aload_n 0, 1) := by decide +kernel
theorem dX9_init_91 : decode cX9_init 91 = .ok (.bipush 50, 2) := by decide +kernel
theorem dX9_init_93 : decode cX9_init 93 = .ok (.newarray .int, 2) := by decide +kernel
theorem dX9_init_95 : decode cX9_init 95 = .ok (.putfield 50, 3) := by decide +kernel
theorem dX9_init_98 : decode cX9_init 98 = .ok (.aload_n 0, 1) := by decide +kernel
theorem dX9_init_99 : decode cX9_init 99 = .ok (.bipush 20, 2) := by decide +kernel
theorem dX9_init_101 : decode cX9_init 101 = .ok (.newarray .int, 2) := by decide +kernel
theorem dX9_init_103 : decode cX9_init 103 = .ok (.putfield 53, 3) := by decide +kernel
theorem dX9_init_106 : decode cX9_init 106 = .ok (.aload_n 0, 1) := by decide +kernel
theorem dX9_init_107 : decode cX9_init 107 = .ok (.iconst 1, 1) := by decide +kernel
theorem dX9_init_108 : decode cX9_init 108 = .ok (.putfield 56, 3) := by decide +kernel
theorem dX9_init_111 : decode cX9_init 111 = .ok (.return_, 1) := by decide +kernel
theorem dX9_copy_0 : decode cX9_copy 0 = .ok (.aload_n 0, 1) := by decide +kernel
theorem dX9_copy_1 : decode cX9_copy 1 = .ok (.aload_n 1, 1) := by decide +kernel
theorem dX9_copy_2 : decode cX9_copy 2 = .ok (.getfield 60, 3) := by decide +kernel
theorem dX9_copy_5 : decode cX9_copy 5 = .ok (.putfield 60, 3) := by decide +kernel
theorem dX9_copy_8 : decode cX9_copy 8 = .ok (.aload_n 1, 1) := by decide +kernel
theorem dX9_copy_9 : decode cX9_copy 9 = .ok (.getfield 9, 3) := by decide +kernel
theorem dX9_copy_12 : decode cX9_copy 12 = .ok (.iconst 0, 1) := by decide +kernel
theorem dX9_copy_13 : decode cX9_copy 13 = .ok (.aload_n 0, 1) := by decide +kernel
theorem dX9_copy_14 : decode cX9_copy 14 = .ok (.getfield 9, 3) := by decide +kernel
theorem dX9_copy_17 : decode cX9_copy 17 = .ok (.iconst 0, 1) := by decide +kernel
theorem dX9_copy_18 : decode cX9_copy 18 = .ok (.iconst 4, 1) := by decide +kernel
theorem dX9_copy_19 : decode cX9_copy 19 = .ok (.invokestatic 63, 3) := by decide +kernel
theorem dX9_copy_22 : decode cX9_copy 22 = .ok (.aload_n 1, 1) := by decide +kernel
theorem dX9_copy_23 : decode cX9_copy 23 = .ok (.getfield 15, 3) := by decide +kernel
theorem dX9_copy_26 : decode cX9_copy 26 = .ok (.iconst 0, 1) := by decide +kernel
theorem dX9_copy_27 : decode cX9_copy 27 = .ok (.aload_n 0, 1) := by decide +kernel
theorem dX9_copy_28 : decode cX9_copy 28 = .ok (.getfield 15, 3) := by decide +kernel
theorem dX9_copy_31 : decode cX9_copy 31 = .ok (.iconst 0, 1) := by decide +kernel
theorem dX9_copy_32 : decode cX9_copy 32 = .ok (.iconst 4, 1) := by decide +kernel
theorem dX9_copy_33 : decode cX9_copy 33 = .ok (.invokestatic 63, 3) := by decide +kernel
theorem dX9_copy_36 : decode cX9_copy 36 = .ok (.aload_n 1, 1) := by decide +kernel
theorem dX9_copy_37 : decode cX9_copy 37 = .ok (.getfield 18, 3) := by decide +kernel
theorem dX9_copy_40 : decode cX9_copy 40 = .ok (.iconst 0, 1) := by decide +kernel
theorem dX9_copy_41 : decode cX9_copy 41 = .ok (.aload_n 0, 1) := by decide +kernel
theorem dX9_copy_42 : decode cX9_copy 42 = .ok (.getfield 18, 3) := by decide +kernel
theorem dX9_copy_45 : decode cX9_copy 45 = .ok (.iconst 0, 1) := by decide +kernel
theorem dX9_copy_46 : decode cX9_copy 46 = .ok (.iconst 4, 1) := by decide +kernel
theorem dX9_copy_47 : decode cX9_copy 47 = .ok (.invokestatic 63, 3) := by decide +kernel
theorem dX9_copy_50 : decode cX9_copy 50 = .ok (.aload_n 0, 1) := by decide +kernel
theorem dX9_copy_51 : decode cX9_copy 51 = .ok (.aload_n 1, 1) := by decide +kernel
theorem dX9_copy_52 : decode cX9_copy 52 = .ok (.getfield 69, 3) := by decide +kernel
theorem dX9_copy_55 : decode cX9_copy 55 = .ok (.putfield 69, 3) := by decide +kernel
theorem dX9_copy_58 : decode cX9_copy 58 = .ok (.aload_n 1, 1) := by decide +kernel
theorem dX9_copy_59 : decode cX9_copy 59 = .ok (.getfield 21, 3) := by decide +kernel
theorem dX9_copy_62 : decode cX9_copy 62 = .ok (.iconst 0, 1) := by decide +kernel
theorem dX9_copy_63 : decode cX9_copy 63 = .ok (.aload_n 0, 1) := by decide +kernel
theorem dX9_copy_64 : decode cX9_copy 64 = .ok (.getfield 21, 3) := by decide +kernel
theorem dX9_copy_67 : decode cX9_copy 67 = .ok (.iconst 0, 1) := by decide +kernel
theorem dX9_copy_68 : decode cX9_copy 68 = .ok (.bipush 12, 2) := by decide +kernel
theorem dX9_copy_70 : decode cX9_copy 70 = .ok (.invokestatic 63, 3) := by decide +kernel
theorem dX9_copy_73 : decode cX9_copy 73 = .ok (.aload_n 1, 1) := by decide +kernel
theorem dX9_copy_74 : decode cX9_copy 74 = .ok (.getfield 24, 3) := by decide +kernel
theorem dX9_copy_77 : decode cX9_copy 77 = .ok (.iconst 0, 1) := by decide +kernel
theorem dX9_copy_78 : decode cX9_copy 78 = .ok (.aload_n 0, 1) := by decide +kernel
theorem dX9_copy_79 : decode cX9_copy 79 = .ok (.getfield 24, 3) := by decide +kernel
theorem dX9_copy_82 : decode cX9_copy 82 = .ok (.iconst 0, 1) := by decide +kernel
theorem dX9_copy_83 : decode cX9_copy 83 = .ok (.bipush 12, 2) := by decide +kernel
theorem dX9_copy_85 : decode cX9_copy 85 = .ok (.invokestatic 63, 3) := by decide +kernel
theorem dX9_copy_88 : decode cX9_copy 88 = .ok (.aload_n 1, 1) := by decide +kernel
theorem dX9_copy_89 : decode cX9_copy 89 = .ok (.getfield 27, 3) := by decide +kernel
theorem dX9_copy_92 : decode cX9_copy 92 = .ok (.iconst 0, 1) := by decide +kernel
theorem dX9_copy_93 : decode cX9_copy 93 = .ok (.aload_n 0, 1) := by decide +kernel
theorem dX9_copy_94 : decode cX9_copy 94 = .ok (.getfield 27, 3) := by decide +kernel
theorem dX9_copy_97 : decode cX9_copy 97 = .ok (.iconst 0, 1) := by decide +kernel
theorem dX9_copy_98 : decode cX9_copy 98 = .ok (.bipush 12, 2) := by decide +kernel
theorem dX9_copy_100 : decode cX9_copy 100 = .ok (.invokestatic 63, 3) := by decide +kernel
theorem dX9_copy_103 : decode cX9_copy 103 = .ok (.aload_n 1, 1) := by decide +kernel
theorem dX9_copy_104 : decode cX9_copy 104 = .ok (.getfield 30, 3) := by decide +kernel
theorem dX9_copy_107 : decode cX9_copy 107 = .ok (.iconst 0, 1) := by decide +kernel
theorem dX9_copy_108 : decode cX9_copy 108 = .ok (.aload_n 0, 1) := by decide +kernel
theorem dX9_copy_109 : decode cX9_copy 109 = .ok (.getfield 30, 3) := by decide +kernel
theorem dX9_copy_112 : decode cX9_copy 112 = .ok (.iconst 0, 1) := by decide +kernel
theorem dX9_copy_113 : decode cX9_copy 113 = .ok (.bipush 12, 2) := by decide +kernel
theorem dX9_copy_115 : decode cX9_copy 115 = .ok (.invokestatic 63, 3) := by decide +kernel
theorem dX9_copy_118 : decode cX9_copy 118 = .ok (.aload_n 0, 1) := by decide +kernel
theorem dX9_copy_119 : decode cX9_copy 119 = .ok (.getfield 36, 3) := by decide +kernel
theorem dX9_copy_122 : decode cX9_copy 122 = .ok (.aload_n 1, 1) := by decide +kernel
theorem dX9_copy_123 : decode cX9_copy 123 = .ok (.getfield 36, 3) := by decide +kernel
theorem dX9_copy_126 : decode cX9_copy 126 = .ok (.invokevirtual 72, 3) := by decide +kernel
theorem dX9_copy_129 : decode cX9_copy 129 = .ok (.aload_n 0, 1) := by decide +kernel
theorem dX9_copy_130 : decode cX9_copy 130 = .ok (.getfield 43, 3) := by decide +kernel
theorem dX9_copy_133 : decode cX9_copy 133 = .ok (.aload_n 1, 1) := by decide +kernel
theorem dX9_copy_134 : decode cX9_copy 134 = .ok (.getfield 43, 3) := by decide +kernel
theorem dX9_copy_137 : decode cX9_copy 137 = .ok (.invokevirtual 76, 3) := by decide +kernel
theorem dX9_copy_140 : decode cX9_copy 140 = .ok (.aload_n 0, 1) := by decide +kernel
theorem dX9_copy_141 : decode cX9_copy 141 = .ok (.getfield 47, 3) := by decide +kernel
theorem dX9_copy_144 : decode cX9_copy 144 = .ok (.aload_n 1, 1) := by decide +kernel
theorem dX9_copy_145 : decode cX9_copy 145 = .ok (.getfield 47, 3) := by decide +kernel
theorem dX9_copy_148 : decode cX9_copy 148 = .ok (.invokevirtual 76, 3) := by decide +kernel
theorem dX9_copy_151 : decode cX9_copy 151 = .ok (.aload_n 1, 1) := by decide +kernel
theorem dX9_copy_152 : decode cX9_copy 152 = .ok (.getfield 50, 3) := by decide +kernel
theorem dX9_copy_155 : decode cX9_copy 155 = .ok (.iconst 0, 1) := by decide +kernel
theorem dX9_copy_156 : decode cX9_copy 156 = .ok (.aload_n 0, 1) := by decide +kernel
theorem dX9_copy_157 : decode cX9_copy 157 = .ok (.getfield 50, 3) := by decide +kernel
theorem dX9_copy_160 : decode cX9_copy 160 = .ok (.iconst 0, 1) := by decide +kernel
theorem dX9_copy_161 : decode cX9_copy 161 = .ok (.bipush 50, 2) := by decide +kernel
theorem dX9_copy_163 : decode cX9_copy 163 = .ok (.invokestatic 63, 3) := by decide +kernel
theorem dX9_copy_166 : decode cX9_copy 166 = .ok (.aload_n 0, 1) := by decide +kernel
theorem dX9_copy_167 : decode cX9_copy 167 = .ok (.aload_n 1, 1) := by decide +kernel
theorem dX9_copy_168 : decode cX9_copy 168 = .ok (.getfield 79, 3) := by decide +kernel
theorem dX9_copy_171 : decode cX9_copy 171 = .ok (.putfield 79, 3) := by decide +kernel
theorem dX9_copy_174 : decode cX9_copy 174 = .ok (.aload_n 1, 1) := by decide +kernel
theorem dX9_copy_175 : decode cX9_copy 175 = .ok (.getfield 53, 3) := by decide +kernel
theorem dX9_copy_178 : decode cX9_copy 178 = .ok (.iconst 0, 1) := by decide +kernel
theorem dX9_copy_179 : decode cX9_copy 179 = .ok (.aload_n 0, 1) := by decide +kernel
theorem dX9_copy_180 : decode cX9_copy 180 = .ok (.getfield 53, 3) := by decide +kernel
theorem dX9_copy_183 : decode cX9_copy 183 = .ok (.iconst 0, 1) := by decide +kernel
theorem dX9_copy_184 : decode cX9_copy 184 = .ok (.bipush 20, 2) := by decide +kernel
theorem dX9_copy_186 : decode cX9_copy 186 = .ok (.invokestatic 63, 3) := by decide +kernel
theorem dX9_copy_189 : decode cX9_copy 189 = .ok (.aload_n 0, 1) := by decide +kernel
theorem dX9_copy_190 : decode cX9_copy 190 = .ok (.aload_n 1, 1) := by decide +kernel
theorem dX9_copy_191 : decode cX9_copy 191 = .ok (.getfield 82, 3) := by decide +kernel
theorem dX9_copy_194 : decode cX9_copy 194 = .ok (.putfield 82, 3) := by decide +kernel
theorem dX9_copy_197 : decode cX9_copy 197 = .ok (.aload_n 0, 1) := by decide +kernel
theorem dX9_copy_198 : decode cX9_copy 198 = .ok (.aload_n 1, 1) := by decide +kernel
theorem dX9_copy_199 : decode cX9_copy 199 = .ok (.getfield 56, 3) := by decide +kernel
theorem dX9_copy_202 : decode cX9_copy 202 = .ok (.putfield 56, 3) := by decide +kernel
theorem dX9_copy_205 : decode cX9_copy 205 = .ok (.return_, 1) := by decide +kernel
theorem dX9_hasParty_0 : decode cX9_hasParty 0 = .ok (.iload_n 1, 1) := by decide +kernel
theorem dX9_hasParty_1 : decode cX9_hasParty 1 = .ok (.ifCond .lt 20, 3) := by decide +kernel
theorem dX9_hasParty_4 : decode cX9_hasParty 4 = .ok (.iload_n 1, 1) := by decide +kernel
theorem dX9_hasParty_5 : decode cX9_hasParty 5 = .ok (.aload_n 0, 1) := by decide +kernel
theorem dX9_hasParty_6 : decode cX9_hasParty 6 = .ok (.getfield 60, 3) := by decide +kernel
theorem dX9_hasParty_9 : decode cX9_hasParty 9 = .ok (.if_icmp .ge 12, 3) := by decide +kernel
theorem dX9_hasParty_12 : decode cX9_hasParty 12 = .ok (.iload_n 1, 1) := by decide +kernel
theorem dX9_hasParty_13 : decode cX9_hasParty 13 = .ok (.iconst 4, 1) := by decide +kernel
theorem dX9_hasParty_14 : decode cX9_hasParty 14 = .ok (.if_icmp .ge 7, 3) := by decide +kernel
theorem dX9_hasParty_17 : decode cX9_hasParty 17 = .ok (.iconst 1, 1) := by decide +kernel
theorem dX9_hasParty_18 : decode cX9_hasParty 18 = .ok (.goto 4, 3) := by decide +kernel
theorem dX9_hasParty_21 : decode cX9_hasParty 21 = .ok (.iconst 0, 1) := by decide +kernel
theorem dX9_hasParty_22 : decode cX9_hasParty 22 = .ok (.ireturn, 1) := by decide +kernel
theorem dX9_hasWord_0 : decode cX9_hasWord 0 = .ok (.iload_n 1, 1) := by decide +kernel
theorem dX9_hasWord_1 : decode cX9_hasWord 1 = .ok (.ifCond .lt 21, 3) := by decide +kernel
theorem dX9_hasWord_4 : decode cX9_hasWord 4 = .ok (.iload_n 1, 1) := by decide +kernel
theorem dX9_hasWord_5 : decode cX9_hasWord 5 = .ok (.aload_n 0, 1) := by decide +kernel
theorem dX9_hasWord_6 : decode cX9_hasWord 6 = .ok (.getfield 69, 3) := by decide +kernel
theorem dX9_hasWord_9 : decode cX9_hasWord 9 = .ok (.if_icmp .ge 13, 3) := by decide +kernel
theorem dX9_hasWord_12 : decode cX9_hasWord 12 = .ok (.iload_n 1, 1) := by decide +kernel
theorem dX9_hasWord_13 : decode cX9_hasWord 13 = .ok (.bipush 12, 2) := by decide +kernel
theorem dX9_hasWord_15 : decode cX9_hasWord 15 = .ok (.if_icmp .ge 7, 3) := by decide +kernel
theorem dX9_hasWord_18 : decode cX9_hasWord 18 = .ok (.iconst 1, 1) := by decide +kernel
theorem dX9_hasWord_19 : decode cX9_hasWord 19 = .ok (.goto 4, 3) := by decide +kernel
theorem dX9_hasWord_22 : decode cX9_hasWord 22 = .ok (.iconst 0, 1) := by decide +kernel
theorem dX9_hasWord_23 : decode cX9_hasWord 23 = .ok (.ireturn, 1) := by decide +kernel
theorem dX9_sets_0 : decode cX9_sets 0 = .ok (.iconst 1, 1) := by decide +kernel
theorem dX9_sets_1 : decode cX9_sets 1 = .ok (.aload_n 0, 1) := by decide +kernel
theorem dX9_sets_2 : decode cX9_sets 2 = .ok (.getfield 60, 3) := by decide +kernel
theorem dX9_sets_5 : decode cX9_sets 5 = .ok (.ishl, 1) := by decide +kernel
theorem dX9_sets_6 : decode cX9_sets 6 = .ok (.ireturn, 1) := by decide +kernel
theorem dX9_addParty_0 : decode cX9_addParty 0 = .ok (.aload_n 0, 1) := by decide +kernel
theorem dX9_addParty_1 : decode cX9_addParty 1 = .ok (.getfield 60, 3) := by decide +kernel
theorem dX9_addParty_4 : decode cX9_addParty 4 = .ok (.istore_n 3, 1) := by decide +kernel
theorem dX9_addParty_5 : decode cX9_addParty 5 = .ok (.iload_n 3, 1) := by decide +kernel
theorem dX9_addParty_6 : decode cX9_addParty 6 = .ok (.iconst 0, 1) := by decide +kernel
theorem dX9_addParty_7 : decode cX9_addParty 7 = .ok (.iconst 3, 1) := by decide +kernel
theorem dX9_addParty_8 : decode cX9_addParty 8 = .ok (.invokestatic 85, 3) := by decide +kernel
theorem dX9_addParty_11 : decode cX9_addParty 11 = .ok (.ifCond .ne 5, 3) := by decide +kernel
theorem dX9_addParty_14 : decode cX9_addParty 14 = .ok (.iconst (-1), 1) := by decide +kernel
theorem dX9_addParty_15 : decode cX9_addParty 15 = .ok (.ireturn, 1) := by decide +kernel
theorem dX9_addParty_16 : decode cX9_addParty 16 = .ok (.aload_n 0, 1) := by decide +kernel
theorem dX9_addParty_17 : decode cX9_addParty 17 = .ok (.dup, 1) := by decide +kernel
theorem dX9_addParty_18 : decode cX9_addParty 18 = .ok (.getfield 60, 3) := by decide +kernel
theorem dX9_addParty_21 : decode cX9_addParty 21 = .ok (.iconst 1, 1) := by decide +kernel
theorem dX9_addParty_22 : decode cX9_addParty 22 = .ok (.iadd, 1) := by decide +kernel
theorem dX9_addParty_23 : decode cX9_addParty 23 = .ok (.putfield 60, 3) := by decide +kernel
theorem dX9_addParty_26 : decode cX9_addParty 26 = .ok (.aload_n 0, 1) := by decide +kernel
theorem dX9_addParty_27 : decode cX9_addParty 27 = .ok (.getfield 9, 3) := by decide +kernel
theorem dX9_addParty_30 : decode cX9_addParty 30 = .ok (.iload_n 3, 1) := by decide +kernel
theorem dX9_addParty_31 : decode cX9_addParty 31 = .ok (.iload_n 1, 1) := by decide +kernel
theorem dX9_addParty_32 : decode cX9_addParty 32 = .ok (.bipush 10, 2) := by decide +kernel
theorem dX9_addParty_34 : decode cX9_addParty 34 = .ok (.idiv, 1) := by decide +kernel
theorem dX9_addParty_35 : decode cX9_addParty 35 = .ok (.iastore, 1) := by decide +kernel
theorem dX9_addParty_36 : decode cX9_addParty 36 = .ok (.aload_n 0, 1) := by decide +kernel
theorem dX9_addParty_37 : decode cX9_addParty 37 = .ok (.getfield 15, 3) := by decide +kernel
theorem dX9_addParty_40 : decode cX9_addParty 40 = .ok (.iload_n 3, 1) := by decide +kernel
theorem dX9_addParty_41 : decode cX9_addParty 41 = .ok (.iload_n 1, 1) := by decide +kernel
theorem dX9_addParty_42 : decode cX9_addParty 42 = .ok (.bipush 10, 2) := by decide +kernel
theorem dX9_addParty_44 : decode cX9_addParty 44 = .ok (.irem, 1) := by decide +kernel
theorem dX9_addParty_45 : decode cX9_addParty 45 = .ok (.iastore, 1) := by decide +kernel
theorem dX9_addParty_46 : decode cX9_addParty 46 = .ok (.aload_n 0, 1) := by decide +kernel
theorem dX9_addParty_47 : decode cX9_addParty 47 = .ok (.getfield 18, 3) := by decide +kernel
theorem dX9_addParty_50 : decode cX9_addParty 50 = .ok (.iload_n 3, 1) := by decide +kernel
theorem dX9_addParty_51 : decode cX9_addParty 51 = .ok (.iload_n 2, 1) := by decide +kernel
theorem dX9_addParty_52 : decode cX9_addParty 52 = .ok (.iastore, 1) := by decide +kernel
theorem dX9_addParty_53 : decode cX9_addParty 53 = .ok (.aload_n 0, 1) := by decide +kernel
theorem dX9_addParty_54 : decode cX9_addParty 54 = .ok (.getfield 36, 3) := by decide +kernel
theorem dX9_addParty_57 : decode cX9_addParty 57 = .ok (.getfield 89, 3) := by decide +kernel
theorem dX9_addParty_60 : decode cX9_addParty 60 = .ok (.iload_n 3, 1) := by decide +kernel
theorem dX9_addParty_61 : decode cX9_addParty 61 = .ok (.iconst 0, 1) := by decide +kernel
theorem dX9_addParty_62 : decode cX9_addParty 62 = .ok (.iastore, 1) := by decide +kernel
theorem dX9_addParty_63 : decode cX9_addParty 63 = .ok (.aload_n 0, 1) := by decide +kernel
theorem dX9_addParty_64 : decode cX9_addParty 64 = .ok (.getfield 36, 3) := by decide +kernel
theorem dX9_addParty_67 : decode cX9_addParty 67 = .ok (.getfield 92, 3) := by decide +kernel
theorem dX9_addParty_70 : decode cX9_addParty 70 = .ok (.iload_n 3, 1) := by decide +kernel
theorem dX9_addParty_71 : decode cX9_addParty 71 = .ok (.iconst 0, 1) := by decide +kernel
theorem dX9_addParty_72 : decode cX9_addParty 72 = .ok (.iastore, 1) := by decide +kernel
theorem dX9_addParty_73 : decode cX9_addParty 73 = .ok (.iload_n 3, 1) := by decide +kernel
theorem dX9_addParty_74 : decode cX9_addParty 74 = .ok (.ireturn, 1) := by decide +kernel
theorem dX9_addWord_0 : decode cX9_addWord 0 = .ok (.aload_n 0, 1) := by decide +kernel
theorem dX9_addWord_1 : decode cX9_addWord 1 = .ok (.getfield 69, 3) := by decide +kernel
theorem dX9_addWord_4 : decode cX9_addWord 4 = .ok (.istore 5, 2) := by decide +kernel
theorem dX9_addWord_6 : decode cX9_addWord 6 = .ok (.iload 5, 2) := by decide +kernel
theorem dX9_addWord_8 : decode cX9_addWord 8 = .ok (.iconst 0, 1) := by decide +kernel
theorem dX9_addWord_9 : decode cX9_addWord 9 = .ok (.bipush 11, 2) := by decide +kernel
theorem dX9_addWord_11 : decode cX9_addWord 11 = .ok (.invokestatic 85, 3) := by decide +kernel
theorem dX9_addWord_14 : decode cX9_addWord 14 = .ok (.ifCond .ne 5, 3) := by decide +kernel
theorem dX9_addWord_17 : decode cX9_addWord 17 = .ok (.iconst (-1), 1) := by decide +kernel
theorem dX9_addWord_18 : decode cX9_addWord 18 = .ok (.ireturn, 1) := by decide +kernel
theorem dX9_addWord_19 : decode cX9_addWord 19 = .ok (.aload_n 0, 1) := by decide +kernel
theorem dX9_addWord_20 : decode cX9_addWord 20 = .ok (.dup, 1) := by decide +kernel
theorem dX9_addWord_21 : decode cX9_addWord 21 = .ok (.getfield 69, 3) := by decide +kernel
theorem dX9_addWord_24 : decode cX9_addWord 24 = .ok (.iconst 1, 1) := by decide +kernel
theorem dX9_addWord_25 : decode cX9_addWord 25 = .ok (.iadd, 1) := by decide +kernel
theorem dX9_addWord_26 : decode cX9_addWord 26 = .ok (.putfield 69, 3) := by decide +kernel
theorem dX9_addWord_29 : decode cX9_addWord 29 = .ok (.aload_n 0, 1) := by decide +kernel
theorem dX9_addWord_30 : decode cX9_addWord 30 = .ok (.getfield 21, 3) := by decide +kernel
theorem dX9_addWord_33 : decode cX9_addWord 33 = .ok (.iload 5, 2) := by decide +kernel
theorem dX9_addWord_35 : decode cX9_addWord 35 = .ok (.iload_n 1, 1) := by decide +kernel
theorem dX9_addWord_36 : decode cX9_addWord 36 = .ok (.iastore, 1) := by decide +kernel
theorem dX9_addWord_37 : decode cX9_addWord 37 = .ok (.aload_n 0, 1) := by decide +kernel
theorem dX9_addWord_38 : decode cX9_addWord 38 = .ok (.getfield 24, 3) := by decide +kernel
theorem dX9_addWord_41 : decode cX9_addWord 41 = .ok (.iload 5, 2) := by decide +kernel
theorem dX9_addWord_43 : decode cX9_addWord 43 = .ok (.iload_n 2, 1) := by decide +kernel
theorem dX9_addWord_44 : decode cX9_addWord 44 = .ok (.iastore, 1) := by decide +kernel
theorem dX9_addWord_45 : decode cX9_addWord 45 = .ok (.aload_n 0, 1) := by decide +kernel
theorem dX9_addWord_46 : decode cX9_addWord 46 = .ok (.getfield 27, 3) := by decide +kernel
theorem dX9_addWord_49 : decode cX9_addWord 49 = .ok (.iload 5, 2) := by decide +kernel
theorem dX9_addWord_51 : decode cX9_addWord 51 = .ok (.iload_n 3, 1) := by decide +kernel
theorem dX9_addWord_52 : decode cX9_addWord 52 = .ok (.iastore, 1) := by decide +kernel
theorem dX9_addWord_53 : decode cX9_addWord 53 = .ok (.aload_n 0, 1) := by decide +kernel
theorem dX9_addWord_54 : decode cX9_addWord 54 = .ok (.getfield 30, 3) := by decide +kernel
theorem dX9_addWord_57 : decode cX9_addWord 57 = .ok (.iload 5, 2) := by decide +kernel
theorem dX9_addWord_59 : decode cX9_addWord 59 = .ok (.iload 4, 2) := by decide +kernel
theorem dX9_addWord_61 : decode cX9_addWord 61 = .ok (.iastore, 1) := by decide +kernel
theorem dX9_addWord_62 : decode cX9_addWord 62 = .ok (.aload_n 0, 1) := by decide +kernel
theorem dX9_addWord_63 : decode cX9_addWord 63 = .ok (.getfield 36, 3) := by decide +kernel
theorem dX9_addWord_66 : decode cX9_addWord 66 = .ok (.getfield 95, 3) := by decide +kernel
theorem dX9_addWord_69 : decode cX9_addWord 69 = .ok (.iload 5, 2) := by decide +kernel
theorem dX9_addWord_71 : decode cX9_addWord 71 = .ok (.iconst 0, 1) := by decide +kernel
theorem dX9_addWord_72 : decode cX9_addWord 72 = .ok (.iastore, 1) := by decide +kernel
theorem dX9_addWord_73 : decode cX9_addWord 73 = .ok (.iload 5, 2) := by decide +kernel
theorem dX9_addWord_75 : decode cX9_addWord 75 = .ok (.ireturn, 1) := by decide +kernel
theorem dX9_runs_0 : decode cX9_runs 0 = .ok (.aload_n 0, 1) := by decide +kernel
theorem dX9_runs_1 : decode cX9_runs 1 = .ok (.iload_n 1, 1) := by decide +kernel
theorem dX9_runs_2 : decode cX9_runs 2 = .ok (.invokevirtual 98, 3) := by decide +kernel
theorem dX9_runs_5 : decode cX9_runs 5 = .ok (.ifCond .eq 21, 3) := by decide +kernel
theorem dX9_runs_8 : decode cX9_runs 8 = .ok (.aload_n 0, 1) := by decide +kernel
theorem dX9_runs_9 : decode cX9_runs 9 = .ok (.getfield 9, 3) := by decide +kernel
theorem dX9_runs_12 : decode cX9_runs 12 = .ok (.iload_n 1, 1) := by decide +kernel
theorem dX9_runs_13 : decode cX9_runs 13 = .ok (.iaload, 1) := by decide +kernel
theorem dX9_runs_14 : decode cX9_runs 14 = .ok (.aload_n 0, 1) := by decide +kernel
theorem dX9_runs_15 : decode cX9_runs 15 = .ok (.getfield 15, 3) := by decide +kernel
theorem dX9_runs_18 : decode cX9_runs 18 = .ok (.iload_n 1, 1) := by decide +kernel
theorem dX9_runs_19 : decode cX9_runs 19 = .ok (.iaload, 1) := by decide +kernel
theorem dX9_runs_20 : decode cX9_runs 20 = .ok (.invokestatic 102, 3) := by decide +kernel
theorem dX9_runs_23 : decode cX9_runs 23 = .ok (.goto 4, 3) := by decide +kernel
theorem dX9_runs_26 : decode cX9_runs 26 = .ok (.iconst 1, 1) := by decide +kernel
theorem dX9_runs_27 : decode cX9_runs 27 = .ok (.ireturn, 1) := by decide +kernel
theorem dX9_drips_0 : decode cX9_drips 0 = .ok (.aload_n 0, 1) := by decide +kernel
theorem dX9_drips_1 : decode cX9_drips 1 = .ok (.iload_n 1, 1) := by decide +kernel
theorem dX9_drips_2 : decode cX9_drips 2 = .ok (.invokevirtual 98, 3) := by decide +kernel
theorem dX9_drips_5 : decode cX9_drips 5 = .ok (.ifCond .eq 21, 3) := by decide +kernel
theorem dX9_drips_8 : decode cX9_drips 8 = .ok (.aload_n 0, 1) := by decide +kernel
theorem dX9_drips_9 : decode cX9_drips 9 = .ok (.getfield 9, 3) := by decide +kernel
theorem dX9_drips_12 : decode cX9_drips 12 = .ok (.iload_n 1, 1) := by decide +kernel
theorem dX9_drips_13 : decode cX9_drips 13 = .ok (.iaload, 1) := by decide +kernel
theorem dX9_drips_14 : decode cX9_drips 14 = .ok (.aload_n 0, 1) := by decide +kernel
theorem dX9_drips_15 : decode cX9_drips 15 = .ok (.getfield 15, 3) := by decide +kernel
theorem dX9_drips_18 : decode cX9_drips 18 = .ok (.iload_n 1, 1) := by decide +kernel
theorem dX9_drips_19 : decode cX9_drips 19 = .ok (.iaload, 1) := by decide +kernel
theorem dX9_drips_20 : decode cX9_drips 20 = .ok (.invokestatic 108, 3) := by decide +kernel
theorem dX9_drips_23 : decode cX9_drips 23 = .ok (.goto 4, 3) := by decide +kernel
theorem dX9_drips_26 : decode cX9_drips 26 = .ok (.iconst 0, 1) := by decide +kernel
theorem dX9_drips_27 : decode cX9_drips 27 = .ok (.ireturn, 1) := by decide +kernel
theorem dX9_saidOf_0 : decode cX9_saidOf 0 = .ok (.iconst 0, 1) := by decide +kernel
theorem dX9_saidOf_1 : decode cX9_saidOf 1 = .ok (.istore_n 2, 1) := by decide +kernel
theorem dX9_saidOf_2 : decode cX9_saidOf 2 = .ok (.iconst 0, 1) := by decide +kernel
theorem dX9_saidOf_3 : decode cX9_saidOf 3 = .ok (.istore_n 3, 1) := by decide +kernel
theorem dX9_saidOf_4 : decode cX9_saidOf 4 = .ok (.iload_n 3, 1) := by decide +kernel
theorem dX9_saidOf_5 : decode cX9_saidOf 5 = .ok (.aload_n 0, 1) := by decide +kernel
theorem dX9_saidOf_6 : decode cX9_saidOf 6 = .ok (.getfield 69, 3) := by decide +kernel
theorem dX9_saidOf_9 : decode cX9_saidOf 9 = .ok (.if_icmp .ge 41, 3) := by decide +kernel
theorem dX9_saidOf_12 : decode cX9_saidOf 12 = .ok (.iload_n 3, 1) := by decide +kernel
theorem dX9_saidOf_13 : decode cX9_saidOf 13 = .ok (.bipush 12, 2) := by decide +kernel
theorem dX9_saidOf_15 : decode cX9_saidOf 15 = .ok (.if_icmp .ge 35, 3) := by decide +kernel
theorem dX9_saidOf_18 : decode cX9_saidOf 18 = .ok (.aload_n 0, 1) := by decide +kernel
theorem dX9_saidOf_19 : decode cX9_saidOf 19 = .ok (.getfield 21, 3) := by decide +kernel
theorem dX9_saidOf_22 : decode cX9_saidOf 22 = .ok (.iload_n 3, 1) := by decide +kernel
theorem dX9_saidOf_23 : decode cX9_saidOf 23 = .ok (.iaload, 1) := by decide +kernel
theorem dX9_saidOf_24 : decode cX9_saidOf 24 = .ok (.iload_n 1, 1) := by decide +kernel
theorem dX9_saidOf_25 : decode cX9_saidOf 25 = .ok (.if_icmp .ne 19, 3) := by decide +kernel
theorem dX9_saidOf_28 : decode cX9_saidOf 28 = .ok (.aload_n 0, 1) := by decide +kernel
theorem dX9_saidOf_29 : decode cX9_saidOf 29 = .ok (.getfield 36, 3) := by decide +kernel
theorem dX9_saidOf_32 : decode cX9_saidOf 32 = .ok (.getfield 95, 3) := by decide +kernel
theorem dX9_saidOf_35 : decode cX9_saidOf 35 = .ok (.iload_n 3, 1) := by decide +kernel
theorem dX9_saidOf_36 : decode cX9_saidOf 36 = .ok (.iaload, 1) := by decide +kernel
theorem dX9_saidOf_37 : decode cX9_saidOf 37 = .ok (.iconst 1, 1) := by decide +kernel
theorem dX9_saidOf_38 : decode cX9_saidOf 38 = .ok (.if_icmp .ne 6, 3) := by decide +kernel
theorem dX9_saidOf_41 : decode cX9_saidOf 41 = .ok (.iinc 2 1, 3) := by decide +kernel
theorem dX9_saidOf_44 : decode cX9_saidOf 44 = .ok (.iinc 3 1, 3) := by decide +kernel
theorem dX9_saidOf_47 : decode cX9_saidOf 47 = .ok (.goto (-43), 3) := by decide +kernel
theorem dX9_saidOf_50 : decode cX9_saidOf 50 = .ok (.iload_n 2, 1) := by decide +kernel
theorem dX9_saidOf_51 : decode cX9_saidOf 51 = .ok (.ireturn, 1) := by decide +kernel
theorem dX9_waterOf_0 : decode cX9_waterOf 0 = .ok (.iconst 0, 1) := by decide +kernel
theorem dX9_waterOf_1 : decode cX9_waterOf 1 = .ok (.istore_n 2, 1) := by decide +kernel
theorem dX9_waterOf_2 : decode cX9_waterOf 2 = .ok (.iconst 0, 1) := by decide +kernel
theorem dX9_waterOf_3 : decode cX9_waterOf 3 = .ok (.istore_n 3, 1) := by decide +kernel
theorem dX9_waterOf_4 : decode cX9_waterOf 4 = .ok (.iload_n 3, 1) := by decide +kernel
theorem dX9_waterOf_5 : decode cX9_waterOf 5 = .ok (.aload_n 0, 1) := by decide +kernel
theorem dX9_waterOf_6 : decode cX9_waterOf 6 = .ok (.getfield 60, 3) := by decide +kernel
theorem dX9_waterOf_9 : decode cX9_waterOf 9 = .ok (.if_icmp .ge 35, 3) := by decide +kernel
theorem dX9_waterOf_12 : decode cX9_waterOf 12 = .ok (.iload_n 3, 1) := by decide +kernel
theorem dX9_waterOf_13 : decode cX9_waterOf 13 = .ok (.iconst 4, 1) := by decide +kernel
theorem dX9_waterOf_14 : decode cX9_waterOf 14 = .ok (.if_icmp .ge 30, 3) := by decide +kernel
theorem dX9_waterOf_17 : decode cX9_waterOf 17 = .ok (.iload_n 1, 1) := by decide +kernel
theorem dX9_waterOf_18 : decode cX9_waterOf 18 = .ok (.iload_n 3, 1) := by decide +kernel
theorem dX9_waterOf_19 : decode cX9_waterOf 19 = .ok (.ishr, 1) := by decide +kernel
theorem dX9_waterOf_20 : decode cX9_waterOf 20 = .ok (.iconst 1, 1) := by decide +kernel
theorem dX9_waterOf_21 : decode cX9_waterOf 21 = .ok (.iand, 1) := by decide +kernel
theorem dX9_waterOf_22 : decode cX9_waterOf 22 = .ok (.iconst 1, 1) := by decide +kernel
theorem dX9_waterOf_23 : decode cX9_waterOf 23 = .ok (.if_icmp .ne 15, 3) := by decide +kernel
theorem dX9_waterOf_26 : decode cX9_waterOf 26 = .ok (.iload_n 2, 1) := by decide +kernel
theorem dX9_waterOf_27 : decode cX9_waterOf 27 = .ok (.aload_n 0, 1) := by decide +kernel
theorem dX9_waterOf_28 : decode cX9_waterOf 28 = .ok (.getfield 36, 3) := by decide +kernel
theorem dX9_waterOf_31 : decode cX9_waterOf 31 = .ok (.getfield 89, 3) := by decide +kernel
theorem dX9_waterOf_34 : decode cX9_waterOf 34 = .ok (.iload_n 3, 1) := by decide +kernel
theorem dX9_waterOf_35 : decode cX9_waterOf 35 = .ok (.iaload, 1) := by decide +kernel
theorem dX9_waterOf_36 : decode cX9_waterOf 36 = .ok (.iadd, 1) := by decide +kernel
theorem dX9_waterOf_37 : decode cX9_waterOf 37 = .ok (.istore_n 2, 1) := by decide +kernel
theorem dX9_waterOf_38 : decode cX9_waterOf 38 = .ok (.iinc 3 1, 3) := by decide +kernel
theorem dX9_waterOf_41 : decode cX9_waterOf 41 = .ok (.goto (-37), 3) := by decide +kernel
theorem dX9_waterOf_44 : decode cX9_waterOf 44 = .ok (.iload_n 2, 1) := by decide +kernel
theorem dX9_waterOf_45 : decode cX9_waterOf 45 = .ok (.ireturn, 1) := by decide +kernel
theorem dX9_earBy_0 : decode cX9_earBy 0 = .ok (.aload_n 0, 1) := by decide +kernel
theorem dX9_earBy_1 : decode cX9_earBy 1 = .ok (.getfield 43, 3) := by decide +kernel
theorem dX9_earBy_4 : decode cX9_earBy 4 = .ok (.invokevirtual 111, 3) := by decide +kernel
theorem dX9_earBy_7 : decode cX9_earBy 7 = .ok (.ifCond .eq 16, 3) := by decide +kernel
theorem dX9_earBy_10 : decode cX9_earBy 10 = .ok (.aload_n 0, 1) := by decide +kernel
theorem dX9_earBy_11 : decode cX9_earBy 11 = .ok (.getfield 43, 3) := by decide +kernel
theorem dX9_earBy_14 : decode cX9_earBy 14 = .ok (.iload_n 1, 1) := by decide +kernel
theorem dX9_earBy_15 : decode cX9_earBy 15 = .ok (.iload_n 2, 1) := by decide +kernel
theorem dX9_earBy_16 : decode cX9_earBy 16 = .ok (.iload_n 3, 1) := by decide +kernel
theorem dX9_earBy_17 : decode cX9_earBy 17 = .ok (.invokevirtual 115, 3) := by decide +kernel
theorem dX9_earBy_20 : decode cX9_earBy 20 = .ok (.goto 4, 3) := by decide +kernel
theorem dX9_earBy_23 : decode cX9_earBy 23 = .ok (.iload_n 1, 1) := by decide +kernel
theorem dX9_earBy_24 : decode cX9_earBy 24 = .ok (.iconst 0, 1) := by decide +kernel
theorem dX9_earBy_25 : decode cX9_earBy 25 = .ok (.sipush 999, 3) := by decide +kernel
theorem dX9_earBy_28 : decode cX9_earBy 28 = .ok (.invokestatic 119, 3) := by decide +kernel
theorem dX9_earBy_31 : decode cX9_earBy 31 = .ok (.ireturn, 1) := by decide +kernel
theorem dX9_spillBy_0 : decode cX9_spillBy 0 = .ok (.aload_n 0, 1) := by decide +kernel
theorem dX9_spillBy_1 : decode cX9_spillBy 1 = .ok (.getfield 47, 3) := by decide +kernel
theorem dX9_spillBy_4 : decode cX9_spillBy 4 = .ok (.invokevirtual 111, 3) := by decide +kernel
theorem dX9_spillBy_7 : decode cX9_spillBy 7 = .ok (.ifCond .eq 16, 3) := by decide +kernel
theorem dX9_spillBy_10 : decode cX9_spillBy 10 = .ok (.aload_n 0, 1) := by decide +kernel
theorem dX9_spillBy_11 : decode cX9_spillBy 11 = .ok (.getfield 47, 3) := by decide +kernel
theorem dX9_spillBy_14 : decode cX9_spillBy 14 = .ok (.iload_n 1, 1) := by decide +kernel
theorem dX9_spillBy_15 : decode cX9_spillBy 15 = .ok (.iload_n 2, 1) := by decide +kernel
theorem dX9_spillBy_16 : decode cX9_spillBy 16 = .ok (.iload_n 3, 1) := by decide +kernel
theorem dX9_spillBy_17 : decode cX9_spillBy 17 = .ok (.invokevirtual 115, 3) := by decide +kernel
theorem dX9_spillBy_20 : decode cX9_spillBy 20 = .ok (.goto 9, 3) := by decide +kernel
theorem dX9_spillBy_23 : decode cX9_spillBy 23 = .ok (.iload_n 1, 1) := by decide +kernel
theorem dX9_spillBy_24 : decode cX9_spillBy 24 = .ok (.iload_n 3, 1) := by decide +kernel
theorem dX9_spillBy_25 : decode cX9_spillBy 25 = .ok (.imul, 1) := by decide +kernel
theorem dX9_spillBy_26 : decode cX9_spillBy 26 = .ok (.bipush 50, 2) := by decide +kernel
theorem dX9_spillBy_28 : decode cX9_spillBy 28 = .ok (.idiv, 1) := by decide +kernel
theorem dX9_spillBy_29 : decode cX9_spillBy 29 = .ok (.istore 4, 2) := by decide +kernel
theorem dX9_spillBy_31 : decode cX9_spillBy 31 = .ok (.iload 4, 2) := by decide +kernel
theorem dX9_spillBy_33 : decode cX9_spillBy 33 = .ok (.iconst 0, 1) := by decide +kernel
theorem dX9_spillBy_34 : decode cX9_spillBy 34 = .ok (.iload_n 1, 1) := by decide +kernel
theorem dX9_spillBy_35 : decode cX9_spillBy 35 = .ok (.invokestatic 119, 3) := by decide +kernel
theorem dX9_spillBy_38 : decode cX9_spillBy 38 = .ok (.ireturn, 1) := by decide +kernel
theorem dX9_speaker_0 : decode cX9_speaker 0 = .ok (.aload_n 0, 1) := by decide +kernel
theorem dX9_speaker_1 : decode cX9_speaker 1 = .ok (.aload_n 1, 1) := by decide +kernel
theorem dX9_speaker_2 : decode cX9_speaker 2 = .ok (.getfield 122, 3) := by decide +kernel
theorem dX9_speaker_5 : decode cX9_speaker 5 = .ok (.invokevirtual 125, 3) := by decide +kernel
theorem dX9_speaker_8 : decode cX9_speaker 8 = .ok (.ifCond .eq 15, 3) := by decide +kernel
theorem dX9_speaker_11 : decode cX9_speaker 11 = .ok (.aload_n 0, 1) := by decide +kernel
theorem dX9_speaker_12 : decode cX9_speaker 12 = .ok (.getfield 21, 3) := by decide +kernel
theorem dX9_speaker_15 : decode cX9_speaker 15 = .ok (.aload_n 1, 1) := by decide +kernel
theorem dX9_speaker_16 : decode cX9_speaker 16 = .ok (.getfield 122, 3) := by decide +kernel
theorem dX9_speaker_19 : decode cX9_speaker 19 = .ok (.iaload, 1) := by decide +kernel
theorem dX9_speaker_20 : decode cX9_speaker 20 = .ok (.goto 4, 3) := by decide +kernel
theorem dX9_speaker_23 : decode cX9_speaker 23 = .ok (.iconst (-1), 1) := by decide +kernel
theorem dX9_speaker_24 : decode cX9_speaker 24 = .ok (.ireturn, 1) := by decide +kernel
theorem dX9_isFree_0 : decode cX9_isFree 0 = .ok (.aload_n 0, 1) := by decide +kernel
theorem dX9_isFree_1 : decode cX9_isFree 1 = .ok (.iload_n 2, 1) := by decide +kernel
theorem dX9_isFree_2 : decode cX9_isFree 2 = .ok (.invokevirtual 125, 3) := by decide +kernel
theorem dX9_isFree_5 : decode cX9_isFree 5 = .ok (.ifCond .ne 5, 3) := by decide +kernel
theorem dX9_isFree_8 : decode cX9_isFree 8 = .ok (.iconst 0, 1) := by decide +kernel
theorem dX9_isFree_9 : decode cX9_isFree 9 = .ok (.ireturn, 1) := by decide +kernel
theorem dX9_isFree_10 : decode cX9_isFree 10 = .ok (.aload_n 0, 1) := by decide +kernel
theorem dX9_isFree_11 : decode cX9_isFree 11 = .ok (.getfield 30, 3) := by decide +kernel
theorem dX9_isFree_14 : decode cX9_isFree 14 = .ok (.iload_n 2, 1) := by decide +kernel
theorem dX9_isFree_15 : decode cX9_isFree 15 = .ok (.iaload, 1) := by decide +kernel
theorem dX9_isFree_16 : decode cX9_isFree 16 = .ok (.istore_n 3, 1) := by decide +kernel
theorem dX9_isFree_17 : decode cX9_isFree 17 = .ok (.aload_n 0, 1) := by decide +kernel
theorem dX9_isFree_18 : decode cX9_isFree 18 = .ok (.iload_n 3, 1) := by decide +kernel
theorem dX9_isFree_19 : decode cX9_isFree 19 = .ok (.invokevirtual 125, 3) := by decide +kernel
theorem dX9_isFree_22 : decode cX9_isFree 22 = .ok (.ifCond .eq 13, 3) := by decide +kernel
theorem dX9_isFree_25 : decode cX9_isFree 25 = .ok (.aload_n 1, 1) := by decide +kernel
theorem dX9_isFree_26 : decode cX9_isFree 26 = .ok (.getfield 95, 3) := by decide +kernel
theorem dX9_isFree_29 : decode cX9_isFree 29 = .ok (.iload_n 3, 1) := by decide +kernel
theorem dX9_isFree_30 : decode cX9_isFree 30 = .ok (.iaload, 1) := by decide +kernel
theorem dX9_isFree_31 : decode cX9_isFree 31 = .ok (.iconst 1, 1) := by decide +kernel
theorem dX9_isFree_32 : decode cX9_isFree 32 = .ok (.if_icmp .ne 7, 3) := by decide +kernel
theorem dX9_isFree_35 : decode cX9_isFree 35 = .ok (.iconst 1, 1) := by decide +kernel
theorem dX9_isFree_36 : decode cX9_isFree 36 = .ok (.goto 4, 3) := by decide +kernel
theorem dX9_isFree_39 : decode cX9_isFree 39 = .ok (.iconst 0, 1) := by decide +kernel
theorem dX9_isFree_40 : decode cX9_isFree 40 = .ok (.ireturn, 1) := by decide +kernel
theorem dX9_maySay_0 : decode cX9_maySay 0 = .ok (.aload_n 1, 1) := by decide +kernel
theorem dX9_maySay_1 : decode cX9_maySay 1 = .ok (.getfield 122, 3) := by decide +kernel
theorem dX9_maySay_4 : decode cX9_maySay 4 = .ok (.iconst (-1), 1) := by decide +kernel
theorem dX9_maySay_5 : decode cX9_maySay 5 = .ok (.if_icmp .ne 33, 3) := by decide +kernel
theorem dX9_maySay_8 : decode cX9_maySay 8 = .ok (.aload_n 0, 1) := by decide +kernel
theorem dX9_maySay_9 : decode cX9_maySay 9 = .ok (.iload_n 2, 1) := by decide +kernel
theorem dX9_maySay_10 : decode cX9_maySay 10 = .ok (.invokevirtual 125, 3) := by decide +kernel
theorem dX9_maySay_13 : decode cX9_maySay 13 = .ok (.ifCond .eq 25, 3) := by decide +kernel
theorem dX9_maySay_16 : decode cX9_maySay 16 = .ok (.aload_n 1, 1) := by decide +kernel
theorem dX9_maySay_17 : decode cX9_maySay 17 = .ok (.getfield 95, 3) := by decide +kernel
theorem dX9_maySay_20 : decode cX9_maySay 20 = .ok (.iload_n 2, 1) := by decide +kernel
theorem dX9_maySay_21 : decode cX9_maySay 21 = .ok (.iaload, 1) := by decide +kernel
theorem dX9_maySay_22 : decode cX9_maySay 22 = .ok (.ifCond .ne 16, 3) := by decide +kernel
theorem dX9_maySay_25 : decode cX9_maySay 25 = .ok (.aload_n 0, 1) := by decide +kernel
theorem dX9_maySay_26 : decode cX9_maySay 26 = .ok (.aload_n 1, 1) := by decide +kernel
theorem dX9_maySay_27 : decode cX9_maySay 27 = .ok (.iload_n 2, 1) := by decide +kernel
theorem dX9_maySay_28 : decode cX9_maySay 28 = .ok (.invokevirtual 128, 3) := by decide +kernel
theorem dX9_maySay_31 : decode cX9_maySay 31 = .ok (.ifCond .eq 7, 3) := by decide +kernel
theorem dX9_maySay_34 : decode cX9_maySay 34 = .ok (.iconst 1, 1) := by decide +kernel
theorem dX9_maySay_35 : decode cX9_maySay 35 = .ok (.goto 4, 3) := by decide +kernel
theorem dX9_maySay_38 : decode cX9_maySay 38 = .ok (.iconst 0, 1) := by decide +kernel
theorem dX9_maySay_39 : decode cX9_maySay 39 = .ok (.ireturn, 1) := by decide +kernel
theorem dX9_begin_0 : decode cX9_begin 0 = .ok (.aload_n 0, 1) := by decide +kernel
theorem dX9_begin_1 : decode cX9_begin 1 = .ok (.iload_n 2, 1) := by decide +kernel
theorem dX9_begin_2 : decode cX9_begin 2 = .ok (.invokevirtual 125, 3) := by decide +kernel
theorem dX9_begin_5 : decode cX9_begin 5 = .ok (.ifCond .eq 18, 3) := by decide +kernel
theorem dX9_begin_8 : decode cX9_begin 8 = .ok (.aload_n 1, 1) := by decide +kernel
theorem dX9_begin_9 : decode cX9_begin 9 = .ok (.iload_n 2, 1) := by decide +kernel
theorem dX9_begin_10 : decode cX9_begin 10 = .ok (.putfield 122, 3) := by decide +kernel
theorem dX9_begin_13 : decode cX9_begin 13 = .ok (.aload_n 1, 1) := by decide +kernel
theorem dX9_begin_14 : decode cX9_begin 14 = .ok (.aload_n 0, 1) := by decide +kernel
theorem dX9_begin_15 : decode cX9_begin 15 = .ok (.getfield 24, 3) := by decide +kernel
theorem dX9_begin_18 : decode cX9_begin 18 = .ok (.iload_n 2, 1) := by decide +kernel
theorem dX9_begin_19 : decode cX9_begin 19 = .ok (.iaload, 1) := by decide +kernel
theorem dX9_begin_20 : decode cX9_begin 20 = .ok (.putfield 132, 3) := by decide +kernel
theorem dX9_begin_23 : decode cX9_begin 23 = .ok (.return_, 1) := by decide +kernel
theorem dX9_tillEnd_0 : decode cX9_tillEnd 0 = .ok (.aload_n 0, 1) := by decide +kernel
theorem dX9_tillEnd_1 : decode cX9_tillEnd 1 = .ok (.aload_n 1, 1) := by decide +kernel
theorem dX9_tillEnd_2 : decode cX9_tillEnd 2 = .ok (.invokevirtual 135, 3) := by decide +kernel
theorem dX9_tillEnd_5 : decode cX9_tillEnd 5 = .ok (.istore_n 2, 1) := by decide +kernel
theorem dX9_tillEnd_6 : decode cX9_tillEnd 6 = .ok (.aload_n 0, 1) := by decide +kernel
theorem dX9_tillEnd_7 : decode cX9_tillEnd 7 = .ok (.iload_n 2, 1) := by decide +kernel
theorem dX9_tillEnd_8 : decode cX9_tillEnd 8 = .ok (.invokevirtual 98, 3) := by decide +kernel
theorem dX9_tillEnd_11 : decode cX9_tillEnd 11 = .ok (.ifCond .ne 5, 3) := by decide +kernel
theorem dX9_tillEnd_14 : decode cX9_tillEnd 14 = .ok (.iconst 0, 1) := by decide +kernel
theorem dX9_tillEnd_15 : decode cX9_tillEnd 15 = .ok (.ireturn, 1) := by decide +kernel
theorem dX9_tillEnd_16 : decode cX9_tillEnd 16 = .ok (.aload_n 1, 1) := by decide +kernel
theorem dX9_tillEnd_17 : decode cX9_tillEnd 17 = .ok (.getfield 89, 3) := by decide +kernel
theorem dX9_tillEnd_20 : decode cX9_tillEnd 20 = .ok (.iload_n 2, 1) := by decide +kernel
theorem dX9_tillEnd_21 : decode cX9_tillEnd 21 = .ok (.iaload, 1) := by decide +kernel
theorem dX9_tillEnd_22 : decode cX9_tillEnd 22 = .ok (.aload_n 0, 1) := by decide +kernel
theorem dX9_tillEnd_23 : decode cX9_tillEnd 23 = .ok (.iload_n 2, 1) := by decide +kernel
theorem dX9_tillEnd_24 : decode cX9_tillEnd 24 = .ok (.invokevirtual 139, 3) := by decide +kernel
theorem dX9_tillEnd_27 : decode cX9_tillEnd 27 = .ok (.invokestatic 142, 3) := by decide +kernel
theorem dX9_tillEnd_30 : decode cX9_tillEnd 30 = .ok (.istore_n 3, 1) := by decide +kernel
theorem dX9_tillEnd_31 : decode cX9_tillEnd 31 = .ok (.iload_n 3, 1) := by decide +kernel
theorem dX9_tillEnd_32 : decode cX9_tillEnd 32 = .ok (.aload_n 1, 1) := by decide +kernel
theorem dX9_tillEnd_33 : decode cX9_tillEnd 33 = .ok (.getfield 132, 3) := by decide +kernel
theorem dX9_tillEnd_36 : decode cX9_tillEnd 36 = .ok (.if_icmp .lt 10, 3) := by decide +kernel
theorem dX9_tillEnd_39 : decode cX9_tillEnd 39 = .ok (.aload_n 1, 1) := by decide +kernel
theorem dX9_tillEnd_40 : decode cX9_tillEnd 40 = .ok (.getfield 132, 3) := by decide +kernel
theorem dX9_tillEnd_43 : decode cX9_tillEnd 43 = .ok (.goto 6, 3) := by decide +kernel
theorem dX9_tillEnd_46 : decode cX9_tillEnd 46 = .ok (.iload_n 3, 1) := by decide +kernel
theorem dX9_tillEnd_47 : decode cX9_tillEnd 47 = .ok (.iconst 1, 1) := by decide +kernel
theorem dX9_tillEnd_48 : decode cX9_tillEnd 48 = .ok (.iadd, 1) := by decide +kernel
theorem dX9_tillEnd_49 : decode cX9_tillEnd 49 = .ok (.ireturn, 1) := by decide +kernel
theorem dX9_pass_0 : decode cX9_pass 0 = .ok (.aload_n 1, 1) := by decide +kernel
theorem dX9_pass_1 : decode cX9_pass 1 = .ok (.dup, 1) := by decide +kernel
theorem dX9_pass_2 : decode cX9_pass 2 = .ok (.getfield 145, 3) := by decide +kernel
theorem dX9_pass_5 : decode cX9_pass 5 = .ok (.iload_n 2, 1) := by decide +kernel
theorem dX9_pass_6 : decode cX9_pass 6 = .ok (.iadd, 1) := by decide +kernel
theorem dX9_pass_7 : decode cX9_pass 7 = .ok (.putfield 145, 3) := by decide +kernel
theorem dX9_pass_10 : decode cX9_pass 10 = .ok (.aload_n 1, 1) := by decide +kernel
theorem dX9_pass_11 : decode cX9_pass 11 = .ok (.getfield 148, 3) := by decide +kernel
theorem dX9_pass_14 : decode cX9_pass 14 = .ok (.ifCond .eq 4, 3) := by decide +kernel
theorem dX9_pass_17 : decode cX9_pass 17 = .ok (.return_, 1) := by decide +kernel
theorem dX9_pass_18 : decode cX9_pass 18 = .ok (.aload_n 1, 1) := by decide +kernel
theorem dX9_pass_19 : decode cX9_pass 19 = .ok (.getfield 122, 3) := by decide +kernel
theorem dX9_pass_22 : decode cX9_pass 22 = .ok (.istore_n 3, 1) := by decide +kernel
theorem dX9_pass_23 : decode cX9_pass 23 = .ok (.aload_n 0, 1) := by decide +kernel
theorem dX9_pass_24 : decode cX9_pass 24 = .ok (.aload_n 1, 1) := by decide +kernel
theorem dX9_pass_25 : decode cX9_pass 25 = .ok (.invokevirtual 135, 3) := by decide +kernel
theorem dX9_pass_28 : decode cX9_pass 28 = .ok (.istore 4, 2) := by decide +kernel
theorem dX9_pass_30 : decode cX9_pass 30 = .ok (.iload_n 2, 1) := by decide +kernel
theorem dX9_pass_31 : decode cX9_pass 31 = .ok (.aload_n 0, 1) := by decide +kernel
theorem dX9_pass_32 : decode cX9_pass 32 = .ok (.aload_n 1, 1) := by decide +kernel
theorem dX9_pass_33 : decode cX9_pass 33 = .ok (.invokevirtual 151, 3) := by decide +kernel
theorem dX9_pass_36 : decode cX9_pass 36 = .ok (.invokestatic 154, 3) := by decide +kernel
theorem dX9_pass_39 : decode cX9_pass 39 = .ok (.istore 5, 2) := by decide +kernel
theorem dX9_pass_41 : decode cX9_pass 41 = .ok (.aload_n 0, 1) := by decide +kernel
theorem dX9_pass_42 : decode cX9_pass 42 = .ok (.iload_n 3, 1) := by decide +kernel
theorem dX9_pass_43 : decode cX9_pass 43 = .ok (.invokevirtual 125, 3) := by decide +kernel
theorem dX9_pass_46 : decode cX9_pass 46 = .ok (.ifCond .eq 130, 3) := by decide +kernel
theorem dX9_pass_49 : decode cX9_pass 49 = .ok (.aload_n 0, 1) := by decide +kernel
theorem dX9_pass_50 : decode cX9_pass 50 = .ok (.iload 4, 2) := by decide +kernel
theorem dX9_pass_52 : decode cX9_pass 52 = .ok (.invokevirtual 98, 3) := by decide +kernel
theorem dX9_pass_55 : decode cX9_pass 55 = .ok (.ifCond .eq 121, 3) := by decide +kernel
theorem dX9_pass_58 : decode cX9_pass 58 = .ok (.iload 5, 2) := by decide +kernel
theorem dX9_pass_60 : decode cX9_pass 60 = .ok (.ifCond .le 116, 3) := by decide +kernel
theorem dX9_pass_63 : decode cX9_pass 63 = .ok (.aload_n 1, 1) := by decide +kernel
theorem dX9_pass_64 : decode cX9_pass 64 = .ok (.getfield 89, 3) := by decide +kernel
theorem dX9_pass_67 : decode cX9_pass 67 = .ok (.iload 4, 2) := by decide +kernel
theorem dX9_pass_69 : decode cX9_pass 69 = .ok (.iaload, 1) := by decide +kernel
theorem dX9_pass_70 : decode cX9_pass 70 = .ok (.iload 5, 2) := by decide +kernel
theorem dX9_pass_72 : decode cX9_pass 72 = .ok (.aload_n 0, 1) := by decide +kernel
theorem dX9_pass_73 : decode cX9_pass 73 = .ok (.iload 4, 2) := by decide +kernel
theorem dX9_pass_75 : decode cX9_pass 75 = .ok (.invokevirtual 139, 3) := by decide +kernel
theorem dX9_pass_78 : decode cX9_pass 78 = .ok (.imul, 1) := by decide +kernel
theorem dX9_pass_79 : decode cX9_pass 79 = .ok (.if_icmp .ge 7, 3) := by decide +kernel
theorem dX9_pass_82 : decode cX9_pass 82 = .ok (.iconst 1, 1) := by decide +kernel
theorem dX9_pass_83 : decode cX9_pass 83 = .ok (.goto 4, 3) := by decide +kernel
theorem dX9_pass_86 : decode cX9_pass 86 = .ok (.iconst 0, 1) := by decide +kernel
theorem dX9_pass_87 : decode cX9_pass 87 = .ok (.istore 6, 2) := by decide +kernel
theorem dX9_pass_89 : decode cX9_pass 89 = .ok (.aload_n 0, 1) := by decide +kernel
theorem dX9_pass_90 : decode cX9_pass 90 = .ok (.aload_n 1, 1) := by decide +kernel
theorem dX9_pass_91 : decode cX9_pass 91 = .ok (.iload 5, 2) := by decide +kernel
theorem dX9_pass_93 : decode cX9_pass 93 = .ok (.invokevirtual 159, 3) := by decide +kernel
theorem dX9_pass_96 : decode cX9_pass 96 = .ok (.aload_n 1, 1) := by decide +kernel
theorem dX9_pass_97 : decode cX9_pass 97 = .ok (.dup, 1) := by decide +kernel
theorem dX9_pass_98 : decode cX9_pass 98 = .ok (.getfield 132, 3) := by decide +kernel
theorem dX9_pass_101 : decode cX9_pass 101 = .ok (.iload 5, 2) := by decide +kernel
theorem dX9_pass_103 : decode cX9_pass 103 = .ok (.isub, 1) := by decide +kernel
theorem dX9_pass_104 : decode cX9_pass 104 = .ok (.putfield 132, 3) := by decide +kernel
theorem dX9_pass_107 : decode cX9_pass 107 = .ok (.iload 6, 2) := by decide +kernel
theorem dX9_pass_109 : decode cX9_pass 109 = .ok (.ifCond .eq 12, 3) := by decide +kernel
theorem dX9_pass_112 : decode cX9_pass 112 = .ok (.aload_n 1, 1) := by decide +kernel
theorem dX9_pass_113 : decode cX9_pass 113 = .ok (.iload_n 3, 1) := by decide +kernel
theorem dX9_pass_114 : decode cX9_pass 114 = .ok (.iconst 2, 1) := by decide +kernel
theorem dX9_pass_115 : decode cX9_pass 115 = .ok (.invokevirtual 163, 3) := by decide +kernel
theorem dX9_pass_118 : decode cX9_pass 118 = .ok (.goto 58, 3) := by decide +kernel
theorem dX9_pass_121 : decode cX9_pass 121 = .ok (.aload_n 1, 1) := by decide +kernel
theorem dX9_pass_122 : decode cX9_pass 122 = .ok (.getfield 132, 3) := by decide +kernel
theorem dX9_pass_125 : decode cX9_pass 125 = .ok (.ifCond .gt 51, 3) := by decide +kernel
theorem dX9_pass_128 : decode cX9_pass 128 = .ok (.aload_n 1, 1) := by decide +kernel
theorem dX9_pass_129 : decode cX9_pass 129 = .ok (.getfield 92, 3) := by decide +kernel
theorem dX9_pass_132 : decode cX9_pass 132 = .ok (.iload 4, 2) := by decide +kernel
theorem dX9_pass_134 : decode cX9_pass 134 = .ok (.iaload, 1) := by decide +kernel
theorem dX9_pass_135 : decode cX9_pass 135 = .ok (.istore 7, 2) := by decide +kernel
theorem dX9_pass_137 : decode cX9_pass 137 = .ok (.aload_n 1, 1) := by decide +kernel
theorem dX9_pass_138 : decode cX9_pass 138 = .ok (.getfield 92, 3) := by decide +kernel
theorem dX9_pass_141 : decode cX9_pass 141 = .ok (.iload 4, 2) := by decide +kernel
theorem dX9_pass_143 : decode cX9_pass 143 = .ok (.ldc 167, 2) := by decide +kernel
theorem dX9_pass_145 : decode cX9_pass 145 = .ok (.iload 7, 2) := by decide +kernel
theorem dX9_pass_147 : decode cX9_pass 147 = .ok (.aload_n 0, 1) := by decide +kernel
theorem dX9_pass_148 : decode cX9_pass 148 = .ok (.aload_n 0, 1) := by decide +kernel
theorem dX9_pass_149 : decode cX9_pass 149 = .ok (.getfield 27, 3) := by decide +kernel
theorem dX9_pass_152 : decode cX9_pass 152 = .ok (.iload_n 3, 1) := by decide +kernel
theorem dX9_pass_153 : decode cX9_pass 153 = .ok (.iaload, 1) := by decide +kernel
theorem dX9_pass_154 : decode cX9_pass 154 = .ok (.aload_n 0, 1) := by decide +kernel
theorem dX9_pass_155 : decode cX9_pass 155 = .ok (.getfield 24, 3) := by decide +kernel
theorem dX9_pass_158 : decode cX9_pass 158 = .ok (.iload_n 3, 1) := by decide +kernel
theorem dX9_pass_159 : decode cX9_pass 159 = .ok (.iaload, 1) := by decide +kernel
theorem dX9_pass_160 : decode cX9_pass 160 = .ok (.iload 7, 2) := by decide +kernel
theorem dX9_pass_162 : decode cX9_pass 162 = .ok (.invokevirtual 168, 3) := by decide +kernel
theorem dX9_pass_165 : decode cX9_pass 165 = .ok (.iadd, 1) := by decide +kernel
theorem dX9_pass_166 : decode cX9_pass 166 = .ok (.invokestatic 154, 3) := by decide +kernel
theorem dX9_pass_169 : decode cX9_pass 169 = .ok (.iastore, 1) := by decide +kernel
theorem dX9_pass_170 : decode cX9_pass 170 = .ok (.aload_n 1, 1) := by decide +kernel
theorem dX9_pass_171 : decode cX9_pass 171 = .ok (.iload_n 3, 1) := by decide +kernel
theorem dX9_pass_172 : decode cX9_pass 172 = .ok (.iconst 1, 1) := by decide +kernel
theorem dX9_pass_173 : decode cX9_pass 173 = .ok (.invokevirtual 163, 3) := by decide +kernel
theorem dX9_pass_176 : decode cX9_pass 176 = .ok (.iload_n 2, 1) := by decide +kernel
theorem dX9_pass_177 : decode cX9_pass 177 = .ok (.iload 5, 2) := by decide +kernel
theorem dX9_pass_179 : decode cX9_pass 179 = .ok (.if_icmp .le 12, 3) := by decide +kernel
theorem dX9_pass_182 : decode cX9_pass 182 = .ok (.aload_n 0, 1) := by decide +kernel
theorem dX9_pass_183 : decode cX9_pass 183 = .ok (.aload_n 1, 1) := by decide +kernel
theorem dX9_pass_184 : decode cX9_pass 184 = .ok (.iload_n 2, 1) := by decide +kernel
theorem dX9_pass_185 : decode cX9_pass 185 = .ok (.iload 5, 2) := by decide +kernel
theorem dX9_pass_187 : decode cX9_pass 187 = .ok (.isub, 1) := by decide +kernel
theorem dX9_pass_188 : decode cX9_pass 188 = .ok (.invokevirtual 159, 3) := by decide +kernel
theorem dX9_pass_191 : decode cX9_pass 191 = .ok (.return_, 1) := by decide +kernel
theorem dX9_drain_0 : decode cX9_drain 0 = .ok (.aload_n 0, 1) := by decide +kernel
theorem dX9_drain_1 : decode cX9_drain 1 = .ok (.aload_n 1, 1) := by decide +kernel
theorem dX9_drain_2 : decode cX9_drain 2 = .ok (.invokevirtual 135, 3) := by decide +kernel
theorem dX9_drain_5 : decode cX9_drain 5 = .ok (.istore_n 3, 1) := by decide +kernel
theorem dX9_drain_6 : decode cX9_drain 6 = .ok (.iconst 0, 1) := by decide +kernel
theorem dX9_drain_7 : decode cX9_drain 7 = .ok (.istore 4, 2) := by decide +kernel
theorem dX9_drain_9 : decode cX9_drain 9 = .ok (.iload 4, 2) := by decide +kernel
theorem dX9_drain_11 : decode cX9_drain 11 = .ok (.aload_n 0, 1) := by decide +kernel
theorem dX9_drain_12 : decode cX9_drain 12 = .ok (.getfield 60, 3) := by decide +kernel
theorem dX9_drain_15 : decode cX9_drain 15 = .ok (.if_icmp .ge 52, 3) := by decide +kernel
theorem dX9_drain_18 : decode cX9_drain 18 = .ok (.iload 4, 2) := by decide +kernel
theorem dX9_drain_20 : decode cX9_drain 20 = .ok (.iconst 4, 1) := by decide +kernel
theorem dX9_drain_21 : decode cX9_drain 21 = .ok (.if_icmp .ge 46, 3) := by decide +kernel
theorem dX9_drain_24 : decode cX9_drain 24 = .ok (.iload_n 2, 1) := by decide +kernel
theorem dX9_drain_25 : decode cX9_drain 25 = .ok (.iload 4, 2) := by decide +kernel
theorem dX9_drain_27 : decode cX9_drain 27 = .ok (.iload_n 3, 1) := by decide +kernel
theorem dX9_drain_28 : decode cX9_drain 28 = .ok (.if_icmp .ne 12, 3) := by decide +kernel
theorem dX9_drain_31 : decode cX9_drain 31 = .ok (.aload_n 0, 1) := by decide +kernel
theorem dX9_drain_32 : decode cX9_drain 32 = .ok (.iload 4, 2) := by decide +kernel
theorem dX9_drain_34 : decode cX9_drain 34 = .ok (.invokevirtual 139, 3) := by decide +kernel
theorem dX9_drain_37 : decode cX9_drain 37 = .ok (.goto 9, 3) := by decide +kernel
theorem dX9_drain_40 : decode cX9_drain 40 = .ok (.aload_n 0, 1) := by decide +kernel
theorem dX9_drain_41 : decode cX9_drain 41 = .ok (.iload 4, 2) := by decide +kernel
theorem dX9_drain_43 : decode cX9_drain 43 = .ok (.invokevirtual 171, 3) := by decide +kernel
theorem dX9_drain_46 : decode cX9_drain 46 = .ok (.imul, 1) := by decide +kernel
theorem dX9_drain_47 : decode cX9_drain 47 = .ok (.istore 5, 2) := by decide +kernel
theorem dX9_drain_49 : decode cX9_drain 49 = .ok (.aload_n 1, 1) := by decide +kernel
theorem dX9_drain_50 : decode cX9_drain 50 = .ok (.aload_n 1, 1) := by decide +kernel
theorem dX9_drain_51 : decode cX9_drain 51 = .ok (.iload 4, 2) := by decide +kernel
theorem dX9_drain_53 : decode cX9_drain 53 = .ok (.iload 5, 2) := by decide +kernel
theorem dX9_drain_55 : decode cX9_drain 55 = .ok (.invokevirtual 173, 3) := by decide +kernel
theorem dX9_drain_58 : decode cX9_drain 58 = .ok (.invokevirtual 176, 3) := by decide +kernel
theorem dX9_drain_61 : decode cX9_drain 61 = .ok (.iinc 4 1, 3) := by decide +kernel
theorem dX9_drain_64 : decode cX9_drain 64 = .ok (.goto (-55), 3) := by decide +kernel
theorem dX9_drain_67 : decode cX9_drain 67 = .ok (.return_, 1) := by decide +kernel
theorem dX9_loseByDraws_0 : decode cX9_loseByDraws 0 = .ok (.aload_n 0, 1) := by decide +kernel
theorem dX9_loseByDraws_1 : decode cX9_loseByDraws 1 = .ok (.invokevirtual 180, 3) := by decide +kernel
theorem dX9_loseByDraws_4 : decode cX9_loseByDraws 4 = .ok (.iconst 4, 1) := by decide +kernel
theorem dX9_loseByDraws_5 : decode cX9_loseByDraws 5 = .ok (.irem, 1) := by decide +kernel
theorem dX9_loseByDraws_6 : decode cX9_loseByDraws 6 = .ok (.istore_n 1, 1) := by decide +kernel
theorem dX9_loseByDraws_7 : decode cX9_loseByDraws 7 = .ok (.aload_n 0, 1) := by decide +kernel
theorem dX9_loseByDraws_8 : decode cX9_loseByDraws 8 = .ok (.invokevirtual 180, 3) := by decide +kernel
theorem dX9_loseByDraws_11 : decode cX9_loseByDraws 11 = .ok (.bipush 6, 2) := by decide +kernel
theorem dX9_loseByDraws_13 : decode cX9_loseByDraws 13 = .ok (.irem, 1) := by decide +kernel
theorem dX9_loseByDraws_14 : decode cX9_loseByDraws 14 = .ok (.istore_n 2, 1) := by decide +kernel
theorem dX9_loseByDraws_15 : decode cX9_loseByDraws 15 = .ok (.aload_n 0, 1) := by decide +kernel
theorem dX9_loseByDraws_16 : decode cX9_loseByDraws 16 = .ok (.iload_n 1, 1) := by decide +kernel
theorem dX9_loseByDraws_17 : decode cX9_loseByDraws 17 = .ok (.invokevirtual 98, 3) := by decide +kernel
theorem dX9_loseByDraws_20 : decode cX9_loseByDraws 20 = .ok (.ifCond .eq 13, 3) := by decide +kernel
theorem dX9_loseByDraws_23 : decode cX9_loseByDraws 23 = .ok (.aload_n 0, 1) := by decide +kernel
theorem dX9_loseByDraws_24 : decode cX9_loseByDraws 24 = .ok (.getfield 36, 3) := by decide +kernel
theorem dX9_loseByDraws_27 : decode cX9_loseByDraws 27 = .ok (.iload_n 1, 1) := by decide +kernel
theorem dX9_loseByDraws_28 : decode cX9_loseByDraws 28 = .ok (.iload_n 2, 1) := by decide +kernel
theorem dX9_loseByDraws_29 : decode cX9_loseByDraws 29 = .ok (.invokevirtual 173, 3) := by decide +kernel
theorem dX9_loseByDraws_32 : decode cX9_loseByDraws 32 = .ok (.pop, 1) := by decide +kernel
theorem dX9_loseByDraws_33 : decode cX9_loseByDraws 33 = .ok (.return_, 1) := by decide +kernel
theorem dX9_draw_0 : decode cX9_draw 0 = .ok (.aload_n 0, 1) := by decide +kernel
theorem dX9_draw_1 : decode cX9_draw 1 = .ok (.aload_n 0, 1) := by decide +kernel
theorem dX9_draw_2 : decode cX9_draw 2 = .ok (.getfield 56, 3) := by decide +kernel
theorem dX9_draw_5 : decode cX9_draw 5 = .ok (.ldc 184, 2) := by decide +kernel
theorem dX9_draw_7 : decode cX9_draw 7 = .ok (.imul, 1) := by decide +kernel
theorem dX9_draw_8 : decode cX9_draw 8 = .ok (.sipush 12345, 3) := by decide +kernel
theorem dX9_draw_11 : decode cX9_draw 11 = .ok (.iadd, 1) := by decide +kernel
theorem dX9_draw_12 : decode cX9_draw 12 = .ok (.putfield 56, 3) := by decide +kernel
theorem dX9_draw_15 : decode cX9_draw 15 = .ok (.aload_n 0, 1) := by decide +kernel
theorem dX9_draw_16 : decode cX9_draw 16 = .ok (.getfield 56, 3) := by decide +kernel
theorem dX9_draw_19 : decode cX9_draw 19 = .ok (.bipush 8, 2) := by decide +kernel
theorem dX9_draw_21 : decode cX9_draw 21 = .ok (.iushr, 1) := by decide +kernel
theorem dX9_draw_22 : decode cX9_draw 22 = .ok (.ireturn, 1) := by decide +kernel
theorem dX10_init_0 : decode cX10_init 0 = .ok (.aload_n 0, 1) := by decide +kernel
theorem dX10_init_1 : decode cX10_init 1 = .ok (.invokespecial 3, 3) := by decide +kernel
theorem dX10_init_4 : decode cX10_init 4 = .ok (.aload_n 0, 1) := by decide +kernel
theorem dX10_init_5 : decode cX10_init 5 = .ok (.bipush 50, 2) := by decide +kernel
theorem dX10_init_7 : decode cX10_init 7 = .ok (.newarray .int, 2) := by decide +kernel
theorem dX10_init_9 : decode cX10_init 9 = .ok (.putfield 9, 3) := by decide +kernel
theorem dX10_init_12 : decode cX10_init 12 = .ok (.aload_n 0, 1) := by decide +kernel
theorem dX10_init_13 : decode cX10_init 13 = .ok (.bipush 50, 2) := by decide +kernel
theorem dX10_init_15 : decode cX10_init 15 = .ok (.newarray .int, 2) := by decide +kernel
theorem dX10_init_17 : decode cX10_init 17 = .ok (.putfield 15, 3) := by decide +kernel
theorem dX10_init_20 : decode cX10_init 20 = .ok (.return_, 1) := by decide +kernel
theorem dX10_isThere_0 : decode cX10_isThere 0 = .ok (.aload_n 0, 1) := by decide +kernel
theorem dX10_isThere_1 : decode cX10_isThere 1 = .ok (.getfield 18, 3) := by decide +kernel
theorem dX10_isThere_4 : decode cX10_isThere 4 = .ok (.ifCond .le 7, 3) := by decide +kernel
theorem dX10_isThere_7 : decode cX10_isThere 7 = .ok (.iconst 1, 1) := by decide +kernel
theorem dX10_isThere_8 : decode cX10_isThere 8 = .ok (.goto 4, 3) := by decide +kernel
theorem dX10_isThere_11 : decode cX10_isThere 11 = .ok (.iconst 0, 1) := by decide +kernel
theorem dX10_isThere_12 : decode cX10_isThere 12 = .ok (.ireturn, 1) := by decide +kernel
theorem dX10_clear_0 : decode cX10_clear 0 = .ok (.aload_n 0, 1) := by decide +kernel
theorem dX10_clear_1 : decode cX10_clear 1 = .ok (.iconst 0, 1) := by decide +kernel
theorem dX10_clear_2 : decode cX10_clear 2 = .ok (.putfield 18, 3) := by decide +kernel
theorem dX10_clear_5 : decode cX10_clear 5 = .ok (.return_, 1) := by decide +kernel
theorem dX10_add_0 : decode cX10_add 0 = .ok (.aload_n 0, 1) := by decide +kernel
theorem dX10_add_1 : decode cX10_add 1 = .ok (.getfield 18, 3) := by decide +kernel
theorem dX10_add_4 : decode cX10_add 4 = .ok (.iconst 0, 1) := by decide +kernel
theorem dX10_add_5 : decode cX10_add 5 = .ok (.aload_n 0, 1) := by decide +kernel
theorem dX10_add_6 : decode cX10_add 6 = .ok (.getfield 9, 3) := by decide +kernel
theorem dX10_add_9 : decode cX10_add 9 = .ok (.arraylength, 1) := by decide +kernel
theorem dX10_add_10 : decode cX10_add 10 = .ok (.iconst 1, 1) := by decide +kernel
theorem dX10_add_11 : decode cX10_add 11 = .ok (.isub, 1) := by decide +kernel
theorem dX10_add_12 : decode cX10_add 12 = .ok (.invokestatic 22, 3) := by decide +kernel
theorem dX10_add_15 : decode cX10_add 15 = .ok (.ifCond .eq 23, 3) := by decide +kernel
theorem dX10_add_18 : decode cX10_add 18 = .ok (.aload_n 0, 1) := by decide +kernel
theorem dX10_add_19 : decode cX10_add 19 = .ok (.getfield 9, 3) := by decide +kernel
theorem dX10_add_22 : decode cX10_add 22 = .ok (.aload_n 0, 1) := by decide +kernel
theorem dX10_add_23 : decode cX10_add 23 = .ok (.getfield 18, 3) := by decide +kernel
theorem dX10_add_26 : decode cX10_add 26 = .ok (.iload_n 1, 1) := by decide +kernel
theorem dX10_add_27 : decode cX10_add 27 = .ok (.iastore, 1) := by decide +kernel
theorem dX10_add_28 : decode cX10_add 28 = .ok (.aload_n 0, 1) := by decide +kernel
theorem dX10_add_29 : decode cX10_add 29 = .ok (.dup, 1) := by decide +kernel
theorem dX10_add_30 : decode cX10_add 30 = .ok (.getfield 18, 3) := by decide +kernel
theorem dX10_add_33 : decode cX10_add 33 = .ok (.iconst 1, 1) := by decide +kernel
theorem dX10_add_34 : decode cX10_add 34 = .ok (.iadd, 1) := by decide +kernel
theorem dX10_add_35 : decode cX10_add 35 = .ok (.putfield 18, 3) := by decide +kernel
theorem dX10_add_38 : decode cX10_add 38 = .ok (.return_, 1) := by decide +kernel
theorem dX10_copy_0 : decode cX10_copy 0 = .ok (.aload_n 1, 1) := by decide +kernel
theorem dX10_copy_1 : decode cX10_copy 1 = .ok (.getfield 9, 3) := by decide +kernel
theorem dX10_copy_4 : decode cX10_copy 4 = .ok (.iconst 0, 1) := by decide +kernel
theorem dX10_copy_5 : decode cX10_copy 5 = .ok (.aload_n 0, 1) := by decide +kernel
theorem dX10_copy_6 : decode cX10_copy 6 = .ok (.getfield 9, 3) := by decide +kernel
theorem dX10_copy_9 : decode cX10_copy 9 = .ok (.iconst 0, 1) := by decide +kernel
theorem dX10_copy_10 : decode cX10_copy 10 = .ok (.bipush 50, 2) := by decide +kernel
theorem dX10_copy_12 : decode cX10_copy 12 = .ok (.invokestatic 26, 3) := by decide +kernel
theorem dX10_copy_15 : decode cX10_copy 15 = .ok (.aload_n 0, 1) := by decide +kernel
theorem dX10_copy_16 : decode cX10_copy 16 = .ok (.aload_n 1, 1) := by decide +kernel
theorem dX10_copy_17 : decode cX10_copy 17 = .ok (.getfield 18, 3) := by decide +kernel
theorem dX10_copy_20 : decode cX10_copy 20 = .ok (.putfield 18, 3) := by decide +kernel
theorem dX10_copy_23 : decode cX10_copy 23 = .ok (.return_, 1) := by decide +kernel
theorem dX10_value_0 : decode cX10_value 0 = .ok (.iconst 0, 1) := by decide +kernel
theorem dX10_value_1 : decode cX10_value 1 = .ok (.istore 4, 2) := by decide +kernel
theorem dX10_value_3 : decode cX10_value 3 = .ok (.iconst 0, 1) := by decide +kernel
theorem dX10_value_4 : decode cX10_value 4 = .ok (.istore 5, 2) := by decide +kernel
theorem dX10_value_6 : decode cX10_value 6 = .ok (.iload 5, 2) := by decide +kernel
theorem dX10_value_8 : decode cX10_value 8 = .ok (.aload_n 0, 1) := by decide +kernel
theorem dX10_value_9 : decode cX10_value 9 = .ok (.getfield 18, 3) := by decide +kernel
theorem dX10_value_12 : decode cX10_value 12 = .ok (.if_icmp .ge 193, 3) := by decide +kernel
theorem dX10_value_15 : decode cX10_value 15 = .ok (.iload 5, 2) := by decide +kernel
theorem dX10_value_17 : decode cX10_value 17 = .ok (.aload_n 0, 1) := by decide +kernel
theorem dX10_value_18 : decode cX10_value 18 = .ok (.getfield 9, 3) := by decide +kernel
theorem dX10_value_21 : decode cX10_value 21 = .ok (.arraylength, 1) := by decide +kernel
theorem dX10_value_22 : decode cX10_value 22 = .ok (.if_icmp .ge 183, 3) := by decide +kernel
theorem dX10_value_25 : decode cX10_value 25 = .ok (.aload_n 0, 1) := by decide +kernel
theorem dX10_value_26 : decode cX10_value 26 = .ok (.getfield 9, 3) := by decide +kernel
theorem dX10_value_29 : decode cX10_value 29 = .ok (.iload 5, 2) := by decide +kernel
theorem dX10_value_31 : decode cX10_value 31 = .ok (.iaload, 1) := by decide +kernel
theorem dX10_value_32 : decode cX10_value 32 = .ok (.istore 6, 2) := by decide +kernel
theorem dX10_value_34 : decode cX10_value 34 = .ok (.iload 6, 2) := by decide +kernel
theorem dX10_value_36 : decode cX10_value 36 = .ok (.bipush (-3), 2) := by decide +kernel
theorem dX10_value_38 : decode cX10_value 38 = .ok (.if_icmp .lt 58, 3) := by decide +kernel
theorem dX10_value_41 : decode cX10_value 41 = .ok (.iload 4, 2) := by decide +kernel
theorem dX10_value_43 : decode cX10_value 43 = .ok (.aload_n 0, 1) := by decide +kernel
theorem dX10_value_44 : decode cX10_value 44 = .ok (.getfield 15, 3) := by decide +kernel
theorem dX10_value_47 : decode cX10_value 47 = .ok (.arraylength, 1) := by decide +kernel
theorem dX10_value_48 : decode cX10_value 48 = .ok (.if_icmp .ge 151, 3) := by decide +kernel
theorem dX10_value_51 : decode cX10_value 51 = .ok (.aload_n 0, 1) := by decide +kernel
theorem dX10_value_52 : decode cX10_value 52 = .ok (.getfield 15, 3) := by decide +kernel
theorem dX10_value_55 : decode cX10_value 55 = .ok (.iload 4, 2) := by decide +kernel
theorem dX10_value_57 : decode cX10_value 57 = .ok (.iload 6, 2) := by decide +kernel
theorem dX10_value_59 : decode cX10_value 59 = .ok (.ifCond .lt 8, 3) := by decide +kernel
theorem dX10_value_62 : decode cX10_value 62 = .ok (.iload 6, 2) := by decide +kernel
theorem dX10_value_64 : decode cX10_value 64 = .ok (.goto 25, 3) := by decide +kernel
theorem dX10_value_67 : decode cX10_value 67 = .ok (.iload 6, 2) := by decide +kernel
theorem dX10_value_69 : decode cX10_value 69 = .ok (.iconst (-1), 1) := by decide +kernel
theorem dX10_value_70 : decode cX10_value 70 = .ok (.if_icmp .ne 7, 3) := by decide +kernel
theorem dX10_value_73 : decode cX10_value 73 = .ok (.iload_n 1, 1) := by decide +kernel
theorem dX10_value_74 : decode cX10_value 74 = .ok (.goto 15, 3) := by decide +kernel
theorem dX10_value_77 : decode cX10_value 77 = .ok (.iload 6, 2) := by decide +kernel
theorem dX10_value_79 : decode cX10_value 79 = .ok (.bipush (-2), 2) := by decide +kernel
theorem dX10_value_81 : decode cX10_value 81 = .ok (.if_icmp .ne 7, 3) := by decide +kernel
theorem dX10_value_84 : decode cX10_value 84 = .ok (.iload_n 2, 1) := by decide +kernel
theorem dX10_value_85 : decode cX10_value 85 = .ok (.goto 4, 3) := by decide +kernel
theorem dX10_value_88 : decode cX10_value 88 = .ok (.iload_n 3, 1) := by decide +kernel
theorem dX10_value_89 : decode cX10_value 89 = .ok (.iastore, 1) := by decide +kernel
theorem dX10_value_90 : decode cX10_value 90 = .ok (.iinc 4 1, 3) := by decide +kernel
theorem dX10_value_93 : decode cX10_value 93 = .ok (.goto 106, 3) := by decide +kernel
theorem dX10_value_96 : decode cX10_value 96 = .ok (.iload 6, 2) := by decide +kernel
theorem dX10_value_98 : decode cX10_value 98 = .ok (.bipush (-33), 2) := by decide +kernel
theorem dX10_value_100 : decode cX10_value 100 = .ok (.if_icmp .ne 49, 3) := by decide +kernel
theorem dX10_value_103 : decode cX10_value 103 = .ok (.iload 4, 2) := by decide +kernel
theorem dX10_value_105 : decode cX10_value 105 = .ok (.iconst 1, 1) := by decide +kernel
theorem dX10_value_106 : decode cX10_value 106 = .ok (.aload_n 0, 1) := by decide +kernel
theorem dX10_value_107 : decode cX10_value 107 = .ok (.getfield 15, 3) := by decide +kernel
theorem dX10_value_110 : decode cX10_value 110 = .ok (.arraylength, 1) := by decide +kernel
theorem dX10_value_111 : decode cX10_value 111 = .ok (.invokestatic 22, 3) := by decide +kernel
theorem dX10_value_114 : decode cX10_value 114 = .ok (.ifCond .eq 85, 3) := by decide +kernel
theorem dX10_value_117 : decode cX10_value 117 = .ok (.aload_n 0, 1) := by decide +kernel
theorem dX10_value_118 : decode cX10_value 118 = .ok (.getfield 15, 3) := by decide +kernel
theorem dX10_value_121 : decode cX10_value 121 = .ok (.iload 4, 2) := by decide +kernel
theorem dX10_value_123 : decode cX10_value 123 = .ok (.iconst 1, 1) := by decide +kernel
theorem dX10_value_124 : decode cX10_value 124 = .ok (.isub, 1) := by decide +kernel
theorem dX10_value_125 : decode cX10_value 125 = .ok (.aload_n 0, 1) := by decide +kernel
theorem dX10_value_126 : decode cX10_value 126 = .ok (.getfield 15, 3) := by decide +kernel
theorem dX10_value_129 : decode cX10_value 129 = .ok (.iload 4, 2) := by decide +kernel
theorem dX10_value_131 : decode cX10_value 131 = .ok (.iconst 1, 1) := by decide +kernel
theorem dX10_value_132 : decode cX10_value 132 = .ok (.isub, 1) := by decide +kernel
theorem dX10_value_133 : decode cX10_value 133 = .ok (.iaload, 1) := by decide +kernel
theorem dX10_value_134 : decode cX10_value 134 = .ok (.ifCond .ne 7, 3) := by decide +kernel
theorem dX10_value_137 : decode cX10_value 137 = .ok (.iconst 1, 1) := by decide +kernel
theorem dX10_value_138 : decode cX10_value 138 = .ok (.goto 4, 3) := by decide +kernel
theorem dX10_value_141 : decode cX10_value 141 = .ok (.iconst 0, 1) := by decide +kernel
theorem dX10_value_142 : decode cX10_value 142 = .ok (.invokestatic 32, 3) := by decide +kernel
theorem dX10_value_145 : decode cX10_value 145 = .ok (.iastore, 1) := by decide +kernel
theorem dX10_value_146 : decode cX10_value 146 = .ok (.goto 53, 3) := by decide +kernel
theorem dX10_value_149 : decode cX10_value 149 = .ok (.iload 4, 2) := by decide +kernel
theorem dX10_value_151 : decode cX10_value 151 = .ok (.iconst 2, 1) := by decide +kernel
theorem dX10_value_152 : decode cX10_value 152 = .ok (.aload_n 0, 1) := by decide +kernel
theorem dX10_value_153 : decode cX10_value 153 = .ok (.getfield 15, 3) := by decide +kernel
theorem dX10_value_156 : decode cX10_value 156 = .ok (.arraylength, 1) := by decide +kernel
theorem dX10_value_157 : decode cX10_value 157 = .ok (.invokestatic 22, 3) := by decide +kernel
theorem dX10_value_160 : decode cX10_value 160 = .ok (.ifCond .eq 39, 3) := by decide +kernel
theorem dX10_value_163 : decode cX10_value 163 = .ok (.aload_n 0, 1) := by decide +kernel
theorem dX10_value_164 : decode cX10_value 164 = .ok (.getfield 15, 3) := by decide +kernel
theorem dX10_value_167 : decode cX10_value 167 = .ok (.iload 4, 2) := by decide +kernel
theorem dX10_value_169 : decode cX10_value 169 = .ok (.iconst 2, 1) := by decide +kernel
theorem dX10_value_170 : decode cX10_value 170 = .ok (.isub, 1) := by decide +kernel
theorem dX10_value_171 : decode cX10_value 171 = .ok (.iload 6, 2) := by decide +kernel
theorem dX10_value_173 : decode cX10_value 173 = .ok (.ineg, 1) := by decide +kernel
theorem dX10_value_174 : decode cX10_value 174 = .ok (.aload_n 0, 1) := by decide +kernel
theorem dX10_value_175 : decode cX10_value 175 = .ok (.getfield 15, 3) := by decide +kernel
theorem dX10_value_178 : decode cX10_value 178 = .ok (.iload 4, 2) := by decide +kernel
theorem dX10_value_180 : decode cX10_value 180 = .ok (.iconst 2, 1) := by decide +kernel
theorem dX10_value_181 : decode cX10_value 181 = .ok (.isub, 1) := by decide +kernel
theorem dX10_value_182 : decode cX10_value 182 = .ok (.iaload, 1) := by decide +kernel
theorem dX10_value_183 : decode cX10_value 183 = .ok (.aload_n 0, 1) := by decide +kernel
theorem dX10_value_184 : decode cX10_value 184 = .ok (.getfield 15, 3) := by decide +kernel
theorem dX10_value_187 : decode cX10_value 187 = .ok (.iload 4, 2) := by decide +kernel
theorem dX10_value_189 : decode cX10_value 189 = .ok (.iconst 1, 1) := by decide +kernel
theorem dX10_value_190 : decode cX10_value 190 = .ok (.isub, 1) := by decide +kernel
theorem dX10_value_191 : decode cX10_value 191 = .ok (.iaload, 1) := by decide +kernel
theorem dX10_value_192 : decode cX10_value 192 = .ok (.invokestatic 36, 3) := by decide +kernel
theorem dX10_value_195 : decode cX10_value 195 = .ok (.iastore, 1) := by decide +kernel
theorem dX10_value_196 : decode cX10_value 196 = .ok (.iinc 4 (-1), 3) := by decide +kernel
theorem dX10_value_199 : decode cX10_value 199 = .ok (.iinc 5 1, 3) := by decide +kernel
theorem dX10_value_202 : decode cX10_value 202 = .ok (.goto (-196), 3) := by decide +kernel
theorem dX10_value_205 : decode cX10_value 205 = .ok (.aload_n 0, 1) := by decide +kernel
theorem dX10_value_206 : decode cX10_value 206 = .ok (.getfield 15, 3) := by decide +kernel
theorem dX10_value_209 : decode cX10_value 209 = .ok (.iconst 0, 1) := by decide +kernel
theorem dX10_value_210 : decode cX10_value 210 = .ok (.iaload, 1) := by decide +kernel
theorem dX10_value_211 : decode cX10_value 211 = .ok (.ireturn, 1) := by decide +kernel
theorem dX10_truth_0 : decode cX10_truth 0 = .ok (.iload_n 0, 1) := by decide +kernel
theorem dX10_truth_1 : decode cX10_truth 1 = .ok (.ifCond .eq 7, 3) := by decide +kernel
theorem dX10_truth_4 : decode cX10_truth 4 = .ok (.iconst 1, 1) := by decide +kernel
theorem dX10_truth_5 : decode cX10_truth 5 = .ok (.goto 4, 3) := by decide +kernel
theorem dX10_truth_8 : decode cX10_truth 8 = .ok (.iconst 0, 1) := by decide +kernel
theorem dX10_truth_9 : decode cX10_truth 9 = .ok (.ireturn, 1) := by decide +kernel
theorem dX10_joint_0 : decode cX10_joint 0 = .ok (.iload_n 0, 1) := by decide +kernel
theorem dX10_joint_1 : decode cX10_joint 1 = .ok (.lookupswitch 183 #[(38, 100), (42, 167), (43, 159), (45, 163), (47, 171), (60, 117), (61, 131), (62, 145), (124, 83)], 83) := by decide +kernel
theorem dX10_joint_84 : decode cX10_joint 84 = .ok (.iload_n 1, 1) := by decide +kernel
theorem dX10_joint_85 : decode cX10_joint 85 = .ok (.ifCond .ne 7, 3) := by decide +kernel
theorem dX10_joint_88 : decode cX10_joint 88 = .ok (.iload_n 2, 1) := by decide +kernel
theorem dX10_joint_89 : decode cX10_joint 89 = .ok (.ifCond .eq 7, 3) := by decide +kernel
theorem dX10_joint_92 : decode cX10_joint 92 = .ok (.iconst 1, 1) := by decide +kernel
theorem dX10_joint_93 : decode cX10_joint 93 = .ok (.goto 4, 3) := by decide +kernel
theorem dX10_joint_96 : decode cX10_joint 96 = .ok (.iconst 0, 1) := by decide +kernel
theorem dX10_joint_97 : decode cX10_joint 97 = .ok (.invokestatic 32, 3) := by decide +kernel
theorem dX10_joint_100 : decode cX10_joint 100 = .ok (.ireturn, 1) := by decide +kernel
theorem dX10_joint_101 : decode cX10_joint 101 = .ok (.iload_n 1, 1) := by decide +kernel
theorem dX10_joint_102 : decode cX10_joint 102 = .ok (.ifCond .eq 11, 3) := by decide +kernel
theorem dX10_joint_105 : decode cX10_joint 105 = .ok (.iload_n 2, 1) := by decide +kernel
theorem dX10_joint_106 : decode cX10_joint 106 = .ok (.ifCond .eq 7, 3) := by decide +kernel
theorem dX10_joint_109 : decode cX10_joint 109 = .ok (.iconst 1, 1) := by decide +kernel
theorem dX10_joint_110 : decode cX10_joint 110 = .ok (.goto 4, 3) := by decide +kernel
theorem dX10_joint_113 : decode cX10_joint 113 = .ok (.iconst 0, 1) := by decide +kernel
theorem dX10_joint_114 : decode cX10_joint 114 = .ok (.invokestatic 32, 3) := by decide +kernel
theorem dX10_joint_117 : decode cX10_joint 117 = .ok (.ireturn, 1) := by decide +kernel
theorem dX10_joint_118 : decode cX10_joint 118 = .ok (.iload_n 1, 1) := by decide +kernel
theorem dX10_joint_119 : decode cX10_joint 119 = .ok (.iload_n 2, 1) := by decide +kernel
theorem dX10_joint_120 : decode cX10_joint 120 = .ok (.if_icmp .ge 7, 3) := by decide +kernel
theorem dX10_joint_123 : decode cX10_joint 123 = .ok (.iconst 1, 1) := by decide +kernel
theorem dX10_joint_124 : decode cX10_joint 124 = .ok (.goto 4, 3) := by decide +kernel
theorem dX10_joint_127 : decode cX10_joint 127 = .ok (.iconst 0, 1) := by decide +kernel
theorem dX10_joint_128 : decode cX10_joint 128 = .ok (.invokestatic 32, 3) := by decide +kernel
theorem dX10_joint_131 : decode cX10_joint 131 = .ok (.ireturn, 1) := by decide +kernel
theorem dX10_joint_132 : decode cX10_joint 132 = .ok (.iload_n 1, 1) := by decide +kernel
theorem dX10_joint_133 : decode cX10_joint 133 = .ok (.iload_n 2, 1) := by decide +kernel
theorem dX10_joint_134 : decode cX10_joint 134 = .ok (.if_icmp .ne 7, 3) := by decide +kernel
theorem dX10_joint_137 : decode cX10_joint 137 = .ok (.iconst 1, 1) := by decide +kernel
theorem dX10_joint_138 : decode cX10_joint 138 = .ok (.goto 4, 3) := by decide +kernel
theorem dX10_joint_141 : decode cX10_joint 141 = .ok (.iconst 0, 1) := by decide +kernel
theorem dX10_joint_142 : decode cX10_joint 142 = .ok (.invokestatic 32, 3) := by decide +kernel
theorem dX10_joint_145 : decode cX10_joint 145 = .ok (.ireturn, 1) := by decide +kernel
theorem dX10_joint_146 : decode cX10_joint 146 = .ok (.iload_n 1, 1) := by decide +kernel
theorem dX10_joint_147 : decode cX10_joint 147 = .ok (.iload_n 2, 1) := by decide +kernel
theorem dX10_joint_148 : decode cX10_joint 148 = .ok (.if_icmp .le 7, 3) := by decide +kernel
theorem dX10_joint_151 : decode cX10_joint 151 = .ok (.iconst 1, 1) := by decide +kernel
theorem dX10_joint_152 : decode cX10_joint 152 = .ok (.goto 4, 3) := by decide +kernel
theorem dX10_joint_155 : decode cX10_joint 155 = .ok (.iconst 0, 1) := by decide +kernel
theorem dX10_joint_156 : decode cX10_joint 156 = .ok (.invokestatic 32, 3) := by decide +kernel
theorem dX10_joint_159 : decode cX10_joint 159 = .ok (.ireturn, 1) := by decide +kernel
theorem dX10_joint_160 : decode cX10_joint 160 = .ok (.iload_n 1, 1) := by decide +kernel
theorem dX10_joint_161 : decode cX10_joint 161 = .ok (.iload_n 2, 1) := by decide +kernel
theorem dX10_joint_162 : decode cX10_joint 162 = .ok (.iadd, 1) := by decide +kernel
theorem dX10_joint_163 : decode cX10_joint 163 = .ok (.ireturn, 1) := by decide +kernel
theorem dX10_joint_164 : decode cX10_joint 164 = .ok (.iload_n 1, 1) := by decide +kernel
theorem dX10_joint_165 : decode cX10_joint 165 = .ok (.iload_n 2, 1) := by decide +kernel
theorem dX10_joint_166 : decode cX10_joint 166 = .ok (.isub, 1) := by decide +kernel
theorem dX10_joint_167 : decode cX10_joint 167 = .ok (.ireturn, 1) := by decide +kernel
theorem dX10_joint_168 : decode cX10_joint 168 = .ok (.iload_n 1, 1) := by decide +kernel
theorem dX10_joint_169 : decode cX10_joint 169 = .ok (.iload_n 2, 1) := by decide +kernel
theorem dX10_joint_170 : decode cX10_joint 170 = .ok (.imul, 1) := by decide +kernel
theorem dX10_joint_171 : decode cX10_joint 171 = .ok (.ireturn, 1) := by decide +kernel
theorem dX10_joint_172 : decode cX10_joint 172 = .ok (.iload_n 2, 1) := by decide +kernel
theorem dX10_joint_173 : decode cX10_joint 173 = .ok (.ifCond .ne 7, 3) := by decide +kernel
theorem dX10_joint_176 : decode cX10_joint 176 = .ok (.iconst 0, 1) := by decide +kernel
theorem dX10_joint_177 : decode cX10_joint 177 = .ok (.goto 6, 3) := by decide +kernel
theorem dX10_joint_180 : decode cX10_joint 180 = .ok (.iload_n 1, 1) := by decide +kernel
theorem dX10_joint_181 : decode cX10_joint 181 = .ok (.iload_n 2, 1) := by decide +kernel
theorem dX10_joint_182 : decode cX10_joint 182 = .ok (.idiv, 1) := by decide +kernel
theorem dX10_joint_183 : decode cX10_joint 183 = .ok (.ireturn, 1) := by decide +kernel
theorem dX10_joint_184 : decode cX10_joint 184 = .ok (.iload_n 2, 1) := by decide +kernel
theorem dX10_joint_185 : decode cX10_joint 185 = .ok (.ifCond .ne 7, 3) := by decide +kernel
theorem dX10_joint_188 : decode cX10_joint 188 = .ok (.iconst 0, 1) := by decide +kernel
theorem dX10_joint_189 : decode cX10_joint 189 = .ok (.goto 6, 3) := by decide +kernel
theorem dX10_joint_192 : decode cX10_joint 192 = .ok (.iload_n 1, 1) := by decide +kernel
theorem dX10_joint_193 : decode cX10_joint 193 = .ok (.iload_n 2, 1) := by decide +kernel
theorem dX10_joint_194 : decode cX10_joint 194 = .ok (.irem, 1) := by decide +kernel
theorem dX10_joint_195 : decode cX10_joint 195 = .ok (.ireturn, 1) := by decide +kernel
theorem dX11_init_0 : decode cX11_init 0 = .ok (.aload_n 0, 1) := by decide +kernel
theorem dX11_init_1 : decode cX11_init 1 = .ok (.invokespecial 1, 3) := by decide +kernel
theorem dX11_init_4 : decode cX11_init 4 = .ok (.aload_n 0, 1) := by decide +kernel
theorem dX11_init_5 : decode cX11_init 5 = .ok (.new 7, 3) := by decide +kernel
theorem dX11_init_8 : decode cX11_init 8 = .ok (.dup, 1) := by decide +kernel
theorem dX11_init_9 : decode cX11_init 9 = .ok (.invokespecial 9, 3) := by decide +kernel
theorem dX11_init_12 : decode cX11_init 12 = .ok (.putfield 10, 3) := by decide +kernel
theorem dX11_init_15 : decode cX11_init 15 = .ok (.aload_n 0, 1) := by decide +kernel
theorem dX11_init_16 : decode cX11_init 16 = .ok (.new 7, 3) := by decide +kernel
theorem dX11_init_19 : decode cX11_init 19 = .ok (.dup, 1) := by decide +kernel
theorem dX11_init_20 : decode cX11_init 20 = .ok (.invokespecial 9, 3) := by decide +kernel
theorem dX11_init_23 : decode cX11_init 23 = .ok (.putfield 16, 3) := by decide +kernel
theorem dX11_init_26 : decode cX11_init 26 = .ok (.aload_n 0, 1) := by decide +kernel
theorem dX11_init_27 : decode cX11_init 27 = .ok (.new 19, 3) := by decide +kernel
theorem dX11_init_30 : decode cX11_init 30 = .ok (.dup, 1) := by decide +kernel
theorem dX11_init_31 : decode cX11_init 31 = .ok (.invokespecial 21, 3) := by decide +kernel
theorem dX11_init_34 : decode cX11_init 34 = .ok (.putfield 22, 3) := by decide +kernel
theorem dX11_init_37 : decode cX11_init 37 = .ok (.aload_n 0, 1) := by decide +kernel
theorem dX11_init_38 : decode cX11_init 38 = .ok (.new 26, 3) := by decide +kernel
theorem dX11_init_41 : decode cX11_init 41 = .ok (.dup, 1) := by decide +kernel
theorem dX11_init_42 : decode cX11_init 42 = .ok (.invokespecial 28, 3) := by decide +kernel
theorem dX11_init_45 : decode cX11_init 45 = .ok (.putfield 29, 3) := by decide +kernel
theorem dX11_init_48 : decode cX11_init 48 = .ok (.aload_n 0, 1) := by decide +kernel
theorem dX11_init_49 : decode cX11_init 49 = .ok (.new 33, 3) := by decide +kernel
theorem dX11_init_52 : decode cX11_init 52 = .ok (.dup, 1) := by decide +kernel
theorem dX11_init_53 : decode cX11_init 53 = .ok (.invokespecial 35, 3) := by decide +kernel
theorem dX11_init_56 : decode cX11_init 56 = .ok (.putfield 36, 3) := by decide +kernel
theorem dX11_init_59 : decode cX11_init 59 = .ok (.aload_n 0, 1) := by decide +kernel
theorem dX11_init_60 : decode cX11_init 60 = .ok (.new 40, 3) := by decide +kernel
theorem dX11_init_63 : decode cX11_init 63 = .ok (.dup, 1) := by decide +kernel
theorem dX11_init_64 : decode cX11_init 64 = .ok (.invokespecial 42, 3) := by decide +kernel
theorem dX11_init_67 : decode cX11_init 67 = .ok (.putfield 43, 3) := by decide +kernel
theorem dX11_init_70 : decode cX11_init 70 = .ok (.aload_n 0, 1) := by decide +kernel
theorem dX11_init_71 : decode cX11_init 71 = .ok (.new 47, 3) := by decide +kernel
theorem dX11_init_74 : decode cX11_init 74 = .ok (.dup, 1) := by decide +kernel
theorem dX11_init_75 : decode cX11_init 75 = .ok (.invokespecial 49, 3) := by decide +kernel
theorem dX11_init_78 : decode cX11_init 78 = .ok (.putfield 50, 3) := by decide +kernel
theorem dX11_init_81 : decode cX11_init 81 = .ok (.aload_n 0, 1) := by decide +kernel
theorem dX11_init_82 : decode cX11_init 82 = .ok (.new 54, 3) := by decide +kernel
theorem dX11_init_85 : decode cX11_init 85 = .ok (.dup, 1) := by decide +kernel
theorem dX11_init_86 : decode cX11_init 86 = .ok (.invokespecial 56, 3) := by decide +kernel
theorem dX11_init_89 : decode cX11_init 89 = .ok (.putfield 57, 3) := by decide +kernel
theorem dX11_init_92 : decode cX11_init 92 = .ok (.aload_n 0, 1) := by decide +kernel
theorem dX11_init_93 : decode cX11_init 93 = .ok (.new 61, 3) := by decide +kernel
theorem dX11_init_96 : decode cX11_init 96 = .ok (.dup, 1) := by decide +kernel
theorem dX11_init_97 : decode cX11_init 97 = .ok (.invokespecial 63, 3) := by decide +kernel
theorem dX11_init_100 : decode cX11_init 100 = .ok (.putfield 64, 3) := by decide +kernel
theorem dX11_init_103 : decode cX11_init 103 = .ok (.aload_n 0, 1) := by decide +kernel
theorem dX11_init_104 : decode cX11_init 104 = .ok (.new 68, 3) := by decide +kernel
theorem dX11_init_107 : decode cX11_init 107 = .ok (.dup, 1) := by decide +kernel
theorem dX11_init_108 : decode cX11_init 108 = .ok (.invokespecial 70, 3) := by decide +kernel
theorem dX11_init_111 : decode cX11_init 111 = .ok (.putfield 71, 3) := by decide +kernel
theorem dX11_init_114 : decode cX11_init 114 = .ok (.aload_n 0, 1) := by decide +kernel
theorem dX11_init_115 : decode cX11_init 115 = .ok (.bipush 6, 2) := by decide +kernel
theorem dX11_init_117 : decode cX11_init 117 = .ok (.newarray .int, 2) := by decide +kernel
theorem dX11_init_119 : decode cX11_init 119 = .ok (.putfield 75, 3) := by decide +kernel
theorem dX11_init_122 : decode cX11_init 122 = .ok (.return_, 1) := by decide +kernel
theorem dX11_party_0 : decode cX11_party 0 = .ok (.iload_n 1, 1) := by decide +kernel
theorem dX11_party_1 : decode cX11_party 1 = .ok (.invokestatic 79, 3) := by decide +kernel
theorem dX11_party_4 : decode cX11_party 4 = .ok (.ifCond .eq 14, 3) := by decide +kernel
theorem dX11_party_7 : decode cX11_party 7 = .ok (.iload_n 2, 1) := by decide +kernel
theorem dX11_party_8 : decode cX11_party 8 = .ok (.iconst 1, 1) := by decide +kernel
theorem dX11_party_9 : decode cX11_party 9 = .ok (.sipush 999, 3) := by decide +kernel
theorem dX11_party_12 : decode cX11_party 12 = .ok (.invokestatic 83, 3) := by decide +kernel
theorem dX11_party_15 : decode cX11_party 15 = .ok (.ifCond .ne 9, 3) := by decide +kernel
theorem dX11_party_18 : decode cX11_party 18 = .ok (.aload_n 0, 1) := by decide +kernel
theorem dX11_party_19 : decode cX11_party 19 = .ok (.iconst 1, 1) := by decide +kernel
theorem dX11_party_20 : decode cX11_party 20 = .ok (.invokevirtual 87, 3) := by decide +kernel
theorem dX11_party_23 : decode cX11_party 23 = .ok (.ireturn, 1) := by decide +kernel
theorem dX11_party_24 : decode cX11_party 24 = .ok (.aload_n 0, 1) := by decide +kernel
theorem dX11_party_25 : decode cX11_party 25 = .ok (.getfield 10, 3) := by decide +kernel
theorem dX11_party_28 : decode cX11_party 28 = .ok (.getfield 91, 3) := by decide +kernel
theorem dX11_party_31 : decode cX11_party 31 = .ok (.iconst 4, 1) := by decide +kernel
theorem dX11_party_32 : decode cX11_party 32 = .ok (.if_icmp .lt 9, 3) := by decide +kernel
theorem dX11_party_35 : decode cX11_party 35 = .ok (.aload_n 0, 1) := by decide +kernel
theorem dX11_party_36 : decode cX11_party 36 = .ok (.iconst 4, 1) := by decide +kernel
theorem dX11_party_37 : decode cX11_party 37 = .ok (.invokevirtual 87, 3) := by decide +kernel
theorem dX11_party_40 : decode cX11_party 40 = .ok (.ireturn, 1) := by decide +kernel
theorem dX11_party_41 : decode cX11_party 41 = .ok (.aload_n 0, 1) := by decide +kernel
theorem dX11_party_42 : decode cX11_party 42 = .ok (.getfield 10, 3) := by decide +kernel
theorem dX11_party_45 : decode cX11_party 45 = .ok (.iload_n 1, 1) := by decide +kernel
theorem dX11_party_46 : decode cX11_party 46 = .ok (.iload_n 2, 1) := by decide +kernel
theorem dX11_party_47 : decode cX11_party 47 = .ok (.invokevirtual 95, 3) := by decide +kernel
theorem dX11_party_50 : decode cX11_party 50 = .ok (.ireturn, 1) := by decide +kernel
theorem dX11_ofParty_0 : decode cX11_ofParty 0 = .ok (.aload_n 0, 1) := by decide +kernel
theorem dX11_ofParty_1 : decode cX11_ofParty 1 = .ok (.getfield 10, 3) := by decide +kernel
theorem dX11_ofParty_4 : decode cX11_ofParty 4 = .ok (.iload_n 1, 1) := by decide +kernel
theorem dX11_ofParty_5 : decode cX11_ofParty 5 = .ok (.invokevirtual 99, 3) := by decide +kernel
theorem dX11_ofParty_8 : decode cX11_ofParty 8 = .ok (.ifCond .eq 13, 3) := by decide +kernel
theorem dX11_ofParty_11 : decode cX11_ofParty 11 = .ok (.iload_n 2, 1) := by decide +kernel
theorem dX11_ofParty_12 : decode cX11_ofParty 12 = .ok (.iconst 0, 1) := by decide +kernel
theorem dX11_ofParty_13 : decode cX11_ofParty 13 = .ok (.bipush 7, 2) := by decide +kernel
theorem dX11_ofParty_15 : decode cX11_ofParty 15 = .ok (.invokestatic 83, 3) := by decide +kernel
theorem dX11_ofParty_18 : decode cX11_ofParty 18 = .ok (.ifCond .ne 9, 3) := by decide +kernel
theorem dX11_ofParty_21 : decode cX11_ofParty 21 = .ok (.aload_n 0, 1) := by decide +kernel
theorem dX11_ofParty_22 : decode cX11_ofParty 22 = .ok (.iconst 1, 1) := by decide +kernel
theorem dX11_ofParty_23 : decode cX11_ofParty 23 = .ok (.invokevirtual 87, 3) := by decide +kernel
theorem dX11_ofParty_26 : decode cX11_ofParty 26 = .ok (.ireturn, 1) := by decide +kernel
theorem dX11_ofParty_27 : decode cX11_ofParty 27 = .ok (.iload_n 2, 1) := by decide +kernel
theorem dX11_ofParty_28 : decode cX11_ofParty 28 = .ok (.tableswitch 118 0 6 #[44, 54, 64, 74, 87, 100, 109], 44) := by decide +kernel
theorem dX11_ofParty_72 : decode cX11_ofParty 72 = .ok (.aload_n 0, 1) := by decide +kernel
theorem dX11_ofParty_73 : decode cX11_ofParty 73 = .ok (.getfield 10, 3) := by decide +kernel
theorem dX11_ofParty_76 : decode cX11_ofParty 76 = .ok (.getfield 102, 3) := by decide +kernel
theorem dX11_ofParty_79 : decode cX11_ofParty 79 = .ok (.iload_n 1, 1) := by decide +kernel
theorem dX11_ofParty_80 : decode cX11_ofParty 80 = .ok (.iaload, 1) := by decide +kernel
theorem dX11_ofParty_81 : decode cX11_ofParty 81 = .ok (.ireturn, 1) := by decide +kernel
theorem dX11_ofParty_82 : decode cX11_ofParty 82 = .ok (.aload_n 0, 1) := by decide +kernel
theorem dX11_ofParty_83 : decode cX11_ofParty 83 = .ok (.getfield 10, 3) := by decide +kernel
theorem dX11_ofParty_86 : decode cX11_ofParty 86 = .ok (.getfield 105, 3) := by decide +kernel
theorem dX11_ofParty_89 : decode cX11_ofParty 89 = .ok (.iload_n 1, 1) := by decide +kernel
theorem dX11_ofParty_90 : decode cX11_ofParty 90 = .ok (.iaload, 1) := by decide +kernel
theorem dX11_ofParty_91 : decode cX11_ofParty 91 = .ok (.ireturn, 1) := by decide +kernel
theorem dX11_ofParty_92 : decode cX11_ofParty 92 = .ok (.aload_n 0, 1) := by decide +kernel
theorem dX11_ofParty_93 : decode cX11_ofParty 93 = .ok (.getfield 10, 3) := by decide +kernel
theorem dX11_ofParty_96 : decode cX11_ofParty 96 = .ok (.getfield 108, 3) := by decide +kernel
theorem dX11_ofParty_99 : decode cX11_ofParty 99 = .ok (.iload_n 1, 1) := by decide +kernel
theorem dX11_ofParty_100 : decode cX11_ofParty 100 = .ok (.iaload, 1) := by decide +kernel
theorem dX11_ofParty_101 : decode cX11_ofParty 101 = .ok (.ireturn, 1) := by decide +kernel
theorem dX11_ofParty_102 : decode cX11_ofParty 102 = .ok (.aload_n 0, 1) := by decide +kernel
theorem dX11_ofParty_103 : decode cX11_ofParty 103 = .ok (.getfield 10, 3) := by decide +kernel
theorem dX11_ofParty_106 : decode cX11_ofParty 106 = .ok (.getfield 111, 3) := by decide +kernel
theorem dX11_ofParty_109 : decode cX11_ofParty 109 = .ok (.getfield 114, 3) := by decide +kernel
theorem dX11_ofParty_112 : decode cX11_ofParty 112 = .ok (.iload_n 1, 1) := by decide +kernel
theorem dX11_ofParty_113 : decode cX11_ofParty 113 = .ok (.iaload, 1) := by decide +kernel
theorem dX11_ofParty_114 : decode cX11_ofParty 114 = .ok (.ireturn, 1) := by decide +kernel
theorem dX11_ofParty_115 : decode cX11_ofParty 115 = .ok (.aload_n 0, 1) := by decide +kernel
theorem dX11_ofParty_116 : decode cX11_ofParty 116 = .ok (.getfield 10, 3) := by decide +kernel
theorem dX11_ofParty_119 : decode cX11_ofParty 119 = .ok (.getfield 111, 3) := by decide +kernel
theorem dX11_ofParty_122 : decode cX11_ofParty 122 = .ok (.getfield 117, 3) := by decide +kernel
theorem dX11_ofParty_125 : decode cX11_ofParty 125 = .ok (.iload_n 1, 1) := by decide +kernel
theorem dX11_ofParty_126 : decode cX11_ofParty 126 = .ok (.iaload, 1) := by decide +kernel
theorem dX11_ofParty_127 : decode cX11_ofParty 127 = .ok (.ireturn, 1) := by decide +kernel
theorem dX11_ofParty_128 : decode cX11_ofParty 128 = .ok (.aload_n 0, 1) := by decide +kernel
theorem dX11_ofParty_129 : decode cX11_ofParty 129 = .ok (.getfield 10, 3) := by decide +kernel
theorem dX11_ofParty_132 : decode cX11_ofParty 132 = .ok (.iload_n 1, 1) := by decide +kernel
theorem dX11_ofParty_133 : decode cX11_ofParty 133 = .ok (.invokevirtual 120, 3) := by decide +kernel
theorem dX11_ofParty_136 : decode cX11_ofParty 136 = .ok (.ireturn, 1) := by decide +kernel
theorem dX11_ofParty_137 : decode cX11_ofParty 137 = .ok (.aload_n 0, 1) := by decide +kernel
theorem dX11_ofParty_138 : decode cX11_ofParty 138 = .ok (.getfield 10, 3) := by decide +kernel
theorem dX11_ofParty_141 : decode cX11_ofParty 141 = .ok (.iload_n 1, 1) := by decide +kernel
theorem dX11_ofParty_142 : decode cX11_ofParty 142 = .ok (.invokevirtual 123, 3) := by decide +kernel
theorem dX11_ofParty_145 : decode cX11_ofParty 145 = .ok (.ireturn, 1) := by decide +kernel
theorem dX11_ofParty_146 : decode cX11_ofParty 146 = .ok (.aload_n 0, 1) := by decide +kernel
theorem dX11_ofParty_147 : decode cX11_ofParty 147 = .ok (.getfield 10, 3) := by decide +kernel
theorem dX11_ofParty_150 : decode cX11_ofParty 150 = .ok (.iload_n 1, 1) := by decide +kernel
theorem dX11_ofParty_151 : decode cX11_ofParty 151 = .ok (.invokevirtual 126, 3) := by decide +kernel
theorem dX11_ofParty_154 : decode cX11_ofParty 154 = .ok (.ireturn, 1) := by decide +kernel
theorem dX11_become_0 : decode cX11_become 0 = .ok (.aload_n 0, 1) := by decide +kernel
theorem dX11_become_1 : decode cX11_become 1 = .ok (.getfield 10, 3) := by decide +kernel
theorem dX11_become_4 : decode cX11_become 4 = .ok (.iload_n 1, 1) := by decide +kernel
theorem dX11_become_5 : decode cX11_become 5 = .ok (.invokevirtual 99, 3) := by decide +kernel
theorem dX11_become_8 : decode cX11_become 8 = .ok (.ifCond .eq 10, 3) := by decide +kernel
theorem dX11_become_11 : decode cX11_become 11 = .ok (.iload_n 2, 1) := by decide +kernel
theorem dX11_become_12 : decode cX11_become 12 = .ok (.invokestatic 79, 3) := by decide +kernel
theorem dX11_become_15 : decode cX11_become 15 = .ok (.ifCond .ne 9, 3) := by decide +kernel
theorem dX11_become_18 : decode cX11_become 18 = .ok (.aload_n 0, 1) := by decide +kernel
theorem dX11_become_19 : decode cX11_become 19 = .ok (.iconst 1, 1) := by decide +kernel
theorem dX11_become_20 : decode cX11_become 20 = .ok (.invokevirtual 87, 3) := by decide +kernel
theorem dX11_become_23 : decode cX11_become 23 = .ok (.ireturn, 1) := by decide +kernel
theorem dX11_become_24 : decode cX11_become 24 = .ok (.aload_n 0, 1) := by decide +kernel
theorem dX11_become_25 : decode cX11_become 25 = .ok (.getfield 10, 3) := by decide +kernel
theorem dX11_become_28 : decode cX11_become 28 = .ok (.getfield 102, 3) := by decide +kernel
theorem dX11_become_31 : decode cX11_become 31 = .ok (.iload_n 1, 1) := by decide +kernel
theorem dX11_become_32 : decode cX11_become 32 = .ok (.iaload, 1) := by decide +kernel
theorem dX11_become_33 : decode cX11_become 33 = .ok (.istore_n 3, 1) := by decide +kernel
theorem dX11_become_34 : decode cX11_become 34 = .ok (.aload_n 0, 1) := by decide +kernel
theorem dX11_become_35 : decode cX11_become 35 = .ok (.getfield 10, 3) := by decide +kernel
theorem dX11_become_38 : decode cX11_become 38 = .ok (.getfield 102, 3) := by decide +kernel
theorem dX11_become_41 : decode cX11_become 41 = .ok (.iload_n 1, 1) := by decide +kernel
theorem dX11_become_42 : decode cX11_become 42 = .ok (.iload_n 2, 1) := by decide +kernel
theorem dX11_become_43 : decode cX11_become 43 = .ok (.bipush 10, 2) := by decide +kernel
theorem dX11_become_45 : decode cX11_become 45 = .ok (.idiv, 1) := by decide +kernel
theorem dX11_become_46 : decode cX11_become 46 = .ok (.iastore, 1) := by decide +kernel
theorem dX11_become_47 : decode cX11_become 47 = .ok (.aload_n 0, 1) := by decide +kernel
theorem dX11_become_48 : decode cX11_become 48 = .ok (.getfield 10, 3) := by decide +kernel
theorem dX11_become_51 : decode cX11_become 51 = .ok (.getfield 105, 3) := by decide +kernel
theorem dX11_become_54 : decode cX11_become 54 = .ok (.iload_n 1, 1) := by decide +kernel
theorem dX11_become_55 : decode cX11_become 55 = .ok (.iload_n 2, 1) := by decide +kernel
theorem dX11_become_56 : decode cX11_become 56 = .ok (.bipush 10, 2) := by decide +kernel
theorem dX11_become_58 : decode cX11_become 58 = .ok (.irem, 1) := by decide +kernel
theorem dX11_become_59 : decode cX11_become 59 = .ok (.iastore, 1) := by decide +kernel
theorem dX11_become_60 : decode cX11_become 60 = .ok (.iload_n 3, 1) := by decide +kernel
theorem dX11_become_61 : decode cX11_become 61 = .ok (.ireturn, 1) := by decide +kernel
theorem dX11_as_0 : decode cX11_as 0 = .ok (.aload_n 0, 1) := by decide +kernel
theorem dX11_as_1 : decode cX11_as 1 = .ok (.getfield 10, 3) := by decide +kernel
theorem dX11_as_4 : decode cX11_as 4 = .ok (.iload_n 1, 1) := by decide +kernel
theorem dX11_as_5 : decode cX11_as 5 = .ok (.invokevirtual 99, 3) := by decide +kernel
theorem dX11_as_8 : decode cX11_as 8 = .ok (.ifCond .eq 13, 3) := by decide +kernel
theorem dX11_as_11 : decode cX11_as 11 = .ok (.iload_n 2, 1) := by decide +kernel
theorem dX11_as_12 : decode cX11_as 12 = .ok (.iconst 0, 1) := by decide +kernel
theorem dX11_as_13 : decode cX11_as 13 = .ok (.bipush 6, 2) := by decide +kernel
theorem dX11_as_15 : decode cX11_as 15 = .ok (.invokestatic 83, 3) := by decide +kernel
theorem dX11_as_18 : decode cX11_as 18 = .ok (.ifCond .ne 9, 3) := by decide +kernel
theorem dX11_as_21 : decode cX11_as 21 = .ok (.aload_n 0, 1) := by decide +kernel
theorem dX11_as_22 : decode cX11_as 22 = .ok (.iconst 1, 1) := by decide +kernel
theorem dX11_as_23 : decode cX11_as 23 = .ok (.invokevirtual 87, 3) := by decide +kernel
theorem dX11_as_26 : decode cX11_as 26 = .ok (.ireturn, 1) := by decide +kernel
theorem dX11_as_27 : decode cX11_as 27 = .ok (.aload_n 0, 1) := by decide +kernel
theorem dX11_as_28 : decode cX11_as 28 = .ok (.getfield 10, 3) := by decide +kernel
theorem dX11_as_31 : decode cX11_as 31 = .ok (.getfield 102, 3) := by decide +kernel
theorem dX11_as_34 : decode cX11_as 34 = .ok (.iload_n 1, 1) := by decide +kernel
theorem dX11_as_35 : decode cX11_as 35 = .ok (.iaload, 1) := by decide +kernel
theorem dX11_as_36 : decode cX11_as 36 = .ok (.iload_n 2, 1) := by decide +kernel
theorem dX11_as_37 : decode cX11_as 37 = .ok (.invokestatic 131, 3) := by decide +kernel
theorem dX11_as_40 : decode cX11_as 40 = .ok (.ifCond .ne 9, 3) := by decide +kernel
theorem dX11_as_43 : decode cX11_as 43 = .ok (.aload_n 0, 1) := by decide +kernel
theorem dX11_as_44 : decode cX11_as 44 = .ok (.iconst 5, 1) := by decide +kernel
theorem dX11_as_45 : decode cX11_as 45 = .ok (.invokevirtual 87, 3) := by decide +kernel
theorem dX11_as_48 : decode cX11_as 48 = .ok (.ireturn, 1) := by decide +kernel
theorem dX11_as_49 : decode cX11_as 49 = .ok (.aload_n 0, 1) := by decide +kernel
theorem dX11_as_50 : decode cX11_as 50 = .ok (.getfield 10, 3) := by decide +kernel
theorem dX11_as_53 : decode cX11_as 53 = .ok (.getfield 105, 3) := by decide +kernel
theorem dX11_as_56 : decode cX11_as 56 = .ok (.iload_n 1, 1) := by decide +kernel
theorem dX11_as_57 : decode cX11_as 57 = .ok (.iaload, 1) := by decide +kernel
theorem dX11_as_58 : decode cX11_as 58 = .ok (.ireturn, 1) := by decide +kernel
theorem dX11_word_0 : decode cX11_word 0 = .ok (.aload_n 0, 1) := by decide +kernel
theorem dX11_word_1 : decode cX11_word 1 = .ok (.getfield 10, 3) := by decide +kernel
theorem dX11_word_4 : decode cX11_word 4 = .ok (.iload_n 1, 1) := by decide +kernel
theorem dX11_word_5 : decode cX11_word 5 = .ok (.invokevirtual 99, 3) := by decide +kernel
theorem dX11_word_8 : decode cX11_word 8 = .ok (.ifCond .eq 41, 3) := by decide +kernel
theorem dX11_word_11 : decode cX11_word 11 = .ok (.iload_n 2, 1) := by decide +kernel
theorem dX11_word_12 : decode cX11_word 12 = .ok (.iconst 1, 1) := by decide +kernel
theorem dX11_word_13 : decode cX11_word 13 = .ok (.bipush 30, 2) := by decide +kernel
theorem dX11_word_15 : decode cX11_word 15 = .ok (.invokestatic 83, 3) := by decide +kernel
theorem dX11_word_18 : decode cX11_word 18 = .ok (.ifCond .eq 31, 3) := by decide +kernel
theorem dX11_word_21 : decode cX11_word 21 = .ok (.iload_n 3, 1) := by decide +kernel
theorem dX11_word_22 : decode cX11_word 22 = .ok (.iconst 0, 1) := by decide +kernel
theorem dX11_word_23 : decode cX11_word 23 = .ok (.bipush 99, 2) := by decide +kernel
theorem dX11_word_25 : decode cX11_word 25 = .ok (.invokestatic 83, 3) := by decide +kernel
theorem dX11_word_28 : decode cX11_word 28 = .ok (.ifCond .eq 21, 3) := by decide +kernel
theorem dX11_word_31 : decode cX11_word 31 = .ok (.iload 4, 2) := by decide +kernel
theorem dX11_word_33 : decode cX11_word 33 = .ok (.iconst (-1), 1) := by decide +kernel
theorem dX11_word_34 : decode cX11_word 34 = .ok (.aload_n 0, 1) := by decide +kernel
theorem dX11_word_35 : decode cX11_word 35 = .ok (.getfield 10, 3) := by decide +kernel
theorem dX11_word_38 : decode cX11_word 38 = .ok (.getfield 135, 3) := by decide +kernel
theorem dX11_word_41 : decode cX11_word 41 = .ok (.iconst 1, 1) := by decide +kernel
theorem dX11_word_42 : decode cX11_word 42 = .ok (.isub, 1) := by decide +kernel
theorem dX11_word_43 : decode cX11_word 43 = .ok (.invokestatic 83, 3) := by decide +kernel
theorem dX11_word_46 : decode cX11_word 46 = .ok (.ifCond .ne 9, 3) := by decide +kernel
theorem dX11_word_49 : decode cX11_word 49 = .ok (.aload_n 0, 1) := by decide +kernel
theorem dX11_word_50 : decode cX11_word 50 = .ok (.iconst 1, 1) := by decide +kernel
theorem dX11_word_51 : decode cX11_word 51 = .ok (.invokevirtual 87, 3) := by decide +kernel
theorem dX11_word_54 : decode cX11_word 54 = .ok (.ireturn, 1) := by decide +kernel
theorem dX11_word_55 : decode cX11_word 55 = .ok (.aload_n 0, 1) := by decide +kernel
theorem dX11_word_56 : decode cX11_word 56 = .ok (.getfield 10, 3) := by decide +kernel
theorem dX11_word_59 : decode cX11_word 59 = .ok (.getfield 135, 3) := by decide +kernel
theorem dX11_word_62 : decode cX11_word 62 = .ok (.bipush 12, 2) := by decide +kernel
theorem dX11_word_64 : decode cX11_word 64 = .ok (.if_icmp .lt 9, 3) := by decide +kernel
theorem dX11_word_67 : decode cX11_word 67 = .ok (.aload_n 0, 1) := by decide +kernel
theorem dX11_word_68 : decode cX11_word 68 = .ok (.iconst 4, 1) := by decide +kernel
theorem dX11_word_69 : decode cX11_word 69 = .ok (.invokevirtual 87, 3) := by decide +kernel
theorem dX11_word_72 : decode cX11_word 72 = .ok (.ireturn, 1) := by decide +kernel
theorem dX11_word_73 : decode cX11_word 73 = .ok (.aload_n 0, 1) := by decide +kernel
theorem dX11_word_74 : decode cX11_word 74 = .ok (.getfield 10, 3) := by decide +kernel
theorem dX11_word_77 : decode cX11_word 77 = .ok (.iload_n 1, 1) := by decide +kernel
theorem dX11_word_78 : decode cX11_word 78 = .ok (.iload_n 2, 1) := by decide +kernel
theorem dX11_word_79 : decode cX11_word 79 = .ok (.iload_n 3, 1) := by decide +kernel
theorem dX11_word_80 : decode cX11_word 80 = .ok (.iload 4, 2) := by decide +kernel
theorem dX11_word_82 : decode cX11_word 82 = .ok (.invokevirtual 138, 3) := by decide +kernel
theorem dX11_word_85 : decode cX11_word 85 = .ok (.ireturn, 1) := by decide +kernel
theorem dX11_ofWord_0 : decode cX11_ofWord 0 = .ok (.aload_n 0, 1) := by decide +kernel
theorem dX11_ofWord_1 : decode cX11_ofWord 1 = .ok (.getfield 10, 3) := by decide +kernel
theorem dX11_ofWord_4 : decode cX11_ofWord 4 = .ok (.iload_n 1, 1) := by decide +kernel
theorem dX11_ofWord_5 : decode cX11_ofWord 5 = .ok (.invokevirtual 142, 3) := by decide +kernel
theorem dX11_ofWord_8 : decode cX11_ofWord 8 = .ok (.ifCond .eq 12, 3) := by decide +kernel
theorem dX11_ofWord_11 : decode cX11_ofWord 11 = .ok (.iload_n 2, 1) := by decide +kernel
theorem dX11_ofWord_12 : decode cX11_ofWord 12 = .ok (.iconst 0, 1) := by decide +kernel
theorem dX11_ofWord_13 : decode cX11_ofWord 13 = .ok (.iconst 4, 1) := by decide +kernel
theorem dX11_ofWord_14 : decode cX11_ofWord 14 = .ok (.invokestatic 83, 3) := by decide +kernel
theorem dX11_ofWord_17 : decode cX11_ofWord 17 = .ok (.ifCond .ne 9, 3) := by decide +kernel
theorem dX11_ofWord_20 : decode cX11_ofWord 20 = .ok (.aload_n 0, 1) := by decide +kernel
theorem dX11_ofWord_21 : decode cX11_ofWord 21 = .ok (.iconst 1, 1) := by decide +kernel
theorem dX11_ofWord_22 : decode cX11_ofWord 22 = .ok (.invokevirtual 87, 3) := by decide +kernel
theorem dX11_ofWord_25 : decode cX11_ofWord 25 = .ok (.ireturn, 1) := by decide +kernel
theorem dX11_ofWord_26 : decode cX11_ofWord 26 = .ok (.iload_n 2, 1) := by decide +kernel
theorem dX11_ofWord_27 : decode cX11_ofWord 27 = .ok (.tableswitch 69 0 3 #[29, 39, 49, 59], 29) := by decide +kernel
theorem dX11_ofWord_56 : decode cX11_ofWord 56 = .ok (.aload_n 0, 1) := by decide +kernel
theorem dX11_ofWord_57 : decode cX11_ofWord 57 = .ok (.getfield 10, 3) := by decide +kernel
theorem dX11_ofWord_60 : decode cX11_ofWord 60 = .ok (.getfield 145, 3) := by decide +kernel
theorem dX11_ofWord_63 : decode cX11_ofWord 63 = .ok (.iload_n 1, 1) := by decide +kernel
theorem dX11_ofWord_64 : decode cX11_ofWord 64 = .ok (.iaload, 1) := by decide +kernel
theorem dX11_ofWord_65 : decode cX11_ofWord 65 = .ok (.ireturn, 1) := by decide +kernel
theorem dX11_ofWord_66 : decode cX11_ofWord 66 = .ok (.aload_n 0, 1) := by decide +kernel
theorem dX11_ofWord_67 : decode cX11_ofWord 67 = .ok (.getfield 10, 3) := by decide +kernel
theorem dX11_ofWord_70 : decode cX11_ofWord 70 = .ok (.getfield 148, 3) := by decide +kernel
theorem dX11_ofWord_73 : decode cX11_ofWord 73 = .ok (.iload_n 1, 1) := by decide +kernel
theorem dX11_ofWord_74 : decode cX11_ofWord 74 = .ok (.iaload, 1) := by decide +kernel
theorem dX11_ofWord_75 : decode cX11_ofWord 75 = .ok (.ireturn, 1) := by decide +kernel
theorem dX11_ofWord_76 : decode cX11_ofWord 76 = .ok (.aload_n 0, 1) := by decide +kernel
theorem dX11_ofWord_77 : decode cX11_ofWord 77 = .ok (.getfield 10, 3) := by decide +kernel
theorem dX11_ofWord_80 : decode cX11_ofWord 80 = .ok (.getfield 151, 3) := by decide +kernel
theorem dX11_ofWord_83 : decode cX11_ofWord 83 = .ok (.iload_n 1, 1) := by decide +kernel
theorem dX11_ofWord_84 : decode cX11_ofWord 84 = .ok (.iaload, 1) := by decide +kernel
theorem dX11_ofWord_85 : decode cX11_ofWord 85 = .ok (.ireturn, 1) := by decide +kernel
theorem dX11_ofWord_86 : decode cX11_ofWord 86 = .ok (.aload_n 0, 1) := by decide +kernel
theorem dX11_ofWord_87 : decode cX11_ofWord 87 = .ok (.getfield 10, 3) := by decide +kernel
theorem dX11_ofWord_90 : decode cX11_ofWord 90 = .ok (.getfield 154, 3) := by decide +kernel
theorem dX11_ofWord_93 : decode cX11_ofWord 93 = .ok (.iload_n 1, 1) := by decide +kernel
theorem dX11_ofWord_94 : decode cX11_ofWord 94 = .ok (.iaload, 1) := by decide +kernel
theorem dX11_ofWord_95 : decode cX11_ofWord 95 = .ok (.ireturn, 1) := by decide +kernel
theorem dX11_ofWord_96 : decode cX11_ofWord 96 = .ok (.aload_n 0, 1) := by decide +kernel
theorem dX11_ofWord_97 : decode cX11_ofWord 97 = .ok (.getfield 10, 3) := by decide +kernel
theorem dX11_ofWord_100 : decode cX11_ofWord 100 = .ok (.getfield 111, 3) := by decide +kernel
theorem dX11_ofWord_103 : decode cX11_ofWord 103 = .ok (.getfield 157, 3) := by decide +kernel
theorem dX11_ofWord_106 : decode cX11_ofWord 106 = .ok (.iload_n 1, 1) := by decide +kernel
theorem dX11_ofWord_107 : decode cX11_ofWord 107 = .ok (.iaload, 1) := by decide +kernel
theorem dX11_ofWord_108 : decode cX11_ofWord 108 = .ok (.ireturn, 1) := by decide +kernel
theorem dX11_set_0 : decode cX11_set 0 = .ok (.aload_n 0, 1) := by decide +kernel
theorem dX11_set_1 : decode cX11_set 1 = .ok (.getfield 10, 3) := by decide +kernel
theorem dX11_set_4 : decode cX11_set 4 = .ok (.iload_n 1, 1) := by decide +kernel
theorem dX11_set_5 : decode cX11_set 5 = .ok (.invokevirtual 142, 3) := by decide +kernel
theorem dX11_set_8 : decode cX11_set 8 = .ok (.ifCond .eq 41, 3) := by decide +kernel
theorem dX11_set_11 : decode cX11_set 11 = .ok (.iload_n 2, 1) := by decide +kernel
theorem dX11_set_12 : decode cX11_set 12 = .ok (.iconst 1, 1) := by decide +kernel
theorem dX11_set_13 : decode cX11_set 13 = .ok (.iconst 2, 1) := by decide +kernel
theorem dX11_set_14 : decode cX11_set 14 = .ok (.invokestatic 83, 3) := by decide +kernel
theorem dX11_set_17 : decode cX11_set 17 = .ok (.ifCond .eq 32, 3) := by decide +kernel
theorem dX11_set_20 : decode cX11_set 20 = .ok (.iload_n 3, 1) := by decide +kernel
theorem dX11_set_21 : decode cX11_set 21 = .ok (.iload_n 2, 1) := by decide +kernel
theorem dX11_set_22 : decode cX11_set 22 = .ok (.iconst 1, 1) := by decide +kernel
theorem dX11_set_23 : decode cX11_set 23 = .ok (.if_icmp .ne 7, 3) := by decide +kernel
theorem dX11_set_26 : decode cX11_set 26 = .ok (.iconst 1, 1) := by decide +kernel
theorem dX11_set_27 : decode cX11_set 27 = .ok (.goto 4, 3) := by decide +kernel
theorem dX11_set_30 : decode cX11_set 30 = .ok (.iconst 0, 1) := by decide +kernel
theorem dX11_set_31 : decode cX11_set 31 = .ok (.iload_n 2, 1) := by decide +kernel
theorem dX11_set_32 : decode cX11_set 32 = .ok (.iconst 1, 1) := by decide +kernel
theorem dX11_set_33 : decode cX11_set 33 = .ok (.if_icmp .ne 8, 3) := by decide +kernel
theorem dX11_set_36 : decode cX11_set 36 = .ok (.bipush 30, 2) := by decide +kernel
theorem dX11_set_38 : decode cX11_set 38 = .ok (.goto 5, 3) := by decide +kernel
theorem dX11_set_41 : decode cX11_set 41 = .ok (.bipush 99, 2) := by decide +kernel
theorem dX11_set_43 : decode cX11_set 43 = .ok (.invokestatic 83, 3) := by decide +kernel
theorem dX11_set_46 : decode cX11_set 46 = .ok (.ifCond .ne 9, 3) := by decide +kernel
theorem dX11_set_49 : decode cX11_set 49 = .ok (.aload_n 0, 1) := by decide +kernel
theorem dX11_set_50 : decode cX11_set 50 = .ok (.iconst 1, 1) := by decide +kernel
theorem dX11_set_51 : decode cX11_set 51 = .ok (.invokevirtual 87, 3) := by decide +kernel
theorem dX11_set_54 : decode cX11_set 54 = .ok (.ireturn, 1) := by decide +kernel
theorem dX11_set_55 : decode cX11_set 55 = .ok (.aload_n 0, 1) := by decide +kernel
theorem dX11_set_56 : decode cX11_set 56 = .ok (.getfield 10, 3) := by decide +kernel
theorem dX11_set_59 : decode cX11_set 59 = .ok (.getfield 111, 3) := by decide +kernel
theorem dX11_set_62 : decode cX11_set 62 = .ok (.getfield 157, 3) := by decide +kernel
theorem dX11_set_65 : decode cX11_set 65 = .ok (.iload_n 1, 1) := by decide +kernel
theorem dX11_set_66 : decode cX11_set 66 = .ok (.iaload, 1) := by decide +kernel
theorem dX11_set_67 : decode cX11_set 67 = .ok (.ifCond .ne 17, 3) := by decide +kernel
theorem dX11_set_70 : decode cX11_set 70 = .ok (.aload_n 0, 1) := by decide +kernel
theorem dX11_set_71 : decode cX11_set 71 = .ok (.getfield 10, 3) := by decide +kernel
theorem dX11_set_74 : decode cX11_set 74 = .ok (.getfield 111, 3) := by decide +kernel
theorem dX11_set_77 : decode cX11_set 77 = .ok (.getfield 160, 3) := by decide +kernel
theorem dX11_set_80 : decode cX11_set 80 = .ok (.iload_n 1, 1) := by decide +kernel
theorem dX11_set_81 : decode cX11_set 81 = .ok (.if_icmp .ne 9, 3) := by decide +kernel
theorem dX11_set_84 : decode cX11_set 84 = .ok (.aload_n 0, 1) := by decide +kernel
theorem dX11_set_85 : decode cX11_set 85 = .ok (.iconst 3, 1) := by decide +kernel
theorem dX11_set_86 : decode cX11_set 86 = .ok (.invokevirtual 87, 3) := by decide +kernel
theorem dX11_set_89 : decode cX11_set 89 = .ok (.ireturn, 1) := by decide +kernel
theorem dX11_set_90 : decode cX11_set 90 = .ok (.iload_n 2, 1) := by decide +kernel
theorem dX11_set_91 : decode cX11_set 91 = .ok (.iconst 1, 1) := by decide +kernel
theorem dX11_set_92 : decode cX11_set 92 = .ok (.if_icmp .ne 13, 3) := by decide +kernel
theorem dX11_set_95 : decode cX11_set 95 = .ok (.aload_n 0, 1) := by decide +kernel
theorem dX11_set_96 : decode cX11_set 96 = .ok (.getfield 10, 3) := by decide +kernel
theorem dX11_set_99 : decode cX11_set 99 = .ok (.getfield 148, 3) := by decide +kernel
theorem dX11_set_102 : decode cX11_set 102 = .ok (.goto 10, 3) := by decide +kernel
theorem dX11_set_105 : decode cX11_set 105 = .ok (.aload_n 0, 1) := by decide +kernel
theorem dX11_set_106 : decode cX11_set 106 = .ok (.getfield 10, 3) := by decide +kernel
theorem dX11_set_109 : decode cX11_set 109 = .ok (.getfield 151, 3) := by decide +kernel
theorem dX11_set_112 : decode cX11_set 112 = .ok (.astore 4, 2) := by decide +kernel
theorem dX11_set_114 : decode cX11_set 114 = .ok (.aload 4, 2) := by decide +kernel
theorem dX11_set_116 : decode cX11_set 116 = .ok (.iload_n 1, 1) := by decide +kernel
theorem dX11_set_117 : decode cX11_set 117 = .ok (.iaload, 1) := by decide +kernel
theorem dX11_set_118 : decode cX11_set 118 = .ok (.istore 5, 2) := by decide +kernel
theorem dX11_set_120 : decode cX11_set 120 = .ok (.aload 4, 2) := by decide +kernel
theorem dX11_set_122 : decode cX11_set 122 = .ok (.iload_n 1, 1) := by decide +kernel
theorem dX11_set_123 : decode cX11_set 123 = .ok (.iload_n 3, 1) := by decide +kernel
theorem dX11_set_124 : decode cX11_set 124 = .ok (.iastore, 1) := by decide +kernel
theorem dX11_set_125 : decode cX11_set 125 = .ok (.iload 5, 2) := by decide +kernel
theorem dX11_set_127 : decode cX11_set 127 = .ok (.ireturn, 1) := by decide +kernel
theorem dX11_fetch_0 : decode cX11_fetch 0 = .ok (.aload_n 0, 1) := by decide +kernel
theorem dX11_fetch_1 : decode cX11_fetch 1 = .ok (.getfield 10, 3) := by decide +kernel
theorem dX11_fetch_4 : decode cX11_fetch 4 = .ok (.iload_n 1, 1) := by decide +kernel
theorem dX11_fetch_5 : decode cX11_fetch 5 = .ok (.invokevirtual 99, 3) := by decide +kernel
theorem dX11_fetch_8 : decode cX11_fetch 8 = .ok (.ifCond .eq 14, 3) := by decide +kernel
theorem dX11_fetch_11 : decode cX11_fetch 11 = .ok (.iload_n 2, 1) := by decide +kernel
theorem dX11_fetch_12 : decode cX11_fetch 12 = .ok (.iconst 1, 1) := by decide +kernel
theorem dX11_fetch_13 : decode cX11_fetch 13 = .ok (.sipush 999, 3) := by decide +kernel
theorem dX11_fetch_16 : decode cX11_fetch 16 = .ok (.invokestatic 83, 3) := by decide +kernel
theorem dX11_fetch_19 : decode cX11_fetch 19 = .ok (.ifCond .ne 9, 3) := by decide +kernel
theorem dX11_fetch_22 : decode cX11_fetch 22 = .ok (.aload_n 0, 1) := by decide +kernel
theorem dX11_fetch_23 : decode cX11_fetch 23 = .ok (.iconst 1, 1) := by decide +kernel
theorem dX11_fetch_24 : decode cX11_fetch 24 = .ok (.invokevirtual 87, 3) := by decide +kernel
theorem dX11_fetch_27 : decode cX11_fetch 27 = .ok (.ireturn, 1) := by decide +kernel
theorem dX11_fetch_28 : decode cX11_fetch 28 = .ok (.aload_n 0, 1) := by decide +kernel
theorem dX11_fetch_29 : decode cX11_fetch 29 = .ok (.getfield 10, 3) := by decide +kernel
theorem dX11_fetch_32 : decode cX11_fetch 32 = .ok (.getfield 108, 3) := by decide +kernel
theorem dX11_fetch_35 : decode cX11_fetch 35 = .ok (.iload_n 1, 1) := by decide +kernel
theorem dX11_fetch_36 : decode cX11_fetch 36 = .ok (.iaload, 1) := by decide +kernel
theorem dX11_fetch_37 : decode cX11_fetch 37 = .ok (.aload_n 0, 1) := by decide +kernel
theorem dX11_fetch_38 : decode cX11_fetch 38 = .ok (.getfield 10, 3) := by decide +kernel
theorem dX11_fetch_41 : decode cX11_fetch 41 = .ok (.getfield 111, 3) := by decide +kernel
theorem dX11_fetch_44 : decode cX11_fetch 44 = .ok (.getfield 114, 3) := by decide +kernel
theorem dX11_fetch_47 : decode cX11_fetch 47 = .ok (.iload_n 1, 1) := by decide +kernel
theorem dX11_fetch_48 : decode cX11_fetch 48 = .ok (.iaload, 1) := by decide +kernel
theorem dX11_fetch_49 : decode cX11_fetch 49 = .ok (.iload_n 2, 1) := by decide +kernel
theorem dX11_fetch_50 : decode cX11_fetch 50 = .ok (.iadd, 1) := by decide +kernel
theorem dX11_fetch_51 : decode cX11_fetch 51 = .ok (.invokestatic 163, 3) := by decide +kernel
theorem dX11_fetch_54 : decode cX11_fetch 54 = .ok (.istore_n 3, 1) := by decide +kernel
theorem dX11_fetch_55 : decode cX11_fetch 55 = .ok (.aload_n 0, 1) := by decide +kernel
theorem dX11_fetch_56 : decode cX11_fetch 56 = .ok (.getfield 10, 3) := by decide +kernel
theorem dX11_fetch_59 : decode cX11_fetch 59 = .ok (.getfield 111, 3) := by decide +kernel
theorem dX11_fetch_62 : decode cX11_fetch 62 = .ok (.getfield 114, 3) := by decide +kernel
theorem dX11_fetch_65 : decode cX11_fetch 65 = .ok (.iload_n 1, 1) := by decide +kernel
theorem dX11_fetch_66 : decode cX11_fetch 66 = .ok (.iload_n 3, 1) := by decide +kernel
theorem dX11_fetch_67 : decode cX11_fetch 67 = .ok (.iastore, 1) := by decide +kernel
theorem dX11_fetch_68 : decode cX11_fetch 68 = .ok (.iload_n 3, 1) := by decide +kernel
theorem dX11_fetch_69 : decode cX11_fetch 69 = .ok (.ireturn, 1) := by decide +kernel
theorem dX11_pour_0 : decode cX11_pour 0 = .ok (.aload_n 0, 1) := by decide +kernel
theorem dX11_pour_1 : decode cX11_pour 1 = .ok (.iload_n 1, 1) := by decide +kernel
theorem dX11_pour_2 : decode cX11_pour 2 = .ok (.iload_n 2, 1) := by decide +kernel
theorem dX11_pour_3 : decode cX11_pour 3 = .ok (.invokevirtual 168, 3) := by decide +kernel
theorem dX11_pour_6 : decode cX11_pour 6 = .ok (.ifCond .eq 14, 3) := by decide +kernel
theorem dX11_pour_9 : decode cX11_pour 9 = .ok (.iload_n 3, 1) := by decide +kernel
theorem dX11_pour_10 : decode cX11_pour 10 = .ok (.iconst 1, 1) := by decide +kernel
theorem dX11_pour_11 : decode cX11_pour 11 = .ok (.sipush 999, 3) := by decide +kernel
theorem dX11_pour_14 : decode cX11_pour 14 = .ok (.invokestatic 83, 3) := by decide +kernel
theorem dX11_pour_17 : decode cX11_pour 17 = .ok (.ifCond .ne 9, 3) := by decide +kernel
theorem dX11_pour_20 : decode cX11_pour 20 = .ok (.aload_n 0, 1) := by decide +kernel
theorem dX11_pour_21 : decode cX11_pour 21 = .ok (.iconst 1, 1) := by decide +kernel
theorem dX11_pour_22 : decode cX11_pour 22 = .ok (.invokevirtual 87, 3) := by decide +kernel
theorem dX11_pour_25 : decode cX11_pour 25 = .ok (.ireturn, 1) := by decide +kernel
theorem dX11_pour_26 : decode cX11_pour 26 = .ok (.aload_n 0, 1) := by decide +kernel
theorem dX11_pour_27 : decode cX11_pour 27 = .ok (.getfield 10, 3) := by decide +kernel
theorem dX11_pour_30 : decode cX11_pour 30 = .ok (.getfield 111, 3) := by decide +kernel
theorem dX11_pour_33 : decode cX11_pour 33 = .ok (.getfield 114, 3) := by decide +kernel
theorem dX11_pour_36 : decode cX11_pour 36 = .ok (.astore 4, 2) := by decide +kernel
theorem dX11_pour_38 : decode cX11_pour 38 = .ok (.aload 4, 2) := by decide +kernel
theorem dX11_pour_40 : decode cX11_pour 40 = .ok (.iload_n 1, 1) := by decide +kernel
theorem dX11_pour_41 : decode cX11_pour 41 = .ok (.iaload, 1) := by decide +kernel
theorem dX11_pour_42 : decode cX11_pour 42 = .ok (.iload_n 3, 1) := by decide +kernel
theorem dX11_pour_43 : decode cX11_pour 43 = .ok (.if_icmp .ge 9, 3) := by decide +kernel
theorem dX11_pour_46 : decode cX11_pour 46 = .ok (.aload_n 0, 1) := by decide +kernel
theorem dX11_pour_47 : decode cX11_pour 47 = .ok (.iconst 3, 1) := by decide +kernel
theorem dX11_pour_48 : decode cX11_pour 48 = .ok (.invokevirtual 87, 3) := by decide +kernel
theorem dX11_pour_51 : decode cX11_pour 51 = .ok (.ireturn, 1) := by decide +kernel
theorem dX11_pour_52 : decode cX11_pour 52 = .ok (.aload 4, 2) := by decide +kernel
theorem dX11_pour_54 : decode cX11_pour 54 = .ok (.iload_n 2, 1) := by decide +kernel
theorem dX11_pour_55 : decode cX11_pour 55 = .ok (.iaload, 1) := by decide +kernel
theorem dX11_pour_56 : decode cX11_pour 56 = .ok (.iload_n 3, 1) := by decide +kernel
theorem dX11_pour_57 : decode cX11_pour 57 = .ok (.iadd, 1) := by decide +kernel
theorem dX11_pour_58 : decode cX11_pour 58 = .ok (.aload_n 0, 1) := by decide +kernel
theorem dX11_pour_59 : decode cX11_pour 59 = .ok (.getfield 10, 3) := by decide +kernel
theorem dX11_pour_62 : decode cX11_pour 62 = .ok (.getfield 108, 3) := by decide +kernel
theorem dX11_pour_65 : decode cX11_pour 65 = .ok (.iload_n 2, 1) := by decide +kernel
theorem dX11_pour_66 : decode cX11_pour 66 = .ok (.iaload, 1) := by decide +kernel
theorem dX11_pour_67 : decode cX11_pour 67 = .ok (.if_icmp .le 9, 3) := by decide +kernel
theorem dX11_pour_70 : decode cX11_pour 70 = .ok (.aload_n 0, 1) := by decide +kernel
theorem dX11_pour_71 : decode cX11_pour 71 = .ok (.iconst 4, 1) := by decide +kernel
theorem dX11_pour_72 : decode cX11_pour 72 = .ok (.invokevirtual 87, 3) := by decide +kernel
theorem dX11_pour_75 : decode cX11_pour 75 = .ok (.ireturn, 1) := by decide +kernel
theorem dX11_pour_76 : decode cX11_pour 76 = .ok (.aload 4, 2) := by decide +kernel
theorem dX11_pour_78 : decode cX11_pour 78 = .ok (.iload_n 1, 1) := by decide +kernel
theorem dX11_pour_79 : decode cX11_pour 79 = .ok (.dup2, 1) := by decide +kernel
theorem dX11_pour_80 : decode cX11_pour 80 = .ok (.iaload, 1) := by decide +kernel
theorem dX11_pour_81 : decode cX11_pour 81 = .ok (.iload_n 3, 1) := by decide +kernel
theorem dX11_pour_82 : decode cX11_pour 82 = .ok (.isub, 1) := by decide +kernel
theorem dX11_pour_83 : decode cX11_pour 83 = .ok (.iastore, 1) := by decide +kernel
theorem dX11_pour_84 : decode cX11_pour 84 = .ok (.aload 4, 2) := by decide +kernel
theorem dX11_pour_86 : decode cX11_pour 86 = .ok (.iload_n 2, 1) := by decide +kernel
theorem dX11_pour_87 : decode cX11_pour 87 = .ok (.dup2, 1) := by decide +kernel
theorem dX11_pour_88 : decode cX11_pour 88 = .ok (.iaload, 1) := by decide +kernel
theorem dX11_pour_89 : decode cX11_pour 89 = .ok (.iload_n 3, 1) := by decide +kernel
theorem dX11_pour_90 : decode cX11_pour 90 = .ok (.iadd, 1) := by decide +kernel
theorem dX11_pour_91 : decode cX11_pour 91 = .ok (.iastore, 1) := by decide +kernel
theorem dX11_pour_92 : decode cX11_pour 92 = .ok (.aload 4, 2) := by decide +kernel
theorem dX11_pour_94 : decode cX11_pour 94 = .ok (.iload_n 2, 1) := by decide +kernel
theorem dX11_pour_95 : decode cX11_pour 95 = .ok (.iaload, 1) := by decide +kernel
theorem dX11_pour_96 : decode cX11_pour 96 = .ok (.ireturn, 1) := by decide +kernel
theorem dX11_object_0 : decode cX11_object 0 = .ok (.aload_n 0, 1) := by decide +kernel
theorem dX11_object_1 : decode cX11_object 1 = .ok (.getfield 10, 3) := by decide +kernel
theorem dX11_object_4 : decode cX11_object 4 = .ok (.iload_n 1, 1) := by decide +kernel
theorem dX11_object_5 : decode cX11_object 5 = .ok (.invokevirtual 99, 3) := by decide +kernel
theorem dX11_object_8 : decode cX11_object 8 = .ok (.ifCond .eq 13, 3) := by decide +kernel
theorem dX11_object_11 : decode cX11_object 11 = .ok (.iload_n 2, 1) := by decide +kernel
theorem dX11_object_12 : decode cX11_object 12 = .ok (.iconst 1, 1) := by decide +kernel
theorem dX11_object_13 : decode cX11_object 13 = .ok (.bipush 99, 2) := by decide +kernel
theorem dX11_object_15 : decode cX11_object 15 = .ok (.invokestatic 83, 3) := by decide +kernel
theorem dX11_object_18 : decode cX11_object 18 = .ok (.ifCond .ne 9, 3) := by decide +kernel
theorem dX11_object_21 : decode cX11_object 21 = .ok (.aload_n 0, 1) := by decide +kernel
theorem dX11_object_22 : decode cX11_object 22 = .ok (.iconst 1, 1) := by decide +kernel
theorem dX11_object_23 : decode cX11_object 23 = .ok (.invokevirtual 87, 3) := by decide +kernel
theorem dX11_object_26 : decode cX11_object 26 = .ok (.ireturn, 1) := by decide +kernel
theorem dX11_object_27 : decode cX11_object 27 = .ok (.aload_n 0, 1) := by decide +kernel
theorem dX11_object_28 : decode cX11_object 28 = .ok (.getfield 10, 3) := by decide +kernel
theorem dX11_object_31 : decode cX11_object 31 = .ok (.getfield 111, 3) := by decide +kernel
theorem dX11_object_34 : decode cX11_object 34 = .ok (.astore_n 3, 1) := by decide +kernel
theorem dX11_object_35 : decode cX11_object 35 = .ok (.aload_n 0, 1) := by decide +kernel
theorem dX11_object_36 : decode cX11_object 36 = .ok (.getfield 10, 3) := by decide +kernel
theorem dX11_object_39 : decode cX11_object 39 = .ok (.aload_n 3, 1) := by decide +kernel
theorem dX11_object_40 : decode cX11_object 40 = .ok (.invokevirtual 171, 3) := by decide +kernel
theorem dX11_object_43 : decode cX11_object 43 = .ok (.istore 4, 2) := by decide +kernel
theorem dX11_object_45 : decode cX11_object 45 = .ok (.iload 4, 2) := by decide +kernel
theorem dX11_object_47 : decode cX11_object 47 = .ok (.iconst (-1), 1) := by decide +kernel
theorem dX11_object_48 : decode cX11_object 48 = .ok (.if_icmp .eq 19, 3) := by decide +kernel
theorem dX11_object_51 : decode cX11_object 51 = .ok (.iload 4, 2) := by decide +kernel
theorem dX11_object_53 : decode cX11_object 53 = .ok (.iload_n 1, 1) := by decide +kernel
theorem dX11_object_54 : decode cX11_object 54 = .ok (.if_icmp .eq 13, 3) := by decide +kernel
theorem dX11_object_57 : decode cX11_object 57 = .ok (.aload_n 3, 1) := by decide +kernel
theorem dX11_object_58 : decode cX11_object 58 = .ok (.getfield 114, 3) := by decide +kernel
theorem dX11_object_61 : decode cX11_object 61 = .ok (.iload_n 1, 1) := by decide +kernel
theorem dX11_object_62 : decode cX11_object 62 = .ok (.iaload, 1) := by decide +kernel
theorem dX11_object_63 : decode cX11_object 63 = .ok (.iload_n 2, 1) := by decide +kernel
theorem dX11_object_64 : decode cX11_object 64 = .ok (.if_icmp .ge 9, 3) := by decide +kernel
theorem dX11_object_67 : decode cX11_object 67 = .ok (.aload_n 0, 1) := by decide +kernel
theorem dX11_object_68 : decode cX11_object 68 = .ok (.iconst 3, 1) := by decide +kernel
theorem dX11_object_69 : decode cX11_object 69 = .ok (.invokevirtual 87, 3) := by decide +kernel
theorem dX11_object_72 : decode cX11_object 72 = .ok (.ireturn, 1) := by decide +kernel
theorem dX11_object_73 : decode cX11_object 73 = .ok (.aload_n 3, 1) := by decide +kernel
theorem dX11_object_74 : decode cX11_object 74 = .ok (.aload_n 3, 1) := by decide +kernel
theorem dX11_object_75 : decode cX11_object 75 = .ok (.iload_n 1, 1) := by decide +kernel
theorem dX11_object_76 : decode cX11_object 76 = .ok (.iload_n 2, 1) := by decide +kernel
theorem dX11_object_77 : decode cX11_object 77 = .ok (.invokevirtual 175, 3) := by decide +kernel
theorem dX11_object_80 : decode cX11_object 80 = .ok (.invokevirtual 178, 3) := by decide +kernel
theorem dX11_object_83 : decode cX11_object 83 = .ok (.aload_n 3, 1) := by decide +kernel
theorem dX11_object_84 : decode cX11_object 84 = .ok (.aload_n 3, 1) := by decide +kernel
theorem dX11_object_85 : decode cX11_object 85 = .ok (.iload 4, 2) := by decide +kernel
theorem dX11_object_87 : decode cX11_object 87 = .ok (.iconst 2, 1) := by decide +kernel
theorem dX11_object_88 : decode cX11_object 88 = .ok (.iload_n 2, 1) := by decide +kernel
theorem dX11_object_89 : decode cX11_object 89 = .ok (.imul, 1) := by decide +kernel
theorem dX11_object_90 : decode cX11_object 90 = .ok (.invokevirtual 175, 3) := by decide +kernel
theorem dX11_object_93 : decode cX11_object 93 = .ok (.invokevirtual 178, 3) := by decide +kernel
theorem dX11_object_96 : decode cX11_object 96 = .ok (.aload_n 3, 1) := by decide +kernel
theorem dX11_object_97 : decode cX11_object 97 = .ok (.getfield 114, 3) := by decide +kernel
theorem dX11_object_100 : decode cX11_object 100 = .ok (.iload 4, 2) := by decide +kernel
theorem dX11_object_102 : decode cX11_object 102 = .ok (.iaload, 1) := by decide +kernel
theorem dX11_object_103 : decode cX11_object 103 = .ok (.ireturn, 1) := by decide +kernel
theorem dX11_thumb_0 : decode cX11_thumb 0 = .ok (.iload_n 1, 1) := by decide +kernel
theorem dX11_thumb_1 : decode cX11_thumb 1 = .ok (.iconst 0, 1) := by decide +kernel
theorem dX11_thumb_2 : decode cX11_thumb 2 = .ok (.iconst 1, 1) := by decide +kernel
theorem dX11_thumb_3 : decode cX11_thumb 3 = .ok (.invokestatic 83, 3) := by decide +kernel
theorem dX11_thumb_6 : decode cX11_thumb 6 = .ok (.ifCond .ne 9, 3) := by decide +kernel
theorem dX11_thumb_9 : decode cX11_thumb 9 = .ok (.aload_n 0, 1) := by decide +kernel
theorem dX11_thumb_10 : decode cX11_thumb 10 = .ok (.iconst 1, 1) := by decide +kernel
theorem dX11_thumb_11 : decode cX11_thumb 11 = .ok (.invokevirtual 87, 3) := by decide +kernel
theorem dX11_thumb_14 : decode cX11_thumb 14 = .ok (.ireturn, 1) := by decide +kernel
theorem dX11_thumb_15 : decode cX11_thumb 15 = .ok (.aload_n 0, 1) := by decide +kernel
theorem dX11_thumb_16 : decode cX11_thumb 16 = .ok (.getfield 10, 3) := by decide +kernel
theorem dX11_thumb_19 : decode cX11_thumb 19 = .ok (.getfield 111, 3) := by decide +kernel
theorem dX11_thumb_22 : decode cX11_thumb 22 = .ok (.getfield 182, 3) := by decide +kernel
theorem dX11_thumb_25 : decode cX11_thumb 25 = .ok (.istore_n 2, 1) := by decide +kernel
theorem dX11_thumb_26 : decode cX11_thumb 26 = .ok (.aload_n 0, 1) := by decide +kernel
theorem dX11_thumb_27 : decode cX11_thumb 27 = .ok (.getfield 10, 3) := by decide +kernel
theorem dX11_thumb_30 : decode cX11_thumb 30 = .ok (.getfield 111, 3) := by decide +kernel
theorem dX11_thumb_33 : decode cX11_thumb 33 = .ok (.iload_n 1, 1) := by decide +kernel
theorem dX11_thumb_34 : decode cX11_thumb 34 = .ok (.putfield 182, 3) := by decide +kernel
theorem dX11_thumb_37 : decode cX11_thumb 37 = .ok (.iload_n 2, 1) := by decide +kernel
theorem dX11_thumb_38 : decode cX11_thumb 38 = .ok (.ireturn, 1) := by decide +kernel
theorem dX11_say_0 : decode cX11_say 0 = .ok (.aload_n 0, 1) := by decide +kernel
theorem dX11_say_1 : decode cX11_say 1 = .ok (.getfield 10, 3) := by decide +kernel
theorem dX11_say_4 : decode cX11_say 4 = .ok (.iload_n 1, 1) := by decide +kernel
theorem dX11_say_5 : decode cX11_say 5 = .ok (.invokevirtual 142, 3) := by decide +kernel
theorem dX11_say_8 : decode cX11_say 8 = .ok (.ifCond .ne 9, 3) := by decide +kernel
theorem dX11_say_11 : decode cX11_say 11 = .ok (.aload_n 0, 1) := by decide +kernel
theorem dX11_say_12 : decode cX11_say 12 = .ok (.iconst 1, 1) := by decide +kernel
theorem dX11_say_13 : decode cX11_say 13 = .ok (.invokevirtual 87, 3) := by decide +kernel
theorem dX11_say_16 : decode cX11_say 16 = .ok (.ireturn, 1) := by decide +kernel
theorem dX11_say_17 : decode cX11_say 17 = .ok (.aload_n 0, 1) := by decide +kernel
theorem dX11_say_18 : decode cX11_say 18 = .ok (.getfield 10, 3) := by decide +kernel
theorem dX11_say_21 : decode cX11_say 21 = .ok (.aload_n 0, 1) := by decide +kernel
theorem dX11_say_22 : decode cX11_say 22 = .ok (.getfield 10, 3) := by decide +kernel
theorem dX11_say_25 : decode cX11_say 25 = .ok (.getfield 111, 3) := by decide +kernel
theorem dX11_say_28 : decode cX11_say 28 = .ok (.iload_n 1, 1) := by decide +kernel
theorem dX11_say_29 : decode cX11_say 29 = .ok (.invokevirtual 185, 3) := by decide +kernel
theorem dX11_say_32 : decode cX11_say 32 = .ok (.ifCond .ne 9, 3) := by decide +kernel
theorem dX11_say_35 : decode cX11_say 35 = .ok (.aload_n 0, 1) := by decide +kernel
theorem dX11_say_36 : decode cX11_say 36 = .ok (.iconst 3, 1) := by decide +kernel
theorem dX11_say_37 : decode cX11_say 37 = .ok (.invokevirtual 87, 3) := by decide +kernel
theorem dX11_say_40 : decode cX11_say 40 = .ok (.ireturn, 1) := by decide +kernel
theorem dX11_say_41 : decode cX11_say 41 = .ok (.aload_n 0, 1) := by decide +kernel
theorem dX11_say_42 : decode cX11_say 42 = .ok (.getfield 10, 3) := by decide +kernel
theorem dX11_say_45 : decode cX11_say 45 = .ok (.aload_n 0, 1) := by decide +kernel
theorem dX11_say_46 : decode cX11_say 46 = .ok (.getfield 10, 3) := by decide +kernel
theorem dX11_say_49 : decode cX11_say 49 = .ok (.getfield 111, 3) := by decide +kernel
theorem dX11_say_52 : decode cX11_say 52 = .ok (.iload_n 1, 1) := by decide +kernel
theorem dX11_say_53 : decode cX11_say 53 = .ok (.invokevirtual 189, 3) := by decide +kernel
theorem dX11_say_56 : decode cX11_say 56 = .ok (.aload_n 0, 1) := by decide +kernel
theorem dX11_say_57 : decode cX11_say 57 = .ok (.getfield 10, 3) := by decide +kernel
theorem dX11_say_60 : decode cX11_say 60 = .ok (.getfield 148, 3) := by decide +kernel
theorem dX11_say_63 : decode cX11_say 63 = .ok (.iload_n 1, 1) := by decide +kernel
theorem dX11_say_64 : decode cX11_say 64 = .ok (.iaload, 1) := by decide +kernel
theorem dX11_say_65 : decode cX11_say 65 = .ok (.ireturn, 1) := by decide +kernel
theorem dX11_stop_0 : decode cX11_stop 0 = .ok (.aload_n 0, 1) := by decide +kernel
theorem dX11_stop_1 : decode cX11_stop 1 = .ok (.getfield 10, 3) := by decide +kernel
theorem dX11_stop_4 : decode cX11_stop 4 = .ok (.getfield 111, 3) := by decide +kernel
theorem dX11_stop_7 : decode cX11_stop 7 = .ok (.getfield 160, 3) := by decide +kernel
theorem dX11_stop_10 : decode cX11_stop 10 = .ok (.istore_n 1, 1) := by decide +kernel
theorem dX11_stop_11 : decode cX11_stop 11 = .ok (.aload_n 0, 1) := by decide +kernel
theorem dX11_stop_12 : decode cX11_stop 12 = .ok (.getfield 10, 3) := by decide +kernel
theorem dX11_stop_15 : decode cX11_stop 15 = .ok (.iload_n 1, 1) := by decide +kernel
theorem dX11_stop_16 : decode cX11_stop 16 = .ok (.invokevirtual 142, 3) := by decide +kernel
theorem dX11_stop_19 : decode cX11_stop 19 = .ok (.ifCond .ne 9, 3) := by decide +kernel
theorem dX11_stop_22 : decode cX11_stop 22 = .ok (.aload_n 0, 1) := by decide +kernel
theorem dX11_stop_23 : decode cX11_stop 23 = .ok (.iconst 2, 1) := by decide +kernel
theorem dX11_stop_24 : decode cX11_stop 24 = .ok (.invokevirtual 87, 3) := by decide +kernel
theorem dX11_stop_27 : decode cX11_stop 27 = .ok (.ireturn, 1) := by decide +kernel
theorem dX11_stop_28 : decode cX11_stop 28 = .ok (.aload_n 0, 1) := by decide +kernel
theorem dX11_stop_29 : decode cX11_stop 29 = .ok (.getfield 10, 3) := by decide +kernel
theorem dX11_stop_32 : decode cX11_stop 32 = .ok (.getfield 111, 3) := by decide +kernel
theorem dX11_stop_35 : decode cX11_stop 35 = .ok (.iload_n 1, 1) := by decide +kernel
theorem dX11_stop_36 : decode cX11_stop 36 = .ok (.iconst 2, 1) := by decide +kernel
theorem dX11_stop_37 : decode cX11_stop 37 = .ok (.invokevirtual 193, 3) := by decide +kernel
theorem dX11_stop_40 : decode cX11_stop 40 = .ok (.iload_n 1, 1) := by decide +kernel
theorem dX11_stop_41 : decode cX11_stop 41 = .ok (.ireturn, 1) := by decide +kernel
theorem dX11_seconds_0 : decode cX11_seconds 0 = .ok (.iload_n 1, 1) := by decide +kernel
theorem dX11_seconds_1 : decode cX11_seconds 1 = .ok (.iconst 1, 1) := by decide +kernel
theorem dX11_seconds_2 : decode cX11_seconds 2 = .ok (.sipush 300, 3) := by decide +kernel
theorem dX11_seconds_5 : decode cX11_seconds 5 = .ok (.invokestatic 83, 3) := by decide +kernel
theorem dX11_seconds_8 : decode cX11_seconds 8 = .ok (.ifCond .ne 9, 3) := by decide +kernel
theorem dX11_seconds_11 : decode cX11_seconds 11 = .ok (.aload_n 0, 1) := by decide +kernel
theorem dX11_seconds_12 : decode cX11_seconds 12 = .ok (.iconst 1, 1) := by decide +kernel
theorem dX11_seconds_13 : decode cX11_seconds 13 = .ok (.invokevirtual 87, 3) := by decide +kernel
theorem dX11_seconds_16 : decode cX11_seconds 16 = .ok (.ireturn, 1) := by decide +kernel
theorem dX11_seconds_17 : decode cX11_seconds 17 = .ok (.aload_n 0, 1) := by decide +kernel
theorem dX11_seconds_18 : decode cX11_seconds 18 = .ok (.getfield 10, 3) := by decide +kernel
theorem dX11_seconds_21 : decode cX11_seconds 21 = .ok (.getfield 111, 3) := by decide +kernel
theorem dX11_seconds_24 : decode cX11_seconds 24 = .ok (.getfield 197, 3) := by decide +kernel
theorem dX11_seconds_27 : decode cX11_seconds 27 = .ok (.iload_n 1, 1) := by decide +kernel
theorem dX11_seconds_28 : decode cX11_seconds 28 = .ok (.iadd, 1) := by decide +kernel
theorem dX11_seconds_29 : decode cX11_seconds 29 = .ok (.ldc 200, 2) := by decide +kernel
theorem dX11_seconds_31 : decode cX11_seconds 31 = .ok (.if_icmp .le 9, 3) := by decide +kernel
theorem dX11_seconds_34 : decode cX11_seconds 34 = .ok (.aload_n 0, 1) := by decide +kernel
theorem dX11_seconds_35 : decode cX11_seconds 35 = .ok (.iconst 3, 1) := by decide +kernel
theorem dX11_seconds_36 : decode cX11_seconds 36 = .ok (.invokevirtual 87, 3) := by decide +kernel
theorem dX11_seconds_39 : decode cX11_seconds 39 = .ok (.ireturn, 1) := by decide +kernel
theorem dX11_seconds_40 : decode cX11_seconds 40 = .ok (.aload_n 0, 1) := by decide +kernel
theorem dX11_seconds_41 : decode cX11_seconds 41 = .ok (.getfield 10, 3) := by decide +kernel
theorem dX11_seconds_44 : decode cX11_seconds 44 = .ok (.aload_n 0, 1) := by decide +kernel
theorem dX11_seconds_45 : decode cX11_seconds 45 = .ok (.getfield 10, 3) := by decide +kernel
theorem dX11_seconds_48 : decode cX11_seconds 48 = .ok (.getfield 111, 3) := by decide +kernel
theorem dX11_seconds_51 : decode cX11_seconds 51 = .ok (.iload_n 1, 1) := by decide +kernel
theorem dX11_seconds_52 : decode cX11_seconds 52 = .ok (.invokevirtual 201, 3) := by decide +kernel
theorem dX11_seconds_55 : decode cX11_seconds 55 = .ok (.aload_n 0, 1) := by decide +kernel
theorem dX11_seconds_56 : decode cX11_seconds 56 = .ok (.getfield 10, 3) := by decide +kernel
theorem dX11_seconds_59 : decode cX11_seconds 59 = .ok (.getfield 111, 3) := by decide +kernel
theorem dX11_seconds_62 : decode cX11_seconds 62 = .ok (.getfield 204, 3) := by decide +kernel
theorem dX11_seconds_65 : decode cX11_seconds 65 = .ok (.ireturn, 1) := by decide +kernel
theorem dX11_loose_0 : decode cX11_loose 0 = .ok (.iload_n 1, 1) := by decide +kernel
theorem dX11_loose_1 : decode cX11_loose 1 = .ok (.iconst 1, 1) := by decide +kernel
theorem dX11_loose_2 : decode cX11_loose 2 = .ok (.sipush 300, 3) := by decide +kernel
theorem dX11_loose_5 : decode cX11_loose 5 = .ok (.invokestatic 83, 3) := by decide +kernel
theorem dX11_loose_8 : decode cX11_loose 8 = .ok (.ifCond .ne 9, 3) := by decide +kernel
theorem dX11_loose_11 : decode cX11_loose 11 = .ok (.aload_n 0, 1) := by decide +kernel
theorem dX11_loose_12 : decode cX11_loose 12 = .ok (.iconst 1, 1) := by decide +kernel
theorem dX11_loose_13 : decode cX11_loose 13 = .ok (.invokevirtual 87, 3) := by decide +kernel
theorem dX11_loose_16 : decode cX11_loose 16 = .ok (.ireturn, 1) := by decide +kernel
theorem dX11_loose_17 : decode cX11_loose 17 = .ok (.aload_n 0, 1) := by decide +kernel
theorem dX11_loose_18 : decode cX11_loose 18 = .ok (.getfield 10, 3) := by decide +kernel
theorem dX11_loose_21 : decode cX11_loose 21 = .ok (.getfield 111, 3) := by decide +kernel
theorem dX11_loose_24 : decode cX11_loose 24 = .ok (.getfield 197, 3) := by decide +kernel
theorem dX11_loose_27 : decode cX11_loose 27 = .ok (.iload_n 1, 1) := by decide +kernel
theorem dX11_loose_28 : decode cX11_loose 28 = .ok (.iadd, 1) := by decide +kernel
theorem dX11_loose_29 : decode cX11_loose 29 = .ok (.ldc 200, 2) := by decide +kernel
theorem dX11_loose_31 : decode cX11_loose 31 = .ok (.if_icmp .le 9, 3) := by decide +kernel
theorem dX11_loose_34 : decode cX11_loose 34 = .ok (.aload_n 0, 1) := by decide +kernel
theorem dX11_loose_35 : decode cX11_loose 35 = .ok (.iconst 3, 1) := by decide +kernel
theorem dX11_loose_36 : decode cX11_loose 36 = .ok (.invokevirtual 87, 3) := by decide +kernel
theorem dX11_loose_39 : decode cX11_loose 39 = .ok (.ireturn, 1) := by decide +kernel
theorem dX11_loose_40 : decode cX11_loose 40 = .ok (.iconst 0, 1) := by decide +kernel
theorem dX11_loose_41 : decode cX11_loose 41 = .ok (.istore_n 2, 1) := by decide +kernel
theorem dX11_loose_42 : decode cX11_loose 42 = .ok (.iload_n 2, 1) := by decide +kernel
theorem dX11_loose_43 : decode cX11_loose 43 = .ok (.iload_n 1, 1) := by decide +kernel
theorem dX11_loose_44 : decode cX11_loose 44 = .ok (.if_icmp .ge 31, 3) := by decide +kernel
theorem dX11_loose_47 : decode cX11_loose 47 = .ok (.aload_n 0, 1) := by decide +kernel
theorem dX11_loose_48 : decode cX11_loose 48 = .ok (.getfield 10, 3) := by decide +kernel
theorem dX11_loose_51 : decode cX11_loose 51 = .ok (.invokevirtual 207, 3) := by decide +kernel
theorem dX11_loose_54 : decode cX11_loose 54 = .ok (.aload_n 0, 1) := by decide +kernel
theorem dX11_loose_55 : decode cX11_loose 55 = .ok (.getfield 10, 3) := by decide +kernel
theorem dX11_loose_58 : decode cX11_loose 58 = .ok (.aload_n 0, 1) := by decide +kernel
theorem dX11_loose_59 : decode cX11_loose 59 = .ok (.getfield 10, 3) := by decide +kernel
theorem dX11_loose_62 : decode cX11_loose 62 = .ok (.getfield 111, 3) := by decide +kernel
theorem dX11_loose_65 : decode cX11_loose 65 = .ok (.iconst 1, 1) := by decide +kernel
theorem dX11_loose_66 : decode cX11_loose 66 = .ok (.invokevirtual 201, 3) := by decide +kernel
theorem dX11_loose_69 : decode cX11_loose 69 = .ok (.iinc 2 1, 3) := by decide +kernel
theorem dX11_loose_72 : decode cX11_loose 72 = .ok (.goto (-30), 3) := by decide +kernel
theorem dX11_loose_75 : decode cX11_loose 75 = .ok (.aload_n 0, 1) := by decide +kernel
theorem dX11_loose_76 : decode cX11_loose 76 = .ok (.getfield 10, 3) := by decide +kernel
theorem dX11_loose_79 : decode cX11_loose 79 = .ok (.getfield 111, 3) := by decide +kernel
theorem dX11_loose_82 : decode cX11_loose 82 = .ok (.getfield 204, 3) := by decide +kernel
theorem dX11_loose_85 : decode cX11_loose 85 = .ok (.ireturn, 1) := by decide +kernel
theorem dX11_then_0 : decode cX11_then 0 = .ok (.iload_n 1, 1) := by decide +kernel
theorem dX11_then_1 : decode cX11_then 1 = .ok (.iconst 0, 1) := by decide +kernel
theorem dX11_then_2 : decode cX11_then 2 = .ok (.sipush 300, 3) := by decide +kernel
theorem dX11_then_5 : decode cX11_then 5 = .ok (.invokestatic 83, 3) := by decide +kernel
theorem dX11_then_8 : decode cX11_then 8 = .ok (.ifCond .eq 23, 3) := by decide +kernel
theorem dX11_then_11 : decode cX11_then 11 = .ok (.aload_n 0, 1) := by decide +kernel
theorem dX11_then_12 : decode cX11_then 12 = .ok (.getfield 10, 3) := by decide +kernel
theorem dX11_then_15 : decode cX11_then 15 = .ok (.iload_n 2, 1) := by decide +kernel
theorem dX11_then_16 : decode cX11_then 16 = .ok (.invokevirtual 99, 3) := by decide +kernel
theorem dX11_then_19 : decode cX11_then 19 = .ok (.ifCond .eq 12, 3) := by decide +kernel
theorem dX11_then_22 : decode cX11_then 22 = .ok (.iload_n 3, 1) := by decide +kernel
theorem dX11_then_23 : decode cX11_then 23 = .ok (.iconst 0, 1) := by decide +kernel
theorem dX11_then_24 : decode cX11_then 24 = .ok (.iconst 3, 1) := by decide +kernel
theorem dX11_then_25 : decode cX11_then 25 = .ok (.invokestatic 83, 3) := by decide +kernel
theorem dX11_then_28 : decode cX11_then 28 = .ok (.ifCond .ne 9, 3) := by decide +kernel
theorem dX11_then_31 : decode cX11_then 31 = .ok (.aload_n 0, 1) := by decide +kernel
theorem dX11_then_32 : decode cX11_then 32 = .ok (.iconst 1, 1) := by decide +kernel
theorem dX11_then_33 : decode cX11_then 33 = .ok (.invokevirtual 87, 3) := by decide +kernel
theorem dX11_then_36 : decode cX11_then 36 = .ok (.ireturn, 1) := by decide +kernel
theorem dX11_then_37 : decode cX11_then 37 = .ok (.aload_n 0, 1) := by decide +kernel
theorem dX11_then_38 : decode cX11_then 38 = .ok (.getfield 22, 3) := by decide +kernel
theorem dX11_then_41 : decode cX11_then 41 = .ok (.aload_n 0, 1) := by decide +kernel
theorem dX11_then_42 : decode cX11_then 42 = .ok (.getfield 10, 3) := by decide +kernel
theorem dX11_then_45 : decode cX11_then 45 = .ok (.getfield 111, 3) := by decide +kernel
theorem dX11_then_48 : decode cX11_then 48 = .ok (.invokevirtual 210, 3) := by decide +kernel
theorem dX11_then_51 : decode cX11_then 51 = .ok (.aload_n 0, 1) := by decide +kernel
theorem dX11_then_52 : decode cX11_then 52 = .ok (.getfield 10, 3) := by decide +kernel
theorem dX11_then_55 : decode cX11_then 55 = .ok (.aload_n 0, 1) := by decide +kernel
theorem dX11_then_56 : decode cX11_then 56 = .ok (.getfield 22, 3) := by decide +kernel
theorem dX11_then_59 : decode cX11_then 59 = .ok (.iload_n 1, 1) := by decide +kernel
theorem dX11_then_60 : decode cX11_then 60 = .ok (.invokevirtual 201, 3) := by decide +kernel
theorem dX11_then_63 : decode cX11_then 63 = .ok (.iload_n 3, 1) := by decide +kernel
theorem dX11_then_64 : decode cX11_then 64 = .ok (.tableswitch 56 0 2 #[28, 38, 48], 28) := by decide +kernel
theorem dX11_then_92 : decode cX11_then 92 = .ok (.aload_n 0, 1) := by decide +kernel
theorem dX11_then_93 : decode cX11_then 93 = .ok (.getfield 22, 3) := by decide +kernel
theorem dX11_then_96 : decode cX11_then 96 = .ok (.getfield 114, 3) := by decide +kernel
theorem dX11_then_99 : decode cX11_then 99 = .ok (.iload_n 2, 1) := by decide +kernel
theorem dX11_then_100 : decode cX11_then 100 = .ok (.iaload, 1) := by decide +kernel
theorem dX11_then_101 : decode cX11_then 101 = .ok (.ireturn, 1) := by decide +kernel
theorem dX11_then_102 : decode cX11_then 102 = .ok (.aload_n 0, 1) := by decide +kernel
theorem dX11_then_103 : decode cX11_then 103 = .ok (.getfield 22, 3) := by decide +kernel
theorem dX11_then_106 : decode cX11_then 106 = .ok (.getfield 117, 3) := by decide +kernel
theorem dX11_then_109 : decode cX11_then 109 = .ok (.iload_n 2, 1) := by decide +kernel
theorem dX11_then_110 : decode cX11_then 110 = .ok (.iaload, 1) := by decide +kernel
theorem dX11_then_111 : decode cX11_then 111 = .ok (.ireturn, 1) := by decide +kernel
theorem dX11_then_112 : decode cX11_then 112 = .ok (.aload_n 0, 1) := by decide +kernel
theorem dX11_then_113 : decode cX11_then 113 = .ok (.getfield 22, 3) := by decide +kernel
theorem dX11_then_116 : decode cX11_then 116 = .ok (.getfield 204, 3) := by decide +kernel
theorem dX11_then_119 : decode cX11_then 119 = .ok (.ireturn, 1) := by decide +kernel
theorem dX11_then_120 : decode cX11_then 120 = .ok (.aload_n 0, 1) := by decide +kernel
theorem dX11_then_121 : decode cX11_then 121 = .ok (.getfield 22, 3) := by decide +kernel
theorem dX11_then_124 : decode cX11_then 124 = .ok (.getfield 160, 3) := by decide +kernel
theorem dX11_then_127 : decode cX11_then 127 = .ok (.ireturn, 1) := by decide +kernel
theorem dX11_feed_0 : decode cX11_feed 0 = .ok (.iload_n 3, 1) := by decide +kernel
theorem dX11_feed_1 : decode cX11_feed 1 = .ok (.iconst 1, 1) := by decide +kernel
theorem dX11_feed_2 : decode cX11_feed 2 = .ok (.bipush 8, 2) := by decide +kernel
theorem dX11_feed_4 : decode cX11_feed 4 = .ok (.invokestatic 83, 3) := by decide +kernel
theorem dX11_feed_7 : decode cX11_feed 7 = .ok (.ifCond .ne 9, 3) := by decide +kernel
theorem dX11_feed_10 : decode cX11_feed 10 = .ok (.aload_n 0, 1) := by decide +kernel
theorem dX11_feed_11 : decode cX11_feed 11 = .ok (.iconst 1, 1) := by decide +kernel
theorem dX11_feed_12 : decode cX11_feed 12 = .ok (.invokevirtual 87, 3) := by decide +kernel
theorem dX11_feed_15 : decode cX11_feed 15 = .ok (.ireturn, 1) := by decide +kernel
theorem dX11_feed_16 : decode cX11_feed 16 = .ok (.aload_n 0, 1) := by decide +kernel
theorem dX11_feed_17 : decode cX11_feed 17 = .ok (.getfield 10, 3) := by decide +kernel
theorem dX11_feed_20 : decode cX11_feed 20 = .ok (.getfield 214, 3) := by decide +kernel
theorem dX11_feed_23 : decode cX11_feed 23 = .ok (.iload_n 3, 1) := by decide +kernel
theorem dX11_feed_24 : decode cX11_feed 24 = .ok (.iadd, 1) := by decide +kernel
theorem dX11_feed_25 : decode cX11_feed 25 = .ok (.bipush 50, 2) := by decide +kernel
theorem dX11_feed_27 : decode cX11_feed 27 = .ok (.if_icmp .le 9, 3) := by decide +kernel
theorem dX11_feed_30 : decode cX11_feed 30 = .ok (.aload_n 0, 1) := by decide +kernel
theorem dX11_feed_31 : decode cX11_feed 31 = .ok (.iconst 4, 1) := by decide +kernel
theorem dX11_feed_32 : decode cX11_feed 32 = .ok (.invokevirtual 87, 3) := by decide +kernel
theorem dX11_feed_35 : decode cX11_feed 35 = .ok (.ireturn, 1) := by decide +kernel
theorem dX11_feed_36 : decode cX11_feed 36 = .ok (.iconst 0, 1) := by decide +kernel
theorem dX11_feed_37 : decode cX11_feed 37 = .ok (.istore 4, 2) := by decide +kernel
theorem dX11_feed_39 : decode cX11_feed 39 = .ok (.iload 4, 2) := by decide +kernel
theorem dX11_feed_41 : decode cX11_feed 41 = .ok (.iload_n 3, 1) := by decide +kernel
theorem dX11_feed_42 : decode cX11_feed 42 = .ok (.if_icmp .ge 49, 3) := by decide +kernel
theorem dX11_feed_45 : decode cX11_feed 45 = .ok (.aload_n 0, 1) := by decide +kernel
theorem dX11_feed_46 : decode cX11_feed 46 = .ok (.getfield 10, 3) := by decide +kernel
theorem dX11_feed_49 : decode cX11_feed 49 = .ok (.getfield 217, 3) := by decide +kernel
theorem dX11_feed_52 : decode cX11_feed 52 = .ok (.aload_n 0, 1) := by decide +kernel
theorem dX11_feed_53 : decode cX11_feed 53 = .ok (.getfield 10, 3) := by decide +kernel
theorem dX11_feed_56 : decode cX11_feed 56 = .ok (.getfield 214, 3) := by decide +kernel
theorem dX11_feed_59 : decode cX11_feed 59 = .ok (.lload_n 1, 1) := by decide +kernel
theorem dX11_feed_60 : decode cX11_feed 60 = .ok (.bipush 8, 2) := by decide +kernel
theorem dX11_feed_62 : decode cX11_feed 62 = .ok (.iload 4, 2) := by decide +kernel
theorem dX11_feed_64 : decode cX11_feed 64 = .ok (.imul, 1) := by decide +kernel
theorem dX11_feed_65 : decode cX11_feed 65 = .ok (.lushr, 1) := by decide +kernel
theorem dX11_feed_66 : decode cX11_feed 66 = .ok (.l2i, 1) := by decide +kernel
theorem dX11_feed_67 : decode cX11_feed 67 = .ok (.sipush 255, 3) := by decide +kernel
theorem dX11_feed_70 : decode cX11_feed 70 = .ok (.iand, 1) := by decide +kernel
theorem dX11_feed_71 : decode cX11_feed 71 = .ok (.iastore, 1) := by decide +kernel
theorem dX11_feed_72 : decode cX11_feed 72 = .ok (.aload_n 0, 1) := by decide +kernel
theorem dX11_feed_73 : decode cX11_feed 73 = .ok (.getfield 10, 3) := by decide +kernel
theorem dX11_feed_76 : decode cX11_feed 76 = .ok (.dup, 1) := by decide +kernel
theorem dX11_feed_77 : decode cX11_feed 77 = .ok (.getfield 214, 3) := by decide +kernel
theorem dX11_feed_80 : decode cX11_feed 80 = .ok (.iconst 1, 1) := by decide +kernel
theorem dX11_feed_81 : decode cX11_feed 81 = .ok (.iadd, 1) := by decide +kernel
theorem dX11_feed_82 : decode cX11_feed 82 = .ok (.putfield 214, 3) := by decide +kernel
theorem dX11_feed_85 : decode cX11_feed 85 = .ok (.iinc 4 1, 3) := by decide +kernel
theorem dX11_feed_88 : decode cX11_feed 88 = .ok (.goto (-49), 3) := by decide +kernel
theorem dX11_feed_91 : decode cX11_feed 91 = .ok (.aload_n 0, 1) := by decide +kernel
theorem dX11_feed_92 : decode cX11_feed 92 = .ok (.getfield 10, 3) := by decide +kernel
theorem dX11_feed_95 : decode cX11_feed 95 = .ok (.getfield 214, 3) := by decide +kernel
theorem dX11_feed_98 : decode cX11_feed 98 = .ok (.ireturn, 1) := by decide +kernel
theorem dX11_text_0 : decode cX11_text 0 = .ok (.iload_n 1, 1) := by decide +kernel
theorem dX11_text_1 : decode cX11_text 1 = .ok (.iconst 0, 1) := by decide +kernel
theorem dX11_text_2 : decode cX11_text 2 = .ok (.iconst 1, 1) := by decide +kernel
theorem dX11_text_3 : decode cX11_text 3 = .ok (.invokestatic 83, 3) := by decide +kernel
theorem dX11_text_6 : decode cX11_text 6 = .ok (.ifCond .ne 9, 3) := by decide +kernel
theorem dX11_text_9 : decode cX11_text 9 = .ok (.aload_n 0, 1) := by decide +kernel
theorem dX11_text_10 : decode cX11_text 10 = .ok (.iconst 1, 1) := by decide +kernel
theorem dX11_text_11 : decode cX11_text 11 = .ok (.invokevirtual 87, 3) := by decide +kernel
theorem dX11_text_14 : decode cX11_text 14 = .ok (.ireturn, 1) := by decide +kernel
theorem dX11_text_15 : decode cX11_text 15 = .ok (.aload_n 0, 1) := by decide +kernel
theorem dX11_text_16 : decode cX11_text 16 = .ok (.getfield 29, 3) := by decide +kernel
theorem dX11_text_19 : decode cX11_text 19 = .ok (.aload_n 0, 1) := by decide +kernel
theorem dX11_text_20 : decode cX11_text 20 = .ok (.getfield 10, 3) := by decide +kernel
theorem dX11_text_23 : decode cX11_text 23 = .ok (.getfield 217, 3) := by decide +kernel
theorem dX11_text_26 : decode cX11_text 26 = .ok (.aload_n 0, 1) := by decide +kernel
theorem dX11_text_27 : decode cX11_text 27 = .ok (.getfield 10, 3) := by decide +kernel
theorem dX11_text_30 : decode cX11_text 30 = .ok (.getfield 214, 3) := by decide +kernel
theorem dX11_text_33 : decode cX11_text 33 = .ok (.iload_n 1, 1) := by decide +kernel
theorem dX11_text_34 : decode cX11_text 34 = .ok (.invokevirtual 220, 3) := by decide +kernel
theorem dX11_text_37 : decode cX11_text 37 = .ok (.istore_n 2, 1) := by decide +kernel
theorem dX11_text_38 : decode cX11_text 38 = .ok (.aload_n 0, 1) := by decide +kernel
theorem dX11_text_39 : decode cX11_text 39 = .ok (.getfield 10, 3) := by decide +kernel
theorem dX11_text_42 : decode cX11_text 42 = .ok (.iconst 0, 1) := by decide +kernel
theorem dX11_text_43 : decode cX11_text 43 = .ok (.putfield 214, 3) := by decide +kernel
theorem dX11_text_46 : decode cX11_text 46 = .ok (.iload_n 2, 1) := by decide +kernel
theorem dX11_text_47 : decode cX11_text 47 = .ok (.iconst (-1), 1) := by decide +kernel
theorem dX11_text_48 : decode cX11_text 48 = .ok (.if_icmp .eq 8, 3) := by decide +kernel
theorem dX11_text_51 : decode cX11_text 51 = .ok (.bipush (-10), 2) := by decide +kernel
theorem dX11_text_53 : decode cX11_text 53 = .ok (.iload_n 2, 1) := by decide +kernel
theorem dX11_text_54 : decode cX11_text 54 = .ok (.isub, 1) := by decide +kernel
theorem dX11_text_55 : decode cX11_text 55 = .ok (.ireturn, 1) := by decide +kernel
theorem dX11_text_56 : decode cX11_text 56 = .ok (.iload_n 1, 1) := by decide +kernel
theorem dX11_text_57 : decode cX11_text 57 = .ok (.ifCond .ne 13, 3) := by decide +kernel
theorem dX11_text_60 : decode cX11_text 60 = .ok (.aload_n 0, 1) := by decide +kernel
theorem dX11_text_61 : decode cX11_text 61 = .ok (.getfield 10, 3) := by decide +kernel
theorem dX11_text_64 : decode cX11_text 64 = .ok (.getfield 224, 3) := by decide +kernel
theorem dX11_text_67 : decode cX11_text 67 = .ok (.goto 10, 3) := by decide +kernel
theorem dX11_text_70 : decode cX11_text 70 = .ok (.aload_n 0, 1) := by decide +kernel
theorem dX11_text_71 : decode cX11_text 71 = .ok (.getfield 10, 3) := by decide +kernel
theorem dX11_text_74 : decode cX11_text 74 = .ok (.getfield 228, 3) := by decide +kernel
theorem dX11_text_77 : decode cX11_text 77 = .ok (.aload_n 0, 1) := by decide +kernel
theorem dX11_text_78 : decode cX11_text 78 = .ok (.getfield 29, 3) := by decide +kernel
theorem dX11_text_81 : decode cX11_text 81 = .ok (.getfield 231, 3) := by decide +kernel
theorem dX11_text_84 : decode cX11_text 84 = .ok (.invokevirtual 234, 3) := by decide +kernel
theorem dX11_text_87 : decode cX11_text 87 = .ok (.iconst 1, 1) := by decide +kernel
theorem dX11_text_88 : decode cX11_text 88 = .ok (.ireturn, 1) := by decide +kernel
theorem dX11_law_0 : decode cX11_law 0 = .ok (.iload_n 1, 1) := by decide +kernel
theorem dX11_law_1 : decode cX11_law 1 = .ok (.iconst 0, 1) := by decide +kernel
theorem dX11_law_2 : decode cX11_law 2 = .ok (.iconst 1, 1) := by decide +kernel
theorem dX11_law_3 : decode cX11_law 3 = .ok (.invokestatic 83, 3) := by decide +kernel
theorem dX11_law_6 : decode cX11_law 6 = .ok (.ifCond .eq 19, 3) := by decide +kernel
theorem dX11_law_9 : decode cX11_law 9 = .ok (.iload_n 1, 1) := by decide +kernel
theorem dX11_law_10 : decode cX11_law 10 = .ok (.iconst 1, 1) := by decide +kernel
theorem dX11_law_11 : decode cX11_law 11 = .ok (.if_icmp .ne 20, 3) := by decide +kernel
theorem dX11_law_14 : decode cX11_law 14 = .ok (.iload_n 2, 1) := by decide +kernel
theorem dX11_law_15 : decode cX11_law 15 = .ok (.iconst 0, 1) := by decide +kernel
theorem dX11_law_16 : decode cX11_law 16 = .ok (.sipush 999, 3) := by decide +kernel
theorem dX11_law_19 : decode cX11_law 19 = .ok (.invokestatic 83, 3) := by decide +kernel
theorem dX11_law_22 : decode cX11_law 22 = .ok (.ifCond .ne 9, 3) := by decide +kernel
theorem dX11_law_25 : decode cX11_law 25 = .ok (.aload_n 0, 1) := by decide +kernel
theorem dX11_law_26 : decode cX11_law 26 = .ok (.iconst 1, 1) := by decide +kernel
theorem dX11_law_27 : decode cX11_law 27 = .ok (.invokevirtual 87, 3) := by decide +kernel
theorem dX11_law_30 : decode cX11_law 30 = .ok (.ireturn, 1) := by decide +kernel
theorem dX11_law_31 : decode cX11_law 31 = .ok (.iload_n 1, 1) := by decide +kernel
theorem dX11_law_32 : decode cX11_law 32 = .ok (.ifCond .ne 17, 3) := by decide +kernel
theorem dX11_law_35 : decode cX11_law 35 = .ok (.aload_n 0, 1) := by decide +kernel
theorem dX11_law_36 : decode cX11_law 36 = .ok (.getfield 10, 3) := by decide +kernel
theorem dX11_law_39 : decode cX11_law 39 = .ok (.iload_n 2, 1) := by decide +kernel
theorem dX11_law_40 : decode cX11_law 40 = .ok (.iload_n 3, 1) := by decide +kernel
theorem dX11_law_41 : decode cX11_law 41 = .ok (.iload 4, 2) := by decide +kernel
theorem dX11_law_43 : decode cX11_law 43 = .ok (.invokevirtual 239, 3) := by decide +kernel
theorem dX11_law_46 : decode cX11_law 46 = .ok (.goto 14, 3) := by decide +kernel
theorem dX11_law_49 : decode cX11_law 49 = .ok (.aload_n 0, 1) := by decide +kernel
theorem dX11_law_50 : decode cX11_law 50 = .ok (.getfield 10, 3) := by decide +kernel
theorem dX11_law_53 : decode cX11_law 53 = .ok (.iload_n 2, 1) := by decide +kernel
theorem dX11_law_54 : decode cX11_law 54 = .ok (.iload_n 3, 1) := by decide +kernel
theorem dX11_law_55 : decode cX11_law 55 = .ok (.iload 4, 2) := by decide +kernel
theorem dX11_law_57 : decode cX11_law 57 = .ok (.invokevirtual 243, 3) := by decide +kernel
theorem dX11_law_60 : decode cX11_law 60 = .ok (.ireturn, 1) := by decide +kernel
theorem dX11_best_0 : decode cX11_best 0 = .ok (.iload_n 1, 1) := by decide +kernel
theorem dX11_best_1 : decode cX11_best 1 = .ok (.iconst 1, 1) := by decide +kernel
theorem dX11_best_2 : decode cX11_best 2 = .ok (.aload_n 0, 1) := by decide +kernel
theorem dX11_best_3 : decode cX11_best 3 = .ok (.getfield 10, 3) := by decide +kernel
theorem dX11_best_6 : decode cX11_best 6 = .ok (.invokevirtual 246, 3) := by decide +kernel
theorem dX11_best_9 : decode cX11_best 9 = .ok (.iconst 1, 1) := by decide +kernel
theorem dX11_best_10 : decode cX11_best 10 = .ok (.isub, 1) := by decide +kernel
theorem dX11_best_11 : decode cX11_best 11 = .ok (.invokestatic 83, 3) := by decide +kernel
theorem dX11_best_14 : decode cX11_best 14 = .ok (.ifCond .eq 13, 3) := by decide +kernel
theorem dX11_best_17 : decode cX11_best 17 = .ok (.iload_n 2, 1) := by decide +kernel
theorem dX11_best_18 : decode cX11_best 18 = .ok (.bipush (-2), 2) := by decide +kernel
theorem dX11_best_20 : decode cX11_best 20 = .ok (.iconst 4, 1) := by decide +kernel
theorem dX11_best_21 : decode cX11_best 21 = .ok (.invokestatic 83, 3) := by decide +kernel
theorem dX11_best_24 : decode cX11_best 24 = .ok (.ifCond .ne 9, 3) := by decide +kernel
theorem dX11_best_27 : decode cX11_best 27 = .ok (.aload_n 0, 1) := by decide +kernel
theorem dX11_best_28 : decode cX11_best 28 = .ok (.iconst 1, 1) := by decide +kernel
theorem dX11_best_29 : decode cX11_best 29 = .ok (.invokevirtual 87, 3) := by decide +kernel
theorem dX11_best_32 : decode cX11_best 32 = .ok (.ireturn, 1) := by decide +kernel
theorem dX11_best_33 : decode cX11_best 33 = .ok (.aload_n 0, 1) := by decide +kernel
theorem dX11_best_34 : decode cX11_best 34 = .ok (.getfield 36, 3) := by decide +kernel
theorem dX11_best_37 : decode cX11_best 37 = .ok (.aload_n 0, 1) := by decide +kernel
theorem dX11_best_38 : decode cX11_best 38 = .ok (.getfield 10, 3) := by decide +kernel
theorem dX11_best_41 : decode cX11_best 41 = .ok (.iload_n 1, 1) := by decide +kernel
theorem dX11_best_42 : decode cX11_best 42 = .ok (.invokevirtual 250, 3) := by decide +kernel
theorem dX11_best_45 : decode cX11_best 45 = .ok (.iload_n 2, 1) := by decide +kernel
theorem dX11_best_46 : decode cX11_best 46 = .ok (.bipush (-2), 2) := by decide +kernel
theorem dX11_best_48 : decode cX11_best 48 = .ok (.if_icmp .ne 11, 3) := by decide +kernel
theorem dX11_best_51 : decode cX11_best 51 = .ok (.aload_n 0, 1) := by decide +kernel
theorem dX11_best_52 : decode cX11_best 52 = .ok (.getfield 36, 3) := by decide +kernel
theorem dX11_best_55 : decode cX11_best 55 = .ok (.getfield 254, 3) := by decide +kernel
theorem dX11_best_58 : decode cX11_best 58 = .ok (.ireturn, 1) := by decide +kernel
theorem dX11_best_59 : decode cX11_best 59 = .ok (.iload_n 2, 1) := by decide +kernel
theorem dX11_best_60 : decode cX11_best 60 = .ok (.iconst (-1), 1) := by decide +kernel
theorem dX11_best_61 : decode cX11_best 61 = .ok (.if_icmp .ne 11, 3) := by decide +kernel
theorem dX11_best_64 : decode cX11_best 64 = .ok (.aload_n 0, 1) := by decide +kernel
theorem dX11_best_65 : decode cX11_best 65 = .ok (.getfield 36, 3) := by decide +kernel
theorem dX11_best_68 : decode cX11_best 68 = .ok (.getfield 257, 3) := by decide +kernel
theorem dX11_best_71 : decode cX11_best 71 = .ok (.ireturn, 1) := by decide +kernel
theorem dX11_best_72 : decode cX11_best 72 = .ok (.iload_n 2, 1) := by decide +kernel
theorem dX11_best_73 : decode cX11_best 73 = .ok (.aload_n 0, 1) := by decide +kernel
theorem dX11_best_74 : decode cX11_best 74 = .ok (.getfield 36, 3) := by decide +kernel
theorem dX11_best_77 : decode cX11_best 77 = .ok (.getfield 257, 3) := by decide +kernel
theorem dX11_best_80 : decode cX11_best 80 = .ok (.if_icmp .ge 15, 3) := by decide +kernel
theorem dX11_best_83 : decode cX11_best 83 = .ok (.aload_n 0, 1) := by decide +kernel
theorem dX11_best_84 : decode cX11_best 84 = .ok (.getfield 36, 3) := by decide +kernel
theorem dX11_best_87 : decode cX11_best 87 = .ok (.getfield 260, 3) := by decide +kernel
theorem dX11_best_90 : decode cX11_best 90 = .ok (.iload_n 2, 1) := by decide +kernel
theorem dX11_best_91 : decode cX11_best 91 = .ok (.iaload, 1) := by decide +kernel
theorem dX11_best_92 : decode cX11_best 92 = .ok (.goto 8, 3) := by decide +kernel
theorem dX11_best_95 : decode cX11_best 95 = .ok (.aload_n 0, 1) := by decide +kernel
theorem dX11_best_96 : decode cX11_best 96 = .ok (.iconst 2, 1) := by decide +kernel
theorem dX11_best_97 : decode cX11_best 97 = .ok (.invokevirtual 87, 3) := by decide +kernel
theorem dX11_best_100 : decode cX11_best 100 = .ok (.ireturn, 1) := by decide +kernel
theorem dX11_share_0 : decode cX11_share 0 = .ok (.aload_n 0, 1) := by decide +kernel
theorem dX11_share_1 : decode cX11_share 1 = .ok (.getfield 10, 3) := by decide +kernel
theorem dX11_share_4 : decode cX11_share 4 = .ok (.iload_n 1, 1) := by decide +kernel
theorem dX11_share_5 : decode cX11_share 5 = .ok (.invokevirtual 99, 3) := by decide +kernel
theorem dX11_share_8 : decode cX11_share 8 = .ok (.ifCond .eq 12, 3) := by decide +kernel
theorem dX11_share_11 : decode cX11_share 11 = .ok (.iload_n 2, 1) := by decide +kernel
theorem dX11_share_12 : decode cX11_share 12 = .ok (.iconst 0, 1) := by decide +kernel
theorem dX11_share_13 : decode cX11_share 13 = .ok (.iconst 1, 1) := by decide +kernel
theorem dX11_share_14 : decode cX11_share 14 = .ok (.invokestatic 83, 3) := by decide +kernel
theorem dX11_share_17 : decode cX11_share 17 = .ok (.ifCond .ne 10, 3) := by decide +kernel
theorem dX11_share_20 : decode cX11_share 20 = .ok (.aload_n 0, 1) := by decide +kernel
theorem dX11_share_21 : decode cX11_share 21 = .ok (.iconst 1, 1) := by decide +kernel
theorem dX11_share_22 : decode cX11_share 22 = .ok (.invokevirtual 87, 3) := by decide +kernel
theorem dX11_share_25 : decode cX11_share 25 = .ok (.i2l, 1) := by decide +kernel
theorem dX11_share_26 : decode cX11_share 26 = .ok (.lreturn, 1) := by decide +kernel
theorem dX11_share_27 : decode cX11_share 27 = .ok (.aload_n 0, 1) := by decide +kernel
theorem dX11_share_28 : decode cX11_share 28 = .ok (.getfield 43, 3) := by decide +kernel
theorem dX11_share_31 : decode cX11_share 31 = .ok (.aload_n 0, 1) := by decide +kernel
theorem dX11_share_32 : decode cX11_share 32 = .ok (.getfield 10, 3) := by decide +kernel
theorem dX11_share_35 : decode cX11_share 35 = .ok (.aload_n 0, 1) := by decide +kernel
theorem dX11_share_36 : decode cX11_share 36 = .ok (.getfield 36, 3) := by decide +kernel
theorem dX11_share_39 : decode cX11_share 39 = .ok (.invokevirtual 263, 3) := by decide +kernel
theorem dX11_share_42 : decode cX11_share 42 = .ok (.aload_n 0, 1) := by decide +kernel
theorem dX11_share_43 : decode cX11_share 43 = .ok (.getfield 43, 3) := by decide +kernel
theorem dX11_share_46 : decode cX11_share 46 = .ok (.getfield 267, 3) := by decide +kernel
theorem dX11_share_49 : decode cX11_share 49 = .ok (.iload_n 1, 1) := by decide +kernel
theorem dX11_share_50 : decode cX11_share 50 = .ok (.iaload, 1) := by decide +kernel
theorem dX11_share_51 : decode cX11_share 51 = .ok (.i2l, 1) := by decide +kernel
theorem dX11_share_52 : decode cX11_share 52 = .ok (.aload_n 0, 1) := by decide +kernel
theorem dX11_share_53 : decode cX11_share 53 = .ok (.getfield 43, 3) := by decide +kernel
theorem dX11_share_56 : decode cX11_share 56 = .ok (.getfield 270, 3) := by decide +kernel
theorem dX11_share_59 : decode cX11_share 59 = .ok (.i2l, 1) := by decide +kernel
theorem dX11_share_60 : decode cX11_share 60 = .ok (.iload_n 2, 1) := by decide +kernel
theorem dX11_share_61 : decode cX11_share 61 = .ok (.invokestatic 273, 3) := by decide +kernel
theorem dX11_share_64 : decode cX11_share 64 = .ok (.lreturn, 1) := by decide +kernel
theorem dX11_leaves_0 : decode cX11_leaves 0 = .ok (.aload_n 0, 1) := by decide +kernel
theorem dX11_leaves_1 : decode cX11_leaves 1 = .ok (.getfield 43, 3) := by decide +kernel
theorem dX11_leaves_4 : decode cX11_leaves 4 = .ok (.aload_n 0, 1) := by decide +kernel
theorem dX11_leaves_5 : decode cX11_leaves 5 = .ok (.getfield 10, 3) := by decide +kernel
theorem dX11_leaves_8 : decode cX11_leaves 8 = .ok (.aload_n 0, 1) := by decide +kernel
theorem dX11_leaves_9 : decode cX11_leaves 9 = .ok (.getfield 36, 3) := by decide +kernel
theorem dX11_leaves_12 : decode cX11_leaves 12 = .ok (.invokevirtual 263, 3) := by decide +kernel
theorem dX11_leaves_15 : decode cX11_leaves 15 = .ok (.aload_n 0, 1) := by decide +kernel
theorem dX11_leaves_16 : decode cX11_leaves 16 = .ok (.getfield 43, 3) := by decide +kernel
theorem dX11_leaves_19 : decode cX11_leaves 19 = .ok (.invokevirtual 277, 3) := by decide +kernel
theorem dX11_leaves_22 : decode cX11_leaves 22 = .ok (.istore_n 1, 1) := by decide +kernel
theorem dX11_leaves_23 : decode cX11_leaves 23 = .ok (.iload_n 1, 1) := by decide +kernel
theorem dX11_leaves_24 : decode cX11_leaves 24 = .ok (.ifCond .ne 11, 3) := by decide +kernel
theorem dX11_leaves_27 : decode cX11_leaves 27 = .ok (.aload_n 0, 1) := by decide +kernel
theorem dX11_leaves_28 : decode cX11_leaves 28 = .ok (.iconst 2, 1) := by decide +kernel
theorem dX11_leaves_29 : decode cX11_leaves 29 = .ok (.invokevirtual 87, 3) := by decide +kernel
theorem dX11_leaves_32 : decode cX11_leaves 32 = .ok (.goto 4, 3) := by decide +kernel
theorem dX11_leaves_35 : decode cX11_leaves 35 = .ok (.iload_n 1, 1) := by decide +kernel
theorem dX11_leaves_36 : decode cX11_leaves 36 = .ok (.ireturn, 1) := by decide +kernel
theorem dX11_game_0 : decode cX11_game 0 = .ok (.aload_n 0, 1) := by decide +kernel
theorem dX11_game_1 : decode cX11_game 1 = .ok (.iload_n 1, 1) := by decide +kernel
theorem dX11_game_2 : decode cX11_game 2 = .ok (.iload_n 2, 1) := by decide +kernel
theorem dX11_game_3 : decode cX11_game 3 = .ok (.invokevirtual 168, 3) := by decide +kernel
theorem dX11_game_6 : decode cX11_game 6 = .ok (.ifCond .eq 22, 3) := by decide +kernel
theorem dX11_game_9 : decode cX11_game 9 = .ok (.iload_n 3, 1) := by decide +kernel
theorem dX11_game_10 : decode cX11_game 10 = .ok (.iconst 1, 1) := by decide +kernel
theorem dX11_game_11 : decode cX11_game 11 = .ok (.iconst 4, 1) := by decide +kernel
theorem dX11_game_12 : decode cX11_game 12 = .ok (.invokestatic 83, 3) := by decide +kernel
theorem dX11_game_15 : decode cX11_game 15 = .ok (.ifCond .eq 13, 3) := by decide +kernel
theorem dX11_game_18 : decode cX11_game 18 = .ok (.iload 4, 2) := by decide +kernel
theorem dX11_game_20 : decode cX11_game 20 = .ok (.iconst 0, 1) := by decide +kernel
theorem dX11_game_21 : decode cX11_game 21 = .ok (.iconst 1, 1) := by decide +kernel
theorem dX11_game_22 : decode cX11_game 22 = .ok (.invokestatic 83, 3) := by decide +kernel
theorem dX11_game_25 : decode cX11_game 25 = .ok (.ifCond .ne 9, 3) := by decide +kernel
theorem dX11_game_28 : decode cX11_game 28 = .ok (.aload_n 0, 1) := by decide +kernel
theorem dX11_game_29 : decode cX11_game 29 = .ok (.iconst 1, 1) := by decide +kernel
theorem dX11_game_30 : decode cX11_game 30 = .ok (.invokevirtual 87, 3) := by decide +kernel
theorem dX11_game_33 : decode cX11_game 33 = .ok (.ireturn, 1) := by decide +kernel
theorem dX11_game_34 : decode cX11_game 34 = .ok (.aload_n 0, 1) := by decide +kernel
theorem dX11_game_35 : decode cX11_game 35 = .ok (.getfield 50, 3) := by decide +kernel
theorem dX11_game_38 : decode cX11_game 38 = .ok (.aload_n 0, 1) := by decide +kernel
theorem dX11_game_39 : decode cX11_game 39 = .ok (.getfield 10, 3) := by decide +kernel
theorem dX11_game_42 : decode cX11_game 42 = .ok (.iload_n 1, 1) := by decide +kernel
theorem dX11_game_43 : decode cX11_game 43 = .ok (.iload_n 2, 1) := by decide +kernel
theorem dX11_game_44 : decode cX11_game 44 = .ok (.iload_n 3, 1) := by decide +kernel
theorem dX11_game_45 : decode cX11_game 45 = .ok (.invokevirtual 280, 3) := by decide +kernel
theorem dX11_game_48 : decode cX11_game 48 = .ok (.istore 5, 2) := by decide +kernel
theorem dX11_game_50 : decode cX11_game 50 = .ok (.iload 4, 2) := by decide +kernel
theorem dX11_game_52 : decode cX11_game 52 = .ok (.ifCond .ne 8, 3) := by decide +kernel
theorem dX11_game_55 : decode cX11_game 55 = .ok (.iload 5, 2) := by decide +kernel
theorem dX11_game_57 : decode cX11_game 57 = .ok (.goto 10, 3) := by decide +kernel
theorem dX11_game_60 : decode cX11_game 60 = .ok (.aload_n 0, 1) := by decide +kernel
theorem dX11_game_61 : decode cX11_game 61 = .ok (.getfield 50, 3) := by decide +kernel
theorem dX11_game_64 : decode cX11_game 64 = .ok (.getfield 284, 3) := by decide +kernel
theorem dX11_game_67 : decode cX11_game 67 = .ok (.ireturn, 1) := by decide +kernel
theorem dX11_odds_0 : decode cX11_odds 0 = .ok (.aload_n 0, 1) := by decide +kernel
theorem dX11_odds_1 : decode cX11_odds 1 = .ok (.iload_n 1, 1) := by decide +kernel
theorem dX11_odds_2 : decode cX11_odds 2 = .ok (.iload_n 2, 1) := by decide +kernel
theorem dX11_odds_3 : decode cX11_odds 3 = .ok (.invokevirtual 168, 3) := by decide +kernel
theorem dX11_odds_6 : decode cX11_odds 6 = .ok (.ifCond .eq 23, 3) := by decide +kernel
theorem dX11_odds_9 : decode cX11_odds 9 = .ok (.iload_n 3, 1) := by decide +kernel
theorem dX11_odds_10 : decode cX11_odds 10 = .ok (.iconst 0, 1) := by decide +kernel
theorem dX11_odds_11 : decode cX11_odds 11 = .ok (.bipush 16, 2) := by decide +kernel
theorem dX11_odds_13 : decode cX11_odds 13 = .ok (.invokestatic 83, 3) := by decide +kernel
theorem dX11_odds_16 : decode cX11_odds 16 = .ok (.ifCond .eq 13, 3) := by decide +kernel
theorem dX11_odds_19 : decode cX11_odds 19 = .ok (.iload 4, 2) := by decide +kernel
theorem dX11_odds_21 : decode cX11_odds 21 = .ok (.iconst 0, 1) := by decide +kernel
theorem dX11_odds_22 : decode cX11_odds 22 = .ok (.iconst 1, 1) := by decide +kernel
theorem dX11_odds_23 : decode cX11_odds 23 = .ok (.invokestatic 83, 3) := by decide +kernel
theorem dX11_odds_26 : decode cX11_odds 26 = .ok (.ifCond .ne 10, 3) := by decide +kernel
theorem dX11_odds_29 : decode cX11_odds 29 = .ok (.aload_n 0, 1) := by decide +kernel
theorem dX11_odds_30 : decode cX11_odds 30 = .ok (.iconst 1, 1) := by decide +kernel
theorem dX11_odds_31 : decode cX11_odds 31 = .ok (.invokevirtual 87, 3) := by decide +kernel
theorem dX11_odds_34 : decode cX11_odds 34 = .ok (.i2l, 1) := by decide +kernel
theorem dX11_odds_35 : decode cX11_odds 35 = .ok (.lreturn, 1) := by decide +kernel
theorem dX11_odds_36 : decode cX11_odds 36 = .ok (.aload_n 0, 1) := by decide +kernel
theorem dX11_odds_37 : decode cX11_odds 37 = .ok (.getfield 57, 3) := by decide +kernel
theorem dX11_odds_40 : decode cX11_odds 40 = .ok (.aload_n 0, 1) := by decide +kernel
theorem dX11_odds_41 : decode cX11_odds 41 = .ok (.getfield 10, 3) := by decide +kernel
theorem dX11_odds_44 : decode cX11_odds 44 = .ok (.iload_n 1, 1) := by decide +kernel
theorem dX11_odds_45 : decode cX11_odds 45 = .ok (.iload_n 2, 1) := by decide +kernel
theorem dX11_odds_46 : decode cX11_odds 46 = .ok (.iload_n 3, 1) := by decide +kernel
theorem dX11_odds_47 : decode cX11_odds 47 = .ok (.invokevirtual 287, 3) := by decide +kernel
theorem dX11_odds_50 : decode cX11_odds 50 = .ok (.aload_n 0, 1) := by decide +kernel
theorem dX11_odds_51 : decode cX11_odds 51 = .ok (.getfield 57, 3) := by decide +kernel
theorem dX11_odds_54 : decode cX11_odds 54 = .ok (.getfield 290, 3) := by decide +kernel
theorem dX11_odds_57 : decode cX11_odds 57 = .ok (.aload_n 0, 1) := by decide +kernel
theorem dX11_odds_58 : decode cX11_odds 58 = .ok (.getfield 57, 3) := by decide +kernel
theorem dX11_odds_61 : decode cX11_odds 61 = .ok (.getfield 293, 3) := by decide +kernel
theorem dX11_odds_64 : decode cX11_odds 64 = .ok (.iload 4, 2) := by decide +kernel
theorem dX11_odds_66 : decode cX11_odds 66 = .ok (.invokestatic 273, 3) := by decide +kernel
theorem dX11_odds_69 : decode cX11_odds 69 = .ok (.lreturn, 1) := by decide +kernel
theorem dX11_carried_0 : decode cX11_carried 0 = .ok (.aload_n 0, 1) := by decide +kernel
theorem dX11_carried_1 : decode cX11_carried 1 = .ok (.getfield 10, 3) := by decide +kernel
theorem dX11_carried_4 : decode cX11_carried 4 = .ok (.iload_n 1, 1) := by decide +kernel
theorem dX11_carried_5 : decode cX11_carried 5 = .ok (.invokevirtual 99, 3) := by decide +kernel
theorem dX11_carried_8 : decode cX11_carried 8 = .ok (.ifCond .eq 34, 3) := by decide +kernel
theorem dX11_carried_11 : decode cX11_carried 11 = .ok (.iload_n 2, 1) := by decide +kernel
theorem dX11_carried_12 : decode cX11_carried 12 = .ok (.iconst 1, 1) := by decide +kernel
theorem dX11_carried_13 : decode cX11_carried 13 = .ok (.sipush 9999, 3) := by decide +kernel
theorem dX11_carried_16 : decode cX11_carried 16 = .ok (.invokestatic 83, 3) := by decide +kernel
theorem dX11_carried_19 : decode cX11_carried 19 = .ok (.ifCond .eq 23, 3) := by decide +kernel
theorem dX11_carried_22 : decode cX11_carried 22 = .ok (.iload_n 3, 1) := by decide +kernel
theorem dX11_carried_23 : decode cX11_carried 23 = .ok (.iconst 1, 1) := by decide +kernel
theorem dX11_carried_24 : decode cX11_carried 24 = .ok (.bipush 99, 2) := by decide +kernel
theorem dX11_carried_26 : decode cX11_carried 26 = .ok (.invokestatic 83, 3) := by decide +kernel
theorem dX11_carried_29 : decode cX11_carried 29 = .ok (.ifCond .eq 13, 3) := by decide +kernel
theorem dX11_carried_32 : decode cX11_carried 32 = .ok (.iload 4, 2) := by decide +kernel
theorem dX11_carried_34 : decode cX11_carried 34 = .ok (.iconst 0, 1) := by decide +kernel
theorem dX11_carried_35 : decode cX11_carried 35 = .ok (.iconst 1, 1) := by decide +kernel
theorem dX11_carried_36 : decode cX11_carried 36 = .ok (.invokestatic 83, 3) := by decide +kernel
theorem dX11_carried_39 : decode cX11_carried 39 = .ok (.ifCond .ne 9, 3) := by decide +kernel
theorem dX11_carried_42 : decode cX11_carried 42 = .ok (.aload_n 0, 1) := by decide +kernel
theorem dX11_carried_43 : decode cX11_carried 43 = .ok (.iconst 1, 1) := by decide +kernel
theorem dX11_carried_44 : decode cX11_carried 44 = .ok (.invokevirtual 87, 3) := by decide +kernel
theorem dX11_carried_47 : decode cX11_carried 47 = .ok (.ireturn, 1) := by decide +kernel
theorem dX11_carried_48 : decode cX11_carried 48 = .ok (.iconst 0, 1) := by decide +kernel
theorem dX11_carried_49 : decode cX11_carried 49 = .ok (.istore 5, 2) := by decide +kernel
theorem dX11_carried_51 : decode cX11_carried 51 = .ok (.iconst (-1), 1) := by decide +kernel
theorem dX11_carried_52 : decode cX11_carried 52 = .ok (.istore 6, 2) := by decide +kernel
theorem dX11_carried_54 : decode cX11_carried 54 = .ok (.iconst 1, 1) := by decide +kernel
theorem dX11_carried_55 : decode cX11_carried 55 = .ok (.istore 7, 2) := by decide +kernel
theorem dX11_carried_57 : decode cX11_carried 57 = .ok (.iload 7, 2) := by decide +kernel
theorem dX11_carried_59 : decode cX11_carried 59 = .ok (.aload_n 0, 1) := by decide +kernel
theorem dX11_carried_60 : decode cX11_carried 60 = .ok (.getfield 10, 3) := by decide +kernel
theorem dX11_carried_63 : decode cX11_carried 63 = .ok (.getfield 108, 3) := by decide +kernel
theorem dX11_carried_66 : decode cX11_carried 66 = .ok (.iload_n 1, 1) := by decide +kernel
theorem dX11_carried_67 : decode cX11_carried 67 = .ok (.iaload, 1) := by decide +kernel
theorem dX11_carried_68 : decode cX11_carried 68 = .ok (.if_icmp .gt 75, 3) := by decide +kernel
theorem dX11_carried_71 : decode cX11_carried 71 = .ok (.iload_n 2, 1) := by decide +kernel
theorem dX11_carried_72 : decode cX11_carried 72 = .ok (.iload_n 3, 1) := by decide +kernel
theorem dX11_carried_73 : decode cX11_carried 73 = .ok (.iconst 2, 1) := by decide +kernel
theorem dX11_carried_74 : decode cX11_carried 74 = .ok (.iload 7, 2) := by decide +kernel
theorem dX11_carried_76 : decode cX11_carried 76 = .ok (.bipush 20, 2) := by decide +kernel
theorem dX11_carried_78 : decode cX11_carried 78 = .ok (.idiv, 1) := by decide +kernel
theorem dX11_carried_79 : decode cX11_carried 79 = .ok (.iadd, 1) := by decide +kernel
theorem dX11_carried_80 : decode cX11_carried 80 = .ok (.imul, 1) := by decide +kernel
theorem dX11_carried_81 : decode cX11_carried 81 = .ok (.invokestatic 296, 3) := by decide +kernel
theorem dX11_carried_84 : decode cX11_carried 84 = .ok (.istore 8, 2) := by decide +kernel
theorem dX11_carried_86 : decode cX11_carried 86 = .ok (.iload 8, 2) := by decide +kernel
theorem dX11_carried_88 : decode cX11_carried 88 = .ok (.ifCond .ne 7, 3) := by decide +kernel
theorem dX11_carried_91 : decode cX11_carried 91 = .ok (.iconst 0, 1) := by decide +kernel
theorem dX11_carried_92 : decode cX11_carried 92 = .ok (.goto 28, 3) := by decide +kernel
theorem dX11_carried_95 : decode cX11_carried 95 = .ok (.iload 8, 2) := by decide +kernel
theorem dX11_carried_97 : decode cX11_carried 97 = .ok (.iload 7, 2) := by decide +kernel
theorem dX11_carried_99 : decode cX11_carried 99 = .ok (.aload_n 0, 1) := by decide +kernel
theorem dX11_carried_100 : decode cX11_carried 100 = .ok (.getfield 10, 3) := by decide +kernel
theorem dX11_carried_103 : decode cX11_carried 103 = .ok (.iload 7, 2) := by decide +kernel
theorem dX11_carried_105 : decode cX11_carried 105 = .ok (.iload_n 3, 1) := by decide +kernel
theorem dX11_carried_106 : decode cX11_carried 106 = .ok (.aload_n 0, 1) := by decide +kernel
theorem dX11_carried_107 : decode cX11_carried 107 = .ok (.getfield 10, 3) := by decide +kernel
theorem dX11_carried_110 : decode cX11_carried 110 = .ok (.getfield 105, 3) := by decide +kernel
theorem dX11_carried_113 : decode cX11_carried 113 = .ok (.iload_n 1, 1) := by decide +kernel
theorem dX11_carried_114 : decode cX11_carried 114 = .ok (.iaload, 1) := by decide +kernel
theorem dX11_carried_115 : decode cX11_carried 115 = .ok (.invokevirtual 243, 3) := by decide +kernel
theorem dX11_carried_118 : decode cX11_carried 118 = .ok (.isub, 1) := by decide +kernel
theorem dX11_carried_119 : decode cX11_carried 119 = .ok (.imul, 1) := by decide +kernel
theorem dX11_carried_120 : decode cX11_carried 120 = .ok (.istore 9, 2) := by decide +kernel
theorem dX11_carried_122 : decode cX11_carried 122 = .ok (.iload 9, 2) := by decide +kernel
theorem dX11_carried_124 : decode cX11_carried 124 = .ok (.iload 6, 2) := by decide +kernel
theorem dX11_carried_126 : decode cX11_carried 126 = .ok (.if_icmp .le 11, 3) := by decide +kernel
theorem dX11_carried_129 : decode cX11_carried 129 = .ok (.iload 9, 2) := by decide +kernel
theorem dX11_carried_131 : decode cX11_carried 131 = .ok (.istore 6, 2) := by decide +kernel
theorem dX11_carried_133 : decode cX11_carried 133 = .ok (.iload 7, 2) := by decide +kernel
theorem dX11_carried_135 : decode cX11_carried 135 = .ok (.istore 5, 2) := by decide +kernel
theorem dX11_carried_137 : decode cX11_carried 137 = .ok (.iinc 7 1, 3) := by decide +kernel
theorem dX11_carried_140 : decode cX11_carried 140 = .ok (.goto (-83), 3) := by decide +kernel
theorem dX11_carried_143 : decode cX11_carried 143 = .ok (.iload 4, 2) := by decide +kernel
theorem dX11_carried_145 : decode cX11_carried 145 = .ok (.ifCond .ne 8, 3) := by decide +kernel
theorem dX11_carried_148 : decode cX11_carried 148 = .ok (.iload 5, 2) := by decide +kernel
theorem dX11_carried_150 : decode cX11_carried 150 = .ok (.goto 5, 3) := by decide +kernel
theorem dX11_carried_153 : decode cX11_carried 153 = .ok (.iload 6, 2) := by decide +kernel
theorem dX11_carried_155 : decode cX11_carried 155 = .ok (.ireturn, 1) := by decide +kernel
theorem dX11_explained_0 : decode cX11_explained 0 = .ok (.aload_n 0, 1) := by decide +kernel
theorem dX11_explained_1 : decode cX11_explained 1 = .ok (.getfield 10, 3) := by decide +kernel
theorem dX11_explained_4 : decode cX11_explained 4 = .ok (.iload_n 1, 1) := by decide +kernel
theorem dX11_explained_5 : decode cX11_explained 5 = .ok (.invokevirtual 99, 3) := by decide +kernel
theorem dX11_explained_8 : decode cX11_explained 8 = .ok (.ifCond .eq 14, 3) := by decide +kernel
theorem dX11_explained_11 : decode cX11_explained 11 = .ok (.aload_n 0, 1) := by decide +kernel
theorem dX11_explained_12 : decode cX11_explained 12 = .ok (.getfield 71, 3) := by decide +kernel
theorem dX11_explained_15 : decode cX11_explained 15 = .ok (.iload_n 2, 1) := by decide +kernel
theorem dX11_explained_16 : decode cX11_explained 16 = .ok (.invokevirtual 299, 3) := by decide +kernel
theorem dX11_explained_19 : decode cX11_explained 19 = .ok (.ifCond .ne 9, 3) := by decide +kernel
theorem dX11_explained_22 : decode cX11_explained 22 = .ok (.aload_n 0, 1) := by decide +kernel
theorem dX11_explained_23 : decode cX11_explained 23 = .ok (.iconst 1, 1) := by decide +kernel
theorem dX11_explained_24 : decode cX11_explained 24 = .ok (.invokevirtual 87, 3) := by decide +kernel
theorem dX11_explained_27 : decode cX11_explained 27 = .ok (.ireturn, 1) := by decide +kernel
theorem dX11_explained_28 : decode cX11_explained 28 = .ok (.aload_n 0, 1) := by decide +kernel
theorem dX11_explained_29 : decode cX11_explained 29 = .ok (.getfield 71, 3) := by decide +kernel
theorem dX11_explained_32 : decode cX11_explained 32 = .ok (.iload_n 2, 1) := by decide +kernel
theorem dX11_explained_33 : decode cX11_explained 33 = .ok (.invokevirtual 302, 3) := by decide +kernel
theorem dX11_explained_36 : decode cX11_explained 36 = .ok (.ifCond .eq 9, 3) := by decide +kernel
theorem dX11_explained_39 : decode cX11_explained 39 = .ok (.aload_n 0, 1) := by decide +kernel
theorem dX11_explained_40 : decode cX11_explained 40 = .ok (.iconst 2, 1) := by decide +kernel
theorem dX11_explained_41 : decode cX11_explained 41 = .ok (.invokevirtual 87, 3) := by decide +kernel
theorem dX11_explained_44 : decode cX11_explained 44 = .ok (.ireturn, 1) := by decide +kernel
theorem dX11_explained_45 : decode cX11_explained 45 = .ok (.aload_n 0, 1) := by decide +kernel
theorem dX11_explained_46 : decode cX11_explained 46 = .ok (.getfield 10, 3) := by decide +kernel
theorem dX11_explained_49 : decode cX11_explained 49 = .ok (.getfield 105, 3) := by decide +kernel
theorem dX11_explained_52 : decode cX11_explained 52 = .ok (.iload_n 1, 1) := by decide +kernel
theorem dX11_explained_53 : decode cX11_explained 53 = .ok (.iaload, 1) := by decide +kernel
theorem dX11_explained_54 : decode cX11_explained 54 = .ok (.istore_n 3, 1) := by decide +kernel
theorem dX11_explained_55 : decode cX11_explained 55 = .ok (.iconst (-1), 1) := by decide +kernel
theorem dX11_explained_56 : decode cX11_explained 56 = .ok (.istore 4, 2) := by decide +kernel
theorem dX11_explained_58 : decode cX11_explained 58 = .ok (.iconst 0, 1) := by decide +kernel
theorem dX11_explained_59 : decode cX11_explained 59 = .ok (.istore 5, 2) := by decide +kernel
theorem dX11_explained_61 : decode cX11_explained 61 = .ok (.iload 5, 2) := by decide +kernel
theorem dX11_explained_63 : decode cX11_explained 63 = .ok (.bipush 9, 2) := by decide +kernel
theorem dX11_explained_65 : decode cX11_explained 65 = .ok (.if_icmp .gt 56, 3) := by decide +kernel
theorem dX11_explained_68 : decode cX11_explained 68 = .ok (.iload 4, 2) := by decide +kernel
theorem dX11_explained_70 : decode cX11_explained 70 = .ok (.iconst (-1), 1) := by decide +kernel
theorem dX11_explained_71 : decode cX11_explained 71 = .ok (.if_icmp .ne 50, 3) := by decide +kernel
theorem dX11_explained_74 : decode cX11_explained 74 = .ok (.aload_n 0, 1) := by decide +kernel
theorem dX11_explained_75 : decode cX11_explained 75 = .ok (.getfield 10, 3) := by decide +kernel
theorem dX11_explained_78 : decode cX11_explained 78 = .ok (.getfield 105, 3) := by decide +kernel
theorem dX11_explained_81 : decode cX11_explained 81 = .ok (.iload_n 1, 1) := by decide +kernel
theorem dX11_explained_82 : decode cX11_explained 82 = .ok (.iload 5, 2) := by decide +kernel
theorem dX11_explained_84 : decode cX11_explained 84 = .ok (.iastore, 1) := by decide +kernel
theorem dX11_explained_85 : decode cX11_explained 85 = .ok (.aload_n 0, 1) := by decide +kernel
theorem dX11_explained_86 : decode cX11_explained 86 = .ok (.aload_n 0, 1) := by decide +kernel
theorem dX11_explained_87 : decode cX11_explained 87 = .ok (.getfield 71, 3) := by decide +kernel
theorem dX11_explained_90 : decode cX11_explained 90 = .ok (.getfield 305, 3) := by decide +kernel
theorem dX11_explained_93 : decode cX11_explained 93 = .ok (.iload_n 2, 1) := by decide +kernel
theorem dX11_explained_94 : decode cX11_explained 94 = .ok (.aaload, 1) := by decide +kernel
theorem dX11_explained_95 : decode cX11_explained 95 = .ok (.aload_n 0, 1) := by decide +kernel
theorem dX11_explained_96 : decode cX11_explained 96 = .ok (.getfield 71, 3) := by decide +kernel
theorem dX11_explained_99 : decode cX11_explained 99 = .ok (.getfield 309, 3) := by decide +kernel
theorem dX11_explained_102 : decode cX11_explained 102 = .ok (.iload_n 2, 1) := by decide +kernel
theorem dX11_explained_103 : decode cX11_explained 103 = .ok (.iaload, 1) := by decide +kernel
theorem dX11_explained_104 : decode cX11_explained 104 = .ok (.invokevirtual 312, 3) := by decide +kernel
theorem dX11_explained_107 : decode cX11_explained 107 = .ok (.iconst (-1), 1) := by decide +kernel
theorem dX11_explained_108 : decode cX11_explained 108 = .ok (.if_icmp .ne 7, 3) := by decide +kernel
theorem dX11_explained_111 : decode cX11_explained 111 = .ok (.iload 5, 2) := by decide +kernel
theorem dX11_explained_113 : decode cX11_explained 113 = .ok (.istore 4, 2) := by decide +kernel
theorem dX11_explained_115 : decode cX11_explained 115 = .ok (.iinc 5 1, 3) := by decide +kernel
theorem dX11_explained_118 : decode cX11_explained 118 = .ok (.goto (-57), 3) := by decide +kernel
theorem dX11_explained_121 : decode cX11_explained 121 = .ok (.aload_n 0, 1) := by decide +kernel
theorem dX11_explained_122 : decode cX11_explained 122 = .ok (.getfield 10, 3) := by decide +kernel
theorem dX11_explained_125 : decode cX11_explained 125 = .ok (.getfield 105, 3) := by decide +kernel
theorem dX11_explained_128 : decode cX11_explained 128 = .ok (.iload_n 1, 1) := by decide +kernel
theorem dX11_explained_129 : decode cX11_explained 129 = .ok (.iload_n 3, 1) := by decide +kernel
theorem dX11_explained_130 : decode cX11_explained 130 = .ok (.iastore, 1) := by decide +kernel
theorem dX11_explained_131 : decode cX11_explained 131 = .ok (.iload 4, 2) := by decide +kernel
theorem dX11_explained_133 : decode cX11_explained 133 = .ok (.iconst (-1), 1) := by decide +kernel
theorem dX11_explained_134 : decode cX11_explained 134 = .ok (.if_icmp .ne 11, 3) := by decide +kernel
theorem dX11_explained_137 : decode cX11_explained 137 = .ok (.aload_n 0, 1) := by decide +kernel
theorem dX11_explained_138 : decode cX11_explained 138 = .ok (.iconst 2, 1) := by decide +kernel
theorem dX11_explained_139 : decode cX11_explained 139 = .ok (.invokevirtual 87, 3) := by decide +kernel
theorem dX11_explained_142 : decode cX11_explained 142 = .ok (.goto 5, 3) := by decide +kernel
theorem dX11_explained_145 : decode cX11_explained 145 = .ok (.iload 4, 2) := by decide +kernel
theorem dX11_explained_147 : decode cX11_explained 147 = .ok (.ireturn, 1) := by decide +kernel
theorem dX11_seed_0 : decode cX11_seed 0 = .ok (.aload_n 0, 1) := by decide +kernel
theorem dX11_seed_1 : decode cX11_seed 1 = .ok (.getfield 10, 3) := by decide +kernel
theorem dX11_seed_4 : decode cX11_seed 4 = .ok (.getfield 316, 3) := by decide +kernel
theorem dX11_seed_7 : decode cX11_seed 7 = .ok (.istore_n 2, 1) := by decide +kernel
theorem dX11_seed_8 : decode cX11_seed 8 = .ok (.aload_n 0, 1) := by decide +kernel
theorem dX11_seed_9 : decode cX11_seed 9 = .ok (.getfield 10, 3) := by decide +kernel
theorem dX11_seed_12 : decode cX11_seed 12 = .ok (.iload_n 1, 1) := by decide +kernel
theorem dX11_seed_13 : decode cX11_seed 13 = .ok (.putfield 316, 3) := by decide +kernel
theorem dX11_seed_16 : decode cX11_seed 16 = .ok (.iload_n 2, 1) := by decide +kernel
theorem dX11_seed_17 : decode cX11_seed 17 = .ok (.ireturn, 1) := by decide +kernel
theorem dX11_voice_0 : decode cX11_voice 0 = .ok (.aload_n 0, 1) := by decide +kernel
theorem dX11_voice_1 : decode cX11_voice 1 = .ok (.getfield 10, 3) := by decide +kernel
theorem dX11_voice_4 : decode cX11_voice 4 = .ok (.iload_n 1, 1) := by decide +kernel
theorem dX11_voice_5 : decode cX11_voice 5 = .ok (.invokevirtual 99, 3) := by decide +kernel
theorem dX11_voice_8 : decode cX11_voice 8 = .ok (.ifCond .eq 12, 3) := by decide +kernel
theorem dX11_voice_11 : decode cX11_voice 11 = .ok (.iload_n 2, 1) := by decide +kernel
theorem dX11_voice_12 : decode cX11_voice 12 = .ok (.iconst 0, 1) := by decide +kernel
theorem dX11_voice_13 : decode cX11_voice 13 = .ok (.iconst 3, 1) := by decide +kernel
theorem dX11_voice_14 : decode cX11_voice 14 = .ok (.invokestatic 83, 3) := by decide +kernel
theorem dX11_voice_17 : decode cX11_voice 17 = .ok (.ifCond .ne 9, 3) := by decide +kernel
theorem dX11_voice_20 : decode cX11_voice 20 = .ok (.aload_n 0, 1) := by decide +kernel
theorem dX11_voice_21 : decode cX11_voice 21 = .ok (.iconst 1, 1) := by decide +kernel
theorem dX11_voice_22 : decode cX11_voice 22 = .ok (.invokevirtual 87, 3) := by decide +kernel
theorem dX11_voice_25 : decode cX11_voice 25 = .ok (.ireturn, 1) := by decide +kernel
theorem dX11_voice_26 : decode cX11_voice 26 = .ok (.aload_n 0, 1) := by decide +kernel
theorem dX11_voice_27 : decode cX11_voice 27 = .ok (.getfield 64, 3) := by decide +kernel
theorem dX11_voice_30 : decode cX11_voice 30 = .ok (.aload_n 0, 1) := by decide +kernel
theorem dX11_voice_31 : decode cX11_voice 31 = .ok (.getfield 10, 3) := by decide +kernel
theorem dX11_voice_34 : decode cX11_voice 34 = .ok (.getfield 102, 3) := by decide +kernel
theorem dX11_voice_37 : decode cX11_voice 37 = .ok (.iload_n 1, 1) := by decide +kernel
theorem dX11_voice_38 : decode cX11_voice 38 = .ok (.iaload, 1) := by decide +kernel
theorem dX11_voice_39 : decode cX11_voice 39 = .ok (.iload_n 1, 1) := by decide +kernel
theorem dX11_voice_40 : decode cX11_voice 40 = .ok (.aload_n 0, 1) := by decide +kernel
theorem dX11_voice_41 : decode cX11_voice 41 = .ok (.getfield 10, 3) := by decide +kernel
theorem dX11_voice_44 : decode cX11_voice 44 = .ok (.getfield 105, 3) := by decide +kernel
theorem dX11_voice_47 : decode cX11_voice 47 = .ok (.iload_n 1, 1) := by decide +kernel
theorem dX11_voice_48 : decode cX11_voice 48 = .ok (.iaload, 1) := by decide +kernel
theorem dX11_voice_49 : decode cX11_voice 49 = .ok (.iload_n 2, 1) := by decide +kernel
theorem dX11_voice_50 : decode cX11_voice 50 = .ok (.iload_n 3, 1) := by decide +kernel
theorem dX11_voice_51 : decode cX11_voice 51 = .ok (.invokevirtual 319, 3) := by decide +kernel
theorem dX11_voice_54 : decode cX11_voice 54 = .ok (.ireturn, 1) := by decide +kernel
theorem dX11_trace_0 : decode cX11_trace 0 = .ok (.iload_n 1, 1) := by decide +kernel
theorem dX11_trace_1 : decode cX11_trace 1 = .ok (.iconst 0, 1) := by decide +kernel
theorem dX11_trace_2 : decode cX11_trace 2 = .ok (.aload_n 0, 1) := by decide +kernel
theorem dX11_trace_3 : decode cX11_trace 3 = .ok (.getfield 64, 3) := by decide +kernel
theorem dX11_trace_6 : decode cX11_trace 6 = .ok (.getfield 323, 3) := by decide +kernel
theorem dX11_trace_9 : decode cX11_trace 9 = .ok (.iconst 1, 1) := by decide +kernel
theorem dX11_trace_10 : decode cX11_trace 10 = .ok (.isub, 1) := by decide +kernel
theorem dX11_trace_11 : decode cX11_trace 11 = .ok (.invokestatic 83, 3) := by decide +kernel
theorem dX11_trace_14 : decode cX11_trace 14 = .ok (.ifCond .eq 15, 3) := by decide +kernel
theorem dX11_trace_17 : decode cX11_trace 17 = .ok (.aload_n 0, 1) := by decide +kernel
theorem dX11_trace_18 : decode cX11_trace 18 = .ok (.getfield 64, 3) := by decide +kernel
theorem dX11_trace_21 : decode cX11_trace 21 = .ok (.getfield 326, 3) := by decide +kernel
theorem dX11_trace_24 : decode cX11_trace 24 = .ok (.iload_n 1, 1) := by decide +kernel
theorem dX11_trace_25 : decode cX11_trace 25 = .ok (.iaload, 1) := by decide +kernel
theorem dX11_trace_26 : decode cX11_trace 26 = .ok (.goto 8, 3) := by decide +kernel
theorem dX11_trace_29 : decode cX11_trace 29 = .ok (.aload_n 0, 1) := by decide +kernel
theorem dX11_trace_30 : decode cX11_trace 30 = .ok (.iconst 2, 1) := by decide +kernel
theorem dX11_trace_31 : decode cX11_trace 31 = .ok (.invokevirtual 87, 3) := by decide +kernel
theorem dX11_trace_34 : decode cX11_trace 34 = .ok (.ireturn, 1) := by decide +kernel
theorem dX11_sheet_0 : decode cX11_sheet 0 = .ok (.aload_n 0, 1) := by decide +kernel
theorem dX11_sheet_1 : decode cX11_sheet 1 = .ok (.getfield 71, 3) := by decide +kernel
theorem dX11_sheet_4 : decode cX11_sheet 4 = .ok (.iload_n 1, 1) := by decide +kernel
theorem dX11_sheet_5 : decode cX11_sheet 5 = .ok (.invokevirtual 299, 3) := by decide +kernel
theorem dX11_sheet_8 : decode cX11_sheet 8 = .ok (.ifCond .eq 25, 3) := by decide +kernel
theorem dX11_sheet_11 : decode cX11_sheet 11 = .ok (.iload_n 2, 1) := by decide +kernel
theorem dX11_sheet_12 : decode cX11_sheet 12 = .ok (.ifCond .eq 27, 3) := by decide +kernel
theorem dX11_sheet_15 : decode cX11_sheet 15 = .ok (.iload_n 2, 1) := by decide +kernel
theorem dX11_sheet_16 : decode cX11_sheet 16 = .ok (.bipush 8, 2) := by decide +kernel
theorem dX11_sheet_18 : decode cX11_sheet 18 = .ok (.if_icmp .eq 21, 3) := by decide +kernel
theorem dX11_sheet_21 : decode cX11_sheet 21 = .ok (.iload_n 2, 1) := by decide +kernel
theorem dX11_sheet_22 : decode cX11_sheet 22 = .ok (.bipush 16, 2) := by decide +kernel
theorem dX11_sheet_24 : decode cX11_sheet 24 = .ok (.if_icmp .eq 15, 3) := by decide +kernel
theorem dX11_sheet_27 : decode cX11_sheet 27 = .ok (.iload_n 2, 1) := by decide +kernel
theorem dX11_sheet_28 : decode cX11_sheet 28 = .ok (.bipush 32, 2) := by decide +kernel
theorem dX11_sheet_30 : decode cX11_sheet 30 = .ok (.if_icmp .eq 9, 3) := by decide +kernel
theorem dX11_sheet_33 : decode cX11_sheet 33 = .ok (.aload_n 0, 1) := by decide +kernel
theorem dX11_sheet_34 : decode cX11_sheet 34 = .ok (.iconst 1, 1) := by decide +kernel
theorem dX11_sheet_35 : decode cX11_sheet 35 = .ok (.invokevirtual 87, 3) := by decide +kernel
theorem dX11_sheet_38 : decode cX11_sheet 38 = .ok (.ireturn, 1) := by decide +kernel
theorem dX11_sheet_39 : decode cX11_sheet 39 = .ok (.iload_n 2, 1) := by decide +kernel
theorem dX11_sheet_40 : decode cX11_sheet 40 = .ok (.ifCond .eq 13, 3) := by decide +kernel
theorem dX11_sheet_43 : decode cX11_sheet 43 = .ok (.iload_n 3, 1) := by decide +kernel
theorem dX11_sheet_44 : decode cX11_sheet 44 = .ok (.ifCond .ge 9, 3) := by decide +kernel
theorem dX11_sheet_47 : decode cX11_sheet 47 = .ok (.aload_n 0, 1) := by decide +kernel
theorem dX11_sheet_48 : decode cX11_sheet 48 = .ok (.iconst 3, 1) := by decide +kernel
theorem dX11_sheet_49 : decode cX11_sheet 49 = .ok (.invokevirtual 87, 3) := by decide +kernel
theorem dX11_sheet_52 : decode cX11_sheet 52 = .ok (.ireturn, 1) := by decide +kernel
theorem dX11_sheet_53 : decode cX11_sheet 53 = .ok (.iload_n 2, 1) := by decide +kernel
theorem dX11_sheet_54 : decode cX11_sheet 54 = .ok (.ifCond .eq 15, 3) := by decide +kernel
theorem dX11_sheet_57 : decode cX11_sheet 57 = .ok (.iload_n 3, 1) := by decide +kernel
theorem dX11_sheet_58 : decode cX11_sheet 58 = .ok (.bipush 40, 2) := by decide +kernel
theorem dX11_sheet_60 : decode cX11_sheet 60 = .ok (.if_icmp .le 9, 3) := by decide +kernel
theorem dX11_sheet_63 : decode cX11_sheet 63 = .ok (.aload_n 0, 1) := by decide +kernel
theorem dX11_sheet_64 : decode cX11_sheet 64 = .ok (.iconst 1, 1) := by decide +kernel
theorem dX11_sheet_65 : decode cX11_sheet 65 = .ok (.invokevirtual 87, 3) := by decide +kernel
theorem dX11_sheet_68 : decode cX11_sheet 68 = .ok (.ireturn, 1) := by decide +kernel
theorem dX11_sheet_69 : decode cX11_sheet 69 = .ok (.aload_n 0, 1) := by decide +kernel
theorem dX11_sheet_70 : decode cX11_sheet 70 = .ok (.getfield 71, 3) := by decide +kernel
theorem dX11_sheet_73 : decode cX11_sheet 73 = .ok (.iload_n 1, 1) := by decide +kernel
theorem dX11_sheet_74 : decode cX11_sheet 74 = .ok (.iload_n 2, 1) := by decide +kernel
theorem dX11_sheet_75 : decode cX11_sheet 75 = .ok (.iload_n 2, 1) := by decide +kernel
theorem dX11_sheet_76 : decode cX11_sheet 76 = .ok (.ifCond .ne 7, 3) := by decide +kernel
theorem dX11_sheet_79 : decode cX11_sheet 79 = .ok (.iconst 0, 1) := by decide +kernel
theorem dX11_sheet_80 : decode cX11_sheet 80 = .ok (.goto 4, 3) := by decide +kernel
theorem dX11_sheet_83 : decode cX11_sheet 83 = .ok (.iload_n 3, 1) := by decide +kernel
theorem dX11_sheet_84 : decode cX11_sheet 84 = .ok (.invokevirtual 329, 3) := by decide +kernel
theorem dX11_sheet_87 : decode cX11_sheet 87 = .ok (.iconst 1, 1) := by decide +kernel
theorem dX11_sheet_88 : decode cX11_sheet 88 = .ok (.ireturn, 1) := by decide +kernel
theorem dX11_put_0 : decode cX11_put 0 = .ok (.aload_n 0, 1) := by decide +kernel
theorem dX11_put_1 : decode cX11_put 1 = .ok (.getfield 71, 3) := by decide +kernel
theorem dX11_put_4 : decode cX11_put 4 = .ok (.iload_n 1, 1) := by decide +kernel
theorem dX11_put_5 : decode cX11_put 5 = .ok (.invokevirtual 299, 3) := by decide +kernel
theorem dX11_put_8 : decode cX11_put 8 = .ok (.ifCond .ne 9, 3) := by decide +kernel
theorem dX11_put_11 : decode cX11_put 11 = .ok (.aload_n 0, 1) := by decide +kernel
theorem dX11_put_12 : decode cX11_put 12 = .ok (.iconst 1, 1) := by decide +kernel
theorem dX11_put_13 : decode cX11_put 13 = .ok (.invokevirtual 87, 3) := by decide +kernel
theorem dX11_put_16 : decode cX11_put 16 = .ok (.ireturn, 1) := by decide +kernel
theorem dX11_put_17 : decode cX11_put 17 = .ok (.aload_n 0, 1) := by decide +kernel
theorem dX11_put_18 : decode cX11_put 18 = .ok (.getfield 71, 3) := by decide +kernel
theorem dX11_put_21 : decode cX11_put 21 = .ok (.iload_n 1, 1) := by decide +kernel
theorem dX11_put_22 : decode cX11_put 22 = .ok (.invokevirtual 302, 3) := by decide +kernel
theorem dX11_put_25 : decode cX11_put 25 = .ok (.ifCond .eq 9, 3) := by decide +kernel
theorem dX11_put_28 : decode cX11_put 28 = .ok (.aload_n 0, 1) := by decide +kernel
theorem dX11_put_29 : decode cX11_put 29 = .ok (.iconst 2, 1) := by decide +kernel
theorem dX11_put_30 : decode cX11_put 30 = .ok (.invokevirtual 87, 3) := by decide +kernel
theorem dX11_put_33 : decode cX11_put 33 = .ok (.ireturn, 1) := by decide +kernel
theorem dX11_put_34 : decode cX11_put 34 = .ok (.iload_n 2, 1) := by decide +kernel
theorem dX11_put_35 : decode cX11_put 35 = .ok (.iconst 0, 1) := by decide +kernel
theorem dX11_put_36 : decode cX11_put 36 = .ok (.aload_n 0, 1) := by decide +kernel
theorem dX11_put_37 : decode cX11_put 37 = .ok (.getfield 71, 3) := by decide +kernel
theorem dX11_put_40 : decode cX11_put 40 = .ok (.getfield 309, 3) := by decide +kernel
theorem dX11_put_43 : decode cX11_put 43 = .ok (.iload_n 1, 1) := by decide +kernel
theorem dX11_put_44 : decode cX11_put 44 = .ok (.iaload, 1) := by decide +kernel
theorem dX11_put_45 : decode cX11_put 45 = .ok (.iconst 1, 1) := by decide +kernel
theorem dX11_put_46 : decode cX11_put 46 = .ok (.isub, 1) := by decide +kernel
theorem dX11_put_47 : decode cX11_put 47 = .ok (.invokestatic 83, 3) := by decide +kernel
theorem dX11_put_50 : decode cX11_put 50 = .ok (.ifCond .ne 9, 3) := by decide +kernel
theorem dX11_put_53 : decode cX11_put 53 = .ok (.aload_n 0, 1) := by decide +kernel
theorem dX11_put_54 : decode cX11_put 54 = .ok (.iconst 1, 1) := by decide +kernel
theorem dX11_put_55 : decode cX11_put 55 = .ok (.invokevirtual 87, 3) := by decide +kernel
theorem dX11_put_58 : decode cX11_put 58 = .ok (.ireturn, 1) := by decide +kernel
theorem dX11_put_59 : decode cX11_put 59 = .ok (.aload_n 0, 1) := by decide +kernel
theorem dX11_put_60 : decode cX11_put 60 = .ok (.getfield 71, 3) := by decide +kernel
theorem dX11_put_63 : decode cX11_put 63 = .ok (.getfield 305, 3) := by decide +kernel
theorem dX11_put_66 : decode cX11_put 66 = .ok (.iload_n 1, 1) := by decide +kernel
theorem dX11_put_67 : decode cX11_put 67 = .ok (.aaload, 1) := by decide +kernel
theorem dX11_put_68 : decode cX11_put 68 = .ok (.iload_n 2, 1) := by decide +kernel
theorem dX11_put_69 : decode cX11_put 69 = .ok (.aload_n 0, 1) := by decide +kernel
theorem dX11_put_70 : decode cX11_put 70 = .ok (.getfield 71, 3) := by decide +kernel
theorem dX11_put_73 : decode cX11_put 73 = .ok (.aload_n 0, 1) := by decide +kernel
theorem dX11_put_74 : decode cX11_put 74 = .ok (.getfield 71, 3) := by decide +kernel
theorem dX11_put_77 : decode cX11_put 77 = .ok (.getfield 333, 3) := by decide +kernel
theorem dX11_put_80 : decode cX11_put 80 = .ok (.iload_n 1, 1) := by decide +kernel
theorem dX11_put_81 : decode cX11_put 81 = .ok (.iaload, 1) := by decide +kernel
theorem dX11_put_82 : decode cX11_put 82 = .ok (.iload_n 3, 1) := by decide +kernel
theorem dX11_put_83 : decode cX11_put 83 = .ok (.invokevirtual 336, 3) := by decide +kernel
theorem dX11_put_86 : decode cX11_put 86 = .ok (.iastore, 1) := by decide +kernel
theorem dX11_put_87 : decode cX11_put 87 = .ok (.iconst 1, 1) := by decide +kernel
theorem dX11_put_88 : decode cX11_put 88 = .ok (.ireturn, 1) := by decide +kernel
theorem dX11_move_0 : decode cX11_move 0 = .ok (.aload_n 0, 1) := by decide +kernel
theorem dX11_move_1 : decode cX11_move 1 = .ok (.getfield 71, 3) := by decide +kernel
theorem dX11_move_4 : decode cX11_move 4 = .ok (.iload_n 1, 1) := by decide +kernel
theorem dX11_move_5 : decode cX11_move 5 = .ok (.invokevirtual 299, 3) := by decide +kernel
theorem dX11_move_8 : decode cX11_move 8 = .ok (.ifCond .eq 14, 3) := by decide +kernel
theorem dX11_move_11 : decode cX11_move 11 = .ok (.aload_n 0, 1) := by decide +kernel
theorem dX11_move_12 : decode cX11_move 12 = .ok (.getfield 71, 3) := by decide +kernel
theorem dX11_move_15 : decode cX11_move 15 = .ok (.iload_n 3, 1) := by decide +kernel
theorem dX11_move_16 : decode cX11_move 16 = .ok (.invokevirtual 299, 3) := by decide +kernel
theorem dX11_move_19 : decode cX11_move 19 = .ok (.ifCond .ne 9, 3) := by decide +kernel
theorem dX11_move_22 : decode cX11_move 22 = .ok (.aload_n 0, 1) := by decide +kernel
theorem dX11_move_23 : decode cX11_move 23 = .ok (.iconst 1, 1) := by decide +kernel
theorem dX11_move_24 : decode cX11_move 24 = .ok (.invokevirtual 87, 3) := by decide +kernel
theorem dX11_move_27 : decode cX11_move 27 = .ok (.ireturn, 1) := by decide +kernel
theorem dX11_move_28 : decode cX11_move 28 = .ok (.aload_n 0, 1) := by decide +kernel
theorem dX11_move_29 : decode cX11_move 29 = .ok (.getfield 71, 3) := by decide +kernel
theorem dX11_move_32 : decode cX11_move 32 = .ok (.iload_n 1, 1) := by decide +kernel
theorem dX11_move_33 : decode cX11_move 33 = .ok (.invokevirtual 302, 3) := by decide +kernel
theorem dX11_move_36 : decode cX11_move 36 = .ok (.ifCond .ne 14, 3) := by decide +kernel
theorem dX11_move_39 : decode cX11_move 39 = .ok (.aload_n 0, 1) := by decide +kernel
theorem dX11_move_40 : decode cX11_move 40 = .ok (.getfield 71, 3) := by decide +kernel
theorem dX11_move_43 : decode cX11_move 43 = .ok (.iload_n 3, 1) := by decide +kernel
theorem dX11_move_44 : decode cX11_move 44 = .ok (.invokevirtual 302, 3) := by decide +kernel
theorem dX11_move_47 : decode cX11_move 47 = .ok (.ifCond .eq 9, 3) := by decide +kernel
theorem dX11_move_50 : decode cX11_move 50 = .ok (.aload_n 0, 1) := by decide +kernel
theorem dX11_move_51 : decode cX11_move 51 = .ok (.iconst 2, 1) := by decide +kernel
theorem dX11_move_52 : decode cX11_move 52 = .ok (.invokevirtual 87, 3) := by decide +kernel
theorem dX11_move_55 : decode cX11_move 55 = .ok (.ireturn, 1) := by decide +kernel
theorem dX11_move_56 : decode cX11_move 56 = .ok (.aload_n 0, 1) := by decide +kernel
theorem dX11_move_57 : decode cX11_move 57 = .ok (.getfield 71, 3) := by decide +kernel
theorem dX11_move_60 : decode cX11_move 60 = .ok (.getfield 333, 3) := by decide +kernel
theorem dX11_move_63 : decode cX11_move 63 = .ok (.iload_n 1, 1) := by decide +kernel
theorem dX11_move_64 : decode cX11_move 64 = .ok (.iaload, 1) := by decide +kernel
theorem dX11_move_65 : decode cX11_move 65 = .ok (.aload_n 0, 1) := by decide +kernel
theorem dX11_move_66 : decode cX11_move 66 = .ok (.getfield 71, 3) := by decide +kernel
theorem dX11_move_69 : decode cX11_move 69 = .ok (.getfield 333, 3) := by decide +kernel
theorem dX11_move_72 : decode cX11_move 72 = .ok (.iload_n 3, 1) := by decide +kernel
theorem dX11_move_73 : decode cX11_move 73 = .ok (.iaload, 1) := by decide +kernel
theorem dX11_move_74 : decode cX11_move 74 = .ok (.if_icmp .eq 9, 3) := by decide +kernel
theorem dX11_move_77 : decode cX11_move 77 = .ok (.aload_n 0, 1) := by decide +kernel
theorem dX11_move_78 : decode cX11_move 78 = .ok (.iconst 5, 1) := by decide +kernel
theorem dX11_move_79 : decode cX11_move 79 = .ok (.invokevirtual 87, 3) := by decide +kernel
theorem dX11_move_82 : decode cX11_move 82 = .ok (.ireturn, 1) := by decide +kernel
theorem dX11_move_83 : decode cX11_move 83 = .ok (.aload_n 0, 1) := by decide +kernel
theorem dX11_move_84 : decode cX11_move 84 = .ok (.getfield 71, 3) := by decide +kernel
theorem dX11_move_87 : decode cX11_move 87 = .ok (.iload_n 1, 1) := by decide +kernel
theorem dX11_move_88 : decode cX11_move 88 = .ok (.iload_n 2, 1) := by decide +kernel
theorem dX11_move_89 : decode cX11_move 89 = .ok (.iload 5, 2) := by decide +kernel
theorem dX11_move_91 : decode cX11_move 91 = .ok (.invokevirtual 339, 3) := by decide +kernel
theorem dX11_move_94 : decode cX11_move 94 = .ok (.ifCond .eq 18, 3) := by decide +kernel
theorem dX11_move_97 : decode cX11_move 97 = .ok (.aload_n 0, 1) := by decide +kernel
theorem dX11_move_98 : decode cX11_move 98 = .ok (.getfield 71, 3) := by decide +kernel
theorem dX11_move_101 : decode cX11_move 101 = .ok (.iload_n 3, 1) := by decide +kernel
theorem dX11_move_102 : decode cX11_move 102 = .ok (.iload 4, 2) := by decide +kernel
theorem dX11_move_104 : decode cX11_move 104 = .ok (.iload 5, 2) := by decide +kernel
theorem dX11_move_106 : decode cX11_move 106 = .ok (.invokevirtual 339, 3) := by decide +kernel
theorem dX11_move_109 : decode cX11_move 109 = .ok (.ifCond .ne 9, 3) := by decide +kernel
theorem dX11_move_112 : decode cX11_move 112 = .ok (.aload_n 0, 1) := by decide +kernel
theorem dX11_move_113 : decode cX11_move 113 = .ok (.iconst 1, 1) := by decide +kernel
theorem dX11_move_114 : decode cX11_move 114 = .ok (.invokevirtual 87, 3) := by decide +kernel
theorem dX11_move_117 : decode cX11_move 117 = .ok (.ireturn, 1) := by decide +kernel
theorem dX11_move_118 : decode cX11_move 118 = .ok (.aload_n 0, 1) := by decide +kernel
theorem dX11_move_119 : decode cX11_move 119 = .ok (.getfield 71, 3) := by decide +kernel
theorem dX11_move_122 : decode cX11_move 122 = .ok (.getfield 305, 3) := by decide +kernel
theorem dX11_move_125 : decode cX11_move 125 = .ok (.iload_n 1, 1) := by decide +kernel
theorem dX11_move_126 : decode cX11_move 126 = .ok (.aaload, 1) := by decide +kernel
theorem dX11_move_127 : decode cX11_move 127 = .ok (.iload_n 2, 1) := by decide +kernel
theorem dX11_move_128 : decode cX11_move 128 = .ok (.aload_n 0, 1) := by decide +kernel
theorem dX11_move_129 : decode cX11_move 129 = .ok (.getfield 71, 3) := by decide +kernel
theorem dX11_move_132 : decode cX11_move 132 = .ok (.getfield 305, 3) := by decide +kernel
theorem dX11_move_135 : decode cX11_move 135 = .ok (.iload_n 3, 1) := by decide +kernel
theorem dX11_move_136 : decode cX11_move 136 = .ok (.aaload, 1) := by decide +kernel
theorem dX11_move_137 : decode cX11_move 137 = .ok (.iload 4, 2) := by decide +kernel
theorem dX11_move_139 : decode cX11_move 139 = .ok (.iload 5, 2) := by decide +kernel
theorem dX11_move_141 : decode cX11_move 141 = .ok (.invokestatic 342, 3) := by decide +kernel
theorem dX11_move_144 : decode cX11_move 144 = .ok (.iload 5, 2) := by decide +kernel
theorem dX11_move_146 : decode cX11_move 146 = .ok (.ireturn, 1) := by decide +kernel
theorem dX11_judge_0 : decode cX11_judge 0 = .ok (.aload_n 0, 1) := by decide +kernel
theorem dX11_judge_1 : decode cX11_judge 1 = .ok (.getfield 71, 3) := by decide +kernel
theorem dX11_judge_4 : decode cX11_judge 4 = .ok (.iload_n 1, 1) := by decide +kernel
theorem dX11_judge_5 : decode cX11_judge 5 = .ok (.invokevirtual 299, 3) := by decide +kernel
theorem dX11_judge_8 : decode cX11_judge 8 = .ok (.ifCond .ne 9, 3) := by decide +kernel
theorem dX11_judge_11 : decode cX11_judge 11 = .ok (.aload_n 0, 1) := by decide +kernel
theorem dX11_judge_12 : decode cX11_judge 12 = .ok (.iconst 1, 1) := by decide +kernel
theorem dX11_judge_13 : decode cX11_judge 13 = .ok (.invokevirtual 87, 3) := by decide +kernel
theorem dX11_judge_16 : decode cX11_judge 16 = .ok (.ireturn, 1) := by decide +kernel
theorem dX11_judge_17 : decode cX11_judge 17 = .ok (.aload_n 0, 1) := by decide +kernel
theorem dX11_judge_18 : decode cX11_judge 18 = .ok (.getfield 71, 3) := by decide +kernel
theorem dX11_judge_21 : decode cX11_judge 21 = .ok (.iload_n 1, 1) := by decide +kernel
theorem dX11_judge_22 : decode cX11_judge 22 = .ok (.invokevirtual 302, 3) := by decide +kernel
theorem dX11_judge_25 : decode cX11_judge 25 = .ok (.ifCond .eq 9, 3) := by decide +kernel
theorem dX11_judge_28 : decode cX11_judge 28 = .ok (.aload_n 0, 1) := by decide +kernel
theorem dX11_judge_29 : decode cX11_judge 29 = .ok (.iconst 2, 1) := by decide +kernel
theorem dX11_judge_30 : decode cX11_judge 30 = .ok (.invokevirtual 87, 3) := by decide +kernel
theorem dX11_judge_33 : decode cX11_judge 33 = .ok (.ireturn, 1) := by decide +kernel
theorem dX11_judge_34 : decode cX11_judge 34 = .ok (.aload_n 0, 1) := by decide +kernel
theorem dX11_judge_35 : decode cX11_judge 35 = .ok (.getfield 22, 3) := by decide +kernel
theorem dX11_judge_38 : decode cX11_judge 38 = .ok (.aload_n 0, 1) := by decide +kernel
theorem dX11_judge_39 : decode cX11_judge 39 = .ok (.getfield 10, 3) := by decide +kernel
theorem dX11_judge_42 : decode cX11_judge 42 = .ok (.getfield 111, 3) := by decide +kernel
theorem dX11_judge_45 : decode cX11_judge 45 = .ok (.invokevirtual 210, 3) := by decide +kernel
theorem dX11_judge_48 : decode cX11_judge 48 = .ok (.aload_n 0, 1) := by decide +kernel
theorem dX11_judge_49 : decode cX11_judge 49 = .ok (.getfield 22, 3) := by decide +kernel
theorem dX11_judge_52 : decode cX11_judge 52 = .ok (.iconst 0, 1) := by decide +kernel
theorem dX11_judge_53 : decode cX11_judge 53 = .ok (.putfield 182, 3) := by decide +kernel
theorem dX11_judge_56 : decode cX11_judge 56 = .ok (.aload_n 0, 1) := by decide +kernel
theorem dX11_judge_57 : decode cX11_judge 57 = .ok (.getfield 71, 3) := by decide +kernel
theorem dX11_judge_60 : decode cX11_judge 60 = .ok (.getfield 309, 3) := by decide +kernel
theorem dX11_judge_63 : decode cX11_judge 63 = .ok (.iload_n 1, 1) := by decide +kernel
theorem dX11_judge_64 : decode cX11_judge 64 = .ok (.iaload, 1) := by decide +kernel
theorem dX11_judge_65 : decode cX11_judge 65 = .ok (.istore_n 2, 1) := by decide +kernel
theorem dX11_judge_66 : decode cX11_judge 66 = .ok (.iconst 0, 1) := by decide +kernel
theorem dX11_judge_67 : decode cX11_judge 67 = .ok (.istore_n 3, 1) := by decide +kernel
theorem dX11_judge_68 : decode cX11_judge 68 = .ok (.iload_n 3, 1) := by decide +kernel
theorem dX11_judge_69 : decode cX11_judge 69 = .ok (.iload_n 2, 1) := by decide +kernel
theorem dX11_judge_70 : decode cX11_judge 70 = .ok (.if_icmp .ge 103, 3) := by decide +kernel
theorem dX11_judge_73 : decode cX11_judge 73 = .ok (.aload_n 0, 1) := by decide +kernel
theorem dX11_judge_74 : decode cX11_judge 74 = .ok (.getfield 71, 3) := by decide +kernel
theorem dX11_judge_77 : decode cX11_judge 77 = .ok (.getfield 305, 3) := by decide +kernel
theorem dX11_judge_80 : decode cX11_judge 80 = .ok (.iload_n 1, 1) := by decide +kernel
theorem dX11_judge_81 : decode cX11_judge 81 = .ok (.aaload, 1) := by decide +kernel
theorem dX11_judge_82 : decode cX11_judge 82 = .ok (.iload_n 3, 1) := by decide +kernel
theorem dX11_judge_83 : decode cX11_judge 83 = .ok (.iaload, 1) := by decide +kernel
theorem dX11_judge_84 : decode cX11_judge 84 = .ok (.istore 4, 2) := by decide +kernel
theorem dX11_judge_86 : decode cX11_judge 86 = .ok (.aload_n 0, 1) := by decide +kernel
theorem dX11_judge_87 : decode cX11_judge 87 = .ok (.getfield 10, 3) := by decide +kernel
theorem dX11_judge_90 : decode cX11_judge 90 = .ok (.iload 4, 2) := by decide +kernel
theorem dX11_judge_92 : decode cX11_judge 92 = .ok (.invokevirtual 142, 3) := by decide +kernel
theorem dX11_judge_95 : decode cX11_judge 95 = .ok (.ifCond .eq 19, 3) := by decide +kernel
theorem dX11_judge_98 : decode cX11_judge 98 = .ok (.aload_n 0, 1) := by decide +kernel
theorem dX11_judge_99 : decode cX11_judge 99 = .ok (.getfield 10, 3) := by decide +kernel
theorem dX11_judge_102 : decode cX11_judge 102 = .ok (.aload_n 0, 1) := by decide +kernel
theorem dX11_judge_103 : decode cX11_judge 103 = .ok (.getfield 22, 3) := by decide +kernel
theorem dX11_judge_106 : decode cX11_judge 106 = .ok (.iload 4, 2) := by decide +kernel
theorem dX11_judge_108 : decode cX11_judge 108 = .ok (.invokevirtual 185, 3) := by decide +kernel
theorem dX11_judge_111 : decode cX11_judge 111 = .ok (.ifCond .ne 5, 3) := by decide +kernel
theorem dX11_judge_114 : decode cX11_judge 114 = .ok (.iload_n 3, 1) := by decide +kernel
theorem dX11_judge_115 : decode cX11_judge 115 = .ok (.ireturn, 1) := by decide +kernel
theorem dX11_judge_116 : decode cX11_judge 116 = .ok (.aload_n 0, 1) := by decide +kernel
theorem dX11_judge_117 : decode cX11_judge 117 = .ok (.getfield 10, 3) := by decide +kernel
theorem dX11_judge_120 : decode cX11_judge 120 = .ok (.aload_n 0, 1) := by decide +kernel
theorem dX11_judge_121 : decode cX11_judge 121 = .ok (.getfield 22, 3) := by decide +kernel
theorem dX11_judge_124 : decode cX11_judge 124 = .ok (.iload 4, 2) := by decide +kernel
theorem dX11_judge_126 : decode cX11_judge 126 = .ok (.invokevirtual 189, 3) := by decide +kernel
theorem dX11_judge_129 : decode cX11_judge 129 = .ok (.aload_n 0, 1) := by decide +kernel
theorem dX11_judge_130 : decode cX11_judge 130 = .ok (.getfield 10, 3) := by decide +kernel
theorem dX11_judge_133 : decode cX11_judge 133 = .ok (.aload_n 0, 1) := by decide +kernel
theorem dX11_judge_134 : decode cX11_judge 134 = .ok (.getfield 22, 3) := by decide +kernel
theorem dX11_judge_137 : decode cX11_judge 137 = .ok (.aload_n 0, 1) := by decide +kernel
theorem dX11_judge_138 : decode cX11_judge 138 = .ok (.getfield 10, 3) := by decide +kernel
theorem dX11_judge_141 : decode cX11_judge 141 = .ok (.aload_n 0, 1) := by decide +kernel
theorem dX11_judge_142 : decode cX11_judge 142 = .ok (.getfield 22, 3) := by decide +kernel
theorem dX11_judge_145 : decode cX11_judge 145 = .ok (.invokevirtual 348, 3) := by decide +kernel
theorem dX11_judge_148 : decode cX11_judge 148 = .ok (.invokevirtual 201, 3) := by decide +kernel
theorem dX11_judge_151 : decode cX11_judge 151 = .ok (.aload_n 0, 1) := by decide +kernel
theorem dX11_judge_152 : decode cX11_judge 152 = .ok (.getfield 22, 3) := by decide +kernel
theorem dX11_judge_155 : decode cX11_judge 155 = .ok (.getfield 157, 3) := by decide +kernel
theorem dX11_judge_158 : decode cX11_judge 158 = .ok (.iload 4, 2) := by decide +kernel
theorem dX11_judge_160 : decode cX11_judge 160 = .ok (.iaload, 1) := by decide +kernel
theorem dX11_judge_161 : decode cX11_judge 161 = .ok (.iconst 1, 1) := by decide +kernel
theorem dX11_judge_162 : decode cX11_judge 162 = .ok (.if_icmp .eq 5, 3) := by decide +kernel
theorem dX11_judge_165 : decode cX11_judge 165 = .ok (.iload_n 3, 1) := by decide +kernel
theorem dX11_judge_166 : decode cX11_judge 166 = .ok (.ireturn, 1) := by decide +kernel
theorem dX11_judge_167 : decode cX11_judge 167 = .ok (.iinc 3 1, 3) := by decide +kernel
theorem dX11_judge_170 : decode cX11_judge 170 = .ok (.goto (-102), 3) := by decide +kernel
theorem dX11_judge_173 : decode cX11_judge 173 = .ok (.iload_n 2, 1) := by decide +kernel
theorem dX11_judge_174 : decode cX11_judge 174 = .ok (.ireturn, 1) := by decide +kernel
theorem dX11_image_0 : decode cX11_image 0 = .ok (.aload_n 0, 1) := by decide +kernel
theorem dX11_image_1 : decode cX11_image 1 = .ok (.getfield 16, 3) := by decide +kernel
theorem dX11_image_4 : decode cX11_image 4 = .ok (.aload_n 0, 1) := by decide +kernel
theorem dX11_image_5 : decode cX11_image 5 = .ok (.getfield 10, 3) := by decide +kernel
theorem dX11_image_8 : decode cX11_image 8 = .ok (.invokevirtual 351, 3) := by decide +kernel
theorem dX11_image_11 : decode cX11_image 11 = .ok (.aload_n 0, 1) := by decide +kernel
theorem dX11_image_12 : decode cX11_image 12 = .ok (.dup, 1) := by decide +kernel
theorem dX11_image_13 : decode cX11_image 13 = .ok (.getfield 354, 3) := by decide +kernel
theorem dX11_image_16 : decode cX11_image 16 = .ok (.iconst 1, 1) := by decide +kernel
theorem dX11_image_17 : decode cX11_image 17 = .ok (.iadd, 1) := by decide +kernel
theorem dX11_image_18 : decode cX11_image 18 = .ok (.putfield 354, 3) := by decide +kernel
theorem dX11_image_21 : decode cX11_image 21 = .ok (.aload_n 0, 1) := by decide +kernel
theorem dX11_image_22 : decode cX11_image 22 = .ok (.getfield 354, 3) := by decide +kernel
theorem dX11_image_25 : decode cX11_image 25 = .ok (.ireturn, 1) := by decide +kernel
theorem dX11_restore_0 : decode cX11_restore 0 = .ok (.aload_n 0, 1) := by decide +kernel
theorem dX11_restore_1 : decode cX11_restore 1 = .ok (.getfield 354, 3) := by decide +kernel
theorem dX11_restore_4 : decode cX11_restore 4 = .ok (.ifCond .ne 9, 3) := by decide +kernel
theorem dX11_restore_7 : decode cX11_restore 7 = .ok (.aload_n 0, 1) := by decide +kernel
theorem dX11_restore_8 : decode cX11_restore 8 = .ok (.iconst 2, 1) := by decide +kernel
theorem dX11_restore_9 : decode cX11_restore 9 = .ok (.invokevirtual 87, 3) := by decide +kernel
theorem dX11_restore_12 : decode cX11_restore 12 = .ok (.ireturn, 1) := by decide +kernel
theorem dX11_restore_13 : decode cX11_restore 13 = .ok (.aload_n 0, 1) := by decide +kernel
theorem dX11_restore_14 : decode cX11_restore 14 = .ok (.getfield 10, 3) := by decide +kernel
theorem dX11_restore_17 : decode cX11_restore 17 = .ok (.aload_n 0, 1) := by decide +kernel
theorem dX11_restore_18 : decode cX11_restore 18 = .ok (.getfield 16, 3) := by decide +kernel
theorem dX11_restore_21 : decode cX11_restore 21 = .ok (.invokevirtual 351, 3) := by decide +kernel
theorem dX11_restore_24 : decode cX11_restore 24 = .ok (.aload_n 0, 1) := by decide +kernel
theorem dX11_restore_25 : decode cX11_restore 25 = .ok (.getfield 10, 3) := by decide +kernel
theorem dX11_restore_28 : decode cX11_restore 28 = .ok (.getfield 111, 3) := by decide +kernel
theorem dX11_restore_31 : decode cX11_restore 31 = .ok (.getfield 197, 3) := by decide +kernel
theorem dX11_restore_34 : decode cX11_restore 34 = .ok (.ireturn, 1) := by decide +kernel
theorem dX11_tell_0 : decode cX11_tell 0 = .ok (.aload_n 0, 1) := by decide +kernel
theorem dX11_tell_1 : decode cX11_tell 1 = .ok (.getfield 10, 3) := by decide +kernel
theorem dX11_tell_4 : decode cX11_tell 4 = .ok (.getfield 357, 3) := by decide +kernel
theorem dX11_tell_7 : decode cX11_tell 7 = .ok (.bipush 20, 2) := by decide +kernel
theorem dX11_tell_9 : decode cX11_tell 9 = .ok (.if_icmp .lt 9, 3) := by decide +kernel
theorem dX11_tell_12 : decode cX11_tell 12 = .ok (.aload_n 0, 1) := by decide +kernel
theorem dX11_tell_13 : decode cX11_tell 13 = .ok (.iconst 4, 1) := by decide +kernel
theorem dX11_tell_14 : decode cX11_tell 14 = .ok (.invokevirtual 87, 3) := by decide +kernel
theorem dX11_tell_17 : decode cX11_tell 17 = .ok (.ireturn, 1) := by decide +kernel
theorem dX11_tell_18 : decode cX11_tell 18 = .ok (.aload_n 0, 1) := by decide +kernel
theorem dX11_tell_19 : decode cX11_tell 19 = .ok (.getfield 10, 3) := by decide +kernel
theorem dX11_tell_22 : decode cX11_tell 22 = .ok (.getfield 360, 3) := by decide +kernel
theorem dX11_tell_25 : decode cX11_tell 25 = .ok (.aload_n 0, 1) := by decide +kernel
theorem dX11_tell_26 : decode cX11_tell 26 = .ok (.getfield 10, 3) := by decide +kernel
theorem dX11_tell_29 : decode cX11_tell 29 = .ok (.getfield 357, 3) := by decide +kernel
theorem dX11_tell_32 : decode cX11_tell 32 = .ok (.iload_n 1, 1) := by decide +kernel
theorem dX11_tell_33 : decode cX11_tell 33 = .ok (.iastore, 1) := by decide +kernel
theorem dX11_tell_34 : decode cX11_tell 34 = .ok (.aload_n 0, 1) := by decide +kernel
theorem dX11_tell_35 : decode cX11_tell 35 = .ok (.getfield 10, 3) := by decide +kernel
theorem dX11_tell_38 : decode cX11_tell 38 = .ok (.dup, 1) := by decide +kernel
theorem dX11_tell_39 : decode cX11_tell 39 = .ok (.getfield 357, 3) := by decide +kernel
theorem dX11_tell_42 : decode cX11_tell 42 = .ok (.iconst 1, 1) := by decide +kernel
theorem dX11_tell_43 : decode cX11_tell 43 = .ok (.iadd, 1) := by decide +kernel
theorem dX11_tell_44 : decode cX11_tell 44 = .ok (.putfield 357, 3) := by decide +kernel
theorem dX11_tell_47 : decode cX11_tell 47 = .ok (.aload_n 0, 1) := by decide +kernel
theorem dX11_tell_48 : decode cX11_tell 48 = .ok (.getfield 10, 3) := by decide +kernel
theorem dX11_tell_51 : decode cX11_tell 51 = .ok (.getfield 357, 3) := by decide +kernel
theorem dX11_tell_54 : decode cX11_tell 54 = .ok (.ireturn, 1) := by decide +kernel
theorem dX11_check_0 : decode cX11_check 0 = .ok (.aload_n 0, 1) := by decide +kernel
theorem dX11_check_1 : decode cX11_check 1 = .ok (.aload_n 0, 1) := by decide +kernel
theorem dX11_check_2 : decode cX11_check 2 = .ok (.getfield 10, 3) := by decide +kernel
theorem dX11_check_5 : decode cX11_check 5 = .ok (.getfield 360, 3) := by decide +kernel
theorem dX11_check_8 : decode cX11_check 8 = .ok (.aload_n 0, 1) := by decide +kernel
theorem dX11_check_9 : decode cX11_check 9 = .ok (.getfield 10, 3) := by decide +kernel
theorem dX11_check_12 : decode cX11_check 12 = .ok (.getfield 357, 3) := by decide +kernel
theorem dX11_check_15 : decode cX11_check 15 = .ok (.invokevirtual 312, 3) := by decide +kernel
theorem dX11_check_18 : decode cX11_check 18 = .ok (.istore_n 1, 1) := by decide +kernel
theorem dX11_check_19 : decode cX11_check 19 = .ok (.aload_n 0, 1) := by decide +kernel
theorem dX11_check_20 : decode cX11_check 20 = .ok (.getfield 10, 3) := by decide +kernel
theorem dX11_check_23 : decode cX11_check 23 = .ok (.iconst 0, 1) := by decide +kernel
theorem dX11_check_24 : decode cX11_check 24 = .ok (.putfield 357, 3) := by decide +kernel
theorem dX11_check_27 : decode cX11_check 27 = .ok (.iload_n 1, 1) := by decide +kernel
theorem dX11_check_28 : decode cX11_check 28 = .ok (.iconst (-1), 1) := by decide +kernel
theorem dX11_check_29 : decode cX11_check 29 = .ok (.if_icmp .ne 7, 3) := by decide +kernel
theorem dX11_check_32 : decode cX11_check 32 = .ok (.iconst 0, 1) := by decide +kernel
theorem dX11_check_33 : decode cX11_check 33 = .ok (.goto 6, 3) := by decide +kernel
theorem dX11_check_36 : decode cX11_check 36 = .ok (.iconst 1, 1) := by decide +kernel
theorem dX11_check_37 : decode cX11_check 37 = .ok (.iload_n 1, 1) := by decide +kernel
theorem dX11_check_38 : decode cX11_check 38 = .ok (.iadd, 1) := by decide +kernel
theorem dX11_check_39 : decode cX11_check 39 = .ok (.ireturn, 1) := by decide +kernel
theorem dX11_count_0 : decode cX11_count 0 = .ok (.iload_n 1, 1) := by decide +kernel
theorem dX11_count_1 : decode cX11_count 1 = .ok (.tableswitch 183 0 11 #[63, 71, 79, 90, 101, 112, 123, 134, 151, 159, 167, 175], 63) := by decide +kernel
theorem dX11_count_64 : decode cX11_count 64 = .ok (.aload_n 0, 1) := by decide +kernel
theorem dX11_count_65 : decode cX11_count 65 = .ok (.getfield 10, 3) := by decide +kernel
theorem dX11_count_68 : decode cX11_count 68 = .ok (.getfield 91, 3) := by decide +kernel
theorem dX11_count_71 : decode cX11_count 71 = .ok (.ireturn, 1) := by decide +kernel
theorem dX11_count_72 : decode cX11_count 72 = .ok (.aload_n 0, 1) := by decide +kernel
theorem dX11_count_73 : decode cX11_count 73 = .ok (.getfield 10, 3) := by decide +kernel
theorem dX11_count_76 : decode cX11_count 76 = .ok (.getfield 135, 3) := by decide +kernel
theorem dX11_count_79 : decode cX11_count 79 = .ok (.ireturn, 1) := by decide +kernel
theorem dX11_count_80 : decode cX11_count 80 = .ok (.aload_n 0, 1) := by decide +kernel
theorem dX11_count_81 : decode cX11_count 81 = .ok (.getfield 10, 3) := by decide +kernel
theorem dX11_count_84 : decode cX11_count 84 = .ok (.getfield 111, 3) := by decide +kernel
theorem dX11_count_87 : decode cX11_count 87 = .ok (.getfield 197, 3) := by decide +kernel
theorem dX11_count_90 : decode cX11_count 90 = .ok (.ireturn, 1) := by decide +kernel
theorem dX11_count_91 : decode cX11_count 91 = .ok (.aload_n 0, 1) := by decide +kernel
theorem dX11_count_92 : decode cX11_count 92 = .ok (.getfield 10, 3) := by decide +kernel
theorem dX11_count_95 : decode cX11_count 95 = .ok (.getfield 111, 3) := by decide +kernel
theorem dX11_count_98 : decode cX11_count 98 = .ok (.getfield 204, 3) := by decide +kernel
theorem dX11_count_101 : decode cX11_count 101 = .ok (.ireturn, 1) := by decide +kernel
theorem dX11_count_102 : decode cX11_count 102 = .ok (.aload_n 0, 1) := by decide +kernel
theorem dX11_count_103 : decode cX11_count 103 = .ok (.getfield 10, 3) := by decide +kernel
theorem dX11_count_106 : decode cX11_count 106 = .ok (.getfield 111, 3) := by decide +kernel
theorem dX11_count_109 : decode cX11_count 109 = .ok (.getfield 182, 3) := by decide +kernel
theorem dX11_count_112 : decode cX11_count 112 = .ok (.ireturn, 1) := by decide +kernel
theorem dX11_count_113 : decode cX11_count 113 = .ok (.aload_n 0, 1) := by decide +kernel
theorem dX11_count_114 : decode cX11_count 114 = .ok (.getfield 10, 3) := by decide +kernel
theorem dX11_count_117 : decode cX11_count 117 = .ok (.getfield 111, 3) := by decide +kernel
theorem dX11_count_120 : decode cX11_count 120 = .ok (.getfield 160, 3) := by decide +kernel
theorem dX11_count_123 : decode cX11_count 123 = .ok (.ireturn, 1) := by decide +kernel
theorem dX11_count_124 : decode cX11_count 124 = .ok (.aload_n 0, 1) := by decide +kernel
theorem dX11_count_125 : decode cX11_count 125 = .ok (.getfield 10, 3) := by decide +kernel
theorem dX11_count_128 : decode cX11_count 128 = .ok (.getfield 111, 3) := by decide +kernel
theorem dX11_count_131 : decode cX11_count 131 = .ok (.getfield 363, 3) := by decide +kernel
theorem dX11_count_134 : decode cX11_count 134 = .ok (.ireturn, 1) := by decide +kernel
theorem dX11_count_135 : decode cX11_count 135 = .ok (.aload_n 0, 1) := by decide +kernel
theorem dX11_count_136 : decode cX11_count 136 = .ok (.getfield 10, 3) := by decide +kernel
theorem dX11_count_139 : decode cX11_count 139 = .ok (.aload_n 0, 1) := by decide +kernel
theorem dX11_count_140 : decode cX11_count 140 = .ok (.getfield 10, 3) := by decide +kernel
theorem dX11_count_143 : decode cX11_count 143 = .ok (.invokevirtual 246, 3) := by decide +kernel
theorem dX11_count_146 : decode cX11_count 146 = .ok (.iconst 1, 1) := by decide +kernel
theorem dX11_count_147 : decode cX11_count 147 = .ok (.isub, 1) := by decide +kernel
theorem dX11_count_148 : decode cX11_count 148 = .ok (.invokevirtual 366, 3) := by decide +kernel
theorem dX11_count_151 : decode cX11_count 151 = .ok (.ireturn, 1) := by decide +kernel
theorem dX11_count_152 : decode cX11_count 152 = .ok (.aload_n 0, 1) := by decide +kernel
theorem dX11_count_153 : decode cX11_count 153 = .ok (.getfield 10, 3) := by decide +kernel
theorem dX11_count_156 : decode cX11_count 156 = .ok (.getfield 214, 3) := by decide +kernel
theorem dX11_count_159 : decode cX11_count 159 = .ok (.ireturn, 1) := by decide +kernel
theorem dX11_count_160 : decode cX11_count 160 = .ok (.aload_n 0, 1) := by decide +kernel
theorem dX11_count_161 : decode cX11_count 161 = .ok (.getfield 10, 3) := by decide +kernel
theorem dX11_count_164 : decode cX11_count 164 = .ok (.getfield 357, 3) := by decide +kernel
theorem dX11_count_167 : decode cX11_count 167 = .ok (.ireturn, 1) := by decide +kernel
theorem dX11_count_168 : decode cX11_count 168 = .ok (.aload_n 0, 1) := by decide +kernel
theorem dX11_count_169 : decode cX11_count 169 = .ok (.getfield 64, 3) := by decide +kernel
theorem dX11_count_172 : decode cX11_count 172 = .ok (.getfield 323, 3) := by decide +kernel
theorem dX11_count_175 : decode cX11_count 175 = .ok (.ireturn, 1) := by decide +kernel
theorem dX11_count_176 : decode cX11_count 176 = .ok (.aload_n 0, 1) := by decide +kernel
theorem dX11_count_177 : decode cX11_count 177 = .ok (.getfield 10, 3) := by decide +kernel
theorem dX11_count_180 : decode cX11_count 180 = .ok (.getfield 316, 3) := by decide +kernel
theorem dX11_count_183 : decode cX11_count 183 = .ok (.ireturn, 1) := by decide +kernel
theorem dX11_count_184 : decode cX11_count 184 = .ok (.aload_n 0, 1) := by decide +kernel
theorem dX11_count_185 : decode cX11_count 185 = .ok (.iconst 1, 1) := by decide +kernel
theorem dX11_count_186 : decode cX11_count 186 = .ok (.invokevirtual 87, 3) := by decide +kernel
theorem dX11_count_189 : decode cX11_count 189 = .ok (.ireturn, 1) := by decide +kernel
theorem dX11_told_0 : decode cX11_told 0 = .ok (.iload_n 1, 1) := by decide +kernel
theorem dX11_told_1 : decode cX11_told 1 = .ok (.iconst 1, 1) := by decide +kernel
theorem dX11_told_2 : decode cX11_told 2 = .ok (.iconst 5, 1) := by decide +kernel
theorem dX11_told_3 : decode cX11_told 3 = .ok (.invokestatic 83, 3) := by decide +kernel
theorem dX11_told_6 : decode cX11_told 6 = .ok (.ifCond .eq 12, 3) := by decide +kernel
theorem dX11_told_9 : decode cX11_told 9 = .ok (.aload_n 0, 1) := by decide +kernel
theorem dX11_told_10 : decode cX11_told 10 = .ok (.getfield 75, 3) := by decide +kernel
theorem dX11_told_13 : decode cX11_told 13 = .ok (.iload_n 1, 1) := by decide +kernel
theorem dX11_told_14 : decode cX11_told 14 = .ok (.iaload, 1) := by decide +kernel
theorem dX11_told_15 : decode cX11_told 15 = .ok (.goto 8, 3) := by decide +kernel
theorem dX11_told_18 : decode cX11_told 18 = .ok (.aload_n 0, 1) := by decide +kernel
theorem dX11_told_19 : decode cX11_told 19 = .ok (.iconst 1, 1) := by decide +kernel
theorem dX11_told_20 : decode cX11_told 20 = .ok (.invokevirtual 87, 3) := by decide +kernel
theorem dX11_told_23 : decode cX11_told 23 = .ok (.ireturn, 1) := by decide +kernel
theorem dX11_refuse_0 : decode cX11_refuse 0 = .ok (.iload_n 1, 1) := by decide +kernel
theorem dX11_refuse_1 : decode cX11_refuse 1 = .ok (.iconst 0, 1) := by decide +kernel
theorem dX11_refuse_2 : decode cX11_refuse 2 = .ok (.aload_n 0, 1) := by decide +kernel
theorem dX11_refuse_3 : decode cX11_refuse 3 = .ok (.getfield 75, 3) := by decide +kernel
theorem dX11_refuse_6 : decode cX11_refuse 6 = .ok (.arraylength, 1) := by decide +kernel
theorem dX11_refuse_7 : decode cX11_refuse 7 = .ok (.iconst 1, 1) := by decide +kernel
theorem dX11_refuse_8 : decode cX11_refuse 8 = .ok (.isub, 1) := by decide +kernel
theorem dX11_refuse_9 : decode cX11_refuse 9 = .ok (.invokestatic 83, 3) := by decide +kernel
theorem dX11_refuse_12 : decode cX11_refuse 12 = .ok (.ifCond .eq 13, 3) := by decide +kernel
theorem dX11_refuse_15 : decode cX11_refuse 15 = .ok (.aload_n 0, 1) := by decide +kernel
theorem dX11_refuse_16 : decode cX11_refuse 16 = .ok (.getfield 75, 3) := by decide +kernel
theorem dX11_refuse_19 : decode cX11_refuse 19 = .ok (.iload_n 1, 1) := by decide +kernel
theorem dX11_refuse_20 : decode cX11_refuse 20 = .ok (.dup2, 1) := by decide +kernel
theorem dX11_refuse_21 : decode cX11_refuse 21 = .ok (.iaload, 1) := by decide +kernel
theorem dX11_refuse_22 : decode cX11_refuse 22 = .ok (.iconst 1, 1) := by decide +kernel
theorem dX11_refuse_23 : decode cX11_refuse 23 = .ok (.iadd, 1) := by decide +kernel
theorem dX11_refuse_24 : decode cX11_refuse 24 = .ok (.iastore, 1) := by decide +kernel
theorem dX11_refuse_25 : decode cX11_refuse 25 = .ok (.ldc_w 369, 3) := by decide +kernel
theorem dX11_refuse_28 : decode cX11_refuse 28 = .ok (.iload_n 1, 1) := by decide +kernel
theorem dX11_refuse_29 : decode cX11_refuse 29 = .ok (.isub, 1) := by decide +kernel
theorem dX11_refuse_30 : decode cX11_refuse 30 = .ok (.ireturn, 1) := by decide +kernel
theorem dX11_within_0 : decode cX11_within 0 = .ok (.iload_n 0, 1) := by decide +kernel
theorem dX11_within_1 : decode cX11_within 1 = .ok (.iload_n 1, 1) := by decide +kernel
theorem dX11_within_2 : decode cX11_within 2 = .ok (.if_icmp .lt 12, 3) := by decide +kernel
theorem dX11_within_5 : decode cX11_within 5 = .ok (.iload_n 0, 1) := by decide +kernel
theorem dX11_within_6 : decode cX11_within 6 = .ok (.iload_n 2, 1) := by decide +kernel
theorem dX11_within_7 : decode cX11_within 7 = .ok (.if_icmp .gt 7, 3) := by decide +kernel
theorem dX11_within_10 : decode cX11_within 10 = .ok (.iconst 1, 1) := by decide +kernel
theorem dX11_within_11 : decode cX11_within 11 = .ok (.goto 4, 3) := by decide +kernel
theorem dX11_within_14 : decode cX11_within 14 = .ok (.iconst 0, 1) := by decide +kernel
theorem dX11_within_15 : decode cX11_within 15 = .ok (.ireturn, 1) := by decide +kernel
theorem dX11_isKm_0 : decode cX11_isKm 0 = .ok (.iload_n 0, 1) := by decide +kernel
theorem dX11_isKm_1 : decode cX11_isKm 1 = .ok (.iconst 0, 1) := by decide +kernel
theorem dX11_isKm_2 : decode cX11_isKm 2 = .ok (.bipush 69, 2) := by decide +kernel
theorem dX11_isKm_4 : decode cX11_isKm 4 = .ok (.invokestatic 83, 3) := by decide +kernel
theorem dX11_isKm_7 : decode cX11_isKm 7 = .ok (.ireturn, 1) := by decide +kernel
theorem dX11_areTwo_0 : decode cX11_areTwo 0 = .ok (.aload_n 0, 1) := by decide +kernel
theorem dX11_areTwo_1 : decode cX11_areTwo 1 = .ok (.getfield 10, 3) := by decide +kernel
theorem dX11_areTwo_4 : decode cX11_areTwo 4 = .ok (.iload_n 1, 1) := by decide +kernel
theorem dX11_areTwo_5 : decode cX11_areTwo 5 = .ok (.invokevirtual 99, 3) := by decide +kernel
theorem dX11_areTwo_8 : decode cX11_areTwo 8 = .ok (.ifCond .eq 23, 3) := by decide +kernel
theorem dX11_areTwo_11 : decode cX11_areTwo 11 = .ok (.aload_n 0, 1) := by decide +kernel
theorem dX11_areTwo_12 : decode cX11_areTwo 12 = .ok (.getfield 10, 3) := by decide +kernel
theorem dX11_areTwo_15 : decode cX11_areTwo 15 = .ok (.iload_n 2, 1) := by decide +kernel
theorem dX11_areTwo_16 : decode cX11_areTwo 16 = .ok (.invokevirtual 99, 3) := by decide +kernel
theorem dX11_areTwo_19 : decode cX11_areTwo 19 = .ok (.ifCond .eq 12, 3) := by decide +kernel
theorem dX11_areTwo_22 : decode cX11_areTwo 22 = .ok (.iload_n 1, 1) := by decide +kernel
theorem dX11_areTwo_23 : decode cX11_areTwo 23 = .ok (.iload_n 2, 1) := by decide +kernel
theorem dX11_areTwo_24 : decode cX11_areTwo 24 = .ok (.if_icmp .eq 7, 3) := by decide +kernel
theorem dX11_areTwo_27 : decode cX11_areTwo 27 = .ok (.iconst 1, 1) := by decide +kernel
theorem dX11_areTwo_28 : decode cX11_areTwo 28 = .ok (.goto 4, 3) := by decide +kernel
theorem dX11_areTwo_31 : decode cX11_areTwo 31 = .ok (.iconst 0, 1) := by decide +kernel
theorem dX11_areTwo_32 : decode cX11_areTwo 32 = .ok (.ireturn, 1) := by decide +kernel
theorem dX11_firstUnlike_0 : decode cX11_firstUnlike 0 = .ok (.aload_n 0, 1) := by decide +kernel
theorem dX11_firstUnlike_1 : decode cX11_firstUnlike 1 = .ok (.getfield 22, 3) := by decide +kernel
theorem dX11_firstUnlike_4 : decode cX11_firstUnlike 4 = .ok (.aload_n 0, 1) := by decide +kernel
theorem dX11_firstUnlike_5 : decode cX11_firstUnlike 5 = .ok (.getfield 10, 3) := by decide +kernel
theorem dX11_firstUnlike_8 : decode cX11_firstUnlike 8 = .ok (.getfield 111, 3) := by decide +kernel
theorem dX11_firstUnlike_11 : decode cX11_firstUnlike 11 = .ok (.invokevirtual 210, 3) := by decide +kernel
theorem dX11_firstUnlike_14 : decode cX11_firstUnlike 14 = .ok (.iconst 0, 1) := by decide +kernel
theorem dX11_firstUnlike_15 : decode cX11_firstUnlike 15 = .ok (.istore_n 3, 1) := by decide +kernel
theorem dX11_firstUnlike_16 : decode cX11_firstUnlike 16 = .ok (.iload_n 3, 1) := by decide +kernel
theorem dX11_firstUnlike_17 : decode cX11_firstUnlike 17 = .ok (.iload_n 2, 1) := by decide +kernel
theorem dX11_firstUnlike_18 : decode cX11_firstUnlike 18 = .ok (.if_icmp .ge 42, 3) := by decide +kernel
theorem dX11_firstUnlike_21 : decode cX11_firstUnlike 21 = .ok (.iload_n 3, 1) := by decide +kernel
theorem dX11_firstUnlike_22 : decode cX11_firstUnlike 22 = .ok (.aload_n 1, 1) := by decide +kernel
theorem dX11_firstUnlike_23 : decode cX11_firstUnlike 23 = .ok (.arraylength, 1) := by decide +kernel
theorem dX11_firstUnlike_24 : decode cX11_firstUnlike 24 = .ok (.if_icmp .ge 36, 3) := by decide +kernel
theorem dX11_firstUnlike_27 : decode cX11_firstUnlike 27 = .ok (.aload_n 0, 1) := by decide +kernel
theorem dX11_firstUnlike_28 : decode cX11_firstUnlike 28 = .ok (.getfield 10, 3) := by decide +kernel
theorem dX11_firstUnlike_31 : decode cX11_firstUnlike 31 = .ok (.aload_n 0, 1) := by decide +kernel
theorem dX11_firstUnlike_32 : decode cX11_firstUnlike 32 = .ok (.getfield 22, 3) := by decide +kernel
theorem dX11_firstUnlike_35 : decode cX11_firstUnlike 35 = .ok (.iconst 1, 1) := by decide +kernel
theorem dX11_firstUnlike_36 : decode cX11_firstUnlike 36 = .ok (.invokevirtual 201, 3) := by decide +kernel
theorem dX11_firstUnlike_39 : decode cX11_firstUnlike 39 = .ok (.aload_n 0, 1) := by decide +kernel
theorem dX11_firstUnlike_40 : decode cX11_firstUnlike 40 = .ok (.getfield 22, 3) := by decide +kernel
theorem dX11_firstUnlike_43 : decode cX11_firstUnlike 43 = .ok (.getfield 204, 3) := by decide +kernel
theorem dX11_firstUnlike_46 : decode cX11_firstUnlike 46 = .ok (.aload_n 1, 1) := by decide +kernel
theorem dX11_firstUnlike_47 : decode cX11_firstUnlike 47 = .ok (.iload_n 3, 1) := by decide +kernel
theorem dX11_firstUnlike_48 : decode cX11_firstUnlike 48 = .ok (.iaload, 1) := by decide +kernel
theorem dX11_firstUnlike_49 : decode cX11_firstUnlike 49 = .ok (.if_icmp .eq 5, 3) := by decide +kernel
theorem dX11_firstUnlike_52 : decode cX11_firstUnlike 52 = .ok (.iload_n 3, 1) := by decide +kernel
theorem dX11_firstUnlike_53 : decode cX11_firstUnlike 53 = .ok (.ireturn, 1) := by decide +kernel
theorem dX11_firstUnlike_54 : decode cX11_firstUnlike 54 = .ok (.iinc 3 1, 3) := by decide +kernel
theorem dX11_firstUnlike_57 : decode cX11_firstUnlike 57 = .ok (.goto (-41), 3) := by decide +kernel
theorem dX11_firstUnlike_60 : decode cX11_firstUnlike 60 = .ok (.iconst (-1), 1) := by decide +kernel
theorem dX11_firstUnlike_61 : decode cX11_firstUnlike 61 = .ok (.ireturn, 1) := by decide +kernel
theorem dX11_held_0 : decode cX11_held 0 = .ok (.iload_n 1, 1) := by decide +kernel
theorem dX11_held_1 : decode cX11_held 1 = .ok (.iload_n 2, 1) := by decide +kernel
theorem dX11_held_2 : decode cX11_held 2 = .ok (.iload_n 0, 1) := by decide +kernel
theorem dX11_held_3 : decode cX11_held 3 = .ok (.invokestatic 163, 3) := by decide +kernel
theorem dX11_held_6 : decode cX11_held 6 = .ok (.invokestatic 370, 3) := by decide +kernel
theorem dX11_held_9 : decode cX11_held 9 = .ok (.ireturn, 1) := by decide +kernel
theorem dX11_quotient_0 : decode cX11_quotient 0 = .ok (.iload_n 1, 1) := by decide +kernel
theorem dX11_quotient_1 : decode cX11_quotient 1 = .ok (.ifCond .ne 7, 3) := by decide +kernel
theorem dX11_quotient_4 : decode cX11_quotient 4 = .ok (.iconst 0, 1) := by decide +kernel
theorem dX11_quotient_5 : decode cX11_quotient 5 = .ok (.goto 6, 3) := by decide +kernel
theorem dX11_quotient_8 : decode cX11_quotient 8 = .ok (.iload_n 0, 1) := by decide +kernel
theorem dX11_quotient_9 : decode cX11_quotient 9 = .ok (.iload_n 1, 1) := by decide +kernel
theorem dX11_quotient_10 : decode cX11_quotient 10 = .ok (.idiv, 1) := by decide +kernel
theorem dX11_quotient_11 : decode cX11_quotient 11 = .ok (.ireturn, 1) := by decide +kernel
theorem dX11_common_0 : decode cX11_common 0 = .ok (.lload_n 0, 1) := by decide +kernel
theorem dX11_common_1 : decode cX11_common 1 = .ok (.lstore 4, 2) := by decide +kernel
theorem dX11_common_3 : decode cX11_common 3 = .ok (.lload_n 2, 1) := by decide +kernel
theorem dX11_common_4 : decode cX11_common 4 = .ok (.lstore 6, 2) := by decide +kernel
theorem dX11_common_6 : decode cX11_common 6 = .ok (.iconst 0, 1) := by decide +kernel
theorem dX11_common_7 : decode cX11_common 7 = .ok (.istore 8, 2) := by decide +kernel
theorem dX11_common_9 : decode cX11_common 9 = .ok (.iload 8, 2) := by decide +kernel
theorem dX11_common_11 : decode cX11_common 11 = .ok (.sipush 200, 3) := by decide +kernel
theorem dX11_common_14 : decode cX11_common 14 = .ok (.if_icmp .ge 31, 3) := by decide +kernel
theorem dX11_common_17 : decode cX11_common 17 = .ok (.lload 6, 2) := by decide +kernel
theorem dX11_common_19 : decode cX11_common 19 = .ok (.lconst 0, 1) := by decide +kernel
theorem dX11_common_20 : decode cX11_common 20 = .ok (.lcmp, 1) := by decide +kernel
theorem dX11_common_21 : decode cX11_common 21 = .ok (.ifCond .eq 24, 3) := by decide +kernel
theorem dX11_common_24 : decode cX11_common 24 = .ok (.lload 4, 2) := by decide +kernel
theorem dX11_common_26 : decode cX11_common 26 = .ok (.lload 6, 2) := by decide +kernel
theorem dX11_common_28 : decode cX11_common 28 = .ok (.lrem, 1) := by decide +kernel
theorem dX11_common_29 : decode cX11_common 29 = .ok (.lstore 9, 2) := by decide +kernel
theorem dX11_common_31 : decode cX11_common 31 = .ok (.lload 6, 2) := by decide +kernel
theorem dX11_common_33 : decode cX11_common 33 = .ok (.lstore 4, 2) := by decide +kernel
theorem dX11_common_35 : decode cX11_common 35 = .ok (.lload 9, 2) := by decide +kernel
theorem dX11_common_37 : decode cX11_common 37 = .ok (.lstore 6, 2) := by decide +kernel
theorem dX11_common_39 : decode cX11_common 39 = .ok (.iinc 8 1, 3) := by decide +kernel
theorem dX11_common_42 : decode cX11_common 42 = .ok (.goto (-33), 3) := by decide +kernel
theorem dX11_common_45 : decode cX11_common 45 = .ok (.lload 4, 2) := by decide +kernel
theorem dX11_common_47 : decode cX11_common 47 = .ok (.lreturn, 1) := by decide +kernel
theorem dX11_partOf_0 : decode cX11_partOf 0 = .ok (.lload_n 0, 1) := by decide +kernel
theorem dX11_partOf_1 : decode cX11_partOf 1 = .ok (.invokestatic 373, 3) := by decide +kernel
theorem dX11_partOf_4 : decode cX11_partOf 4 = .ok (.lload_n 2, 1) := by decide +kernel
theorem dX11_partOf_5 : decode cX11_partOf 5 = .ok (.invokestatic 377, 3) := by decide +kernel
theorem dX11_partOf_8 : decode cX11_partOf 8 = .ok (.lstore 5, 2) := by decide +kernel
theorem dX11_partOf_10 : decode cX11_partOf 10 = .ok (.iload 4, 2) := by decide +kernel
theorem dX11_partOf_12 : decode cX11_partOf 12 = .ok (.ifCond .ne 7, 3) := by decide +kernel
theorem dX11_partOf_15 : decode cX11_partOf 15 = .ok (.lload_n 0, 1) := by decide +kernel
theorem dX11_partOf_16 : decode cX11_partOf 16 = .ok (.goto 4, 3) := by decide +kernel
theorem dX11_partOf_19 : decode cX11_partOf 19 = .ok (.lload_n 2, 1) := by decide +kernel
theorem dX11_partOf_20 : decode cX11_partOf 20 = .ok (.lstore 7, 2) := by decide +kernel
theorem dX11_partOf_22 : decode cX11_partOf 22 = .ok (.lload 5, 2) := by decide +kernel
theorem dX11_partOf_24 : decode cX11_partOf 24 = .ok (.lconst 0, 1) := by decide +kernel
theorem dX11_partOf_25 : decode cX11_partOf 25 = .ok (.lcmp, 1) := by decide +kernel
theorem dX11_partOf_26 : decode cX11_partOf 26 = .ok (.ifCond .ne 8, 3) := by decide +kernel
theorem dX11_partOf_29 : decode cX11_partOf 29 = .ok (.lload 7, 2) := by decide +kernel
theorem dX11_partOf_31 : decode cX11_partOf 31 = .ok (.goto 8, 3) := by decide +kernel
theorem dX11_partOf_34 : decode cX11_partOf 34 = .ok (.lload 7, 2) := by decide +kernel
theorem dX11_partOf_36 : decode cX11_partOf 36 = .ok (.lload 5, 2) := by decide +kernel
theorem dX11_partOf_38 : decode cX11_partOf 38 = .ok (.ldiv, 1) := by decide +kernel
theorem dX11_partOf_39 : decode cX11_partOf 39 = .ok (.lreturn, 1) := by decide +kernel
theorem dX12_init_0 : decode cX12_init 0 = .ok (.aload_n 0, 1) := by decide +kernel
theorem dX12_init_1 : decode cX12_init 1 = .ok (.invokespecial 1, 3) := by decide +kernel
theorem dX12_init_4 : decode cX12_init 4 = .ok (.aload_n 0, 1) := by decide +kernel
theorem dX12_init_5 : decode cX12_init 5 = .ok (.sipush 264, 3) := by decide +kernel
theorem dX12_init_8 : decode cX12_init 8 = .ok (.newarray .int, 2) := by decide +kernel
theorem dX12_init_10 : decode cX12_init 10 = .ok (.putfield 7, 3) := by decide +kernel
theorem dX12_init_13 : decode cX12_init 13 = .ok (.aload_n 0, 1) := by decide +kernel
theorem dX12_init_14 : decode cX12_init 14 = .ok (.sipush 264, 3) := by decide +kernel
theorem dX12_init_17 : decode cX12_init 17 = .ok (.newarray .int, 2) := by decide +kernel
theorem dX12_init_19 : decode cX12_init 19 = .ok (.putfield 13, 3) := by decide +kernel
theorem dX12_init_22 : decode cX12_init 22 = .ok (.aload_n 0, 1) := by decide +kernel
theorem dX12_init_23 : decode cX12_init 23 = .ok (.bipush 90, 2) := by decide +kernel
theorem dX12_init_25 : decode cX12_init 25 = .ok (.newarray .int, 2) := by decide +kernel
theorem dX12_init_27 : decode cX12_init 27 = .ok (.putfield 16, 3) := by decide +kernel
theorem dX12_init_30 : decode cX12_init 30 = .ok (.aload_n 0, 1) := by decide +kernel
theorem dX12_init_31 : decode cX12_init 31 = .ok (.bipush 6, 2) := by decide +kernel
theorem dX12_init_33 : decode cX12_init 33 = .ok (.newarray .int, 2) := by decide +kernel
theorem dX12_init_35 : decode cX12_init 35 = .ok (.putfield 19, 3) := by decide +kernel
theorem dX12_init_38 : decode cX12_init 38 = .ok (.aload_n 0, 1) := by decide +kernel
theorem dX12_init_39 : decode cX12_init 39 = .ok (.iconst 3, 1) := by decide +kernel
theorem dX12_init_40 : decode cX12_init 40 = .ok (.newarray .int, 2) := by decide +kernel
theorem dX12_init_42 : decode cX12_init 42 = .ok (.putfield 22, 3) := by decide +kernel
theorem dX12_init_45 : decode cX12_init 45 = .ok (.aload_n 0, 1) := by decide +kernel
theorem dX12_init_46 : decode cX12_init 46 = .ok (.iconst 5, 1) := by decide +kernel
theorem dX12_init_47 : decode cX12_init 47 = .ok (.newarray .int, 2) := by decide +kernel
theorem dX12_init_49 : decode cX12_init 49 = .ok (.putfield 25, 3) := by decide +kernel
theorem dX12_init_52 : decode cX12_init 52 = .ok (.aload_n 0, 1) := by decide +kernel
theorem dX12_init_53 : decode cX12_init 53 = .ok (.bipush 7, 2) := by decide +kernel
theorem dX12_init_55 : decode cX12_init 55 = .ok (.newarray .int, 2) := by decide +kernel
theorem dX12_init_57 : decode cX12_init 57 = .ok (.putfield 28, 3) := by decide +kernel
theorem dX12_init_60 : decode cX12_init 60 = .ok (.aload_n 0, 1) := by decide +kernel
theorem dX12_init_61 : decode cX12_init 61 = .ok (.bipush 7, 2) := by decide +kernel
theorem dX12_init_63 : decode cX12_init 63 = .ok (.newarray .int, 2) := by decide +kernel
theorem dX12_init_65 : decode cX12_init 65 = .ok (.putfield 31, 3) := by decide +kernel
theorem dX12_init_68 : decode cX12_init 68 = .ok (.aload_n 0, 1) := by decide +kernel
theorem dX12_init_69 : decode cX12_init 69 = .ok (.bipush 7, 2) := by decide +kernel
theorem dX12_init_71 : decode cX12_init 71 = .ok (.newarray .int, 2) := by decide +kernel
theorem dX12_init_73 : decode cX12_init 73 = .ok (.putfield 34, 3) := by decide +kernel
theorem dX12_init_76 : decode cX12_init 76 = .ok (.aload_n 0, 1) := by decide +kernel
theorem dX12_init_77 : decode cX12_init 77 = .ok (.iconst 5, 1) := by decide +kernel
theorem dX12_init_78 : decode cX12_init 78 = .ok (.newarray .int, 2) := by decide +kernel
theorem dX12_init_80 : decode cX12_init 80 = .ok (.putfield 37, 3) := by decide +kernel
theorem dX12_init_83 : decode cX12_init 83 = .ok (.aload_n 0, 1) := by decide +kernel
theorem dX12_init_84 : decode cX12_init 84 = .ok (.bipush 16, 2) := by decide +kernel
theorem dX12_init_86 : decode cX12_init 86 = .ok (.newarray .int, 2) := by decide +kernel
theorem dX12_init_88 : decode cX12_init 88 = .ok (.putfield 40, 3) := by decide +kernel
theorem dX12_init_91 : decode cX12_init 91 = .ok (.aload_n 0, 1) := by decide +kernel
theorem dX12_init_92 : decode cX12_init 92 = .ok (.iconst 4, 1) := by decide +kernel
theorem dX12_init_93 : decode cX12_init 93 = .ok (.newarray .int, 2) := by decide +kernel
theorem dX12_init_95 : decode cX12_init 95 = .ok (.putfield 43, 3) := by decide +kernel
theorem dX12_init_98 : decode cX12_init 98 = .ok (.aload_n 0, 1) := by decide +kernel
theorem dX12_init_99 : decode cX12_init 99 = .ok (.sipush 450, 3) := by decide +kernel
theorem dX12_init_102 : decode cX12_init 102 = .ok (.newarray .int, 2) := by decide +kernel
theorem dX12_init_104 : decode cX12_init 104 = .ok (.putfield 46, 3) := by decide +kernel
theorem dX12_init_107 : decode cX12_init 107 = .ok (.aload_n 0, 1) := by decide +kernel
theorem dX12_init_108 : decode cX12_init 108 = .ok (.bipush 6, 2) := by decide +kernel
theorem dX12_init_110 : decode cX12_init 110 = .ok (.newarray .int, 2) := by decide +kernel
theorem dX12_init_112 : decode cX12_init 112 = .ok (.putfield 49, 3) := by decide +kernel
theorem dX12_init_115 : decode cX12_init 115 = .ok (.aload_n 0, 1) := by decide +kernel
theorem dX12_init_116 : decode cX12_init 116 = .ok (.bipush 6, 2) := by decide +kernel
theorem dX12_init_118 : decode cX12_init 118 = .ok (.newarray .int, 2) := by decide +kernel
theorem dX12_init_120 : decode cX12_init 120 = .ok (.putfield 52, 3) := by decide +kernel
theorem dX12_init_123 : decode cX12_init 123 = .ok (.aload_n 0, 1) := by decide +kernel
theorem dX12_init_124 : decode cX12_init 124 = .ok (.bipush 6, 2) := by decide +kernel
theorem dX12_init_126 : decode cX12_init 126 = .ok (.newarray .int, 2) := by decide +kernel
theorem dX12_init_128 : decode cX12_init 128 = .ok (.putfield 55, 3) := by decide +kernel
theorem dX12_init_131 : decode cX12_init 131 = .ok (.aload_n 0, 1) := by decide +kernel
theorem dX12_init_132 : decode cX12_init 132 = .ok (.bipush 6, 2) := by decide +kernel
theorem dX12_init_134 : decode cX12_init 134 = .ok (.newarray .int, 2) := by decide +kernel
theorem dX12_init_136 : decode cX12_init 136 = .ok (.putfield 58, 3) := by decide +kernel
theorem dX12_init_139 : decode cX12_init 139 = .ok (.aload_n 0, 1) := by decide +kernel
theorem dX12_init_140 : decode cX12_init 140 = .ok (.bipush 10, 2) := by decide +kernel
theorem dX12_init_142 : decode cX12_init 142 = .ok (.newarray .int, 2) := by decide +kernel
theorem dX12_init_144 : decode cX12_init 144 = .ok (.putfield 61, 3) := by decide +kernel
theorem dX12_init_147 : decode cX12_init 147 = .ok (.aload_n 0, 1) := by decide +kernel
theorem dX12_init_148 : decode cX12_init 148 = .ok (.bipush 40, 2) := by decide +kernel
theorem dX12_init_150 : decode cX12_init 150 = .ok (.newarray .int, 2) := by decide +kernel
theorem dX12_init_152 : decode cX12_init 152 = .ok (.putfield 64, 3) := by decide +kernel
theorem dX12_init_155 : decode cX12_init 155 = .ok (.aload_n 0, 1) := by decide +kernel
theorem dX12_init_156 : decode cX12_init 156 = .ok (.iconst 4, 1) := by decide +kernel
theorem dX12_init_157 : decode cX12_init 157 = .ok (.newarray .int, 2) := by decide +kernel
theorem dX12_init_159 : decode cX12_init 159 = .ok (.putfield 67, 3) := by decide +kernel
theorem dX12_init_162 : decode cX12_init 162 = .ok (.aload_n 0, 1) := by decide +kernel
theorem dX12_init_163 : decode cX12_init 163 = .ok (.iconst 4, 1) := by decide +kernel
theorem dX12_init_164 : decode cX12_init 164 = .ok (.newarray .int, 2) := by decide +kernel
theorem dX12_init_166 : decode cX12_init 166 = .ok (.putfield 70, 3) := by decide +kernel
theorem dX12_init_169 : decode cX12_init 169 = .ok (.aload_n 0, 1) := by decide +kernel
theorem dX12_init_170 : decode cX12_init 170 = .ok (.sipush 160, 3) := by decide +kernel
theorem dX12_init_173 : decode cX12_init 173 = .ok (.newarray .int, 2) := by decide +kernel
theorem dX12_init_175 : decode cX12_init 175 = .ok (.putfield 73, 3) := by decide +kernel
theorem dX12_init_178 : decode cX12_init 178 = .ok (.aload_n 0, 1) := by decide +kernel
theorem dX12_init_179 : decode cX12_init 179 = .ok (.bipush 40, 2) := by decide +kernel
theorem dX12_init_181 : decode cX12_init 181 = .ok (.newarray .int, 2) := by decide +kernel
theorem dX12_init_183 : decode cX12_init 183 = .ok (.putfield 76, 3) := by decide +kernel
theorem dX12_init_186 : decode cX12_init 186 = .ok (.aload_n 0, 1) := by decide +kernel
theorem dX12_init_187 : decode cX12_init 187 = .ok (.getfield 7, 3) := by decide +kernel
theorem dX12_init_190 : decode cX12_init 190 = .ok (.iconst 2, 1) := by decide +kernel
theorem dX12_init_191 : decode cX12_init 191 = .ok (.iconst 1, 1) := by decide +kernel
theorem dX12_init_192 : decode cX12_init 192 = .ok (.iastore, 1) := by decide +kernel
theorem dX12_init_193 : decode cX12_init 193 = .ok (.return_, 1) := by decide +kernel
theorem dX12_finds_0 : decode cX12_finds 0 = .ok (.aload_n 0, 1) := by decide +kernel
theorem dX12_finds_1 : decode cX12_finds 1 = .ok (.getfield 19, 3) := by decide +kernel
theorem dX12_finds_4 : decode cX12_finds 4 = .ok (.iload_n 1, 1) := by decide +kernel
theorem dX12_finds_5 : decode cX12_finds 5 = .ok (.dup2, 1) := by decide +kernel
theorem dX12_finds_6 : decode cX12_finds 6 = .ok (.iaload, 1) := by decide +kernel
theorem dX12_finds_7 : decode cX12_finds 7 = .ok (.iconst 1, 1) := by decide +kernel
theorem dX12_finds_8 : decode cX12_finds 8 = .ok (.iadd, 1) := by decide +kernel
theorem dX12_finds_9 : decode cX12_finds 9 = .ok (.iastore, 1) := by decide +kernel
theorem dX12_finds_10 : decode cX12_finds 10 = .ok (.ldc 79, 2) := by decide +kernel
theorem dX12_finds_12 : decode cX12_finds 12 = .ok (.iload_n 1, 1) := by decide +kernel
theorem dX12_finds_13 : decode cX12_finds 13 = .ok (.isub, 1) := by decide +kernel
theorem dX12_finds_14 : decode cX12_finds 14 = .ok (.ireturn, 1) := by decide +kernel
theorem dX12_in_0 : decode cX12_in 0 = .ok (.lload_n 0, 1) := by decide +kernel
theorem dX12_in_1 : decode cX12_in 1 = .ok (.lload_n 2, 1) := by decide +kernel
theorem dX12_in_2 : decode cX12_in 2 = .ok (.lcmp, 1) := by decide +kernel
theorem dX12_in_3 : decode cX12_in 3 = .ok (.ifCond .lt 14, 3) := by decide +kernel
theorem dX12_in_6 : decode cX12_in 6 = .ok (.lload_n 0, 1) := by decide +kernel
theorem dX12_in_7 : decode cX12_in 7 = .ok (.lload 4, 2) := by decide +kernel
theorem dX12_in_9 : decode cX12_in 9 = .ok (.lcmp, 1) := by decide +kernel
theorem dX12_in_10 : decode cX12_in 10 = .ok (.ifCond .gt 7, 3) := by decide +kernel
theorem dX12_in_13 : decode cX12_in 13 = .ok (.iconst 1, 1) := by decide +kernel
theorem dX12_in_14 : decode cX12_in 14 = .ok (.goto 4, 3) := by decide +kernel
theorem dX12_in_17 : decode cX12_in 17 = .ok (.iconst 0, 1) := by decide +kernel
theorem dX12_in_18 : decode cX12_in 18 = .ok (.ireturn, 1) := by decide +kernel
theorem dX12_held_0 : decode cX12_held 0 = .ok (.iload_n 0, 1) := by decide +kernel
theorem dX12_held_1 : decode cX12_held 1 = .ok (.iload_n 1, 1) := by decide +kernel
theorem dX12_held_2 : decode cX12_held 2 = .ok (.if_icmp .ge 7, 3) := by decide +kernel
theorem dX12_held_5 : decode cX12_held 5 = .ok (.iload_n 1, 1) := by decide +kernel
theorem dX12_held_6 : decode cX12_held 6 = .ok (.goto 13, 3) := by decide +kernel
theorem dX12_held_9 : decode cX12_held 9 = .ok (.iload_n 0, 1) := by decide +kernel
theorem dX12_held_10 : decode cX12_held 10 = .ok (.iload_n 2, 1) := by decide +kernel
theorem dX12_held_11 : decode cX12_held 11 = .ok (.if_icmp .le 7, 3) := by decide +kernel
theorem dX12_held_14 : decode cX12_held 14 = .ok (.iload_n 2, 1) := by decide +kernel
theorem dX12_held_15 : decode cX12_held 15 = .ok (.goto 4, 3) := by decide +kernel
theorem dX12_held_18 : decode cX12_held 18 = .ok (.iload_n 0, 1) := by decide +kernel
theorem dX12_held_19 : decode cX12_held 19 = .ok (.ireturn, 1) := by decide +kernel
theorem dX12_isParty_0 : decode cX12_isParty 0 = .ok (.iload_n 1, 1) := by decide +kernel
theorem dX12_isParty_1 : decode cX12_isParty 1 = .ok (.i2l, 1) := by decide +kernel
theorem dX12_isParty_2 : decode cX12_isParty 2 = .ok (.lconst 0, 1) := by decide +kernel
theorem dX12_isParty_3 : decode cX12_isParty 3 = .ok (.aload_n 0, 1) := by decide +kernel
theorem dX12_isParty_4 : decode cX12_isParty 4 = .ok (.getfield 7, 3) := by decide +kernel
theorem dX12_isParty_7 : decode cX12_isParty 7 = .ok (.iconst 0, 1) := by decide +kernel
theorem dX12_isParty_8 : decode cX12_isParty 8 = .ok (.iaload, 1) := by decide +kernel
theorem dX12_isParty_9 : decode cX12_isParty 9 = .ok (.iconst 1, 1) := by decide +kernel
theorem dX12_isParty_10 : decode cX12_isParty 10 = .ok (.isub, 1) := by decide +kernel
theorem dX12_isParty_11 : decode cX12_isParty 11 = .ok (.i2l, 1) := by decide +kernel
theorem dX12_isParty_12 : decode cX12_isParty 12 = .ok (.invokestatic 80, 3) := by decide +kernel
theorem dX12_isParty_15 : decode cX12_isParty 15 = .ok (.ireturn, 1) := by decide +kernel
theorem dX12_isWord_0 : decode cX12_isWord 0 = .ok (.iload_n 1, 1) := by decide +kernel
theorem dX12_isWord_1 : decode cX12_isWord 1 = .ok (.i2l, 1) := by decide +kernel
theorem dX12_isWord_2 : decode cX12_isWord 2 = .ok (.lconst 0, 1) := by decide +kernel
theorem dX12_isWord_3 : decode cX12_isWord 3 = .ok (.aload_n 0, 1) := by decide +kernel
theorem dX12_isWord_4 : decode cX12_isWord 4 = .ok (.getfield 7, 3) := by decide +kernel
theorem dX12_isWord_7 : decode cX12_isWord 7 = .ok (.iconst 1, 1) := by decide +kernel
theorem dX12_isWord_8 : decode cX12_isWord 8 = .ok (.iaload, 1) := by decide +kernel
theorem dX12_isWord_9 : decode cX12_isWord 9 = .ok (.iconst 1, 1) := by decide +kernel
theorem dX12_isWord_10 : decode cX12_isWord 10 = .ok (.isub, 1) := by decide +kernel
theorem dX12_isWord_11 : decode cX12_isWord 11 = .ok (.i2l, 1) := by decide +kernel
theorem dX12_isWord_12 : decode cX12_isWord 12 = .ok (.invokestatic 80, 3) := by decide +kernel
theorem dX12_isWord_15 : decode cX12_isWord 15 = .ok (.ireturn, 1) := by decide +kernel
theorem dX12_of_0 : decode cX12_of 0 = .ok (.aload_n 0, 1) := by decide +kernel
theorem dX12_of_1 : decode cX12_of 1 = .ok (.getfield 7, 3) := by decide +kernel
theorem dX12_of_4 : decode cX12_of 4 = .ok (.bipush 10, 2) := by decide +kernel
theorem dX12_of_6 : decode cX12_of 6 = .ok (.iconst 5, 1) := by decide +kernel
theorem dX12_of_7 : decode cX12_of 7 = .ok (.iload_n 1, 1) := by decide +kernel
theorem dX12_of_8 : decode cX12_of 8 = .ok (.imul, 1) := by decide +kernel
theorem dX12_of_9 : decode cX12_of 9 = .ok (.iadd, 1) := by decide +kernel
theorem dX12_of_10 : decode cX12_of 10 = .ok (.iload_n 2, 1) := by decide +kernel
theorem dX12_of_11 : decode cX12_of 11 = .ok (.iadd, 1) := by decide +kernel
theorem dX12_of_12 : decode cX12_of 12 = .ok (.iaload, 1) := by decide +kernel
theorem dX12_of_13 : decode cX12_of 13 = .ok (.ireturn, 1) := by decide +kernel
theorem dX12_sets_0 : decode cX12_sets 0 = .ok (.aload_n 0, 1) := by decide +kernel
theorem dX12_sets_1 : decode cX12_sets 1 = .ok (.getfield 7, 3) := by decide +kernel
theorem dX12_sets_4 : decode cX12_sets 4 = .ok (.bipush 10, 2) := by decide +kernel
theorem dX12_sets_6 : decode cX12_sets 6 = .ok (.iconst 5, 1) := by decide +kernel
theorem dX12_sets_7 : decode cX12_sets 7 = .ok (.iload_n 1, 1) := by decide +kernel
theorem dX12_sets_8 : decode cX12_sets 8 = .ok (.imul, 1) := by decide +kernel
theorem dX12_sets_9 : decode cX12_sets 9 = .ok (.iadd, 1) := by decide +kernel
theorem dX12_sets_10 : decode cX12_sets 10 = .ok (.iload_n 2, 1) := by decide +kernel
theorem dX12_sets_11 : decode cX12_sets 11 = .ok (.iadd, 1) := by decide +kernel
theorem dX12_sets_12 : decode cX12_sets 12 = .ok (.iload_n 3, 1) := by decide +kernel
theorem dX12_sets_13 : decode cX12_sets 13 = .ok (.iastore, 1) := by decide +kernel
theorem dX12_sets_14 : decode cX12_sets 14 = .ok (.return_, 1) := by decide +kernel
theorem dX12_its_0 : decode cX12_its 0 = .ok (.aload_n 0, 1) := by decide +kernel
theorem dX12_its_1 : decode cX12_its 1 = .ok (.getfield 7, 3) := by decide +kernel
theorem dX12_its_4 : decode cX12_its 4 = .ok (.bipush 30, 2) := by decide +kernel
theorem dX12_its_6 : decode cX12_its 6 = .ok (.iconst 5, 1) := by decide +kernel
theorem dX12_its_7 : decode cX12_its 7 = .ok (.iload_n 1, 1) := by decide +kernel
theorem dX12_its_8 : decode cX12_its 8 = .ok (.imul, 1) := by decide +kernel
theorem dX12_its_9 : decode cX12_its 9 = .ok (.iadd, 1) := by decide +kernel
theorem dX12_its_10 : decode cX12_its 10 = .ok (.iload_n 2, 1) := by decide +kernel
theorem dX12_its_11 : decode cX12_its 11 = .ok (.iadd, 1) := by decide +kernel
theorem dX12_its_12 : decode cX12_its 12 = .ok (.iaload, 1) := by decide +kernel
theorem dX12_its_13 : decode cX12_its 13 = .ok (.ireturn, 1) := by decide +kernel
theorem dX12_puts_0 : decode cX12_puts 0 = .ok (.aload_n 0, 1) := by decide +kernel
theorem dX12_puts_1 : decode cX12_puts 1 = .ok (.getfield 7, 3) := by decide +kernel
theorem dX12_puts_4 : decode cX12_puts 4 = .ok (.bipush 30, 2) := by decide +kernel
theorem dX12_puts_6 : decode cX12_puts 6 = .ok (.iconst 5, 1) := by decide +kernel
theorem dX12_puts_7 : decode cX12_puts 7 = .ok (.iload_n 1, 1) := by decide +kernel
theorem dX12_puts_8 : decode cX12_puts 8 = .ok (.imul, 1) := by decide +kernel
theorem dX12_puts_9 : decode cX12_puts 9 = .ok (.iadd, 1) := by decide +kernel
theorem dX12_puts_10 : decode cX12_puts 10 = .ok (.iload_n 2, 1) := by decide +kernel
theorem dX12_puts_11 : decode cX12_puts 11 = .ok (.iadd, 1) := by decide +kernel
theorem dX12_puts_12 : decode cX12_puts 12 = .ok (.iload_n 3, 1) := by decide +kernel
theorem dX12_puts_13 : decode cX12_puts 13 = .ok (.iastore, 1) := by decide +kernel
theorem dX12_puts_14 : decode cX12_puts 14 = .ok (.return_, 1) := by decide +kernel
theorem dX12_keepAside_0 : decode cX12_keepAside 0 = .ok (.iconst 0, 1) := by decide +kernel
theorem dX12_keepAside_1 : decode cX12_keepAside 1 = .ok (.istore_n 1, 1) := by decide +kernel
theorem dX12_keepAside_2 : decode cX12_keepAside 2 = .ok (.iload_n 1, 1) := by decide +kernel
theorem dX12_keepAside_3 : decode cX12_keepAside 3 = .ok (.bipush 90, 2) := by decide +kernel
theorem dX12_keepAside_5 : decode cX12_keepAside 5 = .ok (.if_icmp .ge 21, 3) := by decide +kernel
theorem dX12_keepAside_8 : decode cX12_keepAside 8 = .ok (.aload_n 0, 1) := by decide +kernel
theorem dX12_keepAside_9 : decode cX12_keepAside 9 = .ok (.getfield 16, 3) := by decide +kernel
theorem dX12_keepAside_12 : decode cX12_keepAside 12 = .ok (.iload_n 1, 1) := by decide +kernel
theorem dX12_keepAside_13 : decode cX12_keepAside 13 = .ok (.aload_n 0, 1) := by decide +kernel
theorem dX12_keepAside_14 : decode cX12_keepAside 14 = .ok (.getfield 7, 3) := by decide +kernel
theorem dX12_keepAside_17 : decode cX12_keepAside 17 = .ok (.iload_n 1, 1) := by decide +kernel
theorem dX12_keepAside_18 : decode cX12_keepAside 18 = .ok (.iaload, 1) := by decide +kernel
theorem dX12_keepAside_19 : decode cX12_keepAside 19 = .ok (.iastore, 1) := by decide +kernel
theorem dX12_keepAside_20 : decode cX12_keepAside 20 = .ok (.iinc 1 1, 3) := by decide +kernel
theorem dX12_keepAside_23 : decode cX12_keepAside 23 = .ok (.goto (-21), 3) := by decide +kernel
theorem dX12_keepAside_26 : decode cX12_keepAside 26 = .ok (.return_, 1) := by decide +kernel
theorem dX12_putBack_0 : decode cX12_putBack 0 = .ok (.iconst 0, 1) := by decide +kernel
theorem dX12_putBack_1 : decode cX12_putBack 1 = .ok (.istore_n 1, 1) := by decide +kernel
theorem dX12_putBack_2 : decode cX12_putBack 2 = .ok (.iload_n 1, 1) := by decide +kernel
theorem dX12_putBack_3 : decode cX12_putBack 3 = .ok (.bipush 90, 2) := by decide +kernel
theorem dX12_putBack_5 : decode cX12_putBack 5 = .ok (.if_icmp .ge 21, 3) := by decide +kernel
theorem dX12_putBack_8 : decode cX12_putBack 8 = .ok (.aload_n 0, 1) := by decide +kernel
theorem dX12_putBack_9 : decode cX12_putBack 9 = .ok (.getfield 7, 3) := by decide +kernel
theorem dX12_putBack_12 : decode cX12_putBack 12 = .ok (.iload_n 1, 1) := by decide +kernel
theorem dX12_putBack_13 : decode cX12_putBack 13 = .ok (.aload_n 0, 1) := by decide +kernel
theorem dX12_putBack_14 : decode cX12_putBack 14 = .ok (.getfield 16, 3) := by decide +kernel
theorem dX12_putBack_17 : decode cX12_putBack 17 = .ok (.iload_n 1, 1) := by decide +kernel
theorem dX12_putBack_18 : decode cX12_putBack 18 = .ok (.iaload, 1) := by decide +kernel
theorem dX12_putBack_19 : decode cX12_putBack 19 = .ok (.iastore, 1) := by decide +kernel
theorem dX12_putBack_20 : decode cX12_putBack 20 = .ok (.iinc 1 1, 3) := by decide +kernel
theorem dX12_putBack_23 : decode cX12_putBack 23 = .ok (.goto (-21), 3) := by decide +kernel
theorem dX12_putBack_26 : decode cX12_putBack 26 = .ok (.return_, 1) := by decide +kernel
theorem dX12_here_0 : decode cX12_here 0 = .ok (.aload_n 0, 1) := by decide +kernel
theorem dX12_here_1 : decode cX12_here 1 = .ok (.getfield 84, 3) := by decide +kernel
theorem dX12_here_4 : decode cX12_here 4 = .ok (.aload_n 0, 1) := by decide +kernel
theorem dX12_here_5 : decode cX12_here 5 = .ok (.getfield 88, 3) := by decide +kernel
theorem dX12_here_8 : decode cX12_here 8 = .ok (.if_icmp .ge 27, 3) := by decide +kernel
theorem dX12_here_11 : decode cX12_here 11 = .ok (.aload_n 0, 1) := by decide +kernel
theorem dX12_here_12 : decode cX12_here 12 = .ok (.getfield 91, 3) := by decide +kernel
theorem dX12_here_15 : decode cX12_here 15 = .ok (.ifCond .ge 20, 3) := by decide +kernel
theorem dX12_here_18 : decode cX12_here 18 = .ok (.aload_n 0, 1) := by decide +kernel
theorem dX12_here_19 : decode cX12_here 19 = .ok (.getfield 7, 3) := by decide +kernel
theorem dX12_here_22 : decode cX12_here 22 = .ok (.aload_n 0, 1) := by decide +kernel
theorem dX12_here_23 : decode cX12_here 23 = .ok (.getfield 94, 3) := by decide +kernel
theorem dX12_here_26 : decode cX12_here 26 = .ok (.aload_n 0, 1) := by decide +kernel
theorem dX12_here_27 : decode cX12_here 27 = .ok (.getfield 84, 3) := by decide +kernel
theorem dX12_here_30 : decode cX12_here 30 = .ok (.iadd, 1) := by decide +kernel
theorem dX12_here_31 : decode cX12_here 31 = .ok (.iaload, 1) := by decide +kernel
theorem dX12_here_32 : decode cX12_here 32 = .ok (.goto 4, 3) := by decide +kernel
theorem dX12_here_35 : decode cX12_here 35 = .ok (.iconst (-1), 1) := by decide +kernel
theorem dX12_here_36 : decode cX12_here 36 = .ok (.ireturn, 1) := by decide +kernel
theorem dX12_wrong_0 : decode cX12_wrong 0 = .ok (.aload_n 0, 1) := by decide +kernel
theorem dX12_wrong_1 : decode cX12_wrong 1 = .ok (.aload_n 0, 1) := by decide +kernel
theorem dX12_wrong_2 : decode cX12_wrong 2 = .ok (.getfield 91, 3) := by decide +kernel
theorem dX12_wrong_5 : decode cX12_wrong 5 = .ok (.ifCond .ge 10, 3) := by decide +kernel
theorem dX12_wrong_8 : decode cX12_wrong 8 = .ok (.aload_n 0, 1) := by decide +kernel
theorem dX12_wrong_9 : decode cX12_wrong 9 = .ok (.getfield 84, 3) := by decide +kernel
theorem dX12_wrong_12 : decode cX12_wrong 12 = .ok (.goto 7, 3) := by decide +kernel
theorem dX12_wrong_15 : decode cX12_wrong 15 = .ok (.aload_n 0, 1) := by decide +kernel
theorem dX12_wrong_16 : decode cX12_wrong 16 = .ok (.getfield 91, 3) := by decide +kernel
theorem dX12_wrong_19 : decode cX12_wrong 19 = .ok (.putfield 91, 3) := by decide +kernel
theorem dX12_wrong_22 : decode cX12_wrong 22 = .ok (.iconst 0, 1) := by decide +kernel
theorem dX12_wrong_23 : decode cX12_wrong 23 = .ok (.ireturn, 1) := by decide +kernel
theorem dX12_takes_0 : decode cX12_takes 0 = .ok (.aload_n 0, 1) := by decide +kernel
theorem dX12_takes_1 : decode cX12_takes 1 = .ok (.invokevirtual 97, 3) := by decide +kernel
theorem dX12_takes_4 : decode cX12_takes 4 = .ok (.iload_n 1, 1) := by decide +kernel
theorem dX12_takes_5 : decode cX12_takes 5 = .ok (.if_icmp .eq 5, 3) := by decide +kernel
theorem dX12_takes_8 : decode cX12_takes 8 = .ok (.iconst 0, 1) := by decide +kernel
theorem dX12_takes_9 : decode cX12_takes 9 = .ok (.ireturn, 1) := by decide +kernel
theorem dX12_takes_10 : decode cX12_takes 10 = .ok (.aload_n 0, 1) := by decide +kernel
theorem dX12_takes_11 : decode cX12_takes 11 = .ok (.dup, 1) := by decide +kernel
theorem dX12_takes_12 : decode cX12_takes 12 = .ok (.getfield 84, 3) := by decide +kernel
theorem dX12_takes_15 : decode cX12_takes 15 = .ok (.iconst 1, 1) := by decide +kernel
theorem dX12_takes_16 : decode cX12_takes 16 = .ok (.iadd, 1) := by decide +kernel
theorem dX12_takes_17 : decode cX12_takes 17 = .ok (.putfield 84, 3) := by decide +kernel
theorem dX12_takes_20 : decode cX12_takes 20 = .ok (.iconst 1, 1) := by decide +kernel
theorem dX12_takes_21 : decode cX12_takes 21 = .ok (.ireturn, 1) := by decide +kernel
theorem dX12_nameOf_0 : decode cX12_nameOf 0 = .ok (.aload_n 0, 1) := by decide +kernel
theorem dX12_nameOf_1 : decode cX12_nameOf 1 = .ok (.getfield 101, 3) := by decide +kernel
theorem dX12_nameOf_4 : decode cX12_nameOf 4 = .ok (.ifCond .eq 35, 3) := by decide +kernel
theorem dX12_nameOf_7 : decode cX12_nameOf 7 = .ok (.iload_n 1, 1) := by decide +kernel
theorem dX12_nameOf_8 : decode cX12_nameOf 8 = .ok (.bipush 108, 2) := by decide +kernel
theorem dX12_nameOf_10 : decode cX12_nameOf 10 = .ok (.if_icmp .ne 7, 3) := by decide +kernel
theorem dX12_nameOf_13 : decode cX12_nameOf 13 = .ok (.iconst 0, 1) := by decide +kernel
theorem dX12_nameOf_14 : decode cX12_nameOf 14 = .ok (.goto 24, 3) := by decide +kernel
theorem dX12_nameOf_17 : decode cX12_nameOf 17 = .ok (.iload_n 1, 1) := by decide +kernel
theorem dX12_nameOf_18 : decode cX12_nameOf 18 = .ok (.bipush 115, 2) := by decide +kernel
theorem dX12_nameOf_20 : decode cX12_nameOf 20 = .ok (.if_icmp .ne 7, 3) := by decide +kernel
theorem dX12_nameOf_23 : decode cX12_nameOf 23 = .ok (.iconst 1, 1) := by decide +kernel
theorem dX12_nameOf_24 : decode cX12_nameOf 24 = .ok (.goto 14, 3) := by decide +kernel
theorem dX12_nameOf_27 : decode cX12_nameOf 27 = .ok (.iload_n 1, 1) := by decide +kernel
theorem dX12_nameOf_28 : decode cX12_nameOf 28 = .ok (.bipush 109, 2) := by decide +kernel
theorem dX12_nameOf_30 : decode cX12_nameOf 30 = .ok (.if_icmp .ne 7, 3) := by decide +kernel
theorem dX12_nameOf_33 : decode cX12_nameOf 33 = .ok (.iconst 2, 1) := by decide +kernel
theorem dX12_nameOf_34 : decode cX12_nameOf 34 = .ok (.goto 4, 3) := by decide +kernel
theorem dX12_nameOf_37 : decode cX12_nameOf 37 = .ok (.iconst (-1), 1) := by decide +kernel
theorem dX12_nameOf_38 : decode cX12_nameOf 38 = .ok (.ireturn, 1) := by decide +kernel
theorem dX12_nameOf_39 : decode cX12_nameOf 39 = .ok (.iload_n 1, 1) := by decide +kernel
theorem dX12_nameOf_40 : decode cX12_nameOf 40 = .ok (.bipush 119, 2) := by decide +kernel
theorem dX12_nameOf_42 : decode cX12_nameOf 42 = .ok (.if_icmp .ne 7, 3) := by decide +kernel
theorem dX12_nameOf_45 : decode cX12_nameOf 45 = .ok (.iconst 0, 1) := by decide +kernel
theorem dX12_nameOf_46 : decode cX12_nameOf 46 = .ok (.goto 24, 3) := by decide +kernel
theorem dX12_nameOf_49 : decode cX12_nameOf 49 = .ok (.iload_n 1, 1) := by decide +kernel
theorem dX12_nameOf_50 : decode cX12_nameOf 50 = .ok (.bipush 108, 2) := by decide +kernel
theorem dX12_nameOf_52 : decode cX12_nameOf 52 = .ok (.if_icmp .ne 7, 3) := by decide +kernel
theorem dX12_nameOf_55 : decode cX12_nameOf 55 = .ok (.iconst 1, 1) := by decide +kernel
theorem dX12_nameOf_56 : decode cX12_nameOf 56 = .ok (.goto 14, 3) := by decide +kernel
theorem dX12_nameOf_59 : decode cX12_nameOf 59 = .ok (.iload_n 1, 1) := by decide +kernel
theorem dX12_nameOf_60 : decode cX12_nameOf 60 = .ok (.bipush 104, 2) := by decide +kernel
theorem dX12_nameOf_62 : decode cX12_nameOf 62 = .ok (.if_icmp .ne 7, 3) := by decide +kernel
theorem dX12_nameOf_65 : decode cX12_nameOf 65 = .ok (.iconst 2, 1) := by decide +kernel
theorem dX12_nameOf_66 : decode cX12_nameOf 66 = .ok (.goto 4, 3) := by decide +kernel
theorem dX12_nameOf_69 : decode cX12_nameOf 69 = .ok (.iconst (-1), 1) := by decide +kernel
theorem dX12_nameOf_70 : decode cX12_nameOf 70 = .ok (.ireturn, 1) := by decide +kernel
theorem dX12_either_0 : decode cX12_either 0 = .ok (.aload_n 0, 1) := by decide +kernel
theorem dX12_either_1 : decode cX12_either 1 = .ok (.invokevirtual 105, 3) := by decide +kernel
theorem dX12_either_4 : decode cX12_either 4 = .ok (.istore_n 1, 1) := by decide +kernel
theorem dX12_either_5 : decode cX12_either 5 = .ok (.aload_n 0, 1) := by decide +kernel
theorem dX12_either_6 : decode cX12_either 6 = .ok (.bipush 124, 2) := by decide +kernel
theorem dX12_either_8 : decode cX12_either 8 = .ok (.invokevirtual 108, 3) := by decide +kernel
theorem dX12_either_11 : decode cX12_either 11 = .ok (.ifCond .eq 25, 3) := by decide +kernel
theorem dX12_either_14 : decode cX12_either 14 = .ok (.aload_n 0, 1) := by decide +kernel
theorem dX12_either_15 : decode cX12_either 15 = .ok (.invokevirtual 105, 3) := by decide +kernel
theorem dX12_either_18 : decode cX12_either 18 = .ok (.istore_n 2, 1) := by decide +kernel
theorem dX12_either_19 : decode cX12_either 19 = .ok (.iload_n 1, 1) := by decide +kernel
theorem dX12_either_20 : decode cX12_either 20 = .ok (.ifCond .ne 7, 3) := by decide +kernel
theorem dX12_either_23 : decode cX12_either 23 = .ok (.iload_n 2, 1) := by decide +kernel
theorem dX12_either_24 : decode cX12_either 24 = .ok (.ifCond .eq 7, 3) := by decide +kernel
theorem dX12_either_27 : decode cX12_either 27 = .ok (.iconst 1, 1) := by decide +kernel
theorem dX12_either_28 : decode cX12_either 28 = .ok (.goto 4, 3) := by decide +kernel
theorem dX12_either_31 : decode cX12_either 31 = .ok (.iconst 0, 1) := by decide +kernel
theorem dX12_either_32 : decode cX12_either 32 = .ok (.istore_n 1, 1) := by decide +kernel
theorem dX12_either_33 : decode cX12_either 33 = .ok (.goto (-28), 3) := by decide +kernel
theorem dX12_either_36 : decode cX12_either 36 = .ok (.iload_n 1, 1) := by decide +kernel
theorem dX12_either_37 : decode cX12_either 37 = .ok (.ireturn, 1) := by decide +kernel
theorem dX12_both_0 : decode cX12_both 0 = .ok (.aload_n 0, 1) := by decide +kernel
theorem dX12_both_1 : decode cX12_both 1 = .ok (.invokevirtual 112, 3) := by decide +kernel
theorem dX12_both_4 : decode cX12_both 4 = .ok (.istore_n 1, 1) := by decide +kernel
theorem dX12_both_5 : decode cX12_both 5 = .ok (.aload_n 0, 1) := by decide +kernel
theorem dX12_both_6 : decode cX12_both 6 = .ok (.bipush 38, 2) := by decide +kernel
theorem dX12_both_8 : decode cX12_both 8 = .ok (.invokevirtual 108, 3) := by decide +kernel
theorem dX12_both_11 : decode cX12_both 11 = .ok (.ifCond .eq 25, 3) := by decide +kernel
theorem dX12_both_14 : decode cX12_both 14 = .ok (.aload_n 0, 1) := by decide +kernel
theorem dX12_both_15 : decode cX12_both 15 = .ok (.invokevirtual 112, 3) := by decide +kernel
theorem dX12_both_18 : decode cX12_both 18 = .ok (.istore_n 2, 1) := by decide +kernel
theorem dX12_both_19 : decode cX12_both 19 = .ok (.iload_n 1, 1) := by decide +kernel
theorem dX12_both_20 : decode cX12_both 20 = .ok (.ifCond .eq 11, 3) := by decide +kernel
theorem dX12_both_23 : decode cX12_both 23 = .ok (.iload_n 2, 1) := by decide +kernel
theorem dX12_both_24 : decode cX12_both 24 = .ok (.ifCond .eq 7, 3) := by decide +kernel
theorem dX12_both_27 : decode cX12_both 27 = .ok (.iconst 1, 1) := by decide +kernel
theorem dX12_both_28 : decode cX12_both 28 = .ok (.goto 4, 3) := by decide +kernel
theorem dX12_both_31 : decode cX12_both 31 = .ok (.iconst 0, 1) := by decide +kernel
theorem dX12_both_32 : decode cX12_both 32 = .ok (.istore_n 1, 1) := by decide +kernel
theorem dX12_both_33 : decode cX12_both 33 = .ok (.goto (-28), 3) := by decide +kernel
theorem dX12_both_36 : decode cX12_both 36 = .ok (.iload_n 1, 1) := by decide +kernel
theorem dX12_both_37 : decode cX12_both 37 = .ok (.ireturn, 1) := by decide +kernel
theorem dX12_compared_0 : decode cX12_compared 0 = .ok (.aload_n 0, 1) := by decide +kernel
theorem dX12_compared_1 : decode cX12_compared 1 = .ok (.invokevirtual 115, 3) := by decide +kernel
theorem dX12_compared_4 : decode cX12_compared 4 = .ok (.istore_n 1, 1) := by decide +kernel
theorem dX12_compared_5 : decode cX12_compared 5 = .ok (.aload_n 0, 1) := by decide +kernel
theorem dX12_compared_6 : decode cX12_compared 6 = .ok (.invokevirtual 97, 3) := by decide +kernel
theorem dX12_compared_9 : decode cX12_compared 9 = .ok (.istore_n 2, 1) := by decide +kernel
theorem dX12_compared_10 : decode cX12_compared 10 = .ok (.iload_n 2, 1) := by decide +kernel
theorem dX12_compared_11 : decode cX12_compared 11 = .ok (.bipush 60, 2) := by decide +kernel
theorem dX12_compared_13 : decode cX12_compared 13 = .ok (.if_icmp .eq 17, 3) := by decide +kernel
theorem dX12_compared_16 : decode cX12_compared 16 = .ok (.iload_n 2, 1) := by decide +kernel
theorem dX12_compared_17 : decode cX12_compared 17 = .ok (.bipush 61, 2) := by decide +kernel
theorem dX12_compared_19 : decode cX12_compared 19 = .ok (.if_icmp .eq 11, 3) := by decide +kernel
theorem dX12_compared_22 : decode cX12_compared 22 = .ok (.iload_n 2, 1) := by decide +kernel
theorem dX12_compared_23 : decode cX12_compared 23 = .ok (.bipush 62, 2) := by decide +kernel
theorem dX12_compared_25 : decode cX12_compared 25 = .ok (.if_icmp .eq 5, 3) := by decide +kernel
theorem dX12_compared_28 : decode cX12_compared 28 = .ok (.iload_n 1, 1) := by decide +kernel
theorem dX12_compared_29 : decode cX12_compared 29 = .ok (.ireturn, 1) := by decide +kernel
theorem dX12_compared_30 : decode cX12_compared 30 = .ok (.aload_n 0, 1) := by decide +kernel
theorem dX12_compared_31 : decode cX12_compared 31 = .ok (.dup, 1) := by decide +kernel
theorem dX12_compared_32 : decode cX12_compared 32 = .ok (.getfield 84, 3) := by decide +kernel
theorem dX12_compared_35 : decode cX12_compared 35 = .ok (.iconst 1, 1) := by decide +kernel
theorem dX12_compared_36 : decode cX12_compared 36 = .ok (.iadd, 1) := by decide +kernel
theorem dX12_compared_37 : decode cX12_compared 37 = .ok (.putfield 84, 3) := by decide +kernel
theorem dX12_compared_40 : decode cX12_compared 40 = .ok (.aload_n 0, 1) := by decide +kernel
theorem dX12_compared_41 : decode cX12_compared 41 = .ok (.invokevirtual 115, 3) := by decide +kernel
theorem dX12_compared_44 : decode cX12_compared 44 = .ok (.istore_n 3, 1) := by decide +kernel
theorem dX12_compared_45 : decode cX12_compared 45 = .ok (.iload_n 2, 1) := by decide +kernel
theorem dX12_compared_46 : decode cX12_compared 46 = .ok (.bipush 60, 2) := by decide +kernel
theorem dX12_compared_48 : decode cX12_compared 48 = .ok (.if_icmp .ne 11, 3) := by decide +kernel
theorem dX12_compared_51 : decode cX12_compared 51 = .ok (.iload_n 1, 1) := by decide +kernel
theorem dX12_compared_52 : decode cX12_compared 52 = .ok (.iload_n 3, 1) := by decide +kernel
theorem dX12_compared_53 : decode cX12_compared 53 = .ok (.if_icmp .ge 29, 3) := by decide +kernel
theorem dX12_compared_56 : decode cX12_compared 56 = .ok (.goto 22, 3) := by decide +kernel
theorem dX12_compared_59 : decode cX12_compared 59 = .ok (.iload_n 2, 1) := by decide +kernel
theorem dX12_compared_60 : decode cX12_compared 60 = .ok (.bipush 61, 2) := by decide +kernel
theorem dX12_compared_62 : decode cX12_compared 62 = .ok (.if_icmp .ne 11, 3) := by decide +kernel
theorem dX12_compared_65 : decode cX12_compared 65 = .ok (.iload_n 1, 1) := by decide +kernel
theorem dX12_compared_66 : decode cX12_compared 66 = .ok (.iload_n 3, 1) := by decide +kernel
theorem dX12_compared_67 : decode cX12_compared 67 = .ok (.if_icmp .ne 15, 3) := by decide +kernel
theorem dX12_compared_70 : decode cX12_compared 70 = .ok (.goto 8, 3) := by decide +kernel
theorem dX12_compared_73 : decode cX12_compared 73 = .ok (.iload_n 1, 1) := by decide +kernel
theorem dX12_compared_74 : decode cX12_compared 74 = .ok (.iload_n 3, 1) := by decide +kernel
theorem dX12_compared_75 : decode cX12_compared 75 = .ok (.if_icmp .le 7, 3) := by decide +kernel
theorem dX12_compared_78 : decode cX12_compared 78 = .ok (.iconst 1, 1) := by decide +kernel
theorem dX12_compared_79 : decode cX12_compared 79 = .ok (.goto 4, 3) := by decide +kernel
theorem dX12_compared_82 : decode cX12_compared 82 = .ok (.iconst 0, 1) := by decide +kernel
theorem dX12_compared_83 : decode cX12_compared 83 = .ok (.ireturn, 1) := by decide +kernel
theorem dX12_sum_0 : decode cX12_sum 0 = .ok (.aload_n 0, 1) := by decide +kernel
theorem dX12_sum_1 : decode cX12_sum 1 = .ok (.invokevirtual 118, 3) := by decide +kernel
theorem dX12_sum_4 : decode cX12_sum 4 = .ok (.istore_n 1, 1) := by decide +kernel
theorem dX12_sum_5 : decode cX12_sum 5 = .ok (.aload_n 0, 1) := by decide +kernel
theorem dX12_sum_6 : decode cX12_sum 6 = .ok (.invokevirtual 97, 3) := by decide +kernel
theorem dX12_sum_9 : decode cX12_sum 9 = .ok (.bipush 43, 2) := by decide +kernel
theorem dX12_sum_11 : decode cX12_sum 11 = .ok (.if_icmp .eq 12, 3) := by decide +kernel
theorem dX12_sum_14 : decode cX12_sum 14 = .ok (.aload_n 0, 1) := by decide +kernel
theorem dX12_sum_15 : decode cX12_sum 15 = .ok (.invokevirtual 97, 3) := by decide +kernel
theorem dX12_sum_18 : decode cX12_sum 18 = .ok (.bipush 45, 2) := by decide +kernel
theorem dX12_sum_20 : decode cX12_sum 20 = .ok (.if_icmp .ne 42, 3) := by decide +kernel
theorem dX12_sum_23 : decode cX12_sum 23 = .ok (.aload_n 0, 1) := by decide +kernel
theorem dX12_sum_24 : decode cX12_sum 24 = .ok (.invokevirtual 97, 3) := by decide +kernel
theorem dX12_sum_27 : decode cX12_sum 27 = .ok (.istore_n 2, 1) := by decide +kernel
theorem dX12_sum_28 : decode cX12_sum 28 = .ok (.aload_n 0, 1) := by decide +kernel
theorem dX12_sum_29 : decode cX12_sum 29 = .ok (.dup, 1) := by decide +kernel
theorem dX12_sum_30 : decode cX12_sum 30 = .ok (.getfield 84, 3) := by decide +kernel
theorem dX12_sum_33 : decode cX12_sum 33 = .ok (.iconst 1, 1) := by decide +kernel
theorem dX12_sum_34 : decode cX12_sum 34 = .ok (.iadd, 1) := by decide +kernel
theorem dX12_sum_35 : decode cX12_sum 35 = .ok (.putfield 84, 3) := by decide +kernel
theorem dX12_sum_38 : decode cX12_sum 38 = .ok (.aload_n 0, 1) := by decide +kernel
theorem dX12_sum_39 : decode cX12_sum 39 = .ok (.invokevirtual 118, 3) := by decide +kernel
theorem dX12_sum_42 : decode cX12_sum 42 = .ok (.istore_n 3, 1) := by decide +kernel
theorem dX12_sum_43 : decode cX12_sum 43 = .ok (.iload_n 2, 1) := by decide +kernel
theorem dX12_sum_44 : decode cX12_sum 44 = .ok (.bipush 43, 2) := by decide +kernel
theorem dX12_sum_46 : decode cX12_sum 46 = .ok (.if_icmp .ne 9, 3) := by decide +kernel
theorem dX12_sum_49 : decode cX12_sum 49 = .ok (.iload_n 1, 1) := by decide +kernel
theorem dX12_sum_50 : decode cX12_sum 50 = .ok (.iload_n 3, 1) := by decide +kernel
theorem dX12_sum_51 : decode cX12_sum 51 = .ok (.iadd, 1) := by decide +kernel
theorem dX12_sum_52 : decode cX12_sum 52 = .ok (.goto 6, 3) := by decide +kernel
theorem dX12_sum_55 : decode cX12_sum 55 = .ok (.iload_n 1, 1) := by decide +kernel
theorem dX12_sum_56 : decode cX12_sum 56 = .ok (.iload_n 3, 1) := by decide +kernel
theorem dX12_sum_57 : decode cX12_sum 57 = .ok (.isub, 1) := by decide +kernel
theorem dX12_sum_58 : decode cX12_sum 58 = .ok (.istore_n 1, 1) := by decide +kernel
theorem dX12_sum_59 : decode cX12_sum 59 = .ok (.goto (-54), 3) := by decide +kernel
theorem dX12_sum_62 : decode cX12_sum 62 = .ok (.iload_n 1, 1) := by decide +kernel
theorem dX12_sum_63 : decode cX12_sum 63 = .ok (.ireturn, 1) := by decide +kernel
theorem dX12_product_0 : decode cX12_product 0 = .ok (.aload_n 0, 1) := by decide +kernel
theorem dX12_product_1 : decode cX12_product 1 = .ok (.invokevirtual 121, 3) := by decide +kernel
theorem dX12_product_4 : decode cX12_product 4 = .ok (.istore_n 1, 1) := by decide +kernel
theorem dX12_product_5 : decode cX12_product 5 = .ok (.aload_n 0, 1) := by decide +kernel
theorem dX12_product_6 : decode cX12_product 6 = .ok (.invokevirtual 97, 3) := by decide +kernel
theorem dX12_product_9 : decode cX12_product 9 = .ok (.bipush 42, 2) := by decide +kernel
theorem dX12_product_11 : decode cX12_product 11 = .ok (.if_icmp .eq 21, 3) := by decide +kernel
theorem dX12_product_14 : decode cX12_product 14 = .ok (.aload_n 0, 1) := by decide +kernel
theorem dX12_product_15 : decode cX12_product 15 = .ok (.invokevirtual 97, 3) := by decide +kernel
theorem dX12_product_18 : decode cX12_product 18 = .ok (.bipush 47, 2) := by decide +kernel
theorem dX12_product_20 : decode cX12_product 20 = .ok (.if_icmp .eq 12, 3) := by decide +kernel
theorem dX12_product_23 : decode cX12_product 23 = .ok (.aload_n 0, 1) := by decide +kernel
theorem dX12_product_24 : decode cX12_product 24 = .ok (.invokevirtual 97, 3) := by decide +kernel
theorem dX12_product_27 : decode cX12_product 27 = .ok (.bipush 37, 2) := by decide +kernel
theorem dX12_product_29 : decode cX12_product 29 = .ok (.if_icmp .ne 62, 3) := by decide +kernel
theorem dX12_product_32 : decode cX12_product 32 = .ok (.aload_n 0, 1) := by decide +kernel
theorem dX12_product_33 : decode cX12_product 33 = .ok (.invokevirtual 97, 3) := by decide +kernel
theorem dX12_product_36 : decode cX12_product 36 = .ok (.istore_n 2, 1) := by decide +kernel
theorem dX12_product_37 : decode cX12_product 37 = .ok (.aload_n 0, 1) := by decide +kernel
theorem dX12_product_38 : decode cX12_product 38 = .ok (.dup, 1) := by decide +kernel
theorem dX12_product_39 : decode cX12_product 39 = .ok (.getfield 84, 3) := by decide +kernel
theorem dX12_product_42 : decode cX12_product 42 = .ok (.iconst 1, 1) := by decide +kernel
theorem dX12_product_43 : decode cX12_product 43 = .ok (.iadd, 1) := by decide +kernel
theorem dX12_product_44 : decode cX12_product 44 = .ok (.putfield 84, 3) := by decide +kernel
theorem dX12_product_47 : decode cX12_product 47 = .ok (.aload_n 0, 1) := by decide +kernel
theorem dX12_product_48 : decode cX12_product 48 = .ok (.invokevirtual 121, 3) := by decide +kernel
theorem dX12_product_51 : decode cX12_product 51 = .ok (.istore_n 3, 1) := by decide +kernel
theorem dX12_product_52 : decode cX12_product 52 = .ok (.iload_n 2, 1) := by decide +kernel
theorem dX12_product_53 : decode cX12_product 53 = .ok (.bipush 42, 2) := by decide +kernel
theorem dX12_product_55 : decode cX12_product 55 = .ok (.if_icmp .ne 9, 3) := by decide +kernel
theorem dX12_product_58 : decode cX12_product 58 = .ok (.iload_n 1, 1) := by decide +kernel
theorem dX12_product_59 : decode cX12_product 59 = .ok (.iload_n 3, 1) := by decide +kernel
theorem dX12_product_60 : decode cX12_product 60 = .ok (.imul, 1) := by decide +kernel
theorem dX12_product_61 : decode cX12_product 61 = .ok (.goto 26, 3) := by decide +kernel
theorem dX12_product_64 : decode cX12_product 64 = .ok (.iload_n 3, 1) := by decide +kernel
theorem dX12_product_65 : decode cX12_product 65 = .ok (.ifCond .ne 7, 3) := by decide +kernel
theorem dX12_product_68 : decode cX12_product 68 = .ok (.iconst 0, 1) := by decide +kernel
theorem dX12_product_69 : decode cX12_product 69 = .ok (.goto 18, 3) := by decide +kernel
theorem dX12_product_72 : decode cX12_product 72 = .ok (.iload_n 2, 1) := by decide +kernel
theorem dX12_product_73 : decode cX12_product 73 = .ok (.bipush 47, 2) := by decide +kernel
theorem dX12_product_75 : decode cX12_product 75 = .ok (.if_icmp .ne 9, 3) := by decide +kernel
theorem dX12_product_78 : decode cX12_product 78 = .ok (.iload_n 1, 1) := by decide +kernel
theorem dX12_product_79 : decode cX12_product 79 = .ok (.iload_n 3, 1) := by decide +kernel
theorem dX12_product_80 : decode cX12_product 80 = .ok (.idiv, 1) := by decide +kernel
theorem dX12_product_81 : decode cX12_product 81 = .ok (.goto 6, 3) := by decide +kernel
theorem dX12_product_84 : decode cX12_product 84 = .ok (.iload_n 1, 1) := by decide +kernel
theorem dX12_product_85 : decode cX12_product 85 = .ok (.iload_n 3, 1) := by decide +kernel
theorem dX12_product_86 : decode cX12_product 86 = .ok (.irem, 1) := by decide +kernel
theorem dX12_product_87 : decode cX12_product 87 = .ok (.istore_n 1, 1) := by decide +kernel
theorem dX12_product_88 : decode cX12_product 88 = .ok (.goto (-83), 3) := by decide +kernel
theorem dX12_product_91 : decode cX12_product 91 = .ok (.iload_n 1, 1) := by decide +kernel
theorem dX12_product_92 : decode cX12_product 92 = .ok (.ireturn, 1) := by decide +kernel
theorem dX12_unit_0 : decode cX12_unit 0 = .ok (.aload_n 0, 1) := by decide +kernel
theorem dX12_unit_1 : decode cX12_unit 1 = .ok (.invokevirtual 97, 3) := by decide +kernel
theorem dX12_unit_4 : decode cX12_unit 4 = .ok (.istore_n 1, 1) := by decide +kernel
theorem dX12_unit_5 : decode cX12_unit 5 = .ok (.iload_n 1, 1) := by decide +kernel
theorem dX12_unit_6 : decode cX12_unit 6 = .ok (.bipush 33, 2) := by decide +kernel
theorem dX12_unit_8 : decode cX12_unit 8 = .ok (.if_icmp .eq 9, 3) := by decide +kernel
theorem dX12_unit_11 : decode cX12_unit 11 = .ok (.iload_n 1, 1) := by decide +kernel
theorem dX12_unit_12 : decode cX12_unit 12 = .ok (.bipush 40, 2) := by decide +kernel
theorem dX12_unit_14 : decode cX12_unit 14 = .ok (.if_icmp .ne 104, 3) := by decide +kernel
theorem dX12_unit_17 : decode cX12_unit 17 = .ok (.aload_n 0, 1) := by decide +kernel
theorem dX12_unit_18 : decode cX12_unit 18 = .ok (.getfield 124, 3) := by decide +kernel
theorem dX12_unit_21 : decode cX12_unit 21 = .ok (.iconst 5, 1) := by decide +kernel
theorem dX12_unit_22 : decode cX12_unit 22 = .ok (.if_icmp .ne 8, 3) := by decide +kernel
theorem dX12_unit_25 : decode cX12_unit 25 = .ok (.aload_n 0, 1) := by decide +kernel
theorem dX12_unit_26 : decode cX12_unit 26 = .ok (.invokevirtual 127, 3) := by decide +kernel
theorem dX12_unit_29 : decode cX12_unit 29 = .ok (.ireturn, 1) := by decide +kernel
theorem dX12_unit_30 : decode cX12_unit 30 = .ok (.aload_n 0, 1) := by decide +kernel
theorem dX12_unit_31 : decode cX12_unit 31 = .ok (.dup, 1) := by decide +kernel
theorem dX12_unit_32 : decode cX12_unit 32 = .ok (.getfield 124, 3) := by decide +kernel
theorem dX12_unit_35 : decode cX12_unit 35 = .ok (.iconst 1, 1) := by decide +kernel
theorem dX12_unit_36 : decode cX12_unit 36 = .ok (.iadd, 1) := by decide +kernel
theorem dX12_unit_37 : decode cX12_unit 37 = .ok (.putfield 124, 3) := by decide +kernel
theorem dX12_unit_40 : decode cX12_unit 40 = .ok (.aload_n 0, 1) := by decide +kernel
theorem dX12_unit_41 : decode cX12_unit 41 = .ok (.dup, 1) := by decide +kernel
theorem dX12_unit_42 : decode cX12_unit 42 = .ok (.getfield 84, 3) := by decide +kernel
theorem dX12_unit_45 : decode cX12_unit 45 = .ok (.iconst 1, 1) := by decide +kernel
theorem dX12_unit_46 : decode cX12_unit 46 = .ok (.iadd, 1) := by decide +kernel
theorem dX12_unit_47 : decode cX12_unit 47 = .ok (.putfield 84, 3) := by decide +kernel
theorem dX12_unit_50 : decode cX12_unit 50 = .ok (.iload_n 1, 1) := by decide +kernel
theorem dX12_unit_51 : decode cX12_unit 51 = .ok (.bipush 40, 2) := by decide +kernel
theorem dX12_unit_53 : decode cX12_unit 53 = .ok (.if_icmp .ne 10, 3) := by decide +kernel
theorem dX12_unit_56 : decode cX12_unit 56 = .ok (.aload_n 0, 1) := by decide +kernel
theorem dX12_unit_57 : decode cX12_unit 57 = .ok (.invokevirtual 130, 3) := by decide +kernel
theorem dX12_unit_60 : decode cX12_unit 60 = .ok (.goto 7, 3) := by decide +kernel
theorem dX12_unit_63 : decode cX12_unit 63 = .ok (.aload_n 0, 1) := by decide +kernel
theorem dX12_unit_64 : decode cX12_unit 64 = .ok (.invokevirtual 121, 3) := by decide +kernel
theorem dX12_unit_67 : decode cX12_unit 67 = .ok (.istore_n 2, 1) := by decide +kernel
theorem dX12_unit_68 : decode cX12_unit 68 = .ok (.iload_n 1, 1) := by decide +kernel
theorem dX12_unit_69 : decode cX12_unit 69 = .ok (.bipush 40, 2) := by decide +kernel
theorem dX12_unit_71 : decode cX12_unit 71 = .ok (.if_icmp .ne 17, 3) := by decide +kernel
theorem dX12_unit_74 : decode cX12_unit 74 = .ok (.aload_n 0, 1) := by decide +kernel
theorem dX12_unit_75 : decode cX12_unit 75 = .ok (.bipush 41, 2) := by decide +kernel
theorem dX12_unit_77 : decode cX12_unit 77 = .ok (.invokevirtual 108, 3) := by decide +kernel
theorem dX12_unit_80 : decode cX12_unit 80 = .ok (.ifCond .ne 8, 3) := by decide +kernel
theorem dX12_unit_83 : decode cX12_unit 83 = .ok (.aload_n 0, 1) := by decide +kernel
theorem dX12_unit_84 : decode cX12_unit 84 = .ok (.invokevirtual 127, 3) := by decide +kernel
theorem dX12_unit_87 : decode cX12_unit 87 = .ok (.ireturn, 1) := by decide +kernel
theorem dX12_unit_88 : decode cX12_unit 88 = .ok (.aload_n 0, 1) := by decide +kernel
theorem dX12_unit_89 : decode cX12_unit 89 = .ok (.dup, 1) := by decide +kernel
theorem dX12_unit_90 : decode cX12_unit 90 = .ok (.getfield 124, 3) := by decide +kernel
theorem dX12_unit_93 : decode cX12_unit 93 = .ok (.iconst 1, 1) := by decide +kernel
theorem dX12_unit_94 : decode cX12_unit 94 = .ok (.isub, 1) := by decide +kernel
theorem dX12_unit_95 : decode cX12_unit 95 = .ok (.putfield 124, 3) := by decide +kernel
theorem dX12_unit_98 : decode cX12_unit 98 = .ok (.iload_n 1, 1) := by decide +kernel
theorem dX12_unit_99 : decode cX12_unit 99 = .ok (.bipush 40, 2) := by decide +kernel
theorem dX12_unit_101 : decode cX12_unit 101 = .ok (.if_icmp .ne 7, 3) := by decide +kernel
theorem dX12_unit_104 : decode cX12_unit 104 = .ok (.iload_n 2, 1) := by decide +kernel
theorem dX12_unit_105 : decode cX12_unit 105 = .ok (.goto 12, 3) := by decide +kernel
theorem dX12_unit_108 : decode cX12_unit 108 = .ok (.iload_n 2, 1) := by decide +kernel
theorem dX12_unit_109 : decode cX12_unit 109 = .ok (.ifCond .ne 7, 3) := by decide +kernel
theorem dX12_unit_112 : decode cX12_unit 112 = .ok (.iconst 1, 1) := by decide +kernel
theorem dX12_unit_113 : decode cX12_unit 113 = .ok (.goto 4, 3) := by decide +kernel
theorem dX12_unit_116 : decode cX12_unit 116 = .ok (.iconst 0, 1) := by decide +kernel
theorem dX12_unit_117 : decode cX12_unit 117 = .ok (.ireturn, 1) := by decide +kernel
theorem dX12_unit_118 : decode cX12_unit 118 = .ok (.aload_n 0, 1) := by decide +kernel
theorem dX12_unit_119 : decode cX12_unit 119 = .ok (.iload_n 1, 1) := by decide +kernel
theorem dX12_unit_120 : decode cX12_unit 120 = .ok (.invokevirtual 133, 3) := by decide +kernel
theorem dX12_unit_123 : decode cX12_unit 123 = .ok (.istore_n 2, 1) := by decide +kernel
theorem dX12_unit_124 : decode cX12_unit 124 = .ok (.iload_n 2, 1) := by decide +kernel
theorem dX12_unit_125 : decode cX12_unit 125 = .ok (.ifCond .lt 20, 3) := by decide +kernel
theorem dX12_unit_128 : decode cX12_unit 128 = .ok (.aload_n 0, 1) := by decide +kernel
theorem dX12_unit_129 : decode cX12_unit 129 = .ok (.dup, 1) := by decide +kernel
theorem dX12_unit_130 : decode cX12_unit 130 = .ok (.getfield 84, 3) := by decide +kernel
theorem dX12_unit_133 : decode cX12_unit 133 = .ok (.iconst 1, 1) := by decide +kernel
theorem dX12_unit_134 : decode cX12_unit 134 = .ok (.iadd, 1) := by decide +kernel
theorem dX12_unit_135 : decode cX12_unit 135 = .ok (.putfield 84, 3) := by decide +kernel
theorem dX12_unit_138 : decode cX12_unit 138 = .ok (.aload_n 0, 1) := by decide +kernel
theorem dX12_unit_139 : decode cX12_unit 139 = .ok (.getfield 22, 3) := by decide +kernel
theorem dX12_unit_142 : decode cX12_unit 142 = .ok (.iload_n 2, 1) := by decide +kernel
theorem dX12_unit_143 : decode cX12_unit 143 = .ok (.iaload, 1) := by decide +kernel
theorem dX12_unit_144 : decode cX12_unit 144 = .ok (.ireturn, 1) := by decide +kernel
theorem dX12_unit_145 : decode cX12_unit 145 = .ok (.iconst 0, 1) := by decide +kernel
theorem dX12_unit_146 : decode cX12_unit 146 = .ok (.istore_n 3, 1) := by decide +kernel
theorem dX12_unit_147 : decode cX12_unit 147 = .ok (.iconst 0, 1) := by decide +kernel
theorem dX12_unit_148 : decode cX12_unit 148 = .ok (.istore 4, 2) := by decide +kernel
theorem dX12_unit_150 : decode cX12_unit 150 = .ok (.iload 4, 2) := by decide +kernel
theorem dX12_unit_152 : decode cX12_unit 152 = .ok (.iconst 4, 1) := by decide +kernel
theorem dX12_unit_153 : decode cX12_unit 153 = .ok (.if_icmp .ge 49, 3) := by decide +kernel
theorem dX12_unit_156 : decode cX12_unit 156 = .ok (.aload_n 0, 1) := by decide +kernel
theorem dX12_unit_157 : decode cX12_unit 157 = .ok (.invokevirtual 97, 3) := by decide +kernel
theorem dX12_unit_160 : decode cX12_unit 160 = .ok (.i2l, 1) := by decide +kernel
theorem dX12_unit_161 : decode cX12_unit 161 = .ok (.ldc2_w 137, 3) := by decide +kernel
theorem dX12_unit_164 : decode cX12_unit 164 = .ok (.ldc2_w 139, 3) := by decide +kernel
theorem dX12_unit_167 : decode cX12_unit 167 = .ok (.invokestatic 80, 3) := by decide +kernel
theorem dX12_unit_170 : decode cX12_unit 170 = .ok (.ifCond .eq 32, 3) := by decide +kernel
theorem dX12_unit_173 : decode cX12_unit 173 = .ok (.bipush 10, 2) := by decide +kernel
theorem dX12_unit_175 : decode cX12_unit 175 = .ok (.iload_n 3, 1) := by decide +kernel
theorem dX12_unit_176 : decode cX12_unit 176 = .ok (.imul, 1) := by decide +kernel
theorem dX12_unit_177 : decode cX12_unit 177 = .ok (.aload_n 0, 1) := by decide +kernel
theorem dX12_unit_178 : decode cX12_unit 178 = .ok (.invokevirtual 97, 3) := by decide +kernel
theorem dX12_unit_181 : decode cX12_unit 181 = .ok (.iadd, 1) := by decide +kernel
theorem dX12_unit_182 : decode cX12_unit 182 = .ok (.bipush 48, 2) := by decide +kernel
theorem dX12_unit_184 : decode cX12_unit 184 = .ok (.isub, 1) := by decide +kernel
theorem dX12_unit_185 : decode cX12_unit 185 = .ok (.istore_n 3, 1) := by decide +kernel
theorem dX12_unit_186 : decode cX12_unit 186 = .ok (.aload_n 0, 1) := by decide +kernel
theorem dX12_unit_187 : decode cX12_unit 187 = .ok (.dup, 1) := by decide +kernel
theorem dX12_unit_188 : decode cX12_unit 188 = .ok (.getfield 84, 3) := by decide +kernel
theorem dX12_unit_191 : decode cX12_unit 191 = .ok (.iconst 1, 1) := by decide +kernel
theorem dX12_unit_192 : decode cX12_unit 192 = .ok (.iadd, 1) := by decide +kernel
theorem dX12_unit_193 : decode cX12_unit 193 = .ok (.putfield 84, 3) := by decide +kernel
theorem dX12_unit_196 : decode cX12_unit 196 = .ok (.iinc 4 1, 3) := by decide +kernel
theorem dX12_unit_199 : decode cX12_unit 199 = .ok (.goto (-49), 3) := by decide +kernel
theorem dX12_unit_202 : decode cX12_unit 202 = .ok (.iload 4, 2) := by decide +kernel
theorem dX12_unit_204 : decode cX12_unit 204 = .ok (.ifCond .ne 10, 3) := by decide +kernel
theorem dX12_unit_207 : decode cX12_unit 207 = .ok (.aload_n 0, 1) := by decide +kernel
theorem dX12_unit_208 : decode cX12_unit 208 = .ok (.invokevirtual 127, 3) := by decide +kernel
theorem dX12_unit_211 : decode cX12_unit 211 = .ok (.goto 4, 3) := by decide +kernel
theorem dX12_unit_214 : decode cX12_unit 214 = .ok (.iload_n 3, 1) := by decide +kernel
theorem dX12_unit_215 : decode cX12_unit 215 = .ok (.ireturn, 1) := by decide +kernel
theorem dX12_worked_0 : decode cX12_worked 0 = .ok (.aload_n 0, 1) := by decide +kernel
theorem dX12_worked_1 : decode cX12_worked 1 = .ok (.iload_n 1, 1) := by decide +kernel
theorem dX12_worked_2 : decode cX12_worked 2 = .ok (.putfield 94, 3) := by decide +kernel
theorem dX12_worked_5 : decode cX12_worked 5 = .ok (.aload_n 0, 1) := by decide +kernel
theorem dX12_worked_6 : decode cX12_worked 6 = .ok (.iconst 0, 1) := by decide +kernel
theorem dX12_worked_7 : decode cX12_worked 7 = .ok (.putfield 84, 3) := by decide +kernel
theorem dX12_worked_10 : decode cX12_worked 10 = .ok (.aload_n 0, 1) := by decide +kernel
theorem dX12_worked_11 : decode cX12_worked 11 = .ok (.iload_n 2, 1) := by decide +kernel
theorem dX12_worked_12 : decode cX12_worked 12 = .ok (.putfield 88, 3) := by decide +kernel
theorem dX12_worked_15 : decode cX12_worked 15 = .ok (.aload_n 0, 1) := by decide +kernel
theorem dX12_worked_16 : decode cX12_worked 16 = .ok (.iconst (-1), 1) := by decide +kernel
theorem dX12_worked_17 : decode cX12_worked 17 = .ok (.putfield 91, 3) := by decide +kernel
theorem dX12_worked_20 : decode cX12_worked 20 = .ok (.aload_n 0, 1) := by decide +kernel
theorem dX12_worked_21 : decode cX12_worked 21 = .ok (.iconst 0, 1) := by decide +kernel
theorem dX12_worked_22 : decode cX12_worked 22 = .ok (.putfield 124, 3) := by decide +kernel
theorem dX12_worked_25 : decode cX12_worked 25 = .ok (.aload_n 0, 1) := by decide +kernel
theorem dX12_worked_26 : decode cX12_worked 26 = .ok (.iload_n 3, 1) := by decide +kernel
theorem dX12_worked_27 : decode cX12_worked 27 = .ok (.iconst 1, 1) := by decide +kernel
theorem dX12_worked_28 : decode cX12_worked 28 = .ok (.if_icmp .ne 7, 3) := by decide +kernel
theorem dX12_worked_31 : decode cX12_worked 31 = .ok (.iconst 1, 1) := by decide +kernel
theorem dX12_worked_32 : decode cX12_worked 32 = .ok (.goto 4, 3) := by decide +kernel
theorem dX12_worked_35 : decode cX12_worked 35 = .ok (.iconst 0, 1) := by decide +kernel
theorem dX12_worked_36 : decode cX12_worked 36 = .ok (.putfield 101, 3) := by decide +kernel
theorem dX12_worked_39 : decode cX12_worked 39 = .ok (.aload_n 0, 1) := by decide +kernel
theorem dX12_worked_40 : decode cX12_worked 40 = .ok (.invokevirtual 130, 3) := by decide +kernel
theorem dX12_worked_43 : decode cX12_worked 43 = .ok (.istore 4, 2) := by decide +kernel
theorem dX12_worked_45 : decode cX12_worked 45 = .ok (.aload_n 0, 1) := by decide +kernel
theorem dX12_worked_46 : decode cX12_worked 46 = .ok (.getfield 91, 3) := by decide +kernel
theorem dX12_worked_49 : decode cX12_worked 49 = .ok (.ifCond .ge 19, 3) := by decide +kernel
theorem dX12_worked_52 : decode cX12_worked 52 = .ok (.aload_n 0, 1) := by decide +kernel
theorem dX12_worked_53 : decode cX12_worked 53 = .ok (.getfield 84, 3) := by decide +kernel
theorem dX12_worked_56 : decode cX12_worked 56 = .ok (.aload_n 0, 1) := by decide +kernel
theorem dX12_worked_57 : decode cX12_worked 57 = .ok (.getfield 88, 3) := by decide +kernel
theorem dX12_worked_60 : decode cX12_worked 60 = .ok (.if_icmp .ge 8, 3) := by decide +kernel
theorem dX12_worked_63 : decode cX12_worked 63 = .ok (.aload_n 0, 1) := by decide +kernel
theorem dX12_worked_64 : decode cX12_worked 64 = .ok (.invokevirtual 127, 3) := by decide +kernel
theorem dX12_worked_67 : decode cX12_worked 67 = .ok (.ireturn, 1) := by decide +kernel
theorem dX12_worked_68 : decode cX12_worked 68 = .ok (.iload 4, 2) := by decide +kernel
theorem dX12_worked_70 : decode cX12_worked 70 = .ok (.ireturn, 1) := by decide +kernel
theorem dX12_feed_0 : decode cX12_feed 0 = .ok (.iload_n 3, 1) := by decide +kernel
theorem dX12_feed_1 : decode cX12_feed 1 = .ok (.i2l, 1) := by decide +kernel
theorem dX12_feed_2 : decode cX12_feed 2 = .ok (.lconst 1, 1) := by decide +kernel
theorem dX12_feed_3 : decode cX12_feed 3 = .ok (.ldc2_w 141, 3) := by decide +kernel
theorem dX12_feed_6 : decode cX12_feed 6 = .ok (.invokestatic 80, 3) := by decide +kernel
theorem dX12_feed_9 : decode cX12_feed 9 = .ok (.ifCond .ne 9, 3) := by decide +kernel
theorem dX12_feed_12 : decode cX12_feed 12 = .ok (.aload_n 0, 1) := by decide +kernel
theorem dX12_feed_13 : decode cX12_feed 13 = .ok (.iconst 1, 1) := by decide +kernel
theorem dX12_feed_14 : decode cX12_feed 14 = .ok (.invokevirtual 143, 3) := by decide +kernel
theorem dX12_feed_17 : decode cX12_feed 17 = .ok (.ireturn, 1) := by decide +kernel
theorem dX12_feed_18 : decode cX12_feed 18 = .ok (.aload_n 0, 1) := by decide +kernel
theorem dX12_feed_19 : decode cX12_feed 19 = .ok (.getfield 7, 3) := by decide +kernel
theorem dX12_feed_22 : decode cX12_feed 22 = .ok (.bipush 8, 2) := by decide +kernel
theorem dX12_feed_24 : decode cX12_feed 24 = .ok (.iaload, 1) := by decide +kernel
theorem dX12_feed_25 : decode cX12_feed 25 = .ok (.iload_n 3, 1) := by decide +kernel
theorem dX12_feed_26 : decode cX12_feed 26 = .ok (.iadd, 1) := by decide +kernel
theorem dX12_feed_27 : decode cX12_feed 27 = .ok (.bipush 50, 2) := by decide +kernel
theorem dX12_feed_29 : decode cX12_feed 29 = .ok (.if_icmp .le 9, 3) := by decide +kernel
theorem dX12_feed_32 : decode cX12_feed 32 = .ok (.aload_n 0, 1) := by decide +kernel
theorem dX12_feed_33 : decode cX12_feed 33 = .ok (.iconst 4, 1) := by decide +kernel
theorem dX12_feed_34 : decode cX12_feed 34 = .ok (.invokevirtual 143, 3) := by decide +kernel
theorem dX12_feed_37 : decode cX12_feed 37 = .ok (.ireturn, 1) := by decide +kernel
theorem dX12_feed_38 : decode cX12_feed 38 = .ok (.iconst 0, 1) := by decide +kernel
theorem dX12_feed_39 : decode cX12_feed 39 = .ok (.istore 4, 2) := by decide +kernel
theorem dX12_feed_41 : decode cX12_feed 41 = .ok (.iload 4, 2) := by decide +kernel
theorem dX12_feed_43 : decode cX12_feed 43 = .ok (.iload_n 3, 1) := by decide +kernel
theorem dX12_feed_44 : decode cX12_feed 44 = .ok (.if_icmp .ge 48, 3) := by decide +kernel
theorem dX12_feed_47 : decode cX12_feed 47 = .ok (.aload_n 0, 1) := by decide +kernel
theorem dX12_feed_48 : decode cX12_feed 48 = .ok (.getfield 7, 3) := by decide +kernel
theorem dX12_feed_51 : decode cX12_feed 51 = .ok (.sipush 212, 3) := by decide +kernel
theorem dX12_feed_54 : decode cX12_feed 54 = .ok (.aload_n 0, 1) := by decide +kernel
theorem dX12_feed_55 : decode cX12_feed 55 = .ok (.getfield 7, 3) := by decide +kernel
theorem dX12_feed_58 : decode cX12_feed 58 = .ok (.bipush 8, 2) := by decide +kernel
theorem dX12_feed_60 : decode cX12_feed 60 = .ok (.iaload, 1) := by decide +kernel
theorem dX12_feed_61 : decode cX12_feed 61 = .ok (.iadd, 1) := by decide +kernel
theorem dX12_feed_62 : decode cX12_feed 62 = .ok (.lload_n 1, 1) := by decide +kernel
theorem dX12_feed_63 : decode cX12_feed 63 = .ok (.bipush 8, 2) := by decide +kernel
theorem dX12_feed_65 : decode cX12_feed 65 = .ok (.iload 4, 2) := by decide +kernel
theorem dX12_feed_67 : decode cX12_feed 67 = .ok (.imul, 1) := by decide +kernel
theorem dX12_feed_68 : decode cX12_feed 68 = .ok (.lshr, 1) := by decide +kernel
theorem dX12_feed_69 : decode cX12_feed 69 = .ok (.ldc2_w 146, 3) := by decide +kernel
theorem dX12_feed_72 : decode cX12_feed 72 = .ok (.land, 1) := by decide +kernel
theorem dX12_feed_73 : decode cX12_feed 73 = .ok (.l2i, 1) := by decide +kernel
theorem dX12_feed_74 : decode cX12_feed 74 = .ok (.iastore, 1) := by decide +kernel
theorem dX12_feed_75 : decode cX12_feed 75 = .ok (.aload_n 0, 1) := by decide +kernel
theorem dX12_feed_76 : decode cX12_feed 76 = .ok (.getfield 7, 3) := by decide +kernel
theorem dX12_feed_79 : decode cX12_feed 79 = .ok (.bipush 8, 2) := by decide +kernel
theorem dX12_feed_81 : decode cX12_feed 81 = .ok (.dup2, 1) := by decide +kernel
theorem dX12_feed_82 : decode cX12_feed 82 = .ok (.iaload, 1) := by decide +kernel
theorem dX12_feed_83 : decode cX12_feed 83 = .ok (.iconst 1, 1) := by decide +kernel
theorem dX12_feed_84 : decode cX12_feed 84 = .ok (.iadd, 1) := by decide +kernel
theorem dX12_feed_85 : decode cX12_feed 85 = .ok (.iastore, 1) := by decide +kernel
theorem dX12_feed_86 : decode cX12_feed 86 = .ok (.iinc 4 1, 3) := by decide +kernel
theorem dX12_feed_89 : decode cX12_feed 89 = .ok (.goto (-48), 3) := by decide +kernel
theorem dX12_feed_92 : decode cX12_feed 92 = .ok (.aload_n 0, 1) := by decide +kernel
theorem dX12_feed_93 : decode cX12_feed 93 = .ok (.getfield 7, 3) := by decide +kernel
theorem dX12_feed_96 : decode cX12_feed 96 = .ok (.bipush 8, 2) := by decide +kernel
theorem dX12_feed_98 : decode cX12_feed 98 = .ok (.iaload, 1) := by decide +kernel
theorem dX12_feed_99 : decode cX12_feed 99 = .ok (.ireturn, 1) := by decide +kernel
theorem dX12_text_0 : decode cX12_text 0 = .ok (.iload_n 1, 1) := by decide +kernel
theorem dX12_text_1 : decode cX12_text 1 = .ok (.i2l, 1) := by decide +kernel
theorem dX12_text_2 : decode cX12_text 2 = .ok (.lconst 0, 1) := by decide +kernel
theorem dX12_text_3 : decode cX12_text 3 = .ok (.lconst 1, 1) := by decide +kernel
theorem dX12_text_4 : decode cX12_text 4 = .ok (.invokestatic 80, 3) := by decide +kernel
theorem dX12_text_7 : decode cX12_text 7 = .ok (.ifCond .ne 9, 3) := by decide +kernel
theorem dX12_text_10 : decode cX12_text 10 = .ok (.aload_n 0, 1) := by decide +kernel
theorem dX12_text_11 : decode cX12_text 11 = .ok (.iconst 1, 1) := by decide +kernel
theorem dX12_text_12 : decode cX12_text 12 = .ok (.invokevirtual 143, 3) := by decide +kernel
theorem dX12_text_15 : decode cX12_text 15 = .ok (.ireturn, 1) := by decide +kernel
theorem dX12_text_16 : decode cX12_text 16 = .ok (.aload_n 0, 1) := by decide +kernel
theorem dX12_text_17 : decode cX12_text 17 = .ok (.getfield 7, 3) := by decide +kernel
theorem dX12_text_20 : decode cX12_text 20 = .ok (.bipush 8, 2) := by decide +kernel
theorem dX12_text_22 : decode cX12_text 22 = .ok (.iaload, 1) := by decide +kernel
theorem dX12_text_23 : decode cX12_text 23 = .ok (.istore_n 2, 1) := by decide +kernel
theorem dX12_text_24 : decode cX12_text 24 = .ok (.aload_n 0, 1) := by decide +kernel
theorem dX12_text_25 : decode cX12_text 25 = .ok (.getfield 7, 3) := by decide +kernel
theorem dX12_text_28 : decode cX12_text 28 = .ok (.bipush 8, 2) := by decide +kernel
theorem dX12_text_30 : decode cX12_text 30 = .ok (.iconst 0, 1) := by decide +kernel
theorem dX12_text_31 : decode cX12_text 31 = .ok (.iastore, 1) := by decide +kernel
theorem dX12_text_32 : decode cX12_text 32 = .ok (.aload_n 0, 1) := by decide +kernel
theorem dX12_text_33 : decode cX12_text 33 = .ok (.sipush 212, 3) := by decide +kernel
theorem dX12_text_36 : decode cX12_text 36 = .ok (.iload_n 2, 1) := by decide +kernel
theorem dX12_text_37 : decode cX12_text 37 = .ok (.iload_n 1, 1) := by decide +kernel
theorem dX12_text_38 : decode cX12_text 38 = .ok (.invokevirtual 148, 3) := by decide +kernel
theorem dX12_text_41 : decode cX12_text 41 = .ok (.istore_n 3, 1) := by decide +kernel
theorem dX12_text_42 : decode cX12_text 42 = .ok (.aload_n 0, 1) := by decide +kernel
theorem dX12_text_43 : decode cX12_text 43 = .ok (.getfield 91, 3) := by decide +kernel
theorem dX12_text_46 : decode cX12_text 46 = .ok (.ifCond .lt 11, 3) := by decide +kernel
theorem dX12_text_49 : decode cX12_text 49 = .ok (.bipush (-10), 2) := by decide +kernel
theorem dX12_text_51 : decode cX12_text 51 = .ok (.aload_n 0, 1) := by decide +kernel
theorem dX12_text_52 : decode cX12_text 52 = .ok (.getfield 91, 3) := by decide +kernel
theorem dX12_text_55 : decode cX12_text 55 = .ok (.isub, 1) := by decide +kernel
theorem dX12_text_56 : decode cX12_text 56 = .ok (.ireturn, 1) := by decide +kernel
theorem dX12_text_57 : decode cX12_text 57 = .ok (.aload_n 0, 1) := by decide +kernel
theorem dX12_text_58 : decode cX12_text 58 = .ok (.getfield 7, 3) := by decide +kernel
theorem dX12_text_61 : decode cX12_text 61 = .ok (.bipush 90, 2) := by decide +kernel
theorem dX12_text_63 : decode cX12_text 63 = .ok (.iload_n 1, 1) := by decide +kernel
theorem dX12_text_64 : decode cX12_text 64 = .ok (.iadd, 1) := by decide +kernel
theorem dX12_text_65 : decode cX12_text 65 = .ok (.iload_n 2, 1) := by decide +kernel
theorem dX12_text_66 : decode cX12_text 66 = .ok (.iastore, 1) := by decide +kernel
theorem dX12_text_67 : decode cX12_text 67 = .ok (.iconst 0, 1) := by decide +kernel
theorem dX12_text_68 : decode cX12_text 68 = .ok (.istore 4, 2) := by decide +kernel
theorem dX12_text_70 : decode cX12_text 70 = .ok (.iload 4, 2) := by decide +kernel
theorem dX12_text_72 : decode cX12_text 72 = .ok (.iload_n 2, 1) := by decide +kernel
theorem dX12_text_73 : decode cX12_text 73 = .ok (.if_icmp .ge 35, 3) := by decide +kernel
theorem dX12_text_76 : decode cX12_text 76 = .ok (.aload_n 0, 1) := by decide +kernel
theorem dX12_text_77 : decode cX12_text 77 = .ok (.getfield 7, 3) := by decide +kernel
theorem dX12_text_80 : decode cX12_text 80 = .ok (.bipush 112, 2) := by decide +kernel
theorem dX12_text_82 : decode cX12_text 82 = .ok (.bipush 50, 2) := by decide +kernel
theorem dX12_text_84 : decode cX12_text 84 = .ok (.iload_n 1, 1) := by decide +kernel
theorem dX12_text_85 : decode cX12_text 85 = .ok (.imul, 1) := by decide +kernel
theorem dX12_text_86 : decode cX12_text 86 = .ok (.iadd, 1) := by decide +kernel
theorem dX12_text_87 : decode cX12_text 87 = .ok (.iload 4, 2) := by decide +kernel
theorem dX12_text_89 : decode cX12_text 89 = .ok (.iadd, 1) := by decide +kernel
theorem dX12_text_90 : decode cX12_text 90 = .ok (.aload_n 0, 1) := by decide +kernel
theorem dX12_text_91 : decode cX12_text 91 = .ok (.getfield 7, 3) := by decide +kernel
theorem dX12_text_94 : decode cX12_text 94 = .ok (.sipush 212, 3) := by decide +kernel
theorem dX12_text_97 : decode cX12_text 97 = .ok (.iload 4, 2) := by decide +kernel
theorem dX12_text_99 : decode cX12_text 99 = .ok (.iadd, 1) := by decide +kernel
theorem dX12_text_100 : decode cX12_text 100 = .ok (.iaload, 1) := by decide +kernel
theorem dX12_text_101 : decode cX12_text 101 = .ok (.iastore, 1) := by decide +kernel
theorem dX12_text_102 : decode cX12_text 102 = .ok (.iinc 4 1, 3) := by decide +kernel
theorem dX12_text_105 : decode cX12_text 105 = .ok (.goto (-35), 3) := by decide +kernel
theorem dX12_text_108 : decode cX12_text 108 = .ok (.iconst 1, 1) := by decide +kernel
theorem dX12_text_109 : decode cX12_text 109 = .ok (.ireturn, 1) := by decide +kernel
theorem dX12_textGives_0 : decode cX12_textGives 0 = .ok (.iload_n 1, 1) := by decide +kernel
theorem dX12_textGives_1 : decode cX12_textGives 1 = .ok (.ifCond .ne 7, 3) := by decide +kernel
theorem dX12_textGives_4 : decode cX12_textGives 4 = .ok (.iload_n 2, 1) := by decide +kernel
theorem dX12_textGives_5 : decode cX12_textGives 5 = .ok (.goto 10, 3) := by decide +kernel
theorem dX12_textGives_8 : decode cX12_textGives 8 = .ok (.iload_n 2, 1) := by decide +kernel
theorem dX12_textGives_9 : decode cX12_textGives 9 = .ok (.iload 4, 2) := by decide +kernel
theorem dX12_textGives_11 : decode cX12_textGives 11 = .ok (.imul, 1) := by decide +kernel
theorem dX12_textGives_12 : decode cX12_textGives 12 = .ok (.bipush 50, 2) := by decide +kernel
theorem dX12_textGives_14 : decode cX12_textGives 14 = .ok (.idiv, 1) := by decide +kernel
theorem dX12_textGives_15 : decode cX12_textGives 15 = .ok (.istore 5, 2) := by decide +kernel
theorem dX12_textGives_17 : decode cX12_textGives 17 = .ok (.aload_n 0, 1) := by decide +kernel
theorem dX12_textGives_18 : decode cX12_textGives 18 = .ok (.getfield 7, 3) := by decide +kernel
theorem dX12_textGives_21 : decode cX12_textGives 21 = .ok (.bipush 90, 2) := by decide +kernel
theorem dX12_textGives_23 : decode cX12_textGives 23 = .ok (.iload_n 1, 1) := by decide +kernel
theorem dX12_textGives_24 : decode cX12_textGives 24 = .ok (.iadd, 1) := by decide +kernel
theorem dX12_textGives_25 : decode cX12_textGives 25 = .ok (.iaload, 1) := by decide +kernel
theorem dX12_textGives_26 : decode cX12_textGives 26 = .ok (.ifCond .le 48, 3) := by decide +kernel
theorem dX12_textGives_29 : decode cX12_textGives 29 = .ok (.aload_n 0, 1) := by decide +kernel
theorem dX12_textGives_30 : decode cX12_textGives 30 = .ok (.getfield 22, 3) := by decide +kernel
theorem dX12_textGives_33 : decode cX12_textGives 33 = .ok (.iconst 0, 1) := by decide +kernel
theorem dX12_textGives_34 : decode cX12_textGives 34 = .ok (.iload_n 2, 1) := by decide +kernel
theorem dX12_textGives_35 : decode cX12_textGives 35 = .ok (.iastore, 1) := by decide +kernel
theorem dX12_textGives_36 : decode cX12_textGives 36 = .ok (.aload_n 0, 1) := by decide +kernel
theorem dX12_textGives_37 : decode cX12_textGives 37 = .ok (.getfield 22, 3) := by decide +kernel
theorem dX12_textGives_40 : decode cX12_textGives 40 = .ok (.iconst 1, 1) := by decide +kernel
theorem dX12_textGives_41 : decode cX12_textGives 41 = .ok (.iload_n 3, 1) := by decide +kernel
theorem dX12_textGives_42 : decode cX12_textGives 42 = .ok (.iastore, 1) := by decide +kernel
theorem dX12_textGives_43 : decode cX12_textGives 43 = .ok (.aload_n 0, 1) := by decide +kernel
theorem dX12_textGives_44 : decode cX12_textGives 44 = .ok (.getfield 22, 3) := by decide +kernel
theorem dX12_textGives_47 : decode cX12_textGives 47 = .ok (.iconst 2, 1) := by decide +kernel
theorem dX12_textGives_48 : decode cX12_textGives 48 = .ok (.iload 4, 2) := by decide +kernel
theorem dX12_textGives_50 : decode cX12_textGives 50 = .ok (.iastore, 1) := by decide +kernel
theorem dX12_textGives_51 : decode cX12_textGives 51 = .ok (.aload_n 0, 1) := by decide +kernel
theorem dX12_textGives_52 : decode cX12_textGives 52 = .ok (.bipush 112, 2) := by decide +kernel
theorem dX12_textGives_54 : decode cX12_textGives 54 = .ok (.bipush 50, 2) := by decide +kernel
theorem dX12_textGives_56 : decode cX12_textGives 56 = .ok (.iload_n 1, 1) := by decide +kernel
theorem dX12_textGives_57 : decode cX12_textGives 57 = .ok (.imul, 1) := by decide +kernel
theorem dX12_textGives_58 : decode cX12_textGives 58 = .ok (.iadd, 1) := by decide +kernel
theorem dX12_textGives_59 : decode cX12_textGives 59 = .ok (.aload_n 0, 1) := by decide +kernel
theorem dX12_textGives_60 : decode cX12_textGives 60 = .ok (.getfield 7, 3) := by decide +kernel
theorem dX12_textGives_63 : decode cX12_textGives 63 = .ok (.bipush 90, 2) := by decide +kernel
theorem dX12_textGives_65 : decode cX12_textGives 65 = .ok (.iload_n 1, 1) := by decide +kernel
theorem dX12_textGives_66 : decode cX12_textGives 66 = .ok (.iadd, 1) := by decide +kernel
theorem dX12_textGives_67 : decode cX12_textGives 67 = .ok (.iaload, 1) := by decide +kernel
theorem dX12_textGives_68 : decode cX12_textGives 68 = .ok (.iload_n 1, 1) := by decide +kernel
theorem dX12_textGives_69 : decode cX12_textGives 69 = .ok (.invokevirtual 148, 3) := by decide +kernel
theorem dX12_textGives_72 : decode cX12_textGives 72 = .ok (.istore 5, 2) := by decide +kernel
theorem dX12_textGives_74 : decode cX12_textGives 74 = .ok (.iload_n 1, 1) := by decide +kernel
theorem dX12_textGives_75 : decode cX12_textGives 75 = .ok (.ifCond .ne 15, 3) := by decide +kernel
theorem dX12_textGives_78 : decode cX12_textGives 78 = .ok (.iload 5, 2) := by decide +kernel
theorem dX12_textGives_80 : decode cX12_textGives 80 = .ok (.iconst 0, 1) := by decide +kernel
theorem dX12_textGives_81 : decode cX12_textGives 81 = .ok (.sipush 999, 3) := by decide +kernel
theorem dX12_textGives_84 : decode cX12_textGives 84 = .ok (.invokestatic 152, 3) := by decide +kernel
theorem dX12_textGives_87 : decode cX12_textGives 87 = .ok (.goto 10, 3) := by decide +kernel
theorem dX12_textGives_90 : decode cX12_textGives 90 = .ok (.iload 5, 2) := by decide +kernel
theorem dX12_textGives_92 : decode cX12_textGives 92 = .ok (.iconst 0, 1) := by decide +kernel
theorem dX12_textGives_93 : decode cX12_textGives 93 = .ok (.iload_n 2, 1) := by decide +kernel
theorem dX12_textGives_94 : decode cX12_textGives 94 = .ok (.invokestatic 152, 3) := by decide +kernel
theorem dX12_textGives_97 : decode cX12_textGives 97 = .ok (.ireturn, 1) := by decide +kernel
theorem dX12_law_0 : decode cX12_law 0 = .ok (.iload_n 1, 1) := by decide +kernel
theorem dX12_law_1 : decode cX12_law 1 = .ok (.i2l, 1) := by decide +kernel
theorem dX12_law_2 : decode cX12_law 2 = .ok (.lconst 0, 1) := by decide +kernel
theorem dX12_law_3 : decode cX12_law 3 = .ok (.lconst 1, 1) := by decide +kernel
theorem dX12_law_4 : decode cX12_law 4 = .ok (.invokestatic 80, 3) := by decide +kernel
theorem dX12_law_7 : decode cX12_law 7 = .ok (.ifCond .eq 20, 3) := by decide +kernel
theorem dX12_law_10 : decode cX12_law 10 = .ok (.iload_n 1, 1) := by decide +kernel
theorem dX12_law_11 : decode cX12_law 11 = .ok (.iconst 1, 1) := by decide +kernel
theorem dX12_law_12 : decode cX12_law 12 = .ok (.if_icmp .ne 21, 3) := by decide +kernel
theorem dX12_law_15 : decode cX12_law 15 = .ok (.iload_n 2, 1) := by decide +kernel
theorem dX12_law_16 : decode cX12_law 16 = .ok (.i2l, 1) := by decide +kernel
theorem dX12_law_17 : decode cX12_law 17 = .ok (.lconst 0, 1) := by decide +kernel
theorem dX12_law_18 : decode cX12_law 18 = .ok (.ldc2_w 155, 3) := by decide +kernel
theorem dX12_law_21 : decode cX12_law 21 = .ok (.invokestatic 80, 3) := by decide +kernel
theorem dX12_law_24 : decode cX12_law 24 = .ok (.ifCond .ne 9, 3) := by decide +kernel
theorem dX12_law_27 : decode cX12_law 27 = .ok (.aload_n 0, 1) := by decide +kernel
theorem dX12_law_28 : decode cX12_law 28 = .ok (.iconst 1, 1) := by decide +kernel
theorem dX12_law_29 : decode cX12_law 29 = .ok (.invokevirtual 143, 3) := by decide +kernel
theorem dX12_law_32 : decode cX12_law 32 = .ok (.ireturn, 1) := by decide +kernel
theorem dX12_law_33 : decode cX12_law 33 = .ok (.aload_n 0, 1) := by decide +kernel
theorem dX12_law_34 : decode cX12_law 34 = .ok (.iload_n 1, 1) := by decide +kernel
theorem dX12_law_35 : decode cX12_law 35 = .ok (.iload_n 2, 1) := by decide +kernel
theorem dX12_law_36 : decode cX12_law 36 = .ok (.iload_n 3, 1) := by decide +kernel
theorem dX12_law_37 : decode cX12_law 37 = .ok (.iload 4, 2) := by decide +kernel
theorem dX12_law_39 : decode cX12_law 39 = .ok (.invokevirtual 157, 3) := by decide +kernel
theorem dX12_law_42 : decode cX12_law 42 = .ok (.ireturn, 1) := by decide +kernel
theorem dX12_runs_0 : decode cX12_runs 0 = .ok (.aload_n 0, 1) := by decide +kernel
theorem dX12_runs_1 : decode cX12_runs 1 = .ok (.iload_n 1, 1) := by decide +kernel
theorem dX12_runs_2 : decode cX12_runs 2 = .ok (.iconst 1, 1) := by decide +kernel
theorem dX12_runs_3 : decode cX12_runs 3 = .ok (.invokevirtual 161, 3) := by decide +kernel
theorem dX12_runs_6 : decode cX12_runs 6 = .ok (.istore_n 2, 1) := by decide +kernel
theorem dX12_runs_7 : decode cX12_runs 7 = .ok (.iconst 5, 1) := by decide +kernel
theorem dX12_runs_8 : decode cX12_runs 8 = .ok (.istore_n 3, 1) := by decide +kernel
theorem dX12_runs_9 : decode cX12_runs 9 = .ok (.aload_n 0, 1) := by decide +kernel
theorem dX12_runs_10 : decode cX12_runs 10 = .ok (.iload_n 1, 1) := by decide +kernel
theorem dX12_runs_11 : decode cX12_runs 11 = .ok (.iconst 0, 1) := by decide +kernel
theorem dX12_runs_12 : decode cX12_runs 12 = .ok (.invokevirtual 161, 3) := by decide +kernel
theorem dX12_runs_15 : decode cX12_runs 15 = .ok (.tableswitch 85 1 6 #[37, 44, 53, 58, 67, 78], 37) := by decide +kernel
theorem dX12_runs_52 : decode cX12_runs 52 = .ok (.iconst 5, 1) := by decide +kernel
theorem dX12_runs_53 : decode cX12_runs 53 = .ok (.iload_n 2, 1) := by decide +kernel
theorem dX12_runs_54 : decode cX12_runs 54 = .ok (.iadd, 1) := by decide +kernel
theorem dX12_runs_55 : decode cX12_runs 55 = .ok (.istore_n 3, 1) := by decide +kernel
theorem dX12_runs_56 : decode cX12_runs 56 = .ok (.goto 44, 3) := by decide +kernel
theorem dX12_runs_59 : decode cX12_runs 59 = .ok (.iconst 5, 1) := by decide +kernel
theorem dX12_runs_60 : decode cX12_runs 60 = .ok (.iload_n 2, 1) := by decide +kernel
theorem dX12_runs_61 : decode cX12_runs 61 = .ok (.iconst 2, 1) := by decide +kernel
theorem dX12_runs_62 : decode cX12_runs 62 = .ok (.idiv, 1) := by decide +kernel
theorem dX12_runs_63 : decode cX12_runs 63 = .ok (.isub, 1) := by decide +kernel
theorem dX12_runs_64 : decode cX12_runs 64 = .ok (.istore_n 3, 1) := by decide +kernel
theorem dX12_runs_65 : decode cX12_runs 65 = .ok (.goto 35, 3) := by decide +kernel
theorem dX12_runs_68 : decode cX12_runs 68 = .ok (.iconst 1, 1) := by decide +kernel
theorem dX12_runs_69 : decode cX12_runs 69 = .ok (.istore_n 3, 1) := by decide +kernel
theorem dX12_runs_70 : decode cX12_runs 70 = .ok (.goto 30, 3) := by decide +kernel
theorem dX12_runs_73 : decode cX12_runs 73 = .ok (.iconst 2, 1) := by decide +kernel
theorem dX12_runs_74 : decode cX12_runs 74 = .ok (.iconst 5, 1) := by decide +kernel
theorem dX12_runs_75 : decode cX12_runs 75 = .ok (.iload_n 2, 1) := by decide +kernel
theorem dX12_runs_76 : decode cX12_runs 76 = .ok (.iadd, 1) := by decide +kernel
theorem dX12_runs_77 : decode cX12_runs 77 = .ok (.imul, 1) := by decide +kernel
theorem dX12_runs_78 : decode cX12_runs 78 = .ok (.istore_n 3, 1) := by decide +kernel
theorem dX12_runs_79 : decode cX12_runs 79 = .ok (.goto 21, 3) := by decide +kernel
theorem dX12_runs_82 : decode cX12_runs 82 = .ok (.iconst 5, 1) := by decide +kernel
theorem dX12_runs_83 : decode cX12_runs 83 = .ok (.iload_n 2, 1) := by decide +kernel
theorem dX12_runs_84 : decode cX12_runs 84 = .ok (.iconst 2, 1) := by decide +kernel
theorem dX12_runs_85 : decode cX12_runs 85 = .ok (.idiv, 1) := by decide +kernel
theorem dX12_runs_86 : decode cX12_runs 86 = .ok (.isub, 1) := by decide +kernel
theorem dX12_runs_87 : decode cX12_runs 87 = .ok (.iconst 2, 1) := by decide +kernel
theorem dX12_runs_88 : decode cX12_runs 88 = .ok (.idiv, 1) := by decide +kernel
theorem dX12_runs_89 : decode cX12_runs 89 = .ok (.istore_n 3, 1) := by decide +kernel
theorem dX12_runs_90 : decode cX12_runs 90 = .ok (.goto 10, 3) := by decide +kernel
theorem dX12_runs_93 : decode cX12_runs 93 = .ok (.iconst 1, 1) := by decide +kernel
theorem dX12_runs_94 : decode cX12_runs 94 = .ok (.iload_n 2, 1) := by decide +kernel
theorem dX12_runs_95 : decode cX12_runs 95 = .ok (.iadd, 1) := by decide +kernel
theorem dX12_runs_96 : decode cX12_runs 96 = .ok (.istore_n 3, 1) := by decide +kernel
theorem dX12_runs_97 : decode cX12_runs 97 = .ok (.goto 3, 3) := by decide +kernel
theorem dX12_runs_100 : decode cX12_runs 100 = .ok (.iload_n 3, 1) := by decide +kernel
theorem dX12_runs_101 : decode cX12_runs 101 = .ok (.iconst 1, 1) := by decide +kernel
theorem dX12_runs_102 : decode cX12_runs 102 = .ok (.if_icmp .ge 7, 3) := by decide +kernel
theorem dX12_runs_105 : decode cX12_runs 105 = .ok (.iconst 1, 1) := by decide +kernel
theorem dX12_runs_106 : decode cX12_runs 106 = .ok (.goto 4, 3) := by decide +kernel
theorem dX12_runs_109 : decode cX12_runs 109 = .ok (.iload_n 3, 1) := by decide +kernel
theorem dX12_runs_110 : decode cX12_runs 110 = .ok (.ireturn, 1) := by decide +kernel
theorem dX12_drips_0 : decode cX12_drips 0 = .ok (.aload_n 0, 1) := by decide +kernel
theorem dX12_drips_1 : decode cX12_drips 1 = .ok (.iload_n 1, 1) := by decide +kernel
theorem dX12_drips_2 : decode cX12_drips 2 = .ok (.iconst 0, 1) := by decide +kernel
theorem dX12_drips_3 : decode cX12_drips 3 = .ok (.invokevirtual 161, 3) := by decide +kernel
theorem dX12_drips_6 : decode cX12_drips 6 = .ok (.istore_n 2, 1) := by decide +kernel
theorem dX12_drips_7 : decode cX12_drips 7 = .ok (.aload_n 0, 1) := by decide +kernel
theorem dX12_drips_8 : decode cX12_drips 8 = .ok (.iload_n 1, 1) := by decide +kernel
theorem dX12_drips_9 : decode cX12_drips 9 = .ok (.iconst 1, 1) := by decide +kernel
theorem dX12_drips_10 : decode cX12_drips 10 = .ok (.invokevirtual 161, 3) := by decide +kernel
theorem dX12_drips_13 : decode cX12_drips 13 = .ok (.iconst 2, 1) := by decide +kernel
theorem dX12_drips_14 : decode cX12_drips 14 = .ok (.idiv, 1) := by decide +kernel
theorem dX12_drips_15 : decode cX12_drips 15 = .ok (.istore_n 3, 1) := by decide +kernel
theorem dX12_drips_16 : decode cX12_drips 16 = .ok (.iload_n 2, 1) := by decide +kernel
theorem dX12_drips_17 : decode cX12_drips 17 = .ok (.iconst 1, 1) := by decide +kernel
theorem dX12_drips_18 : decode cX12_drips 18 = .ok (.if_icmp .ne 7, 3) := by decide +kernel
theorem dX12_drips_21 : decode cX12_drips 21 = .ok (.iload_n 3, 1) := by decide +kernel
theorem dX12_drips_22 : decode cX12_drips 22 = .ok (.goto 30, 3) := by decide +kernel
theorem dX12_drips_25 : decode cX12_drips 25 = .ok (.iload_n 2, 1) := by decide +kernel
theorem dX12_drips_26 : decode cX12_drips 26 = .ok (.iconst 4, 1) := by decide +kernel
theorem dX12_drips_27 : decode cX12_drips 27 = .ok (.if_icmp .ne 9, 3) := by decide +kernel
theorem dX12_drips_30 : decode cX12_drips 30 = .ok (.iload_n 3, 1) := by decide +kernel
theorem dX12_drips_31 : decode cX12_drips 31 = .ok (.iconst 1, 1) := by decide +kernel
theorem dX12_drips_32 : decode cX12_drips 32 = .ok (.iadd, 1) := by decide +kernel
theorem dX12_drips_33 : decode cX12_drips 33 = .ok (.goto 19, 3) := by decide +kernel
theorem dX12_drips_36 : decode cX12_drips 36 = .ok (.iload_n 2, 1) := by decide +kernel
theorem dX12_drips_37 : decode cX12_drips 37 = .ok (.iconst 3, 1) := by decide +kernel
theorem dX12_drips_38 : decode cX12_drips 38 = .ok (.if_icmp .eq 9, 3) := by decide +kernel
theorem dX12_drips_41 : decode cX12_drips 41 = .ok (.iload_n 2, 1) := by decide +kernel
theorem dX12_drips_42 : decode cX12_drips 42 = .ok (.bipush 6, 2) := by decide +kernel
theorem dX12_drips_44 : decode cX12_drips 44 = .ok (.if_icmp .ne 7, 3) := by decide +kernel
theorem dX12_drips_47 : decode cX12_drips 47 = .ok (.iconst 1, 1) := by decide +kernel
theorem dX12_drips_48 : decode cX12_drips 48 = .ok (.goto 4, 3) := by decide +kernel
theorem dX12_drips_51 : decode cX12_drips 51 = .ok (.iconst 0, 1) := by decide +kernel
theorem dX12_drips_52 : decode cX12_drips 52 = .ok (.ireturn, 1) := by decide +kernel
theorem dX12_above_0 : decode cX12_above 0 = .ok (.iload_n 0, 1) := by decide +kernel
theorem dX12_above_1 : decode cX12_above 1 = .ok (.iconst 4, 1) := by decide +kernel
theorem dX12_above_2 : decode cX12_above 2 = .ok (.if_icmp .ge 7, 3) := by decide +kernel
theorem dX12_above_5 : decode cX12_above 5 = .ok (.iconst 0, 1) := by decide +kernel
theorem dX12_above_6 : decode cX12_above 6 = .ok (.goto 6, 3) := by decide +kernel
theorem dX12_above_9 : decode cX12_above 9 = .ok (.iload_n 0, 1) := by decide +kernel
theorem dX12_above_10 : decode cX12_above 10 = .ok (.iconst 3, 1) := by decide +kernel
theorem dX12_above_11 : decode cX12_above 11 = .ok (.isub, 1) := by decide +kernel
theorem dX12_above_12 : decode cX12_above 12 = .ok (.ireturn, 1) := by decide +kernel
theorem dX12_party_0 : decode cX12_party 0 = .ok (.iload_n 1, 1) := by decide +kernel
theorem dX12_party_1 : decode cX12_party 1 = .ok (.i2l, 1) := by decide +kernel
theorem dX12_party_2 : decode cX12_party 2 = .ok (.lconst 0, 1) := by decide +kernel
theorem dX12_party_3 : decode cX12_party 3 = .ok (.ldc2_w 165, 3) := by decide +kernel
theorem dX12_party_6 : decode cX12_party 6 = .ok (.invokestatic 80, 3) := by decide +kernel
theorem dX12_party_9 : decode cX12_party 9 = .ok (.ifCond .eq 15, 3) := by decide +kernel
theorem dX12_party_12 : decode cX12_party 12 = .ok (.iload_n 2, 1) := by decide +kernel
theorem dX12_party_13 : decode cX12_party 13 = .ok (.i2l, 1) := by decide +kernel
theorem dX12_party_14 : decode cX12_party 14 = .ok (.lconst 1, 1) := by decide +kernel
theorem dX12_party_15 : decode cX12_party 15 = .ok (.ldc2_w 155, 3) := by decide +kernel
theorem dX12_party_18 : decode cX12_party 18 = .ok (.invokestatic 80, 3) := by decide +kernel
theorem dX12_party_21 : decode cX12_party 21 = .ok (.ifCond .ne 9, 3) := by decide +kernel
theorem dX12_party_24 : decode cX12_party 24 = .ok (.aload_n 0, 1) := by decide +kernel
theorem dX12_party_25 : decode cX12_party 25 = .ok (.iconst 1, 1) := by decide +kernel
theorem dX12_party_26 : decode cX12_party 26 = .ok (.invokevirtual 143, 3) := by decide +kernel
theorem dX12_party_29 : decode cX12_party 29 = .ok (.ireturn, 1) := by decide +kernel
theorem dX12_party_30 : decode cX12_party 30 = .ok (.aload_n 0, 1) := by decide +kernel
theorem dX12_party_31 : decode cX12_party 31 = .ok (.getfield 7, 3) := by decide +kernel
theorem dX12_party_34 : decode cX12_party 34 = .ok (.iconst 0, 1) := by decide +kernel
theorem dX12_party_35 : decode cX12_party 35 = .ok (.iaload, 1) := by decide +kernel
theorem dX12_party_36 : decode cX12_party 36 = .ok (.iconst 4, 1) := by decide +kernel
theorem dX12_party_37 : decode cX12_party 37 = .ok (.if_icmp .ne 9, 3) := by decide +kernel
theorem dX12_party_40 : decode cX12_party 40 = .ok (.aload_n 0, 1) := by decide +kernel
theorem dX12_party_41 : decode cX12_party 41 = .ok (.iconst 4, 1) := by decide +kernel
theorem dX12_party_42 : decode cX12_party 42 = .ok (.invokevirtual 143, 3) := by decide +kernel
theorem dX12_party_45 : decode cX12_party 45 = .ok (.ireturn, 1) := by decide +kernel
theorem dX12_party_46 : decode cX12_party 46 = .ok (.aload_n 0, 1) := by decide +kernel
theorem dX12_party_47 : decode cX12_party 47 = .ok (.getfield 7, 3) := by decide +kernel
theorem dX12_party_50 : decode cX12_party 50 = .ok (.iconst 0, 1) := by decide +kernel
theorem dX12_party_51 : decode cX12_party 51 = .ok (.iaload, 1) := by decide +kernel
theorem dX12_party_52 : decode cX12_party 52 = .ok (.istore_n 3, 1) := by decide +kernel
theorem dX12_party_53 : decode cX12_party 53 = .ok (.aload_n 0, 1) := by decide +kernel
theorem dX12_party_54 : decode cX12_party 54 = .ok (.getfield 7, 3) := by decide +kernel
theorem dX12_party_57 : decode cX12_party 57 = .ok (.iconst 0, 1) := by decide +kernel
theorem dX12_party_58 : decode cX12_party 58 = .ok (.dup2, 1) := by decide +kernel
theorem dX12_party_59 : decode cX12_party 59 = .ok (.iaload, 1) := by decide +kernel
theorem dX12_party_60 : decode cX12_party 60 = .ok (.iconst 1, 1) := by decide +kernel
theorem dX12_party_61 : decode cX12_party 61 = .ok (.iadd, 1) := by decide +kernel
theorem dX12_party_62 : decode cX12_party 62 = .ok (.iastore, 1) := by decide +kernel
theorem dX12_party_63 : decode cX12_party 63 = .ok (.aload_n 0, 1) := by decide +kernel
theorem dX12_party_64 : decode cX12_party 64 = .ok (.iload_n 3, 1) := by decide +kernel
theorem dX12_party_65 : decode cX12_party 65 = .ok (.iconst 0, 1) := by decide +kernel
theorem dX12_party_66 : decode cX12_party 66 = .ok (.iload_n 1, 1) := by decide +kernel
theorem dX12_party_67 : decode cX12_party 67 = .ok (.bipush 10, 2) := by decide +kernel
theorem dX12_party_69 : decode cX12_party 69 = .ok (.idiv, 1) := by decide +kernel
theorem dX12_party_70 : decode cX12_party 70 = .ok (.invokevirtual 167, 3) := by decide +kernel
theorem dX12_party_73 : decode cX12_party 73 = .ok (.aload_n 0, 1) := by decide +kernel
theorem dX12_party_74 : decode cX12_party 74 = .ok (.iload_n 3, 1) := by decide +kernel
theorem dX12_party_75 : decode cX12_party 75 = .ok (.iconst 1, 1) := by decide +kernel
theorem dX12_party_76 : decode cX12_party 76 = .ok (.iload_n 1, 1) := by decide +kernel
theorem dX12_party_77 : decode cX12_party 77 = .ok (.bipush 10, 2) := by decide +kernel
theorem dX12_party_79 : decode cX12_party 79 = .ok (.irem, 1) := by decide +kernel
theorem dX12_party_80 : decode cX12_party 80 = .ok (.invokevirtual 167, 3) := by decide +kernel
theorem dX12_party_83 : decode cX12_party 83 = .ok (.aload_n 0, 1) := by decide +kernel
theorem dX12_party_84 : decode cX12_party 84 = .ok (.iload_n 3, 1) := by decide +kernel
theorem dX12_party_85 : decode cX12_party 85 = .ok (.iconst 2, 1) := by decide +kernel
theorem dX12_party_86 : decode cX12_party 86 = .ok (.iload_n 2, 1) := by decide +kernel
theorem dX12_party_87 : decode cX12_party 87 = .ok (.invokevirtual 167, 3) := by decide +kernel
theorem dX12_party_90 : decode cX12_party 90 = .ok (.aload_n 0, 1) := by decide +kernel
theorem dX12_party_91 : decode cX12_party 91 = .ok (.iload_n 3, 1) := by decide +kernel
theorem dX12_party_92 : decode cX12_party 92 = .ok (.iconst 3, 1) := by decide +kernel
theorem dX12_party_93 : decode cX12_party 93 = .ok (.iconst 0, 1) := by decide +kernel
theorem dX12_party_94 : decode cX12_party 94 = .ok (.invokevirtual 167, 3) := by decide +kernel
theorem dX12_party_97 : decode cX12_party 97 = .ok (.aload_n 0, 1) := by decide +kernel
theorem dX12_party_98 : decode cX12_party 98 = .ok (.iload_n 3, 1) := by decide +kernel
theorem dX12_party_99 : decode cX12_party 99 = .ok (.iconst 4, 1) := by decide +kernel
theorem dX12_party_100 : decode cX12_party 100 = .ok (.iconst 0, 1) := by decide +kernel
theorem dX12_party_101 : decode cX12_party 101 = .ok (.invokevirtual 167, 3) := by decide +kernel
theorem dX12_party_104 : decode cX12_party 104 = .ok (.iload_n 3, 1) := by decide +kernel
theorem dX12_party_105 : decode cX12_party 105 = .ok (.ireturn, 1) := by decide +kernel
theorem dX12_saidOf_0 : decode cX12_saidOf 0 = .ok (.iconst 0, 1) := by decide +kernel
theorem dX12_saidOf_1 : decode cX12_saidOf 1 = .ok (.istore_n 2, 1) := by decide +kernel
theorem dX12_saidOf_2 : decode cX12_saidOf 2 = .ok (.iconst 0, 1) := by decide +kernel
theorem dX12_saidOf_3 : decode cX12_saidOf 3 = .ok (.istore_n 3, 1) := by decide +kernel
theorem dX12_saidOf_4 : decode cX12_saidOf 4 = .ok (.iload_n 3, 1) := by decide +kernel
theorem dX12_saidOf_5 : decode cX12_saidOf 5 = .ok (.aload_n 0, 1) := by decide +kernel
theorem dX12_saidOf_6 : decode cX12_saidOf 6 = .ok (.getfield 7, 3) := by decide +kernel
theorem dX12_saidOf_9 : decode cX12_saidOf 9 = .ok (.iconst 1, 1) := by decide +kernel
theorem dX12_saidOf_10 : decode cX12_saidOf 10 = .ok (.iaload, 1) := by decide +kernel
theorem dX12_saidOf_11 : decode cX12_saidOf 11 = .ok (.if_icmp .ge 37, 3) := by decide +kernel
theorem dX12_saidOf_14 : decode cX12_saidOf 14 = .ok (.iload_n 2, 1) := by decide +kernel
theorem dX12_saidOf_15 : decode cX12_saidOf 15 = .ok (.aload_n 0, 1) := by decide +kernel
theorem dX12_saidOf_16 : decode cX12_saidOf 16 = .ok (.iload_n 3, 1) := by decide +kernel
theorem dX12_saidOf_17 : decode cX12_saidOf 17 = .ok (.iconst 0, 1) := by decide +kernel
theorem dX12_saidOf_18 : decode cX12_saidOf 18 = .ok (.invokevirtual 171, 3) := by decide +kernel
theorem dX12_saidOf_21 : decode cX12_saidOf 21 = .ok (.iload_n 1, 1) := by decide +kernel
theorem dX12_saidOf_22 : decode cX12_saidOf 22 = .ok (.if_icmp .ne 17, 3) := by decide +kernel
theorem dX12_saidOf_25 : decode cX12_saidOf 25 = .ok (.aload_n 0, 1) := by decide +kernel
theorem dX12_saidOf_26 : decode cX12_saidOf 26 = .ok (.iload_n 3, 1) := by decide +kernel
theorem dX12_saidOf_27 : decode cX12_saidOf 27 = .ok (.iconst 4, 1) := by decide +kernel
theorem dX12_saidOf_28 : decode cX12_saidOf 28 = .ok (.invokevirtual 171, 3) := by decide +kernel
theorem dX12_saidOf_31 : decode cX12_saidOf 31 = .ok (.iconst 1, 1) := by decide +kernel
theorem dX12_saidOf_32 : decode cX12_saidOf 32 = .ok (.if_icmp .ne 7, 3) := by decide +kernel
theorem dX12_saidOf_35 : decode cX12_saidOf 35 = .ok (.iconst 1, 1) := by decide +kernel
theorem dX12_saidOf_36 : decode cX12_saidOf 36 = .ok (.goto 4, 3) := by decide +kernel
theorem dX12_saidOf_39 : decode cX12_saidOf 39 = .ok (.iconst 0, 1) := by decide +kernel
theorem dX12_saidOf_40 : decode cX12_saidOf 40 = .ok (.iadd, 1) := by decide +kernel
theorem dX12_saidOf_41 : decode cX12_saidOf 41 = .ok (.istore_n 2, 1) := by decide +kernel
theorem dX12_saidOf_42 : decode cX12_saidOf 42 = .ok (.iinc 3 1, 3) := by decide +kernel
theorem dX12_saidOf_45 : decode cX12_saidOf 45 = .ok (.goto (-41), 3) := by decide +kernel
theorem dX12_saidOf_48 : decode cX12_saidOf 48 = .ok (.iload_n 2, 1) := by decide +kernel
theorem dX12_saidOf_49 : decode cX12_saidOf 49 = .ok (.ireturn, 1) := by decide +kernel
theorem dX12_ofParty_0 : decode cX12_ofParty 0 = .ok (.aload_n 0, 1) := by decide +kernel
theorem dX12_ofParty_1 : decode cX12_ofParty 1 = .ok (.iload_n 1, 1) := by decide +kernel
theorem dX12_ofParty_2 : decode cX12_ofParty 2 = .ok (.invokevirtual 174, 3) := by decide +kernel
theorem dX12_ofParty_5 : decode cX12_ofParty 5 = .ok (.ifCond .eq 15, 3) := by decide +kernel
theorem dX12_ofParty_8 : decode cX12_ofParty 8 = .ok (.iload_n 2, 1) := by decide +kernel
theorem dX12_ofParty_9 : decode cX12_ofParty 9 = .ok (.i2l, 1) := by decide +kernel
theorem dX12_ofParty_10 : decode cX12_ofParty 10 = .ok (.lconst 0, 1) := by decide +kernel
theorem dX12_ofParty_11 : decode cX12_ofParty 11 = .ok (.ldc2_w 177, 3) := by decide +kernel
theorem dX12_ofParty_14 : decode cX12_ofParty 14 = .ok (.invokestatic 80, 3) := by decide +kernel
theorem dX12_ofParty_17 : decode cX12_ofParty 17 = .ok (.ifCond .ne 9, 3) := by decide +kernel
theorem dX12_ofParty_20 : decode cX12_ofParty 20 = .ok (.aload_n 0, 1) := by decide +kernel
theorem dX12_ofParty_21 : decode cX12_ofParty 21 = .ok (.iconst 1, 1) := by decide +kernel
theorem dX12_ofParty_22 : decode cX12_ofParty 22 = .ok (.invokevirtual 143, 3) := by decide +kernel
theorem dX12_ofParty_25 : decode cX12_ofParty 25 = .ok (.ireturn, 1) := by decide +kernel
theorem dX12_ofParty_26 : decode cX12_ofParty 26 = .ok (.iload_n 2, 1) := by decide +kernel
theorem dX12_ofParty_27 : decode cX12_ofParty 27 = .ok (.iconst 5, 1) := by decide +kernel
theorem dX12_ofParty_28 : decode cX12_ofParty 28 = .ok (.if_icmp .ge 12, 3) := by decide +kernel
theorem dX12_ofParty_31 : decode cX12_ofParty 31 = .ok (.aload_n 0, 1) := by decide +kernel
theorem dX12_ofParty_32 : decode cX12_ofParty 32 = .ok (.iload_n 1, 1) := by decide +kernel
theorem dX12_ofParty_33 : decode cX12_ofParty 33 = .ok (.iload_n 2, 1) := by decide +kernel
theorem dX12_ofParty_34 : decode cX12_ofParty 34 = .ok (.invokevirtual 161, 3) := by decide +kernel
theorem dX12_ofParty_37 : decode cX12_ofParty 37 = .ok (.goto 35, 3) := by decide +kernel
theorem dX12_ofParty_40 : decode cX12_ofParty 40 = .ok (.iload_n 2, 1) := by decide +kernel
theorem dX12_ofParty_41 : decode cX12_ofParty 41 = .ok (.iconst 5, 1) := by decide +kernel
theorem dX12_ofParty_42 : decode cX12_ofParty 42 = .ok (.if_icmp .ne 11, 3) := by decide +kernel
theorem dX12_ofParty_45 : decode cX12_ofParty 45 = .ok (.aload_n 0, 1) := by decide +kernel
theorem dX12_ofParty_46 : decode cX12_ofParty 46 = .ok (.iload_n 1, 1) := by decide +kernel
theorem dX12_ofParty_47 : decode cX12_ofParty 47 = .ok (.invokevirtual 179, 3) := by decide +kernel
theorem dX12_ofParty_50 : decode cX12_ofParty 50 = .ok (.goto 22, 3) := by decide +kernel
theorem dX12_ofParty_53 : decode cX12_ofParty 53 = .ok (.iload_n 2, 1) := by decide +kernel
theorem dX12_ofParty_54 : decode cX12_ofParty 54 = .ok (.bipush 6, 2) := by decide +kernel
theorem dX12_ofParty_56 : decode cX12_ofParty 56 = .ok (.if_icmp .ne 11, 3) := by decide +kernel
theorem dX12_ofParty_59 : decode cX12_ofParty 59 = .ok (.aload_n 0, 1) := by decide +kernel
theorem dX12_ofParty_60 : decode cX12_ofParty 60 = .ok (.iload_n 1, 1) := by decide +kernel
theorem dX12_ofParty_61 : decode cX12_ofParty 61 = .ok (.invokevirtual 182, 3) := by decide +kernel
theorem dX12_ofParty_64 : decode cX12_ofParty 64 = .ok (.goto 8, 3) := by decide +kernel
theorem dX12_ofParty_67 : decode cX12_ofParty 67 = .ok (.aload_n 0, 1) := by decide +kernel
theorem dX12_ofParty_68 : decode cX12_ofParty 68 = .ok (.iload_n 1, 1) := by decide +kernel
theorem dX12_ofParty_69 : decode cX12_ofParty 69 = .ok (.invokevirtual 185, 3) := by decide +kernel
theorem dX12_ofParty_72 : decode cX12_ofParty 72 = .ok (.ireturn, 1) := by decide +kernel
theorem dX12_become_0 : decode cX12_become 0 = .ok (.aload_n 0, 1) := by decide +kernel
theorem dX12_become_1 : decode cX12_become 1 = .ok (.iload_n 1, 1) := by decide +kernel
theorem dX12_become_2 : decode cX12_become 2 = .ok (.invokevirtual 174, 3) := by decide +kernel
theorem dX12_become_5 : decode cX12_become 5 = .ok (.ifCond .eq 15, 3) := by decide +kernel
theorem dX12_become_8 : decode cX12_become 8 = .ok (.iload_n 2, 1) := by decide +kernel
theorem dX12_become_9 : decode cX12_become 9 = .ok (.i2l, 1) := by decide +kernel
theorem dX12_become_10 : decode cX12_become 10 = .ok (.lconst 0, 1) := by decide +kernel
theorem dX12_become_11 : decode cX12_become 11 = .ok (.ldc2_w 165, 3) := by decide +kernel
theorem dX12_become_14 : decode cX12_become 14 = .ok (.invokestatic 80, 3) := by decide +kernel
theorem dX12_become_17 : decode cX12_become 17 = .ok (.ifCond .ne 9, 3) := by decide +kernel
theorem dX12_become_20 : decode cX12_become 20 = .ok (.aload_n 0, 1) := by decide +kernel
theorem dX12_become_21 : decode cX12_become 21 = .ok (.iconst 1, 1) := by decide +kernel
theorem dX12_become_22 : decode cX12_become 22 = .ok (.invokevirtual 143, 3) := by decide +kernel
theorem dX12_become_25 : decode cX12_become 25 = .ok (.ireturn, 1) := by decide +kernel
theorem dX12_become_26 : decode cX12_become 26 = .ok (.aload_n 0, 1) := by decide +kernel
theorem dX12_become_27 : decode cX12_become 27 = .ok (.iload_n 1, 1) := by decide +kernel
theorem dX12_become_28 : decode cX12_become 28 = .ok (.iconst 0, 1) := by decide +kernel
theorem dX12_become_29 : decode cX12_become 29 = .ok (.invokevirtual 161, 3) := by decide +kernel
theorem dX12_become_32 : decode cX12_become 32 = .ok (.istore_n 3, 1) := by decide +kernel
theorem dX12_become_33 : decode cX12_become 33 = .ok (.aload_n 0, 1) := by decide +kernel
theorem dX12_become_34 : decode cX12_become 34 = .ok (.iload_n 1, 1) := by decide +kernel
theorem dX12_become_35 : decode cX12_become 35 = .ok (.iconst 0, 1) := by decide +kernel
theorem dX12_become_36 : decode cX12_become 36 = .ok (.iload_n 2, 1) := by decide +kernel
theorem dX12_become_37 : decode cX12_become 37 = .ok (.bipush 10, 2) := by decide +kernel
theorem dX12_become_39 : decode cX12_become 39 = .ok (.idiv, 1) := by decide +kernel
theorem dX12_become_40 : decode cX12_become 40 = .ok (.invokevirtual 167, 3) := by decide +kernel
theorem dX12_become_43 : decode cX12_become 43 = .ok (.aload_n 0, 1) := by decide +kernel
theorem dX12_become_44 : decode cX12_become 44 = .ok (.iload_n 1, 1) := by decide +kernel
theorem dX12_become_45 : decode cX12_become 45 = .ok (.iconst 1, 1) := by decide +kernel
theorem dX12_become_46 : decode cX12_become 46 = .ok (.iload_n 2, 1) := by decide +kernel
theorem dX12_become_47 : decode cX12_become 47 = .ok (.bipush 10, 2) := by decide +kernel
theorem dX12_become_49 : decode cX12_become 49 = .ok (.irem, 1) := by decide +kernel
theorem dX12_become_50 : decode cX12_become 50 = .ok (.invokevirtual 167, 3) := by decide +kernel
theorem dX12_become_53 : decode cX12_become 53 = .ok (.iload_n 3, 1) := by decide +kernel
theorem dX12_become_54 : decode cX12_become 54 = .ok (.ireturn, 1) := by decide +kernel
theorem dX12_as_0 : decode cX12_as 0 = .ok (.aload_n 0, 1) := by decide +kernel
theorem dX12_as_1 : decode cX12_as 1 = .ok (.iload_n 1, 1) := by decide +kernel
theorem dX12_as_2 : decode cX12_as 2 = .ok (.invokevirtual 174, 3) := by decide +kernel
theorem dX12_as_5 : decode cX12_as 5 = .ok (.ifCond .eq 15, 3) := by decide +kernel
theorem dX12_as_8 : decode cX12_as 8 = .ok (.iload_n 2, 1) := by decide +kernel
theorem dX12_as_9 : decode cX12_as 9 = .ok (.i2l, 1) := by decide +kernel
theorem dX12_as_10 : decode cX12_as 10 = .ok (.lconst 0, 1) := by decide +kernel
theorem dX12_as_11 : decode cX12_as 11 = .ok (.ldc2_w 188, 3) := by decide +kernel
theorem dX12_as_14 : decode cX12_as 14 = .ok (.invokestatic 80, 3) := by decide +kernel
theorem dX12_as_17 : decode cX12_as 17 = .ok (.ifCond .ne 9, 3) := by decide +kernel
theorem dX12_as_20 : decode cX12_as 20 = .ok (.aload_n 0, 1) := by decide +kernel
theorem dX12_as_21 : decode cX12_as 21 = .ok (.iconst 1, 1) := by decide +kernel
theorem dX12_as_22 : decode cX12_as 22 = .ok (.invokevirtual 143, 3) := by decide +kernel
theorem dX12_as_25 : decode cX12_as 25 = .ok (.ireturn, 1) := by decide +kernel
theorem dX12_as_26 : decode cX12_as 26 = .ok (.aload_n 0, 1) := by decide +kernel
theorem dX12_as_27 : decode cX12_as 27 = .ok (.iload_n 1, 1) := by decide +kernel
theorem dX12_as_28 : decode cX12_as 28 = .ok (.iconst 0, 1) := by decide +kernel
theorem dX12_as_29 : decode cX12_as 29 = .ok (.invokevirtual 161, 3) := by decide +kernel
theorem dX12_as_32 : decode cX12_as 32 = .ok (.istore_n 3, 1) := by decide +kernel
theorem dX12_as_33 : decode cX12_as 33 = .ok (.iload_n 2, 1) := by decide +kernel
theorem dX12_as_34 : decode cX12_as 34 = .ok (.ifCond .eq 16, 3) := by decide +kernel
theorem dX12_as_37 : decode cX12_as 37 = .ok (.iload_n 2, 1) := by decide +kernel
theorem dX12_as_38 : decode cX12_as 38 = .ok (.iload_n 3, 1) := by decide +kernel
theorem dX12_as_39 : decode cX12_as 39 = .ok (.if_icmp .eq 11, 3) := by decide +kernel
theorem dX12_as_42 : decode cX12_as 42 = .ok (.iload_n 2, 1) := by decide +kernel
theorem dX12_as_43 : decode cX12_as 43 = .ok (.iload_n 3, 1) := by decide +kernel
theorem dX12_as_44 : decode cX12_as 44 = .ok (.invokestatic 190, 3) := by decide +kernel
theorem dX12_as_47 : decode cX12_as 47 = .ok (.if_icmp .ne 12, 3) := by decide +kernel
theorem dX12_as_50 : decode cX12_as 50 = .ok (.aload_n 0, 1) := by decide +kernel
theorem dX12_as_51 : decode cX12_as 51 = .ok (.iload_n 1, 1) := by decide +kernel
theorem dX12_as_52 : decode cX12_as 52 = .ok (.iconst 1, 1) := by decide +kernel
theorem dX12_as_53 : decode cX12_as 53 = .ok (.invokevirtual 161, 3) := by decide +kernel
theorem dX12_as_56 : decode cX12_as 56 = .ok (.goto 8, 3) := by decide +kernel
theorem dX12_as_59 : decode cX12_as 59 = .ok (.aload_n 0, 1) := by decide +kernel
theorem dX12_as_60 : decode cX12_as 60 = .ok (.iconst 5, 1) := by decide +kernel
theorem dX12_as_61 : decode cX12_as 61 = .ok (.invokevirtual 143, 3) := by decide +kernel
theorem dX12_as_64 : decode cX12_as 64 = .ok (.ireturn, 1) := by decide +kernel
theorem dX12_word_0 : decode cX12_word 0 = .ok (.aload_n 0, 1) := by decide +kernel
theorem dX12_word_1 : decode cX12_word 1 = .ok (.iload_n 1, 1) := by decide +kernel
theorem dX12_word_2 : decode cX12_word 2 = .ok (.invokevirtual 174, 3) := by decide +kernel
theorem dX12_word_5 : decode cX12_word 5 = .ok (.ifCond .eq 48, 3) := by decide +kernel
theorem dX12_word_8 : decode cX12_word 8 = .ok (.iload_n 2, 1) := by decide +kernel
theorem dX12_word_9 : decode cX12_word 9 = .ok (.i2l, 1) := by decide +kernel
theorem dX12_word_10 : decode cX12_word 10 = .ok (.lconst 1, 1) := by decide +kernel
theorem dX12_word_11 : decode cX12_word 11 = .ok (.ldc2_w 193, 3) := by decide +kernel
theorem dX12_word_14 : decode cX12_word 14 = .ok (.invokestatic 80, 3) := by decide +kernel
theorem dX12_word_17 : decode cX12_word 17 = .ok (.ifCond .eq 36, 3) := by decide +kernel
theorem dX12_word_20 : decode cX12_word 20 = .ok (.iload_n 3, 1) := by decide +kernel
theorem dX12_word_21 : decode cX12_word 21 = .ok (.i2l, 1) := by decide +kernel
theorem dX12_word_22 : decode cX12_word 22 = .ok (.lconst 0, 1) := by decide +kernel
theorem dX12_word_23 : decode cX12_word 23 = .ok (.ldc2_w 195, 3) := by decide +kernel
theorem dX12_word_26 : decode cX12_word 26 = .ok (.invokestatic 80, 3) := by decide +kernel
theorem dX12_word_29 : decode cX12_word 29 = .ok (.ifCond .eq 24, 3) := by decide +kernel
theorem dX12_word_32 : decode cX12_word 32 = .ok (.iload 4, 2) := by decide +kernel
theorem dX12_word_34 : decode cX12_word 34 = .ok (.i2l, 1) := by decide +kernel
theorem dX12_word_35 : decode cX12_word 35 = .ok (.ldc2_w 197, 3) := by decide +kernel
theorem dX12_word_38 : decode cX12_word 38 = .ok (.aload_n 0, 1) := by decide +kernel
theorem dX12_word_39 : decode cX12_word 39 = .ok (.getfield 7, 3) := by decide +kernel
theorem dX12_word_42 : decode cX12_word 42 = .ok (.iconst 1, 1) := by decide +kernel
theorem dX12_word_43 : decode cX12_word 43 = .ok (.iaload, 1) := by decide +kernel
theorem dX12_word_44 : decode cX12_word 44 = .ok (.iconst 1, 1) := by decide +kernel
theorem dX12_word_45 : decode cX12_word 45 = .ok (.isub, 1) := by decide +kernel
theorem dX12_word_46 : decode cX12_word 46 = .ok (.i2l, 1) := by decide +kernel
theorem dX12_word_47 : decode cX12_word 47 = .ok (.invokestatic 80, 3) := by decide +kernel
theorem dX12_word_50 : decode cX12_word 50 = .ok (.ifCond .ne 9, 3) := by decide +kernel
theorem dX12_word_53 : decode cX12_word 53 = .ok (.aload_n 0, 1) := by decide +kernel
theorem dX12_word_54 : decode cX12_word 54 = .ok (.iconst 1, 1) := by decide +kernel
theorem dX12_word_55 : decode cX12_word 55 = .ok (.invokevirtual 143, 3) := by decide +kernel
theorem dX12_word_58 : decode cX12_word 58 = .ok (.ireturn, 1) := by decide +kernel
theorem dX12_word_59 : decode cX12_word 59 = .ok (.aload_n 0, 1) := by decide +kernel
theorem dX12_word_60 : decode cX12_word 60 = .ok (.getfield 7, 3) := by decide +kernel
theorem dX12_word_63 : decode cX12_word 63 = .ok (.iconst 1, 1) := by decide +kernel
theorem dX12_word_64 : decode cX12_word 64 = .ok (.iaload, 1) := by decide +kernel
theorem dX12_word_65 : decode cX12_word 65 = .ok (.bipush 12, 2) := by decide +kernel
theorem dX12_word_67 : decode cX12_word 67 = .ok (.if_icmp .ne 9, 3) := by decide +kernel
theorem dX12_word_70 : decode cX12_word 70 = .ok (.aload_n 0, 1) := by decide +kernel
theorem dX12_word_71 : decode cX12_word 71 = .ok (.iconst 4, 1) := by decide +kernel
theorem dX12_word_72 : decode cX12_word 72 = .ok (.invokevirtual 143, 3) := by decide +kernel
theorem dX12_word_75 : decode cX12_word 75 = .ok (.ireturn, 1) := by decide +kernel
theorem dX12_word_76 : decode cX12_word 76 = .ok (.aload_n 0, 1) := by decide +kernel
theorem dX12_word_77 : decode cX12_word 77 = .ok (.getfield 7, 3) := by decide +kernel
theorem dX12_word_80 : decode cX12_word 80 = .ok (.iconst 1, 1) := by decide +kernel
theorem dX12_word_81 : decode cX12_word 81 = .ok (.iaload, 1) := by decide +kernel
theorem dX12_word_82 : decode cX12_word 82 = .ok (.istore 5, 2) := by decide +kernel
theorem dX12_word_84 : decode cX12_word 84 = .ok (.aload_n 0, 1) := by decide +kernel
theorem dX12_word_85 : decode cX12_word 85 = .ok (.getfield 7, 3) := by decide +kernel
theorem dX12_word_88 : decode cX12_word 88 = .ok (.iconst 1, 1) := by decide +kernel
theorem dX12_word_89 : decode cX12_word 89 = .ok (.dup2, 1) := by decide +kernel
theorem dX12_word_90 : decode cX12_word 90 = .ok (.iaload, 1) := by decide +kernel
theorem dX12_word_91 : decode cX12_word 91 = .ok (.iconst 1, 1) := by decide +kernel
theorem dX12_word_92 : decode cX12_word 92 = .ok (.iadd, 1) := by decide +kernel
theorem dX12_word_93 : decode cX12_word 93 = .ok (.iastore, 1) := by decide +kernel
theorem dX12_word_94 : decode cX12_word 94 = .ok (.aload_n 0, 1) := by decide +kernel
theorem dX12_word_95 : decode cX12_word 95 = .ok (.iload 5, 2) := by decide +kernel
theorem dX12_word_97 : decode cX12_word 97 = .ok (.iconst 0, 1) := by decide +kernel
theorem dX12_word_98 : decode cX12_word 98 = .ok (.iload_n 1, 1) := by decide +kernel
theorem dX12_word_99 : decode cX12_word 99 = .ok (.invokevirtual 199, 3) := by decide +kernel
theorem dX12_word_102 : decode cX12_word 102 = .ok (.aload_n 0, 1) := by decide +kernel
theorem dX12_word_103 : decode cX12_word 103 = .ok (.iload 5, 2) := by decide +kernel
theorem dX12_word_105 : decode cX12_word 105 = .ok (.iconst 1, 1) := by decide +kernel
theorem dX12_word_106 : decode cX12_word 106 = .ok (.iload_n 2, 1) := by decide +kernel
theorem dX12_word_107 : decode cX12_word 107 = .ok (.invokevirtual 199, 3) := by decide +kernel
theorem dX12_word_110 : decode cX12_word 110 = .ok (.aload_n 0, 1) := by decide +kernel
theorem dX12_word_111 : decode cX12_word 111 = .ok (.iload 5, 2) := by decide +kernel
theorem dX12_word_113 : decode cX12_word 113 = .ok (.iconst 2, 1) := by decide +kernel
theorem dX12_word_114 : decode cX12_word 114 = .ok (.iload_n 3, 1) := by decide +kernel
theorem dX12_word_115 : decode cX12_word 115 = .ok (.invokevirtual 199, 3) := by decide +kernel
theorem dX12_word_118 : decode cX12_word 118 = .ok (.aload_n 0, 1) := by decide +kernel
theorem dX12_word_119 : decode cX12_word 119 = .ok (.iload 5, 2) := by decide +kernel
theorem dX12_word_121 : decode cX12_word 121 = .ok (.iconst 3, 1) := by decide +kernel
theorem dX12_word_122 : decode cX12_word 122 = .ok (.iload 4, 2) := by decide +kernel
theorem dX12_word_124 : decode cX12_word 124 = .ok (.invokevirtual 199, 3) := by decide +kernel
theorem dX12_word_127 : decode cX12_word 127 = .ok (.aload_n 0, 1) := by decide +kernel
theorem dX12_word_128 : decode cX12_word 128 = .ok (.iload 5, 2) := by decide +kernel
theorem dX12_word_130 : decode cX12_word 130 = .ok (.iconst 4, 1) := by decide +kernel
theorem dX12_word_131 : decode cX12_word 131 = .ok (.iconst 0, 1) := by decide +kernel
theorem dX12_word_132 : decode cX12_word 132 = .ok (.invokevirtual 199, 3) := by decide +kernel
theorem dX12_word_135 : decode cX12_word 135 = .ok (.iload 5, 2) := by decide +kernel
theorem dX12_word_137 : decode cX12_word 137 = .ok (.ireturn, 1) := by decide +kernel
theorem dX12_ofWord_0 : decode cX12_ofWord 0 = .ok (.aload_n 0, 1) := by decide +kernel
theorem dX12_ofWord_1 : decode cX12_ofWord 1 = .ok (.iload_n 1, 1) := by decide +kernel
theorem dX12_ofWord_2 : decode cX12_ofWord 2 = .ok (.invokevirtual 202, 3) := by decide +kernel
theorem dX12_ofWord_5 : decode cX12_ofWord 5 = .ok (.ifCond .eq 24, 3) := by decide +kernel
theorem dX12_ofWord_8 : decode cX12_ofWord 8 = .ok (.iload_n 2, 1) := by decide +kernel
theorem dX12_ofWord_9 : decode cX12_ofWord 9 = .ok (.i2l, 1) := by decide +kernel
theorem dX12_ofWord_10 : decode cX12_ofWord 10 = .ok (.lconst 0, 1) := by decide +kernel
theorem dX12_ofWord_11 : decode cX12_ofWord 11 = .ok (.ldc2_w 205, 3) := by decide +kernel
theorem dX12_ofWord_14 : decode cX12_ofWord 14 = .ok (.invokestatic 80, 3) := by decide +kernel
theorem dX12_ofWord_17 : decode cX12_ofWord 17 = .ok (.ifCond .eq 12, 3) := by decide +kernel
theorem dX12_ofWord_20 : decode cX12_ofWord 20 = .ok (.aload_n 0, 1) := by decide +kernel
theorem dX12_ofWord_21 : decode cX12_ofWord 21 = .ok (.iload_n 1, 1) := by decide +kernel
theorem dX12_ofWord_22 : decode cX12_ofWord 22 = .ok (.iload_n 2, 1) := by decide +kernel
theorem dX12_ofWord_23 : decode cX12_ofWord 23 = .ok (.invokevirtual 171, 3) := by decide +kernel
theorem dX12_ofWord_26 : decode cX12_ofWord 26 = .ok (.goto 8, 3) := by decide +kernel
theorem dX12_ofWord_29 : decode cX12_ofWord 29 = .ok (.aload_n 0, 1) := by decide +kernel
theorem dX12_ofWord_30 : decode cX12_ofWord 30 = .ok (.iconst 1, 1) := by decide +kernel
theorem dX12_ofWord_31 : decode cX12_ofWord 31 = .ok (.invokevirtual 143, 3) := by decide +kernel
theorem dX12_ofWord_34 : decode cX12_ofWord 34 = .ok (.ireturn, 1) := by decide +kernel
theorem dX12_set_0 : decode cX12_set 0 = .ok (.aload_n 0, 1) := by decide +kernel
theorem dX12_set_1 : decode cX12_set 1 = .ok (.iload_n 1, 1) := by decide +kernel
theorem dX12_set_2 : decode cX12_set 2 = .ok (.invokevirtual 202, 3) := by decide +kernel
theorem dX12_set_5 : decode cX12_set 5 = .ok (.ifCond .eq 47, 3) := by decide +kernel
theorem dX12_set_8 : decode cX12_set 8 = .ok (.iload_n 2, 1) := by decide +kernel
theorem dX12_set_9 : decode cX12_set 9 = .ok (.i2l, 1) := by decide +kernel
theorem dX12_set_10 : decode cX12_set 10 = .ok (.lconst 1, 1) := by decide +kernel
theorem dX12_set_11 : decode cX12_set 11 = .ok (.ldc2_w 207, 3) := by decide +kernel
theorem dX12_set_14 : decode cX12_set 14 = .ok (.invokestatic 80, 3) := by decide +kernel
theorem dX12_set_17 : decode cX12_set 17 = .ok (.ifCond .eq 35, 3) := by decide +kernel
theorem dX12_set_20 : decode cX12_set 20 = .ok (.iload_n 3, 1) := by decide +kernel
theorem dX12_set_21 : decode cX12_set 21 = .ok (.i2l, 1) := by decide +kernel
theorem dX12_set_22 : decode cX12_set 22 = .ok (.iload_n 2, 1) := by decide +kernel
theorem dX12_set_23 : decode cX12_set 23 = .ok (.iconst 1, 1) := by decide +kernel
theorem dX12_set_24 : decode cX12_set 24 = .ok (.if_icmp .ne 7, 3) := by decide +kernel
theorem dX12_set_27 : decode cX12_set 27 = .ok (.lconst 1, 1) := by decide +kernel
theorem dX12_set_28 : decode cX12_set 28 = .ok (.goto 4, 3) := by decide +kernel
theorem dX12_set_31 : decode cX12_set 31 = .ok (.lconst 0, 1) := by decide +kernel
theorem dX12_set_32 : decode cX12_set 32 = .ok (.iload_n 2, 1) := by decide +kernel
theorem dX12_set_33 : decode cX12_set 33 = .ok (.iconst 1, 1) := by decide +kernel
theorem dX12_set_34 : decode cX12_set 34 = .ok (.if_icmp .ne 9, 3) := by decide +kernel
theorem dX12_set_37 : decode cX12_set 37 = .ok (.ldc2_w 193, 3) := by decide +kernel
theorem dX12_set_40 : decode cX12_set 40 = .ok (.goto 6, 3) := by decide +kernel
theorem dX12_set_43 : decode cX12_set 43 = .ok (.ldc2_w 195, 3) := by decide +kernel
theorem dX12_set_46 : decode cX12_set 46 = .ok (.invokestatic 80, 3) := by decide +kernel
theorem dX12_set_49 : decode cX12_set 49 = .ok (.ifCond .ne 9, 3) := by decide +kernel
theorem dX12_set_52 : decode cX12_set 52 = .ok (.aload_n 0, 1) := by decide +kernel
theorem dX12_set_53 : decode cX12_set 53 = .ok (.iconst 1, 1) := by decide +kernel
theorem dX12_set_54 : decode cX12_set 54 = .ok (.invokevirtual 143, 3) := by decide +kernel
theorem dX12_set_57 : decode cX12_set 57 = .ok (.ireturn, 1) := by decide +kernel
theorem dX12_set_58 : decode cX12_set 58 = .ok (.aload_n 0, 1) := by decide +kernel
theorem dX12_set_59 : decode cX12_set 59 = .ok (.iload_n 1, 1) := by decide +kernel
theorem dX12_set_60 : decode cX12_set 60 = .ok (.iconst 4, 1) := by decide +kernel
theorem dX12_set_61 : decode cX12_set 61 = .ok (.invokevirtual 171, 3) := by decide +kernel
theorem dX12_set_64 : decode cX12_set 64 = .ok (.ifCond .ne 16, 3) := by decide +kernel
theorem dX12_set_67 : decode cX12_set 67 = .ok (.aload_n 0, 1) := by decide +kernel
theorem dX12_set_68 : decode cX12_set 68 = .ok (.getfield 7, 3) := by decide +kernel
theorem dX12_set_71 : decode cX12_set 71 = .ok (.bipush 6, 2) := by decide +kernel
theorem dX12_set_73 : decode cX12_set 73 = .ok (.iaload, 1) := by decide +kernel
theorem dX12_set_74 : decode cX12_set 74 = .ok (.iload_n 1, 1) := by decide +kernel
theorem dX12_set_75 : decode cX12_set 75 = .ok (.iconst 1, 1) := by decide +kernel
theorem dX12_set_76 : decode cX12_set 76 = .ok (.iadd, 1) := by decide +kernel
theorem dX12_set_77 : decode cX12_set 77 = .ok (.if_icmp .ne 9, 3) := by decide +kernel
theorem dX12_set_80 : decode cX12_set 80 = .ok (.aload_n 0, 1) := by decide +kernel
theorem dX12_set_81 : decode cX12_set 81 = .ok (.iconst 3, 1) := by decide +kernel
theorem dX12_set_82 : decode cX12_set 82 = .ok (.invokevirtual 143, 3) := by decide +kernel
theorem dX12_set_85 : decode cX12_set 85 = .ok (.ireturn, 1) := by decide +kernel
theorem dX12_set_86 : decode cX12_set 86 = .ok (.aload_n 0, 1) := by decide +kernel
theorem dX12_set_87 : decode cX12_set 87 = .ok (.iload_n 1, 1) := by decide +kernel
theorem dX12_set_88 : decode cX12_set 88 = .ok (.iload_n 2, 1) := by decide +kernel
theorem dX12_set_89 : decode cX12_set 89 = .ok (.invokevirtual 171, 3) := by decide +kernel
theorem dX12_set_92 : decode cX12_set 92 = .ok (.istore 4, 2) := by decide +kernel
theorem dX12_set_94 : decode cX12_set 94 = .ok (.aload_n 0, 1) := by decide +kernel
theorem dX12_set_95 : decode cX12_set 95 = .ok (.iload_n 1, 1) := by decide +kernel
theorem dX12_set_96 : decode cX12_set 96 = .ok (.iload_n 2, 1) := by decide +kernel
theorem dX12_set_97 : decode cX12_set 97 = .ok (.iload_n 3, 1) := by decide +kernel
theorem dX12_set_98 : decode cX12_set 98 = .ok (.invokevirtual 199, 3) := by decide +kernel
theorem dX12_set_101 : decode cX12_set 101 = .ok (.iload 4, 2) := by decide +kernel
theorem dX12_set_103 : decode cX12_set 103 = .ok (.ireturn, 1) := by decide +kernel
theorem dX12_spills_0 : decode cX12_spills 0 = .ok (.aload_n 0, 1) := by decide +kernel
theorem dX12_spills_1 : decode cX12_spills 1 = .ok (.getfield 7, 3) := by decide +kernel
theorem dX12_spills_4 : decode cX12_spills 4 = .ok (.iconst 4, 1) := by decide +kernel
theorem dX12_spills_5 : decode cX12_spills 5 = .ok (.aload_n 0, 1) := by decide +kernel
theorem dX12_spills_6 : decode cX12_spills 6 = .ok (.getfield 7, 3) := by decide +kernel
theorem dX12_spills_9 : decode cX12_spills 9 = .ok (.iconst 4, 1) := by decide +kernel
theorem dX12_spills_10 : decode cX12_spills 10 = .ok (.iaload, 1) := by decide +kernel
theorem dX12_spills_11 : decode cX12_spills 11 = .ok (.iload_n 1, 1) := by decide +kernel
theorem dX12_spills_12 : decode cX12_spills 12 = .ok (.iadd, 1) := by decide +kernel
theorem dX12_spills_13 : decode cX12_spills 13 = .ok (.ldc 209, 2) := by decide +kernel
theorem dX12_spills_15 : decode cX12_spills 15 = .ok (.if_icmp .le 8, 3) := by decide +kernel
theorem dX12_spills_18 : decode cX12_spills 18 = .ok (.ldc 209, 2) := by decide +kernel
theorem dX12_spills_20 : decode cX12_spills 20 = .ok (.goto 11, 3) := by decide +kernel
theorem dX12_spills_23 : decode cX12_spills 23 = .ok (.aload_n 0, 1) := by decide +kernel
theorem dX12_spills_24 : decode cX12_spills 24 = .ok (.getfield 7, 3) := by decide +kernel
theorem dX12_spills_27 : decode cX12_spills 27 = .ok (.iconst 4, 1) := by decide +kernel
theorem dX12_spills_28 : decode cX12_spills 28 = .ok (.iaload, 1) := by decide +kernel
theorem dX12_spills_29 : decode cX12_spills 29 = .ok (.iload_n 1, 1) := by decide +kernel
theorem dX12_spills_30 : decode cX12_spills 30 = .ok (.iadd, 1) := by decide +kernel
theorem dX12_spills_31 : decode cX12_spills 31 = .ok (.iastore, 1) := by decide +kernel
theorem dX12_spills_32 : decode cX12_spills 32 = .ok (.return_, 1) := by decide +kernel
theorem dX12_loses_0 : decode cX12_loses 0 = .ok (.aload_n 0, 1) := by decide +kernel
theorem dX12_loses_1 : decode cX12_loses 1 = .ok (.iload_n 1, 1) := by decide +kernel
theorem dX12_loses_2 : decode cX12_loses 2 = .ok (.iconst 3, 1) := by decide +kernel
theorem dX12_loses_3 : decode cX12_loses 3 = .ok (.invokevirtual 161, 3) := by decide +kernel
theorem dX12_loses_6 : decode cX12_loses 6 = .ok (.istore_n 3, 1) := by decide +kernel
theorem dX12_loses_7 : decode cX12_loses 7 = .ok (.iload_n 2, 1) := by decide +kernel
theorem dX12_loses_8 : decode cX12_loses 8 = .ok (.iload_n 3, 1) := by decide +kernel
theorem dX12_loses_9 : decode cX12_loses 9 = .ok (.if_icmp .ge 7, 3) := by decide +kernel
theorem dX12_loses_12 : decode cX12_loses 12 = .ok (.iload_n 2, 1) := by decide +kernel
theorem dX12_loses_13 : decode cX12_loses 13 = .ok (.goto 4, 3) := by decide +kernel
theorem dX12_loses_16 : decode cX12_loses 16 = .ok (.iload_n 3, 1) := by decide +kernel
theorem dX12_loses_17 : decode cX12_loses 17 = .ok (.istore 4, 2) := by decide +kernel
theorem dX12_loses_19 : decode cX12_loses 19 = .ok (.aload_n 0, 1) := by decide +kernel
theorem dX12_loses_20 : decode cX12_loses 20 = .ok (.iload_n 1, 1) := by decide +kernel
theorem dX12_loses_21 : decode cX12_loses 21 = .ok (.iconst 3, 1) := by decide +kernel
theorem dX12_loses_22 : decode cX12_loses 22 = .ok (.iload_n 3, 1) := by decide +kernel
theorem dX12_loses_23 : decode cX12_loses 23 = .ok (.iload 4, 2) := by decide +kernel
theorem dX12_loses_25 : decode cX12_loses 25 = .ok (.isub, 1) := by decide +kernel
theorem dX12_loses_26 : decode cX12_loses 26 = .ok (.invokevirtual 167, 3) := by decide +kernel
theorem dX12_loses_29 : decode cX12_loses 29 = .ok (.iload 4, 2) := by decide +kernel
theorem dX12_loses_31 : decode cX12_loses 31 = .ok (.ireturn, 1) := by decide +kernel
theorem dX12_fetch_0 : decode cX12_fetch 0 = .ok (.aload_n 0, 1) := by decide +kernel
theorem dX12_fetch_1 : decode cX12_fetch 1 = .ok (.iload_n 1, 1) := by decide +kernel
theorem dX12_fetch_2 : decode cX12_fetch 2 = .ok (.invokevirtual 174, 3) := by decide +kernel
theorem dX12_fetch_5 : decode cX12_fetch 5 = .ok (.ifCond .eq 15, 3) := by decide +kernel
theorem dX12_fetch_8 : decode cX12_fetch 8 = .ok (.iload_n 2, 1) := by decide +kernel
theorem dX12_fetch_9 : decode cX12_fetch 9 = .ok (.i2l, 1) := by decide +kernel
theorem dX12_fetch_10 : decode cX12_fetch 10 = .ok (.lconst 1, 1) := by decide +kernel
theorem dX12_fetch_11 : decode cX12_fetch 11 = .ok (.ldc2_w 155, 3) := by decide +kernel
theorem dX12_fetch_14 : decode cX12_fetch 14 = .ok (.invokestatic 80, 3) := by decide +kernel
theorem dX12_fetch_17 : decode cX12_fetch 17 = .ok (.ifCond .ne 9, 3) := by decide +kernel
theorem dX12_fetch_20 : decode cX12_fetch 20 = .ok (.aload_n 0, 1) := by decide +kernel
theorem dX12_fetch_21 : decode cX12_fetch 21 = .ok (.iconst 1, 1) := by decide +kernel
theorem dX12_fetch_22 : decode cX12_fetch 22 = .ok (.invokevirtual 143, 3) := by decide +kernel
theorem dX12_fetch_25 : decode cX12_fetch 25 = .ok (.ireturn, 1) := by decide +kernel
theorem dX12_fetch_26 : decode cX12_fetch 26 = .ok (.aload_n 0, 1) := by decide +kernel
theorem dX12_fetch_27 : decode cX12_fetch 27 = .ok (.iload_n 1, 1) := by decide +kernel
theorem dX12_fetch_28 : decode cX12_fetch 28 = .ok (.iconst 3, 1) := by decide +kernel
theorem dX12_fetch_29 : decode cX12_fetch 29 = .ok (.aload_n 0, 1) := by decide +kernel
theorem dX12_fetch_30 : decode cX12_fetch 30 = .ok (.iload_n 1, 1) := by decide +kernel
theorem dX12_fetch_31 : decode cX12_fetch 31 = .ok (.iconst 3, 1) := by decide +kernel
theorem dX12_fetch_32 : decode cX12_fetch 32 = .ok (.invokevirtual 161, 3) := by decide +kernel
theorem dX12_fetch_35 : decode cX12_fetch 35 = .ok (.iload_n 2, 1) := by decide +kernel
theorem dX12_fetch_36 : decode cX12_fetch 36 = .ok (.iadd, 1) := by decide +kernel
theorem dX12_fetch_37 : decode cX12_fetch 37 = .ok (.iconst 0, 1) := by decide +kernel
theorem dX12_fetch_38 : decode cX12_fetch 38 = .ok (.aload_n 0, 1) := by decide +kernel
theorem dX12_fetch_39 : decode cX12_fetch 39 = .ok (.iload_n 1, 1) := by decide +kernel
theorem dX12_fetch_40 : decode cX12_fetch 40 = .ok (.iconst 2, 1) := by decide +kernel
theorem dX12_fetch_41 : decode cX12_fetch 41 = .ok (.invokevirtual 161, 3) := by decide +kernel
theorem dX12_fetch_44 : decode cX12_fetch 44 = .ok (.invokestatic 152, 3) := by decide +kernel
theorem dX12_fetch_47 : decode cX12_fetch 47 = .ok (.invokevirtual 167, 3) := by decide +kernel
theorem dX12_fetch_50 : decode cX12_fetch 50 = .ok (.aload_n 0, 1) := by decide +kernel
theorem dX12_fetch_51 : decode cX12_fetch 51 = .ok (.iload_n 1, 1) := by decide +kernel
theorem dX12_fetch_52 : decode cX12_fetch 52 = .ok (.iconst 3, 1) := by decide +kernel
theorem dX12_fetch_53 : decode cX12_fetch 53 = .ok (.invokevirtual 161, 3) := by decide +kernel
theorem dX12_fetch_56 : decode cX12_fetch 56 = .ok (.ireturn, 1) := by decide +kernel
theorem dX12_pour_0 : decode cX12_pour 0 = .ok (.aload_n 0, 1) := by decide +kernel
theorem dX12_pour_1 : decode cX12_pour 1 = .ok (.iload_n 1, 1) := by decide +kernel
theorem dX12_pour_2 : decode cX12_pour 2 = .ok (.invokevirtual 174, 3) := by decide +kernel
theorem dX12_pour_5 : decode cX12_pour 5 = .ok (.ifCond .eq 28, 3) := by decide +kernel
theorem dX12_pour_8 : decode cX12_pour 8 = .ok (.aload_n 0, 1) := by decide +kernel
theorem dX12_pour_9 : decode cX12_pour 9 = .ok (.iload_n 2, 1) := by decide +kernel
theorem dX12_pour_10 : decode cX12_pour 10 = .ok (.invokevirtual 174, 3) := by decide +kernel
theorem dX12_pour_13 : decode cX12_pour 13 = .ok (.ifCond .eq 20, 3) := by decide +kernel
theorem dX12_pour_16 : decode cX12_pour 16 = .ok (.iload_n 1, 1) := by decide +kernel
theorem dX12_pour_17 : decode cX12_pour 17 = .ok (.iload_n 2, 1) := by decide +kernel
theorem dX12_pour_18 : decode cX12_pour 18 = .ok (.if_icmp .eq 15, 3) := by decide +kernel
theorem dX12_pour_21 : decode cX12_pour 21 = .ok (.iload_n 3, 1) := by decide +kernel
theorem dX12_pour_22 : decode cX12_pour 22 = .ok (.i2l, 1) := by decide +kernel
theorem dX12_pour_23 : decode cX12_pour 23 = .ok (.lconst 1, 1) := by decide +kernel
theorem dX12_pour_24 : decode cX12_pour 24 = .ok (.ldc2_w 155, 3) := by decide +kernel
theorem dX12_pour_27 : decode cX12_pour 27 = .ok (.invokestatic 80, 3) := by decide +kernel
theorem dX12_pour_30 : decode cX12_pour 30 = .ok (.ifCond .ne 9, 3) := by decide +kernel
theorem dX12_pour_33 : decode cX12_pour 33 = .ok (.aload_n 0, 1) := by decide +kernel
theorem dX12_pour_34 : decode cX12_pour 34 = .ok (.iconst 1, 1) := by decide +kernel
theorem dX12_pour_35 : decode cX12_pour 35 = .ok (.invokevirtual 143, 3) := by decide +kernel
theorem dX12_pour_38 : decode cX12_pour 38 = .ok (.ireturn, 1) := by decide +kernel
theorem dX12_pour_39 : decode cX12_pour 39 = .ok (.aload_n 0, 1) := by decide +kernel
theorem dX12_pour_40 : decode cX12_pour 40 = .ok (.iload_n 1, 1) := by decide +kernel
theorem dX12_pour_41 : decode cX12_pour 41 = .ok (.iconst 3, 1) := by decide +kernel
theorem dX12_pour_42 : decode cX12_pour 42 = .ok (.invokevirtual 161, 3) := by decide +kernel
theorem dX12_pour_45 : decode cX12_pour 45 = .ok (.iload_n 3, 1) := by decide +kernel
theorem dX12_pour_46 : decode cX12_pour 46 = .ok (.if_icmp .ge 9, 3) := by decide +kernel
theorem dX12_pour_49 : decode cX12_pour 49 = .ok (.aload_n 0, 1) := by decide +kernel
theorem dX12_pour_50 : decode cX12_pour 50 = .ok (.iconst 3, 1) := by decide +kernel
theorem dX12_pour_51 : decode cX12_pour 51 = .ok (.invokevirtual 143, 3) := by decide +kernel
theorem dX12_pour_54 : decode cX12_pour 54 = .ok (.ireturn, 1) := by decide +kernel
theorem dX12_pour_55 : decode cX12_pour 55 = .ok (.aload_n 0, 1) := by decide +kernel
theorem dX12_pour_56 : decode cX12_pour 56 = .ok (.iload_n 2, 1) := by decide +kernel
theorem dX12_pour_57 : decode cX12_pour 57 = .ok (.iconst 3, 1) := by decide +kernel
theorem dX12_pour_58 : decode cX12_pour 58 = .ok (.invokevirtual 161, 3) := by decide +kernel
theorem dX12_pour_61 : decode cX12_pour 61 = .ok (.iload_n 3, 1) := by decide +kernel
theorem dX12_pour_62 : decode cX12_pour 62 = .ok (.iadd, 1) := by decide +kernel
theorem dX12_pour_63 : decode cX12_pour 63 = .ok (.aload_n 0, 1) := by decide +kernel
theorem dX12_pour_64 : decode cX12_pour 64 = .ok (.iload_n 2, 1) := by decide +kernel
theorem dX12_pour_65 : decode cX12_pour 65 = .ok (.iconst 2, 1) := by decide +kernel
theorem dX12_pour_66 : decode cX12_pour 66 = .ok (.invokevirtual 161, 3) := by decide +kernel
theorem dX12_pour_69 : decode cX12_pour 69 = .ok (.if_icmp .le 9, 3) := by decide +kernel
theorem dX12_pour_72 : decode cX12_pour 72 = .ok (.aload_n 0, 1) := by decide +kernel
theorem dX12_pour_73 : decode cX12_pour 73 = .ok (.iconst 4, 1) := by decide +kernel
theorem dX12_pour_74 : decode cX12_pour 74 = .ok (.invokevirtual 143, 3) := by decide +kernel
theorem dX12_pour_77 : decode cX12_pour 77 = .ok (.ireturn, 1) := by decide +kernel
theorem dX12_pour_78 : decode cX12_pour 78 = .ok (.aload_n 0, 1) := by decide +kernel
theorem dX12_pour_79 : decode cX12_pour 79 = .ok (.iload_n 2, 1) := by decide +kernel
theorem dX12_pour_80 : decode cX12_pour 80 = .ok (.iconst 3, 1) := by decide +kernel
theorem dX12_pour_81 : decode cX12_pour 81 = .ok (.aload_n 0, 1) := by decide +kernel
theorem dX12_pour_82 : decode cX12_pour 82 = .ok (.iload_n 2, 1) := by decide +kernel
theorem dX12_pour_83 : decode cX12_pour 83 = .ok (.iconst 3, 1) := by decide +kernel
theorem dX12_pour_84 : decode cX12_pour 84 = .ok (.invokevirtual 161, 3) := by decide +kernel
theorem dX12_pour_87 : decode cX12_pour 87 = .ok (.aload_n 0, 1) := by decide +kernel
theorem dX12_pour_88 : decode cX12_pour 88 = .ok (.iload_n 1, 1) := by decide +kernel
theorem dX12_pour_89 : decode cX12_pour 89 = .ok (.iload_n 3, 1) := by decide +kernel
theorem dX12_pour_90 : decode cX12_pour 90 = .ok (.invokevirtual 210, 3) := by decide +kernel
theorem dX12_pour_93 : decode cX12_pour 93 = .ok (.iadd, 1) := by decide +kernel
theorem dX12_pour_94 : decode cX12_pour 94 = .ok (.invokevirtual 167, 3) := by decide +kernel
theorem dX12_pour_97 : decode cX12_pour 97 = .ok (.aload_n 0, 1) := by decide +kernel
theorem dX12_pour_98 : decode cX12_pour 98 = .ok (.iload_n 2, 1) := by decide +kernel
theorem dX12_pour_99 : decode cX12_pour 99 = .ok (.iconst 3, 1) := by decide +kernel
theorem dX12_pour_100 : decode cX12_pour 100 = .ok (.invokevirtual 161, 3) := by decide +kernel
theorem dX12_pour_103 : decode cX12_pour 103 = .ok (.ireturn, 1) := by decide +kernel
theorem dX12_speaks_0 : decode cX12_speaks 0 = .ok (.aload_n 0, 1) := by decide +kernel
theorem dX12_speaks_1 : decode cX12_speaks 1 = .ok (.getfield 7, 3) := by decide +kernel
theorem dX12_speaks_4 : decode cX12_speaks 4 = .ok (.bipush 6, 2) := by decide +kernel
theorem dX12_speaks_6 : decode cX12_speaks 6 = .ok (.iaload, 1) := by decide +kernel
theorem dX12_speaks_7 : decode cX12_speaks 7 = .ok (.ifCond .ne 7, 3) := by decide +kernel
theorem dX12_speaks_10 : decode cX12_speaks 10 = .ok (.iconst (-1), 1) := by decide +kernel
theorem dX12_speaks_11 : decode cX12_speaks 11 = .ok (.goto 17, 3) := by decide +kernel
theorem dX12_speaks_14 : decode cX12_speaks 14 = .ok (.aload_n 0, 1) := by decide +kernel
theorem dX12_speaks_15 : decode cX12_speaks 15 = .ok (.aload_n 0, 1) := by decide +kernel
theorem dX12_speaks_16 : decode cX12_speaks 16 = .ok (.getfield 7, 3) := by decide +kernel
theorem dX12_speaks_19 : decode cX12_speaks 19 = .ok (.bipush 6, 2) := by decide +kernel
theorem dX12_speaks_21 : decode cX12_speaks 21 = .ok (.iaload, 1) := by decide +kernel
theorem dX12_speaks_22 : decode cX12_speaks 22 = .ok (.iconst 1, 1) := by decide +kernel
theorem dX12_speaks_23 : decode cX12_speaks 23 = .ok (.isub, 1) := by decide +kernel
theorem dX12_speaks_24 : decode cX12_speaks 24 = .ok (.iconst 0, 1) := by decide +kernel
theorem dX12_speaks_25 : decode cX12_speaks 25 = .ok (.invokevirtual 171, 3) := by decide +kernel
theorem dX12_speaks_28 : decode cX12_speaks 28 = .ok (.ireturn, 1) := by decide +kernel
theorem dX12_object_0 : decode cX12_object 0 = .ok (.aload_n 0, 1) := by decide +kernel
theorem dX12_object_1 : decode cX12_object 1 = .ok (.iload_n 1, 1) := by decide +kernel
theorem dX12_object_2 : decode cX12_object 2 = .ok (.invokevirtual 174, 3) := by decide +kernel
theorem dX12_object_5 : decode cX12_object 5 = .ok (.ifCond .eq 15, 3) := by decide +kernel
theorem dX12_object_8 : decode cX12_object 8 = .ok (.iload_n 2, 1) := by decide +kernel
theorem dX12_object_9 : decode cX12_object 9 = .ok (.i2l, 1) := by decide +kernel
theorem dX12_object_10 : decode cX12_object 10 = .ok (.lconst 1, 1) := by decide +kernel
theorem dX12_object_11 : decode cX12_object 11 = .ok (.ldc2_w 195, 3) := by decide +kernel
theorem dX12_object_14 : decode cX12_object 14 = .ok (.invokestatic 80, 3) := by decide +kernel
theorem dX12_object_17 : decode cX12_object 17 = .ok (.ifCond .ne 9, 3) := by decide +kernel
theorem dX12_object_20 : decode cX12_object 20 = .ok (.aload_n 0, 1) := by decide +kernel
theorem dX12_object_21 : decode cX12_object 21 = .ok (.iconst 1, 1) := by decide +kernel
theorem dX12_object_22 : decode cX12_object 22 = .ok (.invokevirtual 143, 3) := by decide +kernel
theorem dX12_object_25 : decode cX12_object 25 = .ok (.ireturn, 1) := by decide +kernel
theorem dX12_object_26 : decode cX12_object 26 = .ok (.aload_n 0, 1) := by decide +kernel
theorem dX12_object_27 : decode cX12_object 27 = .ok (.invokevirtual 213, 3) := by decide +kernel
theorem dX12_object_30 : decode cX12_object 30 = .ok (.istore_n 3, 1) := by decide +kernel
theorem dX12_object_31 : decode cX12_object 31 = .ok (.iload_n 3, 1) := by decide +kernel
theorem dX12_object_32 : decode cX12_object 32 = .ok (.ifCond .lt 18, 3) := by decide +kernel
theorem dX12_object_35 : decode cX12_object 35 = .ok (.iload_n 3, 1) := by decide +kernel
theorem dX12_object_36 : decode cX12_object 36 = .ok (.iload_n 1, 1) := by decide +kernel
theorem dX12_object_37 : decode cX12_object 37 = .ok (.if_icmp .eq 13, 3) := by decide +kernel
theorem dX12_object_40 : decode cX12_object 40 = .ok (.aload_n 0, 1) := by decide +kernel
theorem dX12_object_41 : decode cX12_object 41 = .ok (.iload_n 1, 1) := by decide +kernel
theorem dX12_object_42 : decode cX12_object 42 = .ok (.iconst 3, 1) := by decide +kernel
theorem dX12_object_43 : decode cX12_object 43 = .ok (.invokevirtual 161, 3) := by decide +kernel
theorem dX12_object_46 : decode cX12_object 46 = .ok (.iload_n 2, 1) := by decide +kernel
theorem dX12_object_47 : decode cX12_object 47 = .ok (.if_icmp .ge 9, 3) := by decide +kernel
theorem dX12_object_50 : decode cX12_object 50 = .ok (.aload_n 0, 1) := by decide +kernel
theorem dX12_object_51 : decode cX12_object 51 = .ok (.iconst 3, 1) := by decide +kernel
theorem dX12_object_52 : decode cX12_object 52 = .ok (.invokevirtual 143, 3) := by decide +kernel
theorem dX12_object_55 : decode cX12_object 55 = .ok (.ireturn, 1) := by decide +kernel
theorem dX12_object_56 : decode cX12_object 56 = .ok (.aload_n 0, 1) := by decide +kernel
theorem dX12_object_57 : decode cX12_object 57 = .ok (.aload_n 0, 1) := by decide +kernel
theorem dX12_object_58 : decode cX12_object 58 = .ok (.iload_n 1, 1) := by decide +kernel
theorem dX12_object_59 : decode cX12_object 59 = .ok (.iload_n 2, 1) := by decide +kernel
theorem dX12_object_60 : decode cX12_object 60 = .ok (.invokevirtual 210, 3) := by decide +kernel
theorem dX12_object_63 : decode cX12_object 63 = .ok (.invokevirtual 216, 3) := by decide +kernel
theorem dX12_object_66 : decode cX12_object 66 = .ok (.aload_n 0, 1) := by decide +kernel
theorem dX12_object_67 : decode cX12_object 67 = .ok (.aload_n 0, 1) := by decide +kernel
theorem dX12_object_68 : decode cX12_object 68 = .ok (.iload_n 3, 1) := by decide +kernel
theorem dX12_object_69 : decode cX12_object 69 = .ok (.iconst 2, 1) := by decide +kernel
theorem dX12_object_70 : decode cX12_object 70 = .ok (.iload_n 2, 1) := by decide +kernel
theorem dX12_object_71 : decode cX12_object 71 = .ok (.imul, 1) := by decide +kernel
theorem dX12_object_72 : decode cX12_object 72 = .ok (.invokevirtual 210, 3) := by decide +kernel
theorem dX12_object_75 : decode cX12_object 75 = .ok (.invokevirtual 216, 3) := by decide +kernel
theorem dX12_object_78 : decode cX12_object 78 = .ok (.aload_n 0, 1) := by decide +kernel
theorem dX12_object_79 : decode cX12_object 79 = .ok (.iload_n 3, 1) := by decide +kernel
theorem dX12_object_80 : decode cX12_object 80 = .ok (.iconst 3, 1) := by decide +kernel
theorem dX12_object_81 : decode cX12_object 81 = .ok (.invokevirtual 161, 3) := by decide +kernel
theorem dX12_object_84 : decode cX12_object 84 = .ok (.ireturn, 1) := by decide +kernel
theorem dX12_thumb_0 : decode cX12_thumb 0 = .ok (.iload_n 1, 1) := by decide +kernel
theorem dX12_thumb_1 : decode cX12_thumb 1 = .ok (.i2l, 1) := by decide +kernel
theorem dX12_thumb_2 : decode cX12_thumb 2 = .ok (.lconst 0, 1) := by decide +kernel
theorem dX12_thumb_3 : decode cX12_thumb 3 = .ok (.lconst 1, 1) := by decide +kernel
theorem dX12_thumb_4 : decode cX12_thumb 4 = .ok (.invokestatic 80, 3) := by decide +kernel
theorem dX12_thumb_7 : decode cX12_thumb 7 = .ok (.ifCond .ne 9, 3) := by decide +kernel
theorem dX12_thumb_10 : decode cX12_thumb 10 = .ok (.aload_n 0, 1) := by decide +kernel
theorem dX12_thumb_11 : decode cX12_thumb 11 = .ok (.iconst 1, 1) := by decide +kernel
theorem dX12_thumb_12 : decode cX12_thumb 12 = .ok (.invokevirtual 143, 3) := by decide +kernel
theorem dX12_thumb_15 : decode cX12_thumb 15 = .ok (.ireturn, 1) := by decide +kernel
theorem dX12_thumb_16 : decode cX12_thumb 16 = .ok (.aload_n 0, 1) := by decide +kernel
theorem dX12_thumb_17 : decode cX12_thumb 17 = .ok (.getfield 7, 3) := by decide +kernel
theorem dX12_thumb_20 : decode cX12_thumb 20 = .ok (.iconst 5, 1) := by decide +kernel
theorem dX12_thumb_21 : decode cX12_thumb 21 = .ok (.iaload, 1) := by decide +kernel
theorem dX12_thumb_22 : decode cX12_thumb 22 = .ok (.istore_n 2, 1) := by decide +kernel
theorem dX12_thumb_23 : decode cX12_thumb 23 = .ok (.aload_n 0, 1) := by decide +kernel
theorem dX12_thumb_24 : decode cX12_thumb 24 = .ok (.getfield 7, 3) := by decide +kernel
theorem dX12_thumb_27 : decode cX12_thumb 27 = .ok (.iconst 5, 1) := by decide +kernel
theorem dX12_thumb_28 : decode cX12_thumb 28 = .ok (.iload_n 1, 1) := by decide +kernel
theorem dX12_thumb_29 : decode cX12_thumb 29 = .ok (.iastore, 1) := by decide +kernel
theorem dX12_thumb_30 : decode cX12_thumb 30 = .ok (.iload_n 2, 1) := by decide +kernel
theorem dX12_thumb_31 : decode cX12_thumb 31 = .ok (.ireturn, 1) := by decide +kernel
theorem dX12_isReady_0 : decode cX12_isReady 0 = .ok (.aload_n 0, 1) := by decide +kernel
theorem dX12_isReady_1 : decode cX12_isReady 1 = .ok (.iload_n 1, 1) := by decide +kernel
theorem dX12_isReady_2 : decode cX12_isReady 2 = .ok (.iconst 3, 1) := by decide +kernel
theorem dX12_isReady_3 : decode cX12_isReady 3 = .ok (.invokevirtual 171, 3) := by decide +kernel
theorem dX12_isReady_6 : decode cX12_isReady 6 = .ok (.istore_n 2, 1) := by decide +kernel
theorem dX12_isReady_7 : decode cX12_isReady 7 = .ok (.aload_n 0, 1) := by decide +kernel
theorem dX12_isReady_8 : decode cX12_isReady 8 = .ok (.iload_n 1, 1) := by decide +kernel
theorem dX12_isReady_9 : decode cX12_isReady 9 = .ok (.iconst 4, 1) := by decide +kernel
theorem dX12_isReady_10 : decode cX12_isReady 10 = .ok (.invokevirtual 171, 3) := by decide +kernel
theorem dX12_isReady_13 : decode cX12_isReady 13 = .ok (.ifCond .ne 21, 3) := by decide +kernel
theorem dX12_isReady_16 : decode cX12_isReady 16 = .ok (.iload_n 2, 1) := by decide +kernel
theorem dX12_isReady_17 : decode cX12_isReady 17 = .ok (.ifCond .lt 13, 3) := by decide +kernel
theorem dX12_isReady_20 : decode cX12_isReady 20 = .ok (.aload_n 0, 1) := by decide +kernel
theorem dX12_isReady_21 : decode cX12_isReady 21 = .ok (.iload_n 2, 1) := by decide +kernel
theorem dX12_isReady_22 : decode cX12_isReady 22 = .ok (.iconst 4, 1) := by decide +kernel
theorem dX12_isReady_23 : decode cX12_isReady 23 = .ok (.invokevirtual 171, 3) := by decide +kernel
theorem dX12_isReady_26 : decode cX12_isReady 26 = .ok (.iconst 1, 1) := by decide +kernel
theorem dX12_isReady_27 : decode cX12_isReady 27 = .ok (.if_icmp .ne 7, 3) := by decide +kernel
theorem dX12_isReady_30 : decode cX12_isReady 30 = .ok (.iconst 1, 1) := by decide +kernel
theorem dX12_isReady_31 : decode cX12_isReady 31 = .ok (.goto 4, 3) := by decide +kernel
theorem dX12_isReady_34 : decode cX12_isReady 34 = .ok (.iconst 0, 1) := by decide +kernel
theorem dX12_isReady_35 : decode cX12_isReady 35 = .ok (.ireturn, 1) := by decide +kernel
theorem dX12_begins_0 : decode cX12_begins 0 = .ok (.aload_n 0, 1) := by decide +kernel
theorem dX12_begins_1 : decode cX12_begins 1 = .ok (.getfield 7, 3) := by decide +kernel
theorem dX12_begins_4 : decode cX12_begins 4 = .ok (.bipush 6, 2) := by decide +kernel
theorem dX12_begins_6 : decode cX12_begins 6 = .ok (.iload_n 1, 1) := by decide +kernel
theorem dX12_begins_7 : decode cX12_begins 7 = .ok (.iconst 1, 1) := by decide +kernel
theorem dX12_begins_8 : decode cX12_begins 8 = .ok (.iadd, 1) := by decide +kernel
theorem dX12_begins_9 : decode cX12_begins 9 = .ok (.iastore, 1) := by decide +kernel
theorem dX12_begins_10 : decode cX12_begins 10 = .ok (.aload_n 0, 1) := by decide +kernel
theorem dX12_begins_11 : decode cX12_begins 11 = .ok (.getfield 7, 3) := by decide +kernel
theorem dX12_begins_14 : decode cX12_begins 14 = .ok (.bipush 7, 2) := by decide +kernel
theorem dX12_begins_16 : decode cX12_begins 16 = .ok (.aload_n 0, 1) := by decide +kernel
theorem dX12_begins_17 : decode cX12_begins 17 = .ok (.iload_n 1, 1) := by decide +kernel
theorem dX12_begins_18 : decode cX12_begins 18 = .ok (.iconst 1, 1) := by decide +kernel
theorem dX12_begins_19 : decode cX12_begins 19 = .ok (.invokevirtual 171, 3) := by decide +kernel
theorem dX12_begins_22 : decode cX12_begins 22 = .ok (.iastore, 1) := by decide +kernel
theorem dX12_begins_23 : decode cX12_begins 23 = .ok (.return_, 1) := by decide +kernel
theorem dX12_ends_0 : decode cX12_ends 0 = .ok (.aload_n 0, 1) := by decide +kernel
theorem dX12_ends_1 : decode cX12_ends 1 = .ok (.aload_n 0, 1) := by decide +kernel
theorem dX12_ends_2 : decode cX12_ends 2 = .ok (.getfield 7, 3) := by decide +kernel
theorem dX12_ends_5 : decode cX12_ends 5 = .ok (.bipush 6, 2) := by decide +kernel
theorem dX12_ends_7 : decode cX12_ends 7 = .ok (.iaload, 1) := by decide +kernel
theorem dX12_ends_8 : decode cX12_ends 8 = .ok (.iconst 1, 1) := by decide +kernel
theorem dX12_ends_9 : decode cX12_ends 9 = .ok (.isub, 1) := by decide +kernel
theorem dX12_ends_10 : decode cX12_ends 10 = .ok (.iconst 4, 1) := by decide +kernel
theorem dX12_ends_11 : decode cX12_ends 11 = .ok (.iload_n 1, 1) := by decide +kernel
theorem dX12_ends_12 : decode cX12_ends 12 = .ok (.invokevirtual 199, 3) := by decide +kernel
theorem dX12_ends_15 : decode cX12_ends 15 = .ok (.aload_n 0, 1) := by decide +kernel
theorem dX12_ends_16 : decode cX12_ends 16 = .ok (.getfield 7, 3) := by decide +kernel
theorem dX12_ends_19 : decode cX12_ends 19 = .ok (.bipush 6, 2) := by decide +kernel
theorem dX12_ends_21 : decode cX12_ends 21 = .ok (.iconst 0, 1) := by decide +kernel
theorem dX12_ends_22 : decode cX12_ends 22 = .ok (.iastore, 1) := by decide +kernel
theorem dX12_ends_23 : decode cX12_ends 23 = .ok (.aload_n 0, 1) := by decide +kernel
theorem dX12_ends_24 : decode cX12_ends 24 = .ok (.getfield 7, 3) := by decide +kernel
theorem dX12_ends_27 : decode cX12_ends 27 = .ok (.bipush 7, 2) := by decide +kernel
theorem dX12_ends_29 : decode cX12_ends 29 = .ok (.iconst 0, 1) := by decide +kernel
theorem dX12_ends_30 : decode cX12_ends 30 = .ok (.iastore, 1) := by decide +kernel
theorem dX12_ends_31 : decode cX12_ends 31 = .ok (.return_, 1) := by decide +kernel
theorem dX12_say_0 : decode cX12_say 0 = .ok (.aload_n 0, 1) := by decide +kernel
theorem dX12_say_1 : decode cX12_say 1 = .ok (.iload_n 1, 1) := by decide +kernel
theorem dX12_say_2 : decode cX12_say 2 = .ok (.invokevirtual 202, 3) := by decide +kernel
theorem dX12_say_5 : decode cX12_say 5 = .ok (.ifCond .ne 9, 3) := by decide +kernel
theorem dX12_say_8 : decode cX12_say 8 = .ok (.aload_n 0, 1) := by decide +kernel
theorem dX12_say_9 : decode cX12_say 9 = .ok (.iconst 1, 1) := by decide +kernel
theorem dX12_say_10 : decode cX12_say 10 = .ok (.invokevirtual 143, 3) := by decide +kernel
theorem dX12_say_13 : decode cX12_say 13 = .ok (.ireturn, 1) := by decide +kernel
theorem dX12_say_14 : decode cX12_say 14 = .ok (.aload_n 0, 1) := by decide +kernel
theorem dX12_say_15 : decode cX12_say 15 = .ok (.getfield 7, 3) := by decide +kernel
theorem dX12_say_18 : decode cX12_say 18 = .ok (.bipush 6, 2) := by decide +kernel
theorem dX12_say_20 : decode cX12_say 20 = .ok (.iaload, 1) := by decide +kernel
theorem dX12_say_21 : decode cX12_say 21 = .ok (.ifCond .gt 11, 3) := by decide +kernel
theorem dX12_say_24 : decode cX12_say 24 = .ok (.aload_n 0, 1) := by decide +kernel
theorem dX12_say_25 : decode cX12_say 25 = .ok (.iload_n 1, 1) := by decide +kernel
theorem dX12_say_26 : decode cX12_say 26 = .ok (.invokevirtual 220, 3) := by decide +kernel
theorem dX12_say_29 : decode cX12_say 29 = .ok (.ifCond .ne 9, 3) := by decide +kernel
theorem dX12_say_32 : decode cX12_say 32 = .ok (.aload_n 0, 1) := by decide +kernel
theorem dX12_say_33 : decode cX12_say 33 = .ok (.iconst 3, 1) := by decide +kernel
theorem dX12_say_34 : decode cX12_say 34 = .ok (.invokevirtual 143, 3) := by decide +kernel
theorem dX12_say_37 : decode cX12_say 37 = .ok (.ireturn, 1) := by decide +kernel
theorem dX12_say_38 : decode cX12_say 38 = .ok (.aload_n 0, 1) := by decide +kernel
theorem dX12_say_39 : decode cX12_say 39 = .ok (.iload_n 1, 1) := by decide +kernel
theorem dX12_say_40 : decode cX12_say 40 = .ok (.invokevirtual 223, 3) := by decide +kernel
theorem dX12_say_43 : decode cX12_say 43 = .ok (.aload_n 0, 1) := by decide +kernel
theorem dX12_say_44 : decode cX12_say 44 = .ok (.getfield 7, 3) := by decide +kernel
theorem dX12_say_47 : decode cX12_say 47 = .ok (.bipush 7, 2) := by decide +kernel
theorem dX12_say_49 : decode cX12_say 49 = .ok (.iaload, 1) := by decide +kernel
theorem dX12_say_50 : decode cX12_say 50 = .ok (.ireturn, 1) := by decide +kernel
theorem dX12_stop_0 : decode cX12_stop 0 = .ok (.aload_n 0, 1) := by decide +kernel
theorem dX12_stop_1 : decode cX12_stop 1 = .ok (.getfield 7, 3) := by decide +kernel
theorem dX12_stop_4 : decode cX12_stop 4 = .ok (.bipush 6, 2) := by decide +kernel
theorem dX12_stop_6 : decode cX12_stop 6 = .ok (.iaload, 1) := by decide +kernel
theorem dX12_stop_7 : decode cX12_stop 7 = .ok (.ifCond .ne 9, 3) := by decide +kernel
theorem dX12_stop_10 : decode cX12_stop 10 = .ok (.aload_n 0, 1) := by decide +kernel
theorem dX12_stop_11 : decode cX12_stop 11 = .ok (.iconst 2, 1) := by decide +kernel
theorem dX12_stop_12 : decode cX12_stop 12 = .ok (.invokevirtual 143, 3) := by decide +kernel
theorem dX12_stop_15 : decode cX12_stop 15 = .ok (.ireturn, 1) := by decide +kernel
theorem dX12_stop_16 : decode cX12_stop 16 = .ok (.aload_n 0, 1) := by decide +kernel
theorem dX12_stop_17 : decode cX12_stop 17 = .ok (.getfield 7, 3) := by decide +kernel
theorem dX12_stop_20 : decode cX12_stop 20 = .ok (.bipush 6, 2) := by decide +kernel
theorem dX12_stop_22 : decode cX12_stop 22 = .ok (.iaload, 1) := by decide +kernel
theorem dX12_stop_23 : decode cX12_stop 23 = .ok (.iconst 1, 1) := by decide +kernel
theorem dX12_stop_24 : decode cX12_stop 24 = .ok (.isub, 1) := by decide +kernel
theorem dX12_stop_25 : decode cX12_stop 25 = .ok (.istore_n 1, 1) := by decide +kernel
theorem dX12_stop_26 : decode cX12_stop 26 = .ok (.aload_n 0, 1) := by decide +kernel
theorem dX12_stop_27 : decode cX12_stop 27 = .ok (.iconst 2, 1) := by decide +kernel
theorem dX12_stop_28 : decode cX12_stop 28 = .ok (.invokevirtual 226, 3) := by decide +kernel
theorem dX12_stop_31 : decode cX12_stop 31 = .ok (.iload_n 1, 1) := by decide +kernel
theorem dX12_stop_32 : decode cX12_stop 32 = .ok (.ireturn, 1) := by decide +kernel
theorem dX12_earOf_0 : decode cX12_earOf 0 = .ok (.aload_n 0, 1) := by decide +kernel
theorem dX12_earOf_1 : decode cX12_earOf 1 = .ok (.iconst 0, 1) := by decide +kernel
theorem dX12_earOf_2 : decode cX12_earOf 2 = .ok (.aload_n 0, 1) := by decide +kernel
theorem dX12_earOf_3 : decode cX12_earOf 3 = .ok (.iload_n 1, 1) := by decide +kernel
theorem dX12_earOf_4 : decode cX12_earOf 4 = .ok (.iconst 2, 1) := by decide +kernel
theorem dX12_earOf_5 : decode cX12_earOf 5 = .ok (.invokevirtual 171, 3) := by decide +kernel
theorem dX12_earOf_8 : decode cX12_earOf 8 = .ok (.aload_n 0, 1) := by decide +kernel
theorem dX12_earOf_9 : decode cX12_earOf 9 = .ok (.iload_n 1, 1) := by decide +kernel
theorem dX12_earOf_10 : decode cX12_earOf 10 = .ok (.iconst 1, 1) := by decide +kernel
theorem dX12_earOf_11 : decode cX12_earOf 11 = .ok (.invokevirtual 171, 3) := by decide +kernel
theorem dX12_earOf_14 : decode cX12_earOf 14 = .ok (.iload_n 2, 1) := by decide +kernel
theorem dX12_earOf_15 : decode cX12_earOf 15 = .ok (.invokevirtual 157, 3) := by decide +kernel
theorem dX12_earOf_18 : decode cX12_earOf 18 = .ok (.ireturn, 1) := by decide +kernel
theorem dX12_aSecond_0 : decode cX12_aSecond 0 = .ok (.aload_n 0, 1) := by decide +kernel
theorem dX12_aSecond_1 : decode cX12_aSecond 1 = .ok (.getfield 7, 3) := by decide +kernel
theorem dX12_aSecond_4 : decode cX12_aSecond 4 = .ok (.iconst 3, 1) := by decide +kernel
theorem dX12_aSecond_5 : decode cX12_aSecond 5 = .ok (.dup2, 1) := by decide +kernel
theorem dX12_aSecond_6 : decode cX12_aSecond 6 = .ok (.iaload, 1) := by decide +kernel
theorem dX12_aSecond_7 : decode cX12_aSecond 7 = .ok (.iconst 1, 1) := by decide +kernel
theorem dX12_aSecond_8 : decode cX12_aSecond 8 = .ok (.iadd, 1) := by decide +kernel
theorem dX12_aSecond_9 : decode cX12_aSecond 9 = .ok (.iastore, 1) := by decide +kernel
theorem dX12_aSecond_10 : decode cX12_aSecond 10 = .ok (.aload_n 0, 1) := by decide +kernel
theorem dX12_aSecond_11 : decode cX12_aSecond 11 = .ok (.getfield 7, 3) := by decide +kernel
theorem dX12_aSecond_14 : decode cX12_aSecond 14 = .ok (.iconst 5, 1) := by decide +kernel
theorem dX12_aSecond_15 : decode cX12_aSecond 15 = .ok (.iaload, 1) := by decide +kernel
theorem dX12_aSecond_16 : decode cX12_aSecond 16 = .ok (.iconst 1, 1) := by decide +kernel
theorem dX12_aSecond_17 : decode cX12_aSecond 17 = .ok (.if_icmp .ne 4, 3) := by decide +kernel
theorem dX12_aSecond_20 : decode cX12_aSecond 20 = .ok (.return_, 1) := by decide +kernel
theorem dX12_aSecond_21 : decode cX12_aSecond 21 = .ok (.aload_n 0, 1) := by decide +kernel
theorem dX12_aSecond_22 : decode cX12_aSecond 22 = .ok (.invokevirtual 213, 3) := by decide +kernel
theorem dX12_aSecond_25 : decode cX12_aSecond 25 = .ok (.istore_n 1, 1) := by decide +kernel
theorem dX12_aSecond_26 : decode cX12_aSecond 26 = .ok (.iload_n 1, 1) := by decide +kernel
theorem dX12_aSecond_27 : decode cX12_aSecond 27 = .ok (.ifCond .lt 17, 3) := by decide +kernel
theorem dX12_aSecond_30 : decode cX12_aSecond 30 = .ok (.aload_n 0, 1) := by decide +kernel
theorem dX12_aSecond_31 : decode cX12_aSecond 31 = .ok (.iload_n 1, 1) := by decide +kernel
theorem dX12_aSecond_32 : decode cX12_aSecond 32 = .ok (.iconst 3, 1) := by decide +kernel
theorem dX12_aSecond_33 : decode cX12_aSecond 33 = .ok (.invokevirtual 161, 3) := by decide +kernel
theorem dX12_aSecond_36 : decode cX12_aSecond 36 = .ok (.aload_n 0, 1) := by decide +kernel
theorem dX12_aSecond_37 : decode cX12_aSecond 37 = .ok (.iload_n 1, 1) := by decide +kernel
theorem dX12_aSecond_38 : decode cX12_aSecond 38 = .ok (.invokevirtual 179, 3) := by decide +kernel
theorem dX12_aSecond_41 : decode cX12_aSecond 41 = .ok (.if_icmp .lt 7, 3) := by decide +kernel
theorem dX12_aSecond_44 : decode cX12_aSecond 44 = .ok (.iconst 1, 1) := by decide +kernel
theorem dX12_aSecond_45 : decode cX12_aSecond 45 = .ok (.goto 4, 3) := by decide +kernel
theorem dX12_aSecond_48 : decode cX12_aSecond 48 = .ok (.iconst 0, 1) := by decide +kernel
theorem dX12_aSecond_49 : decode cX12_aSecond 49 = .ok (.istore_n 2, 1) := by decide +kernel
theorem dX12_aSecond_50 : decode cX12_aSecond 50 = .ok (.iconst 0, 1) := by decide +kernel
theorem dX12_aSecond_51 : decode cX12_aSecond 51 = .ok (.istore_n 3, 1) := by decide +kernel
theorem dX12_aSecond_52 : decode cX12_aSecond 52 = .ok (.iload_n 3, 1) := by decide +kernel
theorem dX12_aSecond_53 : decode cX12_aSecond 53 = .ok (.aload_n 0, 1) := by decide +kernel
theorem dX12_aSecond_54 : decode cX12_aSecond 54 = .ok (.getfield 7, 3) := by decide +kernel
theorem dX12_aSecond_57 : decode cX12_aSecond 57 = .ok (.iconst 0, 1) := by decide +kernel
theorem dX12_aSecond_58 : decode cX12_aSecond 58 = .ok (.iaload, 1) := by decide +kernel
theorem dX12_aSecond_59 : decode cX12_aSecond 59 = .ok (.if_icmp .ge 36, 3) := by decide +kernel
theorem dX12_aSecond_62 : decode cX12_aSecond 62 = .ok (.aload_n 0, 1) := by decide +kernel
theorem dX12_aSecond_63 : decode cX12_aSecond 63 = .ok (.aload_n 0, 1) := by decide +kernel
theorem dX12_aSecond_64 : decode cX12_aSecond 64 = .ok (.iload_n 3, 1) := by decide +kernel
theorem dX12_aSecond_65 : decode cX12_aSecond 65 = .ok (.iload_n 3, 1) := by decide +kernel
theorem dX12_aSecond_66 : decode cX12_aSecond 66 = .ok (.iload_n 1, 1) := by decide +kernel
theorem dX12_aSecond_67 : decode cX12_aSecond 67 = .ok (.if_icmp .ne 11, 3) := by decide +kernel
theorem dX12_aSecond_70 : decode cX12_aSecond 70 = .ok (.aload_n 0, 1) := by decide +kernel
theorem dX12_aSecond_71 : decode cX12_aSecond 71 = .ok (.iload_n 3, 1) := by decide +kernel
theorem dX12_aSecond_72 : decode cX12_aSecond 72 = .ok (.invokevirtual 179, 3) := by decide +kernel
theorem dX12_aSecond_75 : decode cX12_aSecond 75 = .ok (.goto 8, 3) := by decide +kernel
theorem dX12_aSecond_78 : decode cX12_aSecond 78 = .ok (.aload_n 0, 1) := by decide +kernel
theorem dX12_aSecond_79 : decode cX12_aSecond 79 = .ok (.iload_n 3, 1) := by decide +kernel
theorem dX12_aSecond_80 : decode cX12_aSecond 80 = .ok (.invokevirtual 182, 3) := by decide +kernel
theorem dX12_aSecond_83 : decode cX12_aSecond 83 = .ok (.invokevirtual 210, 3) := by decide +kernel
theorem dX12_aSecond_86 : decode cX12_aSecond 86 = .ok (.invokevirtual 216, 3) := by decide +kernel
theorem dX12_aSecond_89 : decode cX12_aSecond 89 = .ok (.iinc 3 1, 3) := by decide +kernel
theorem dX12_aSecond_92 : decode cX12_aSecond 92 = .ok (.goto (-40), 3) := by decide +kernel
theorem dX12_aSecond_95 : decode cX12_aSecond 95 = .ok (.iload_n 1, 1) := by decide +kernel
theorem dX12_aSecond_96 : decode cX12_aSecond 96 = .ok (.ifCond .ge 4, 3) := by decide +kernel
theorem dX12_aSecond_99 : decode cX12_aSecond 99 = .ok (.return_, 1) := by decide +kernel
theorem dX12_aSecond_100 : decode cX12_aSecond 100 = .ok (.iload_n 2, 1) := by decide +kernel
theorem dX12_aSecond_101 : decode cX12_aSecond 101 = .ok (.ifCond .ne 9, 3) := by decide +kernel
theorem dX12_aSecond_104 : decode cX12_aSecond 104 = .ok (.aload_n 0, 1) := by decide +kernel
theorem dX12_aSecond_105 : decode cX12_aSecond 105 = .ok (.iconst 2, 1) := by decide +kernel
theorem dX12_aSecond_106 : decode cX12_aSecond 106 = .ok (.invokevirtual 226, 3) := by decide +kernel
theorem dX12_aSecond_109 : decode cX12_aSecond 109 = .ok (.return_, 1) := by decide +kernel
theorem dX12_aSecond_110 : decode cX12_aSecond 110 = .ok (.aload_n 0, 1) := by decide +kernel
theorem dX12_aSecond_111 : decode cX12_aSecond 111 = .ok (.getfield 7, 3) := by decide +kernel
theorem dX12_aSecond_114 : decode cX12_aSecond 114 = .ok (.bipush 7, 2) := by decide +kernel
theorem dX12_aSecond_116 : decode cX12_aSecond 116 = .ok (.dup2, 1) := by decide +kernel
theorem dX12_aSecond_117 : decode cX12_aSecond 117 = .ok (.iaload, 1) := by decide +kernel
theorem dX12_aSecond_118 : decode cX12_aSecond 118 = .ok (.iconst 1, 1) := by decide +kernel
theorem dX12_aSecond_119 : decode cX12_aSecond 119 = .ok (.isub, 1) := by decide +kernel
theorem dX12_aSecond_120 : decode cX12_aSecond 120 = .ok (.iastore, 1) := by decide +kernel
theorem dX12_aSecond_121 : decode cX12_aSecond 121 = .ok (.aload_n 0, 1) := by decide +kernel
theorem dX12_aSecond_122 : decode cX12_aSecond 122 = .ok (.getfield 7, 3) := by decide +kernel
theorem dX12_aSecond_125 : decode cX12_aSecond 125 = .ok (.bipush 7, 2) := by decide +kernel
theorem dX12_aSecond_127 : decode cX12_aSecond 127 = .ok (.iaload, 1) := by decide +kernel
theorem dX12_aSecond_128 : decode cX12_aSecond 128 = .ok (.ifCond .ne 46, 3) := by decide +kernel
theorem dX12_aSecond_131 : decode cX12_aSecond 131 = .ok (.aload_n 0, 1) := by decide +kernel
theorem dX12_aSecond_132 : decode cX12_aSecond 132 = .ok (.iload_n 1, 1) := by decide +kernel
theorem dX12_aSecond_133 : decode cX12_aSecond 133 = .ok (.iconst 4, 1) := by decide +kernel
theorem dX12_aSecond_134 : decode cX12_aSecond 134 = .ok (.aload_n 0, 1) := by decide +kernel
theorem dX12_aSecond_135 : decode cX12_aSecond 135 = .ok (.iload_n 1, 1) := by decide +kernel
theorem dX12_aSecond_136 : decode cX12_aSecond 136 = .ok (.iconst 4, 1) := by decide +kernel
theorem dX12_aSecond_137 : decode cX12_aSecond 137 = .ok (.invokevirtual 161, 3) := by decide +kernel
theorem dX12_aSecond_140 : decode cX12_aSecond 140 = .ok (.aload_n 0, 1) := by decide +kernel
theorem dX12_aSecond_141 : decode cX12_aSecond 141 = .ok (.aload_n 0, 1) := by decide +kernel
theorem dX12_aSecond_142 : decode cX12_aSecond 142 = .ok (.getfield 7, 3) := by decide +kernel
theorem dX12_aSecond_145 : decode cX12_aSecond 145 = .ok (.bipush 6, 2) := by decide +kernel
theorem dX12_aSecond_147 : decode cX12_aSecond 147 = .ok (.iaload, 1) := by decide +kernel
theorem dX12_aSecond_148 : decode cX12_aSecond 148 = .ok (.iconst 1, 1) := by decide +kernel
theorem dX12_aSecond_149 : decode cX12_aSecond 149 = .ok (.isub, 1) := by decide +kernel
theorem dX12_aSecond_150 : decode cX12_aSecond 150 = .ok (.aload_n 0, 1) := by decide +kernel
theorem dX12_aSecond_151 : decode cX12_aSecond 151 = .ok (.iload_n 1, 1) := by decide +kernel
theorem dX12_aSecond_152 : decode cX12_aSecond 152 = .ok (.iconst 4, 1) := by decide +kernel
theorem dX12_aSecond_153 : decode cX12_aSecond 153 = .ok (.invokevirtual 161, 3) := by decide +kernel
theorem dX12_aSecond_156 : decode cX12_aSecond 156 = .ok (.invokevirtual 229, 3) := by decide +kernel
theorem dX12_aSecond_159 : decode cX12_aSecond 159 = .ok (.iadd, 1) := by decide +kernel
theorem dX12_aSecond_160 : decode cX12_aSecond 160 = .ok (.iconst 0, 1) := by decide +kernel
theorem dX12_aSecond_161 : decode cX12_aSecond 161 = .ok (.ldc 232, 2) := by decide +kernel
theorem dX12_aSecond_163 : decode cX12_aSecond 163 = .ok (.invokestatic 152, 3) := by decide +kernel
theorem dX12_aSecond_166 : decode cX12_aSecond 166 = .ok (.invokevirtual 167, 3) := by decide +kernel
theorem dX12_aSecond_169 : decode cX12_aSecond 169 = .ok (.aload_n 0, 1) := by decide +kernel
theorem dX12_aSecond_170 : decode cX12_aSecond 170 = .ok (.iconst 1, 1) := by decide +kernel
theorem dX12_aSecond_171 : decode cX12_aSecond 171 = .ok (.invokevirtual 226, 3) := by decide +kernel
theorem dX12_aSecond_174 : decode cX12_aSecond 174 = .ok (.return_, 1) := by decide +kernel
theorem dX12_seconds_0 : decode cX12_seconds 0 = .ok (.iload_n 1, 1) := by decide +kernel
theorem dX12_seconds_1 : decode cX12_seconds 1 = .ok (.i2l, 1) := by decide +kernel
theorem dX12_seconds_2 : decode cX12_seconds 2 = .ok (.lconst 1, 1) := by decide +kernel
theorem dX12_seconds_3 : decode cX12_seconds 3 = .ok (.ldc2_w 233, 3) := by decide +kernel
theorem dX12_seconds_6 : decode cX12_seconds 6 = .ok (.invokestatic 80, 3) := by decide +kernel
theorem dX12_seconds_9 : decode cX12_seconds 9 = .ok (.ifCond .ne 9, 3) := by decide +kernel
theorem dX12_seconds_12 : decode cX12_seconds 12 = .ok (.aload_n 0, 1) := by decide +kernel
theorem dX12_seconds_13 : decode cX12_seconds 13 = .ok (.iconst 1, 1) := by decide +kernel
theorem dX12_seconds_14 : decode cX12_seconds 14 = .ok (.invokevirtual 143, 3) := by decide +kernel
theorem dX12_seconds_17 : decode cX12_seconds 17 = .ok (.ireturn, 1) := by decide +kernel
theorem dX12_seconds_18 : decode cX12_seconds 18 = .ok (.aload_n 0, 1) := by decide +kernel
theorem dX12_seconds_19 : decode cX12_seconds 19 = .ok (.getfield 7, 3) := by decide +kernel
theorem dX12_seconds_22 : decode cX12_seconds 22 = .ok (.iconst 3, 1) := by decide +kernel
theorem dX12_seconds_23 : decode cX12_seconds 23 = .ok (.iaload, 1) := by decide +kernel
theorem dX12_seconds_24 : decode cX12_seconds 24 = .ok (.iload_n 1, 1) := by decide +kernel
theorem dX12_seconds_25 : decode cX12_seconds 25 = .ok (.iadd, 1) := by decide +kernel
theorem dX12_seconds_26 : decode cX12_seconds 26 = .ok (.ldc 232, 2) := by decide +kernel
theorem dX12_seconds_28 : decode cX12_seconds 28 = .ok (.if_icmp .le 9, 3) := by decide +kernel
theorem dX12_seconds_31 : decode cX12_seconds 31 = .ok (.aload_n 0, 1) := by decide +kernel
theorem dX12_seconds_32 : decode cX12_seconds 32 = .ok (.iconst 3, 1) := by decide +kernel
theorem dX12_seconds_33 : decode cX12_seconds 33 = .ok (.invokevirtual 143, 3) := by decide +kernel
theorem dX12_seconds_36 : decode cX12_seconds 36 = .ok (.ireturn, 1) := by decide +kernel
theorem dX12_seconds_37 : decode cX12_seconds 37 = .ok (.iconst 0, 1) := by decide +kernel
theorem dX12_seconds_38 : decode cX12_seconds 38 = .ok (.istore_n 2, 1) := by decide +kernel
theorem dX12_seconds_39 : decode cX12_seconds 39 = .ok (.iload_n 2, 1) := by decide +kernel
theorem dX12_seconds_40 : decode cX12_seconds 40 = .ok (.iload_n 1, 1) := by decide +kernel
theorem dX12_seconds_41 : decode cX12_seconds 41 = .ok (.if_icmp .ge 13, 3) := by decide +kernel
theorem dX12_seconds_44 : decode cX12_seconds 44 = .ok (.aload_n 0, 1) := by decide +kernel
theorem dX12_seconds_45 : decode cX12_seconds 45 = .ok (.invokevirtual 235, 3) := by decide +kernel
theorem dX12_seconds_48 : decode cX12_seconds 48 = .ok (.iinc 2 1, 3) := by decide +kernel
theorem dX12_seconds_51 : decode cX12_seconds 51 = .ok (.goto (-12), 3) := by decide +kernel
theorem dX12_seconds_54 : decode cX12_seconds 54 = .ok (.aload_n 0, 1) := by decide +kernel
theorem dX12_seconds_55 : decode cX12_seconds 55 = .ok (.getfield 7, 3) := by decide +kernel
theorem dX12_seconds_58 : decode cX12_seconds 58 = .ok (.iconst 4, 1) := by decide +kernel
theorem dX12_seconds_59 : decode cX12_seconds 59 = .ok (.iaload, 1) := by decide +kernel
theorem dX12_seconds_60 : decode cX12_seconds 60 = .ok (.ireturn, 1) := by decide +kernel
theorem dX12_drawn_0 : decode cX12_drawn 0 = .ok (.aload_n 0, 1) := by decide +kernel
theorem dX12_drawn_1 : decode cX12_drawn 1 = .ok (.getfield 7, 3) := by decide +kernel
theorem dX12_drawn_4 : decode cX12_drawn 4 = .ok (.iconst 2, 1) := by decide +kernel
theorem dX12_drawn_5 : decode cX12_drawn 5 = .ok (.aload_n 0, 1) := by decide +kernel
theorem dX12_drawn_6 : decode cX12_drawn 6 = .ok (.getfield 7, 3) := by decide +kernel
theorem dX12_drawn_9 : decode cX12_drawn 9 = .ok (.iconst 2, 1) := by decide +kernel
theorem dX12_drawn_10 : decode cX12_drawn 10 = .ok (.iaload, 1) := by decide +kernel
theorem dX12_drawn_11 : decode cX12_drawn 11 = .ok (.ldc 238, 2) := by decide +kernel
theorem dX12_drawn_13 : decode cX12_drawn 13 = .ok (.imul, 1) := by decide +kernel
theorem dX12_drawn_14 : decode cX12_drawn 14 = .ok (.sipush 12345, 3) := by decide +kernel
theorem dX12_drawn_17 : decode cX12_drawn 17 = .ok (.iadd, 1) := by decide +kernel
theorem dX12_drawn_18 : decode cX12_drawn 18 = .ok (.iastore, 1) := by decide +kernel
theorem dX12_drawn_19 : decode cX12_drawn 19 = .ok (.aload_n 0, 1) := by decide +kernel
theorem dX12_drawn_20 : decode cX12_drawn 20 = .ok (.getfield 7, 3) := by decide +kernel
theorem dX12_drawn_23 : decode cX12_drawn 23 = .ok (.iconst 2, 1) := by decide +kernel
theorem dX12_drawn_24 : decode cX12_drawn 24 = .ok (.iaload, 1) := by decide +kernel
theorem dX12_drawn_25 : decode cX12_drawn 25 = .ok (.bipush 8, 2) := by decide +kernel
theorem dX12_drawn_27 : decode cX12_drawn 27 = .ok (.iushr, 1) := by decide +kernel
theorem dX12_drawn_28 : decode cX12_drawn 28 = .ok (.ireturn, 1) := by decide +kernel
theorem dX12_loose_0 : decode cX12_loose 0 = .ok (.iload_n 1, 1) := by decide +kernel
theorem dX12_loose_1 : decode cX12_loose 1 = .ok (.i2l, 1) := by decide +kernel
theorem dX12_loose_2 : decode cX12_loose 2 = .ok (.lconst 1, 1) := by decide +kernel
theorem dX12_loose_3 : decode cX12_loose 3 = .ok (.ldc2_w 233, 3) := by decide +kernel
theorem dX12_loose_6 : decode cX12_loose 6 = .ok (.invokestatic 80, 3) := by decide +kernel
theorem dX12_loose_9 : decode cX12_loose 9 = .ok (.ifCond .ne 9, 3) := by decide +kernel
theorem dX12_loose_12 : decode cX12_loose 12 = .ok (.aload_n 0, 1) := by decide +kernel
theorem dX12_loose_13 : decode cX12_loose 13 = .ok (.iconst 1, 1) := by decide +kernel
theorem dX12_loose_14 : decode cX12_loose 14 = .ok (.invokevirtual 143, 3) := by decide +kernel
theorem dX12_loose_17 : decode cX12_loose 17 = .ok (.ireturn, 1) := by decide +kernel
theorem dX12_loose_18 : decode cX12_loose 18 = .ok (.aload_n 0, 1) := by decide +kernel
theorem dX12_loose_19 : decode cX12_loose 19 = .ok (.getfield 7, 3) := by decide +kernel
theorem dX12_loose_22 : decode cX12_loose 22 = .ok (.iconst 3, 1) := by decide +kernel
theorem dX12_loose_23 : decode cX12_loose 23 = .ok (.iaload, 1) := by decide +kernel
theorem dX12_loose_24 : decode cX12_loose 24 = .ok (.iload_n 1, 1) := by decide +kernel
theorem dX12_loose_25 : decode cX12_loose 25 = .ok (.iadd, 1) := by decide +kernel
theorem dX12_loose_26 : decode cX12_loose 26 = .ok (.ldc 232, 2) := by decide +kernel
theorem dX12_loose_28 : decode cX12_loose 28 = .ok (.if_icmp .le 9, 3) := by decide +kernel
theorem dX12_loose_31 : decode cX12_loose 31 = .ok (.aload_n 0, 1) := by decide +kernel
theorem dX12_loose_32 : decode cX12_loose 32 = .ok (.iconst 3, 1) := by decide +kernel
theorem dX12_loose_33 : decode cX12_loose 33 = .ok (.invokevirtual 143, 3) := by decide +kernel
theorem dX12_loose_36 : decode cX12_loose 36 = .ok (.ireturn, 1) := by decide +kernel
theorem dX12_loose_37 : decode cX12_loose 37 = .ok (.iconst 0, 1) := by decide +kernel
theorem dX12_loose_38 : decode cX12_loose 38 = .ok (.istore_n 2, 1) := by decide +kernel
theorem dX12_loose_39 : decode cX12_loose 39 = .ok (.iload_n 2, 1) := by decide +kernel
theorem dX12_loose_40 : decode cX12_loose 40 = .ok (.iload_n 1, 1) := by decide +kernel
theorem dX12_loose_41 : decode cX12_loose 41 = .ok (.if_icmp .ge 50, 3) := by decide +kernel
theorem dX12_loose_44 : decode cX12_loose 44 = .ok (.aload_n 0, 1) := by decide +kernel
theorem dX12_loose_45 : decode cX12_loose 45 = .ok (.invokevirtual 239, 3) := by decide +kernel
theorem dX12_loose_48 : decode cX12_loose 48 = .ok (.iconst 4, 1) := by decide +kernel
theorem dX12_loose_49 : decode cX12_loose 49 = .ok (.irem, 1) := by decide +kernel
theorem dX12_loose_50 : decode cX12_loose 50 = .ok (.istore_n 3, 1) := by decide +kernel
theorem dX12_loose_51 : decode cX12_loose 51 = .ok (.aload_n 0, 1) := by decide +kernel
theorem dX12_loose_52 : decode cX12_loose 52 = .ok (.invokevirtual 239, 3) := by decide +kernel
theorem dX12_loose_55 : decode cX12_loose 55 = .ok (.bipush 6, 2) := by decide +kernel
theorem dX12_loose_57 : decode cX12_loose 57 = .ok (.irem, 1) := by decide +kernel
theorem dX12_loose_58 : decode cX12_loose 58 = .ok (.istore 4, 2) := by decide +kernel
theorem dX12_loose_60 : decode cX12_loose 60 = .ok (.aload_n 0, 1) := by decide +kernel
theorem dX12_loose_61 : decode cX12_loose 61 = .ok (.iload_n 3, 1) := by decide +kernel
theorem dX12_loose_62 : decode cX12_loose 62 = .ok (.invokevirtual 174, 3) := by decide +kernel
theorem dX12_loose_65 : decode cX12_loose 65 = .ok (.ifCond .eq 13, 3) := by decide +kernel
theorem dX12_loose_68 : decode cX12_loose 68 = .ok (.aload_n 0, 1) := by decide +kernel
theorem dX12_loose_69 : decode cX12_loose 69 = .ok (.iload_n 3, 1) := by decide +kernel
theorem dX12_loose_70 : decode cX12_loose 70 = .ok (.iload 4, 2) := by decide +kernel
theorem dX12_loose_72 : decode cX12_loose 72 = .ok (.invokevirtual 210, 3) := by decide +kernel
theorem dX12_loose_75 : decode cX12_loose 75 = .ok (.goto 4, 3) := by decide +kernel
theorem dX12_loose_78 : decode cX12_loose 78 = .ok (.iconst 0, 1) := by decide +kernel
theorem dX12_loose_79 : decode cX12_loose 79 = .ok (.istore 5, 2) := by decide +kernel
theorem dX12_loose_81 : decode cX12_loose 81 = .ok (.aload_n 0, 1) := by decide +kernel
theorem dX12_loose_82 : decode cX12_loose 82 = .ok (.invokevirtual 235, 3) := by decide +kernel
theorem dX12_loose_85 : decode cX12_loose 85 = .ok (.iinc 2 1, 3) := by decide +kernel
theorem dX12_loose_88 : decode cX12_loose 88 = .ok (.goto (-49), 3) := by decide +kernel
theorem dX12_loose_91 : decode cX12_loose 91 = .ok (.aload_n 0, 1) := by decide +kernel
theorem dX12_loose_92 : decode cX12_loose 92 = .ok (.getfield 7, 3) := by decide +kernel
theorem dX12_loose_95 : decode cX12_loose 95 = .ok (.iconst 4, 1) := by decide +kernel
theorem dX12_loose_96 : decode cX12_loose 96 = .ok (.iaload, 1) := by decide +kernel
theorem dX12_loose_97 : decode cX12_loose 97 = .ok (.ireturn, 1) := by decide +kernel
theorem dX12_then_0 : decode cX12_then 0 = .ok (.iload_n 1, 1) := by decide +kernel
theorem dX12_then_1 : decode cX12_then 1 = .ok (.i2l, 1) := by decide +kernel
theorem dX12_then_2 : decode cX12_then 2 = .ok (.lconst 0, 1) := by decide +kernel
theorem dX12_then_3 : decode cX12_then 3 = .ok (.ldc2_w 233, 3) := by decide +kernel
theorem dX12_then_6 : decode cX12_then 6 = .ok (.invokestatic 80, 3) := by decide +kernel
theorem dX12_then_9 : decode cX12_then 9 = .ok (.ifCond .eq 23, 3) := by decide +kernel
theorem dX12_then_12 : decode cX12_then 12 = .ok (.aload_n 0, 1) := by decide +kernel
theorem dX12_then_13 : decode cX12_then 13 = .ok (.iload_n 2, 1) := by decide +kernel
theorem dX12_then_14 : decode cX12_then 14 = .ok (.invokevirtual 174, 3) := by decide +kernel
theorem dX12_then_17 : decode cX12_then 17 = .ok (.ifCond .eq 15, 3) := by decide +kernel
theorem dX12_then_20 : decode cX12_then 20 = .ok (.iload_n 3, 1) := by decide +kernel
theorem dX12_then_21 : decode cX12_then 21 = .ok (.i2l, 1) := by decide +kernel
theorem dX12_then_22 : decode cX12_then 22 = .ok (.lconst 0, 1) := by decide +kernel
theorem dX12_then_23 : decode cX12_then 23 = .ok (.ldc2_w 242, 3) := by decide +kernel
theorem dX12_then_26 : decode cX12_then 26 = .ok (.invokestatic 80, 3) := by decide +kernel
theorem dX12_then_29 : decode cX12_then 29 = .ok (.ifCond .ne 9, 3) := by decide +kernel
theorem dX12_then_32 : decode cX12_then 32 = .ok (.aload_n 0, 1) := by decide +kernel
theorem dX12_then_33 : decode cX12_then 33 = .ok (.iconst 1, 1) := by decide +kernel
theorem dX12_then_34 : decode cX12_then 34 = .ok (.invokevirtual 143, 3) := by decide +kernel
theorem dX12_then_37 : decode cX12_then 37 = .ok (.ireturn, 1) := by decide +kernel
theorem dX12_then_38 : decode cX12_then 38 = .ok (.aload_n 0, 1) := by decide +kernel
theorem dX12_then_39 : decode cX12_then 39 = .ok (.invokevirtual 244, 3) := by decide +kernel
theorem dX12_then_42 : decode cX12_then 42 = .ok (.iconst 0, 1) := by decide +kernel
theorem dX12_then_43 : decode cX12_then 43 = .ok (.istore 4, 2) := by decide +kernel
theorem dX12_then_45 : decode cX12_then 45 = .ok (.iload 4, 2) := by decide +kernel
theorem dX12_then_47 : decode cX12_then 47 = .ok (.iload_n 1, 1) := by decide +kernel
theorem dX12_then_48 : decode cX12_then 48 = .ok (.if_icmp .ge 13, 3) := by decide +kernel
theorem dX12_then_51 : decode cX12_then 51 = .ok (.aload_n 0, 1) := by decide +kernel
theorem dX12_then_52 : decode cX12_then 52 = .ok (.invokevirtual 235, 3) := by decide +kernel
theorem dX12_then_55 : decode cX12_then 55 = .ok (.iinc 4 1, 3) := by decide +kernel
theorem dX12_then_58 : decode cX12_then 58 = .ok (.goto (-13), 3) := by decide +kernel
theorem dX12_then_61 : decode cX12_then 61 = .ok (.iload_n 3, 1) := by decide +kernel
theorem dX12_then_62 : decode cX12_then 62 = .ok (.ifCond .ne 12, 3) := by decide +kernel
theorem dX12_then_65 : decode cX12_then 65 = .ok (.aload_n 0, 1) := by decide +kernel
theorem dX12_then_66 : decode cX12_then 66 = .ok (.iload_n 2, 1) := by decide +kernel
theorem dX12_then_67 : decode cX12_then 67 = .ok (.iconst 3, 1) := by decide +kernel
theorem dX12_then_68 : decode cX12_then 68 = .ok (.invokevirtual 161, 3) := by decide +kernel
theorem dX12_then_71 : decode cX12_then 71 = .ok (.goto 40, 3) := by decide +kernel
theorem dX12_then_74 : decode cX12_then 74 = .ok (.iload_n 3, 1) := by decide +kernel
theorem dX12_then_75 : decode cX12_then 75 = .ok (.iconst 1, 1) := by decide +kernel
theorem dX12_then_76 : decode cX12_then 76 = .ok (.if_icmp .ne 12, 3) := by decide +kernel
theorem dX12_then_79 : decode cX12_then 79 = .ok (.aload_n 0, 1) := by decide +kernel
theorem dX12_then_80 : decode cX12_then 80 = .ok (.iload_n 2, 1) := by decide +kernel
theorem dX12_then_81 : decode cX12_then 81 = .ok (.iconst 4, 1) := by decide +kernel
theorem dX12_then_82 : decode cX12_then 82 = .ok (.invokevirtual 161, 3) := by decide +kernel
theorem dX12_then_85 : decode cX12_then 85 = .ok (.goto 26, 3) := by decide +kernel
theorem dX12_then_88 : decode cX12_then 88 = .ok (.iload_n 3, 1) := by decide +kernel
theorem dX12_then_89 : decode cX12_then 89 = .ok (.iconst 2, 1) := by decide +kernel
theorem dX12_then_90 : decode cX12_then 90 = .ok (.if_icmp .ne 12, 3) := by decide +kernel
theorem dX12_then_93 : decode cX12_then 93 = .ok (.aload_n 0, 1) := by decide +kernel
theorem dX12_then_94 : decode cX12_then 94 = .ok (.getfield 7, 3) := by decide +kernel
theorem dX12_then_97 : decode cX12_then 97 = .ok (.iconst 4, 1) := by decide +kernel
theorem dX12_then_98 : decode cX12_then 98 = .ok (.iaload, 1) := by decide +kernel
theorem dX12_then_99 : decode cX12_then 99 = .ok (.goto 12, 3) := by decide +kernel
theorem dX12_then_102 : decode cX12_then 102 = .ok (.aload_n 0, 1) := by decide +kernel
theorem dX12_then_103 : decode cX12_then 103 = .ok (.getfield 7, 3) := by decide +kernel
theorem dX12_then_106 : decode cX12_then 106 = .ok (.bipush 6, 2) := by decide +kernel
theorem dX12_then_108 : decode cX12_then 108 = .ok (.iaload, 1) := by decide +kernel
theorem dX12_then_109 : decode cX12_then 109 = .ok (.iconst 1, 1) := by decide +kernel
theorem dX12_then_110 : decode cX12_then 110 = .ok (.isub, 1) := by decide +kernel
theorem dX12_then_111 : decode cX12_then 111 = .ok (.istore 4, 2) := by decide +kernel
theorem dX12_then_113 : decode cX12_then 113 = .ok (.aload_n 0, 1) := by decide +kernel
theorem dX12_then_114 : decode cX12_then 114 = .ok (.invokevirtual 247, 3) := by decide +kernel
theorem dX12_then_117 : decode cX12_then 117 = .ok (.iload 4, 2) := by decide +kernel
theorem dX12_then_119 : decode cX12_then 119 = .ok (.ireturn, 1) := by decide +kernel
theorem dX12_findPool_0 : decode cX12_findPool 0 = .ok (.aload_n 0, 1) := by decide +kernel
theorem dX12_findPool_1 : decode cX12_findPool 1 = .ok (.iconst 0, 1) := by decide +kernel
theorem dX12_findPool_2 : decode cX12_findPool 2 = .ok (.putfield 250, 3) := by decide +kernel
theorem dX12_findPool_5 : decode cX12_findPool 5 = .ok (.iconst 0, 1) := by decide +kernel
theorem dX12_findPool_6 : decode cX12_findPool 6 = .ok (.istore_n 2, 1) := by decide +kernel
theorem dX12_findPool_7 : decode cX12_findPool 7 = .ok (.iload_n 2, 1) := by decide +kernel
theorem dX12_findPool_8 : decode cX12_findPool 8 = .ok (.aload_n 0, 1) := by decide +kernel
theorem dX12_findPool_9 : decode cX12_findPool 9 = .ok (.getfield 7, 3) := by decide +kernel
theorem dX12_findPool_12 : decode cX12_findPool 12 = .ok (.iconst 1, 1) := by decide +kernel
theorem dX12_findPool_13 : decode cX12_findPool 13 = .ok (.iaload, 1) := by decide +kernel
theorem dX12_findPool_14 : decode cX12_findPool 14 = .ok (.if_icmp .ge 60, 3) := by decide +kernel
theorem dX12_findPool_17 : decode cX12_findPool 17 = .ok (.aload_n 0, 1) := by decide +kernel
theorem dX12_findPool_18 : decode cX12_findPool 18 = .ok (.getfield 250, 3) := by decide +kernel
theorem dX12_findPool_21 : decode cX12_findPool 21 = .ok (.iconst 5, 1) := by decide +kernel
theorem dX12_findPool_22 : decode cX12_findPool 22 = .ok (.if_icmp .ge 52, 3) := by decide +kernel
theorem dX12_findPool_25 : decode cX12_findPool 25 = .ok (.aload_n 0, 1) := by decide +kernel
theorem dX12_findPool_26 : decode cX12_findPool 26 = .ok (.iload_n 2, 1) := by decide +kernel
theorem dX12_findPool_27 : decode cX12_findPool 27 = .ok (.iconst 4, 1) := by decide +kernel
theorem dX12_findPool_28 : decode cX12_findPool 28 = .ok (.invokevirtual 171, 3) := by decide +kernel
theorem dX12_findPool_31 : decode cX12_findPool 31 = .ok (.ifCond .ne 37, 3) := by decide +kernel
theorem dX12_findPool_34 : decode cX12_findPool 34 = .ok (.iload_n 1, 1) := by decide +kernel
theorem dX12_findPool_35 : decode cX12_findPool 35 = .ok (.aload_n 0, 1) := by decide +kernel
theorem dX12_findPool_36 : decode cX12_findPool 36 = .ok (.iload_n 2, 1) := by decide +kernel
theorem dX12_findPool_37 : decode cX12_findPool 37 = .ok (.iconst 0, 1) := by decide +kernel
theorem dX12_findPool_38 : decode cX12_findPool 38 = .ok (.invokevirtual 171, 3) := by decide +kernel
theorem dX12_findPool_41 : decode cX12_findPool 41 = .ok (.ishr, 1) := by decide +kernel
theorem dX12_findPool_42 : decode cX12_findPool 42 = .ok (.iconst 1, 1) := by decide +kernel
theorem dX12_findPool_43 : decode cX12_findPool 43 = .ok (.iand, 1) := by decide +kernel
theorem dX12_findPool_44 : decode cX12_findPool 44 = .ok (.iconst 1, 1) := by decide +kernel
theorem dX12_findPool_45 : decode cX12_findPool 45 = .ok (.if_icmp .ne 23, 3) := by decide +kernel
theorem dX12_findPool_48 : decode cX12_findPool 48 = .ok (.aload_n 0, 1) := by decide +kernel
theorem dX12_findPool_49 : decode cX12_findPool 49 = .ok (.getfield 25, 3) := by decide +kernel
theorem dX12_findPool_52 : decode cX12_findPool 52 = .ok (.aload_n 0, 1) := by decide +kernel
theorem dX12_findPool_53 : decode cX12_findPool 53 = .ok (.getfield 250, 3) := by decide +kernel
theorem dX12_findPool_56 : decode cX12_findPool 56 = .ok (.iload_n 2, 1) := by decide +kernel
theorem dX12_findPool_57 : decode cX12_findPool 57 = .ok (.iastore, 1) := by decide +kernel
theorem dX12_findPool_58 : decode cX12_findPool 58 = .ok (.aload_n 0, 1) := by decide +kernel
theorem dX12_findPool_59 : decode cX12_findPool 59 = .ok (.dup, 1) := by decide +kernel
theorem dX12_findPool_60 : decode cX12_findPool 60 = .ok (.getfield 250, 3) := by decide +kernel
theorem dX12_findPool_63 : decode cX12_findPool 63 = .ok (.iconst 1, 1) := by decide +kernel
theorem dX12_findPool_64 : decode cX12_findPool 64 = .ok (.iadd, 1) := by decide +kernel
theorem dX12_findPool_65 : decode cX12_findPool 65 = .ok (.putfield 250, 3) := by decide +kernel
theorem dX12_findPool_68 : decode cX12_findPool 68 = .ok (.iinc 2 1, 3) := by decide +kernel
theorem dX12_findPool_71 : decode cX12_findPool 71 = .ok (.goto (-64), 3) := by decide +kernel
theorem dX12_findPool_74 : decode cX12_findPool 74 = .ok (.return_, 1) := by decide +kernel
theorem dX12_mayCome_0 : decode cX12_mayCome 0 = .ok (.aload_n 0, 1) := by decide +kernel
theorem dX12_mayCome_1 : decode cX12_mayCome 1 = .ok (.getfield 25, 3) := by decide +kernel
theorem dX12_mayCome_4 : decode cX12_mayCome 4 = .ok (.iload_n 1, 1) := by decide +kernel
theorem dX12_mayCome_5 : decode cX12_mayCome 5 = .ok (.iaload, 1) := by decide +kernel
theorem dX12_mayCome_6 : decode cX12_mayCome 6 = .ok (.istore 5, 2) := by decide +kernel
theorem dX12_mayCome_8 : decode cX12_mayCome 8 = .ok (.iload_n 2, 1) := by decide +kernel
theorem dX12_mayCome_9 : decode cX12_mayCome 9 = .ok (.iload_n 1, 1) := by decide +kernel
theorem dX12_mayCome_10 : decode cX12_mayCome 10 = .ok (.ishr, 1) := by decide +kernel
theorem dX12_mayCome_11 : decode cX12_mayCome 11 = .ok (.iconst 1, 1) := by decide +kernel
theorem dX12_mayCome_12 : decode cX12_mayCome 12 = .ok (.iand, 1) := by decide +kernel
theorem dX12_mayCome_13 : decode cX12_mayCome 13 = .ok (.iconst 1, 1) := by decide +kernel
theorem dX12_mayCome_14 : decode cX12_mayCome 14 = .ok (.if_icmp .eq 17, 3) := by decide +kernel
theorem dX12_mayCome_17 : decode cX12_mayCome 17 = .ok (.iload 4, 2) := by decide +kernel
theorem dX12_mayCome_19 : decode cX12_mayCome 19 = .ok (.aload_n 0, 1) := by decide +kernel
theorem dX12_mayCome_20 : decode cX12_mayCome 20 = .ok (.iload 5, 2) := by decide +kernel
theorem dX12_mayCome_22 : decode cX12_mayCome 22 = .ok (.iconst 1, 1) := by decide +kernel
theorem dX12_mayCome_23 : decode cX12_mayCome 23 = .ok (.invokevirtual 171, 3) := by decide +kernel
theorem dX12_mayCome_26 : decode cX12_mayCome 26 = .ok (.iadd, 1) := by decide +kernel
theorem dX12_mayCome_27 : decode cX12_mayCome 27 = .ok (.iload_n 3, 1) := by decide +kernel
theorem dX12_mayCome_28 : decode cX12_mayCome 28 = .ok (.if_icmp .le 5, 3) := by decide +kernel
theorem dX12_mayCome_31 : decode cX12_mayCome 31 = .ok (.iconst 0, 1) := by decide +kernel
theorem dX12_mayCome_32 : decode cX12_mayCome 32 = .ok (.ireturn, 1) := by decide +kernel
theorem dX12_mayCome_33 : decode cX12_mayCome 33 = .ok (.aload_n 0, 1) := by decide +kernel
theorem dX12_mayCome_34 : decode cX12_mayCome 34 = .ok (.iload 5, 2) := by decide +kernel
theorem dX12_mayCome_36 : decode cX12_mayCome 36 = .ok (.iconst 3, 1) := by decide +kernel
theorem dX12_mayCome_37 : decode cX12_mayCome 37 = .ok (.invokevirtual 171, 3) := by decide +kernel
theorem dX12_mayCome_40 : decode cX12_mayCome 40 = .ok (.istore 6, 2) := by decide +kernel
theorem dX12_mayCome_42 : decode cX12_mayCome 42 = .ok (.iload 6, 2) := by decide +kernel
theorem dX12_mayCome_44 : decode cX12_mayCome 44 = .ok (.ifCond .lt 14, 3) := by decide +kernel
theorem dX12_mayCome_47 : decode cX12_mayCome 47 = .ok (.aload_n 0, 1) := by decide +kernel
theorem dX12_mayCome_48 : decode cX12_mayCome 48 = .ok (.iload 6, 2) := by decide +kernel
theorem dX12_mayCome_50 : decode cX12_mayCome 50 = .ok (.iconst 4, 1) := by decide +kernel
theorem dX12_mayCome_51 : decode cX12_mayCome 51 = .ok (.invokevirtual 171, 3) := by decide +kernel
theorem dX12_mayCome_54 : decode cX12_mayCome 54 = .ok (.iconst 1, 1) := by decide +kernel
theorem dX12_mayCome_55 : decode cX12_mayCome 55 = .ok (.if_icmp .ne 7, 3) := by decide +kernel
theorem dX12_mayCome_58 : decode cX12_mayCome 58 = .ok (.iconst 1, 1) := by decide +kernel
theorem dX12_mayCome_59 : decode cX12_mayCome 59 = .ok (.goto 4, 3) := by decide +kernel
theorem dX12_mayCome_62 : decode cX12_mayCome 62 = .ok (.iconst 0, 1) := by decide +kernel
theorem dX12_mayCome_63 : decode cX12_mayCome 63 = .ok (.istore 7, 2) := by decide +kernel
theorem dX12_mayCome_65 : decode cX12_mayCome 65 = .ok (.iconst 0, 1) := by decide +kernel
theorem dX12_mayCome_66 : decode cX12_mayCome 66 = .ok (.istore 8, 2) := by decide +kernel
theorem dX12_mayCome_68 : decode cX12_mayCome 68 = .ok (.iload 8, 2) := by decide +kernel
theorem dX12_mayCome_70 : decode cX12_mayCome 70 = .ok (.aload_n 0, 1) := by decide +kernel
theorem dX12_mayCome_71 : decode cX12_mayCome 71 = .ok (.getfield 250, 3) := by decide +kernel
theorem dX12_mayCome_74 : decode cX12_mayCome 74 = .ok (.if_icmp .ge 43, 3) := by decide +kernel
theorem dX12_mayCome_77 : decode cX12_mayCome 77 = .ok (.iload 7, 2) := by decide +kernel
theorem dX12_mayCome_79 : decode cX12_mayCome 79 = .ok (.ifCond .ne 25, 3) := by decide +kernel
theorem dX12_mayCome_82 : decode cX12_mayCome 82 = .ok (.aload_n 0, 1) := by decide +kernel
theorem dX12_mayCome_83 : decode cX12_mayCome 83 = .ok (.getfield 25, 3) := by decide +kernel
theorem dX12_mayCome_86 : decode cX12_mayCome 86 = .ok (.iload 8, 2) := by decide +kernel
theorem dX12_mayCome_88 : decode cX12_mayCome 88 = .ok (.iaload, 1) := by decide +kernel
theorem dX12_mayCome_89 : decode cX12_mayCome 89 = .ok (.iload 6, 2) := by decide +kernel
theorem dX12_mayCome_91 : decode cX12_mayCome 91 = .ok (.if_icmp .ne 17, 3) := by decide +kernel
theorem dX12_mayCome_94 : decode cX12_mayCome 94 = .ok (.iload_n 2, 1) := by decide +kernel
theorem dX12_mayCome_95 : decode cX12_mayCome 95 = .ok (.iload 8, 2) := by decide +kernel
theorem dX12_mayCome_97 : decode cX12_mayCome 97 = .ok (.ishr, 1) := by decide +kernel
theorem dX12_mayCome_98 : decode cX12_mayCome 98 = .ok (.iconst 1, 1) := by decide +kernel
theorem dX12_mayCome_99 : decode cX12_mayCome 99 = .ok (.iand, 1) := by decide +kernel
theorem dX12_mayCome_100 : decode cX12_mayCome 100 = .ok (.iconst 1, 1) := by decide +kernel
theorem dX12_mayCome_101 : decode cX12_mayCome 101 = .ok (.if_icmp .ne 7, 3) := by decide +kernel
theorem dX12_mayCome_104 : decode cX12_mayCome 104 = .ok (.iconst 1, 1) := by decide +kernel
theorem dX12_mayCome_105 : decode cX12_mayCome 105 = .ok (.goto 4, 3) := by decide +kernel
theorem dX12_mayCome_108 : decode cX12_mayCome 108 = .ok (.iconst 0, 1) := by decide +kernel
theorem dX12_mayCome_109 : decode cX12_mayCome 109 = .ok (.istore 7, 2) := by decide +kernel
theorem dX12_mayCome_111 : decode cX12_mayCome 111 = .ok (.iinc 8 1, 3) := by decide +kernel
theorem dX12_mayCome_114 : decode cX12_mayCome 114 = .ok (.goto (-46), 3) := by decide +kernel
theorem dX12_mayCome_117 : decode cX12_mayCome 117 = .ok (.iload 7, 2) := by decide +kernel
theorem dX12_mayCome_119 : decode cX12_mayCome 119 = .ok (.ireturn, 1) := by decide +kernel
theorem dX12_findBest_0 : decode cX12_findBest 0 = .ok (.aload_n 0, 1) := by decide +kernel
theorem dX12_findBest_1 : decode cX12_findBest 1 = .ok (.iload_n 1, 1) := by decide +kernel
theorem dX12_findBest_2 : decode cX12_findBest 2 = .ok (.invokevirtual 253, 3) := by decide +kernel
theorem dX12_findBest_5 : decode cX12_findBest 5 = .ok (.iconst (-1), 1) := by decide +kernel
theorem dX12_findBest_6 : decode cX12_findBest 6 = .ok (.istore_n 2, 1) := by decide +kernel
theorem dX12_findBest_7 : decode cX12_findBest 7 = .ok (.iconst 0, 1) := by decide +kernel
theorem dX12_findBest_8 : decode cX12_findBest 8 = .ok (.istore_n 3, 1) := by decide +kernel
theorem dX12_findBest_9 : decode cX12_findBest 9 = .ok (.aload_n 0, 1) := by decide +kernel
theorem dX12_findBest_10 : decode cX12_findBest 10 = .ok (.getfield 7, 3) := by decide +kernel
theorem dX12_findBest_13 : decode cX12_findBest 13 = .ok (.iconst 0, 1) := by decide +kernel
theorem dX12_findBest_14 : decode cX12_findBest 14 = .ok (.iaload, 1) := by decide +kernel
theorem dX12_findBest_15 : decode cX12_findBest 15 = .ok (.iconst 1, 1) := by decide +kernel
theorem dX12_findBest_16 : decode cX12_findBest 16 = .ok (.isub, 1) := by decide +kernel
theorem dX12_findBest_17 : decode cX12_findBest 17 = .ok (.istore 4, 2) := by decide +kernel
theorem dX12_findBest_19 : decode cX12_findBest 19 = .ok (.iload 4, 2) := by decide +kernel
theorem dX12_findBest_21 : decode cX12_findBest 21 = .ok (.ifCond .lt 32, 3) := by decide +kernel
theorem dX12_findBest_24 : decode cX12_findBest 24 = .ok (.iload_n 1, 1) := by decide +kernel
theorem dX12_findBest_25 : decode cX12_findBest 25 = .ok (.iload 4, 2) := by decide +kernel
theorem dX12_findBest_27 : decode cX12_findBest 27 = .ok (.ishr, 1) := by decide +kernel
theorem dX12_findBest_28 : decode cX12_findBest 28 = .ok (.iconst 1, 1) := by decide +kernel
theorem dX12_findBest_29 : decode cX12_findBest 29 = .ok (.iand, 1) := by decide +kernel
theorem dX12_findBest_30 : decode cX12_findBest 30 = .ok (.iconst 1, 1) := by decide +kernel
theorem dX12_findBest_31 : decode cX12_findBest 31 = .ok (.if_icmp .ne 16, 3) := by decide +kernel
theorem dX12_findBest_34 : decode cX12_findBest 34 = .ok (.iload 4, 2) := by decide +kernel
theorem dX12_findBest_36 : decode cX12_findBest 36 = .ok (.istore_n 2, 1) := by decide +kernel
theorem dX12_findBest_37 : decode cX12_findBest 37 = .ok (.iload_n 3, 1) := by decide +kernel
theorem dX12_findBest_38 : decode cX12_findBest 38 = .ok (.aload_n 0, 1) := by decide +kernel
theorem dX12_findBest_39 : decode cX12_findBest 39 = .ok (.iload 4, 2) := by decide +kernel
theorem dX12_findBest_41 : decode cX12_findBest 41 = .ok (.iconst 3, 1) := by decide +kernel
theorem dX12_findBest_42 : decode cX12_findBest 42 = .ok (.invokevirtual 161, 3) := by decide +kernel
theorem dX12_findBest_45 : decode cX12_findBest 45 = .ok (.iadd, 1) := by decide +kernel
theorem dX12_findBest_46 : decode cX12_findBest 46 = .ok (.istore_n 3, 1) := by decide +kernel
theorem dX12_findBest_47 : decode cX12_findBest 47 = .ok (.iinc 4 (-1), 3) := by decide +kernel
theorem dX12_findBest_50 : decode cX12_findBest 50 = .ok (.goto (-31), 3) := by decide +kernel
theorem dX12_findBest_53 : decode cX12_findBest 53 = .ok (.aload_n 0, 1) := by decide +kernel
theorem dX12_findBest_54 : decode cX12_findBest 54 = .ok (.iconst 0, 1) := by decide +kernel
theorem dX12_findBest_55 : decode cX12_findBest 55 = .ok (.putfield 256, 3) := by decide +kernel
theorem dX12_findBest_58 : decode cX12_findBest 58 = .ok (.aload_n 0, 1) := by decide +kernel
theorem dX12_findBest_59 : decode cX12_findBest 59 = .ok (.iconst 0, 1) := by decide +kernel
theorem dX12_findBest_60 : decode cX12_findBest 60 = .ok (.putfield 259, 3) := by decide +kernel
theorem dX12_findBest_63 : decode cX12_findBest 63 = .ok (.aload_n 0, 1) := by decide +kernel
theorem dX12_findBest_64 : decode cX12_findBest 64 = .ok (.iconst 0, 1) := by decide +kernel
theorem dX12_findBest_65 : decode cX12_findBest 65 = .ok (.putfield 262, 3) := by decide +kernel
theorem dX12_findBest_68 : decode cX12_findBest 68 = .ok (.iload_n 2, 1) := by decide +kernel
theorem dX12_findBest_69 : decode cX12_findBest 69 = .ok (.ifCond .ge 4, 3) := by decide +kernel
theorem dX12_findBest_72 : decode cX12_findBest 72 = .ok (.return_, 1) := by decide +kernel
theorem dX12_findBest_73 : decode cX12_findBest 73 = .ok (.iload_n 3, 1) := by decide +kernel
theorem dX12_findBest_74 : decode cX12_findBest 74 = .ok (.aload_n 0, 1) := by decide +kernel
theorem dX12_findBest_75 : decode cX12_findBest 75 = .ok (.iload_n 2, 1) := by decide +kernel
theorem dX12_findBest_76 : decode cX12_findBest 76 = .ok (.invokevirtual 179, 3) := by decide +kernel
theorem dX12_findBest_79 : decode cX12_findBest 79 = .ok (.idiv, 1) := by decide +kernel
theorem dX12_findBest_80 : decode cX12_findBest 80 = .ok (.istore 4, 2) := by decide +kernel
theorem dX12_findBest_82 : decode cX12_findBest 82 = .ok (.iconst 0, 1) := by decide +kernel
theorem dX12_findBest_83 : decode cX12_findBest 83 = .ok (.istore 5, 2) := by decide +kernel
theorem dX12_findBest_85 : decode cX12_findBest 85 = .ok (.iconst 0, 1) := by decide +kernel
theorem dX12_findBest_86 : decode cX12_findBest 86 = .ok (.istore 6, 2) := by decide +kernel
theorem dX12_findBest_88 : decode cX12_findBest 88 = .ok (.aload_n 0, 1) := by decide +kernel
theorem dX12_findBest_89 : decode cX12_findBest 89 = .ok (.getfield 28, 3) := by decide +kernel
theorem dX12_findBest_92 : decode cX12_findBest 92 = .ok (.iconst 0, 1) := by decide +kernel
theorem dX12_findBest_93 : decode cX12_findBest 93 = .ok (.iconst (-1), 1) := by decide +kernel
theorem dX12_findBest_94 : decode cX12_findBest 94 = .ok (.iastore, 1) := by decide +kernel
theorem dX12_findBest_95 : decode cX12_findBest 95 = .ok (.aload_n 0, 1) := by decide +kernel
theorem dX12_findBest_96 : decode cX12_findBest 96 = .ok (.getfield 31, 3) := by decide +kernel
theorem dX12_findBest_99 : decode cX12_findBest 99 = .ok (.iconst 0, 1) := by decide +kernel
theorem dX12_findBest_100 : decode cX12_findBest 100 = .ok (.iconst 0, 1) := by decide +kernel
theorem dX12_findBest_101 : decode cX12_findBest 101 = .ok (.iastore, 1) := by decide +kernel
theorem dX12_findBest_102 : decode cX12_findBest 102 = .ok (.aload_n 0, 1) := by decide +kernel
theorem dX12_findBest_103 : decode cX12_findBest 103 = .ok (.getfield 34, 3) := by decide +kernel
theorem dX12_findBest_106 : decode cX12_findBest 106 = .ok (.iconst 0, 1) := by decide +kernel
theorem dX12_findBest_107 : decode cX12_findBest 107 = .ok (.iconst 0, 1) := by decide +kernel
theorem dX12_findBest_108 : decode cX12_findBest 108 = .ok (.iastore, 1) := by decide +kernel
theorem dX12_findBest_109 : decode cX12_findBest 109 = .ok (.iload 6, 2) := by decide +kernel
theorem dX12_findBest_111 : decode cX12_findBest 111 = .ok (.ifCond .lt 297, 3) := by decide +kernel
theorem dX12_findBest_114 : decode cX12_findBest 114 = .ok (.aload_n 0, 1) := by decide +kernel
theorem dX12_findBest_115 : decode cX12_findBest 115 = .ok (.getfield 28, 3) := by decide +kernel
theorem dX12_findBest_118 : decode cX12_findBest 118 = .ok (.iload 6, 2) := by decide +kernel
theorem dX12_findBest_120 : decode cX12_findBest 120 = .ok (.iaload, 1) := by decide +kernel
theorem dX12_findBest_121 : decode cX12_findBest 121 = .ok (.iconst 1, 1) := by decide +kernel
theorem dX12_findBest_122 : decode cX12_findBest 122 = .ok (.iadd, 1) := by decide +kernel
theorem dX12_findBest_123 : decode cX12_findBest 123 = .ok (.istore 7, 2) := by decide +kernel
theorem dX12_findBest_125 : decode cX12_findBest 125 = .ok (.iload 7, 2) := by decide +kernel
theorem dX12_findBest_127 : decode cX12_findBest 127 = .ok (.aload_n 0, 1) := by decide +kernel
theorem dX12_findBest_128 : decode cX12_findBest 128 = .ok (.getfield 250, 3) := by decide +kernel
theorem dX12_findBest_131 : decode cX12_findBest 131 = .ok (.if_icmp .ge 29, 3) := by decide +kernel
theorem dX12_findBest_134 : decode cX12_findBest 134 = .ok (.aload_n 0, 1) := by decide +kernel
theorem dX12_findBest_135 : decode cX12_findBest 135 = .ok (.iload 7, 2) := by decide +kernel
theorem dX12_findBest_137 : decode cX12_findBest 137 = .ok (.iload 5, 2) := by decide +kernel
theorem dX12_findBest_139 : decode cX12_findBest 139 = .ok (.iload 4, 2) := by decide +kernel
theorem dX12_findBest_141 : decode cX12_findBest 141 = .ok (.aload_n 0, 1) := by decide +kernel
theorem dX12_findBest_142 : decode cX12_findBest 142 = .ok (.getfield 31, 3) := by decide +kernel
theorem dX12_findBest_145 : decode cX12_findBest 145 = .ok (.iload 6, 2) := by decide +kernel
theorem dX12_findBest_147 : decode cX12_findBest 147 = .ok (.iaload, 1) := by decide +kernel
theorem dX12_findBest_148 : decode cX12_findBest 148 = .ok (.invokevirtual 265, 3) := by decide +kernel
theorem dX12_findBest_151 : decode cX12_findBest 151 = .ok (.ifCond .ne 9, 3) := by decide +kernel
theorem dX12_findBest_154 : decode cX12_findBest 154 = .ok (.iinc 7 1, 3) := by decide +kernel
theorem dX12_findBest_157 : decode cX12_findBest 157 = .ok (.goto (-32), 3) := by decide +kernel
theorem dX12_findBest_160 : decode cX12_findBest 160 = .ok (.aload_n 0, 1) := by decide +kernel
theorem dX12_findBest_161 : decode cX12_findBest 161 = .ok (.getfield 28, 3) := by decide +kernel
theorem dX12_findBest_164 : decode cX12_findBest 164 = .ok (.iload 6, 2) := by decide +kernel
theorem dX12_findBest_166 : decode cX12_findBest 166 = .ok (.iload 7, 2) := by decide +kernel
theorem dX12_findBest_168 : decode cX12_findBest 168 = .ok (.iastore, 1) := by decide +kernel
theorem dX12_findBest_169 : decode cX12_findBest 169 = .ok (.iload 7, 2) := by decide +kernel
theorem dX12_findBest_171 : decode cX12_findBest 171 = .ok (.aload_n 0, 1) := by decide +kernel
theorem dX12_findBest_172 : decode cX12_findBest 172 = .ok (.getfield 250, 3) := by decide +kernel
theorem dX12_findBest_175 : decode cX12_findBest 175 = .ok (.if_icmp .lt 34, 3) := by decide +kernel
theorem dX12_findBest_178 : decode cX12_findBest 178 = .ok (.iinc 6 (-1), 3) := by decide +kernel
theorem dX12_findBest_181 : decode cX12_findBest 181 = .ok (.iload 6, 2) := by decide +kernel
theorem dX12_findBest_183 : decode cX12_findBest 183 = .ok (.ifCond .ge 7, 3) := by decide +kernel
theorem dX12_findBest_186 : decode cX12_findBest 186 = .ok (.iconst 0, 1) := by decide +kernel
theorem dX12_findBest_187 : decode cX12_findBest 187 = .ok (.goto 17, 3) := by decide +kernel
theorem dX12_findBest_190 : decode cX12_findBest 190 = .ok (.iload 5, 2) := by decide +kernel
theorem dX12_findBest_192 : decode cX12_findBest 192 = .ok (.iconst 1, 1) := by decide +kernel
theorem dX12_findBest_193 : decode cX12_findBest 193 = .ok (.aload_n 0, 1) := by decide +kernel
theorem dX12_findBest_194 : decode cX12_findBest 194 = .ok (.getfield 28, 3) := by decide +kernel
theorem dX12_findBest_197 : decode cX12_findBest 197 = .ok (.iload 6, 2) := by decide +kernel
theorem dX12_findBest_199 : decode cX12_findBest 199 = .ok (.iaload, 1) := by decide +kernel
theorem dX12_findBest_200 : decode cX12_findBest 200 = .ok (.ishl, 1) := by decide +kernel
theorem dX12_findBest_201 : decode cX12_findBest 201 = .ok (.iconst (-1), 1) := by decide +kernel
theorem dX12_findBest_202 : decode cX12_findBest 202 = .ok (.ixor, 1) := by decide +kernel
theorem dX12_findBest_203 : decode cX12_findBest 203 = .ok (.iand, 1) := by decide +kernel
theorem dX12_findBest_204 : decode cX12_findBest 204 = .ok (.istore 5, 2) := by decide +kernel
theorem dX12_findBest_206 : decode cX12_findBest 206 = .ok (.goto (-97), 3) := by decide +kernel
theorem dX12_findBest_209 : decode cX12_findBest 209 = .ok (.iload 5, 2) := by decide +kernel
theorem dX12_findBest_211 : decode cX12_findBest 211 = .ok (.iconst 1, 1) := by decide +kernel
theorem dX12_findBest_212 : decode cX12_findBest 212 = .ok (.iload 7, 2) := by decide +kernel
theorem dX12_findBest_214 : decode cX12_findBest 214 = .ok (.ishl, 1) := by decide +kernel
theorem dX12_findBest_215 : decode cX12_findBest 215 = .ok (.ior, 1) := by decide +kernel
theorem dX12_findBest_216 : decode cX12_findBest 216 = .ok (.istore 5, 2) := by decide +kernel
theorem dX12_findBest_218 : decode cX12_findBest 218 = .ok (.aload_n 0, 1) := by decide +kernel
theorem dX12_findBest_219 : decode cX12_findBest 219 = .ok (.getfield 31, 3) := by decide +kernel
theorem dX12_findBest_222 : decode cX12_findBest 222 = .ok (.iload 6, 2) := by decide +kernel
theorem dX12_findBest_224 : decode cX12_findBest 224 = .ok (.iconst 1, 1) := by decide +kernel
theorem dX12_findBest_225 : decode cX12_findBest 225 = .ok (.iadd, 1) := by decide +kernel
theorem dX12_findBest_226 : decode cX12_findBest 226 = .ok (.aload_n 0, 1) := by decide +kernel
theorem dX12_findBest_227 : decode cX12_findBest 227 = .ok (.getfield 31, 3) := by decide +kernel
theorem dX12_findBest_230 : decode cX12_findBest 230 = .ok (.iload 6, 2) := by decide +kernel
theorem dX12_findBest_232 : decode cX12_findBest 232 = .ok (.iaload, 1) := by decide +kernel
theorem dX12_findBest_233 : decode cX12_findBest 233 = .ok (.aload_n 0, 1) := by decide +kernel
theorem dX12_findBest_234 : decode cX12_findBest 234 = .ok (.aload_n 0, 1) := by decide +kernel
theorem dX12_findBest_235 : decode cX12_findBest 235 = .ok (.getfield 25, 3) := by decide +kernel
theorem dX12_findBest_238 : decode cX12_findBest 238 = .ok (.iload 7, 2) := by decide +kernel
theorem dX12_findBest_240 : decode cX12_findBest 240 = .ok (.iaload, 1) := by decide +kernel
theorem dX12_findBest_241 : decode cX12_findBest 241 = .ok (.iconst 1, 1) := by decide +kernel
theorem dX12_findBest_242 : decode cX12_findBest 242 = .ok (.invokevirtual 171, 3) := by decide +kernel
theorem dX12_findBest_245 : decode cX12_findBest 245 = .ok (.iadd, 1) := by decide +kernel
theorem dX12_findBest_246 : decode cX12_findBest 246 = .ok (.iastore, 1) := by decide +kernel
theorem dX12_findBest_247 : decode cX12_findBest 247 = .ok (.aload_n 0, 1) := by decide +kernel
theorem dX12_findBest_248 : decode cX12_findBest 248 = .ok (.getfield 34, 3) := by decide +kernel
theorem dX12_findBest_251 : decode cX12_findBest 251 = .ok (.iload 6, 2) := by decide +kernel
theorem dX12_findBest_253 : decode cX12_findBest 253 = .ok (.iconst 1, 1) := by decide +kernel
theorem dX12_findBest_254 : decode cX12_findBest 254 = .ok (.iadd, 1) := by decide +kernel
theorem dX12_findBest_255 : decode cX12_findBest 255 = .ok (.aload_n 0, 1) := by decide +kernel
theorem dX12_findBest_256 : decode cX12_findBest 256 = .ok (.getfield 34, 3) := by decide +kernel
theorem dX12_findBest_259 : decode cX12_findBest 259 = .ok (.iload 6, 2) := by decide +kernel
theorem dX12_findBest_261 : decode cX12_findBest 261 = .ok (.iaload, 1) := by decide +kernel
theorem dX12_findBest_262 : decode cX12_findBest 262 = .ok (.aload_n 0, 1) := by decide +kernel
theorem dX12_findBest_263 : decode cX12_findBest 263 = .ok (.aload_n 0, 1) := by decide +kernel
theorem dX12_findBest_264 : decode cX12_findBest 264 = .ok (.getfield 25, 3) := by decide +kernel
theorem dX12_findBest_267 : decode cX12_findBest 267 = .ok (.iload 7, 2) := by decide +kernel
theorem dX12_findBest_269 : decode cX12_findBest 269 = .ok (.iaload, 1) := by decide +kernel
theorem dX12_findBest_270 : decode cX12_findBest 270 = .ok (.aload_n 0, 1) := by decide +kernel
theorem dX12_findBest_271 : decode cX12_findBest 271 = .ok (.iload_n 2, 1) := by decide +kernel
theorem dX12_findBest_272 : decode cX12_findBest 272 = .ok (.iconst 4, 1) := by decide +kernel
theorem dX12_findBest_273 : decode cX12_findBest 273 = .ok (.invokevirtual 161, 3) := by decide +kernel
theorem dX12_findBest_276 : decode cX12_findBest 276 = .ok (.aload_n 0, 1) := by decide +kernel
theorem dX12_findBest_277 : decode cX12_findBest 277 = .ok (.getfield 34, 3) := by decide +kernel
theorem dX12_findBest_280 : decode cX12_findBest 280 = .ok (.iload 6, 2) := by decide +kernel
theorem dX12_findBest_282 : decode cX12_findBest 282 = .ok (.iaload, 1) := by decide +kernel
theorem dX12_findBest_283 : decode cX12_findBest 283 = .ok (.iadd, 1) := by decide +kernel
theorem dX12_findBest_284 : decode cX12_findBest 284 = .ok (.invokevirtual 229, 3) := by decide +kernel
theorem dX12_findBest_287 : decode cX12_findBest 287 = .ok (.iadd, 1) := by decide +kernel
theorem dX12_findBest_288 : decode cX12_findBest 288 = .ok (.iastore, 1) := by decide +kernel
theorem dX12_findBest_289 : decode cX12_findBest 289 = .ok (.iinc 6 1, 3) := by decide +kernel
theorem dX12_findBest_292 : decode cX12_findBest 292 = .ok (.aload_n 0, 1) := by decide +kernel
theorem dX12_findBest_293 : decode cX12_findBest 293 = .ok (.getfield 28, 3) := by decide +kernel
theorem dX12_findBest_296 : decode cX12_findBest 296 = .ok (.iload 6, 2) := by decide +kernel
theorem dX12_findBest_298 : decode cX12_findBest 298 = .ok (.iconst (-1), 1) := by decide +kernel
theorem dX12_findBest_299 : decode cX12_findBest 299 = .ok (.iastore, 1) := by decide +kernel
theorem dX12_findBest_300 : decode cX12_findBest 300 = .ok (.aload_n 0, 1) := by decide +kernel
theorem dX12_findBest_301 : decode cX12_findBest 301 = .ok (.getfield 34, 3) := by decide +kernel
theorem dX12_findBest_304 : decode cX12_findBest 304 = .ok (.iload 6, 2) := by decide +kernel
theorem dX12_findBest_306 : decode cX12_findBest 306 = .ok (.iaload, 1) := by decide +kernel
theorem dX12_findBest_307 : decode cX12_findBest 307 = .ok (.aload_n 0, 1) := by decide +kernel
theorem dX12_findBest_308 : decode cX12_findBest 308 = .ok (.getfield 256, 3) := by decide +kernel
theorem dX12_findBest_311 : decode cX12_findBest 311 = .ok (.if_icmp .gt 31, 3) := by decide +kernel
theorem dX12_findBest_314 : decode cX12_findBest 314 = .ok (.aload_n 0, 1) := by decide +kernel
theorem dX12_findBest_315 : decode cX12_findBest 315 = .ok (.getfield 34, 3) := by decide +kernel
theorem dX12_findBest_318 : decode cX12_findBest 318 = .ok (.iload 6, 2) := by decide +kernel
theorem dX12_findBest_320 : decode cX12_findBest 320 = .ok (.iaload, 1) := by decide +kernel
theorem dX12_findBest_321 : decode cX12_findBest 321 = .ok (.aload_n 0, 1) := by decide +kernel
theorem dX12_findBest_322 : decode cX12_findBest 322 = .ok (.getfield 256, 3) := by decide +kernel
theorem dX12_findBest_325 : decode cX12_findBest 325 = .ok (.if_icmp .ne 80, 3) := by decide +kernel
theorem dX12_findBest_328 : decode cX12_findBest 328 = .ok (.aload_n 0, 1) := by decide +kernel
theorem dX12_findBest_329 : decode cX12_findBest 329 = .ok (.getfield 31, 3) := by decide +kernel
theorem dX12_findBest_332 : decode cX12_findBest 332 = .ok (.iload 6, 2) := by decide +kernel
theorem dX12_findBest_334 : decode cX12_findBest 334 = .ok (.iaload, 1) := by decide +kernel
theorem dX12_findBest_335 : decode cX12_findBest 335 = .ok (.aload_n 0, 1) := by decide +kernel
theorem dX12_findBest_336 : decode cX12_findBest 336 = .ok (.getfield 259, 3) := by decide +kernel
theorem dX12_findBest_339 : decode cX12_findBest 339 = .ok (.if_icmp .ge 66, 3) := by decide +kernel
theorem dX12_findBest_342 : decode cX12_findBest 342 = .ok (.aload_n 0, 1) := by decide +kernel
theorem dX12_findBest_343 : decode cX12_findBest 343 = .ok (.aload_n 0, 1) := by decide +kernel
theorem dX12_findBest_344 : decode cX12_findBest 344 = .ok (.getfield 34, 3) := by decide +kernel
theorem dX12_findBest_347 : decode cX12_findBest 347 = .ok (.iload 6, 2) := by decide +kernel
theorem dX12_findBest_349 : decode cX12_findBest 349 = .ok (.iaload, 1) := by decide +kernel
theorem dX12_findBest_350 : decode cX12_findBest 350 = .ok (.putfield 256, 3) := by decide +kernel
theorem dX12_findBest_353 : decode cX12_findBest 353 = .ok (.aload_n 0, 1) := by decide +kernel
theorem dX12_findBest_354 : decode cX12_findBest 354 = .ok (.aload_n 0, 1) := by decide +kernel
theorem dX12_findBest_355 : decode cX12_findBest 355 = .ok (.getfield 31, 3) := by decide +kernel
theorem dX12_findBest_358 : decode cX12_findBest 358 = .ok (.iload 6, 2) := by decide +kernel
theorem dX12_findBest_360 : decode cX12_findBest 360 = .ok (.iaload, 1) := by decide +kernel
theorem dX12_findBest_361 : decode cX12_findBest 361 = .ok (.putfield 259, 3) := by decide +kernel
theorem dX12_findBest_364 : decode cX12_findBest 364 = .ok (.aload_n 0, 1) := by decide +kernel
theorem dX12_findBest_365 : decode cX12_findBest 365 = .ok (.iload 6, 2) := by decide +kernel
theorem dX12_findBest_367 : decode cX12_findBest 367 = .ok (.putfield 262, 3) := by decide +kernel
theorem dX12_findBest_370 : decode cX12_findBest 370 = .ok (.iconst 0, 1) := by decide +kernel
theorem dX12_findBest_371 : decode cX12_findBest 371 = .ok (.istore 8, 2) := by decide +kernel
theorem dX12_findBest_373 : decode cX12_findBest 373 = .ok (.iload 8, 2) := by decide +kernel
theorem dX12_findBest_375 : decode cX12_findBest 375 = .ok (.iload 6, 2) := by decide +kernel
theorem dX12_findBest_377 : decode cX12_findBest 377 = .ok (.if_icmp .ge 28, 3) := by decide +kernel
theorem dX12_findBest_380 : decode cX12_findBest 380 = .ok (.aload_n 0, 1) := by decide +kernel
theorem dX12_findBest_381 : decode cX12_findBest 381 = .ok (.getfield 37, 3) := by decide +kernel
theorem dX12_findBest_384 : decode cX12_findBest 384 = .ok (.iload 8, 2) := by decide +kernel
theorem dX12_findBest_386 : decode cX12_findBest 386 = .ok (.aload_n 0, 1) := by decide +kernel
theorem dX12_findBest_387 : decode cX12_findBest 387 = .ok (.getfield 25, 3) := by decide +kernel
theorem dX12_findBest_390 : decode cX12_findBest 390 = .ok (.aload_n 0, 1) := by decide +kernel
theorem dX12_findBest_391 : decode cX12_findBest 391 = .ok (.getfield 28, 3) := by decide +kernel
theorem dX12_findBest_394 : decode cX12_findBest 394 = .ok (.iload 8, 2) := by decide +kernel
theorem dX12_findBest_396 : decode cX12_findBest 396 = .ok (.iaload, 1) := by decide +kernel
theorem dX12_findBest_397 : decode cX12_findBest 397 = .ok (.iaload, 1) := by decide +kernel
theorem dX12_findBest_398 : decode cX12_findBest 398 = .ok (.iastore, 1) := by decide +kernel
theorem dX12_findBest_399 : decode cX12_findBest 399 = .ok (.iinc 8 1, 3) := by decide +kernel
theorem dX12_findBest_402 : decode cX12_findBest 402 = .ok (.goto (-29), 3) := by decide +kernel
theorem dX12_findBest_405 : decode cX12_findBest 405 = .ok (.goto (-296), 3) := by decide +kernel
theorem dX12_findBest_408 : decode cX12_findBest 408 = .ok (.return_, 1) := by decide +kernel
theorem dX12_best_0 : decode cX12_best 0 = .ok (.iload_n 1, 1) := by decide +kernel
theorem dX12_best_1 : decode cX12_best 1 = .ok (.i2l, 1) := by decide +kernel
theorem dX12_best_2 : decode cX12_best 2 = .ok (.lconst 1, 1) := by decide +kernel
theorem dX12_best_3 : decode cX12_best 3 = .ok (.iconst 1, 1) := by decide +kernel
theorem dX12_best_4 : decode cX12_best 4 = .ok (.aload_n 0, 1) := by decide +kernel
theorem dX12_best_5 : decode cX12_best 5 = .ok (.getfield 7, 3) := by decide +kernel
theorem dX12_best_8 : decode cX12_best 8 = .ok (.iconst 0, 1) := by decide +kernel
theorem dX12_best_9 : decode cX12_best 9 = .ok (.iaload, 1) := by decide +kernel
theorem dX12_best_10 : decode cX12_best 10 = .ok (.ishl, 1) := by decide +kernel
theorem dX12_best_11 : decode cX12_best 11 = .ok (.iconst 1, 1) := by decide +kernel
theorem dX12_best_12 : decode cX12_best 12 = .ok (.isub, 1) := by decide +kernel
theorem dX12_best_13 : decode cX12_best 13 = .ok (.i2l, 1) := by decide +kernel
theorem dX12_best_14 : decode cX12_best 14 = .ok (.invokestatic 80, 3) := by decide +kernel
theorem dX12_best_17 : decode cX12_best 17 = .ok (.ifCond .eq 17, 3) := by decide +kernel
theorem dX12_best_20 : decode cX12_best 20 = .ok (.iload_n 2, 1) := by decide +kernel
theorem dX12_best_21 : decode cX12_best 21 = .ok (.i2l, 1) := by decide +kernel
theorem dX12_best_22 : decode cX12_best 22 = .ok (.ldc2_w 269, 3) := by decide +kernel
theorem dX12_best_25 : decode cX12_best 25 = .ok (.ldc2_w 205, 3) := by decide +kernel
theorem dX12_best_28 : decode cX12_best 28 = .ok (.invokestatic 80, 3) := by decide +kernel
theorem dX12_best_31 : decode cX12_best 31 = .ok (.ifCond .ne 9, 3) := by decide +kernel
theorem dX12_best_34 : decode cX12_best 34 = .ok (.aload_n 0, 1) := by decide +kernel
theorem dX12_best_35 : decode cX12_best 35 = .ok (.iconst 1, 1) := by decide +kernel
theorem dX12_best_36 : decode cX12_best 36 = .ok (.invokevirtual 143, 3) := by decide +kernel
theorem dX12_best_39 : decode cX12_best 39 = .ok (.ireturn, 1) := by decide +kernel
theorem dX12_best_40 : decode cX12_best 40 = .ok (.aload_n 0, 1) := by decide +kernel
theorem dX12_best_41 : decode cX12_best 41 = .ok (.iload_n 1, 1) := by decide +kernel
theorem dX12_best_42 : decode cX12_best 42 = .ok (.invokevirtual 271, 3) := by decide +kernel
theorem dX12_best_45 : decode cX12_best 45 = .ok (.iload_n 2, 1) := by decide +kernel
theorem dX12_best_46 : decode cX12_best 46 = .ok (.bipush (-2), 2) := by decide +kernel
theorem dX12_best_48 : decode cX12_best 48 = .ok (.if_icmp .ne 10, 3) := by decide +kernel
theorem dX12_best_51 : decode cX12_best 51 = .ok (.aload_n 0, 1) := by decide +kernel
theorem dX12_best_52 : decode cX12_best 52 = .ok (.getfield 256, 3) := by decide +kernel
theorem dX12_best_55 : decode cX12_best 55 = .ok (.goto 37, 3) := by decide +kernel
theorem dX12_best_58 : decode cX12_best 58 = .ok (.iload_n 2, 1) := by decide +kernel
theorem dX12_best_59 : decode cX12_best 59 = .ok (.iconst (-1), 1) := by decide +kernel
theorem dX12_best_60 : decode cX12_best 60 = .ok (.if_icmp .ne 10, 3) := by decide +kernel
theorem dX12_best_63 : decode cX12_best 63 = .ok (.aload_n 0, 1) := by decide +kernel
theorem dX12_best_64 : decode cX12_best 64 = .ok (.getfield 262, 3) := by decide +kernel
theorem dX12_best_67 : decode cX12_best 67 = .ok (.goto 25, 3) := by decide +kernel
theorem dX12_best_70 : decode cX12_best 70 = .ok (.iload_n 2, 1) := by decide +kernel
theorem dX12_best_71 : decode cX12_best 71 = .ok (.aload_n 0, 1) := by decide +kernel
theorem dX12_best_72 : decode cX12_best 72 = .ok (.getfield 262, 3) := by decide +kernel
theorem dX12_best_75 : decode cX12_best 75 = .ok (.if_icmp .ge 12, 3) := by decide +kernel
theorem dX12_best_78 : decode cX12_best 78 = .ok (.aload_n 0, 1) := by decide +kernel
theorem dX12_best_79 : decode cX12_best 79 = .ok (.getfield 37, 3) := by decide +kernel
theorem dX12_best_82 : decode cX12_best 82 = .ok (.iload_n 2, 1) := by decide +kernel
theorem dX12_best_83 : decode cX12_best 83 = .ok (.iaload, 1) := by decide +kernel
theorem dX12_best_84 : decode cX12_best 84 = .ok (.goto 8, 3) := by decide +kernel
theorem dX12_best_87 : decode cX12_best 87 = .ok (.aload_n 0, 1) := by decide +kernel
theorem dX12_best_88 : decode cX12_best 88 = .ok (.iconst 2, 1) := by decide +kernel
theorem dX12_best_89 : decode cX12_best 89 = .ok (.invokevirtual 143, 3) := by decide +kernel
theorem dX12_best_92 : decode cX12_best 92 = .ok (.ireturn, 1) := by decide +kernel
theorem dX12_ones_0 : decode cX12_ones 0 = .ok (.iconst 0, 1) := by decide +kernel
theorem dX12_ones_1 : decode cX12_ones 1 = .ok (.istore_n 1, 1) := by decide +kernel
theorem dX12_ones_2 : decode cX12_ones 2 = .ok (.iconst 0, 1) := by decide +kernel
theorem dX12_ones_3 : decode cX12_ones 3 = .ok (.istore_n 2, 1) := by decide +kernel
theorem dX12_ones_4 : decode cX12_ones 4 = .ok (.iload_n 2, 1) := by decide +kernel
theorem dX12_ones_5 : decode cX12_ones 5 = .ok (.iconst 4, 1) := by decide +kernel
theorem dX12_ones_6 : decode cX12_ones 6 = .ok (.if_icmp .ge 17, 3) := by decide +kernel
theorem dX12_ones_9 : decode cX12_ones 9 = .ok (.iload_n 1, 1) := by decide +kernel
theorem dX12_ones_10 : decode cX12_ones 10 = .ok (.iload_n 0, 1) := by decide +kernel
theorem dX12_ones_11 : decode cX12_ones 11 = .ok (.iload_n 2, 1) := by decide +kernel
theorem dX12_ones_12 : decode cX12_ones 12 = .ok (.ishr, 1) := by decide +kernel
theorem dX12_ones_13 : decode cX12_ones 13 = .ok (.iconst 1, 1) := by decide +kernel
theorem dX12_ones_14 : decode cX12_ones 14 = .ok (.iand, 1) := by decide +kernel
theorem dX12_ones_15 : decode cX12_ones 15 = .ok (.iadd, 1) := by decide +kernel
theorem dX12_ones_16 : decode cX12_ones 16 = .ok (.istore_n 1, 1) := by decide +kernel
theorem dX12_ones_17 : decode cX12_ones 17 = .ok (.iinc 2 1, 3) := by decide +kernel
theorem dX12_ones_20 : decode cX12_ones 20 = .ok (.goto (-16), 3) := by decide +kernel
theorem dX12_ones_23 : decode cX12_ones 23 = .ok (.iload_n 1, 1) := by decide +kernel
theorem dX12_ones_24 : decode cX12_ones 24 = .ok (.ireturn, 1) := by decide +kernel
theorem dX12_inOrders_0 : decode cX12_inOrders 0 = .ok (.iconst 1, 1) := by decide +kernel
theorem dX12_inOrders_1 : decode cX12_inOrders 1 = .ok (.istore_n 1, 1) := by decide +kernel
theorem dX12_inOrders_2 : decode cX12_inOrders 2 = .ok (.iconst 2, 1) := by decide +kernel
theorem dX12_inOrders_3 : decode cX12_inOrders 3 = .ok (.istore_n 2, 1) := by decide +kernel
theorem dX12_inOrders_4 : decode cX12_inOrders 4 = .ok (.iload_n 2, 1) := by decide +kernel
theorem dX12_inOrders_5 : decode cX12_inOrders 5 = .ok (.iload_n 0, 1) := by decide +kernel
theorem dX12_inOrders_6 : decode cX12_inOrders 6 = .ok (.if_icmp .gt 13, 3) := by decide +kernel
theorem dX12_inOrders_9 : decode cX12_inOrders 9 = .ok (.iload_n 1, 1) := by decide +kernel
theorem dX12_inOrders_10 : decode cX12_inOrders 10 = .ok (.iload_n 2, 1) := by decide +kernel
theorem dX12_inOrders_11 : decode cX12_inOrders 11 = .ok (.imul, 1) := by decide +kernel
theorem dX12_inOrders_12 : decode cX12_inOrders 12 = .ok (.istore_n 1, 1) := by decide +kernel
theorem dX12_inOrders_13 : decode cX12_inOrders 13 = .ok (.iinc 2 1, 3) := by decide +kernel
theorem dX12_inOrders_16 : decode cX12_inOrders 16 = .ok (.goto (-12), 3) := by decide +kernel
theorem dX12_inOrders_19 : decode cX12_inOrders 19 = .ok (.iload_n 1, 1) := by decide +kernel
theorem dX12_inOrders_20 : decode cX12_inOrders 20 = .ok (.ireturn, 1) := by decide +kernel
theorem dX12_findShares_0 : decode cX12_findShares 0 = .ok (.aload_n 0, 1) := by decide +kernel
theorem dX12_findShares_1 : decode cX12_findShares 1 = .ok (.getfield 7, 3) := by decide +kernel
theorem dX12_findShares_4 : decode cX12_findShares 4 = .ok (.iconst 0, 1) := by decide +kernel
theorem dX12_findShares_5 : decode cX12_findShares 5 = .ok (.iaload, 1) := by decide +kernel
theorem dX12_findShares_6 : decode cX12_findShares 6 = .ok (.istore_n 1, 1) := by decide +kernel
theorem dX12_findShares_7 : decode cX12_findShares 7 = .ok (.aload_n 0, 1) := by decide +kernel
theorem dX12_findShares_8 : decode cX12_findShares 8 = .ok (.iload_n 1, 1) := by decide +kernel
theorem dX12_findShares_9 : decode cX12_findShares 9 = .ok (.invokestatic 274, 3) := by decide +kernel
theorem dX12_findShares_12 : decode cX12_findShares 12 = .ok (.putfield 277, 3) := by decide +kernel
theorem dX12_findShares_15 : decode cX12_findShares 15 = .ok (.iconst 0, 1) := by decide +kernel
theorem dX12_findShares_16 : decode cX12_findShares 16 = .ok (.istore_n 2, 1) := by decide +kernel
theorem dX12_findShares_17 : decode cX12_findShares 17 = .ok (.iload_n 2, 1) := by decide +kernel
theorem dX12_findShares_18 : decode cX12_findShares 18 = .ok (.iconst 1, 1) := by decide +kernel
theorem dX12_findShares_19 : decode cX12_findShares 19 = .ok (.iload_n 1, 1) := by decide +kernel
theorem dX12_findShares_20 : decode cX12_findShares 20 = .ok (.ishl, 1) := by decide +kernel
theorem dX12_findShares_21 : decode cX12_findShares 21 = .ok (.if_icmp .ge 24, 3) := by decide +kernel
theorem dX12_findShares_24 : decode cX12_findShares 24 = .ok (.aload_n 0, 1) := by decide +kernel
theorem dX12_findShares_25 : decode cX12_findShares 25 = .ok (.iload_n 2, 1) := by decide +kernel
theorem dX12_findShares_26 : decode cX12_findShares 26 = .ok (.invokevirtual 271, 3) := by decide +kernel
theorem dX12_findShares_29 : decode cX12_findShares 29 = .ok (.aload_n 0, 1) := by decide +kernel
theorem dX12_findShares_30 : decode cX12_findShares 30 = .ok (.getfield 40, 3) := by decide +kernel
theorem dX12_findShares_33 : decode cX12_findShares 33 = .ok (.iload_n 2, 1) := by decide +kernel
theorem dX12_findShares_34 : decode cX12_findShares 34 = .ok (.aload_n 0, 1) := by decide +kernel
theorem dX12_findShares_35 : decode cX12_findShares 35 = .ok (.getfield 256, 3) := by decide +kernel
theorem dX12_findShares_38 : decode cX12_findShares 38 = .ok (.iastore, 1) := by decide +kernel
theorem dX12_findShares_39 : decode cX12_findShares 39 = .ok (.iinc 2 1, 3) := by decide +kernel
theorem dX12_findShares_42 : decode cX12_findShares 42 = .ok (.goto (-25), 3) := by decide +kernel
theorem dX12_findShares_45 : decode cX12_findShares 45 = .ok (.iconst 0, 1) := by decide +kernel
theorem dX12_findShares_46 : decode cX12_findShares 46 = .ok (.istore_n 2, 1) := by decide +kernel
theorem dX12_findShares_47 : decode cX12_findShares 47 = .ok (.iload_n 2, 1) := by decide +kernel
theorem dX12_findShares_48 : decode cX12_findShares 48 = .ok (.iload_n 1, 1) := by decide +kernel
theorem dX12_findShares_49 : decode cX12_findShares 49 = .ok (.if_icmp .ge 85, 3) := by decide +kernel
theorem dX12_findShares_52 : decode cX12_findShares 52 = .ok (.aload_n 0, 1) := by decide +kernel
theorem dX12_findShares_53 : decode cX12_findShares 53 = .ok (.getfield 43, 3) := by decide +kernel
theorem dX12_findShares_56 : decode cX12_findShares 56 = .ok (.iload_n 2, 1) := by decide +kernel
theorem dX12_findShares_57 : decode cX12_findShares 57 = .ok (.iconst 0, 1) := by decide +kernel
theorem dX12_findShares_58 : decode cX12_findShares 58 = .ok (.iastore, 1) := by decide +kernel
theorem dX12_findShares_59 : decode cX12_findShares 59 = .ok (.iconst 0, 1) := by decide +kernel
theorem dX12_findShares_60 : decode cX12_findShares 60 = .ok (.istore_n 3, 1) := by decide +kernel
theorem dX12_findShares_61 : decode cX12_findShares 61 = .ok (.iload_n 3, 1) := by decide +kernel
theorem dX12_findShares_62 : decode cX12_findShares 62 = .ok (.iconst 1, 1) := by decide +kernel
theorem dX12_findShares_63 : decode cX12_findShares 63 = .ok (.iload_n 1, 1) := by decide +kernel
theorem dX12_findShares_64 : decode cX12_findShares 64 = .ok (.ishl, 1) := by decide +kernel
theorem dX12_findShares_65 : decode cX12_findShares 65 = .ok (.if_icmp .ge 63, 3) := by decide +kernel
theorem dX12_findShares_68 : decode cX12_findShares 68 = .ok (.iload_n 3, 1) := by decide +kernel
theorem dX12_findShares_69 : decode cX12_findShares 69 = .ok (.iload_n 2, 1) := by decide +kernel
theorem dX12_findShares_70 : decode cX12_findShares 70 = .ok (.ishr, 1) := by decide +kernel
theorem dX12_findShares_71 : decode cX12_findShares 71 = .ok (.iconst 1, 1) := by decide +kernel
theorem dX12_findShares_72 : decode cX12_findShares 72 = .ok (.iand, 1) := by decide +kernel
theorem dX12_findShares_73 : decode cX12_findShares 73 = .ok (.ifCond .ne 49, 3) := by decide +kernel
theorem dX12_findShares_76 : decode cX12_findShares 76 = .ok (.aload_n 0, 1) := by decide +kernel
theorem dX12_findShares_77 : decode cX12_findShares 77 = .ok (.getfield 43, 3) := by decide +kernel
theorem dX12_findShares_80 : decode cX12_findShares 80 = .ok (.iload_n 2, 1) := by decide +kernel
theorem dX12_findShares_81 : decode cX12_findShares 81 = .ok (.dup2, 1) := by decide +kernel
theorem dX12_findShares_82 : decode cX12_findShares 82 = .ok (.iaload, 1) := by decide +kernel
theorem dX12_findShares_83 : decode cX12_findShares 83 = .ok (.iload_n 3, 1) := by decide +kernel
theorem dX12_findShares_84 : decode cX12_findShares 84 = .ok (.invokestatic 280, 3) := by decide +kernel
theorem dX12_findShares_87 : decode cX12_findShares 87 = .ok (.invokestatic 274, 3) := by decide +kernel
theorem dX12_findShares_90 : decode cX12_findShares 90 = .ok (.iload_n 1, 1) := by decide +kernel
theorem dX12_findShares_91 : decode cX12_findShares 91 = .ok (.iconst 1, 1) := by decide +kernel
theorem dX12_findShares_92 : decode cX12_findShares 92 = .ok (.isub, 1) := by decide +kernel
theorem dX12_findShares_93 : decode cX12_findShares 93 = .ok (.iload_n 3, 1) := by decide +kernel
theorem dX12_findShares_94 : decode cX12_findShares 94 = .ok (.invokestatic 280, 3) := by decide +kernel
theorem dX12_findShares_97 : decode cX12_findShares 97 = .ok (.isub, 1) := by decide +kernel
theorem dX12_findShares_98 : decode cX12_findShares 98 = .ok (.invokestatic 274, 3) := by decide +kernel
theorem dX12_findShares_101 : decode cX12_findShares 101 = .ok (.imul, 1) := by decide +kernel
theorem dX12_findShares_102 : decode cX12_findShares 102 = .ok (.aload_n 0, 1) := by decide +kernel
theorem dX12_findShares_103 : decode cX12_findShares 103 = .ok (.getfield 40, 3) := by decide +kernel
theorem dX12_findShares_106 : decode cX12_findShares 106 = .ok (.iload_n 3, 1) := by decide +kernel
theorem dX12_findShares_107 : decode cX12_findShares 107 = .ok (.iconst 1, 1) := by decide +kernel
theorem dX12_findShares_108 : decode cX12_findShares 108 = .ok (.iload_n 2, 1) := by decide +kernel
theorem dX12_findShares_109 : decode cX12_findShares 109 = .ok (.ishl, 1) := by decide +kernel
theorem dX12_findShares_110 : decode cX12_findShares 110 = .ok (.ior, 1) := by decide +kernel
theorem dX12_findShares_111 : decode cX12_findShares 111 = .ok (.iaload, 1) := by decide +kernel
theorem dX12_findShares_112 : decode cX12_findShares 112 = .ok (.aload_n 0, 1) := by decide +kernel
theorem dX12_findShares_113 : decode cX12_findShares 113 = .ok (.getfield 40, 3) := by decide +kernel
theorem dX12_findShares_116 : decode cX12_findShares 116 = .ok (.iload_n 3, 1) := by decide +kernel
theorem dX12_findShares_117 : decode cX12_findShares 117 = .ok (.iaload, 1) := by decide +kernel
theorem dX12_findShares_118 : decode cX12_findShares 118 = .ok (.isub, 1) := by decide +kernel
theorem dX12_findShares_119 : decode cX12_findShares 119 = .ok (.imul, 1) := by decide +kernel
theorem dX12_findShares_120 : decode cX12_findShares 120 = .ok (.iadd, 1) := by decide +kernel
theorem dX12_findShares_121 : decode cX12_findShares 121 = .ok (.iastore, 1) := by decide +kernel
theorem dX12_findShares_122 : decode cX12_findShares 122 = .ok (.iinc 3 1, 3) := by decide +kernel
theorem dX12_findShares_125 : decode cX12_findShares 125 = .ok (.goto (-64), 3) := by decide +kernel
theorem dX12_findShares_128 : decode cX12_findShares 128 = .ok (.iinc 2 1, 3) := by decide +kernel
theorem dX12_findShares_131 : decode cX12_findShares 131 = .ok (.goto (-84), 3) := by decide +kernel
theorem dX12_findShares_134 : decode cX12_findShares 134 = .ok (.return_, 1) := by decide +kernel
theorem dX12_common_0 : decode cX12_common 0 = .ok (.lload_n 0, 1) := by decide +kernel
theorem dX12_common_1 : decode cX12_common 1 = .ok (.lconst 0, 1) := by decide +kernel
theorem dX12_common_2 : decode cX12_common 2 = .ok (.lcmp, 1) := by decide +kernel
theorem dX12_common_3 : decode cX12_common 3 = .ok (.ifCond .ge 8, 3) := by decide +kernel
theorem dX12_common_6 : decode cX12_common 6 = .ok (.lload_n 0, 1) := by decide +kernel
theorem dX12_common_7 : decode cX12_common 7 = .ok (.lneg, 1) := by decide +kernel
theorem dX12_common_8 : decode cX12_common 8 = .ok (.goto 4, 3) := by decide +kernel
theorem dX12_common_11 : decode cX12_common 11 = .ok (.lload_n 0, 1) := by decide +kernel
theorem dX12_common_12 : decode cX12_common 12 = .ok (.lstore 4, 2) := by decide +kernel
theorem dX12_common_14 : decode cX12_common 14 = .ok (.lload_n 2, 1) := by decide +kernel
theorem dX12_common_15 : decode cX12_common 15 = .ok (.lstore 6, 2) := by decide +kernel
theorem dX12_common_17 : decode cX12_common 17 = .ok (.lload 6, 2) := by decide +kernel
theorem dX12_common_19 : decode cX12_common 19 = .ok (.lconst 0, 1) := by decide +kernel
theorem dX12_common_20 : decode cX12_common 20 = .ok (.lcmp, 1) := by decide +kernel
theorem dX12_common_21 : decode cX12_common 21 = .ok (.ifCond .eq 21, 3) := by decide +kernel
theorem dX12_common_24 : decode cX12_common 24 = .ok (.lload 4, 2) := by decide +kernel
theorem dX12_common_26 : decode cX12_common 26 = .ok (.lload 6, 2) := by decide +kernel
theorem dX12_common_28 : decode cX12_common 28 = .ok (.lrem, 1) := by decide +kernel
theorem dX12_common_29 : decode cX12_common 29 = .ok (.lstore 8, 2) := by decide +kernel
theorem dX12_common_31 : decode cX12_common 31 = .ok (.lload 6, 2) := by decide +kernel
theorem dX12_common_33 : decode cX12_common 33 = .ok (.lstore 4, 2) := by decide +kernel
theorem dX12_common_35 : decode cX12_common 35 = .ok (.lload 8, 2) := by decide +kernel
theorem dX12_common_37 : decode cX12_common 37 = .ok (.lstore 6, 2) := by decide +kernel
theorem dX12_common_39 : decode cX12_common 39 = .ok (.goto (-22), 3) := by decide +kernel
theorem dX12_common_42 : decode cX12_common 42 = .ok (.lload 4, 2) := by decide +kernel
theorem dX12_common_44 : decode cX12_common 44 = .ok (.lreturn, 1) := by decide +kernel
theorem dX12_share_0 : decode cX12_share 0 = .ok (.aload_n 0, 1) := by decide +kernel
theorem dX12_share_1 : decode cX12_share 1 = .ok (.iload_n 1, 1) := by decide +kernel
theorem dX12_share_2 : decode cX12_share 2 = .ok (.invokevirtual 174, 3) := by decide +kernel
theorem dX12_share_5 : decode cX12_share 5 = .ok (.ifCond .eq 13, 3) := by decide +kernel
theorem dX12_share_8 : decode cX12_share 8 = .ok (.iload_n 2, 1) := by decide +kernel
theorem dX12_share_9 : decode cX12_share 9 = .ok (.i2l, 1) := by decide +kernel
theorem dX12_share_10 : decode cX12_share 10 = .ok (.lconst 0, 1) := by decide +kernel
theorem dX12_share_11 : decode cX12_share 11 = .ok (.lconst 1, 1) := by decide +kernel
theorem dX12_share_12 : decode cX12_share 12 = .ok (.invokestatic 80, 3) := by decide +kernel
theorem dX12_share_15 : decode cX12_share 15 = .ok (.ifCond .ne 10, 3) := by decide +kernel
theorem dX12_share_18 : decode cX12_share 18 = .ok (.aload_n 0, 1) := by decide +kernel
theorem dX12_share_19 : decode cX12_share 19 = .ok (.iconst 1, 1) := by decide +kernel
theorem dX12_share_20 : decode cX12_share 20 = .ok (.invokevirtual 143, 3) := by decide +kernel
theorem dX12_share_23 : decode cX12_share 23 = .ok (.i2l, 1) := by decide +kernel
theorem dX12_share_24 : decode cX12_share 24 = .ok (.lreturn, 1) := by decide +kernel
theorem dX12_share_25 : decode cX12_share 25 = .ok (.aload_n 0, 1) := by decide +kernel
theorem dX12_share_26 : decode cX12_share 26 = .ok (.invokevirtual 283, 3) := by decide +kernel
theorem dX12_share_29 : decode cX12_share 29 = .ok (.aload_n 0, 1) := by decide +kernel
theorem dX12_share_30 : decode cX12_share 30 = .ok (.getfield 43, 3) := by decide +kernel
theorem dX12_share_33 : decode cX12_share 33 = .ok (.iload_n 1, 1) := by decide +kernel
theorem dX12_share_34 : decode cX12_share 34 = .ok (.iaload, 1) := by decide +kernel
theorem dX12_share_35 : decode cX12_share 35 = .ok (.i2l, 1) := by decide +kernel
theorem dX12_share_36 : decode cX12_share 36 = .ok (.aload_n 0, 1) := by decide +kernel
theorem dX12_share_37 : decode cX12_share 37 = .ok (.getfield 277, 3) := by decide +kernel
theorem dX12_share_40 : decode cX12_share 40 = .ok (.i2l, 1) := by decide +kernel
theorem dX12_share_41 : decode cX12_share 41 = .ok (.invokestatic 286, 3) := by decide +kernel
theorem dX12_share_44 : decode cX12_share 44 = .ok (.lstore_n 3, 1) := by decide +kernel
theorem dX12_share_45 : decode cX12_share 45 = .ok (.iload_n 2, 1) := by decide +kernel
theorem dX12_share_46 : decode cX12_share 46 = .ok (.ifCond .ne 12, 3) := by decide +kernel
theorem dX12_share_49 : decode cX12_share 49 = .ok (.aload_n 0, 1) := by decide +kernel
theorem dX12_share_50 : decode cX12_share 50 = .ok (.getfield 43, 3) := by decide +kernel
theorem dX12_share_53 : decode cX12_share 53 = .ok (.iload_n 1, 1) := by decide +kernel
theorem dX12_share_54 : decode cX12_share 54 = .ok (.iaload, 1) := by decide +kernel
theorem dX12_share_55 : decode cX12_share 55 = .ok (.goto 7, 3) := by decide +kernel
theorem dX12_share_58 : decode cX12_share 58 = .ok (.aload_n 0, 1) := by decide +kernel
theorem dX12_share_59 : decode cX12_share 59 = .ok (.getfield 277, 3) := by decide +kernel
theorem dX12_share_62 : decode cX12_share 62 = .ok (.i2l, 1) := by decide +kernel
theorem dX12_share_63 : decode cX12_share 63 = .ok (.lload_n 3, 1) := by decide +kernel
theorem dX12_share_64 : decode cX12_share 64 = .ok (.ldiv, 1) := by decide +kernel
theorem dX12_share_65 : decode cX12_share 65 = .ok (.lreturn, 1) := by decide +kernel
theorem dX12_leaves_0 : decode cX12_leaves 0 = .ok (.aload_n 0, 1) := by decide +kernel
theorem dX12_leaves_1 : decode cX12_leaves 1 = .ok (.invokevirtual 283, 3) := by decide +kernel
theorem dX12_leaves_4 : decode cX12_leaves 4 = .ok (.iconst 1, 1) := by decide +kernel
theorem dX12_leaves_5 : decode cX12_leaves 5 = .ok (.istore_n 1, 1) := by decide +kernel
theorem dX12_leaves_6 : decode cX12_leaves 6 = .ok (.iload_n 1, 1) := by decide +kernel
theorem dX12_leaves_7 : decode cX12_leaves 7 = .ok (.iconst 1, 1) := by decide +kernel
theorem dX12_leaves_8 : decode cX12_leaves 8 = .ok (.aload_n 0, 1) := by decide +kernel
theorem dX12_leaves_9 : decode cX12_leaves 9 = .ok (.getfield 7, 3) := by decide +kernel
theorem dX12_leaves_12 : decode cX12_leaves 12 = .ok (.iconst 0, 1) := by decide +kernel
theorem dX12_leaves_13 : decode cX12_leaves 13 = .ok (.iaload, 1) := by decide +kernel
theorem dX12_leaves_14 : decode cX12_leaves 14 = .ok (.ishl, 1) := by decide +kernel
theorem dX12_leaves_15 : decode cX12_leaves 15 = .ok (.if_icmp .ge 68, 3) := by decide +kernel
theorem dX12_leaves_18 : decode cX12_leaves 18 = .ok (.iconst 0, 1) := by decide +kernel
theorem dX12_leaves_19 : decode cX12_leaves 19 = .ok (.istore_n 2, 1) := by decide +kernel
theorem dX12_leaves_20 : decode cX12_leaves 20 = .ok (.iconst 0, 1) := by decide +kernel
theorem dX12_leaves_21 : decode cX12_leaves 21 = .ok (.istore_n 3, 1) := by decide +kernel
theorem dX12_leaves_22 : decode cX12_leaves 22 = .ok (.iload_n 3, 1) := by decide +kernel
theorem dX12_leaves_23 : decode cX12_leaves 23 = .ok (.aload_n 0, 1) := by decide +kernel
theorem dX12_leaves_24 : decode cX12_leaves 24 = .ok (.getfield 7, 3) := by decide +kernel
theorem dX12_leaves_27 : decode cX12_leaves 27 = .ok (.iconst 0, 1) := by decide +kernel
theorem dX12_leaves_28 : decode cX12_leaves 28 = .ok (.iaload, 1) := by decide +kernel
theorem dX12_leaves_29 : decode cX12_leaves 29 = .ok (.if_icmp .ge 31, 3) := by decide +kernel
theorem dX12_leaves_32 : decode cX12_leaves 32 = .ok (.iload_n 2, 1) := by decide +kernel
theorem dX12_leaves_33 : decode cX12_leaves 33 = .ok (.iload_n 1, 1) := by decide +kernel
theorem dX12_leaves_34 : decode cX12_leaves 34 = .ok (.iload_n 3, 1) := by decide +kernel
theorem dX12_leaves_35 : decode cX12_leaves 35 = .ok (.ishr, 1) := by decide +kernel
theorem dX12_leaves_36 : decode cX12_leaves 36 = .ok (.iconst 1, 1) := by decide +kernel
theorem dX12_leaves_37 : decode cX12_leaves 37 = .ok (.iand, 1) := by decide +kernel
theorem dX12_leaves_38 : decode cX12_leaves 38 = .ok (.iconst 1, 1) := by decide +kernel
theorem dX12_leaves_39 : decode cX12_leaves 39 = .ok (.if_icmp .ne 12, 3) := by decide +kernel
theorem dX12_leaves_42 : decode cX12_leaves 42 = .ok (.aload_n 0, 1) := by decide +kernel
theorem dX12_leaves_43 : decode cX12_leaves 43 = .ok (.getfield 43, 3) := by decide +kernel
theorem dX12_leaves_46 : decode cX12_leaves 46 = .ok (.iload_n 3, 1) := by decide +kernel
theorem dX12_leaves_47 : decode cX12_leaves 47 = .ok (.iaload, 1) := by decide +kernel
theorem dX12_leaves_48 : decode cX12_leaves 48 = .ok (.goto 4, 3) := by decide +kernel
theorem dX12_leaves_51 : decode cX12_leaves 51 = .ok (.iconst 0, 1) := by decide +kernel
theorem dX12_leaves_52 : decode cX12_leaves 52 = .ok (.iadd, 1) := by decide +kernel
theorem dX12_leaves_53 : decode cX12_leaves 53 = .ok (.istore_n 2, 1) := by decide +kernel
theorem dX12_leaves_54 : decode cX12_leaves 54 = .ok (.iinc 3 1, 3) := by decide +kernel
theorem dX12_leaves_57 : decode cX12_leaves 57 = .ok (.goto (-35), 3) := by decide +kernel
theorem dX12_leaves_60 : decode cX12_leaves 60 = .ok (.aload_n 0, 1) := by decide +kernel
theorem dX12_leaves_61 : decode cX12_leaves 61 = .ok (.getfield 40, 3) := by decide +kernel
theorem dX12_leaves_64 : decode cX12_leaves 64 = .ok (.iload_n 1, 1) := by decide +kernel
theorem dX12_leaves_65 : decode cX12_leaves 65 = .ok (.iaload, 1) := by decide +kernel
theorem dX12_leaves_66 : decode cX12_leaves 66 = .ok (.aload_n 0, 1) := by decide +kernel
theorem dX12_leaves_67 : decode cX12_leaves 67 = .ok (.getfield 277, 3) := by decide +kernel
theorem dX12_leaves_70 : decode cX12_leaves 70 = .ok (.imul, 1) := by decide +kernel
theorem dX12_leaves_71 : decode cX12_leaves 71 = .ok (.iload_n 2, 1) := by decide +kernel
theorem dX12_leaves_72 : decode cX12_leaves 72 = .ok (.if_icmp .le 5, 3) := by decide +kernel
theorem dX12_leaves_75 : decode cX12_leaves 75 = .ok (.iload_n 1, 1) := by decide +kernel
theorem dX12_leaves_76 : decode cX12_leaves 76 = .ok (.ireturn, 1) := by decide +kernel
theorem dX12_leaves_77 : decode cX12_leaves 77 = .ok (.iinc 1 1, 3) := by decide +kernel
theorem dX12_leaves_80 : decode cX12_leaves 80 = .ok (.goto (-74), 3) := by decide +kernel
theorem dX12_leaves_83 : decode cX12_leaves 83 = .ok (.aload_n 0, 1) := by decide +kernel
theorem dX12_leaves_84 : decode cX12_leaves 84 = .ok (.iconst 2, 1) := by decide +kernel
theorem dX12_leaves_85 : decode cX12_leaves 85 = .ok (.invokevirtual 143, 3) := by decide +kernel
theorem dX12_leaves_88 : decode cX12_leaves 88 = .ok (.ireturn, 1) := by decide +kernel
theorem dX12_standsAt_0 : decode cX12_standsAt 0 = .ok (.iconst 0, 1) := by decide +kernel
theorem dX12_standsAt_1 : decode cX12_standsAt 1 = .ok (.istore_n 2, 1) := by decide +kernel
theorem dX12_standsAt_2 : decode cX12_standsAt 2 = .ok (.iload_n 2, 1) := by decide +kernel
theorem dX12_standsAt_3 : decode cX12_standsAt 3 = .ok (.bipush 90, 2) := by decide +kernel
theorem dX12_standsAt_5 : decode cX12_standsAt 5 = .ok (.if_icmp .ge 26, 3) := by decide +kernel
theorem dX12_standsAt_8 : decode cX12_standsAt 8 = .ok (.aload_n 0, 1) := by decide +kernel
theorem dX12_standsAt_9 : decode cX12_standsAt 9 = .ok (.getfield 46, 3) := by decide +kernel
theorem dX12_standsAt_12 : decode cX12_standsAt 12 = .ok (.bipush 90, 2) := by decide +kernel
theorem dX12_standsAt_14 : decode cX12_standsAt 14 = .ok (.iload_n 1, 1) := by decide +kernel
theorem dX12_standsAt_15 : decode cX12_standsAt 15 = .ok (.imul, 1) := by decide +kernel
theorem dX12_standsAt_16 : decode cX12_standsAt 16 = .ok (.iload_n 2, 1) := by decide +kernel
theorem dX12_standsAt_17 : decode cX12_standsAt 17 = .ok (.iadd, 1) := by decide +kernel
theorem dX12_standsAt_18 : decode cX12_standsAt 18 = .ok (.aload_n 0, 1) := by decide +kernel
theorem dX12_standsAt_19 : decode cX12_standsAt 19 = .ok (.getfield 7, 3) := by decide +kernel
theorem dX12_standsAt_22 : decode cX12_standsAt 22 = .ok (.iload_n 2, 1) := by decide +kernel
theorem dX12_standsAt_23 : decode cX12_standsAt 23 = .ok (.iaload, 1) := by decide +kernel
theorem dX12_standsAt_24 : decode cX12_standsAt 24 = .ok (.iastore, 1) := by decide +kernel
theorem dX12_standsAt_25 : decode cX12_standsAt 25 = .ok (.iinc 2 1, 3) := by decide +kernel
theorem dX12_standsAt_28 : decode cX12_standsAt 28 = .ok (.goto (-26), 3) := by decide +kernel
theorem dX12_standsAt_31 : decode cX12_standsAt 31 = .ok (.aload_n 0, 1) := by decide +kernel
theorem dX12_standsAt_32 : decode cX12_standsAt 32 = .ok (.getfield 49, 3) := by decide +kernel
theorem dX12_standsAt_35 : decode cX12_standsAt 35 = .ok (.iload_n 1, 1) := by decide +kernel
theorem dX12_standsAt_36 : decode cX12_standsAt 36 = .ok (.iconst (-1), 1) := by decide +kernel
theorem dX12_standsAt_37 : decode cX12_standsAt 37 = .ok (.iastore, 1) := by decide +kernel
theorem dX12_standsAt_38 : decode cX12_standsAt 38 = .ok (.aload_n 0, 1) := by decide +kernel
theorem dX12_standsAt_39 : decode cX12_standsAt 39 = .ok (.getfield 55, 3) := by decide +kernel
theorem dX12_standsAt_42 : decode cX12_standsAt 42 = .ok (.iload_n 1, 1) := by decide +kernel
theorem dX12_standsAt_43 : decode cX12_standsAt 43 = .ok (.iconst (-1), 1) := by decide +kernel
theorem dX12_standsAt_44 : decode cX12_standsAt 44 = .ok (.iastore, 1) := by decide +kernel
theorem dX12_standsAt_45 : decode cX12_standsAt 45 = .ok (.return_, 1) := by decide +kernel
theorem dX12_backTo_0 : decode cX12_backTo 0 = .ok (.iconst 0, 1) := by decide +kernel
theorem dX12_backTo_1 : decode cX12_backTo 1 = .ok (.istore_n 2, 1) := by decide +kernel
theorem dX12_backTo_2 : decode cX12_backTo 2 = .ok (.iload_n 2, 1) := by decide +kernel
theorem dX12_backTo_3 : decode cX12_backTo 3 = .ok (.bipush 90, 2) := by decide +kernel
theorem dX12_backTo_5 : decode cX12_backTo 5 = .ok (.if_icmp .ge 26, 3) := by decide +kernel
theorem dX12_backTo_8 : decode cX12_backTo 8 = .ok (.aload_n 0, 1) := by decide +kernel
theorem dX12_backTo_9 : decode cX12_backTo 9 = .ok (.getfield 7, 3) := by decide +kernel
theorem dX12_backTo_12 : decode cX12_backTo 12 = .ok (.iload_n 2, 1) := by decide +kernel
theorem dX12_backTo_13 : decode cX12_backTo 13 = .ok (.aload_n 0, 1) := by decide +kernel
theorem dX12_backTo_14 : decode cX12_backTo 14 = .ok (.getfield 46, 3) := by decide +kernel
theorem dX12_backTo_17 : decode cX12_backTo 17 = .ok (.bipush 90, 2) := by decide +kernel
theorem dX12_backTo_19 : decode cX12_backTo 19 = .ok (.iload_n 1, 1) := by decide +kernel
theorem dX12_backTo_20 : decode cX12_backTo 20 = .ok (.imul, 1) := by decide +kernel
theorem dX12_backTo_21 : decode cX12_backTo 21 = .ok (.iload_n 2, 1) := by decide +kernel
theorem dX12_backTo_22 : decode cX12_backTo 22 = .ok (.iadd, 1) := by decide +kernel
theorem dX12_backTo_23 : decode cX12_backTo 23 = .ok (.iaload, 1) := by decide +kernel
theorem dX12_backTo_24 : decode cX12_backTo 24 = .ok (.iastore, 1) := by decide +kernel
theorem dX12_backTo_25 : decode cX12_backTo 25 = .ok (.iinc 2 1, 3) := by decide +kernel
theorem dX12_backTo_28 : decode cX12_backTo 28 = .ok (.goto (-26), 3) := by decide +kernel
theorem dX12_backTo_31 : decode cX12_backTo 31 = .ok (.return_, 1) := by decide +kernel
theorem dX12_pickOf_0 : decode cX12_pickOf 0 = .ok (.iconst 0, 1) := by decide +kernel
theorem dX12_pickOf_1 : decode cX12_pickOf 1 = .ok (.istore_n 3, 1) := by decide +kernel
theorem dX12_pickOf_2 : decode cX12_pickOf 2 = .ok (.iconst 0, 1) := by decide +kernel
theorem dX12_pickOf_3 : decode cX12_pickOf 3 = .ok (.istore 4, 2) := by decide +kernel
theorem dX12_pickOf_5 : decode cX12_pickOf 5 = .ok (.iload 4, 2) := by decide +kernel
theorem dX12_pickOf_7 : decode cX12_pickOf 7 = .ok (.aload_n 0, 1) := by decide +kernel
theorem dX12_pickOf_8 : decode cX12_pickOf 8 = .ok (.getfield 7, 3) := by decide +kernel
theorem dX12_pickOf_11 : decode cX12_pickOf 11 = .ok (.iconst 1, 1) := by decide +kernel
theorem dX12_pickOf_12 : decode cX12_pickOf 12 = .ok (.iaload, 1) := by decide +kernel
theorem dX12_pickOf_13 : decode cX12_pickOf 13 = .ok (.if_icmp .ge 57, 3) := by decide +kernel
theorem dX12_pickOf_16 : decode cX12_pickOf 16 = .ok (.aload_n 0, 1) := by decide +kernel
theorem dX12_pickOf_17 : decode cX12_pickOf 17 = .ok (.iload 4, 2) := by decide +kernel
theorem dX12_pickOf_19 : decode cX12_pickOf 19 = .ok (.iconst 0, 1) := by decide +kernel
theorem dX12_pickOf_20 : decode cX12_pickOf 20 = .ok (.invokevirtual 171, 3) := by decide +kernel
theorem dX12_pickOf_23 : decode cX12_pickOf 23 = .ok (.iload_n 1, 1) := by decide +kernel
theorem dX12_pickOf_24 : decode cX12_pickOf 24 = .ok (.if_icmp .ne 40, 3) := by decide +kernel
theorem dX12_pickOf_27 : decode cX12_pickOf 27 = .ok (.aload_n 0, 1) := by decide +kernel
theorem dX12_pickOf_28 : decode cX12_pickOf 28 = .ok (.iload 4, 2) := by decide +kernel
theorem dX12_pickOf_30 : decode cX12_pickOf 30 = .ok (.iconst 4, 1) := by decide +kernel
theorem dX12_pickOf_31 : decode cX12_pickOf 31 = .ok (.invokevirtual 171, 3) := by decide +kernel
theorem dX12_pickOf_34 : decode cX12_pickOf 34 = .ok (.ifCond .eq 6, 3) := by decide +kernel
theorem dX12_pickOf_37 : decode cX12_pickOf 37 = .ok (.goto 27, 3) := by decide +kernel
theorem dX12_pickOf_40 : decode cX12_pickOf 40 = .ok (.iload_n 3, 1) := by decide +kernel
theorem dX12_pickOf_41 : decode cX12_pickOf 41 = .ok (.iload_n 2, 1) := by decide +kernel
theorem dX12_pickOf_42 : decode cX12_pickOf 42 = .ok (.if_icmp .ne 19, 3) := by decide +kernel
theorem dX12_pickOf_45 : decode cX12_pickOf 45 = .ok (.aload_n 0, 1) := by decide +kernel
theorem dX12_pickOf_46 : decode cX12_pickOf 46 = .ok (.iload 4, 2) := by decide +kernel
theorem dX12_pickOf_48 : decode cX12_pickOf 48 = .ok (.invokevirtual 220, 3) := by decide +kernel
theorem dX12_pickOf_51 : decode cX12_pickOf 51 = .ok (.ifCond .eq 8, 3) := by decide +kernel
theorem dX12_pickOf_54 : decode cX12_pickOf 54 = .ok (.iload 4, 2) := by decide +kernel
theorem dX12_pickOf_56 : decode cX12_pickOf 56 = .ok (.goto 4, 3) := by decide +kernel
theorem dX12_pickOf_59 : decode cX12_pickOf 59 = .ok (.iconst (-1), 1) := by decide +kernel
theorem dX12_pickOf_60 : decode cX12_pickOf 60 = .ok (.ireturn, 1) := by decide +kernel
theorem dX12_pickOf_61 : decode cX12_pickOf 61 = .ok (.iinc 3 1, 3) := by decide +kernel
theorem dX12_pickOf_64 : decode cX12_pickOf 64 = .ok (.iinc 4 1, 3) := by decide +kernel
theorem dX12_pickOf_67 : decode cX12_pickOf 67 = .ok (.goto (-62), 3) := by decide +kernel
theorem dX12_pickOf_70 : decode cX12_pickOf 70 = .ok (.iconst (-1), 1) := by decide +kernel
theorem dX12_pickOf_71 : decode cX12_pickOf 71 = .ok (.ireturn, 1) := by decide +kernel
theorem dX12_goes_0 : decode cX12_goes 0 = .ok (.aload_n 0, 1) := by decide +kernel
theorem dX12_goes_1 : decode cX12_goes 1 = .ok (.iload_n 1, 1) := by decide +kernel
theorem dX12_goes_2 : decode cX12_goes 2 = .ok (.invokevirtual 223, 3) := by decide +kernel
theorem dX12_goes_5 : decode cX12_goes 5 = .ok (.aload_n 0, 1) := by decide +kernel
theorem dX12_goes_6 : decode cX12_goes 6 = .ok (.getfield 7, 3) := by decide +kernel
theorem dX12_goes_9 : decode cX12_goes 9 = .ok (.bipush 6, 2) := by decide +kernel
theorem dX12_goes_11 : decode cX12_goes 11 = .ok (.iaload, 1) := by decide +kernel
theorem dX12_goes_12 : decode cX12_goes 12 = .ok (.ifCond .le 10, 3) := by decide +kernel
theorem dX12_goes_15 : decode cX12_goes 15 = .ok (.aload_n 0, 1) := by decide +kernel
theorem dX12_goes_16 : decode cX12_goes 16 = .ok (.invokevirtual 235, 3) := by decide +kernel
theorem dX12_goes_19 : decode cX12_goes 19 = .ok (.goto (-14), 3) := by decide +kernel
theorem dX12_goes_22 : decode cX12_goes 22 = .ok (.return_, 1) := by decide +kernel
theorem dX12_comesTo_0 : decode cX12_comesTo 0 = .ok (.aload_n 0, 1) := by decide +kernel
theorem dX12_comesTo_1 : decode cX12_comesTo 1 = .ok (.getfield 55, 3) := by decide +kernel
theorem dX12_comesTo_4 : decode cX12_comesTo 4 = .ok (.iload_n 1, 1) := by decide +kernel
theorem dX12_comesTo_5 : decode cX12_comesTo 5 = .ok (.iaload, 1) := by decide +kernel
theorem dX12_comesTo_6 : decode cX12_comesTo 6 = .ok (.ifCond .lt 32, 3) := by decide +kernel
theorem dX12_comesTo_9 : decode cX12_comesTo 9 = .ok (.iload_n 1, 1) := by decide +kernel
theorem dX12_comesTo_10 : decode cX12_comesTo 10 = .ok (.iconst 2, 1) := by decide +kernel
theorem dX12_comesTo_11 : decode cX12_comesTo 11 = .ok (.irem, 1) := by decide +kernel
theorem dX12_comesTo_12 : decode cX12_comesTo 12 = .ok (.ifCond .ne 16, 3) := by decide +kernel
theorem dX12_comesTo_15 : decode cX12_comesTo 15 = .ok (.iload_n 3, 1) := by decide +kernel
theorem dX12_comesTo_16 : decode cX12_comesTo 16 = .ok (.aload_n 0, 1) := by decide +kernel
theorem dX12_comesTo_17 : decode cX12_comesTo 17 = .ok (.getfield 52, 3) := by decide +kernel
theorem dX12_comesTo_20 : decode cX12_comesTo 20 = .ok (.iload_n 1, 1) := by decide +kernel
theorem dX12_comesTo_21 : decode cX12_comesTo 21 = .ok (.iaload, 1) := by decide +kernel
theorem dX12_comesTo_22 : decode cX12_comesTo 22 = .ok (.if_icmp .le 20, 3) := by decide +kernel
theorem dX12_comesTo_25 : decode cX12_comesTo 25 = .ok (.goto 13, 3) := by decide +kernel
theorem dX12_comesTo_28 : decode cX12_comesTo 28 = .ok (.iload_n 3, 1) := by decide +kernel
theorem dX12_comesTo_29 : decode cX12_comesTo 29 = .ok (.aload_n 0, 1) := by decide +kernel
theorem dX12_comesTo_30 : decode cX12_comesTo 30 = .ok (.getfield 52, 3) := by decide +kernel
theorem dX12_comesTo_33 : decode cX12_comesTo 33 = .ok (.iload_n 1, 1) := by decide +kernel
theorem dX12_comesTo_34 : decode cX12_comesTo 34 = .ok (.iaload, 1) := by decide +kernel
theorem dX12_comesTo_35 : decode cX12_comesTo 35 = .ok (.if_icmp .ge 7, 3) := by decide +kernel
theorem dX12_comesTo_38 : decode cX12_comesTo 38 = .ok (.iconst 1, 1) := by decide +kernel
theorem dX12_comesTo_39 : decode cX12_comesTo 39 = .ok (.goto 4, 3) := by decide +kernel
theorem dX12_comesTo_42 : decode cX12_comesTo 42 = .ok (.iconst 0, 1) := by decide +kernel
theorem dX12_comesTo_43 : decode cX12_comesTo 43 = .ok (.istore 4, 2) := by decide +kernel
theorem dX12_comesTo_45 : decode cX12_comesTo 45 = .ok (.iload 4, 2) := by decide +kernel
theorem dX12_comesTo_47 : decode cX12_comesTo 47 = .ok (.ifCond .eq 17, 3) := by decide +kernel
theorem dX12_comesTo_50 : decode cX12_comesTo 50 = .ok (.aload_n 0, 1) := by decide +kernel
theorem dX12_comesTo_51 : decode cX12_comesTo 51 = .ok (.getfield 52, 3) := by decide +kernel
theorem dX12_comesTo_54 : decode cX12_comesTo 54 = .ok (.iload_n 1, 1) := by decide +kernel
theorem dX12_comesTo_55 : decode cX12_comesTo 55 = .ok (.iload_n 3, 1) := by decide +kernel
theorem dX12_comesTo_56 : decode cX12_comesTo 56 = .ok (.iastore, 1) := by decide +kernel
theorem dX12_comesTo_57 : decode cX12_comesTo 57 = .ok (.aload_n 0, 1) := by decide +kernel
theorem dX12_comesTo_58 : decode cX12_comesTo 58 = .ok (.getfield 55, 3) := by decide +kernel
theorem dX12_comesTo_61 : decode cX12_comesTo 61 = .ok (.iload_n 1, 1) := by decide +kernel
theorem dX12_comesTo_62 : decode cX12_comesTo 62 = .ok (.iload_n 2, 1) := by decide +kernel
theorem dX12_comesTo_63 : decode cX12_comesTo 63 = .ok (.iastore, 1) := by decide +kernel
theorem dX12_comesTo_64 : decode cX12_comesTo 64 = .ok (.return_, 1) := by decide +kernel
theorem dX12_findGame_0 : decode cX12_findGame 0 = .ok (.aload_n 0, 1) := by decide +kernel
theorem dX12_findGame_1 : decode cX12_findGame 1 = .ok (.invokevirtual 244, 3) := by decide +kernel
theorem dX12_findGame_4 : decode cX12_findGame 4 = .ok (.aload_n 0, 1) := by decide +kernel
theorem dX12_findGame_5 : decode cX12_findGame 5 = .ok (.getfield 7, 3) := by decide +kernel
theorem dX12_findGame_8 : decode cX12_findGame 8 = .ok (.iconst 5, 1) := by decide +kernel
theorem dX12_findGame_9 : decode cX12_findGame 9 = .ok (.iconst 0, 1) := by decide +kernel
theorem dX12_findGame_10 : decode cX12_findGame 10 = .ok (.iastore, 1) := by decide +kernel
theorem dX12_findGame_11 : decode cX12_findGame 11 = .ok (.aload_n 0, 1) := by decide +kernel
theorem dX12_findGame_12 : decode cX12_findGame 12 = .ok (.getfield 7, 3) := by decide +kernel
theorem dX12_findGame_15 : decode cX12_findGame 15 = .ok (.bipush 6, 2) := by decide +kernel
theorem dX12_findGame_17 : decode cX12_findGame 17 = .ok (.iconst 0, 1) := by decide +kernel
theorem dX12_findGame_18 : decode cX12_findGame 18 = .ok (.iastore, 1) := by decide +kernel
theorem dX12_findGame_19 : decode cX12_findGame 19 = .ok (.aload_n 0, 1) := by decide +kernel
theorem dX12_findGame_20 : decode cX12_findGame 20 = .ok (.getfield 7, 3) := by decide +kernel
theorem dX12_findGame_23 : decode cX12_findGame 23 = .ok (.bipush 7, 2) := by decide +kernel
theorem dX12_findGame_25 : decode cX12_findGame 25 = .ok (.iconst 0, 1) := by decide +kernel
theorem dX12_findGame_26 : decode cX12_findGame 26 = .ok (.iastore, 1) := by decide +kernel
theorem dX12_findGame_27 : decode cX12_findGame 27 = .ok (.aload_n 0, 1) := by decide +kernel
theorem dX12_findGame_28 : decode cX12_findGame 28 = .ok (.iload_n 1, 1) := by decide +kernel
theorem dX12_findGame_29 : decode cX12_findGame 29 = .ok (.iconst 4, 1) := by decide +kernel
theorem dX12_findGame_30 : decode cX12_findGame 30 = .ok (.invokevirtual 161, 3) := by decide +kernel
theorem dX12_findGame_33 : decode cX12_findGame 33 = .ok (.aload_n 0, 1) := by decide +kernel
theorem dX12_findGame_34 : decode cX12_findGame 34 = .ok (.iload_n 2, 1) := by decide +kernel
theorem dX12_findGame_35 : decode cX12_findGame 35 = .ok (.iconst 4, 1) := by decide +kernel
theorem dX12_findGame_36 : decode cX12_findGame 36 = .ok (.invokevirtual 161, 3) := by decide +kernel
theorem dX12_findGame_39 : decode cX12_findGame 39 = .ok (.isub, 1) := by decide +kernel
theorem dX12_findGame_40 : decode cX12_findGame 40 = .ok (.istore 4, 2) := by decide +kernel
theorem dX12_findGame_42 : decode cX12_findGame 42 = .ok (.iconst 0, 1) := by decide +kernel
theorem dX12_findGame_43 : decode cX12_findGame 43 = .ok (.istore 5, 2) := by decide +kernel
theorem dX12_findGame_45 : decode cX12_findGame 45 = .ok (.aload_n 0, 1) := by decide +kernel
theorem dX12_findGame_46 : decode cX12_findGame 46 = .ok (.iconst 0, 1) := by decide +kernel
theorem dX12_findGame_47 : decode cX12_findGame 47 = .ok (.invokevirtual 290, 3) := by decide +kernel
theorem dX12_findGame_50 : decode cX12_findGame 50 = .ok (.iload 5, 2) := by decide +kernel
theorem dX12_findGame_52 : decode cX12_findGame 52 = .ok (.ifCond .lt 182, 3) := by decide +kernel
theorem dX12_findGame_55 : decode cX12_findGame 55 = .ok (.aload_n 0, 1) := by decide +kernel
theorem dX12_findGame_56 : decode cX12_findGame 56 = .ok (.iload 5, 2) := by decide +kernel
theorem dX12_findGame_58 : decode cX12_findGame 58 = .ok (.invokevirtual 293, 3) := by decide +kernel
theorem dX12_findGame_61 : decode cX12_findGame 61 = .ok (.aload_n 0, 1) := by decide +kernel
theorem dX12_findGame_62 : decode cX12_findGame 62 = .ok (.getfield 49, 3) := by decide +kernel
theorem dX12_findGame_65 : decode cX12_findGame 65 = .ok (.iload 5, 2) := by decide +kernel
theorem dX12_findGame_67 : decode cX12_findGame 67 = .ok (.dup2, 1) := by decide +kernel
theorem dX12_findGame_68 : decode cX12_findGame 68 = .ok (.iaload, 1) := by decide +kernel
theorem dX12_findGame_69 : decode cX12_findGame 69 = .ok (.iconst 1, 1) := by decide +kernel
theorem dX12_findGame_70 : decode cX12_findGame 70 = .ok (.iadd, 1) := by decide +kernel
theorem dX12_findGame_71 : decode cX12_findGame 71 = .ok (.iastore, 1) := by decide +kernel
theorem dX12_findGame_72 : decode cX12_findGame 72 = .ok (.aload_n 0, 1) := by decide +kernel
theorem dX12_findGame_73 : decode cX12_findGame 73 = .ok (.getfield 49, 3) := by decide +kernel
theorem dX12_findGame_76 : decode cX12_findGame 76 = .ok (.iload 5, 2) := by decide +kernel
theorem dX12_findGame_78 : decode cX12_findGame 78 = .ok (.iaload, 1) := by decide +kernel
theorem dX12_findGame_79 : decode cX12_findGame 79 = .ok (.iconst 4, 1) := by decide +kernel
theorem dX12_findGame_80 : decode cX12_findGame 80 = .ok (.if_icmp .le 36, 3) := by decide +kernel
theorem dX12_findGame_83 : decode cX12_findGame 83 = .ok (.iinc 5 (-1), 3) := by decide +kernel
theorem dX12_findGame_86 : decode cX12_findGame 86 = .ok (.iload 5, 2) := by decide +kernel
theorem dX12_findGame_88 : decode cX12_findGame 88 = .ok (.ifCond .lt (-38), 3) := by decide +kernel
theorem dX12_findGame_91 : decode cX12_findGame 91 = .ok (.aload_n 0, 1) := by decide +kernel
theorem dX12_findGame_92 : decode cX12_findGame 92 = .ok (.iload 5, 2) := by decide +kernel
theorem dX12_findGame_94 : decode cX12_findGame 94 = .ok (.aload_n 0, 1) := by decide +kernel
theorem dX12_findGame_95 : decode cX12_findGame 95 = .ok (.getfield 58, 3) := by decide +kernel
theorem dX12_findGame_98 : decode cX12_findGame 98 = .ok (.iload 5, 2) := by decide +kernel
theorem dX12_findGame_100 : decode cX12_findGame 100 = .ok (.iaload, 1) := by decide +kernel
theorem dX12_findGame_101 : decode cX12_findGame 101 = .ok (.aload_n 0, 1) := by decide +kernel
theorem dX12_findGame_102 : decode cX12_findGame 102 = .ok (.getfield 52, 3) := by decide +kernel
theorem dX12_findGame_105 : decode cX12_findGame 105 = .ok (.iload 5, 2) := by decide +kernel
theorem dX12_findGame_107 : decode cX12_findGame 107 = .ok (.iconst 1, 1) := by decide +kernel
theorem dX12_findGame_108 : decode cX12_findGame 108 = .ok (.iadd, 1) := by decide +kernel
theorem dX12_findGame_109 : decode cX12_findGame 109 = .ok (.iaload, 1) := by decide +kernel
theorem dX12_findGame_110 : decode cX12_findGame 110 = .ok (.invokevirtual 296, 3) := by decide +kernel
theorem dX12_findGame_113 : decode cX12_findGame 113 = .ok (.goto (-63), 3) := by decide +kernel
theorem dX12_findGame_116 : decode cX12_findGame 116 = .ok (.aload_n 0, 1) := by decide +kernel
theorem dX12_findGame_117 : decode cX12_findGame 117 = .ok (.getfield 49, 3) := by decide +kernel
theorem dX12_findGame_120 : decode cX12_findGame 120 = .ok (.iload 5, 2) := by decide +kernel
theorem dX12_findGame_122 : decode cX12_findGame 122 = .ok (.iaload, 1) := by decide +kernel
theorem dX12_findGame_123 : decode cX12_findGame 123 = .ok (.iconst 4, 1) := by decide +kernel
theorem dX12_findGame_124 : decode cX12_findGame 124 = .ok (.if_icmp .ne 8, 3) := by decide +kernel
theorem dX12_findGame_127 : decode cX12_findGame 127 = .ok (.bipush 12, 2) := by decide +kernel
theorem dX12_findGame_129 : decode cX12_findGame 129 = .ok (.goto 26, 3) := by decide +kernel
theorem dX12_findGame_132 : decode cX12_findGame 132 = .ok (.aload_n 0, 1) := by decide +kernel
theorem dX12_findGame_133 : decode cX12_findGame 133 = .ok (.iload 5, 2) := by decide +kernel
theorem dX12_findGame_135 : decode cX12_findGame 135 = .ok (.iconst 2, 1) := by decide +kernel
theorem dX12_findGame_136 : decode cX12_findGame 136 = .ok (.irem, 1) := by decide +kernel
theorem dX12_findGame_137 : decode cX12_findGame 137 = .ok (.ifCond .ne 7, 3) := by decide +kernel
theorem dX12_findGame_140 : decode cX12_findGame 140 = .ok (.iload_n 1, 1) := by decide +kernel
theorem dX12_findGame_141 : decode cX12_findGame 141 = .ok (.goto 4, 3) := by decide +kernel
theorem dX12_findGame_144 : decode cX12_findGame 144 = .ok (.iload_n 2, 1) := by decide +kernel
theorem dX12_findGame_145 : decode cX12_findGame 145 = .ok (.aload_n 0, 1) := by decide +kernel
theorem dX12_findGame_146 : decode cX12_findGame 146 = .ok (.getfield 49, 3) := by decide +kernel
theorem dX12_findGame_149 : decode cX12_findGame 149 = .ok (.iload 5, 2) := by decide +kernel
theorem dX12_findGame_151 : decode cX12_findGame 151 = .ok (.iaload, 1) := by decide +kernel
theorem dX12_findGame_152 : decode cX12_findGame 152 = .ok (.invokevirtual 299, 3) := by decide +kernel
theorem dX12_findGame_155 : decode cX12_findGame 155 = .ok (.istore 6, 2) := by decide +kernel
theorem dX12_findGame_157 : decode cX12_findGame 157 = .ok (.iload 6, 2) := by decide +kernel
theorem dX12_findGame_159 : decode cX12_findGame 159 = .ok (.ifCond .ge 6, 3) := by decide +kernel
theorem dX12_findGame_162 : decode cX12_findGame 162 = .ok (.goto (-112), 3) := by decide +kernel
theorem dX12_findGame_165 : decode cX12_findGame 165 = .ok (.iload 6, 2) := by decide +kernel
theorem dX12_findGame_167 : decode cX12_findGame 167 = .ok (.bipush 12, 2) := by decide +kernel
theorem dX12_findGame_169 : decode cX12_findGame 169 = .ok (.if_icmp .ge 9, 3) := by decide +kernel
theorem dX12_findGame_172 : decode cX12_findGame 172 = .ok (.aload_n 0, 1) := by decide +kernel
theorem dX12_findGame_173 : decode cX12_findGame 173 = .ok (.iload 6, 2) := by decide +kernel
theorem dX12_findGame_175 : decode cX12_findGame 175 = .ok (.invokevirtual 302, 3) := by decide +kernel
theorem dX12_findGame_178 : decode cX12_findGame 178 = .ok (.aload_n 0, 1) := by decide +kernel
theorem dX12_findGame_179 : decode cX12_findGame 179 = .ok (.getfield 58, 3) := by decide +kernel
theorem dX12_findGame_182 : decode cX12_findGame 182 = .ok (.iload 5, 2) := by decide +kernel
theorem dX12_findGame_184 : decode cX12_findGame 184 = .ok (.iload 6, 2) := by decide +kernel
theorem dX12_findGame_186 : decode cX12_findGame 186 = .ok (.iastore, 1) := by decide +kernel
theorem dX12_findGame_187 : decode cX12_findGame 187 = .ok (.iload 5, 2) := by decide +kernel
theorem dX12_findGame_189 : decode cX12_findGame 189 = .ok (.iconst 1, 1) := by decide +kernel
theorem dX12_findGame_190 : decode cX12_findGame 190 = .ok (.iadd, 1) := by decide +kernel
theorem dX12_findGame_191 : decode cX12_findGame 191 = .ok (.iload_n 3, 1) := by decide +kernel
theorem dX12_findGame_192 : decode cX12_findGame 192 = .ok (.if_icmp .ne 30, 3) := by decide +kernel
theorem dX12_findGame_195 : decode cX12_findGame 195 = .ok (.aload_n 0, 1) := by decide +kernel
theorem dX12_findGame_196 : decode cX12_findGame 196 = .ok (.iload 5, 2) := by decide +kernel
theorem dX12_findGame_198 : decode cX12_findGame 198 = .ok (.iload 6, 2) := by decide +kernel
theorem dX12_findGame_200 : decode cX12_findGame 200 = .ok (.aload_n 0, 1) := by decide +kernel
theorem dX12_findGame_201 : decode cX12_findGame 201 = .ok (.iload_n 1, 1) := by decide +kernel
theorem dX12_findGame_202 : decode cX12_findGame 202 = .ok (.iconst 4, 1) := by decide +kernel
theorem dX12_findGame_203 : decode cX12_findGame 203 = .ok (.invokevirtual 161, 3) := by decide +kernel
theorem dX12_findGame_206 : decode cX12_findGame 206 = .ok (.aload_n 0, 1) := by decide +kernel
theorem dX12_findGame_207 : decode cX12_findGame 207 = .ok (.iload_n 2, 1) := by decide +kernel
theorem dX12_findGame_208 : decode cX12_findGame 208 = .ok (.iconst 4, 1) := by decide +kernel
theorem dX12_findGame_209 : decode cX12_findGame 209 = .ok (.invokevirtual 161, 3) := by decide +kernel
theorem dX12_findGame_212 : decode cX12_findGame 212 = .ok (.isub, 1) := by decide +kernel
theorem dX12_findGame_213 : decode cX12_findGame 213 = .ok (.iload 4, 2) := by decide +kernel
theorem dX12_findGame_215 : decode cX12_findGame 215 = .ok (.isub, 1) := by decide +kernel
theorem dX12_findGame_216 : decode cX12_findGame 216 = .ok (.invokevirtual 296, 3) := by decide +kernel
theorem dX12_findGame_219 : decode cX12_findGame 219 = .ok (.goto 12, 3) := by decide +kernel
theorem dX12_findGame_222 : decode cX12_findGame 222 = .ok (.iinc 5 1, 3) := by decide +kernel
theorem dX12_findGame_225 : decode cX12_findGame 225 = .ok (.aload_n 0, 1) := by decide +kernel
theorem dX12_findGame_226 : decode cX12_findGame 226 = .ok (.iload 5, 2) := by decide +kernel
theorem dX12_findGame_228 : decode cX12_findGame 228 = .ok (.invokevirtual 290, 3) := by decide +kernel
theorem dX12_findGame_231 : decode cX12_findGame 231 = .ok (.goto (-181), 3) := by decide +kernel
theorem dX12_findGame_234 : decode cX12_findGame 234 = .ok (.aload_n 0, 1) := by decide +kernel
theorem dX12_findGame_235 : decode cX12_findGame 235 = .ok (.invokevirtual 247, 3) := by decide +kernel
theorem dX12_findGame_238 : decode cX12_findGame 238 = .ok (.return_, 1) := by decide +kernel
theorem dX12_game_0 : decode cX12_game 0 = .ok (.aload_n 0, 1) := by decide +kernel
theorem dX12_game_1 : decode cX12_game 1 = .ok (.iload_n 1, 1) := by decide +kernel
theorem dX12_game_2 : decode cX12_game 2 = .ok (.invokevirtual 174, 3) := by decide +kernel
theorem dX12_game_5 : decode cX12_game 5 = .ok (.ifCond .eq 39, 3) := by decide +kernel
theorem dX12_game_8 : decode cX12_game 8 = .ok (.aload_n 0, 1) := by decide +kernel
theorem dX12_game_9 : decode cX12_game 9 = .ok (.iload_n 2, 1) := by decide +kernel
theorem dX12_game_10 : decode cX12_game 10 = .ok (.invokevirtual 174, 3) := by decide +kernel
theorem dX12_game_13 : decode cX12_game 13 = .ok (.ifCond .eq 31, 3) := by decide +kernel
theorem dX12_game_16 : decode cX12_game 16 = .ok (.iload_n 1, 1) := by decide +kernel
theorem dX12_game_17 : decode cX12_game 17 = .ok (.iload_n 2, 1) := by decide +kernel
theorem dX12_game_18 : decode cX12_game 18 = .ok (.if_icmp .eq 26, 3) := by decide +kernel
theorem dX12_game_21 : decode cX12_game 21 = .ok (.iload_n 3, 1) := by decide +kernel
theorem dX12_game_22 : decode cX12_game 22 = .ok (.i2l, 1) := by decide +kernel
theorem dX12_game_23 : decode cX12_game 23 = .ok (.lconst 1, 1) := by decide +kernel
theorem dX12_game_24 : decode cX12_game 24 = .ok (.ldc2_w 205, 3) := by decide +kernel
theorem dX12_game_27 : decode cX12_game 27 = .ok (.invokestatic 80, 3) := by decide +kernel
theorem dX12_game_30 : decode cX12_game 30 = .ok (.ifCond .eq 14, 3) := by decide +kernel
theorem dX12_game_33 : decode cX12_game 33 = .ok (.iload 4, 2) := by decide +kernel
theorem dX12_game_35 : decode cX12_game 35 = .ok (.i2l, 1) := by decide +kernel
theorem dX12_game_36 : decode cX12_game 36 = .ok (.lconst 0, 1) := by decide +kernel
theorem dX12_game_37 : decode cX12_game 37 = .ok (.lconst 1, 1) := by decide +kernel
theorem dX12_game_38 : decode cX12_game 38 = .ok (.invokestatic 80, 3) := by decide +kernel
theorem dX12_game_41 : decode cX12_game 41 = .ok (.ifCond .ne 9, 3) := by decide +kernel
theorem dX12_game_44 : decode cX12_game 44 = .ok (.aload_n 0, 1) := by decide +kernel
theorem dX12_game_45 : decode cX12_game 45 = .ok (.iconst 1, 1) := by decide +kernel
theorem dX12_game_46 : decode cX12_game 46 = .ok (.invokevirtual 143, 3) := by decide +kernel
theorem dX12_game_49 : decode cX12_game 49 = .ok (.ireturn, 1) := by decide +kernel
theorem dX12_game_50 : decode cX12_game 50 = .ok (.aload_n 0, 1) := by decide +kernel
theorem dX12_game_51 : decode cX12_game 51 = .ok (.iload_n 1, 1) := by decide +kernel
theorem dX12_game_52 : decode cX12_game 52 = .ok (.iload_n 2, 1) := by decide +kernel
theorem dX12_game_53 : decode cX12_game 53 = .ok (.iload_n 3, 1) := by decide +kernel
theorem dX12_game_54 : decode cX12_game 54 = .ok (.invokevirtual 305, 3) := by decide +kernel
theorem dX12_game_57 : decode cX12_game 57 = .ok (.iload 4, 2) := by decide +kernel
theorem dX12_game_59 : decode cX12_game 59 = .ok (.ifCond .ne 12, 3) := by decide +kernel
theorem dX12_game_62 : decode cX12_game 62 = .ok (.aload_n 0, 1) := by decide +kernel
theorem dX12_game_63 : decode cX12_game 63 = .ok (.getfield 52, 3) := by decide +kernel
theorem dX12_game_66 : decode cX12_game 66 = .ok (.iconst 0, 1) := by decide +kernel
theorem dX12_game_67 : decode cX12_game 67 = .ok (.iaload, 1) := by decide +kernel
theorem dX12_game_68 : decode cX12_game 68 = .ok (.goto 9, 3) := by decide +kernel
theorem dX12_game_71 : decode cX12_game 71 = .ok (.aload_n 0, 1) := by decide +kernel
theorem dX12_game_72 : decode cX12_game 72 = .ok (.getfield 55, 3) := by decide +kernel
theorem dX12_game_75 : decode cX12_game 75 = .ok (.iconst 0, 1) := by decide +kernel
theorem dX12_game_76 : decode cX12_game 76 = .ok (.iaload, 1) := by decide +kernel
theorem dX12_game_77 : decode cX12_game 77 = .ok (.ireturn, 1) := by decide +kernel
theorem dX12_hearsOf_0 : decode cX12_hearsOf 0 = .ok (.iconst 0, 1) := by decide +kernel
theorem dX12_hearsOf_1 : decode cX12_hearsOf 1 = .ok (.istore_n 3, 1) := by decide +kernel
theorem dX12_hearsOf_2 : decode cX12_hearsOf 2 = .ok (.iconst 0, 1) := by decide +kernel
theorem dX12_hearsOf_3 : decode cX12_hearsOf 3 = .ok (.istore 4, 2) := by decide +kernel
theorem dX12_hearsOf_5 : decode cX12_hearsOf 5 = .ok (.iload 4, 2) := by decide +kernel
theorem dX12_hearsOf_7 : decode cX12_hearsOf 7 = .ok (.aload_n 0, 1) := by decide +kernel
theorem dX12_hearsOf_8 : decode cX12_hearsOf 8 = .ok (.getfield 7, 3) := by decide +kernel
theorem dX12_hearsOf_11 : decode cX12_hearsOf 11 = .ok (.iconst 1, 1) := by decide +kernel
theorem dX12_hearsOf_12 : decode cX12_hearsOf 12 = .ok (.iaload, 1) := by decide +kernel
theorem dX12_hearsOf_13 : decode cX12_hearsOf 13 = .ok (.if_icmp .ge 67, 3) := by decide +kernel
theorem dX12_hearsOf_16 : decode cX12_hearsOf 16 = .ok (.iload_n 3, 1) := by decide +kernel
theorem dX12_hearsOf_17 : decode cX12_hearsOf 17 = .ok (.iconst 5, 1) := by decide +kernel
theorem dX12_hearsOf_18 : decode cX12_hearsOf 18 = .ok (.if_icmp .ge 62, 3) := by decide +kernel
theorem dX12_hearsOf_21 : decode cX12_hearsOf 21 = .ok (.aload_n 0, 1) := by decide +kernel
theorem dX12_hearsOf_22 : decode cX12_hearsOf 22 = .ok (.iload 4, 2) := by decide +kernel
theorem dX12_hearsOf_24 : decode cX12_hearsOf 24 = .ok (.iconst 0, 1) := by decide +kernel
theorem dX12_hearsOf_25 : decode cX12_hearsOf 25 = .ok (.invokevirtual 171, 3) := by decide +kernel
theorem dX12_hearsOf_28 : decode cX12_hearsOf 28 = .ok (.iload_n 1, 1) := by decide +kernel
theorem dX12_hearsOf_29 : decode cX12_hearsOf 29 = .ok (.if_icmp .ne 45, 3) := by decide +kernel
theorem dX12_hearsOf_32 : decode cX12_hearsOf 32 = .ok (.aload_n 0, 1) := by decide +kernel
theorem dX12_hearsOf_33 : decode cX12_hearsOf 33 = .ok (.iload 4, 2) := by decide +kernel
theorem dX12_hearsOf_35 : decode cX12_hearsOf 35 = .ok (.iconst 4, 1) := by decide +kernel
theorem dX12_hearsOf_36 : decode cX12_hearsOf 36 = .ok (.invokevirtual 171, 3) := by decide +kernel
theorem dX12_hearsOf_39 : decode cX12_hearsOf 39 = .ok (.iconst 1, 1) := by decide +kernel
theorem dX12_hearsOf_40 : decode cX12_hearsOf 40 = .ok (.if_icmp .ne 34, 3) := by decide +kernel
theorem dX12_hearsOf_43 : decode cX12_hearsOf 43 = .ok (.aload_n 0, 1) := by decide +kernel
theorem dX12_hearsOf_44 : decode cX12_hearsOf 44 = .ok (.getfield 61, 3) := by decide +kernel
theorem dX12_hearsOf_47 : decode cX12_hearsOf 47 = .ok (.aload_n 0, 1) := by decide +kernel
theorem dX12_hearsOf_48 : decode cX12_hearsOf 48 = .ok (.getfield 308, 3) := by decide +kernel
theorem dX12_hearsOf_51 : decode cX12_hearsOf 51 = .ok (.iload_n 2, 1) := by decide +kernel
theorem dX12_hearsOf_52 : decode cX12_hearsOf 52 = .ok (.aload_n 0, 1) := by decide +kernel
theorem dX12_hearsOf_53 : decode cX12_hearsOf 53 = .ok (.iload 4, 2) := by decide +kernel
theorem dX12_hearsOf_55 : decode cX12_hearsOf 55 = .ok (.iconst 2, 1) := by decide +kernel
theorem dX12_hearsOf_56 : decode cX12_hearsOf 56 = .ok (.invokevirtual 171, 3) := by decide +kernel
theorem dX12_hearsOf_59 : decode cX12_hearsOf 59 = .ok (.imul, 1) := by decide +kernel
theorem dX12_hearsOf_60 : decode cX12_hearsOf 60 = .ok (.iastore, 1) := by decide +kernel
theorem dX12_hearsOf_61 : decode cX12_hearsOf 61 = .ok (.aload_n 0, 1) := by decide +kernel
theorem dX12_hearsOf_62 : decode cX12_hearsOf 62 = .ok (.dup, 1) := by decide +kernel
theorem dX12_hearsOf_63 : decode cX12_hearsOf 63 = .ok (.getfield 308, 3) := by decide +kernel
theorem dX12_hearsOf_66 : decode cX12_hearsOf 66 = .ok (.iconst 1, 1) := by decide +kernel
theorem dX12_hearsOf_67 : decode cX12_hearsOf 67 = .ok (.iadd, 1) := by decide +kernel
theorem dX12_hearsOf_68 : decode cX12_hearsOf 68 = .ok (.putfield 308, 3) := by decide +kernel
theorem dX12_hearsOf_71 : decode cX12_hearsOf 71 = .ok (.iinc 3 1, 3) := by decide +kernel
theorem dX12_hearsOf_74 : decode cX12_hearsOf 74 = .ok (.iinc 4 1, 3) := by decide +kernel
theorem dX12_hearsOf_77 : decode cX12_hearsOf 77 = .ok (.goto (-72), 3) := by decide +kernel
theorem dX12_hearsOf_80 : decode cX12_hearsOf 80 = .ok (.return_, 1) := by decide +kernel
theorem dX12_odds_0 : decode cX12_odds 0 = .ok (.aload_n 0, 1) := by decide +kernel
theorem dX12_odds_1 : decode cX12_odds 1 = .ok (.iload_n 1, 1) := by decide +kernel
theorem dX12_odds_2 : decode cX12_odds 2 = .ok (.invokevirtual 174, 3) := by decide +kernel
theorem dX12_odds_5 : decode cX12_odds 5 = .ok (.ifCond .eq 39, 3) := by decide +kernel
theorem dX12_odds_8 : decode cX12_odds 8 = .ok (.aload_n 0, 1) := by decide +kernel
theorem dX12_odds_9 : decode cX12_odds 9 = .ok (.iload_n 2, 1) := by decide +kernel
theorem dX12_odds_10 : decode cX12_odds 10 = .ok (.invokevirtual 174, 3) := by decide +kernel
theorem dX12_odds_13 : decode cX12_odds 13 = .ok (.ifCond .eq 31, 3) := by decide +kernel
theorem dX12_odds_16 : decode cX12_odds 16 = .ok (.iload_n 1, 1) := by decide +kernel
theorem dX12_odds_17 : decode cX12_odds 17 = .ok (.iload_n 2, 1) := by decide +kernel
theorem dX12_odds_18 : decode cX12_odds 18 = .ok (.if_icmp .eq 26, 3) := by decide +kernel
theorem dX12_odds_21 : decode cX12_odds 21 = .ok (.iload_n 3, 1) := by decide +kernel
theorem dX12_odds_22 : decode cX12_odds 22 = .ok (.i2l, 1) := by decide +kernel
theorem dX12_odds_23 : decode cX12_odds 23 = .ok (.lconst 0, 1) := by decide +kernel
theorem dX12_odds_24 : decode cX12_odds 24 = .ok (.ldc2_w 311, 3) := by decide +kernel
theorem dX12_odds_27 : decode cX12_odds 27 = .ok (.invokestatic 80, 3) := by decide +kernel
theorem dX12_odds_30 : decode cX12_odds 30 = .ok (.ifCond .eq 14, 3) := by decide +kernel
theorem dX12_odds_33 : decode cX12_odds 33 = .ok (.iload 4, 2) := by decide +kernel
theorem dX12_odds_35 : decode cX12_odds 35 = .ok (.i2l, 1) := by decide +kernel
theorem dX12_odds_36 : decode cX12_odds 36 = .ok (.lconst 0, 1) := by decide +kernel
theorem dX12_odds_37 : decode cX12_odds 37 = .ok (.lconst 1, 1) := by decide +kernel
theorem dX12_odds_38 : decode cX12_odds 38 = .ok (.invokestatic 80, 3) := by decide +kernel
theorem dX12_odds_41 : decode cX12_odds 41 = .ok (.ifCond .ne 10, 3) := by decide +kernel
theorem dX12_odds_44 : decode cX12_odds 44 = .ok (.aload_n 0, 1) := by decide +kernel
theorem dX12_odds_45 : decode cX12_odds 45 = .ok (.iconst 1, 1) := by decide +kernel
theorem dX12_odds_46 : decode cX12_odds 46 = .ok (.invokevirtual 143, 3) := by decide +kernel
theorem dX12_odds_49 : decode cX12_odds 49 = .ok (.i2l, 1) := by decide +kernel
theorem dX12_odds_50 : decode cX12_odds 50 = .ok (.lreturn, 1) := by decide +kernel
theorem dX12_odds_51 : decode cX12_odds 51 = .ok (.aload_n 0, 1) := by decide +kernel
theorem dX12_odds_52 : decode cX12_odds 52 = .ok (.iconst 0, 1) := by decide +kernel
theorem dX12_odds_53 : decode cX12_odds 53 = .ok (.putfield 308, 3) := by decide +kernel
theorem dX12_odds_56 : decode cX12_odds 56 = .ok (.aload_n 0, 1) := by decide +kernel
theorem dX12_odds_57 : decode cX12_odds 57 = .ok (.iload_n 1, 1) := by decide +kernel
theorem dX12_odds_58 : decode cX12_odds 58 = .ok (.iconst 1, 1) := by decide +kernel
theorem dX12_odds_59 : decode cX12_odds 59 = .ok (.invokevirtual 313, 3) := by decide +kernel
theorem dX12_odds_62 : decode cX12_odds 62 = .ok (.aload_n 0, 1) := by decide +kernel
theorem dX12_odds_63 : decode cX12_odds 63 = .ok (.iload_n 2, 1) := by decide +kernel
theorem dX12_odds_64 : decode cX12_odds 64 = .ok (.iconst (-1), 1) := by decide +kernel
theorem dX12_odds_65 : decode cX12_odds 65 = .ok (.invokevirtual 313, 3) := by decide +kernel
theorem dX12_odds_68 : decode cX12_odds 68 = .ok (.lconst 0, 1) := by decide +kernel
theorem dX12_odds_69 : decode cX12_odds 69 = .ok (.lstore 5, 2) := by decide +kernel
theorem dX12_odds_71 : decode cX12_odds 71 = .ok (.lconst 1, 1) := by decide +kernel
theorem dX12_odds_72 : decode cX12_odds 72 = .ok (.lstore 7, 2) := by decide +kernel
theorem dX12_odds_74 : decode cX12_odds 74 = .ok (.iconst 0, 1) := by decide +kernel
theorem dX12_odds_75 : decode cX12_odds 75 = .ok (.istore 9, 2) := by decide +kernel
theorem dX12_odds_77 : decode cX12_odds 77 = .ok (.iload 9, 2) := by decide +kernel
theorem dX12_odds_79 : decode cX12_odds 79 = .ok (.aload_n 0, 1) := by decide +kernel
theorem dX12_odds_80 : decode cX12_odds 80 = .ok (.getfield 308, 3) := by decide +kernel
theorem dX12_odds_83 : decode cX12_odds 83 = .ok (.if_icmp .ge 17, 3) := by decide +kernel
theorem dX12_odds_86 : decode cX12_odds 86 = .ok (.lload 7, 2) := by decide +kernel
theorem dX12_odds_88 : decode cX12_odds 88 = .ok (.ldc2_w 311, 3) := by decide +kernel
theorem dX12_odds_91 : decode cX12_odds 91 = .ok (.lmul, 1) := by decide +kernel
theorem dX12_odds_92 : decode cX12_odds 92 = .ok (.lstore 7, 2) := by decide +kernel
theorem dX12_odds_94 : decode cX12_odds 94 = .ok (.iinc 9 1, 3) := by decide +kernel
theorem dX12_odds_97 : decode cX12_odds 97 = .ok (.goto (-20), 3) := by decide +kernel
theorem dX12_odds_100 : decode cX12_odds 100 = .ok (.iconst 0, 1) := by decide +kernel
theorem dX12_odds_101 : decode cX12_odds 101 = .ok (.istore 9, 2) := by decide +kernel
theorem dX12_odds_103 : decode cX12_odds 103 = .ok (.iload 9, 2) := by decide +kernel
theorem dX12_odds_105 : decode cX12_odds 105 = .ok (.iconst 1, 1) := by decide +kernel
theorem dX12_odds_106 : decode cX12_odds 106 = .ok (.aload_n 0, 1) := by decide +kernel
theorem dX12_odds_107 : decode cX12_odds 107 = .ok (.getfield 308, 3) := by decide +kernel
theorem dX12_odds_110 : decode cX12_odds 110 = .ok (.ishl, 1) := by decide +kernel
theorem dX12_odds_111 : decode cX12_odds 111 = .ok (.if_icmp .ge 108, 3) := by decide +kernel
theorem dX12_odds_114 : decode cX12_odds 114 = .ok (.iconst 0, 1) := by decide +kernel
theorem dX12_odds_115 : decode cX12_odds 115 = .ok (.istore 10, 2) := by decide +kernel
theorem dX12_odds_117 : decode cX12_odds 117 = .ok (.lconst 1, 1) := by decide +kernel
theorem dX12_odds_118 : decode cX12_odds 118 = .ok (.lstore 11, 2) := by decide +kernel
theorem dX12_odds_120 : decode cX12_odds 120 = .ok (.iconst 0, 1) := by decide +kernel
theorem dX12_odds_121 : decode cX12_odds 121 = .ok (.istore 13, 2) := by decide +kernel
theorem dX12_odds_123 : decode cX12_odds 123 = .ok (.iload 13, 2) := by decide +kernel
theorem dX12_odds_125 : decode cX12_odds 125 = .ok (.aload_n 0, 1) := by decide +kernel
theorem dX12_odds_126 : decode cX12_odds 126 = .ok (.getfield 308, 3) := by decide +kernel
theorem dX12_odds_129 : decode cX12_odds 129 = .ok (.if_icmp .ge 68, 3) := by decide +kernel
theorem dX12_odds_132 : decode cX12_odds 132 = .ok (.iload 9, 2) := by decide +kernel
theorem dX12_odds_134 : decode cX12_odds 134 = .ok (.iload 13, 2) := by decide +kernel
theorem dX12_odds_136 : decode cX12_odds 136 = .ok (.ishr, 1) := by decide +kernel
theorem dX12_odds_137 : decode cX12_odds 137 = .ok (.iconst 1, 1) := by decide +kernel
theorem dX12_odds_138 : decode cX12_odds 138 = .ok (.iand, 1) := by decide +kernel
theorem dX12_odds_139 : decode cX12_odds 139 = .ok (.iconst 1, 1) := by decide +kernel
theorem dX12_odds_140 : decode cX12_odds 140 = .ok (.if_icmp .ne 7, 3) := by decide +kernel
theorem dX12_odds_143 : decode cX12_odds 143 = .ok (.iconst 1, 1) := by decide +kernel
theorem dX12_odds_144 : decode cX12_odds 144 = .ok (.goto 4, 3) := by decide +kernel
theorem dX12_odds_147 : decode cX12_odds 147 = .ok (.iconst 0, 1) := by decide +kernel
theorem dX12_odds_148 : decode cX12_odds 148 = .ok (.istore 14, 2) := by decide +kernel
theorem dX12_odds_150 : decode cX12_odds 150 = .ok (.iload 10, 2) := by decide +kernel
theorem dX12_odds_152 : decode cX12_odds 152 = .ok (.iload 14, 2) := by decide +kernel
theorem dX12_odds_154 : decode cX12_odds 154 = .ok (.ifCond .eq 13, 3) := by decide +kernel
theorem dX12_odds_157 : decode cX12_odds 157 = .ok (.aload_n 0, 1) := by decide +kernel
theorem dX12_odds_158 : decode cX12_odds 158 = .ok (.getfield 61, 3) := by decide +kernel
theorem dX12_odds_161 : decode cX12_odds 161 = .ok (.iload 13, 2) := by decide +kernel
theorem dX12_odds_163 : decode cX12_odds 163 = .ok (.iaload, 1) := by decide +kernel
theorem dX12_odds_164 : decode cX12_odds 164 = .ok (.goto 4, 3) := by decide +kernel
theorem dX12_odds_167 : decode cX12_odds 167 = .ok (.iconst 0, 1) := by decide +kernel
theorem dX12_odds_168 : decode cX12_odds 168 = .ok (.iadd, 1) := by decide +kernel
theorem dX12_odds_169 : decode cX12_odds 169 = .ok (.istore 10, 2) := by decide +kernel
theorem dX12_odds_171 : decode cX12_odds 171 = .ok (.lload 11, 2) := by decide +kernel
theorem dX12_odds_173 : decode cX12_odds 173 = .ok (.iload 14, 2) := by decide +kernel
theorem dX12_odds_175 : decode cX12_odds 175 = .ok (.ifCond .eq 8, 3) := by decide +kernel
theorem dX12_odds_178 : decode cX12_odds 178 = .ok (.iload_n 3, 1) := by decide +kernel
theorem dX12_odds_179 : decode cX12_odds 179 = .ok (.i2l, 1) := by decide +kernel
theorem dX12_odds_180 : decode cX12_odds 180 = .ok (.goto 8, 3) := by decide +kernel
theorem dX12_odds_183 : decode cX12_odds 183 = .ok (.bipush 16, 2) := by decide +kernel
theorem dX12_odds_185 : decode cX12_odds 185 = .ok (.iload_n 3, 1) := by decide +kernel
theorem dX12_odds_186 : decode cX12_odds 186 = .ok (.isub, 1) := by decide +kernel
theorem dX12_odds_187 : decode cX12_odds 187 = .ok (.i2l, 1) := by decide +kernel
theorem dX12_odds_188 : decode cX12_odds 188 = .ok (.lmul, 1) := by decide +kernel
theorem dX12_odds_189 : decode cX12_odds 189 = .ok (.lstore 11, 2) := by decide +kernel
theorem dX12_odds_191 : decode cX12_odds 191 = .ok (.iinc 13 1, 3) := by decide +kernel
theorem dX12_odds_194 : decode cX12_odds 194 = .ok (.goto (-71), 3) := by decide +kernel
theorem dX12_odds_197 : decode cX12_odds 197 = .ok (.lload 5, 2) := by decide +kernel
theorem dX12_odds_199 : decode cX12_odds 199 = .ok (.iload 10, 2) := by decide +kernel
theorem dX12_odds_201 : decode cX12_odds 201 = .ok (.ifCond .le 8, 3) := by decide +kernel
theorem dX12_odds_204 : decode cX12_odds 204 = .ok (.lload 11, 2) := by decide +kernel
theorem dX12_odds_206 : decode cX12_odds 206 = .ok (.goto 4, 3) := by decide +kernel
theorem dX12_odds_209 : decode cX12_odds 209 = .ok (.lconst 0, 1) := by decide +kernel
theorem dX12_odds_210 : decode cX12_odds 210 = .ok (.ladd, 1) := by decide +kernel
theorem dX12_odds_211 : decode cX12_odds 211 = .ok (.lstore 5, 2) := by decide +kernel
theorem dX12_odds_213 : decode cX12_odds 213 = .ok (.iinc 9 1, 3) := by decide +kernel
theorem dX12_odds_216 : decode cX12_odds 216 = .ok (.goto (-113), 3) := by decide +kernel
theorem dX12_odds_219 : decode cX12_odds 219 = .ok (.lload 5, 2) := by decide +kernel
theorem dX12_odds_221 : decode cX12_odds 221 = .ok (.lload 7, 2) := by decide +kernel
theorem dX12_odds_223 : decode cX12_odds 223 = .ok (.invokestatic 286, 3) := by decide +kernel
theorem dX12_odds_226 : decode cX12_odds 226 = .ok (.lstore 9, 2) := by decide +kernel
theorem dX12_odds_228 : decode cX12_odds 228 = .ok (.iload 4, 2) := by decide +kernel
theorem dX12_odds_230 : decode cX12_odds 230 = .ok (.ifCond .ne 8, 3) := by decide +kernel
theorem dX12_odds_233 : decode cX12_odds 233 = .ok (.lload 5, 2) := by decide +kernel
theorem dX12_odds_235 : decode cX12_odds 235 = .ok (.goto 5, 3) := by decide +kernel
theorem dX12_odds_238 : decode cX12_odds 238 = .ok (.lload 7, 2) := by decide +kernel
theorem dX12_odds_240 : decode cX12_odds 240 = .ok (.lload 9, 2) := by decide +kernel
theorem dX12_odds_242 : decode cX12_odds 242 = .ok (.ldiv, 1) := by decide +kernel
theorem dX12_odds_243 : decode cX12_odds 243 = .ok (.lreturn, 1) := by decide +kernel
theorem dX12_carried_0 : decode cX12_carried 0 = .ok (.aload_n 0, 1) := by decide +kernel
theorem dX12_carried_1 : decode cX12_carried 1 = .ok (.iload_n 1, 1) := by decide +kernel
theorem dX12_carried_2 : decode cX12_carried 2 = .ok (.invokevirtual 174, 3) := by decide +kernel
theorem dX12_carried_5 : decode cX12_carried 5 = .ok (.ifCond .eq 38, 3) := by decide +kernel
theorem dX12_carried_8 : decode cX12_carried 8 = .ok (.iload_n 2, 1) := by decide +kernel
theorem dX12_carried_9 : decode cX12_carried 9 = .ok (.i2l, 1) := by decide +kernel
theorem dX12_carried_10 : decode cX12_carried 10 = .ok (.lconst 1, 1) := by decide +kernel
theorem dX12_carried_11 : decode cX12_carried 11 = .ok (.ldc2_w 317, 3) := by decide +kernel
theorem dX12_carried_14 : decode cX12_carried 14 = .ok (.invokestatic 80, 3) := by decide +kernel
theorem dX12_carried_17 : decode cX12_carried 17 = .ok (.ifCond .eq 26, 3) := by decide +kernel
theorem dX12_carried_20 : decode cX12_carried 20 = .ok (.iload_n 3, 1) := by decide +kernel
theorem dX12_carried_21 : decode cX12_carried 21 = .ok (.i2l, 1) := by decide +kernel
theorem dX12_carried_22 : decode cX12_carried 22 = .ok (.lconst 1, 1) := by decide +kernel
theorem dX12_carried_23 : decode cX12_carried 23 = .ok (.ldc2_w 195, 3) := by decide +kernel
theorem dX12_carried_26 : decode cX12_carried 26 = .ok (.invokestatic 80, 3) := by decide +kernel
theorem dX12_carried_29 : decode cX12_carried 29 = .ok (.ifCond .eq 14, 3) := by decide +kernel
theorem dX12_carried_32 : decode cX12_carried 32 = .ok (.iload 4, 2) := by decide +kernel
theorem dX12_carried_34 : decode cX12_carried 34 = .ok (.i2l, 1) := by decide +kernel
theorem dX12_carried_35 : decode cX12_carried 35 = .ok (.lconst 0, 1) := by decide +kernel
theorem dX12_carried_36 : decode cX12_carried 36 = .ok (.lconst 1, 1) := by decide +kernel
theorem dX12_carried_37 : decode cX12_carried 37 = .ok (.invokestatic 80, 3) := by decide +kernel
theorem dX12_carried_40 : decode cX12_carried 40 = .ok (.ifCond .ne 9, 3) := by decide +kernel
theorem dX12_carried_43 : decode cX12_carried 43 = .ok (.aload_n 0, 1) := by decide +kernel
theorem dX12_carried_44 : decode cX12_carried 44 = .ok (.iconst 1, 1) := by decide +kernel
theorem dX12_carried_45 : decode cX12_carried 45 = .ok (.invokevirtual 143, 3) := by decide +kernel
theorem dX12_carried_48 : decode cX12_carried 48 = .ok (.ireturn, 1) := by decide +kernel
theorem dX12_carried_49 : decode cX12_carried 49 = .ok (.iconst 0, 1) := by decide +kernel
theorem dX12_carried_50 : decode cX12_carried 50 = .ok (.istore 5, 2) := by decide +kernel
theorem dX12_carried_52 : decode cX12_carried 52 = .ok (.iconst (-1), 1) := by decide +kernel
theorem dX12_carried_53 : decode cX12_carried 53 = .ok (.istore 6, 2) := by decide +kernel
theorem dX12_carried_55 : decode cX12_carried 55 = .ok (.iconst 1, 1) := by decide +kernel
theorem dX12_carried_56 : decode cX12_carried 56 = .ok (.istore 7, 2) := by decide +kernel
theorem dX12_carried_58 : decode cX12_carried 58 = .ok (.iload 7, 2) := by decide +kernel
theorem dX12_carried_60 : decode cX12_carried 60 = .ok (.aload_n 0, 1) := by decide +kernel
theorem dX12_carried_61 : decode cX12_carried 61 = .ok (.iload_n 1, 1) := by decide +kernel
theorem dX12_carried_62 : decode cX12_carried 62 = .ok (.iconst 2, 1) := by decide +kernel
theorem dX12_carried_63 : decode cX12_carried 63 = .ok (.invokevirtual 161, 3) := by decide +kernel
theorem dX12_carried_66 : decode cX12_carried 66 = .ok (.if_icmp .gt 68, 3) := by decide +kernel
theorem dX12_carried_69 : decode cX12_carried 69 = .ok (.iload_n 2, 1) := by decide +kernel
theorem dX12_carried_70 : decode cX12_carried 70 = .ok (.iload_n 3, 1) := by decide +kernel
theorem dX12_carried_71 : decode cX12_carried 71 = .ok (.iconst 2, 1) := by decide +kernel
theorem dX12_carried_72 : decode cX12_carried 72 = .ok (.iload 7, 2) := by decide +kernel
theorem dX12_carried_74 : decode cX12_carried 74 = .ok (.bipush 20, 2) := by decide +kernel
theorem dX12_carried_76 : decode cX12_carried 76 = .ok (.idiv, 1) := by decide +kernel
theorem dX12_carried_77 : decode cX12_carried 77 = .ok (.iadd, 1) := by decide +kernel
theorem dX12_carried_78 : decode cX12_carried 78 = .ok (.imul, 1) := by decide +kernel
theorem dX12_carried_79 : decode cX12_carried 79 = .ok (.idiv, 1) := by decide +kernel
theorem dX12_carried_80 : decode cX12_carried 80 = .ok (.istore 8, 2) := by decide +kernel
theorem dX12_carried_82 : decode cX12_carried 82 = .ok (.iload 8, 2) := by decide +kernel
theorem dX12_carried_84 : decode cX12_carried 84 = .ok (.ifCond .ne 7, 3) := by decide +kernel
theorem dX12_carried_87 : decode cX12_carried 87 = .ok (.iconst 0, 1) := by decide +kernel
theorem dX12_carried_88 : decode cX12_carried 88 = .ok (.goto 23, 3) := by decide +kernel
theorem dX12_carried_91 : decode cX12_carried 91 = .ok (.iload 8, 2) := by decide +kernel
theorem dX12_carried_93 : decode cX12_carried 93 = .ok (.iload 7, 2) := by decide +kernel
theorem dX12_carried_95 : decode cX12_carried 95 = .ok (.aload_n 0, 1) := by decide +kernel
theorem dX12_carried_96 : decode cX12_carried 96 = .ok (.iconst 1, 1) := by decide +kernel
theorem dX12_carried_97 : decode cX12_carried 97 = .ok (.iload 7, 2) := by decide +kernel
theorem dX12_carried_99 : decode cX12_carried 99 = .ok (.iload_n 3, 1) := by decide +kernel
theorem dX12_carried_100 : decode cX12_carried 100 = .ok (.aload_n 0, 1) := by decide +kernel
theorem dX12_carried_101 : decode cX12_carried 101 = .ok (.iload_n 1, 1) := by decide +kernel
theorem dX12_carried_102 : decode cX12_carried 102 = .ok (.iconst 1, 1) := by decide +kernel
theorem dX12_carried_103 : decode cX12_carried 103 = .ok (.invokevirtual 161, 3) := by decide +kernel
theorem dX12_carried_106 : decode cX12_carried 106 = .ok (.invokevirtual 157, 3) := by decide +kernel
theorem dX12_carried_109 : decode cX12_carried 109 = .ok (.isub, 1) := by decide +kernel
theorem dX12_carried_110 : decode cX12_carried 110 = .ok (.imul, 1) := by decide +kernel
theorem dX12_carried_111 : decode cX12_carried 111 = .ok (.istore 9, 2) := by decide +kernel
theorem dX12_carried_113 : decode cX12_carried 113 = .ok (.iload 9, 2) := by decide +kernel
theorem dX12_carried_115 : decode cX12_carried 115 = .ok (.iload 6, 2) := by decide +kernel
theorem dX12_carried_117 : decode cX12_carried 117 = .ok (.if_icmp .le 11, 3) := by decide +kernel
theorem dX12_carried_120 : decode cX12_carried 120 = .ok (.iload 9, 2) := by decide +kernel
theorem dX12_carried_122 : decode cX12_carried 122 = .ok (.istore 6, 2) := by decide +kernel
theorem dX12_carried_124 : decode cX12_carried 124 = .ok (.iload 7, 2) := by decide +kernel
theorem dX12_carried_126 : decode cX12_carried 126 = .ok (.istore 5, 2) := by decide +kernel
theorem dX12_carried_128 : decode cX12_carried 128 = .ok (.iinc 7 1, 3) := by decide +kernel
theorem dX12_carried_131 : decode cX12_carried 131 = .ok (.goto (-73), 3) := by decide +kernel
theorem dX12_carried_134 : decode cX12_carried 134 = .ok (.iload 4, 2) := by decide +kernel
theorem dX12_carried_136 : decode cX12_carried 136 = .ok (.ifCond .ne 8, 3) := by decide +kernel
theorem dX12_carried_139 : decode cX12_carried 139 = .ok (.iload 5, 2) := by decide +kernel
theorem dX12_carried_141 : decode cX12_carried 141 = .ok (.goto 5, 3) := by decide +kernel
theorem dX12_carried_144 : decode cX12_carried 144 = .ok (.iload 6, 2) := by decide +kernel
theorem dX12_carried_146 : decode cX12_carried 146 = .ok (.ireturn, 1) := by decide +kernel
theorem dX12_floorsOf_0 : decode cX12_floorsOf 0 = .ok (.aload_n 0, 1) := by decide +kernel
theorem dX12_floorsOf_1 : decode cX12_floorsOf 1 = .ok (.invokevirtual 244, 3) := by decide +kernel
theorem dX12_floorsOf_4 : decode cX12_floorsOf 4 = .ok (.iconst 0, 1) := by decide +kernel
theorem dX12_floorsOf_5 : decode cX12_floorsOf 5 = .ok (.istore_n 2, 1) := by decide +kernel
theorem dX12_floorsOf_6 : decode cX12_floorsOf 6 = .ok (.iconst 1, 1) := by decide +kernel
theorem dX12_floorsOf_7 : decode cX12_floorsOf 7 = .ok (.istore_n 3, 1) := by decide +kernel
theorem dX12_floorsOf_8 : decode cX12_floorsOf 8 = .ok (.iload_n 2, 1) := by decide +kernel
theorem dX12_floorsOf_9 : decode cX12_floorsOf 9 = .ok (.aload_n 0, 1) := by decide +kernel
theorem dX12_floorsOf_10 : decode cX12_floorsOf 10 = .ok (.getfield 70, 3) := by decide +kernel
theorem dX12_floorsOf_13 : decode cX12_floorsOf 13 = .ok (.iload_n 1, 1) := by decide +kernel
theorem dX12_floorsOf_14 : decode cX12_floorsOf 14 = .ok (.iaload, 1) := by decide +kernel
theorem dX12_floorsOf_15 : decode cX12_floorsOf 15 = .ok (.if_icmp .ge 52, 3) := by decide +kernel
theorem dX12_floorsOf_18 : decode cX12_floorsOf 18 = .ok (.iload_n 3, 1) := by decide +kernel
theorem dX12_floorsOf_19 : decode cX12_floorsOf 19 = .ok (.ifCond .eq 48, 3) := by decide +kernel
theorem dX12_floorsOf_22 : decode cX12_floorsOf 22 = .ok (.aload_n 0, 1) := by decide +kernel
theorem dX12_floorsOf_23 : decode cX12_floorsOf 23 = .ok (.invokevirtual 235, 3) := by decide +kernel
theorem dX12_floorsOf_26 : decode cX12_floorsOf 26 = .ok (.aload_n 0, 1) := by decide +kernel
theorem dX12_floorsOf_27 : decode cX12_floorsOf 27 = .ok (.getfield 7, 3) := by decide +kernel
theorem dX12_floorsOf_30 : decode cX12_floorsOf 30 = .ok (.iconst 4, 1) := by decide +kernel
theorem dX12_floorsOf_31 : decode cX12_floorsOf 31 = .ok (.iaload, 1) := by decide +kernel
theorem dX12_floorsOf_32 : decode cX12_floorsOf 32 = .ok (.aload_n 0, 1) := by decide +kernel
theorem dX12_floorsOf_33 : decode cX12_floorsOf 33 = .ok (.getfield 73, 3) := by decide +kernel
theorem dX12_floorsOf_36 : decode cX12_floorsOf 36 = .ok (.bipush 40, 2) := by decide +kernel
theorem dX12_floorsOf_38 : decode cX12_floorsOf 38 = .ok (.iload_n 1, 1) := by decide +kernel
theorem dX12_floorsOf_39 : decode cX12_floorsOf 39 = .ok (.imul, 1) := by decide +kernel
theorem dX12_floorsOf_40 : decode cX12_floorsOf 40 = .ok (.iload_n 2, 1) := by decide +kernel
theorem dX12_floorsOf_41 : decode cX12_floorsOf 41 = .ok (.iadd, 1) := by decide +kernel
theorem dX12_floorsOf_42 : decode cX12_floorsOf 42 = .ok (.iaload, 1) := by decide +kernel
theorem dX12_floorsOf_43 : decode cX12_floorsOf 43 = .ok (.if_icmp .ne 7, 3) := by decide +kernel
theorem dX12_floorsOf_46 : decode cX12_floorsOf 46 = .ok (.iconst 1, 1) := by decide +kernel
theorem dX12_floorsOf_47 : decode cX12_floorsOf 47 = .ok (.goto 4, 3) := by decide +kernel
theorem dX12_floorsOf_50 : decode cX12_floorsOf 50 = .ok (.iconst 0, 1) := by decide +kernel
theorem dX12_floorsOf_51 : decode cX12_floorsOf 51 = .ok (.istore_n 3, 1) := by decide +kernel
theorem dX12_floorsOf_52 : decode cX12_floorsOf 52 = .ok (.iload_n 2, 1) := by decide +kernel
theorem dX12_floorsOf_53 : decode cX12_floorsOf 53 = .ok (.iload_n 3, 1) := by decide +kernel
theorem dX12_floorsOf_54 : decode cX12_floorsOf 54 = .ok (.ifCond .eq 7, 3) := by decide +kernel
theorem dX12_floorsOf_57 : decode cX12_floorsOf 57 = .ok (.iconst 1, 1) := by decide +kernel
theorem dX12_floorsOf_58 : decode cX12_floorsOf 58 = .ok (.goto 4, 3) := by decide +kernel
theorem dX12_floorsOf_61 : decode cX12_floorsOf 61 = .ok (.iconst 0, 1) := by decide +kernel
theorem dX12_floorsOf_62 : decode cX12_floorsOf 62 = .ok (.iadd, 1) := by decide +kernel
theorem dX12_floorsOf_63 : decode cX12_floorsOf 63 = .ok (.istore_n 2, 1) := by decide +kernel
theorem dX12_floorsOf_64 : decode cX12_floorsOf 64 = .ok (.goto (-56), 3) := by decide +kernel
theorem dX12_floorsOf_67 : decode cX12_floorsOf 67 = .ok (.aload_n 0, 1) := by decide +kernel
theorem dX12_floorsOf_68 : decode cX12_floorsOf 68 = .ok (.invokevirtual 247, 3) := by decide +kernel
theorem dX12_floorsOf_71 : decode cX12_floorsOf 71 = .ok (.iload_n 2, 1) := by decide +kernel
theorem dX12_floorsOf_72 : decode cX12_floorsOf 72 = .ok (.ireturn, 1) := by decide +kernel
theorem dX12_explained_0 : decode cX12_explained 0 = .ok (.aload_n 0, 1) := by decide +kernel
theorem dX12_explained_1 : decode cX12_explained 1 = .ok (.iload_n 1, 1) := by decide +kernel
theorem dX12_explained_2 : decode cX12_explained 2 = .ok (.invokevirtual 174, 3) := by decide +kernel
theorem dX12_explained_5 : decode cX12_explained 5 = .ok (.ifCond .eq 10, 3) := by decide +kernel
theorem dX12_explained_8 : decode cX12_explained 8 = .ok (.iload_n 2, 1) := by decide +kernel
theorem dX12_explained_9 : decode cX12_explained 9 = .ok (.invokestatic 319, 3) := by decide +kernel
theorem dX12_explained_12 : decode cX12_explained 12 = .ok (.ifCond .ne 9, 3) := by decide +kernel
theorem dX12_explained_15 : decode cX12_explained 15 = .ok (.aload_n 0, 1) := by decide +kernel
theorem dX12_explained_16 : decode cX12_explained 16 = .ok (.iconst 1, 1) := by decide +kernel
theorem dX12_explained_17 : decode cX12_explained 17 = .ok (.invokevirtual 143, 3) := by decide +kernel
theorem dX12_explained_20 : decode cX12_explained 20 = .ok (.ireturn, 1) := by decide +kernel
theorem dX12_explained_21 : decode cX12_explained 21 = .ok (.aload_n 0, 1) := by decide +kernel
theorem dX12_explained_22 : decode cX12_explained 22 = .ok (.getfield 67, 3) := by decide +kernel
theorem dX12_explained_25 : decode cX12_explained 25 = .ok (.iload_n 2, 1) := by decide +kernel
theorem dX12_explained_26 : decode cX12_explained 26 = .ok (.iaload, 1) := by decide +kernel
theorem dX12_explained_27 : decode cX12_explained 27 = .ok (.ifCond .ne 9, 3) := by decide +kernel
theorem dX12_explained_30 : decode cX12_explained 30 = .ok (.aload_n 0, 1) := by decide +kernel
theorem dX12_explained_31 : decode cX12_explained 31 = .ok (.iconst 2, 1) := by decide +kernel
theorem dX12_explained_32 : decode cX12_explained 32 = .ok (.invokevirtual 143, 3) := by decide +kernel
theorem dX12_explained_35 : decode cX12_explained 35 = .ok (.ireturn, 1) := by decide +kernel
theorem dX12_explained_36 : decode cX12_explained 36 = .ok (.aload_n 0, 1) := by decide +kernel
theorem dX12_explained_37 : decode cX12_explained 37 = .ok (.iload_n 1, 1) := by decide +kernel
theorem dX12_explained_38 : decode cX12_explained 38 = .ok (.iconst 1, 1) := by decide +kernel
theorem dX12_explained_39 : decode cX12_explained 39 = .ok (.invokevirtual 161, 3) := by decide +kernel
theorem dX12_explained_42 : decode cX12_explained 42 = .ok (.istore_n 3, 1) := by decide +kernel
theorem dX12_explained_43 : decode cX12_explained 43 = .ok (.iconst (-1), 1) := by decide +kernel
theorem dX12_explained_44 : decode cX12_explained 44 = .ok (.istore 4, 2) := by decide +kernel
theorem dX12_explained_46 : decode cX12_explained 46 = .ok (.iconst 0, 1) := by decide +kernel
theorem dX12_explained_47 : decode cX12_explained 47 = .ok (.istore 5, 2) := by decide +kernel
theorem dX12_explained_49 : decode cX12_explained 49 = .ok (.iload 5, 2) := by decide +kernel
theorem dX12_explained_51 : decode cX12_explained 51 = .ok (.bipush 9, 2) := by decide +kernel
theorem dX12_explained_53 : decode cX12_explained 53 = .ok (.if_icmp .gt 44, 3) := by decide +kernel
theorem dX12_explained_56 : decode cX12_explained 56 = .ok (.iload 4, 2) := by decide +kernel
theorem dX12_explained_58 : decode cX12_explained 58 = .ok (.ifCond .ge 39, 3) := by decide +kernel
theorem dX12_explained_61 : decode cX12_explained 61 = .ok (.aload_n 0, 1) := by decide +kernel
theorem dX12_explained_62 : decode cX12_explained 62 = .ok (.iload_n 1, 1) := by decide +kernel
theorem dX12_explained_63 : decode cX12_explained 63 = .ok (.iconst 1, 1) := by decide +kernel
theorem dX12_explained_64 : decode cX12_explained 64 = .ok (.iload 5, 2) := by decide +kernel
theorem dX12_explained_66 : decode cX12_explained 66 = .ok (.invokevirtual 167, 3) := by decide +kernel
theorem dX12_explained_69 : decode cX12_explained 69 = .ok (.aload_n 0, 1) := by decide +kernel
theorem dX12_explained_70 : decode cX12_explained 70 = .ok (.iload_n 2, 1) := by decide +kernel
theorem dX12_explained_71 : decode cX12_explained 71 = .ok (.invokevirtual 322, 3) := by decide +kernel
theorem dX12_explained_74 : decode cX12_explained 74 = .ok (.aload_n 0, 1) := by decide +kernel
theorem dX12_explained_75 : decode cX12_explained 75 = .ok (.getfield 70, 3) := by decide +kernel
theorem dX12_explained_78 : decode cX12_explained 78 = .ok (.iload_n 2, 1) := by decide +kernel
theorem dX12_explained_79 : decode cX12_explained 79 = .ok (.iaload, 1) := by decide +kernel
theorem dX12_explained_80 : decode cX12_explained 80 = .ok (.if_icmp .ne 8, 3) := by decide +kernel
theorem dX12_explained_83 : decode cX12_explained 83 = .ok (.iload 5, 2) := by decide +kernel
theorem dX12_explained_85 : decode cX12_explained 85 = .ok (.goto 4, 3) := by decide +kernel
theorem dX12_explained_88 : decode cX12_explained 88 = .ok (.iconst (-1), 1) := by decide +kernel
theorem dX12_explained_89 : decode cX12_explained 89 = .ok (.istore 4, 2) := by decide +kernel
theorem dX12_explained_91 : decode cX12_explained 91 = .ok (.iinc 5 1, 3) := by decide +kernel
theorem dX12_explained_94 : decode cX12_explained 94 = .ok (.goto (-45), 3) := by decide +kernel
theorem dX12_explained_97 : decode cX12_explained 97 = .ok (.aload_n 0, 1) := by decide +kernel
theorem dX12_explained_98 : decode cX12_explained 98 = .ok (.iload_n 1, 1) := by decide +kernel
theorem dX12_explained_99 : decode cX12_explained 99 = .ok (.iconst 1, 1) := by decide +kernel
theorem dX12_explained_100 : decode cX12_explained 100 = .ok (.iload_n 3, 1) := by decide +kernel
theorem dX12_explained_101 : decode cX12_explained 101 = .ok (.invokevirtual 167, 3) := by decide +kernel
theorem dX12_explained_104 : decode cX12_explained 104 = .ok (.iload 4, 2) := by decide +kernel
theorem dX12_explained_106 : decode cX12_explained 106 = .ok (.ifCond .ge 11, 3) := by decide +kernel
theorem dX12_explained_109 : decode cX12_explained 109 = .ok (.aload_n 0, 1) := by decide +kernel
theorem dX12_explained_110 : decode cX12_explained 110 = .ok (.iconst 2, 1) := by decide +kernel
theorem dX12_explained_111 : decode cX12_explained 111 = .ok (.invokevirtual 143, 3) := by decide +kernel
theorem dX12_explained_114 : decode cX12_explained 114 = .ok (.goto 5, 3) := by decide +kernel
theorem dX12_explained_117 : decode cX12_explained 117 = .ok (.iload 4, 2) := by decide +kernel
theorem dX12_explained_119 : decode cX12_explained 119 = .ok (.ireturn, 1) := by decide +kernel
theorem dX12_seed_0 : decode cX12_seed 0 = .ok (.aload_n 0, 1) := by decide +kernel
theorem dX12_seed_1 : decode cX12_seed 1 = .ok (.getfield 7, 3) := by decide +kernel
theorem dX12_seed_4 : decode cX12_seed 4 = .ok (.iconst 2, 1) := by decide +kernel
theorem dX12_seed_5 : decode cX12_seed 5 = .ok (.iaload, 1) := by decide +kernel
theorem dX12_seed_6 : decode cX12_seed 6 = .ok (.istore_n 2, 1) := by decide +kernel
theorem dX12_seed_7 : decode cX12_seed 7 = .ok (.aload_n 0, 1) := by decide +kernel
theorem dX12_seed_8 : decode cX12_seed 8 = .ok (.getfield 7, 3) := by decide +kernel
theorem dX12_seed_11 : decode cX12_seed 11 = .ok (.iconst 2, 1) := by decide +kernel
theorem dX12_seed_12 : decode cX12_seed 12 = .ok (.iload_n 1, 1) := by decide +kernel
theorem dX12_seed_13 : decode cX12_seed 13 = .ok (.iastore, 1) := by decide +kernel
theorem dX12_seed_14 : decode cX12_seed 14 = .ok (.iload_n 2, 1) := by decide +kernel
theorem dX12_seed_15 : decode cX12_seed 15 = .ok (.ireturn, 1) := by decide +kernel
theorem dX12_ran_0 : decode cX12_ran 0 = .ok (.aload_n 0, 1) := by decide +kernel
theorem dX12_ran_1 : decode cX12_ran 1 = .ok (.getfield 325, 3) := by decide +kernel
theorem dX12_ran_4 : decode cX12_ran 4 = .ok (.bipush 40, 2) := by decide +kernel
theorem dX12_ran_6 : decode cX12_ran 6 = .ok (.if_icmp .ge 23, 3) := by decide +kernel
theorem dX12_ran_9 : decode cX12_ran 9 = .ok (.aload_n 0, 1) := by decide +kernel
theorem dX12_ran_10 : decode cX12_ran 10 = .ok (.getfield 64, 3) := by decide +kernel
theorem dX12_ran_13 : decode cX12_ran 13 = .ok (.aload_n 0, 1) := by decide +kernel
theorem dX12_ran_14 : decode cX12_ran 14 = .ok (.getfield 325, 3) := by decide +kernel
theorem dX12_ran_17 : decode cX12_ran 17 = .ok (.iload_n 1, 1) := by decide +kernel
theorem dX12_ran_18 : decode cX12_ran 18 = .ok (.iastore, 1) := by decide +kernel
theorem dX12_ran_19 : decode cX12_ran 19 = .ok (.aload_n 0, 1) := by decide +kernel
theorem dX12_ran_20 : decode cX12_ran 20 = .ok (.dup, 1) := by decide +kernel
theorem dX12_ran_21 : decode cX12_ran 21 = .ok (.getfield 325, 3) := by decide +kernel
theorem dX12_ran_24 : decode cX12_ran 24 = .ok (.iconst 1, 1) := by decide +kernel
theorem dX12_ran_25 : decode cX12_ran 25 = .ok (.iadd, 1) := by decide +kernel
theorem dX12_ran_26 : decode cX12_ran 26 = .ok (.putfield 325, 3) := by decide +kernel
theorem dX12_ran_29 : decode cX12_ran 29 = .ok (.return_, 1) := by decide +kernel
theorem dX12_own_0 : decode cX12_own 0 = .ok (.aload_n 0, 1) := by decide +kernel
theorem dX12_own_1 : decode cX12_own 1 = .ok (.aload_n 0, 1) := by decide +kernel
theorem dX12_own_2 : decode cX12_own 2 = .ok (.getfield 328, 3) := by decide +kernel
theorem dX12_own_5 : decode cX12_own 5 = .ok (.iconst 0, 1) := by decide +kernel
theorem dX12_own_6 : decode cX12_own 6 = .ok (.invokevirtual 161, 3) := by decide +kernel
theorem dX12_own_9 : decode cX12_own 9 = .ok (.ireturn, 1) := by decide +kernel
theorem dX12_poursBy_0 : decode cX12_poursBy 0 = .ok (.iload_n 1, 1) := by decide +kernel
theorem dX12_poursBy_1 : decode cX12_poursBy 1 = .ok (.lookupswitch 58 #[(0, 27), (2, 40)], 27) := by decide +kernel
theorem dX12_poursBy_28 : decode cX12_poursBy 28 = .ok (.aload_n 0, 1) := by decide +kernel
theorem dX12_poursBy_29 : decode cX12_poursBy 29 = .ok (.bipush 10, 2) := by decide +kernel
theorem dX12_poursBy_31 : decode cX12_poursBy 31 = .ok (.invokevirtual 331, 3) := by decide +kernel
theorem dX12_poursBy_34 : decode cX12_poursBy 34 = .ok (.iload_n 2, 1) := by decide +kernel
theorem dX12_poursBy_35 : decode cX12_poursBy 35 = .ok (.aload_n 0, 1) := by decide +kernel
theorem dX12_poursBy_36 : decode cX12_poursBy 36 = .ok (.getfield 328, 3) := by decide +kernel
theorem dX12_poursBy_39 : decode cX12_poursBy 39 = .ok (.iadd, 1) := by decide +kernel
theorem dX12_poursBy_40 : decode cX12_poursBy 40 = .ok (.ireturn, 1) := by decide +kernel
theorem dX12_poursBy_41 : decode cX12_poursBy 41 = .ok (.aload_n 0, 1) := by decide +kernel
theorem dX12_poursBy_42 : decode cX12_poursBy 42 = .ok (.bipush 30, 2) := by decide +kernel
theorem dX12_poursBy_44 : decode cX12_poursBy 44 = .ok (.invokevirtual 331, 3) := by decide +kernel
theorem dX12_poursBy_47 : decode cX12_poursBy 47 = .ok (.aload_n 0, 1) := by decide +kernel
theorem dX12_poursBy_48 : decode cX12_poursBy 48 = .ok (.iconst 2, 1) := by decide +kernel
theorem dX12_poursBy_49 : decode cX12_poursBy 49 = .ok (.invokestatic 190, 3) := by decide +kernel
theorem dX12_poursBy_52 : decode cX12_poursBy 52 = .ok (.iload_n 2, 1) := by decide +kernel
theorem dX12_poursBy_53 : decode cX12_poursBy 53 = .ok (.invokevirtual 334, 3) := by decide +kernel
theorem dX12_poursBy_56 : decode cX12_poursBy 56 = .ok (.iconst 3, 1) := by decide +kernel
theorem dX12_poursBy_57 : decode cX12_poursBy 57 = .ok (.imul, 1) := by decide +kernel
theorem dX12_poursBy_58 : decode cX12_poursBy 58 = .ok (.ireturn, 1) := by decide +kernel
theorem dX12_poursBy_59 : decode cX12_poursBy 59 = .ok (.aload_n 0, 1) := by decide +kernel
theorem dX12_poursBy_60 : decode cX12_poursBy 60 = .ok (.iload_n 1, 1) := by decide +kernel
theorem dX12_poursBy_61 : decode cX12_poursBy 61 = .ok (.invokestatic 190, 3) := by decide +kernel
theorem dX12_poursBy_64 : decode cX12_poursBy 64 = .ok (.iload_n 2, 1) := by decide +kernel
theorem dX12_poursBy_65 : decode cX12_poursBy 65 = .ok (.invokevirtual 334, 3) := by decide +kernel
theorem dX12_poursBy_68 : decode cX12_poursBy 68 = .ok (.ireturn, 1) := by decide +kernel
theorem dX12_speaksBy_0 : decode cX12_speaksBy 0 = .ok (.iload_n 1, 1) := by decide +kernel
theorem dX12_speaksBy_1 : decode cX12_speaksBy 1 = .ok (.tableswitch 99 0 4 #[35, 53, 99, 99, 81], 35) := by decide +kernel
theorem dX12_speaksBy_36 : decode cX12_speaksBy 36 = .ok (.aload_n 0, 1) := by decide +kernel
theorem dX12_speaksBy_37 : decode cX12_speaksBy 37 = .ok (.bipush 11, 2) := by decide +kernel
theorem dX12_speaksBy_39 : decode cX12_speaksBy 39 = .ok (.invokevirtual 331, 3) := by decide +kernel
theorem dX12_speaksBy_42 : decode cX12_speaksBy 42 = .ok (.aload_n 0, 1) := by decide +kernel
theorem dX12_speaksBy_43 : decode cX12_speaksBy 43 = .ok (.aload_n 0, 1) := by decide +kernel
theorem dX12_speaksBy_44 : decode cX12_speaksBy 44 = .ok (.invokevirtual 337, 3) := by decide +kernel
theorem dX12_speaksBy_47 : decode cX12_speaksBy 47 = .ok (.iload_n 2, 1) := by decide +kernel
theorem dX12_speaksBy_48 : decode cX12_speaksBy 48 = .ok (.invokevirtual 334, 3) := by decide +kernel
theorem dX12_speaksBy_51 : decode cX12_speaksBy 51 = .ok (.iconst 2, 1) := by decide +kernel
theorem dX12_speaksBy_52 : decode cX12_speaksBy 52 = .ok (.imul, 1) := by decide +kernel
theorem dX12_speaksBy_53 : decode cX12_speaksBy 53 = .ok (.ireturn, 1) := by decide +kernel
theorem dX12_speaksBy_54 : decode cX12_speaksBy 54 = .ok (.aload_n 0, 1) := by decide +kernel
theorem dX12_speaksBy_55 : decode cX12_speaksBy 55 = .ok (.bipush 20, 2) := by decide +kernel
theorem dX12_speaksBy_57 : decode cX12_speaksBy 57 = .ok (.invokevirtual 331, 3) := by decide +kernel
theorem dX12_speaksBy_60 : decode cX12_speaksBy 60 = .ok (.aload_n 0, 1) := by decide +kernel
theorem dX12_speaksBy_61 : decode cX12_speaksBy 61 = .ok (.iconst 1, 1) := by decide +kernel
theorem dX12_speaksBy_62 : decode cX12_speaksBy 62 = .ok (.invokestatic 190, 3) := by decide +kernel
theorem dX12_speaksBy_65 : decode cX12_speaksBy 65 = .ok (.iload_n 2, 1) := by decide +kernel
theorem dX12_speaksBy_66 : decode cX12_speaksBy 66 = .ok (.invokevirtual 340, 3) := by decide +kernel
theorem dX12_speaksBy_69 : decode cX12_speaksBy 69 = .ok (.istore_n 3, 1) := by decide +kernel
theorem dX12_speaksBy_70 : decode cX12_speaksBy 70 = .ok (.iload_n 3, 1) := by decide +kernel
theorem dX12_speaksBy_71 : decode cX12_speaksBy 71 = .ok (.aload_n 0, 1) := by decide +kernel
theorem dX12_speaksBy_72 : decode cX12_speaksBy 72 = .ok (.aload_n 0, 1) := by decide +kernel
theorem dX12_speaksBy_73 : decode cX12_speaksBy 73 = .ok (.invokevirtual 337, 3) := by decide +kernel
theorem dX12_speaksBy_76 : decode cX12_speaksBy 76 = .ok (.iconst 1, 1) := by decide +kernel
theorem dX12_speaksBy_77 : decode cX12_speaksBy 77 = .ok (.invokevirtual 343, 3) := by decide +kernel
theorem dX12_speaksBy_80 : decode cX12_speaksBy 80 = .ok (.isub, 1) := by decide +kernel
theorem dX12_speaksBy_81 : decode cX12_speaksBy 81 = .ok (.ireturn, 1) := by decide +kernel
theorem dX12_speaksBy_82 : decode cX12_speaksBy 82 = .ok (.aload_n 0, 1) := by decide +kernel
theorem dX12_speaksBy_83 : decode cX12_speaksBy 83 = .ok (.bipush 50, 2) := by decide +kernel
theorem dX12_speaksBy_85 : decode cX12_speaksBy 85 = .ok (.invokevirtual 331, 3) := by decide +kernel
theorem dX12_speaksBy_88 : decode cX12_speaksBy 88 = .ok (.aload_n 0, 1) := by decide +kernel
theorem dX12_speaksBy_89 : decode cX12_speaksBy 89 = .ok (.iconst 4, 1) := by decide +kernel
theorem dX12_speaksBy_90 : decode cX12_speaksBy 90 = .ok (.invokestatic 190, 3) := by decide +kernel
theorem dX12_speaksBy_93 : decode cX12_speaksBy 93 = .ok (.iload_n 2, 1) := by decide +kernel
theorem dX12_speaksBy_94 : decode cX12_speaksBy 94 = .ok (.iconst 1, 1) := by decide +kernel
theorem dX12_speaksBy_95 : decode cX12_speaksBy 95 = .ok (.iadd, 1) := by decide +kernel
theorem dX12_speaksBy_96 : decode cX12_speaksBy 96 = .ok (.invokevirtual 340, 3) := by decide +kernel
theorem dX12_speaksBy_99 : decode cX12_speaksBy 99 = .ok (.ireturn, 1) := by decide +kernel
theorem dX12_speaksBy_100 : decode cX12_speaksBy 100 = .ok (.aload_n 0, 1) := by decide +kernel
theorem dX12_speaksBy_101 : decode cX12_speaksBy 101 = .ok (.iload_n 1, 1) := by decide +kernel
theorem dX12_speaksBy_102 : decode cX12_speaksBy 102 = .ok (.invokestatic 190, 3) := by decide +kernel
theorem dX12_speaksBy_105 : decode cX12_speaksBy 105 = .ok (.iload_n 2, 1) := by decide +kernel
theorem dX12_speaksBy_106 : decode cX12_speaksBy 106 = .ok (.invokevirtual 340, 3) := by decide +kernel
theorem dX12_speaksBy_109 : decode cX12_speaksBy 109 = .ok (.ireturn, 1) := by decide +kernel
theorem dX12_restsBy_0 : decode cX12_restsBy 0 = .ok (.iload_n 1, 1) := by decide +kernel
theorem dX12_restsBy_1 : decode cX12_restsBy 1 = .ok (.lookupswitch 92 #[(0, 35), (3, 53), (6, 70)], 35) := by decide +kernel
theorem dX12_restsBy_36 : decode cX12_restsBy 36 = .ok (.aload_n 0, 1) := by decide +kernel
theorem dX12_restsBy_37 : decode cX12_restsBy 37 = .ok (.bipush 12, 2) := by decide +kernel
theorem dX12_restsBy_39 : decode cX12_restsBy 39 = .ok (.invokevirtual 331, 3) := by decide +kernel
theorem dX12_restsBy_42 : decode cX12_restsBy 42 = .ok (.iload_n 2, 1) := by decide +kernel
theorem dX12_restsBy_43 : decode cX12_restsBy 43 = .ok (.aload_n 0, 1) := by decide +kernel
theorem dX12_restsBy_44 : decode cX12_restsBy 44 = .ok (.aload_n 0, 1) := by decide +kernel
theorem dX12_restsBy_45 : decode cX12_restsBy 45 = .ok (.getfield 328, 3) := by decide +kernel
theorem dX12_restsBy_48 : decode cX12_restsBy 48 = .ok (.iconst 1, 1) := by decide +kernel
theorem dX12_restsBy_49 : decode cX12_restsBy 49 = .ok (.invokevirtual 161, 3) := by decide +kernel
theorem dX12_restsBy_52 : decode cX12_restsBy 52 = .ok (.isub, 1) := by decide +kernel
theorem dX12_restsBy_53 : decode cX12_restsBy 53 = .ok (.ireturn, 1) := by decide +kernel
theorem dX12_restsBy_54 : decode cX12_restsBy 54 = .ok (.aload_n 0, 1) := by decide +kernel
theorem dX12_restsBy_55 : decode cX12_restsBy 55 = .ok (.bipush 40, 2) := by decide +kernel
theorem dX12_restsBy_57 : decode cX12_restsBy 57 = .ok (.invokevirtual 331, 3) := by decide +kernel
theorem dX12_restsBy_60 : decode cX12_restsBy 60 = .ok (.aload_n 0, 1) := by decide +kernel
theorem dX12_restsBy_61 : decode cX12_restsBy 61 = .ok (.iconst 3, 1) := by decide +kernel
theorem dX12_restsBy_62 : decode cX12_restsBy 62 = .ok (.invokestatic 190, 3) := by decide +kernel
theorem dX12_restsBy_65 : decode cX12_restsBy 65 = .ok (.iload_n 2, 1) := by decide +kernel
theorem dX12_restsBy_66 : decode cX12_restsBy 66 = .ok (.invokevirtual 343, 3) := by decide +kernel
theorem dX12_restsBy_69 : decode cX12_restsBy 69 = .ok (.ineg, 1) := by decide +kernel
theorem dX12_restsBy_70 : decode cX12_restsBy 70 = .ok (.ireturn, 1) := by decide +kernel
theorem dX12_restsBy_71 : decode cX12_restsBy 71 = .ok (.aload_n 0, 1) := by decide +kernel
theorem dX12_restsBy_72 : decode cX12_restsBy 72 = .ok (.bipush 70, 2) := by decide +kernel
theorem dX12_restsBy_74 : decode cX12_restsBy 74 = .ok (.invokevirtual 331, 3) := by decide +kernel
theorem dX12_restsBy_77 : decode cX12_restsBy 77 = .ok (.aload_n 0, 1) := by decide +kernel
theorem dX12_restsBy_78 : decode cX12_restsBy 78 = .ok (.bipush 6, 2) := by decide +kernel
theorem dX12_restsBy_80 : decode cX12_restsBy 80 = .ok (.invokestatic 190, 3) := by decide +kernel
theorem dX12_restsBy_83 : decode cX12_restsBy 83 = .ok (.iload_n 2, 1) := by decide +kernel
theorem dX12_restsBy_84 : decode cX12_restsBy 84 = .ok (.invokevirtual 343, 3) := by decide +kernel
theorem dX12_restsBy_87 : decode cX12_restsBy 87 = .ok (.aload_n 0, 1) := by decide +kernel
theorem dX12_restsBy_88 : decode cX12_restsBy 88 = .ok (.getfield 328, 3) := by decide +kernel
theorem dX12_restsBy_91 : decode cX12_restsBy 91 = .ok (.ixor, 1) := by decide +kernel
theorem dX12_restsBy_92 : decode cX12_restsBy 92 = .ok (.ireturn, 1) := by decide +kernel
theorem dX12_restsBy_93 : decode cX12_restsBy 93 = .ok (.aload_n 0, 1) := by decide +kernel
theorem dX12_restsBy_94 : decode cX12_restsBy 94 = .ok (.iload_n 1, 1) := by decide +kernel
theorem dX12_restsBy_95 : decode cX12_restsBy 95 = .ok (.invokestatic 190, 3) := by decide +kernel
theorem dX12_restsBy_98 : decode cX12_restsBy 98 = .ok (.iload_n 2, 1) := by decide +kernel
theorem dX12_restsBy_99 : decode cX12_restsBy 99 = .ok (.invokevirtual 343, 3) := by decide +kernel
theorem dX12_restsBy_102 : decode cX12_restsBy 102 = .ok (.ireturn, 1) := by decide +kernel
theorem dX12_tellsBy_0 : decode cX12_tellsBy 0 = .ok (.iload_n 1, 1) := by decide +kernel
theorem dX12_tellsBy_1 : decode cX12_tellsBy 1 = .ok (.lookupswitch 120 #[(0, 35), (5, 63), (6, 91)], 35) := by decide +kernel
theorem dX12_tellsBy_36 : decode cX12_tellsBy 36 = .ok (.aload_n 0, 1) := by decide +kernel
theorem dX12_tellsBy_37 : decode cX12_tellsBy 37 = .ok (.bipush 13, 2) := by decide +kernel
theorem dX12_tellsBy_39 : decode cX12_tellsBy 39 = .ok (.invokevirtual 331, 3) := by decide +kernel
theorem dX12_tellsBy_42 : decode cX12_tellsBy 42 = .ok (.aload_n 0, 1) := by decide +kernel
theorem dX12_tellsBy_43 : decode cX12_tellsBy 43 = .ok (.aload_n 0, 1) := by decide +kernel
theorem dX12_tellsBy_44 : decode cX12_tellsBy 44 = .ok (.invokevirtual 337, 3) := by decide +kernel
theorem dX12_tellsBy_47 : decode cX12_tellsBy 47 = .ok (.iload_n 2, 1) := by decide +kernel
theorem dX12_tellsBy_48 : decode cX12_tellsBy 48 = .ok (.invokevirtual 340, 3) := by decide +kernel
theorem dX12_tellsBy_51 : decode cX12_tellsBy 51 = .ok (.istore_n 3, 1) := by decide +kernel
theorem dX12_tellsBy_52 : decode cX12_tellsBy 52 = .ok (.iload_n 3, 1) := by decide +kernel
theorem dX12_tellsBy_53 : decode cX12_tellsBy 53 = .ok (.aload_n 0, 1) := by decide +kernel
theorem dX12_tellsBy_54 : decode cX12_tellsBy 54 = .ok (.aload_n 0, 1) := by decide +kernel
theorem dX12_tellsBy_55 : decode cX12_tellsBy 55 = .ok (.invokevirtual 337, 3) := by decide +kernel
theorem dX12_tellsBy_58 : decode cX12_tellsBy 58 = .ok (.iload_n 2, 1) := by decide +kernel
theorem dX12_tellsBy_59 : decode cX12_tellsBy 59 = .ok (.invokevirtual 343, 3) := by decide +kernel
theorem dX12_tellsBy_62 : decode cX12_tellsBy 62 = .ok (.ixor, 1) := by decide +kernel
theorem dX12_tellsBy_63 : decode cX12_tellsBy 63 = .ok (.ireturn, 1) := by decide +kernel
theorem dX12_tellsBy_64 : decode cX12_tellsBy 64 = .ok (.aload_n 0, 1) := by decide +kernel
theorem dX12_tellsBy_65 : decode cX12_tellsBy 65 = .ok (.bipush 60, 2) := by decide +kernel
theorem dX12_tellsBy_67 : decode cX12_tellsBy 67 = .ok (.invokevirtual 331, 3) := by decide +kernel
theorem dX12_tellsBy_70 : decode cX12_tellsBy 70 = .ok (.aload_n 0, 1) := by decide +kernel
theorem dX12_tellsBy_71 : decode cX12_tellsBy 71 = .ok (.iconst 5, 1) := by decide +kernel
theorem dX12_tellsBy_72 : decode cX12_tellsBy 72 = .ok (.invokestatic 190, 3) := by decide +kernel
theorem dX12_tellsBy_75 : decode cX12_tellsBy 75 = .ok (.iload_n 2, 1) := by decide +kernel
theorem dX12_tellsBy_76 : decode cX12_tellsBy 76 = .ok (.invokevirtual 346, 3) := by decide +kernel
theorem dX12_tellsBy_79 : decode cX12_tellsBy 79 = .ok (.istore_n 3, 1) := by decide +kernel
theorem dX12_tellsBy_80 : decode cX12_tellsBy 80 = .ok (.iload_n 3, 1) := by decide +kernel
theorem dX12_tellsBy_81 : decode cX12_tellsBy 81 = .ok (.aload_n 0, 1) := by decide +kernel
theorem dX12_tellsBy_82 : decode cX12_tellsBy 82 = .ok (.aload_n 0, 1) := by decide +kernel
theorem dX12_tellsBy_83 : decode cX12_tellsBy 83 = .ok (.invokevirtual 337, 3) := by decide +kernel
theorem dX12_tellsBy_86 : decode cX12_tellsBy 86 = .ok (.iconst 2, 1) := by decide +kernel
theorem dX12_tellsBy_87 : decode cX12_tellsBy 87 = .ok (.invokevirtual 334, 3) := by decide +kernel
theorem dX12_tellsBy_90 : decode cX12_tellsBy 90 = .ok (.isub, 1) := by decide +kernel
theorem dX12_tellsBy_91 : decode cX12_tellsBy 91 = .ok (.ireturn, 1) := by decide +kernel
theorem dX12_tellsBy_92 : decode cX12_tellsBy 92 = .ok (.aload_n 0, 1) := by decide +kernel
theorem dX12_tellsBy_93 : decode cX12_tellsBy 93 = .ok (.bipush 71, 2) := by decide +kernel
theorem dX12_tellsBy_95 : decode cX12_tellsBy 95 = .ok (.invokevirtual 331, 3) := by decide +kernel
theorem dX12_tellsBy_98 : decode cX12_tellsBy 98 = .ok (.aload_n 0, 1) := by decide +kernel
theorem dX12_tellsBy_99 : decode cX12_tellsBy 99 = .ok (.aload_n 0, 1) := by decide +kernel
theorem dX12_tellsBy_100 : decode cX12_tellsBy 100 = .ok (.invokevirtual 337, 3) := by decide +kernel
theorem dX12_tellsBy_103 : decode cX12_tellsBy 103 = .ok (.iload_n 2, 1) := by decide +kernel
theorem dX12_tellsBy_104 : decode cX12_tellsBy 104 = .ok (.invokevirtual 340, 3) := by decide +kernel
theorem dX12_tellsBy_107 : decode cX12_tellsBy 107 = .ok (.istore_n 3, 1) := by decide +kernel
theorem dX12_tellsBy_108 : decode cX12_tellsBy 108 = .ok (.iload_n 3, 1) := by decide +kernel
theorem dX12_tellsBy_109 : decode cX12_tellsBy 109 = .ok (.aload_n 0, 1) := by decide +kernel
theorem dX12_tellsBy_110 : decode cX12_tellsBy 110 = .ok (.bipush 6, 2) := by decide +kernel
theorem dX12_tellsBy_112 : decode cX12_tellsBy 112 = .ok (.invokestatic 190, 3) := by decide +kernel
theorem dX12_tellsBy_115 : decode cX12_tellsBy 115 = .ok (.iload_n 2, 1) := by decide +kernel
theorem dX12_tellsBy_116 : decode cX12_tellsBy 116 = .ok (.invokevirtual 346, 3) := by decide +kernel
theorem dX12_tellsBy_119 : decode cX12_tellsBy 119 = .ok (.isub, 1) := by decide +kernel
theorem dX12_tellsBy_120 : decode cX12_tellsBy 120 = .ok (.ireturn, 1) := by decide +kernel
theorem dX12_tellsBy_121 : decode cX12_tellsBy 121 = .ok (.aload_n 0, 1) := by decide +kernel
theorem dX12_tellsBy_122 : decode cX12_tellsBy 122 = .ok (.iload_n 1, 1) := by decide +kernel
theorem dX12_tellsBy_123 : decode cX12_tellsBy 123 = .ok (.invokestatic 190, 3) := by decide +kernel
theorem dX12_tellsBy_126 : decode cX12_tellsBy 126 = .ok (.iload_n 2, 1) := by decide +kernel
theorem dX12_tellsBy_127 : decode cX12_tellsBy 127 = .ok (.invokevirtual 346, 3) := by decide +kernel
theorem dX12_tellsBy_130 : decode cX12_tellsBy 130 = .ok (.ireturn, 1) := by decide +kernel
theorem dX12_voice_0 : decode cX12_voice 0 = .ok (.aload_n 0, 1) := by decide +kernel
theorem dX12_voice_1 : decode cX12_voice 1 = .ok (.iload_n 1, 1) := by decide +kernel
theorem dX12_voice_2 : decode cX12_voice 2 = .ok (.invokevirtual 174, 3) := by decide +kernel
theorem dX12_voice_5 : decode cX12_voice 5 = .ok (.ifCond .eq 15, 3) := by decide +kernel
theorem dX12_voice_8 : decode cX12_voice 8 = .ok (.iload_n 2, 1) := by decide +kernel
theorem dX12_voice_9 : decode cX12_voice 9 = .ok (.i2l, 1) := by decide +kernel
theorem dX12_voice_10 : decode cX12_voice 10 = .ok (.lconst 0, 1) := by decide +kernel
theorem dX12_voice_11 : decode cX12_voice 11 = .ok (.ldc2_w 242, 3) := by decide +kernel
theorem dX12_voice_14 : decode cX12_voice 14 = .ok (.invokestatic 80, 3) := by decide +kernel
theorem dX12_voice_17 : decode cX12_voice 17 = .ok (.ifCond .ne 9, 3) := by decide +kernel
theorem dX12_voice_20 : decode cX12_voice 20 = .ok (.aload_n 0, 1) := by decide +kernel
theorem dX12_voice_21 : decode cX12_voice 21 = .ok (.iconst 1, 1) := by decide +kernel
theorem dX12_voice_22 : decode cX12_voice 22 = .ok (.invokevirtual 143, 3) := by decide +kernel
theorem dX12_voice_25 : decode cX12_voice 25 = .ok (.ireturn, 1) := by decide +kernel
theorem dX12_voice_26 : decode cX12_voice 26 = .ok (.aload_n 0, 1) := by decide +kernel
theorem dX12_voice_27 : decode cX12_voice 27 = .ok (.iconst 0, 1) := by decide +kernel
theorem dX12_voice_28 : decode cX12_voice 28 = .ok (.putfield 325, 3) := by decide +kernel
theorem dX12_voice_31 : decode cX12_voice 31 = .ok (.aload_n 0, 1) := by decide +kernel
theorem dX12_voice_32 : decode cX12_voice 32 = .ok (.iload_n 1, 1) := by decide +kernel
theorem dX12_voice_33 : decode cX12_voice 33 = .ok (.putfield 328, 3) := by decide +kernel
theorem dX12_voice_36 : decode cX12_voice 36 = .ok (.aload_n 0, 1) := by decide +kernel
theorem dX12_voice_37 : decode cX12_voice 37 = .ok (.invokevirtual 337, 3) := by decide +kernel
theorem dX12_voice_40 : decode cX12_voice 40 = .ok (.istore 4, 2) := by decide +kernel
theorem dX12_voice_42 : decode cX12_voice 42 = .ok (.iload_n 2, 1) := by decide +kernel
theorem dX12_voice_43 : decode cX12_voice 43 = .ok (.ifCond .ne 13, 3) := by decide +kernel
theorem dX12_voice_46 : decode cX12_voice 46 = .ok (.aload_n 0, 1) := by decide +kernel
theorem dX12_voice_47 : decode cX12_voice 47 = .ok (.iload 4, 2) := by decide +kernel
theorem dX12_voice_49 : decode cX12_voice 49 = .ok (.iload_n 3, 1) := by decide +kernel
theorem dX12_voice_50 : decode cX12_voice 50 = .ok (.invokevirtual 334, 3) := by decide +kernel
theorem dX12_voice_53 : decode cX12_voice 53 = .ok (.goto 40, 3) := by decide +kernel
theorem dX12_voice_56 : decode cX12_voice 56 = .ok (.iload_n 2, 1) := by decide +kernel
theorem dX12_voice_57 : decode cX12_voice 57 = .ok (.iconst 1, 1) := by decide +kernel
theorem dX12_voice_58 : decode cX12_voice 58 = .ok (.if_icmp .ne 13, 3) := by decide +kernel
theorem dX12_voice_61 : decode cX12_voice 61 = .ok (.aload_n 0, 1) := by decide +kernel
theorem dX12_voice_62 : decode cX12_voice 62 = .ok (.iload 4, 2) := by decide +kernel
theorem dX12_voice_64 : decode cX12_voice 64 = .ok (.iload_n 3, 1) := by decide +kernel
theorem dX12_voice_65 : decode cX12_voice 65 = .ok (.invokevirtual 340, 3) := by decide +kernel
theorem dX12_voice_68 : decode cX12_voice 68 = .ok (.goto 25, 3) := by decide +kernel
theorem dX12_voice_71 : decode cX12_voice 71 = .ok (.iload_n 2, 1) := by decide +kernel
theorem dX12_voice_72 : decode cX12_voice 72 = .ok (.iconst 2, 1) := by decide +kernel
theorem dX12_voice_73 : decode cX12_voice 73 = .ok (.if_icmp .ne 13, 3) := by decide +kernel
theorem dX12_voice_76 : decode cX12_voice 76 = .ok (.aload_n 0, 1) := by decide +kernel
theorem dX12_voice_77 : decode cX12_voice 77 = .ok (.iload 4, 2) := by decide +kernel
theorem dX12_voice_79 : decode cX12_voice 79 = .ok (.iload_n 3, 1) := by decide +kernel
theorem dX12_voice_80 : decode cX12_voice 80 = .ok (.invokevirtual 343, 3) := by decide +kernel
theorem dX12_voice_83 : decode cX12_voice 83 = .ok (.goto 10, 3) := by decide +kernel
theorem dX12_voice_86 : decode cX12_voice 86 = .ok (.aload_n 0, 1) := by decide +kernel
theorem dX12_voice_87 : decode cX12_voice 87 = .ok (.iload 4, 2) := by decide +kernel
theorem dX12_voice_89 : decode cX12_voice 89 = .ok (.iload_n 3, 1) := by decide +kernel
theorem dX12_voice_90 : decode cX12_voice 90 = .ok (.invokevirtual 346, 3) := by decide +kernel
theorem dX12_voice_93 : decode cX12_voice 93 = .ok (.ireturn, 1) := by decide +kernel
theorem dX12_trace_0 : decode cX12_trace 0 = .ok (.iload_n 1, 1) := by decide +kernel
theorem dX12_trace_1 : decode cX12_trace 1 = .ok (.i2l, 1) := by decide +kernel
theorem dX12_trace_2 : decode cX12_trace 2 = .ok (.lconst 0, 1) := by decide +kernel
theorem dX12_trace_3 : decode cX12_trace 3 = .ok (.aload_n 0, 1) := by decide +kernel
theorem dX12_trace_4 : decode cX12_trace 4 = .ok (.getfield 325, 3) := by decide +kernel
theorem dX12_trace_7 : decode cX12_trace 7 = .ok (.iconst 1, 1) := by decide +kernel
theorem dX12_trace_8 : decode cX12_trace 8 = .ok (.isub, 1) := by decide +kernel
theorem dX12_trace_9 : decode cX12_trace 9 = .ok (.i2l, 1) := by decide +kernel
theorem dX12_trace_10 : decode cX12_trace 10 = .ok (.invokestatic 80, 3) := by decide +kernel
theorem dX12_trace_13 : decode cX12_trace 13 = .ok (.ifCond .eq 12, 3) := by decide +kernel
theorem dX12_trace_16 : decode cX12_trace 16 = .ok (.aload_n 0, 1) := by decide +kernel
theorem dX12_trace_17 : decode cX12_trace 17 = .ok (.getfield 64, 3) := by decide +kernel
theorem dX12_trace_20 : decode cX12_trace 20 = .ok (.iload_n 1, 1) := by decide +kernel
theorem dX12_trace_21 : decode cX12_trace 21 = .ok (.iaload, 1) := by decide +kernel
theorem dX12_trace_22 : decode cX12_trace 22 = .ok (.goto 8, 3) := by decide +kernel
theorem dX12_trace_25 : decode cX12_trace 25 = .ok (.aload_n 0, 1) := by decide +kernel
theorem dX12_trace_26 : decode cX12_trace 26 = .ok (.iconst 2, 1) := by decide +kernel
theorem dX12_trace_27 : decode cX12_trace 27 = .ok (.invokevirtual 143, 3) := by decide +kernel
theorem dX12_trace_30 : decode cX12_trace 30 = .ok (.ireturn, 1) := by decide +kernel
theorem dX12_isSheet_0 : decode cX12_isSheet 0 = .ok (.iload_n 0, 1) := by decide +kernel
theorem dX12_isSheet_1 : decode cX12_isSheet 1 = .ok (.i2l, 1) := by decide +kernel
theorem dX12_isSheet_2 : decode cX12_isSheet 2 = .ok (.lconst 0, 1) := by decide +kernel
theorem dX12_isSheet_3 : decode cX12_isSheet 3 = .ok (.ldc2_w 242, 3) := by decide +kernel
theorem dX12_isSheet_6 : decode cX12_isSheet 6 = .ok (.invokestatic 80, 3) := by decide +kernel
theorem dX12_isSheet_9 : decode cX12_isSheet 9 = .ok (.ireturn, 1) := by decide +kernel
theorem dX12_sheet_0 : decode cX12_sheet 0 = .ok (.iload_n 1, 1) := by decide +kernel
theorem dX12_sheet_1 : decode cX12_sheet 1 = .ok (.invokestatic 319, 3) := by decide +kernel
theorem dX12_sheet_4 : decode cX12_sheet 4 = .ok (.ifCond .eq 25, 3) := by decide +kernel
theorem dX12_sheet_7 : decode cX12_sheet 7 = .ok (.iload_n 2, 1) := by decide +kernel
theorem dX12_sheet_8 : decode cX12_sheet 8 = .ok (.ifCond .eq 27, 3) := by decide +kernel
theorem dX12_sheet_11 : decode cX12_sheet 11 = .ok (.iload_n 2, 1) := by decide +kernel
theorem dX12_sheet_12 : decode cX12_sheet 12 = .ok (.bipush 8, 2) := by decide +kernel
theorem dX12_sheet_14 : decode cX12_sheet 14 = .ok (.if_icmp .eq 21, 3) := by decide +kernel
theorem dX12_sheet_17 : decode cX12_sheet 17 = .ok (.iload_n 2, 1) := by decide +kernel
theorem dX12_sheet_18 : decode cX12_sheet 18 = .ok (.bipush 16, 2) := by decide +kernel
theorem dX12_sheet_20 : decode cX12_sheet 20 = .ok (.if_icmp .eq 15, 3) := by decide +kernel
theorem dX12_sheet_23 : decode cX12_sheet 23 = .ok (.iload_n 2, 1) := by decide +kernel
theorem dX12_sheet_24 : decode cX12_sheet 24 = .ok (.bipush 32, 2) := by decide +kernel
theorem dX12_sheet_26 : decode cX12_sheet 26 = .ok (.if_icmp .eq 9, 3) := by decide +kernel
theorem dX12_sheet_29 : decode cX12_sheet 29 = .ok (.aload_n 0, 1) := by decide +kernel
theorem dX12_sheet_30 : decode cX12_sheet 30 = .ok (.iconst 1, 1) := by decide +kernel
theorem dX12_sheet_31 : decode cX12_sheet 31 = .ok (.invokevirtual 143, 3) := by decide +kernel
theorem dX12_sheet_34 : decode cX12_sheet 34 = .ok (.ireturn, 1) := by decide +kernel
theorem dX12_sheet_35 : decode cX12_sheet 35 = .ok (.iload_n 2, 1) := by decide +kernel
theorem dX12_sheet_36 : decode cX12_sheet 36 = .ok (.ifCond .eq 13, 3) := by decide +kernel
theorem dX12_sheet_39 : decode cX12_sheet 39 = .ok (.iload_n 3, 1) := by decide +kernel
theorem dX12_sheet_40 : decode cX12_sheet 40 = .ok (.ifCond .ge 9, 3) := by decide +kernel
theorem dX12_sheet_43 : decode cX12_sheet 43 = .ok (.aload_n 0, 1) := by decide +kernel
theorem dX12_sheet_44 : decode cX12_sheet 44 = .ok (.iconst 3, 1) := by decide +kernel
theorem dX12_sheet_45 : decode cX12_sheet 45 = .ok (.invokevirtual 143, 3) := by decide +kernel
theorem dX12_sheet_48 : decode cX12_sheet 48 = .ok (.ireturn, 1) := by decide +kernel
theorem dX12_sheet_49 : decode cX12_sheet 49 = .ok (.iload_n 2, 1) := by decide +kernel
theorem dX12_sheet_50 : decode cX12_sheet 50 = .ok (.ifCond .eq 15, 3) := by decide +kernel
theorem dX12_sheet_53 : decode cX12_sheet 53 = .ok (.iload_n 3, 1) := by decide +kernel
theorem dX12_sheet_54 : decode cX12_sheet 54 = .ok (.bipush 40, 2) := by decide +kernel
theorem dX12_sheet_56 : decode cX12_sheet 56 = .ok (.if_icmp .le 9, 3) := by decide +kernel
theorem dX12_sheet_59 : decode cX12_sheet 59 = .ok (.aload_n 0, 1) := by decide +kernel
theorem dX12_sheet_60 : decode cX12_sheet 60 = .ok (.iconst 1, 1) := by decide +kernel
theorem dX12_sheet_61 : decode cX12_sheet 61 = .ok (.invokevirtual 143, 3) := by decide +kernel
theorem dX12_sheet_64 : decode cX12_sheet 64 = .ok (.ireturn, 1) := by decide +kernel
theorem dX12_sheet_65 : decode cX12_sheet 65 = .ok (.aload_n 0, 1) := by decide +kernel
theorem dX12_sheet_66 : decode cX12_sheet 66 = .ok (.getfield 67, 3) := by decide +kernel
theorem dX12_sheet_69 : decode cX12_sheet 69 = .ok (.iload_n 1, 1) := by decide +kernel
theorem dX12_sheet_70 : decode cX12_sheet 70 = .ok (.iload_n 2, 1) := by decide +kernel
theorem dX12_sheet_71 : decode cX12_sheet 71 = .ok (.iastore, 1) := by decide +kernel
theorem dX12_sheet_72 : decode cX12_sheet 72 = .ok (.aload_n 0, 1) := by decide +kernel
theorem dX12_sheet_73 : decode cX12_sheet 73 = .ok (.getfield 70, 3) := by decide +kernel
theorem dX12_sheet_76 : decode cX12_sheet 76 = .ok (.iload_n 1, 1) := by decide +kernel
theorem dX12_sheet_77 : decode cX12_sheet 77 = .ok (.iload_n 2, 1) := by decide +kernel
theorem dX12_sheet_78 : decode cX12_sheet 78 = .ok (.ifCond .ne 7, 3) := by decide +kernel
theorem dX12_sheet_81 : decode cX12_sheet 81 = .ok (.iconst 0, 1) := by decide +kernel
theorem dX12_sheet_82 : decode cX12_sheet 82 = .ok (.goto 4, 3) := by decide +kernel
theorem dX12_sheet_85 : decode cX12_sheet 85 = .ok (.iload_n 3, 1) := by decide +kernel
theorem dX12_sheet_86 : decode cX12_sheet 86 = .ok (.iastore, 1) := by decide +kernel
theorem dX12_sheet_87 : decode cX12_sheet 87 = .ok (.iconst 0, 1) := by decide +kernel
theorem dX12_sheet_88 : decode cX12_sheet 88 = .ok (.istore 4, 2) := by decide +kernel
theorem dX12_sheet_90 : decode cX12_sheet 90 = .ok (.iload 4, 2) := by decide +kernel
theorem dX12_sheet_92 : decode cX12_sheet 92 = .ok (.bipush 40, 2) := by decide +kernel
theorem dX12_sheet_94 : decode cX12_sheet 94 = .ok (.if_icmp .ge 22, 3) := by decide +kernel
theorem dX12_sheet_97 : decode cX12_sheet 97 = .ok (.aload_n 0, 1) := by decide +kernel
theorem dX12_sheet_98 : decode cX12_sheet 98 = .ok (.getfield 73, 3) := by decide +kernel
theorem dX12_sheet_101 : decode cX12_sheet 101 = .ok (.bipush 40, 2) := by decide +kernel
theorem dX12_sheet_103 : decode cX12_sheet 103 = .ok (.iload_n 1, 1) := by decide +kernel
theorem dX12_sheet_104 : decode cX12_sheet 104 = .ok (.imul, 1) := by decide +kernel
theorem dX12_sheet_105 : decode cX12_sheet 105 = .ok (.iload 4, 2) := by decide +kernel
theorem dX12_sheet_107 : decode cX12_sheet 107 = .ok (.iadd, 1) := by decide +kernel
theorem dX12_sheet_108 : decode cX12_sheet 108 = .ok (.iconst 0, 1) := by decide +kernel
theorem dX12_sheet_109 : decode cX12_sheet 109 = .ok (.iastore, 1) := by decide +kernel
theorem dX12_sheet_110 : decode cX12_sheet 110 = .ok (.iinc 4 1, 3) := by decide +kernel
theorem dX12_sheet_113 : decode cX12_sheet 113 = .ok (.goto (-23), 3) := by decide +kernel
theorem dX12_sheet_116 : decode cX12_sheet 116 = .ok (.iconst 1, 1) := by decide +kernel
theorem dX12_sheet_117 : decode cX12_sheet 117 = .ok (.ireturn, 1) := by decide +kernel
theorem dX12_put_0 : decode cX12_put 0 = .ok (.iload_n 1, 1) := by decide +kernel
theorem dX12_put_1 : decode cX12_put 1 = .ok (.invokestatic 319, 3) := by decide +kernel
theorem dX12_put_4 : decode cX12_put 4 = .ok (.ifCond .ne 9, 3) := by decide +kernel
theorem dX12_put_7 : decode cX12_put 7 = .ok (.aload_n 0, 1) := by decide +kernel
theorem dX12_put_8 : decode cX12_put 8 = .ok (.iconst 1, 1) := by decide +kernel
theorem dX12_put_9 : decode cX12_put 9 = .ok (.invokevirtual 143, 3) := by decide +kernel
theorem dX12_put_12 : decode cX12_put 12 = .ok (.ireturn, 1) := by decide +kernel
theorem dX12_put_13 : decode cX12_put 13 = .ok (.aload_n 0, 1) := by decide +kernel
theorem dX12_put_14 : decode cX12_put 14 = .ok (.getfield 67, 3) := by decide +kernel
theorem dX12_put_17 : decode cX12_put 17 = .ok (.iload_n 1, 1) := by decide +kernel
theorem dX12_put_18 : decode cX12_put 18 = .ok (.iaload, 1) := by decide +kernel
theorem dX12_put_19 : decode cX12_put 19 = .ok (.ifCond .ne 9, 3) := by decide +kernel
theorem dX12_put_22 : decode cX12_put 22 = .ok (.aload_n 0, 1) := by decide +kernel
theorem dX12_put_23 : decode cX12_put 23 = .ok (.iconst 2, 1) := by decide +kernel
theorem dX12_put_24 : decode cX12_put 24 = .ok (.invokevirtual 143, 3) := by decide +kernel
theorem dX12_put_27 : decode cX12_put 27 = .ok (.ireturn, 1) := by decide +kernel
theorem dX12_put_28 : decode cX12_put 28 = .ok (.iload_n 2, 1) := by decide +kernel
theorem dX12_put_29 : decode cX12_put 29 = .ok (.i2l, 1) := by decide +kernel
theorem dX12_put_30 : decode cX12_put 30 = .ok (.lconst 0, 1) := by decide +kernel
theorem dX12_put_31 : decode cX12_put 31 = .ok (.aload_n 0, 1) := by decide +kernel
theorem dX12_put_32 : decode cX12_put 32 = .ok (.getfield 70, 3) := by decide +kernel
theorem dX12_put_35 : decode cX12_put 35 = .ok (.iload_n 1, 1) := by decide +kernel
theorem dX12_put_36 : decode cX12_put 36 = .ok (.iaload, 1) := by decide +kernel
theorem dX12_put_37 : decode cX12_put 37 = .ok (.iconst 1, 1) := by decide +kernel
theorem dX12_put_38 : decode cX12_put 38 = .ok (.isub, 1) := by decide +kernel
theorem dX12_put_39 : decode cX12_put 39 = .ok (.i2l, 1) := by decide +kernel
theorem dX12_put_40 : decode cX12_put 40 = .ok (.invokestatic 80, 3) := by decide +kernel
theorem dX12_put_43 : decode cX12_put 43 = .ok (.ifCond .ne 9, 3) := by decide +kernel
theorem dX12_put_46 : decode cX12_put 46 = .ok (.aload_n 0, 1) := by decide +kernel
theorem dX12_put_47 : decode cX12_put 47 = .ok (.iconst 1, 1) := by decide +kernel
theorem dX12_put_48 : decode cX12_put 48 = .ok (.invokevirtual 143, 3) := by decide +kernel
theorem dX12_put_51 : decode cX12_put 51 = .ok (.ireturn, 1) := by decide +kernel
theorem dX12_put_52 : decode cX12_put 52 = .ok (.aload_n 0, 1) := by decide +kernel
theorem dX12_put_53 : decode cX12_put 53 = .ok (.getfield 73, 3) := by decide +kernel
theorem dX12_put_56 : decode cX12_put 56 = .ok (.bipush 40, 2) := by decide +kernel
theorem dX12_put_58 : decode cX12_put 58 = .ok (.iload_n 1, 1) := by decide +kernel
theorem dX12_put_59 : decode cX12_put 59 = .ok (.imul, 1) := by decide +kernel
theorem dX12_put_60 : decode cX12_put 60 = .ok (.iload_n 2, 1) := by decide +kernel
theorem dX12_put_61 : decode cX12_put 61 = .ok (.iadd, 1) := by decide +kernel
theorem dX12_put_62 : decode cX12_put 62 = .ok (.aload_n 0, 1) := by decide +kernel
theorem dX12_put_63 : decode cX12_put 63 = .ok (.getfield 67, 3) := by decide +kernel
theorem dX12_put_66 : decode cX12_put 66 = .ok (.iload_n 1, 1) := by decide +kernel
theorem dX12_put_67 : decode cX12_put 67 = .ok (.iaload, 1) := by decide +kernel
theorem dX12_put_68 : decode cX12_put 68 = .ok (.bipush 8, 2) := by decide +kernel
theorem dX12_put_70 : decode cX12_put 70 = .ok (.if_icmp .ne 8, 3) := by decide +kernel
theorem dX12_put_73 : decode cX12_put 73 = .ok (.iload_n 3, 1) := by decide +kernel
theorem dX12_put_74 : decode cX12_put 74 = .ok (.i2b, 1) := by decide +kernel
theorem dX12_put_75 : decode cX12_put 75 = .ok (.goto 20, 3) := by decide +kernel
theorem dX12_put_78 : decode cX12_put 78 = .ok (.aload_n 0, 1) := by decide +kernel
theorem dX12_put_79 : decode cX12_put 79 = .ok (.getfield 67, 3) := by decide +kernel
theorem dX12_put_82 : decode cX12_put 82 = .ok (.iload_n 1, 1) := by decide +kernel
theorem dX12_put_83 : decode cX12_put 83 = .ok (.iaload, 1) := by decide +kernel
theorem dX12_put_84 : decode cX12_put 84 = .ok (.bipush 16, 2) := by decide +kernel
theorem dX12_put_86 : decode cX12_put 86 = .ok (.if_icmp .ne 8, 3) := by decide +kernel
theorem dX12_put_89 : decode cX12_put 89 = .ok (.iload_n 3, 1) := by decide +kernel
theorem dX12_put_90 : decode cX12_put 90 = .ok (.i2s, 1) := by decide +kernel
theorem dX12_put_91 : decode cX12_put 91 = .ok (.goto 4, 3) := by decide +kernel
theorem dX12_put_94 : decode cX12_put 94 = .ok (.iload_n 3, 1) := by decide +kernel
theorem dX12_put_95 : decode cX12_put 95 = .ok (.iastore, 1) := by decide +kernel
theorem dX12_put_96 : decode cX12_put 96 = .ok (.iconst 1, 1) := by decide +kernel
theorem dX12_put_97 : decode cX12_put 97 = .ok (.ireturn, 1) := by decide +kernel
theorem dX12_move_0 : decode cX12_move 0 = .ok (.iload_n 1, 1) := by decide +kernel
theorem dX12_move_1 : decode cX12_move 1 = .ok (.invokestatic 319, 3) := by decide +kernel
theorem dX12_move_4 : decode cX12_move 4 = .ok (.ifCond .eq 10, 3) := by decide +kernel
theorem dX12_move_7 : decode cX12_move 7 = .ok (.iload_n 3, 1) := by decide +kernel
theorem dX12_move_8 : decode cX12_move 8 = .ok (.invokestatic 319, 3) := by decide +kernel
theorem dX12_move_11 : decode cX12_move 11 = .ok (.ifCond .ne 9, 3) := by decide +kernel
theorem dX12_move_14 : decode cX12_move 14 = .ok (.aload_n 0, 1) := by decide +kernel
theorem dX12_move_15 : decode cX12_move 15 = .ok (.iconst 1, 1) := by decide +kernel
theorem dX12_move_16 : decode cX12_move 16 = .ok (.invokevirtual 143, 3) := by decide +kernel
theorem dX12_move_19 : decode cX12_move 19 = .ok (.ireturn, 1) := by decide +kernel
theorem dX12_move_20 : decode cX12_move 20 = .ok (.aload_n 0, 1) := by decide +kernel
theorem dX12_move_21 : decode cX12_move 21 = .ok (.getfield 67, 3) := by decide +kernel
theorem dX12_move_24 : decode cX12_move 24 = .ok (.iload_n 1, 1) := by decide +kernel
theorem dX12_move_25 : decode cX12_move 25 = .ok (.iaload, 1) := by decide +kernel
theorem dX12_move_26 : decode cX12_move 26 = .ok (.ifCond .eq 12, 3) := by decide +kernel
theorem dX12_move_29 : decode cX12_move 29 = .ok (.aload_n 0, 1) := by decide +kernel
theorem dX12_move_30 : decode cX12_move 30 = .ok (.getfield 67, 3) := by decide +kernel
theorem dX12_move_33 : decode cX12_move 33 = .ok (.iload_n 3, 1) := by decide +kernel
theorem dX12_move_34 : decode cX12_move 34 = .ok (.iaload, 1) := by decide +kernel
theorem dX12_move_35 : decode cX12_move 35 = .ok (.ifCond .ne 9, 3) := by decide +kernel
theorem dX12_move_38 : decode cX12_move 38 = .ok (.aload_n 0, 1) := by decide +kernel
theorem dX12_move_39 : decode cX12_move 39 = .ok (.iconst 2, 1) := by decide +kernel
theorem dX12_move_40 : decode cX12_move 40 = .ok (.invokevirtual 143, 3) := by decide +kernel
theorem dX12_move_43 : decode cX12_move 43 = .ok (.ireturn, 1) := by decide +kernel
theorem dX12_move_44 : decode cX12_move 44 = .ok (.aload_n 0, 1) := by decide +kernel
theorem dX12_move_45 : decode cX12_move 45 = .ok (.getfield 67, 3) := by decide +kernel
theorem dX12_move_48 : decode cX12_move 48 = .ok (.iload_n 1, 1) := by decide +kernel
theorem dX12_move_49 : decode cX12_move 49 = .ok (.iaload, 1) := by decide +kernel
theorem dX12_move_50 : decode cX12_move 50 = .ok (.aload_n 0, 1) := by decide +kernel
theorem dX12_move_51 : decode cX12_move 51 = .ok (.getfield 67, 3) := by decide +kernel
theorem dX12_move_54 : decode cX12_move 54 = .ok (.iload_n 3, 1) := by decide +kernel
theorem dX12_move_55 : decode cX12_move 55 = .ok (.iaload, 1) := by decide +kernel
theorem dX12_move_56 : decode cX12_move 56 = .ok (.if_icmp .eq 9, 3) := by decide +kernel
theorem dX12_move_59 : decode cX12_move 59 = .ok (.aload_n 0, 1) := by decide +kernel
theorem dX12_move_60 : decode cX12_move 60 = .ok (.iconst 5, 1) := by decide +kernel
theorem dX12_move_61 : decode cX12_move 61 = .ok (.invokevirtual 143, 3) := by decide +kernel
theorem dX12_move_64 : decode cX12_move 64 = .ok (.ireturn, 1) := by decide +kernel
theorem dX12_move_65 : decode cX12_move 65 = .ok (.iload 5, 2) := by decide +kernel
theorem dX12_move_67 : decode cX12_move 67 = .ok (.ifCond .lt 39, 3) := by decide +kernel
theorem dX12_move_70 : decode cX12_move 70 = .ok (.iload_n 2, 1) := by decide +kernel
theorem dX12_move_71 : decode cX12_move 71 = .ok (.ifCond .lt 35, 3) := by decide +kernel
theorem dX12_move_74 : decode cX12_move 74 = .ok (.iload 4, 2) := by decide +kernel
theorem dX12_move_76 : decode cX12_move 76 = .ok (.ifCond .lt 30, 3) := by decide +kernel
theorem dX12_move_79 : decode cX12_move 79 = .ok (.iload 5, 2) := by decide +kernel
theorem dX12_move_81 : decode cX12_move 81 = .ok (.aload_n 0, 1) := by decide +kernel
theorem dX12_move_82 : decode cX12_move 82 = .ok (.getfield 70, 3) := by decide +kernel
theorem dX12_move_85 : decode cX12_move 85 = .ok (.iload_n 1, 1) := by decide +kernel
theorem dX12_move_86 : decode cX12_move 86 = .ok (.iaload, 1) := by decide +kernel
theorem dX12_move_87 : decode cX12_move 87 = .ok (.iload_n 2, 1) := by decide +kernel
theorem dX12_move_88 : decode cX12_move 88 = .ok (.isub, 1) := by decide +kernel
theorem dX12_move_89 : decode cX12_move 89 = .ok (.if_icmp .gt 17, 3) := by decide +kernel
theorem dX12_move_92 : decode cX12_move 92 = .ok (.iload 5, 2) := by decide +kernel
theorem dX12_move_94 : decode cX12_move 94 = .ok (.aload_n 0, 1) := by decide +kernel
theorem dX12_move_95 : decode cX12_move 95 = .ok (.getfield 70, 3) := by decide +kernel
theorem dX12_move_98 : decode cX12_move 98 = .ok (.iload_n 3, 1) := by decide +kernel
theorem dX12_move_99 : decode cX12_move 99 = .ok (.iaload, 1) := by decide +kernel
theorem dX12_move_100 : decode cX12_move 100 = .ok (.iload 4, 2) := by decide +kernel
theorem dX12_move_102 : decode cX12_move 102 = .ok (.isub, 1) := by decide +kernel
theorem dX12_move_103 : decode cX12_move 103 = .ok (.if_icmp .le 9, 3) := by decide +kernel
theorem dX12_move_106 : decode cX12_move 106 = .ok (.aload_n 0, 1) := by decide +kernel
theorem dX12_move_107 : decode cX12_move 107 = .ok (.iconst 1, 1) := by decide +kernel
theorem dX12_move_108 : decode cX12_move 108 = .ok (.invokevirtual 143, 3) := by decide +kernel
theorem dX12_move_111 : decode cX12_move 111 = .ok (.ireturn, 1) := by decide +kernel
theorem dX12_move_112 : decode cX12_move 112 = .ok (.iconst 0, 1) := by decide +kernel
theorem dX12_move_113 : decode cX12_move 113 = .ok (.istore 6, 2) := by decide +kernel
theorem dX12_move_115 : decode cX12_move 115 = .ok (.iload 6, 2) := by decide +kernel
theorem dX12_move_117 : decode cX12_move 117 = .ok (.iload 5, 2) := by decide +kernel
theorem dX12_move_119 : decode cX12_move 119 = .ok (.if_icmp .ge 30, 3) := by decide +kernel
theorem dX12_move_122 : decode cX12_move 122 = .ok (.aload_n 0, 1) := by decide +kernel
theorem dX12_move_123 : decode cX12_move 123 = .ok (.getfield 76, 3) := by decide +kernel
theorem dX12_move_126 : decode cX12_move 126 = .ok (.iload 6, 2) := by decide +kernel
theorem dX12_move_128 : decode cX12_move 128 = .ok (.aload_n 0, 1) := by decide +kernel
theorem dX12_move_129 : decode cX12_move 129 = .ok (.getfield 73, 3) := by decide +kernel
theorem dX12_move_132 : decode cX12_move 132 = .ok (.bipush 40, 2) := by decide +kernel
theorem dX12_move_134 : decode cX12_move 134 = .ok (.iload_n 1, 1) := by decide +kernel
theorem dX12_move_135 : decode cX12_move 135 = .ok (.imul, 1) := by decide +kernel
theorem dX12_move_136 : decode cX12_move 136 = .ok (.iload_n 2, 1) := by decide +kernel
theorem dX12_move_137 : decode cX12_move 137 = .ok (.iadd, 1) := by decide +kernel
theorem dX12_move_138 : decode cX12_move 138 = .ok (.iload 6, 2) := by decide +kernel
theorem dX12_move_140 : decode cX12_move 140 = .ok (.iadd, 1) := by decide +kernel
theorem dX12_move_141 : decode cX12_move 141 = .ok (.iaload, 1) := by decide +kernel
theorem dX12_move_142 : decode cX12_move 142 = .ok (.iastore, 1) := by decide +kernel
theorem dX12_move_143 : decode cX12_move 143 = .ok (.iinc 6 1, 3) := by decide +kernel
theorem dX12_move_146 : decode cX12_move 146 = .ok (.goto (-31), 3) := by decide +kernel
theorem dX12_move_149 : decode cX12_move 149 = .ok (.iconst 0, 1) := by decide +kernel
theorem dX12_move_150 : decode cX12_move 150 = .ok (.istore 6, 2) := by decide +kernel
theorem dX12_move_152 : decode cX12_move 152 = .ok (.iload 6, 2) := by decide +kernel
theorem dX12_move_154 : decode cX12_move 154 = .ok (.iload 5, 2) := by decide +kernel
theorem dX12_move_156 : decode cX12_move 156 = .ok (.if_icmp .ge 31, 3) := by decide +kernel
theorem dX12_move_159 : decode cX12_move 159 = .ok (.aload_n 0, 1) := by decide +kernel
theorem dX12_move_160 : decode cX12_move 160 = .ok (.getfield 73, 3) := by decide +kernel
theorem dX12_move_163 : decode cX12_move 163 = .ok (.bipush 40, 2) := by decide +kernel
theorem dX12_move_165 : decode cX12_move 165 = .ok (.iload_n 3, 1) := by decide +kernel
theorem dX12_move_166 : decode cX12_move 166 = .ok (.imul, 1) := by decide +kernel
theorem dX12_move_167 : decode cX12_move 167 = .ok (.iload 4, 2) := by decide +kernel
theorem dX12_move_169 : decode cX12_move 169 = .ok (.iadd, 1) := by decide +kernel
theorem dX12_move_170 : decode cX12_move 170 = .ok (.iload 6, 2) := by decide +kernel
theorem dX12_move_172 : decode cX12_move 172 = .ok (.iadd, 1) := by decide +kernel
theorem dX12_move_173 : decode cX12_move 173 = .ok (.aload_n 0, 1) := by decide +kernel
theorem dX12_move_174 : decode cX12_move 174 = .ok (.getfield 76, 3) := by decide +kernel
theorem dX12_move_177 : decode cX12_move 177 = .ok (.iload 6, 2) := by decide +kernel
theorem dX12_move_179 : decode cX12_move 179 = .ok (.iaload, 1) := by decide +kernel
theorem dX12_move_180 : decode cX12_move 180 = .ok (.iastore, 1) := by decide +kernel
theorem dX12_move_181 : decode cX12_move 181 = .ok (.iinc 6 1, 3) := by decide +kernel
theorem dX12_move_184 : decode cX12_move 184 = .ok (.goto (-32), 3) := by decide +kernel
theorem dX12_move_187 : decode cX12_move 187 = .ok (.iload 5, 2) := by decide +kernel
theorem dX12_move_189 : decode cX12_move 189 = .ok (.ireturn, 1) := by decide +kernel
theorem dX12_judge_0 : decode cX12_judge 0 = .ok (.iload_n 1, 1) := by decide +kernel
theorem dX12_judge_1 : decode cX12_judge 1 = .ok (.invokestatic 319, 3) := by decide +kernel
theorem dX12_judge_4 : decode cX12_judge 4 = .ok (.ifCond .ne 9, 3) := by decide +kernel
theorem dX12_judge_7 : decode cX12_judge 7 = .ok (.aload_n 0, 1) := by decide +kernel
theorem dX12_judge_8 : decode cX12_judge 8 = .ok (.iconst 1, 1) := by decide +kernel
theorem dX12_judge_9 : decode cX12_judge 9 = .ok (.invokevirtual 143, 3) := by decide +kernel
theorem dX12_judge_12 : decode cX12_judge 12 = .ok (.ireturn, 1) := by decide +kernel
theorem dX12_judge_13 : decode cX12_judge 13 = .ok (.aload_n 0, 1) := by decide +kernel
theorem dX12_judge_14 : decode cX12_judge 14 = .ok (.getfield 67, 3) := by decide +kernel
theorem dX12_judge_17 : decode cX12_judge 17 = .ok (.iload_n 1, 1) := by decide +kernel
theorem dX12_judge_18 : decode cX12_judge 18 = .ok (.iaload, 1) := by decide +kernel
theorem dX12_judge_19 : decode cX12_judge 19 = .ok (.ifCond .ne 9, 3) := by decide +kernel
theorem dX12_judge_22 : decode cX12_judge 22 = .ok (.aload_n 0, 1) := by decide +kernel
theorem dX12_judge_23 : decode cX12_judge 23 = .ok (.iconst 2, 1) := by decide +kernel
theorem dX12_judge_24 : decode cX12_judge 24 = .ok (.invokevirtual 143, 3) := by decide +kernel
theorem dX12_judge_27 : decode cX12_judge 27 = .ok (.ireturn, 1) := by decide +kernel
theorem dX12_judge_28 : decode cX12_judge 28 = .ok (.aload_n 0, 1) := by decide +kernel
theorem dX12_judge_29 : decode cX12_judge 29 = .ok (.invokevirtual 244, 3) := by decide +kernel
theorem dX12_judge_32 : decode cX12_judge 32 = .ok (.aload_n 0, 1) := by decide +kernel
theorem dX12_judge_33 : decode cX12_judge 33 = .ok (.getfield 7, 3) := by decide +kernel
theorem dX12_judge_36 : decode cX12_judge 36 = .ok (.iconst 5, 1) := by decide +kernel
theorem dX12_judge_37 : decode cX12_judge 37 = .ok (.iconst 0, 1) := by decide +kernel
theorem dX12_judge_38 : decode cX12_judge 38 = .ok (.iastore, 1) := by decide +kernel
theorem dX12_judge_39 : decode cX12_judge 39 = .ok (.iconst 0, 1) := by decide +kernel
theorem dX12_judge_40 : decode cX12_judge 40 = .ok (.istore_n 2, 1) := by decide +kernel
theorem dX12_judge_41 : decode cX12_judge 41 = .ok (.aload_n 0, 1) := by decide +kernel
theorem dX12_judge_42 : decode cX12_judge 42 = .ok (.getfield 7, 3) := by decide +kernel
theorem dX12_judge_45 : decode cX12_judge 45 = .ok (.bipush 6, 2) := by decide +kernel
theorem dX12_judge_47 : decode cX12_judge 47 = .ok (.iaload, 1) := by decide +kernel
theorem dX12_judge_48 : decode cX12_judge 48 = .ok (.ifCond .ne 7, 3) := by decide +kernel
theorem dX12_judge_51 : decode cX12_judge 51 = .ok (.iconst 1, 1) := by decide +kernel
theorem dX12_judge_52 : decode cX12_judge 52 = .ok (.goto 4, 3) := by decide +kernel
theorem dX12_judge_55 : decode cX12_judge 55 = .ok (.iconst 0, 1) := by decide +kernel
theorem dX12_judge_56 : decode cX12_judge 56 = .ok (.istore_n 3, 1) := by decide +kernel
theorem dX12_judge_57 : decode cX12_judge 57 = .ok (.iload_n 2, 1) := by decide +kernel
theorem dX12_judge_58 : decode cX12_judge 58 = .ok (.aload_n 0, 1) := by decide +kernel
theorem dX12_judge_59 : decode cX12_judge 59 = .ok (.getfield 70, 3) := by decide +kernel
theorem dX12_judge_62 : decode cX12_judge 62 = .ok (.iload_n 1, 1) := by decide +kernel
theorem dX12_judge_63 : decode cX12_judge 63 = .ok (.iaload, 1) := by decide +kernel
theorem dX12_judge_64 : decode cX12_judge 64 = .ok (.if_icmp .ge 86, 3) := by decide +kernel
theorem dX12_judge_67 : decode cX12_judge 67 = .ok (.iload_n 3, 1) := by decide +kernel
theorem dX12_judge_68 : decode cX12_judge 68 = .ok (.ifCond .eq 82, 3) := by decide +kernel
theorem dX12_judge_71 : decode cX12_judge 71 = .ok (.aload_n 0, 1) := by decide +kernel
theorem dX12_judge_72 : decode cX12_judge 72 = .ok (.getfield 73, 3) := by decide +kernel
theorem dX12_judge_75 : decode cX12_judge 75 = .ok (.bipush 40, 2) := by decide +kernel
theorem dX12_judge_77 : decode cX12_judge 77 = .ok (.iload_n 1, 1) := by decide +kernel
theorem dX12_judge_78 : decode cX12_judge 78 = .ok (.imul, 1) := by decide +kernel
theorem dX12_judge_79 : decode cX12_judge 79 = .ok (.iload_n 2, 1) := by decide +kernel
theorem dX12_judge_80 : decode cX12_judge 80 = .ok (.iadd, 1) := by decide +kernel
theorem dX12_judge_81 : decode cX12_judge 81 = .ok (.iaload, 1) := by decide +kernel
theorem dX12_judge_82 : decode cX12_judge 82 = .ok (.istore 4, 2) := by decide +kernel
theorem dX12_judge_84 : decode cX12_judge 84 = .ok (.aload_n 0, 1) := by decide +kernel
theorem dX12_judge_85 : decode cX12_judge 85 = .ok (.iload 4, 2) := by decide +kernel
theorem dX12_judge_87 : decode cX12_judge 87 = .ok (.invokevirtual 202, 3) := by decide +kernel
theorem dX12_judge_90 : decode cX12_judge 90 = .ok (.ifCond .eq 16, 3) := by decide +kernel
theorem dX12_judge_93 : decode cX12_judge 93 = .ok (.aload_n 0, 1) := by decide +kernel
theorem dX12_judge_94 : decode cX12_judge 94 = .ok (.iload 4, 2) := by decide +kernel
theorem dX12_judge_96 : decode cX12_judge 96 = .ok (.invokevirtual 220, 3) := by decide +kernel
theorem dX12_judge_99 : decode cX12_judge 99 = .ok (.ifCond .eq 7, 3) := by decide +kernel
theorem dX12_judge_102 : decode cX12_judge 102 = .ok (.iconst 1, 1) := by decide +kernel
theorem dX12_judge_103 : decode cX12_judge 103 = .ok (.goto 4, 3) := by decide +kernel
theorem dX12_judge_106 : decode cX12_judge 106 = .ok (.iconst 0, 1) := by decide +kernel
theorem dX12_judge_107 : decode cX12_judge 107 = .ok (.istore_n 3, 1) := by decide +kernel
theorem dX12_judge_108 : decode cX12_judge 108 = .ok (.iload_n 3, 1) := by decide +kernel
theorem dX12_judge_109 : decode cX12_judge 109 = .ok (.ifCond .eq 26, 3) := by decide +kernel
theorem dX12_judge_112 : decode cX12_judge 112 = .ok (.aload_n 0, 1) := by decide +kernel
theorem dX12_judge_113 : decode cX12_judge 113 = .ok (.iload 4, 2) := by decide +kernel
theorem dX12_judge_115 : decode cX12_judge 115 = .ok (.invokevirtual 302, 3) := by decide +kernel
theorem dX12_judge_118 : decode cX12_judge 118 = .ok (.aload_n 0, 1) := by decide +kernel
theorem dX12_judge_119 : decode cX12_judge 119 = .ok (.iload 4, 2) := by decide +kernel
theorem dX12_judge_121 : decode cX12_judge 121 = .ok (.iconst 4, 1) := by decide +kernel
theorem dX12_judge_122 : decode cX12_judge 122 = .ok (.invokevirtual 171, 3) := by decide +kernel
theorem dX12_judge_125 : decode cX12_judge 125 = .ok (.iconst 1, 1) := by decide +kernel
theorem dX12_judge_126 : decode cX12_judge 126 = .ok (.if_icmp .ne 7, 3) := by decide +kernel
theorem dX12_judge_129 : decode cX12_judge 129 = .ok (.iconst 1, 1) := by decide +kernel
theorem dX12_judge_130 : decode cX12_judge 130 = .ok (.goto 4, 3) := by decide +kernel
theorem dX12_judge_133 : decode cX12_judge 133 = .ok (.iconst 0, 1) := by decide +kernel
theorem dX12_judge_134 : decode cX12_judge 134 = .ok (.istore_n 3, 1) := by decide +kernel
theorem dX12_judge_135 : decode cX12_judge 135 = .ok (.iload_n 2, 1) := by decide +kernel
theorem dX12_judge_136 : decode cX12_judge 136 = .ok (.iload_n 3, 1) := by decide +kernel
theorem dX12_judge_137 : decode cX12_judge 137 = .ok (.ifCond .eq 7, 3) := by decide +kernel
theorem dX12_judge_140 : decode cX12_judge 140 = .ok (.iconst 1, 1) := by decide +kernel
theorem dX12_judge_141 : decode cX12_judge 141 = .ok (.goto 4, 3) := by decide +kernel
theorem dX12_judge_144 : decode cX12_judge 144 = .ok (.iconst 0, 1) := by decide +kernel
theorem dX12_judge_145 : decode cX12_judge 145 = .ok (.iadd, 1) := by decide +kernel
theorem dX12_judge_146 : decode cX12_judge 146 = .ok (.istore_n 2, 1) := by decide +kernel
theorem dX12_judge_147 : decode cX12_judge 147 = .ok (.goto (-90), 3) := by decide +kernel
theorem dX12_judge_150 : decode cX12_judge 150 = .ok (.aload_n 0, 1) := by decide +kernel
theorem dX12_judge_151 : decode cX12_judge 151 = .ok (.invokevirtual 247, 3) := by decide +kernel
theorem dX12_judge_154 : decode cX12_judge 154 = .ok (.iload_n 2, 1) := by decide +kernel
theorem dX12_judge_155 : decode cX12_judge 155 = .ok (.ireturn, 1) := by decide +kernel
theorem dX12_image_0 : decode cX12_image 0 = .ok (.iconst 0, 1) := by decide +kernel
theorem dX12_image_1 : decode cX12_image 1 = .ok (.istore_n 1, 1) := by decide +kernel
theorem dX12_image_2 : decode cX12_image 2 = .ok (.iload_n 1, 1) := by decide +kernel
theorem dX12_image_3 : decode cX12_image 3 = .ok (.sipush 264, 3) := by decide +kernel
theorem dX12_image_6 : decode cX12_image 6 = .ok (.if_icmp .ge 21, 3) := by decide +kernel
theorem dX12_image_9 : decode cX12_image 9 = .ok (.aload_n 0, 1) := by decide +kernel
theorem dX12_image_10 : decode cX12_image 10 = .ok (.getfield 13, 3) := by decide +kernel
theorem dX12_image_13 : decode cX12_image 13 = .ok (.iload_n 1, 1) := by decide +kernel
theorem dX12_image_14 : decode cX12_image 14 = .ok (.aload_n 0, 1) := by decide +kernel
theorem dX12_image_15 : decode cX12_image 15 = .ok (.getfield 7, 3) := by decide +kernel
theorem dX12_image_18 : decode cX12_image 18 = .ok (.iload_n 1, 1) := by decide +kernel
theorem dX12_image_19 : decode cX12_image 19 = .ok (.iaload, 1) := by decide +kernel
theorem dX12_image_20 : decode cX12_image 20 = .ok (.iastore, 1) := by decide +kernel
theorem dX12_image_21 : decode cX12_image 21 = .ok (.iinc 1 1, 3) := by decide +kernel
theorem dX12_image_24 : decode cX12_image 24 = .ok (.goto (-22), 3) := by decide +kernel
theorem dX12_image_27 : decode cX12_image 27 = .ok (.aload_n 0, 1) := by decide +kernel
theorem dX12_image_28 : decode cX12_image 28 = .ok (.dup, 1) := by decide +kernel
theorem dX12_image_29 : decode cX12_image 29 = .ok (.getfield 349, 3) := by decide +kernel
theorem dX12_image_32 : decode cX12_image 32 = .ok (.iconst 1, 1) := by decide +kernel
theorem dX12_image_33 : decode cX12_image 33 = .ok (.iadd, 1) := by decide +kernel
theorem dX12_image_34 : decode cX12_image 34 = .ok (.putfield 349, 3) := by decide +kernel
theorem dX12_image_37 : decode cX12_image 37 = .ok (.aload_n 0, 1) := by decide +kernel
theorem dX12_image_38 : decode cX12_image 38 = .ok (.getfield 349, 3) := by decide +kernel
theorem dX12_image_41 : decode cX12_image 41 = .ok (.ireturn, 1) := by decide +kernel
theorem dX12_restore_0 : decode cX12_restore 0 = .ok (.aload_n 0, 1) := by decide +kernel
theorem dX12_restore_1 : decode cX12_restore 1 = .ok (.getfield 349, 3) := by decide +kernel
theorem dX12_restore_4 : decode cX12_restore 4 = .ok (.ifCond .ne 9, 3) := by decide +kernel
theorem dX12_restore_7 : decode cX12_restore 7 = .ok (.aload_n 0, 1) := by decide +kernel
theorem dX12_restore_8 : decode cX12_restore 8 = .ok (.iconst 2, 1) := by decide +kernel
theorem dX12_restore_9 : decode cX12_restore 9 = .ok (.invokevirtual 143, 3) := by decide +kernel
theorem dX12_restore_12 : decode cX12_restore 12 = .ok (.ireturn, 1) := by decide +kernel
theorem dX12_restore_13 : decode cX12_restore 13 = .ok (.iconst 0, 1) := by decide +kernel
theorem dX12_restore_14 : decode cX12_restore 14 = .ok (.istore_n 1, 1) := by decide +kernel
theorem dX12_restore_15 : decode cX12_restore 15 = .ok (.iload_n 1, 1) := by decide +kernel
theorem dX12_restore_16 : decode cX12_restore 16 = .ok (.sipush 264, 3) := by decide +kernel
theorem dX12_restore_19 : decode cX12_restore 19 = .ok (.if_icmp .ge 21, 3) := by decide +kernel
theorem dX12_restore_22 : decode cX12_restore 22 = .ok (.aload_n 0, 1) := by decide +kernel
theorem dX12_restore_23 : decode cX12_restore 23 = .ok (.getfield 7, 3) := by decide +kernel
theorem dX12_restore_26 : decode cX12_restore 26 = .ok (.iload_n 1, 1) := by decide +kernel
theorem dX12_restore_27 : decode cX12_restore 27 = .ok (.aload_n 0, 1) := by decide +kernel
theorem dX12_restore_28 : decode cX12_restore 28 = .ok (.getfield 13, 3) := by decide +kernel
theorem dX12_restore_31 : decode cX12_restore 31 = .ok (.iload_n 1, 1) := by decide +kernel
theorem dX12_restore_32 : decode cX12_restore 32 = .ok (.iaload, 1) := by decide +kernel
theorem dX12_restore_33 : decode cX12_restore 33 = .ok (.iastore, 1) := by decide +kernel
theorem dX12_restore_34 : decode cX12_restore 34 = .ok (.iinc 1 1, 3) := by decide +kernel
theorem dX12_restore_37 : decode cX12_restore 37 = .ok (.goto (-22), 3) := by decide +kernel
theorem dX12_restore_40 : decode cX12_restore 40 = .ok (.aload_n 0, 1) := by decide +kernel
theorem dX12_restore_41 : decode cX12_restore 41 = .ok (.getfield 7, 3) := by decide +kernel
theorem dX12_restore_44 : decode cX12_restore 44 = .ok (.iconst 3, 1) := by decide +kernel
theorem dX12_restore_45 : decode cX12_restore 45 = .ok (.iaload, 1) := by decide +kernel
theorem dX12_restore_46 : decode cX12_restore 46 = .ok (.ireturn, 1) := by decide +kernel
theorem dX12_tell_0 : decode cX12_tell 0 = .ok (.aload_n 0, 1) := by decide +kernel
theorem dX12_tell_1 : decode cX12_tell 1 = .ok (.getfield 7, 3) := by decide +kernel
theorem dX12_tell_4 : decode cX12_tell 4 = .ok (.bipush 9, 2) := by decide +kernel
theorem dX12_tell_6 : decode cX12_tell 6 = .ok (.iaload, 1) := by decide +kernel
theorem dX12_tell_7 : decode cX12_tell 7 = .ok (.bipush 20, 2) := by decide +kernel
theorem dX12_tell_9 : decode cX12_tell 9 = .ok (.if_icmp .ne 9, 3) := by decide +kernel
theorem dX12_tell_12 : decode cX12_tell 12 = .ok (.aload_n 0, 1) := by decide +kernel
theorem dX12_tell_13 : decode cX12_tell 13 = .ok (.iconst 4, 1) := by decide +kernel
theorem dX12_tell_14 : decode cX12_tell 14 = .ok (.invokevirtual 143, 3) := by decide +kernel
theorem dX12_tell_17 : decode cX12_tell 17 = .ok (.ireturn, 1) := by decide +kernel
theorem dX12_tell_18 : decode cX12_tell 18 = .ok (.aload_n 0, 1) := by decide +kernel
theorem dX12_tell_19 : decode cX12_tell 19 = .ok (.getfield 7, 3) := by decide +kernel
theorem dX12_tell_22 : decode cX12_tell 22 = .ok (.bipush 92, 2) := by decide +kernel
theorem dX12_tell_24 : decode cX12_tell 24 = .ok (.aload_n 0, 1) := by decide +kernel
theorem dX12_tell_25 : decode cX12_tell 25 = .ok (.getfield 7, 3) := by decide +kernel
theorem dX12_tell_28 : decode cX12_tell 28 = .ok (.bipush 9, 2) := by decide +kernel
theorem dX12_tell_30 : decode cX12_tell 30 = .ok (.iaload, 1) := by decide +kernel
theorem dX12_tell_31 : decode cX12_tell 31 = .ok (.iadd, 1) := by decide +kernel
theorem dX12_tell_32 : decode cX12_tell 32 = .ok (.iload_n 1, 1) := by decide +kernel
theorem dX12_tell_33 : decode cX12_tell 33 = .ok (.iastore, 1) := by decide +kernel
theorem dX12_tell_34 : decode cX12_tell 34 = .ok (.aload_n 0, 1) := by decide +kernel
theorem dX12_tell_35 : decode cX12_tell 35 = .ok (.getfield 7, 3) := by decide +kernel
theorem dX12_tell_38 : decode cX12_tell 38 = .ok (.bipush 9, 2) := by decide +kernel
theorem dX12_tell_40 : decode cX12_tell 40 = .ok (.dup2, 1) := by decide +kernel
theorem dX12_tell_41 : decode cX12_tell 41 = .ok (.iaload, 1) := by decide +kernel
theorem dX12_tell_42 : decode cX12_tell 42 = .ok (.iconst 1, 1) := by decide +kernel
theorem dX12_tell_43 : decode cX12_tell 43 = .ok (.iadd, 1) := by decide +kernel
theorem dX12_tell_44 : decode cX12_tell 44 = .ok (.iastore, 1) := by decide +kernel
theorem dX12_tell_45 : decode cX12_tell 45 = .ok (.aload_n 0, 1) := by decide +kernel
theorem dX12_tell_46 : decode cX12_tell 46 = .ok (.getfield 7, 3) := by decide +kernel
theorem dX12_tell_49 : decode cX12_tell 49 = .ok (.bipush 9, 2) := by decide +kernel
theorem dX12_tell_51 : decode cX12_tell 51 = .ok (.iaload, 1) := by decide +kernel
theorem dX12_tell_52 : decode cX12_tell 52 = .ok (.ireturn, 1) := by decide +kernel
theorem dX12_check_0 : decode cX12_check 0 = .ok (.aload_n 0, 1) := by decide +kernel
theorem dX12_check_1 : decode cX12_check 1 = .ok (.getfield 7, 3) := by decide +kernel
theorem dX12_check_4 : decode cX12_check 4 = .ok (.bipush 9, 2) := by decide +kernel
theorem dX12_check_6 : decode cX12_check 6 = .ok (.iaload, 1) := by decide +kernel
theorem dX12_check_7 : decode cX12_check 7 = .ok (.istore_n 1, 1) := by decide +kernel
theorem dX12_check_8 : decode cX12_check 8 = .ok (.aload_n 0, 1) := by decide +kernel
theorem dX12_check_9 : decode cX12_check 9 = .ok (.getfield 7, 3) := by decide +kernel
theorem dX12_check_12 : decode cX12_check 12 = .ok (.bipush 9, 2) := by decide +kernel
theorem dX12_check_14 : decode cX12_check 14 = .ok (.iconst 0, 1) := by decide +kernel
theorem dX12_check_15 : decode cX12_check 15 = .ok (.iastore, 1) := by decide +kernel
theorem dX12_check_16 : decode cX12_check 16 = .ok (.aload_n 0, 1) := by decide +kernel
theorem dX12_check_17 : decode cX12_check 17 = .ok (.invokevirtual 244, 3) := by decide +kernel
theorem dX12_check_20 : decode cX12_check 20 = .ok (.iconst 0, 1) := by decide +kernel
theorem dX12_check_21 : decode cX12_check 21 = .ok (.istore_n 2, 1) := by decide +kernel
theorem dX12_check_22 : decode cX12_check 22 = .ok (.iconst 1, 1) := by decide +kernel
theorem dX12_check_23 : decode cX12_check 23 = .ok (.istore_n 3, 1) := by decide +kernel
theorem dX12_check_24 : decode cX12_check 24 = .ok (.iload_n 2, 1) := by decide +kernel
theorem dX12_check_25 : decode cX12_check 25 = .ok (.iload_n 1, 1) := by decide +kernel
theorem dX12_check_26 : decode cX12_check 26 = .ok (.if_icmp .ge 50, 3) := by decide +kernel
theorem dX12_check_29 : decode cX12_check 29 = .ok (.iload_n 3, 1) := by decide +kernel
theorem dX12_check_30 : decode cX12_check 30 = .ok (.ifCond .eq 46, 3) := by decide +kernel
theorem dX12_check_33 : decode cX12_check 33 = .ok (.aload_n 0, 1) := by decide +kernel
theorem dX12_check_34 : decode cX12_check 34 = .ok (.invokevirtual 235, 3) := by decide +kernel
theorem dX12_check_37 : decode cX12_check 37 = .ok (.aload_n 0, 1) := by decide +kernel
theorem dX12_check_38 : decode cX12_check 38 = .ok (.getfield 7, 3) := by decide +kernel
theorem dX12_check_41 : decode cX12_check 41 = .ok (.iconst 4, 1) := by decide +kernel
theorem dX12_check_42 : decode cX12_check 42 = .ok (.iaload, 1) := by decide +kernel
theorem dX12_check_43 : decode cX12_check 43 = .ok (.aload_n 0, 1) := by decide +kernel
theorem dX12_check_44 : decode cX12_check 44 = .ok (.getfield 7, 3) := by decide +kernel
theorem dX12_check_47 : decode cX12_check 47 = .ok (.bipush 92, 2) := by decide +kernel
theorem dX12_check_49 : decode cX12_check 49 = .ok (.iload_n 2, 1) := by decide +kernel
theorem dX12_check_50 : decode cX12_check 50 = .ok (.iadd, 1) := by decide +kernel
theorem dX12_check_51 : decode cX12_check 51 = .ok (.iaload, 1) := by decide +kernel
theorem dX12_check_52 : decode cX12_check 52 = .ok (.if_icmp .ne 7, 3) := by decide +kernel
theorem dX12_check_55 : decode cX12_check 55 = .ok (.iconst 1, 1) := by decide +kernel
theorem dX12_check_56 : decode cX12_check 56 = .ok (.goto 4, 3) := by decide +kernel
theorem dX12_check_59 : decode cX12_check 59 = .ok (.iconst 0, 1) := by decide +kernel
theorem dX12_check_60 : decode cX12_check 60 = .ok (.istore_n 3, 1) := by decide +kernel
theorem dX12_check_61 : decode cX12_check 61 = .ok (.iload_n 2, 1) := by decide +kernel
theorem dX12_check_62 : decode cX12_check 62 = .ok (.iload_n 3, 1) := by decide +kernel
theorem dX12_check_63 : decode cX12_check 63 = .ok (.ifCond .eq 7, 3) := by decide +kernel
theorem dX12_check_66 : decode cX12_check 66 = .ok (.iconst 1, 1) := by decide +kernel
theorem dX12_check_67 : decode cX12_check 67 = .ok (.goto 4, 3) := by decide +kernel
theorem dX12_check_70 : decode cX12_check 70 = .ok (.iconst 0, 1) := by decide +kernel
theorem dX12_check_71 : decode cX12_check 71 = .ok (.iadd, 1) := by decide +kernel
theorem dX12_check_72 : decode cX12_check 72 = .ok (.istore_n 2, 1) := by decide +kernel
theorem dX12_check_73 : decode cX12_check 73 = .ok (.goto (-49), 3) := by decide +kernel
theorem dX12_check_76 : decode cX12_check 76 = .ok (.aload_n 0, 1) := by decide +kernel
theorem dX12_check_77 : decode cX12_check 77 = .ok (.invokevirtual 247, 3) := by decide +kernel
theorem dX12_check_80 : decode cX12_check 80 = .ok (.iload_n 2, 1) := by decide +kernel
theorem dX12_check_81 : decode cX12_check 81 = .ok (.iload_n 1, 1) := by decide +kernel
theorem dX12_check_82 : decode cX12_check 82 = .ok (.if_icmp .ne 7, 3) := by decide +kernel
theorem dX12_check_85 : decode cX12_check 85 = .ok (.iconst 0, 1) := by decide +kernel
theorem dX12_check_86 : decode cX12_check 86 = .ok (.goto 6, 3) := by decide +kernel
theorem dX12_check_89 : decode cX12_check 89 = .ok (.iconst 1, 1) := by decide +kernel
theorem dX12_check_90 : decode cX12_check 90 = .ok (.iload_n 2, 1) := by decide +kernel
theorem dX12_check_91 : decode cX12_check 91 = .ok (.iadd, 1) := by decide +kernel
theorem dX12_check_92 : decode cX12_check 92 = .ok (.ireturn, 1) := by decide +kernel
theorem dX12_waterOfAll_0 : decode cX12_waterOfAll 0 = .ok (.iconst 0, 1) := by decide +kernel
theorem dX12_waterOfAll_1 : decode cX12_waterOfAll 1 = .ok (.istore_n 1, 1) := by decide +kernel
theorem dX12_waterOfAll_2 : decode cX12_waterOfAll 2 = .ok (.iconst 0, 1) := by decide +kernel
theorem dX12_waterOfAll_3 : decode cX12_waterOfAll 3 = .ok (.istore_n 2, 1) := by decide +kernel
theorem dX12_waterOfAll_4 : decode cX12_waterOfAll 4 = .ok (.iload_n 2, 1) := by decide +kernel
theorem dX12_waterOfAll_5 : decode cX12_waterOfAll 5 = .ok (.aload_n 0, 1) := by decide +kernel
theorem dX12_waterOfAll_6 : decode cX12_waterOfAll 6 = .ok (.getfield 7, 3) := by decide +kernel
theorem dX12_waterOfAll_9 : decode cX12_waterOfAll 9 = .ok (.iconst 0, 1) := by decide +kernel
theorem dX12_waterOfAll_10 : decode cX12_waterOfAll 10 = .ok (.iaload, 1) := by decide +kernel
theorem dX12_waterOfAll_11 : decode cX12_waterOfAll 11 = .ok (.if_icmp .ge 18, 3) := by decide +kernel
theorem dX12_waterOfAll_14 : decode cX12_waterOfAll 14 = .ok (.iload_n 1, 1) := by decide +kernel
theorem dX12_waterOfAll_15 : decode cX12_waterOfAll 15 = .ok (.aload_n 0, 1) := by decide +kernel
theorem dX12_waterOfAll_16 : decode cX12_waterOfAll 16 = .ok (.iload_n 2, 1) := by decide +kernel
theorem dX12_waterOfAll_17 : decode cX12_waterOfAll 17 = .ok (.iconst 3, 1) := by decide +kernel
theorem dX12_waterOfAll_18 : decode cX12_waterOfAll 18 = .ok (.invokevirtual 161, 3) := by decide +kernel
theorem dX12_waterOfAll_21 : decode cX12_waterOfAll 21 = .ok (.iadd, 1) := by decide +kernel
theorem dX12_waterOfAll_22 : decode cX12_waterOfAll 22 = .ok (.istore_n 1, 1) := by decide +kernel
theorem dX12_waterOfAll_23 : decode cX12_waterOfAll 23 = .ok (.iinc 2 1, 3) := by decide +kernel
theorem dX12_waterOfAll_26 : decode cX12_waterOfAll 26 = .ok (.goto (-22), 3) := by decide +kernel
theorem dX12_waterOfAll_29 : decode cX12_waterOfAll 29 = .ok (.iload_n 1, 1) := by decide +kernel
theorem dX12_waterOfAll_30 : decode cX12_waterOfAll 30 = .ok (.ireturn, 1) := by decide +kernel
theorem dX12_count_0 : decode cX12_count 0 = .ok (.iload_n 1, 1) := by decide +kernel
theorem dX12_count_1 : decode cX12_count 1 = .ok (.tableswitch 149 0 11 #[63, 70, 77, 84, 91, 98, 108, 116, 121, 129, 137, 142], 63) := by decide +kernel
theorem dX12_count_64 : decode cX12_count 64 = .ok (.aload_n 0, 1) := by decide +kernel
theorem dX12_count_65 : decode cX12_count 65 = .ok (.getfield 7, 3) := by decide +kernel
theorem dX12_count_68 : decode cX12_count 68 = .ok (.iconst 0, 1) := by decide +kernel
theorem dX12_count_69 : decode cX12_count 69 = .ok (.iaload, 1) := by decide +kernel
theorem dX12_count_70 : decode cX12_count 70 = .ok (.ireturn, 1) := by decide +kernel
theorem dX12_count_71 : decode cX12_count 71 = .ok (.aload_n 0, 1) := by decide +kernel
theorem dX12_count_72 : decode cX12_count 72 = .ok (.getfield 7, 3) := by decide +kernel
theorem dX12_count_75 : decode cX12_count 75 = .ok (.iconst 1, 1) := by decide +kernel
theorem dX12_count_76 : decode cX12_count 76 = .ok (.iaload, 1) := by decide +kernel
theorem dX12_count_77 : decode cX12_count 77 = .ok (.ireturn, 1) := by decide +kernel
theorem dX12_count_78 : decode cX12_count 78 = .ok (.aload_n 0, 1) := by decide +kernel
theorem dX12_count_79 : decode cX12_count 79 = .ok (.getfield 7, 3) := by decide +kernel
theorem dX12_count_82 : decode cX12_count 82 = .ok (.iconst 3, 1) := by decide +kernel
theorem dX12_count_83 : decode cX12_count 83 = .ok (.iaload, 1) := by decide +kernel
theorem dX12_count_84 : decode cX12_count 84 = .ok (.ireturn, 1) := by decide +kernel
theorem dX12_count_85 : decode cX12_count 85 = .ok (.aload_n 0, 1) := by decide +kernel
theorem dX12_count_86 : decode cX12_count 86 = .ok (.getfield 7, 3) := by decide +kernel
theorem dX12_count_89 : decode cX12_count 89 = .ok (.iconst 4, 1) := by decide +kernel
theorem dX12_count_90 : decode cX12_count 90 = .ok (.iaload, 1) := by decide +kernel
theorem dX12_count_91 : decode cX12_count 91 = .ok (.ireturn, 1) := by decide +kernel
theorem dX12_count_92 : decode cX12_count 92 = .ok (.aload_n 0, 1) := by decide +kernel
theorem dX12_count_93 : decode cX12_count 93 = .ok (.getfield 7, 3) := by decide +kernel
theorem dX12_count_96 : decode cX12_count 96 = .ok (.iconst 5, 1) := by decide +kernel
theorem dX12_count_97 : decode cX12_count 97 = .ok (.iaload, 1) := by decide +kernel
theorem dX12_count_98 : decode cX12_count 98 = .ok (.ireturn, 1) := by decide +kernel
theorem dX12_count_99 : decode cX12_count 99 = .ok (.aload_n 0, 1) := by decide +kernel
theorem dX12_count_100 : decode cX12_count 100 = .ok (.getfield 7, 3) := by decide +kernel
theorem dX12_count_103 : decode cX12_count 103 = .ok (.bipush 6, 2) := by decide +kernel
theorem dX12_count_105 : decode cX12_count 105 = .ok (.iaload, 1) := by decide +kernel
theorem dX12_count_106 : decode cX12_count 106 = .ok (.iconst 1, 1) := by decide +kernel
theorem dX12_count_107 : decode cX12_count 107 = .ok (.isub, 1) := by decide +kernel
theorem dX12_count_108 : decode cX12_count 108 = .ok (.ireturn, 1) := by decide +kernel
theorem dX12_count_109 : decode cX12_count 109 = .ok (.aload_n 0, 1) := by decide +kernel
theorem dX12_count_110 : decode cX12_count 110 = .ok (.getfield 7, 3) := by decide +kernel
theorem dX12_count_113 : decode cX12_count 113 = .ok (.bipush 7, 2) := by decide +kernel
theorem dX12_count_115 : decode cX12_count 115 = .ok (.iaload, 1) := by decide +kernel
theorem dX12_count_116 : decode cX12_count 116 = .ok (.ireturn, 1) := by decide +kernel
theorem dX12_count_117 : decode cX12_count 117 = .ok (.aload_n 0, 1) := by decide +kernel
theorem dX12_count_118 : decode cX12_count 118 = .ok (.invokevirtual 352, 3) := by decide +kernel
theorem dX12_count_121 : decode cX12_count 121 = .ok (.ireturn, 1) := by decide +kernel
theorem dX12_count_122 : decode cX12_count 122 = .ok (.aload_n 0, 1) := by decide +kernel
theorem dX12_count_123 : decode cX12_count 123 = .ok (.getfield 7, 3) := by decide +kernel
theorem dX12_count_126 : decode cX12_count 126 = .ok (.bipush 8, 2) := by decide +kernel
theorem dX12_count_128 : decode cX12_count 128 = .ok (.iaload, 1) := by decide +kernel
theorem dX12_count_129 : decode cX12_count 129 = .ok (.ireturn, 1) := by decide +kernel
theorem dX12_count_130 : decode cX12_count 130 = .ok (.aload_n 0, 1) := by decide +kernel
theorem dX12_count_131 : decode cX12_count 131 = .ok (.getfield 7, 3) := by decide +kernel
theorem dX12_count_134 : decode cX12_count 134 = .ok (.bipush 9, 2) := by decide +kernel
theorem dX12_count_136 : decode cX12_count 136 = .ok (.iaload, 1) := by decide +kernel
theorem dX12_count_137 : decode cX12_count 137 = .ok (.ireturn, 1) := by decide +kernel
theorem dX12_count_138 : decode cX12_count 138 = .ok (.aload_n 0, 1) := by decide +kernel
theorem dX12_count_139 : decode cX12_count 139 = .ok (.getfield 325, 3) := by decide +kernel
theorem dX12_count_142 : decode cX12_count 142 = .ok (.ireturn, 1) := by decide +kernel
theorem dX12_count_143 : decode cX12_count 143 = .ok (.aload_n 0, 1) := by decide +kernel
theorem dX12_count_144 : decode cX12_count 144 = .ok (.getfield 7, 3) := by decide +kernel
theorem dX12_count_147 : decode cX12_count 147 = .ok (.iconst 2, 1) := by decide +kernel
theorem dX12_count_148 : decode cX12_count 148 = .ok (.iaload, 1) := by decide +kernel
theorem dX12_count_149 : decode cX12_count 149 = .ok (.ireturn, 1) := by decide +kernel
theorem dX12_count_150 : decode cX12_count 150 = .ok (.aload_n 0, 1) := by decide +kernel
theorem dX12_count_151 : decode cX12_count 151 = .ok (.iconst 1, 1) := by decide +kernel
theorem dX12_count_152 : decode cX12_count 152 = .ok (.invokevirtual 143, 3) := by decide +kernel
theorem dX12_count_155 : decode cX12_count 155 = .ok (.ireturn, 1) := by decide +kernel
theorem dX12_told_0 : decode cX12_told 0 = .ok (.iload_n 1, 1) := by decide +kernel
theorem dX12_told_1 : decode cX12_told 1 = .ok (.i2l, 1) := by decide +kernel
theorem dX12_told_2 : decode cX12_told 2 = .ok (.lconst 1, 1) := by decide +kernel
theorem dX12_told_3 : decode cX12_told 3 = .ok (.ldc2_w 355, 3) := by decide +kernel
theorem dX12_told_6 : decode cX12_told 6 = .ok (.invokestatic 80, 3) := by decide +kernel
theorem dX12_told_9 : decode cX12_told 9 = .ok (.ifCond .eq 12, 3) := by decide +kernel
theorem dX12_told_12 : decode cX12_told 12 = .ok (.aload_n 0, 1) := by decide +kernel
theorem dX12_told_13 : decode cX12_told 13 = .ok (.getfield 19, 3) := by decide +kernel
theorem dX12_told_16 : decode cX12_told 16 = .ok (.iload_n 1, 1) := by decide +kernel
theorem dX12_told_17 : decode cX12_told 17 = .ok (.iaload, 1) := by decide +kernel
theorem dX12_told_18 : decode cX12_told 18 = .ok (.goto 8, 3) := by decide +kernel
theorem dX12_told_21 : decode cX12_told 21 = .ok (.aload_n 0, 1) := by decide +kernel
theorem dX12_told_22 : decode cX12_told 22 = .ok (.iconst 1, 1) := by decide +kernel
theorem dX12_told_23 : decode cX12_told 23 = .ok (.invokevirtual 143, 3) := by decide +kernel
theorem dX12_told_26 : decode cX12_told 26 = .ok (.ireturn, 1) := by decide +kernel
theorem dJ11_isValidCodePoint_9a6ad_0 : decode cJ11_isValidCodePoint_9a6ad 0 = .ok (.iload_n 0, 1) := by decide +kernel
theorem dJ11_isValidCodePoint_9a6ad_1 : decode cJ11_isValidCodePoint_9a6ad 1 = .ok (.bipush 16, 2) := by decide +kernel
theorem dJ11_isValidCodePoint_9a6ad_3 : decode cJ11_isValidCodePoint_9a6ad 3 = .ok (.iushr, 1) := by decide +kernel
theorem dJ11_isValidCodePoint_9a6ad_4 : decode cJ11_isValidCodePoint_9a6ad 4 = .ok (.istore_n 1, 1) := by decide +kernel
theorem dJ11_isValidCodePoint_9a6ad_5 : decode cJ11_isValidCodePoint_9a6ad 5 = .ok (.iload_n 1, 1) := by decide +kernel
theorem dJ11_isValidCodePoint_9a6ad_6 : decode cJ11_isValidCodePoint_9a6ad 6 = .ok (.bipush 17, 2) := by decide +kernel
theorem dJ11_isValidCodePoint_9a6ad_8 : decode cJ11_isValidCodePoint_9a6ad 8 = .ok (.if_icmp .ge 7, 3) := by decide +kernel
theorem dJ11_isValidCodePoint_9a6ad_11 : decode cJ11_isValidCodePoint_9a6ad 11 = .ok (.iconst 1, 1) := by decide +kernel
theorem dJ11_isValidCodePoint_9a6ad_12 : decode cJ11_isValidCodePoint_9a6ad 12 = .ok (.goto 4, 3) := by decide +kernel
theorem dJ11_isValidCodePoint_9a6ad_15 : decode cJ11_isValidCodePoint_9a6ad 15 = .ok (.iconst 0, 1) := by decide +kernel
theorem dJ11_isValidCodePoint_9a6ad_16 : decode cJ11_isValidCodePoint_9a6ad 16 = .ok (.ireturn, 1) := by decide +kernel
theorem dJ11_highSurrogate_5068e_0 : decode cJ11_highSurrogate_5068e 0 = .ok (.iload_n 0, 1) := by decide +kernel
theorem dJ11_highSurrogate_5068e_1 : decode cJ11_highSurrogate_5068e 1 = .ok (.bipush 10, 2) := by decide +kernel
theorem dJ11_highSurrogate_5068e_3 : decode cJ11_highSurrogate_5068e 3 = .ok (.iushr, 1) := by decide +kernel
theorem dJ11_highSurrogate_5068e_4 : decode cJ11_highSurrogate_5068e 4 = .ok (.ldc 110, 2) := by decide +kernel
theorem dJ11_highSurrogate_5068e_6 : decode cJ11_highSurrogate_5068e 6 = .ok (.iadd, 1) := by decide +kernel
theorem dJ11_highSurrogate_5068e_7 : decode cJ11_highSurrogate_5068e 7 = .ok (.i2c, 1) := by decide +kernel
theorem dJ11_highSurrogate_5068e_8 : decode cJ11_highSurrogate_5068e 8 = .ok (.ireturn, 1) := by decide +kernel
theorem dJ11_lowSurrogate_5068e_0 : decode cJ11_lowSurrogate_5068e 0 = .ok (.iload_n 0, 1) := by decide +kernel
theorem dJ11_lowSurrogate_5068e_1 : decode cJ11_lowSurrogate_5068e 1 = .ok (.sipush 1023, 3) := by decide +kernel
theorem dJ11_lowSurrogate_5068e_4 : decode cJ11_lowSurrogate_5068e 4 = .ok (.iand, 1) := by decide +kernel
theorem dJ11_lowSurrogate_5068e_5 : decode cJ11_lowSurrogate_5068e 5 = .ok (.ldc 76, 2) := by decide +kernel
theorem dJ11_lowSurrogate_5068e_7 : decode cJ11_lowSurrogate_5068e 7 = .ok (.iadd, 1) := by decide +kernel
theorem dJ11_lowSurrogate_5068e_8 : decode cJ11_lowSurrogate_5068e 8 = .ok (.i2c, 1) := by decide +kernel
theorem dJ11_lowSurrogate_5068e_9 : decode cJ11_lowSurrogate_5068e 9 = .ok (.ireturn, 1) := by decide +kernel
theorem dJ6_bitCount_0f7a4_0 : decode cJ6_bitCount_0f7a4 0 = .ok (.iload_n 0, 1) := by decide +kernel
theorem dJ6_bitCount_0f7a4_1 : decode cJ6_bitCount_0f7a4 1 = .ok (.iload_n 0, 1) := by decide +kernel
theorem dJ6_bitCount_0f7a4_2 : decode cJ6_bitCount_0f7a4 2 = .ok (.iconst 1, 1) := by decide +kernel
theorem dJ6_bitCount_0f7a4_3 : decode cJ6_bitCount_0f7a4 3 = .ok (.iushr, 1) := by decide +kernel
theorem dJ6_bitCount_0f7a4_4 : decode cJ6_bitCount_0f7a4 4 = .ok (.ldc_w 265, 3) := by decide +kernel
theorem dJ6_bitCount_0f7a4_7 : decode cJ6_bitCount_0f7a4 7 = .ok (.iand, 1) := by decide +kernel
theorem dJ6_bitCount_0f7a4_8 : decode cJ6_bitCount_0f7a4 8 = .ok (.isub, 1) := by decide +kernel
theorem dJ6_bitCount_0f7a4_9 : decode cJ6_bitCount_0f7a4 9 = .ok (.istore_n 0, 1) := by decide +kernel
theorem dJ6_bitCount_0f7a4_10 : decode cJ6_bitCount_0f7a4 10 = .ok (.iload_n 0, 1) := by decide +kernel
theorem dJ6_bitCount_0f7a4_11 : decode cJ6_bitCount_0f7a4 11 = .ok (.ldc_w 266, 3) := by decide +kernel
theorem dJ6_bitCount_0f7a4_14 : decode cJ6_bitCount_0f7a4 14 = .ok (.iand, 1) := by decide +kernel
theorem dJ6_bitCount_0f7a4_15 : decode cJ6_bitCount_0f7a4 15 = .ok (.iload_n 0, 1) := by decide +kernel
theorem dJ6_bitCount_0f7a4_16 : decode cJ6_bitCount_0f7a4 16 = .ok (.iconst 2, 1) := by decide +kernel
theorem dJ6_bitCount_0f7a4_17 : decode cJ6_bitCount_0f7a4 17 = .ok (.iushr, 1) := by decide +kernel
theorem dJ6_bitCount_0f7a4_18 : decode cJ6_bitCount_0f7a4 18 = .ok (.ldc_w 266, 3) := by decide +kernel
theorem dJ6_bitCount_0f7a4_21 : decode cJ6_bitCount_0f7a4 21 = .ok (.iand, 1) := by decide +kernel
theorem dJ6_bitCount_0f7a4_22 : decode cJ6_bitCount_0f7a4 22 = .ok (.iadd, 1) := by decide +kernel
theorem dJ6_bitCount_0f7a4_23 : decode cJ6_bitCount_0f7a4 23 = .ok (.istore_n 0, 1) := by decide +kernel
theorem dJ6_bitCount_0f7a4_24 : decode cJ6_bitCount_0f7a4 24 = .ok (.iload_n 0, 1) := by decide +kernel
theorem dJ6_bitCount_0f7a4_25 : decode cJ6_bitCount_0f7a4 25 = .ok (.iload_n 0, 1) := by decide +kernel
theorem dJ6_bitCount_0f7a4_26 : decode cJ6_bitCount_0f7a4 26 = .ok (.iconst 4, 1) := by decide +kernel
theorem dJ6_bitCount_0f7a4_27 : decode cJ6_bitCount_0f7a4 27 = .ok (.iushr, 1) := by decide +kernel
theorem dJ6_bitCount_0f7a4_28 : decode cJ6_bitCount_0f7a4 28 = .ok (.iadd, 1) := by decide +kernel
theorem dJ6_bitCount_0f7a4_29 : decode cJ6_bitCount_0f7a4 29 = .ok (.ldc_w 267, 3) := by decide +kernel
theorem dJ6_bitCount_0f7a4_32 : decode cJ6_bitCount_0f7a4 32 = .ok (.iand, 1) := by decide +kernel
theorem dJ6_bitCount_0f7a4_33 : decode cJ6_bitCount_0f7a4 33 = .ok (.istore_n 0, 1) := by decide +kernel
theorem dJ6_bitCount_0f7a4_34 : decode cJ6_bitCount_0f7a4 34 = .ok (.iload_n 0, 1) := by decide +kernel
theorem dJ6_bitCount_0f7a4_35 : decode cJ6_bitCount_0f7a4 35 = .ok (.iload_n 0, 1) := by decide +kernel
theorem dJ6_bitCount_0f7a4_36 : decode cJ6_bitCount_0f7a4 36 = .ok (.bipush 8, 2) := by decide +kernel
theorem dJ6_bitCount_0f7a4_38 : decode cJ6_bitCount_0f7a4 38 = .ok (.iushr, 1) := by decide +kernel
theorem dJ6_bitCount_0f7a4_39 : decode cJ6_bitCount_0f7a4 39 = .ok (.iadd, 1) := by decide +kernel
theorem dJ6_bitCount_0f7a4_40 : decode cJ6_bitCount_0f7a4 40 = .ok (.istore_n 0, 1) := by decide +kernel
theorem dJ6_bitCount_0f7a4_41 : decode cJ6_bitCount_0f7a4 41 = .ok (.iload_n 0, 1) := by decide +kernel
theorem dJ6_bitCount_0f7a4_42 : decode cJ6_bitCount_0f7a4 42 = .ok (.iload_n 0, 1) := by decide +kernel
theorem dJ6_bitCount_0f7a4_43 : decode cJ6_bitCount_0f7a4 43 = .ok (.bipush 16, 2) := by decide +kernel
theorem dJ6_bitCount_0f7a4_45 : decode cJ6_bitCount_0f7a4 45 = .ok (.iushr, 1) := by decide +kernel
theorem dJ6_bitCount_0f7a4_46 : decode cJ6_bitCount_0f7a4 46 = .ok (.iadd, 1) := by decide +kernel
theorem dJ6_bitCount_0f7a4_47 : decode cJ6_bitCount_0f7a4 47 = .ok (.istore_n 0, 1) := by decide +kernel
theorem dJ6_bitCount_0f7a4_48 : decode cJ6_bitCount_0f7a4 48 = .ok (.iload_n 0, 1) := by decide +kernel
theorem dJ6_bitCount_0f7a4_49 : decode cJ6_bitCount_0f7a4 49 = .ok (.bipush 63, 2) := by decide +kernel
theorem dJ6_bitCount_0f7a4_51 : decode cJ6_bitCount_0f7a4 51 = .ok (.iand, 1) := by decide +kernel
theorem dJ6_bitCount_0f7a4_52 : decode cJ6_bitCount_0f7a4 52 = .ok (.ireturn, 1) := by decide +kernel
theorem dJ9_abs_067f4_0 : decode cJ9_abs_067f4 0 = .ok (.lload_n 0, 1) := by decide +kernel
theorem dJ9_abs_067f4_1 : decode cJ9_abs_067f4 1 = .ok (.lconst 0, 1) := by decide +kernel
theorem dJ9_abs_067f4_2 : decode cJ9_abs_067f4 2 = .ok (.lcmp, 1) := by decide +kernel
theorem dJ9_abs_067f4_3 : decode cJ9_abs_067f4 3 = .ok (.ifCond .ge 8, 3) := by decide +kernel
theorem dJ9_abs_067f4_6 : decode cJ9_abs_067f4 6 = .ok (.lload_n 0, 1) := by decide +kernel
theorem dJ9_abs_067f4_7 : decode cJ9_abs_067f4 7 = .ok (.lneg, 1) := by decide +kernel
theorem dJ9_abs_067f4_8 : decode cJ9_abs_067f4 8 = .ok (.goto 4, 3) := by decide +kernel
theorem dJ9_abs_067f4_11 : decode cJ9_abs_067f4 11 = .ok (.lload_n 0, 1) := by decide +kernel
theorem dJ9_abs_067f4_12 : decode cJ9_abs_067f4 12 = .ok (.lreturn, 1) := by decide +kernel
theorem dJ9_max_7cf53_0 : decode cJ9_max_7cf53 0 = .ok (.iload_n 0, 1) := by decide +kernel
theorem dJ9_max_7cf53_1 : decode cJ9_max_7cf53 1 = .ok (.iload_n 1, 1) := by decide +kernel
theorem dJ9_max_7cf53_2 : decode cJ9_max_7cf53 2 = .ok (.if_icmp .lt 7, 3) := by decide +kernel
theorem dJ9_max_7cf53_5 : decode cJ9_max_7cf53 5 = .ok (.iload_n 0, 1) := by decide +kernel
theorem dJ9_max_7cf53_6 : decode cJ9_max_7cf53 6 = .ok (.goto 4, 3) := by decide +kernel
theorem dJ9_max_7cf53_9 : decode cJ9_max_7cf53 9 = .ok (.iload_n 1, 1) := by decide +kernel
theorem dJ9_max_7cf53_10 : decode cJ9_max_7cf53 10 = .ok (.ireturn, 1) := by decide +kernel
theorem dJ9_min_7cf53_0 : decode cJ9_min_7cf53 0 = .ok (.iload_n 0, 1) := by decide +kernel
theorem dJ9_min_7cf53_1 : decode cJ9_min_7cf53 1 = .ok (.iload_n 1, 1) := by decide +kernel
theorem dJ9_min_7cf53_2 : decode cJ9_min_7cf53 2 = .ok (.if_icmp .gt 7, 3) := by decide +kernel
theorem dJ9_min_7cf53_5 : decode cJ9_min_7cf53 5 = .ok (.iload_n 0, 1) := by decide +kernel
theorem dJ9_min_7cf53_6 : decode cJ9_min_7cf53 6 = .ok (.goto 4, 3) := by decide +kernel
theorem dJ9_min_7cf53_9 : decode cJ9_min_7cf53 9 = .ok (.iload_n 1, 1) := by decide +kernel
theorem dJ9_min_7cf53_10 : decode cJ9_min_7cf53 10 = .ok (.ireturn, 1) := by decide +kernel
theorem dJ0_length_8abf5_0 : decode cJ0_length_8abf5 0 = .ok (.aload_n 0, 1) := by decide +kernel
theorem dJ0_length_8abf5_1 : decode cJ0_length_8abf5 1 = .ok (.getfield 9, 3) := by decide +kernel
theorem dJ0_length_8abf5_4 : decode cJ0_length_8abf5 4 = .ok (.arraylength, 1) := by decide +kernel
theorem dJ0_length_8abf5_5 : decode cJ0_length_8abf5 5 = .ok (.aload_n 0, 1) := by decide +kernel
theorem dJ0_length_8abf5_6 : decode cJ0_length_8abf5 6 = .ok (.invokevirtual 335, 3) := by decide +kernel
theorem dJ0_length_8abf5_9 : decode cJ0_length_8abf5 9 = .ok (.ishr, 1) := by decide +kernel
theorem dJ0_length_8abf5_10 : decode cJ0_length_8abf5 10 = .ok (.ireturn, 1) := by decide +kernel
theorem dJ0_indexOf_0f7a4_0 : decode cJ0_indexOf_0f7a4 0 = .ok (.aload_n 0, 1) := by decide +kernel
theorem dJ0_indexOf_0f7a4_1 : decode cJ0_indexOf_0f7a4 1 = .ok (.iload_n 1, 1) := by decide +kernel
theorem dJ0_indexOf_0f7a4_2 : decode cJ0_indexOf_0f7a4 2 = .ok (.iconst 0, 1) := by decide +kernel
theorem dJ0_indexOf_0f7a4_3 : decode cJ0_indexOf_0f7a4 3 = .ok (.invokevirtual 633, 3) := by decide +kernel
theorem dJ0_indexOf_0f7a4_6 : decode cJ0_indexOf_0f7a4 6 = .ok (.ireturn, 1) := by decide +kernel
theorem dJ0_indexOf_7cf53_0 : decode cJ0_indexOf_7cf53 0 = .ok (.aload_n 0, 1) := by decide +kernel
theorem dJ0_indexOf_7cf53_1 : decode cJ0_indexOf_7cf53 1 = .ok (.invokevirtual 492, 3) := by decide +kernel
theorem dJ0_indexOf_7cf53_4 : decode cJ0_indexOf_7cf53 4 = .ok (.ifCond .eq 19, 3) := by decide +kernel
theorem dJ0_indexOf_7cf53_7 : decode cJ0_indexOf_7cf53 7 = .ok (.aload_n 0, 1) := by decide +kernel
theorem dJ0_indexOf_7cf53_8 : decode cJ0_indexOf_7cf53 8 = .ok (.getfield 9, 3) := by decide +kernel
theorem dJ0_indexOf_7cf53_11 : decode cJ0_indexOf_7cf53 11 = .ok (.iload_n 1, 1) := by decide +kernel
theorem dJ0_indexOf_7cf53_12 : decode cJ0_indexOf_7cf53 12 = .ok (.iload_n 2, 1) := by decide +kernel
theorem dJ0_indexOf_7cf53_13 : decode cJ0_indexOf_7cf53 13 = .ok (.aload_n 0, 1) := by decide +kernel
theorem dJ0_indexOf_7cf53_14 : decode cJ0_indexOf_7cf53 14 = .ok (.invokevirtual 505, 3) := by decide +kernel
theorem dJ0_indexOf_7cf53_17 : decode cJ0_indexOf_7cf53 17 = .ok (.invokestatic 637, 3) := by decide +kernel
theorem dJ0_indexOf_7cf53_20 : decode cJ0_indexOf_7cf53 20 = .ok (.goto 16, 3) := by decide +kernel
theorem dJ0_indexOf_7cf53_23 : decode cJ0_indexOf_7cf53 23 = .ok (.aload_n 0, 1) := by decide +kernel
theorem dJ0_indexOf_7cf53_24 : decode cJ0_indexOf_7cf53 24 = .ok (.getfield 9, 3) := by decide +kernel
theorem dJ0_indexOf_7cf53_27 : decode cJ0_indexOf_7cf53 27 = .ok (.iload_n 1, 1) := by decide +kernel
theorem dJ0_indexOf_7cf53_28 : decode cJ0_indexOf_7cf53 28 = .ok (.iload_n 2, 1) := by decide +kernel
theorem dJ0_indexOf_7cf53_29 : decode cJ0_indexOf_7cf53 29 = .ok (.aload_n 0, 1) := by decide +kernel
theorem dJ0_indexOf_7cf53_30 : decode cJ0_indexOf_7cf53 30 = .ok (.invokevirtual 505, 3) := by decide +kernel
theorem dJ0_indexOf_7cf53_33 : decode cJ0_indexOf_7cf53 33 = .ok (.invokestatic 640, 3) := by decide +kernel
theorem dJ0_indexOf_7cf53_36 : decode cJ0_indexOf_7cf53 36 = .ok (.ireturn, 1) := by decide +kernel
theorem dJ0_coder_7d493_0 : decode cJ0_coder_7d493 0 = .ok (.getstatic 38, 3) := by decide +kernel
theorem dJ0_coder_7d493_3 : decode cJ0_coder_7d493 3 = .ok (.ifCond .eq 10, 3) := by decide +kernel
theorem dJ0_coder_7d493_6 : decode cJ0_coder_7d493 6 = .ok (.aload_n 0, 1) := by decide +kernel
theorem dJ0_coder_7d493_7 : decode cJ0_coder_7d493 7 = .ok (.getfield 15, 3) := by decide +kernel
theorem dJ0_coder_7d493_10 : decode cJ0_coder_7d493 10 = .ok (.goto 4, 3) := by decide +kernel
theorem dJ0_coder_7d493_13 : decode cJ0_coder_7d493 13 = .ok (.iconst 1, 1) := by decide +kernel
theorem dJ0_coder_7d493_14 : decode cJ0_coder_7d493 14 = .ok (.ireturn, 1) := by decide +kernel
theorem dJ0_isLatin1_aae02_0 : decode cJ0_isLatin1_aae02 0 = .ok (.getstatic 38, 3) := by decide +kernel
theorem dJ0_isLatin1_aae02_3 : decode cJ0_isLatin1_aae02 3 = .ok (.ifCond .eq 14, 3) := by decide +kernel
theorem dJ0_isLatin1_aae02_6 : decode cJ0_isLatin1_aae02 6 = .ok (.aload_n 0, 1) := by decide +kernel
theorem dJ0_isLatin1_aae02_7 : decode cJ0_isLatin1_aae02 7 = .ok (.getfield 15, 3) := by decide +kernel
theorem dJ0_isLatin1_aae02_10 : decode cJ0_isLatin1_aae02 10 = .ok (.ifCond .ne 7, 3) := by decide +kernel
theorem dJ0_isLatin1_aae02_13 : decode cJ0_isLatin1_aae02 13 = .ok (.iconst 1, 1) := by decide +kernel
theorem dJ0_isLatin1_aae02_14 : decode cJ0_isLatin1_aae02 14 = .ok (.goto 4, 3) := by decide +kernel
theorem dJ0_isLatin1_aae02_17 : decode cJ0_isLatin1_aae02 17 = .ok (.iconst 0, 1) := by decide +kernel
theorem dJ0_isLatin1_aae02_18 : decode cJ0_isLatin1_aae02 18 = .ok (.ireturn, 1) := by decide +kernel
theorem dJ0_checkBoundsBeginEnd_23922_0 : decode cJ0_checkBoundsBeginEnd_23922 0 = .ok (.iload_n 0, 1) := by decide +kernel
theorem dJ0_checkBoundsBeginEnd_23922_1 : decode cJ0_checkBoundsBeginEnd_23922 1 = .ok (.iload_n 1, 1) := by decide +kernel
theorem dJ0_checkBoundsBeginEnd_23922_2 : decode cJ0_checkBoundsBeginEnd_23922 2 = .ok (.iload_n 2, 1) := by decide +kernel
theorem dJ0_checkBoundsBeginEnd_23922_3 : decode cJ0_checkBoundsBeginEnd_23922 3 = .ok (.getstatic 1053, 3) := by decide +kernel
theorem dJ0_checkBoundsBeginEnd_23922_6 : decode cJ0_checkBoundsBeginEnd_23922 6 = .ok (.invokestatic 1062, 3) := by decide +kernel
theorem dJ0_checkBoundsBeginEnd_23922_9 : decode cJ0_checkBoundsBeginEnd_23922 9 = .ok (.pop, 1) := by decide +kernel
theorem dJ0_checkBoundsBeginEnd_23922_10 : decode cJ0_checkBoundsBeginEnd_23922 10 = .ok (.return_, 1) := by decide +kernel
theorem dJ1_canEncode_9a6ad_0 : decode cJ1_canEncode_9a6ad 0 = .ok (.iload_n 0, 1) := by decide +kernel
theorem dJ1_canEncode_9a6ad_1 : decode cJ1_canEncode_9a6ad 1 = .ok (.ifCond .lt 14, 3) := by decide +kernel
theorem dJ1_canEncode_9a6ad_4 : decode cJ1_canEncode_9a6ad 4 = .ok (.iload_n 0, 1) := by decide +kernel
theorem dJ1_canEncode_9a6ad_5 : decode cJ1_canEncode_9a6ad 5 = .ok (.sipush 255, 3) := by decide +kernel
theorem dJ1_canEncode_9a6ad_8 : decode cJ1_canEncode_9a6ad 8 = .ok (.if_icmp .gt 7, 3) := by decide +kernel
theorem dJ1_canEncode_9a6ad_11 : decode cJ1_canEncode_9a6ad 11 = .ok (.iconst 1, 1) := by decide +kernel
theorem dJ1_canEncode_9a6ad_12 : decode cJ1_canEncode_9a6ad 12 = .ok (.goto 4, 3) := by decide +kernel
theorem dJ1_canEncode_9a6ad_15 : decode cJ1_canEncode_9a6ad 15 = .ok (.iconst 0, 1) := by decide +kernel
theorem dJ1_canEncode_9a6ad_16 : decode cJ1_canEncode_9a6ad 16 = .ok (.ireturn, 1) := by decide +kernel
theorem dJ1_indexOf_4cfef_0 : decode cJ1_indexOf_4cfef 0 = .ok (.iload_n 1, 1) := by decide +kernel
theorem dJ1_indexOf_4cfef_1 : decode cJ1_indexOf_4cfef 1 = .ok (.invokestatic 88, 3) := by decide +kernel
theorem dJ1_indexOf_4cfef_4 : decode cJ1_indexOf_4cfef 4 = .ok (.ifCond .ne 5, 3) := by decide +kernel
theorem dJ1_indexOf_4cfef_7 : decode cJ1_indexOf_4cfef 7 = .ok (.iconst (-1), 1) := by decide +kernel
theorem dJ1_indexOf_4cfef_8 : decode cJ1_indexOf_4cfef 8 = .ok (.ireturn, 1) := by decide +kernel
theorem dJ1_indexOf_4cfef_9 : decode cJ1_indexOf_4cfef 9 = .ok (.iload_n 2, 1) := by decide +kernel
theorem dJ1_indexOf_4cfef_10 : decode cJ1_indexOf_4cfef 10 = .ok (.iconst 0, 1) := by decide +kernel
theorem dJ1_indexOf_4cfef_11 : decode cJ1_indexOf_4cfef 11 = .ok (.invokestatic 92, 3) := by decide +kernel
theorem dJ1_indexOf_4cfef_14 : decode cJ1_indexOf_4cfef 14 = .ok (.istore_n 2, 1) := by decide +kernel
theorem dJ1_indexOf_4cfef_15 : decode cJ1_indexOf_4cfef 15 = .ok (.iload_n 3, 1) := by decide +kernel
theorem dJ1_indexOf_4cfef_16 : decode cJ1_indexOf_4cfef 16 = .ok (.aload_n 0, 1) := by decide +kernel
theorem dJ1_indexOf_4cfef_17 : decode cJ1_indexOf_4cfef 17 = .ok (.arraylength, 1) := by decide +kernel
theorem dJ1_indexOf_4cfef_18 : decode cJ1_indexOf_4cfef 18 = .ok (.invokestatic 38, 3) := by decide +kernel
theorem dJ1_indexOf_4cfef_21 : decode cJ1_indexOf_4cfef 21 = .ok (.istore_n 3, 1) := by decide +kernel
theorem dJ1_indexOf_4cfef_22 : decode cJ1_indexOf_4cfef 22 = .ok (.iload_n 2, 1) := by decide +kernel
theorem dJ1_indexOf_4cfef_23 : decode cJ1_indexOf_4cfef 23 = .ok (.iload_n 3, 1) := by decide +kernel
theorem dJ1_indexOf_4cfef_24 : decode cJ1_indexOf_4cfef 24 = .ok (.if_icmp .lt 5, 3) := by decide +kernel
theorem dJ1_indexOf_4cfef_27 : decode cJ1_indexOf_4cfef 27 = .ok (.iconst (-1), 1) := by decide +kernel
theorem dJ1_indexOf_4cfef_28 : decode cJ1_indexOf_4cfef 28 = .ok (.ireturn, 1) := by decide +kernel
theorem dJ1_indexOf_4cfef_29 : decode cJ1_indexOf_4cfef 29 = .ok (.aload_n 0, 1) := by decide +kernel
theorem dJ1_indexOf_4cfef_30 : decode cJ1_indexOf_4cfef 30 = .ok (.iload_n 1, 1) := by decide +kernel
theorem dJ1_indexOf_4cfef_31 : decode cJ1_indexOf_4cfef 31 = .ok (.iload_n 2, 1) := by decide +kernel
theorem dJ1_indexOf_4cfef_32 : decode cJ1_indexOf_4cfef 32 = .ok (.iload_n 3, 1) := by decide +kernel
theorem dJ1_indexOf_4cfef_33 : decode cJ1_indexOf_4cfef 33 = .ok (.invokestatic 95, 3) := by decide +kernel
theorem dJ1_indexOf_4cfef_36 : decode cJ1_indexOf_4cfef 36 = .ok (.ireturn, 1) := by decide +kernel
theorem dJ1_indexOfChar_4cfef_0 : decode cJ1_indexOfChar_4cfef 0 = .ok (.iload_n 1, 1) := by decide +kernel
theorem dJ1_indexOfChar_4cfef_1 : decode cJ1_indexOfChar_4cfef 1 = .ok (.i2b, 1) := by decide +kernel
theorem dJ1_indexOfChar_4cfef_2 : decode cJ1_indexOfChar_4cfef 2 = .ok (.istore 4, 2) := by decide +kernel
theorem dJ1_indexOfChar_4cfef_4 : decode cJ1_indexOfChar_4cfef 4 = .ok (.iload_n 2, 1) := by decide +kernel
theorem dJ1_indexOfChar_4cfef_5 : decode cJ1_indexOfChar_4cfef 5 = .ok (.istore 5, 2) := by decide +kernel
theorem dJ1_indexOfChar_4cfef_7 : decode cJ1_indexOfChar_4cfef 7 = .ok (.iload 5, 2) := by decide +kernel
theorem dJ1_indexOfChar_4cfef_9 : decode cJ1_indexOfChar_4cfef 9 = .ok (.iload_n 3, 1) := by decide +kernel
theorem dJ1_indexOfChar_4cfef_10 : decode cJ1_indexOfChar_4cfef 10 = .ok (.if_icmp .ge 21, 3) := by decide +kernel
theorem dJ1_indexOfChar_4cfef_13 : decode cJ1_indexOfChar_4cfef 13 = .ok (.aload_n 0, 1) := by decide +kernel
theorem dJ1_indexOfChar_4cfef_14 : decode cJ1_indexOfChar_4cfef 14 = .ok (.iload 5, 2) := by decide +kernel
theorem dJ1_indexOfChar_4cfef_16 : decode cJ1_indexOfChar_4cfef 16 = .ok (.baload, 1) := by decide +kernel
theorem dJ1_indexOfChar_4cfef_17 : decode cJ1_indexOfChar_4cfef 17 = .ok (.iload 4, 2) := by decide +kernel
theorem dJ1_indexOfChar_4cfef_19 : decode cJ1_indexOfChar_4cfef 19 = .ok (.if_icmp .ne 6, 3) := by decide +kernel
theorem dJ1_indexOfChar_4cfef_22 : decode cJ1_indexOfChar_4cfef 22 = .ok (.iload 5, 2) := by decide +kernel
theorem dJ1_indexOfChar_4cfef_24 : decode cJ1_indexOfChar_4cfef 24 = .ok (.ireturn, 1) := by decide +kernel
theorem dJ1_indexOfChar_4cfef_25 : decode cJ1_indexOfChar_4cfef 25 = .ok (.iinc 5 1, 3) := by decide +kernel
theorem dJ1_indexOfChar_4cfef_28 : decode cJ1_indexOfChar_4cfef 28 = .ok (.goto (-21), 3) := by decide +kernel
theorem dJ1_indexOfChar_4cfef_31 : decode cJ1_indexOfChar_4cfef 31 = .ok (.iconst (-1), 1) := by decide +kernel
theorem dJ1_indexOfChar_4cfef_32 : decode cJ1_indexOfChar_4cfef 32 = .ok (.ireturn, 1) := by decide +kernel
theorem dJ2_getChar_3b067_0 : decode cJ2_getChar_3b067 0 = .ok (.getstatic 44, 3) := by decide +kernel
theorem dJ2_getChar_3b067_3 : decode cJ2_getChar_3b067 3 = .ok (.ifCond .ne 25, 3) := by decide +kernel
theorem dJ2_getChar_3b067_6 : decode cJ2_getChar_3b067 6 = .ok (.iload_n 1, 1) := by decide +kernel
theorem dJ2_getChar_3b067_7 : decode cJ2_getChar_3b067 7 = .ok (.ifCond .lt 11, 3) := by decide +kernel
theorem dJ2_getChar_3b067_10 : decode cJ2_getChar_3b067 10 = .ok (.iload_n 1, 1) := by decide +kernel
theorem dJ2_getChar_3b067_11 : decode cJ2_getChar_3b067 11 = .ok (.aload_n 0, 1) := by decide +kernel
theorem dJ2_getChar_3b067_12 : decode cJ2_getChar_3b067 12 = .ok (.invokestatic 48, 3) := by decide +kernel
theorem dJ2_getChar_3b067_15 : decode cJ2_getChar_3b067 15 = .ok (.if_icmp .lt 13, 3) := by decide +kernel
theorem dJ2_getChar_3b067_18 : decode cJ2_getChar_3b067 18 = .ok (.new 52, 3) := by decide +kernel
theorem dJ2_getChar_3b067_21 : decode cJ2_getChar_3b067 21 = .ok (.dup, 1) := by decide +kernel
theorem dJ2_getChar_3b067_22 : decode cJ2_getChar_3b067 22 = .ok (.ldc 54, 2) := by decide +kernel
theorem dJ2_getChar_3b067_24 : decode cJ2_getChar_3b067 24 = .ok (.invokespecial 56, 3) := by decide +kernel
theorem dJ2_getChar_3b067_27 : decode cJ2_getChar_3b067 27 = .ok (.athrow, 1) := by decide +kernel
theorem dJ2_getChar_3b067_28 : decode cJ2_getChar_3b067 28 = .ok (.iload_n 1, 1) := by decide +kernel
theorem dJ2_getChar_3b067_29 : decode cJ2_getChar_3b067 29 = .ok (.iconst 1, 1) := by decide +kernel
theorem dJ2_getChar_3b067_30 : decode cJ2_getChar_3b067 30 = .ok (.ishl, 1) := by decide +kernel
theorem dJ2_getChar_3b067_31 : decode cJ2_getChar_3b067 31 = .ok (.istore_n 1, 1) := by decide +kernel
theorem dJ2_getChar_3b067_32 : decode cJ2_getChar_3b067 32 = .ok (.aload_n 0, 1) := by decide +kernel
theorem dJ2_getChar_3b067_33 : decode cJ2_getChar_3b067 33 = .ok (.iload_n 1, 1) := by decide +kernel
theorem dJ2_getChar_3b067_34 : decode cJ2_getChar_3b067 34 = .ok (.iinc 1 1, 3) := by decide +kernel
theorem dJ2_getChar_3b067_37 : decode cJ2_getChar_3b067 37 = .ok (.baload, 1) := by decide +kernel
theorem dJ2_getChar_3b067_38 : decode cJ2_getChar_3b067 38 = .ok (.sipush 255, 3) := by decide +kernel
theorem dJ2_getChar_3b067_41 : decode cJ2_getChar_3b067 41 = .ok (.iand, 1) := by decide +kernel
theorem dJ2_getChar_3b067_42 : decode cJ2_getChar_3b067 42 = .ok (.getstatic 59, 3) := by decide +kernel
theorem dJ2_getChar_3b067_45 : decode cJ2_getChar_3b067 45 = .ok (.ishl, 1) := by decide +kernel
theorem dJ2_getChar_3b067_46 : decode cJ2_getChar_3b067 46 = .ok (.aload_n 0, 1) := by decide +kernel
theorem dJ2_getChar_3b067_47 : decode cJ2_getChar_3b067 47 = .ok (.iload_n 1, 1) := by decide +kernel
theorem dJ2_getChar_3b067_48 : decode cJ2_getChar_3b067 48 = .ok (.baload, 1) := by decide +kernel
theorem dJ2_getChar_3b067_49 : decode cJ2_getChar_3b067 49 = .ok (.sipush 255, 3) := by decide +kernel
theorem dJ2_getChar_3b067_52 : decode cJ2_getChar_3b067 52 = .ok (.iand, 1) := by decide +kernel
theorem dJ2_getChar_3b067_53 : decode cJ2_getChar_3b067 53 = .ok (.getstatic 63, 3) := by decide +kernel
theorem dJ2_getChar_3b067_56 : decode cJ2_getChar_3b067 56 = .ok (.ishl, 1) := by decide +kernel
theorem dJ2_getChar_3b067_57 : decode cJ2_getChar_3b067 57 = .ok (.ior, 1) := by decide +kernel
theorem dJ2_getChar_3b067_58 : decode cJ2_getChar_3b067 58 = .ok (.i2c, 1) := by decide +kernel
theorem dJ2_getChar_3b067_59 : decode cJ2_getChar_3b067 59 = .ok (.ireturn, 1) := by decide +kernel
theorem dJ2_length_9d52b_0 : decode cJ2_length_9d52b 0 = .ok (.aload_n 0, 1) := by decide +kernel
theorem dJ2_length_9d52b_1 : decode cJ2_length_9d52b 1 = .ok (.arraylength, 1) := by decide +kernel
theorem dJ2_length_9d52b_2 : decode cJ2_length_9d52b 2 = .ok (.iconst 1, 1) := by decide +kernel
theorem dJ2_length_9d52b_3 : decode cJ2_length_9d52b 3 = .ok (.ishr, 1) := by decide +kernel
theorem dJ2_length_9d52b_4 : decode cJ2_length_9d52b 4 = .ok (.ireturn, 1) := by decide +kernel
theorem dJ2_indexOf_4cfef_0 : decode cJ2_indexOf_4cfef 0 = .ok (.iload_n 2, 1) := by decide +kernel
theorem dJ2_indexOf_4cfef_1 : decode cJ2_indexOf_4cfef 1 = .ok (.iconst 0, 1) := by decide +kernel
theorem dJ2_indexOf_4cfef_2 : decode cJ2_indexOf_4cfef 2 = .ok (.invokestatic 224, 3) := by decide +kernel
theorem dJ2_indexOf_4cfef_5 : decode cJ2_indexOf_4cfef 5 = .ok (.istore_n 2, 1) := by decide +kernel
theorem dJ2_indexOf_4cfef_6 : decode cJ2_indexOf_4cfef 6 = .ok (.iload_n 3, 1) := by decide +kernel
theorem dJ2_indexOf_4cfef_7 : decode cJ2_indexOf_4cfef 7 = .ok (.aload_n 0, 1) := by decide +kernel
theorem dJ2_indexOf_4cfef_8 : decode cJ2_indexOf_4cfef 8 = .ok (.arraylength, 1) := by decide +kernel
theorem dJ2_indexOf_4cfef_9 : decode cJ2_indexOf_4cfef 9 = .ok (.iconst 1, 1) := by decide +kernel
theorem dJ2_indexOf_4cfef_10 : decode cJ2_indexOf_4cfef 10 = .ok (.ishr, 1) := by decide +kernel
theorem dJ2_indexOf_4cfef_11 : decode cJ2_indexOf_4cfef 11 = .ok (.invokestatic 183, 3) := by decide +kernel
theorem dJ2_indexOf_4cfef_14 : decode cJ2_indexOf_4cfef 14 = .ok (.istore_n 3, 1) := by decide +kernel
theorem dJ2_indexOf_4cfef_15 : decode cJ2_indexOf_4cfef 15 = .ok (.iload_n 2, 1) := by decide +kernel
theorem dJ2_indexOf_4cfef_16 : decode cJ2_indexOf_4cfef 16 = .ok (.iload_n 3, 1) := by decide +kernel
theorem dJ2_indexOf_4cfef_17 : decode cJ2_indexOf_4cfef 17 = .ok (.if_icmp .lt 5, 3) := by decide +kernel
theorem dJ2_indexOf_4cfef_20 : decode cJ2_indexOf_4cfef 20 = .ok (.iconst (-1), 1) := by decide +kernel
theorem dJ2_indexOf_4cfef_21 : decode cJ2_indexOf_4cfef 21 = .ok (.ireturn, 1) := by decide +kernel
theorem dJ2_indexOf_4cfef_22 : decode cJ2_indexOf_4cfef 22 = .ok (.iload_n 1, 1) := by decide +kernel
theorem dJ2_indexOf_4cfef_23 : decode cJ2_indexOf_4cfef 23 = .ok (.ldc 227, 2) := by decide +kernel
theorem dJ2_indexOf_4cfef_25 : decode cJ2_indexOf_4cfef 25 = .ok (.if_icmp .ge 11, 3) := by decide +kernel
theorem dJ2_indexOf_4cfef_28 : decode cJ2_indexOf_4cfef 28 = .ok (.aload_n 0, 1) := by decide +kernel
theorem dJ2_indexOf_4cfef_29 : decode cJ2_indexOf_4cfef 29 = .ok (.iload_n 1, 1) := by decide +kernel
theorem dJ2_indexOf_4cfef_30 : decode cJ2_indexOf_4cfef 30 = .ok (.iload_n 2, 1) := by decide +kernel
theorem dJ2_indexOf_4cfef_31 : decode cJ2_indexOf_4cfef 31 = .ok (.iload_n 3, 1) := by decide +kernel
theorem dJ2_indexOf_4cfef_32 : decode cJ2_indexOf_4cfef 32 = .ok (.invokestatic 228, 3) := by decide +kernel
theorem dJ2_indexOf_4cfef_35 : decode cJ2_indexOf_4cfef 35 = .ok (.ireturn, 1) := by decide +kernel
theorem dJ2_indexOf_4cfef_36 : decode cJ2_indexOf_4cfef 36 = .ok (.aload_n 0, 1) := by decide +kernel
theorem dJ2_indexOf_4cfef_37 : decode cJ2_indexOf_4cfef 37 = .ok (.iload_n 1, 1) := by decide +kernel
theorem dJ2_indexOf_4cfef_38 : decode cJ2_indexOf_4cfef 38 = .ok (.iload_n 2, 1) := by decide +kernel
theorem dJ2_indexOf_4cfef_39 : decode cJ2_indexOf_4cfef 39 = .ok (.iload_n 3, 1) := by decide +kernel
theorem dJ2_indexOf_4cfef_40 : decode cJ2_indexOf_4cfef 40 = .ok (.invokestatic 232, 3) := by decide +kernel
theorem dJ2_indexOf_4cfef_43 : decode cJ2_indexOf_4cfef 43 = .ok (.ireturn, 1) := by decide +kernel
theorem dJ2_indexOfChar_4cfef_0 : decode cJ2_indexOfChar_4cfef 0 = .ok (.iload_n 2, 1) := by decide +kernel
theorem dJ2_indexOfChar_4cfef_1 : decode cJ2_indexOfChar_4cfef 1 = .ok (.iload_n 3, 1) := by decide +kernel
theorem dJ2_indexOfChar_4cfef_2 : decode cJ2_indexOfChar_4cfef 2 = .ok (.aload_n 0, 1) := by decide +kernel
theorem dJ2_indexOfChar_4cfef_3 : decode cJ2_indexOfChar_4cfef 3 = .ok (.invokestatic 96, 3) := by decide +kernel
theorem dJ2_indexOfChar_4cfef_6 : decode cJ2_indexOfChar_4cfef 6 = .ok (.aload_n 0, 1) := by decide +kernel
theorem dJ2_indexOfChar_4cfef_7 : decode cJ2_indexOfChar_4cfef 7 = .ok (.iload_n 1, 1) := by decide +kernel
theorem dJ2_indexOfChar_4cfef_8 : decode cJ2_indexOfChar_4cfef 8 = .ok (.iload_n 2, 1) := by decide +kernel
theorem dJ2_indexOfChar_4cfef_9 : decode cJ2_indexOfChar_4cfef 9 = .ok (.iload_n 3, 1) := by decide +kernel
theorem dJ2_indexOfChar_4cfef_10 : decode cJ2_indexOfChar_4cfef 10 = .ok (.invokestatic 244, 3) := by decide +kernel
theorem dJ2_indexOfChar_4cfef_13 : decode cJ2_indexOfChar_4cfef 13 = .ok (.ireturn, 1) := by decide +kernel
theorem dJ2_indexOfCharUnsafe_4cfef_0 : decode cJ2_indexOfCharUnsafe_4cfef 0 = .ok (.iload_n 2, 1) := by decide +kernel
theorem dJ2_indexOfCharUnsafe_4cfef_1 : decode cJ2_indexOfCharUnsafe_4cfef 1 = .ok (.istore 4, 2) := by decide +kernel
theorem dJ2_indexOfCharUnsafe_4cfef_3 : decode cJ2_indexOfCharUnsafe_4cfef 3 = .ok (.iload 4, 2) := by decide +kernel
theorem dJ2_indexOfCharUnsafe_4cfef_5 : decode cJ2_indexOfCharUnsafe_4cfef 5 = .ok (.iload_n 3, 1) := by decide +kernel
theorem dJ2_indexOfCharUnsafe_4cfef_6 : decode cJ2_indexOfCharUnsafe_4cfef 6 = .ok (.if_icmp .ge 22, 3) := by decide +kernel
theorem dJ2_indexOfCharUnsafe_4cfef_9 : decode cJ2_indexOfCharUnsafe_4cfef 9 = .ok (.aload_n 0, 1) := by decide +kernel
theorem dJ2_indexOfCharUnsafe_4cfef_10 : decode cJ2_indexOfCharUnsafe_4cfef 10 = .ok (.iload 4, 2) := by decide +kernel
theorem dJ2_indexOfCharUnsafe_4cfef_12 : decode cJ2_indexOfCharUnsafe_4cfef 12 = .ok (.invokestatic 71, 3) := by decide +kernel
theorem dJ2_indexOfCharUnsafe_4cfef_15 : decode cJ2_indexOfCharUnsafe_4cfef 15 = .ok (.iload_n 1, 1) := by decide +kernel
theorem dJ2_indexOfCharUnsafe_4cfef_16 : decode cJ2_indexOfCharUnsafe_4cfef 16 = .ok (.if_icmp .ne 6, 3) := by decide +kernel
theorem dJ2_indexOfCharUnsafe_4cfef_19 : decode cJ2_indexOfCharUnsafe_4cfef 19 = .ok (.iload 4, 2) := by decide +kernel
theorem dJ2_indexOfCharUnsafe_4cfef_21 : decode cJ2_indexOfCharUnsafe_4cfef 21 = .ok (.ireturn, 1) := by decide +kernel
theorem dJ2_indexOfCharUnsafe_4cfef_22 : decode cJ2_indexOfCharUnsafe_4cfef 22 = .ok (.iinc 4 1, 3) := by decide +kernel
theorem dJ2_indexOfCharUnsafe_4cfef_25 : decode cJ2_indexOfCharUnsafe_4cfef 25 = .ok (.goto (-22), 3) := by decide +kernel
theorem dJ2_indexOfCharUnsafe_4cfef_28 : decode cJ2_indexOfCharUnsafe_4cfef 28 = .ok (.iconst (-1), 1) := by decide +kernel
theorem dJ2_indexOfCharUnsafe_4cfef_29 : decode cJ2_indexOfCharUnsafe_4cfef 29 = .ok (.ireturn, 1) := by decide +kernel
theorem dJ2_indexOfSupplementary_4cfef_0 : decode cJ2_indexOfSupplementary_4cfef 0 = .ok (.iload_n 1, 1) := by decide +kernel
theorem dJ2_indexOfSupplementary_4cfef_1 : decode cJ2_indexOfSupplementary_4cfef 1 = .ok (.invokestatic 164, 3) := by decide +kernel
theorem dJ2_indexOfSupplementary_4cfef_4 : decode cJ2_indexOfSupplementary_4cfef 4 = .ok (.ifCond .eq 65, 3) := by decide +kernel
theorem dJ2_indexOfSupplementary_4cfef_7 : decode cJ2_indexOfSupplementary_4cfef 7 = .ok (.iload_n 1, 1) := by decide +kernel
theorem dJ2_indexOfSupplementary_4cfef_8 : decode cJ2_indexOfSupplementary_4cfef 8 = .ok (.invokestatic 157, 3) := by decide +kernel
theorem dJ2_indexOfSupplementary_4cfef_11 : decode cJ2_indexOfSupplementary_4cfef 11 = .ok (.istore 4, 2) := by decide +kernel
theorem dJ2_indexOfSupplementary_4cfef_13 : decode cJ2_indexOfSupplementary_4cfef 13 = .ok (.iload_n 1, 1) := by decide +kernel
theorem dJ2_indexOfSupplementary_4cfef_14 : decode cJ2_indexOfSupplementary_4cfef 14 = .ok (.invokestatic 161, 3) := by decide +kernel
theorem dJ2_indexOfSupplementary_4cfef_17 : decode cJ2_indexOfSupplementary_4cfef 17 = .ok (.istore 5, 2) := by decide +kernel
theorem dJ2_indexOfSupplementary_4cfef_19 : decode cJ2_indexOfSupplementary_4cfef 19 = .ok (.iload_n 2, 1) := by decide +kernel
theorem dJ2_indexOfSupplementary_4cfef_20 : decode cJ2_indexOfSupplementary_4cfef 20 = .ok (.iload_n 3, 1) := by decide +kernel
theorem dJ2_indexOfSupplementary_4cfef_21 : decode cJ2_indexOfSupplementary_4cfef 21 = .ok (.aload_n 0, 1) := by decide +kernel
theorem dJ2_indexOfSupplementary_4cfef_22 : decode cJ2_indexOfSupplementary_4cfef 22 = .ok (.invokestatic 96, 3) := by decide +kernel
theorem dJ2_indexOfSupplementary_4cfef_25 : decode cJ2_indexOfSupplementary_4cfef 25 = .ok (.iload_n 2, 1) := by decide +kernel
theorem dJ2_indexOfSupplementary_4cfef_26 : decode cJ2_indexOfSupplementary_4cfef 26 = .ok (.istore 6, 2) := by decide +kernel
theorem dJ2_indexOfSupplementary_4cfef_28 : decode cJ2_indexOfSupplementary_4cfef 28 = .ok (.iload 6, 2) := by decide +kernel
theorem dJ2_indexOfSupplementary_4cfef_30 : decode cJ2_indexOfSupplementary_4cfef 30 = .ok (.iload_n 3, 1) := by decide +kernel
theorem dJ2_indexOfSupplementary_4cfef_31 : decode cJ2_indexOfSupplementary_4cfef 31 = .ok (.iconst 1, 1) := by decide +kernel
theorem dJ2_indexOfSupplementary_4cfef_32 : decode cJ2_indexOfSupplementary_4cfef 32 = .ok (.isub, 1) := by decide +kernel
theorem dJ2_indexOfSupplementary_4cfef_33 : decode cJ2_indexOfSupplementary_4cfef 33 = .ok (.if_icmp .ge 36, 3) := by decide +kernel
theorem dJ2_indexOfSupplementary_4cfef_36 : decode cJ2_indexOfSupplementary_4cfef 36 = .ok (.aload_n 0, 1) := by decide +kernel
theorem dJ2_indexOfSupplementary_4cfef_37 : decode cJ2_indexOfSupplementary_4cfef 37 = .ok (.iload 6, 2) := by decide +kernel
theorem dJ2_indexOfSupplementary_4cfef_39 : decode cJ2_indexOfSupplementary_4cfef 39 = .ok (.invokestatic 71, 3) := by decide +kernel
theorem dJ2_indexOfSupplementary_4cfef_42 : decode cJ2_indexOfSupplementary_4cfef 42 = .ok (.iload 4, 2) := by decide +kernel
theorem dJ2_indexOfSupplementary_4cfef_44 : decode cJ2_indexOfSupplementary_4cfef 44 = .ok (.if_icmp .ne 19, 3) := by decide +kernel
theorem dJ2_indexOfSupplementary_4cfef_47 : decode cJ2_indexOfSupplementary_4cfef 47 = .ok (.aload_n 0, 1) := by decide +kernel
theorem dJ2_indexOfSupplementary_4cfef_48 : decode cJ2_indexOfSupplementary_4cfef 48 = .ok (.iload 6, 2) := by decide +kernel
theorem dJ2_indexOfSupplementary_4cfef_50 : decode cJ2_indexOfSupplementary_4cfef 50 = .ok (.iconst 1, 1) := by decide +kernel
theorem dJ2_indexOfSupplementary_4cfef_51 : decode cJ2_indexOfSupplementary_4cfef 51 = .ok (.iadd, 1) := by decide +kernel
theorem dJ2_indexOfSupplementary_4cfef_52 : decode cJ2_indexOfSupplementary_4cfef 52 = .ok (.invokestatic 71, 3) := by decide +kernel
theorem dJ2_indexOfSupplementary_4cfef_55 : decode cJ2_indexOfSupplementary_4cfef 55 = .ok (.iload 5, 2) := by decide +kernel
theorem dJ2_indexOfSupplementary_4cfef_57 : decode cJ2_indexOfSupplementary_4cfef 57 = .ok (.if_icmp .ne 6, 3) := by decide +kernel
theorem dJ2_indexOfSupplementary_4cfef_60 : decode cJ2_indexOfSupplementary_4cfef 60 = .ok (.iload 6, 2) := by decide +kernel
theorem dJ2_indexOfSupplementary_4cfef_62 : decode cJ2_indexOfSupplementary_4cfef 62 = .ok (.ireturn, 1) := by decide +kernel
theorem dJ2_indexOfSupplementary_4cfef_63 : decode cJ2_indexOfSupplementary_4cfef 63 = .ok (.iinc 6 1, 3) := by decide +kernel
theorem dJ2_indexOfSupplementary_4cfef_66 : decode cJ2_indexOfSupplementary_4cfef 66 = .ok (.goto (-38), 3) := by decide +kernel
theorem dJ2_indexOfSupplementary_4cfef_69 : decode cJ2_indexOfSupplementary_4cfef 69 = .ok (.iconst (-1), 1) := by decide +kernel
theorem dJ2_indexOfSupplementary_4cfef_70 : decode cJ2_indexOfSupplementary_4cfef 70 = .ok (.ireturn, 1) := by decide +kernel
theorem dJ2_checkBoundsBeginEnd_d044e_0 : decode cJ2_checkBoundsBeginEnd_d044e 0 = .ok (.iload_n 0, 1) := by decide +kernel
theorem dJ2_checkBoundsBeginEnd_d044e_1 : decode cJ2_checkBoundsBeginEnd_d044e 1 = .ok (.iload_n 1, 1) := by decide +kernel
theorem dJ2_checkBoundsBeginEnd_d044e_2 : decode cJ2_checkBoundsBeginEnd_d044e 2 = .ok (.aload_n 2, 1) := by decide +kernel
theorem dJ2_checkBoundsBeginEnd_d044e_3 : decode cJ2_checkBoundsBeginEnd_d044e 3 = .ok (.invokestatic 48, 3) := by decide +kernel
theorem dJ2_checkBoundsBeginEnd_d044e_6 : decode cJ2_checkBoundsBeginEnd_d044e 6 = .ok (.invokestatic 241, 3) := by decide +kernel
theorem dJ2_checkBoundsBeginEnd_d044e_9 : decode cJ2_checkBoundsBeginEnd_d044e 9 = .ok (.return_, 1) := by decide +kernel
theorem dJ3_checkFromToIndex_8c36e_0 : decode cJ3_checkFromToIndex_8c36e 0 = .ok (.iload_n 0, 1) := by decide +kernel
theorem dJ3_checkFromToIndex_8c36e_1 : decode cJ3_checkFromToIndex_8c36e 1 = .ok (.ifCond .lt 13, 3) := by decide +kernel
theorem dJ3_checkFromToIndex_8c36e_4 : decode cJ3_checkFromToIndex_8c36e 4 = .ok (.iload_n 0, 1) := by decide +kernel
theorem dJ3_checkFromToIndex_8c36e_5 : decode cJ3_checkFromToIndex_8c36e 5 = .ok (.iload_n 1, 1) := by decide +kernel
theorem dJ3_checkFromToIndex_8c36e_6 : decode cJ3_checkFromToIndex_8c36e 6 = .ok (.if_icmp .gt 8, 3) := by decide +kernel
theorem dJ3_checkFromToIndex_8c36e_9 : decode cJ3_checkFromToIndex_8c36e 9 = .ok (.iload_n 1, 1) := by decide +kernel
theorem dJ3_checkFromToIndex_8c36e_10 : decode cJ3_checkFromToIndex_8c36e 10 = .ok (.iload_n 2, 1) := by decide +kernel
theorem dJ3_checkFromToIndex_8c36e_11 : decode cJ3_checkFromToIndex_8c36e 11 = .ok (.if_icmp .le 11, 3) := by decide +kernel
theorem dJ3_checkFromToIndex_8c36e_14 : decode cJ3_checkFromToIndex_8c36e 14 = .ok (.aload_n 3, 1) := by decide +kernel
theorem dJ3_checkFromToIndex_8c36e_15 : decode cJ3_checkFromToIndex_8c36e 15 = .ok (.iload_n 0, 1) := by decide +kernel
theorem dJ3_checkFromToIndex_8c36e_16 : decode cJ3_checkFromToIndex_8c36e 16 = .ok (.iload_n 1, 1) := by decide +kernel
theorem dJ3_checkFromToIndex_8c36e_17 : decode cJ3_checkFromToIndex_8c36e 17 = .ok (.iload_n 2, 1) := by decide +kernel
theorem dJ3_checkFromToIndex_8c36e_18 : decode cJ3_checkFromToIndex_8c36e 18 = .ok (.invokestatic 99, 3) := by decide +kernel
theorem dJ3_checkFromToIndex_8c36e_21 : decode cJ3_checkFromToIndex_8c36e 21 = .ok (.athrow, 1) := by decide +kernel
theorem dJ3_checkFromToIndex_8c36e_22 : decode cJ3_checkFromToIndex_8c36e 22 = .ok (.iload_n 0, 1) := by decide +kernel
theorem dJ3_checkFromToIndex_8c36e_23 : decode cJ3_checkFromToIndex_8c36e 23 = .ok (.ireturn, 1) := by decide +kernel
theorem dL_law_0 : decode cL_law 0 = .ok (.new 7, 3) := by decide +kernel
theorem dL_law_3 : decode cL_law 3 = .ok (.dup, 1) := by decide +kernel
theorem dL_law_4 : decode cL_law 4 = .ok (.invokespecial 9, 3) := by decide +kernel
theorem dL_law_7 : decode cL_law 7 = .ok (.astore_n 1, 1) := by decide +kernel
theorem dL_law_8 : decode cL_law 8 = .ok (.new 10, 3) := by decide +kernel
theorem dL_law_11 : decode cL_law 11 = .ok (.dup, 1) := by decide +kernel
theorem dL_law_12 : decode cL_law 12 = .ok (.invokespecial 12, 3) := by decide +kernel
theorem dL_law_15 : decode cL_law 15 = .ok (.astore_n 2, 1) := by decide +kernel
theorem dL_law_16 : decode cL_law 16 = .ok (.iconst 0, 1) := by decide +kernel
theorem dL_law_17 : decode cL_law 17 = .ok (.istore_n 3, 1) := by decide +kernel
theorem dL_law_18 : decode cL_law 18 = .ok (.iload_n 3, 1) := by decide +kernel
theorem dL_law_19 : decode cL_law 19 = .ok (.aload_n 0, 1) := by decide +kernel
theorem dL_law_20 : decode cL_law 20 = .ok (.arraylength, 1) := by decide +kernel
theorem dL_law_21 : decode cL_law 21 = .ok (.bipush 6, 2) := by decide +kernel
theorem dL_law_23 : decode cL_law 23 = .ok (.isub, 1) := by decide +kernel
theorem dL_law_24 : decode cL_law 24 = .ok (.if_icmp .gt 1485, 3) := by decide +kernel
theorem dL_law_27 : decode cL_law 27 = .ok (.aload_n 0, 1) := by decide +kernel
theorem dL_law_28 : decode cL_law 28 = .ok (.iload_n 3, 1) := by decide +kernel
theorem dL_law_29 : decode cL_law 29 = .ok (.iaload, 1) := by decide +kernel
theorem dL_law_30 : decode cL_law 30 = .ok (.bipush 63, 2) := by decide +kernel
theorem dL_law_32 : decode cL_law 32 = .ok (.iand, 1) := by decide +kernel
theorem dL_law_33 : decode cL_law 33 = .ok (.tableswitch 1470 0 38 #[171, 204, 237, 270, 303, 356, 389, 432, 465, 508, 541, 564, 587, 600, 623, 646, 689, 752, 775, 828, 861, 895, 908, 961, 1015, 1068, 1101, 1124, 1167, 1190, 1233, 1276, 1339, 1362, 1375, 1388, 1411, 1424, 1447], 171) := by decide +kernel
theorem dL_law_204 : decode cL_law 204 = .ok (.aload_n 1, 1) := by decide +kernel
theorem dL_law_205 : decode cL_law 205 = .ok (.aload_n 0, 1) := by decide +kernel
theorem dL_law_206 : decode cL_law 206 = .ok (.iload_n 3, 1) := by decide +kernel
theorem dL_law_207 : decode cL_law 207 = .ok (.iconst 1, 1) := by decide +kernel
theorem dL_law_208 : decode cL_law 208 = .ok (.iadd, 1) := by decide +kernel
theorem dL_law_209 : decode cL_law 209 = .ok (.iaload, 1) := by decide +kernel
theorem dL_law_210 : decode cL_law 210 = .ok (.aload_n 0, 1) := by decide +kernel
theorem dL_law_211 : decode cL_law 211 = .ok (.iload_n 3, 1) := by decide +kernel
theorem dL_law_212 : decode cL_law 212 = .ok (.iconst 2, 1) := by decide +kernel
theorem dL_law_213 : decode cL_law 213 = .ok (.iadd, 1) := by decide +kernel
theorem dL_law_214 : decode cL_law 214 = .ok (.iaload, 1) := by decide +kernel
theorem dL_law_215 : decode cL_law 215 = .ok (.invokevirtual 13, 3) := by decide +kernel
theorem dL_law_218 : decode cL_law 218 = .ok (.aload_n 2, 1) := by decide +kernel
theorem dL_law_219 : decode cL_law 219 = .ok (.aload_n 0, 1) := by decide +kernel
theorem dL_law_220 : decode cL_law 220 = .ok (.iload_n 3, 1) := by decide +kernel
theorem dL_law_221 : decode cL_law 221 = .ok (.iconst 1, 1) := by decide +kernel
theorem dL_law_222 : decode cL_law 222 = .ok (.iadd, 1) := by decide +kernel
theorem dL_law_223 : decode cL_law 223 = .ok (.iaload, 1) := by decide +kernel
theorem dL_law_224 : decode cL_law 224 = .ok (.aload_n 0, 1) := by decide +kernel
theorem dL_law_225 : decode cL_law 225 = .ok (.iload_n 3, 1) := by decide +kernel
theorem dL_law_226 : decode cL_law 226 = .ok (.iconst 2, 1) := by decide +kernel
theorem dL_law_227 : decode cL_law 227 = .ok (.iadd, 1) := by decide +kernel
theorem dL_law_228 : decode cL_law 228 = .ok (.iaload, 1) := by decide +kernel
theorem dL_law_229 : decode cL_law 229 = .ok (.invokevirtual 17, 3) := by decide +kernel
theorem dL_law_232 : decode cL_law 232 = .ok (.if_icmp .eq 1271, 3) := by decide +kernel
theorem dL_law_235 : decode cL_law 235 = .ok (.iconst 0, 1) := by decide +kernel
theorem dL_law_236 : decode cL_law 236 = .ok (.ireturn, 1) := by decide +kernel
theorem dL_law_237 : decode cL_law 237 = .ok (.aload_n 1, 1) := by decide +kernel
theorem dL_law_238 : decode cL_law 238 = .ok (.aload_n 0, 1) := by decide +kernel
theorem dL_law_239 : decode cL_law 239 = .ok (.iload_n 3, 1) := by decide +kernel
theorem dL_law_240 : decode cL_law 240 = .ok (.iconst 1, 1) := by decide +kernel
theorem dL_law_241 : decode cL_law 241 = .ok (.iadd, 1) := by decide +kernel
theorem dL_law_242 : decode cL_law 242 = .ok (.iaload, 1) := by decide +kernel
theorem dL_law_243 : decode cL_law 243 = .ok (.aload_n 0, 1) := by decide +kernel
theorem dL_law_244 : decode cL_law 244 = .ok (.iload_n 3, 1) := by decide +kernel
theorem dL_law_245 : decode cL_law 245 = .ok (.iconst 2, 1) := by decide +kernel
theorem dL_law_246 : decode cL_law 246 = .ok (.iadd, 1) := by decide +kernel
theorem dL_law_247 : decode cL_law 247 = .ok (.iaload, 1) := by decide +kernel
theorem dL_law_248 : decode cL_law 248 = .ok (.invokevirtual 18, 3) := by decide +kernel
theorem dL_law_251 : decode cL_law 251 = .ok (.aload_n 2, 1) := by decide +kernel
theorem dL_law_252 : decode cL_law 252 = .ok (.aload_n 0, 1) := by decide +kernel
theorem dL_law_253 : decode cL_law 253 = .ok (.iload_n 3, 1) := by decide +kernel
theorem dL_law_254 : decode cL_law 254 = .ok (.iconst 1, 1) := by decide +kernel
theorem dL_law_255 : decode cL_law 255 = .ok (.iadd, 1) := by decide +kernel
theorem dL_law_256 : decode cL_law 256 = .ok (.iaload, 1) := by decide +kernel
theorem dL_law_257 : decode cL_law 257 = .ok (.aload_n 0, 1) := by decide +kernel
theorem dL_law_258 : decode cL_law 258 = .ok (.iload_n 3, 1) := by decide +kernel
theorem dL_law_259 : decode cL_law 259 = .ok (.iconst 2, 1) := by decide +kernel
theorem dL_law_260 : decode cL_law 260 = .ok (.iadd, 1) := by decide +kernel
theorem dL_law_261 : decode cL_law 261 = .ok (.iaload, 1) := by decide +kernel
theorem dL_law_262 : decode cL_law 262 = .ok (.invokevirtual 21, 3) := by decide +kernel
theorem dL_law_265 : decode cL_law 265 = .ok (.if_icmp .eq 1238, 3) := by decide +kernel
theorem dL_law_268 : decode cL_law 268 = .ok (.iconst 0, 1) := by decide +kernel
theorem dL_law_269 : decode cL_law 269 = .ok (.ireturn, 1) := by decide +kernel
theorem dL_law_270 : decode cL_law 270 = .ok (.aload_n 1, 1) := by decide +kernel
theorem dL_law_271 : decode cL_law 271 = .ok (.aload_n 0, 1) := by decide +kernel
theorem dL_law_272 : decode cL_law 272 = .ok (.iload_n 3, 1) := by decide +kernel
theorem dL_law_273 : decode cL_law 273 = .ok (.iconst 1, 1) := by decide +kernel
theorem dL_law_274 : decode cL_law 274 = .ok (.iadd, 1) := by decide +kernel
theorem dL_law_275 : decode cL_law 275 = .ok (.iaload, 1) := by decide +kernel
theorem dL_law_276 : decode cL_law 276 = .ok (.aload_n 0, 1) := by decide +kernel
theorem dL_law_277 : decode cL_law 277 = .ok (.iload_n 3, 1) := by decide +kernel
theorem dL_law_278 : decode cL_law 278 = .ok (.iconst 2, 1) := by decide +kernel
theorem dL_law_279 : decode cL_law 279 = .ok (.iadd, 1) := by decide +kernel
theorem dL_law_280 : decode cL_law 280 = .ok (.iaload, 1) := by decide +kernel
theorem dL_law_281 : decode cL_law 281 = .ok (.invokevirtual 22, 3) := by decide +kernel
theorem dL_law_284 : decode cL_law 284 = .ok (.aload_n 2, 1) := by decide +kernel
theorem dL_law_285 : decode cL_law 285 = .ok (.aload_n 0, 1) := by decide +kernel
theorem dL_law_286 : decode cL_law 286 = .ok (.iload_n 3, 1) := by decide +kernel
theorem dL_law_287 : decode cL_law 287 = .ok (.iconst 1, 1) := by decide +kernel
theorem dL_law_288 : decode cL_law 288 = .ok (.iadd, 1) := by decide +kernel
theorem dL_law_289 : decode cL_law 289 = .ok (.iaload, 1) := by decide +kernel
theorem dL_law_290 : decode cL_law 290 = .ok (.aload_n 0, 1) := by decide +kernel
theorem dL_law_291 : decode cL_law 291 = .ok (.iload_n 3, 1) := by decide +kernel
theorem dL_law_292 : decode cL_law 292 = .ok (.iconst 2, 1) := by decide +kernel
theorem dL_law_293 : decode cL_law 293 = .ok (.iadd, 1) := by decide +kernel
theorem dL_law_294 : decode cL_law 294 = .ok (.iaload, 1) := by decide +kernel
theorem dL_law_295 : decode cL_law 295 = .ok (.invokevirtual 25, 3) := by decide +kernel
theorem dL_law_298 : decode cL_law 298 = .ok (.if_icmp .eq 1205, 3) := by decide +kernel
theorem dL_law_301 : decode cL_law 301 = .ok (.iconst 0, 1) := by decide +kernel
theorem dL_law_302 : decode cL_law 302 = .ok (.ireturn, 1) := by decide +kernel
theorem dL_law_303 : decode cL_law 303 = .ok (.aload_n 1, 1) := by decide +kernel
theorem dL_law_304 : decode cL_law 304 = .ok (.aload_n 0, 1) := by decide +kernel
theorem dL_law_305 : decode cL_law 305 = .ok (.iload_n 3, 1) := by decide +kernel
theorem dL_law_306 : decode cL_law 306 = .ok (.iconst 1, 1) := by decide +kernel
theorem dL_law_307 : decode cL_law 307 = .ok (.iadd, 1) := by decide +kernel
theorem dL_law_308 : decode cL_law 308 = .ok (.iaload, 1) := by decide +kernel
theorem dL_law_309 : decode cL_law 309 = .ok (.aload_n 0, 1) := by decide +kernel
theorem dL_law_310 : decode cL_law 310 = .ok (.iload_n 3, 1) := by decide +kernel
theorem dL_law_311 : decode cL_law 311 = .ok (.iconst 2, 1) := by decide +kernel
theorem dL_law_312 : decode cL_law 312 = .ok (.iadd, 1) := by decide +kernel
theorem dL_law_313 : decode cL_law 313 = .ok (.iaload, 1) := by decide +kernel
theorem dL_law_314 : decode cL_law 314 = .ok (.invokevirtual 26, 3) := by decide +kernel
theorem dL_law_317 : decode cL_law 317 = .ok (.aload_n 2, 1) := by decide +kernel
theorem dL_law_318 : decode cL_law 318 = .ok (.aload_n 0, 1) := by decide +kernel
theorem dL_law_319 : decode cL_law 319 = .ok (.iload_n 3, 1) := by decide +kernel
theorem dL_law_320 : decode cL_law 320 = .ok (.iconst 1, 1) := by decide +kernel
theorem dL_law_321 : decode cL_law 321 = .ok (.iadd, 1) := by decide +kernel
theorem dL_law_322 : decode cL_law 322 = .ok (.iaload, 1) := by decide +kernel
theorem dL_law_323 : decode cL_law 323 = .ok (.aload_n 0, 1) := by decide +kernel
theorem dL_law_324 : decode cL_law 324 = .ok (.iload_n 3, 1) := by decide +kernel
theorem dL_law_325 : decode cL_law 325 = .ok (.iconst 2, 1) := by decide +kernel
theorem dL_law_326 : decode cL_law 326 = .ok (.iadd, 1) := by decide +kernel
theorem dL_law_327 : decode cL_law 327 = .ok (.iaload, 1) := by decide +kernel
theorem dL_law_328 : decode cL_law 328 = .ok (.invokevirtual 29, 3) := by decide +kernel
theorem dL_law_331 : decode cL_law 331 = .ok (.if_icmp .eq 1172, 3) := by decide +kernel
theorem dL_law_334 : decode cL_law 334 = .ok (.iconst 0, 1) := by decide +kernel
theorem dL_law_335 : decode cL_law 335 = .ok (.ireturn, 1) := by decide +kernel
theorem dL_law_336 : decode cL_law 336 = .ok (.aload_n 1, 1) := by decide +kernel
theorem dL_law_337 : decode cL_law 337 = .ok (.aload_n 0, 1) := by decide +kernel
theorem dL_law_338 : decode cL_law 338 = .ok (.iload_n 3, 1) := by decide +kernel
theorem dL_law_339 : decode cL_law 339 = .ok (.iconst 1, 1) := by decide +kernel
theorem dL_law_340 : decode cL_law 340 = .ok (.iadd, 1) := by decide +kernel
theorem dL_law_341 : decode cL_law 341 = .ok (.iaload, 1) := by decide +kernel
theorem dL_law_342 : decode cL_law 342 = .ok (.aload_n 0, 1) := by decide +kernel
theorem dL_law_343 : decode cL_law 343 = .ok (.iload_n 3, 1) := by decide +kernel
theorem dL_law_344 : decode cL_law 344 = .ok (.iconst 2, 1) := by decide +kernel
theorem dL_law_345 : decode cL_law 345 = .ok (.iadd, 1) := by decide +kernel
theorem dL_law_346 : decode cL_law 346 = .ok (.iaload, 1) := by decide +kernel
theorem dL_law_347 : decode cL_law 347 = .ok (.aload_n 0, 1) := by decide +kernel
theorem dL_law_348 : decode cL_law 348 = .ok (.iload_n 3, 1) := by decide +kernel
theorem dL_law_349 : decode cL_law 349 = .ok (.iconst 3, 1) := by decide +kernel
theorem dL_law_350 : decode cL_law 350 = .ok (.iadd, 1) := by decide +kernel
theorem dL_law_351 : decode cL_law 351 = .ok (.iaload, 1) := by decide +kernel
theorem dL_law_352 : decode cL_law 352 = .ok (.aload_n 0, 1) := by decide +kernel
theorem dL_law_353 : decode cL_law 353 = .ok (.iload_n 3, 1) := by decide +kernel
theorem dL_law_354 : decode cL_law 354 = .ok (.iconst 4, 1) := by decide +kernel
theorem dL_law_355 : decode cL_law 355 = .ok (.iadd, 1) := by decide +kernel
theorem dL_law_356 : decode cL_law 356 = .ok (.iaload, 1) := by decide +kernel
theorem dL_law_357 : decode cL_law 357 = .ok (.invokevirtual 30, 3) := by decide +kernel
theorem dL_law_360 : decode cL_law 360 = .ok (.aload_n 2, 1) := by decide +kernel
theorem dL_law_361 : decode cL_law 361 = .ok (.aload_n 0, 1) := by decide +kernel
theorem dL_law_362 : decode cL_law 362 = .ok (.iload_n 3, 1) := by decide +kernel
theorem dL_law_363 : decode cL_law 363 = .ok (.iconst 1, 1) := by decide +kernel
theorem dL_law_364 : decode cL_law 364 = .ok (.iadd, 1) := by decide +kernel
theorem dL_law_365 : decode cL_law 365 = .ok (.iaload, 1) := by decide +kernel
theorem dL_law_366 : decode cL_law 366 = .ok (.aload_n 0, 1) := by decide +kernel
theorem dL_law_367 : decode cL_law 367 = .ok (.iload_n 3, 1) := by decide +kernel
theorem dL_law_368 : decode cL_law 368 = .ok (.iconst 2, 1) := by decide +kernel
theorem dL_law_369 : decode cL_law 369 = .ok (.iadd, 1) := by decide +kernel
theorem dL_law_370 : decode cL_law 370 = .ok (.iaload, 1) := by decide +kernel
theorem dL_law_371 : decode cL_law 371 = .ok (.aload_n 0, 1) := by decide +kernel
theorem dL_law_372 : decode cL_law 372 = .ok (.iload_n 3, 1) := by decide +kernel
theorem dL_law_373 : decode cL_law 373 = .ok (.iconst 3, 1) := by decide +kernel
theorem dL_law_374 : decode cL_law 374 = .ok (.iadd, 1) := by decide +kernel
theorem dL_law_375 : decode cL_law 375 = .ok (.iaload, 1) := by decide +kernel
theorem dL_law_376 : decode cL_law 376 = .ok (.aload_n 0, 1) := by decide +kernel
theorem dL_law_377 : decode cL_law 377 = .ok (.iload_n 3, 1) := by decide +kernel
theorem dL_law_378 : decode cL_law 378 = .ok (.iconst 4, 1) := by decide +kernel
theorem dL_law_379 : decode cL_law 379 = .ok (.iadd, 1) := by decide +kernel
theorem dL_law_380 : decode cL_law 380 = .ok (.iaload, 1) := by decide +kernel
theorem dL_law_381 : decode cL_law 381 = .ok (.invokevirtual 34, 3) := by decide +kernel
theorem dL_law_384 : decode cL_law 384 = .ok (.if_icmp .eq 1119, 3) := by decide +kernel
theorem dL_law_387 : decode cL_law 387 = .ok (.iconst 0, 1) := by decide +kernel
theorem dL_law_388 : decode cL_law 388 = .ok (.ireturn, 1) := by decide +kernel
theorem dL_law_389 : decode cL_law 389 = .ok (.aload_n 1, 1) := by decide +kernel
theorem dL_law_390 : decode cL_law 390 = .ok (.aload_n 0, 1) := by decide +kernel
theorem dL_law_391 : decode cL_law 391 = .ok (.iload_n 3, 1) := by decide +kernel
theorem dL_law_392 : decode cL_law 392 = .ok (.iconst 1, 1) := by decide +kernel
theorem dL_law_393 : decode cL_law 393 = .ok (.iadd, 1) := by decide +kernel
theorem dL_law_394 : decode cL_law 394 = .ok (.iaload, 1) := by decide +kernel
theorem dL_law_395 : decode cL_law 395 = .ok (.aload_n 0, 1) := by decide +kernel
theorem dL_law_396 : decode cL_law 396 = .ok (.iload_n 3, 1) := by decide +kernel
theorem dL_law_397 : decode cL_law 397 = .ok (.iconst 2, 1) := by decide +kernel
theorem dL_law_398 : decode cL_law 398 = .ok (.iadd, 1) := by decide +kernel
theorem dL_law_399 : decode cL_law 399 = .ok (.iaload, 1) := by decide +kernel
theorem dL_law_400 : decode cL_law 400 = .ok (.invokevirtual 35, 3) := by decide +kernel
theorem dL_law_403 : decode cL_law 403 = .ok (.aload_n 2, 1) := by decide +kernel
theorem dL_law_404 : decode cL_law 404 = .ok (.aload_n 0, 1) := by decide +kernel
theorem dL_law_405 : decode cL_law 405 = .ok (.iload_n 3, 1) := by decide +kernel
theorem dL_law_406 : decode cL_law 406 = .ok (.iconst 1, 1) := by decide +kernel
theorem dL_law_407 : decode cL_law 407 = .ok (.iadd, 1) := by decide +kernel
theorem dL_law_408 : decode cL_law 408 = .ok (.iaload, 1) := by decide +kernel
theorem dL_law_409 : decode cL_law 409 = .ok (.aload_n 0, 1) := by decide +kernel
theorem dL_law_410 : decode cL_law 410 = .ok (.iload_n 3, 1) := by decide +kernel
theorem dL_law_411 : decode cL_law 411 = .ok (.iconst 2, 1) := by decide +kernel
theorem dL_law_412 : decode cL_law 412 = .ok (.iadd, 1) := by decide +kernel
theorem dL_law_413 : decode cL_law 413 = .ok (.iaload, 1) := by decide +kernel
theorem dL_law_414 : decode cL_law 414 = .ok (.invokevirtual 38, 3) := by decide +kernel
theorem dL_law_417 : decode cL_law 417 = .ok (.if_icmp .eq 1086, 3) := by decide +kernel
theorem dL_law_420 : decode cL_law 420 = .ok (.iconst 0, 1) := by decide +kernel
theorem dL_law_421 : decode cL_law 421 = .ok (.ireturn, 1) := by decide +kernel
theorem dL_law_422 : decode cL_law 422 = .ok (.aload_n 1, 1) := by decide +kernel
theorem dL_law_423 : decode cL_law 423 = .ok (.aload_n 0, 1) := by decide +kernel
theorem dL_law_424 : decode cL_law 424 = .ok (.iload_n 3, 1) := by decide +kernel
theorem dL_law_425 : decode cL_law 425 = .ok (.iconst 1, 1) := by decide +kernel
theorem dL_law_426 : decode cL_law 426 = .ok (.iadd, 1) := by decide +kernel
theorem dL_law_427 : decode cL_law 427 = .ok (.iaload, 1) := by decide +kernel
theorem dL_law_428 : decode cL_law 428 = .ok (.aload_n 0, 1) := by decide +kernel
theorem dL_law_429 : decode cL_law 429 = .ok (.iload_n 3, 1) := by decide +kernel
theorem dL_law_430 : decode cL_law 430 = .ok (.iconst 2, 1) := by decide +kernel
theorem dL_law_431 : decode cL_law 431 = .ok (.iadd, 1) := by decide +kernel
theorem dL_law_432 : decode cL_law 432 = .ok (.iaload, 1) := by decide +kernel
theorem dL_law_433 : decode cL_law 433 = .ok (.aload_n 0, 1) := by decide +kernel
theorem dL_law_434 : decode cL_law 434 = .ok (.iload_n 3, 1) := by decide +kernel
theorem dL_law_435 : decode cL_law 435 = .ok (.iconst 3, 1) := by decide +kernel
theorem dL_law_436 : decode cL_law 436 = .ok (.iadd, 1) := by decide +kernel
theorem dL_law_437 : decode cL_law 437 = .ok (.iaload, 1) := by decide +kernel
theorem dL_law_438 : decode cL_law 438 = .ok (.invokevirtual 39, 3) := by decide +kernel
theorem dL_law_441 : decode cL_law 441 = .ok (.aload_n 2, 1) := by decide +kernel
theorem dL_law_442 : decode cL_law 442 = .ok (.aload_n 0, 1) := by decide +kernel
theorem dL_law_443 : decode cL_law 443 = .ok (.iload_n 3, 1) := by decide +kernel
theorem dL_law_444 : decode cL_law 444 = .ok (.iconst 1, 1) := by decide +kernel
theorem dL_law_445 : decode cL_law 445 = .ok (.iadd, 1) := by decide +kernel
theorem dL_law_446 : decode cL_law 446 = .ok (.iaload, 1) := by decide +kernel
theorem dL_law_447 : decode cL_law 447 = .ok (.aload_n 0, 1) := by decide +kernel
theorem dL_law_448 : decode cL_law 448 = .ok (.iload_n 3, 1) := by decide +kernel
theorem dL_law_449 : decode cL_law 449 = .ok (.iconst 2, 1) := by decide +kernel
theorem dL_law_450 : decode cL_law 450 = .ok (.iadd, 1) := by decide +kernel
theorem dL_law_451 : decode cL_law 451 = .ok (.iaload, 1) := by decide +kernel
theorem dL_law_452 : decode cL_law 452 = .ok (.aload_n 0, 1) := by decide +kernel
theorem dL_law_453 : decode cL_law 453 = .ok (.iload_n 3, 1) := by decide +kernel
theorem dL_law_454 : decode cL_law 454 = .ok (.iconst 3, 1) := by decide +kernel
theorem dL_law_455 : decode cL_law 455 = .ok (.iadd, 1) := by decide +kernel
theorem dL_law_456 : decode cL_law 456 = .ok (.iaload, 1) := by decide +kernel
theorem dL_law_457 : decode cL_law 457 = .ok (.invokevirtual 43, 3) := by decide +kernel
theorem dL_law_460 : decode cL_law 460 = .ok (.if_icmp .eq 1043, 3) := by decide +kernel
theorem dL_law_463 : decode cL_law 463 = .ok (.iconst 0, 1) := by decide +kernel
theorem dL_law_464 : decode cL_law 464 = .ok (.ireturn, 1) := by decide +kernel
theorem dL_law_465 : decode cL_law 465 = .ok (.aload_n 1, 1) := by decide +kernel
theorem dL_law_466 : decode cL_law 466 = .ok (.aload_n 0, 1) := by decide +kernel
theorem dL_law_467 : decode cL_law 467 = .ok (.iload_n 3, 1) := by decide +kernel
theorem dL_law_468 : decode cL_law 468 = .ok (.iconst 1, 1) := by decide +kernel
theorem dL_law_469 : decode cL_law 469 = .ok (.iadd, 1) := by decide +kernel
theorem dL_law_470 : decode cL_law 470 = .ok (.iaload, 1) := by decide +kernel
theorem dL_law_471 : decode cL_law 471 = .ok (.aload_n 0, 1) := by decide +kernel
theorem dL_law_472 : decode cL_law 472 = .ok (.iload_n 3, 1) := by decide +kernel
theorem dL_law_473 : decode cL_law 473 = .ok (.iconst 2, 1) := by decide +kernel
theorem dL_law_474 : decode cL_law 474 = .ok (.iadd, 1) := by decide +kernel
theorem dL_law_475 : decode cL_law 475 = .ok (.iaload, 1) := by decide +kernel
theorem dL_law_476 : decode cL_law 476 = .ok (.invokevirtual 44, 3) := by decide +kernel
theorem dL_law_479 : decode cL_law 479 = .ok (.aload_n 2, 1) := by decide +kernel
theorem dL_law_480 : decode cL_law 480 = .ok (.aload_n 0, 1) := by decide +kernel
theorem dL_law_481 : decode cL_law 481 = .ok (.iload_n 3, 1) := by decide +kernel
theorem dL_law_482 : decode cL_law 482 = .ok (.iconst 1, 1) := by decide +kernel
theorem dL_law_483 : decode cL_law 483 = .ok (.iadd, 1) := by decide +kernel
theorem dL_law_484 : decode cL_law 484 = .ok (.iaload, 1) := by decide +kernel
theorem dL_law_485 : decode cL_law 485 = .ok (.aload_n 0, 1) := by decide +kernel
theorem dL_law_486 : decode cL_law 486 = .ok (.iload_n 3, 1) := by decide +kernel
theorem dL_law_487 : decode cL_law 487 = .ok (.iconst 2, 1) := by decide +kernel
theorem dL_law_488 : decode cL_law 488 = .ok (.iadd, 1) := by decide +kernel
theorem dL_law_489 : decode cL_law 489 = .ok (.iaload, 1) := by decide +kernel
theorem dL_law_490 : decode cL_law 490 = .ok (.invokevirtual 47, 3) := by decide +kernel
theorem dL_law_493 : decode cL_law 493 = .ok (.if_icmp .eq 1010, 3) := by decide +kernel
theorem dL_law_496 : decode cL_law 496 = .ok (.iconst 0, 1) := by decide +kernel
theorem dL_law_497 : decode cL_law 497 = .ok (.ireturn, 1) := by decide +kernel
theorem dL_law_498 : decode cL_law 498 = .ok (.aload_n 1, 1) := by decide +kernel
theorem dL_law_499 : decode cL_law 499 = .ok (.aload_n 0, 1) := by decide +kernel
theorem dL_law_500 : decode cL_law 500 = .ok (.iload_n 3, 1) := by decide +kernel
theorem dL_law_501 : decode cL_law 501 = .ok (.iconst 1, 1) := by decide +kernel
theorem dL_law_502 : decode cL_law 502 = .ok (.iadd, 1) := by decide +kernel
theorem dL_law_503 : decode cL_law 503 = .ok (.iaload, 1) := by decide +kernel
theorem dL_law_504 : decode cL_law 504 = .ok (.aload_n 0, 1) := by decide +kernel
theorem dL_law_505 : decode cL_law 505 = .ok (.iload_n 3, 1) := by decide +kernel
theorem dL_law_506 : decode cL_law 506 = .ok (.iconst 2, 1) := by decide +kernel
theorem dL_law_507 : decode cL_law 507 = .ok (.iadd, 1) := by decide +kernel
theorem dL_law_508 : decode cL_law 508 = .ok (.iaload, 1) := by decide +kernel
theorem dL_law_509 : decode cL_law 509 = .ok (.aload_n 0, 1) := by decide +kernel
theorem dL_law_510 : decode cL_law 510 = .ok (.iload_n 3, 1) := by decide +kernel
theorem dL_law_511 : decode cL_law 511 = .ok (.iconst 3, 1) := by decide +kernel
theorem dL_law_512 : decode cL_law 512 = .ok (.iadd, 1) := by decide +kernel
theorem dL_law_513 : decode cL_law 513 = .ok (.iaload, 1) := by decide +kernel
theorem dL_law_514 : decode cL_law 514 = .ok (.invokevirtual 48, 3) := by decide +kernel
theorem dL_law_517 : decode cL_law 517 = .ok (.aload_n 2, 1) := by decide +kernel
theorem dL_law_518 : decode cL_law 518 = .ok (.aload_n 0, 1) := by decide +kernel
theorem dL_law_519 : decode cL_law 519 = .ok (.iload_n 3, 1) := by decide +kernel
theorem dL_law_520 : decode cL_law 520 = .ok (.iconst 1, 1) := by decide +kernel
theorem dL_law_521 : decode cL_law 521 = .ok (.iadd, 1) := by decide +kernel
theorem dL_law_522 : decode cL_law 522 = .ok (.iaload, 1) := by decide +kernel
theorem dL_law_523 : decode cL_law 523 = .ok (.aload_n 0, 1) := by decide +kernel
theorem dL_law_524 : decode cL_law 524 = .ok (.iload_n 3, 1) := by decide +kernel
theorem dL_law_525 : decode cL_law 525 = .ok (.iconst 2, 1) := by decide +kernel
theorem dL_law_526 : decode cL_law 526 = .ok (.iadd, 1) := by decide +kernel
theorem dL_law_527 : decode cL_law 527 = .ok (.iaload, 1) := by decide +kernel
theorem dL_law_528 : decode cL_law 528 = .ok (.aload_n 0, 1) := by decide +kernel
theorem dL_law_529 : decode cL_law 529 = .ok (.iload_n 3, 1) := by decide +kernel
theorem dL_law_530 : decode cL_law 530 = .ok (.iconst 3, 1) := by decide +kernel
theorem dL_law_531 : decode cL_law 531 = .ok (.iadd, 1) := by decide +kernel
theorem dL_law_532 : decode cL_law 532 = .ok (.iaload, 1) := by decide +kernel
theorem dL_law_533 : decode cL_law 533 = .ok (.invokevirtual 51, 3) := by decide +kernel
theorem dL_law_536 : decode cL_law 536 = .ok (.if_icmp .eq 967, 3) := by decide +kernel
theorem dL_law_539 : decode cL_law 539 = .ok (.iconst 0, 1) := by decide +kernel
theorem dL_law_540 : decode cL_law 540 = .ok (.ireturn, 1) := by decide +kernel
theorem dL_law_541 : decode cL_law 541 = .ok (.aload_n 1, 1) := by decide +kernel
theorem dL_law_542 : decode cL_law 542 = .ok (.aload_n 0, 1) := by decide +kernel
theorem dL_law_543 : decode cL_law 543 = .ok (.iload_n 3, 1) := by decide +kernel
theorem dL_law_544 : decode cL_law 544 = .ok (.iconst 1, 1) := by decide +kernel
theorem dL_law_545 : decode cL_law 545 = .ok (.iadd, 1) := by decide +kernel
theorem dL_law_546 : decode cL_law 546 = .ok (.iaload, 1) := by decide +kernel
theorem dL_law_547 : decode cL_law 547 = .ok (.aload_n 0, 1) := by decide +kernel
theorem dL_law_548 : decode cL_law 548 = .ok (.iload_n 3, 1) := by decide +kernel
theorem dL_law_549 : decode cL_law 549 = .ok (.iconst 2, 1) := by decide +kernel
theorem dL_law_550 : decode cL_law 550 = .ok (.iadd, 1) := by decide +kernel
theorem dL_law_551 : decode cL_law 551 = .ok (.iaload, 1) := by decide +kernel
theorem dL_law_552 : decode cL_law 552 = .ok (.invokevirtual 52, 3) := by decide +kernel
theorem dL_law_555 : decode cL_law 555 = .ok (.aload_n 2, 1) := by decide +kernel
theorem dL_law_556 : decode cL_law 556 = .ok (.aload_n 0, 1) := by decide +kernel
theorem dL_law_557 : decode cL_law 557 = .ok (.iload_n 3, 1) := by decide +kernel
theorem dL_law_558 : decode cL_law 558 = .ok (.iconst 1, 1) := by decide +kernel
theorem dL_law_559 : decode cL_law 559 = .ok (.iadd, 1) := by decide +kernel
theorem dL_law_560 : decode cL_law 560 = .ok (.iaload, 1) := by decide +kernel
theorem dL_law_561 : decode cL_law 561 = .ok (.aload_n 0, 1) := by decide +kernel
theorem dL_law_562 : decode cL_law 562 = .ok (.iload_n 3, 1) := by decide +kernel
theorem dL_law_563 : decode cL_law 563 = .ok (.iconst 2, 1) := by decide +kernel
theorem dL_law_564 : decode cL_law 564 = .ok (.iadd, 1) := by decide +kernel
theorem dL_law_565 : decode cL_law 565 = .ok (.iaload, 1) := by decide +kernel
theorem dL_law_566 : decode cL_law 566 = .ok (.invokevirtual 55, 3) := by decide +kernel
theorem dL_law_569 : decode cL_law 569 = .ok (.if_icmp .eq 934, 3) := by decide +kernel
theorem dL_law_572 : decode cL_law 572 = .ok (.iconst 0, 1) := by decide +kernel
theorem dL_law_573 : decode cL_law 573 = .ok (.ireturn, 1) := by decide +kernel
theorem dL_law_574 : decode cL_law 574 = .ok (.aload_n 1, 1) := by decide +kernel
theorem dL_law_575 : decode cL_law 575 = .ok (.aload_n 0, 1) := by decide +kernel
theorem dL_law_576 : decode cL_law 576 = .ok (.iload_n 3, 1) := by decide +kernel
theorem dL_law_577 : decode cL_law 577 = .ok (.iconst 1, 1) := by decide +kernel
theorem dL_law_578 : decode cL_law 578 = .ok (.iadd, 1) := by decide +kernel
theorem dL_law_579 : decode cL_law 579 = .ok (.iaload, 1) := by decide +kernel
theorem dL_law_580 : decode cL_law 580 = .ok (.invokevirtual 56, 3) := by decide +kernel
theorem dL_law_583 : decode cL_law 583 = .ok (.aload_n 2, 1) := by decide +kernel
theorem dL_law_584 : decode cL_law 584 = .ok (.aload_n 0, 1) := by decide +kernel
theorem dL_law_585 : decode cL_law 585 = .ok (.iload_n 3, 1) := by decide +kernel
theorem dL_law_586 : decode cL_law 586 = .ok (.iconst 1, 1) := by decide +kernel
theorem dL_law_587 : decode cL_law 587 = .ok (.iadd, 1) := by decide +kernel
theorem dL_law_588 : decode cL_law 588 = .ok (.iaload, 1) := by decide +kernel
theorem dL_law_589 : decode cL_law 589 = .ok (.invokevirtual 60, 3) := by decide +kernel
theorem dL_law_592 : decode cL_law 592 = .ok (.if_icmp .eq 911, 3) := by decide +kernel
theorem dL_law_595 : decode cL_law 595 = .ok (.iconst 0, 1) := by decide +kernel
theorem dL_law_596 : decode cL_law 596 = .ok (.ireturn, 1) := by decide +kernel
theorem dL_law_597 : decode cL_law 597 = .ok (.aload_n 1, 1) := by decide +kernel
theorem dL_law_598 : decode cL_law 598 = .ok (.aload_n 0, 1) := by decide +kernel
theorem dL_law_599 : decode cL_law 599 = .ok (.iload_n 3, 1) := by decide +kernel
theorem dL_law_600 : decode cL_law 600 = .ok (.iconst 1, 1) := by decide +kernel
theorem dL_law_601 : decode cL_law 601 = .ok (.iadd, 1) := by decide +kernel
theorem dL_law_602 : decode cL_law 602 = .ok (.iaload, 1) := by decide +kernel
theorem dL_law_603 : decode cL_law 603 = .ok (.invokevirtual 61, 3) := by decide +kernel
theorem dL_law_606 : decode cL_law 606 = .ok (.aload_n 2, 1) := by decide +kernel
theorem dL_law_607 : decode cL_law 607 = .ok (.aload_n 0, 1) := by decide +kernel
theorem dL_law_608 : decode cL_law 608 = .ok (.iload_n 3, 1) := by decide +kernel
theorem dL_law_609 : decode cL_law 609 = .ok (.iconst 1, 1) := by decide +kernel
theorem dL_law_610 : decode cL_law 610 = .ok (.iadd, 1) := by decide +kernel
theorem dL_law_611 : decode cL_law 611 = .ok (.iaload, 1) := by decide +kernel
theorem dL_law_612 : decode cL_law 612 = .ok (.invokevirtual 64, 3) := by decide +kernel
theorem dL_law_615 : decode cL_law 615 = .ok (.if_icmp .eq 888, 3) := by decide +kernel
theorem dL_law_618 : decode cL_law 618 = .ok (.iconst 0, 1) := by decide +kernel
theorem dL_law_619 : decode cL_law 619 = .ok (.ireturn, 1) := by decide +kernel
theorem dL_law_620 : decode cL_law 620 = .ok (.aload_n 1, 1) := by decide +kernel
theorem dL_law_621 : decode cL_law 621 = .ok (.invokevirtual 65, 3) := by decide +kernel
theorem dL_law_624 : decode cL_law 624 = .ok (.aload_n 2, 1) := by decide +kernel
theorem dL_law_625 : decode cL_law 625 = .ok (.invokevirtual 69, 3) := by decide +kernel
theorem dL_law_628 : decode cL_law 628 = .ok (.if_icmp .eq 875, 3) := by decide +kernel
theorem dL_law_631 : decode cL_law 631 = .ok (.iconst 0, 1) := by decide +kernel
theorem dL_law_632 : decode cL_law 632 = .ok (.ireturn, 1) := by decide +kernel
theorem dL_law_633 : decode cL_law 633 = .ok (.aload_n 1, 1) := by decide +kernel
theorem dL_law_634 : decode cL_law 634 = .ok (.aload_n 0, 1) := by decide +kernel
theorem dL_law_635 : decode cL_law 635 = .ok (.iload_n 3, 1) := by decide +kernel
theorem dL_law_636 : decode cL_law 636 = .ok (.iconst 1, 1) := by decide +kernel
theorem dL_law_637 : decode cL_law 637 = .ok (.iadd, 1) := by decide +kernel
theorem dL_law_638 : decode cL_law 638 = .ok (.iaload, 1) := by decide +kernel
theorem dL_law_639 : decode cL_law 639 = .ok (.invokevirtual 70, 3) := by decide +kernel
theorem dL_law_642 : decode cL_law 642 = .ok (.aload_n 2, 1) := by decide +kernel
theorem dL_law_643 : decode cL_law 643 = .ok (.aload_n 0, 1) := by decide +kernel
theorem dL_law_644 : decode cL_law 644 = .ok (.iload_n 3, 1) := by decide +kernel
theorem dL_law_645 : decode cL_law 645 = .ok (.iconst 1, 1) := by decide +kernel
theorem dL_law_646 : decode cL_law 646 = .ok (.iadd, 1) := by decide +kernel
theorem dL_law_647 : decode cL_law 647 = .ok (.iaload, 1) := by decide +kernel
theorem dL_law_648 : decode cL_law 648 = .ok (.invokevirtual 73, 3) := by decide +kernel
theorem dL_law_651 : decode cL_law 651 = .ok (.if_icmp .eq 852, 3) := by decide +kernel
theorem dL_law_654 : decode cL_law 654 = .ok (.iconst 0, 1) := by decide +kernel
theorem dL_law_655 : decode cL_law 655 = .ok (.ireturn, 1) := by decide +kernel
theorem dL_law_656 : decode cL_law 656 = .ok (.aload_n 1, 1) := by decide +kernel
theorem dL_law_657 : decode cL_law 657 = .ok (.aload_n 0, 1) := by decide +kernel
theorem dL_law_658 : decode cL_law 658 = .ok (.iload_n 3, 1) := by decide +kernel
theorem dL_law_659 : decode cL_law 659 = .ok (.iconst 1, 1) := by decide +kernel
theorem dL_law_660 : decode cL_law 660 = .ok (.iadd, 1) := by decide +kernel
theorem dL_law_661 : decode cL_law 661 = .ok (.iaload, 1) := by decide +kernel
theorem dL_law_662 : decode cL_law 662 = .ok (.invokevirtual 74, 3) := by decide +kernel
theorem dL_law_665 : decode cL_law 665 = .ok (.aload_n 2, 1) := by decide +kernel
theorem dL_law_666 : decode cL_law 666 = .ok (.aload_n 0, 1) := by decide +kernel
theorem dL_law_667 : decode cL_law 667 = .ok (.iload_n 3, 1) := by decide +kernel
theorem dL_law_668 : decode cL_law 668 = .ok (.iconst 1, 1) := by decide +kernel
theorem dL_law_669 : decode cL_law 669 = .ok (.iadd, 1) := by decide +kernel
theorem dL_law_670 : decode cL_law 670 = .ok (.iaload, 1) := by decide +kernel
theorem dL_law_671 : decode cL_law 671 = .ok (.invokevirtual 77, 3) := by decide +kernel
theorem dL_law_674 : decode cL_law 674 = .ok (.if_icmp .eq 829, 3) := by decide +kernel
theorem dL_law_677 : decode cL_law 677 = .ok (.iconst 0, 1) := by decide +kernel
theorem dL_law_678 : decode cL_law 678 = .ok (.ireturn, 1) := by decide +kernel
theorem dL_law_679 : decode cL_law 679 = .ok (.aload_n 1, 1) := by decide +kernel
theorem dL_law_680 : decode cL_law 680 = .ok (.aload_n 0, 1) := by decide +kernel
theorem dL_law_681 : decode cL_law 681 = .ok (.iload_n 3, 1) := by decide +kernel
theorem dL_law_682 : decode cL_law 682 = .ok (.iconst 1, 1) := by decide +kernel
theorem dL_law_683 : decode cL_law 683 = .ok (.iadd, 1) := by decide +kernel
theorem dL_law_684 : decode cL_law 684 = .ok (.iaload, 1) := by decide +kernel
theorem dL_law_685 : decode cL_law 685 = .ok (.aload_n 0, 1) := by decide +kernel
theorem dL_law_686 : decode cL_law 686 = .ok (.iload_n 3, 1) := by decide +kernel
theorem dL_law_687 : decode cL_law 687 = .ok (.iconst 2, 1) := by decide +kernel
theorem dL_law_688 : decode cL_law 688 = .ok (.iadd, 1) := by decide +kernel
theorem dL_law_689 : decode cL_law 689 = .ok (.iaload, 1) := by decide +kernel
theorem dL_law_690 : decode cL_law 690 = .ok (.aload_n 0, 1) := by decide +kernel
theorem dL_law_691 : decode cL_law 691 = .ok (.iload_n 3, 1) := by decide +kernel
theorem dL_law_692 : decode cL_law 692 = .ok (.iconst 3, 1) := by decide +kernel
theorem dL_law_693 : decode cL_law 693 = .ok (.iadd, 1) := by decide +kernel
theorem dL_law_694 : decode cL_law 694 = .ok (.iaload, 1) := by decide +kernel
theorem dL_law_695 : decode cL_law 695 = .ok (.invokevirtual 78, 3) := by decide +kernel
theorem dL_law_698 : decode cL_law 698 = .ok (.aload_n 2, 1) := by decide +kernel
theorem dL_law_699 : decode cL_law 699 = .ok (.aload_n 0, 1) := by decide +kernel
theorem dL_law_700 : decode cL_law 700 = .ok (.iload_n 3, 1) := by decide +kernel
theorem dL_law_701 : decode cL_law 701 = .ok (.iconst 1, 1) := by decide +kernel
theorem dL_law_702 : decode cL_law 702 = .ok (.iadd, 1) := by decide +kernel
theorem dL_law_703 : decode cL_law 703 = .ok (.iaload, 1) := by decide +kernel
theorem dL_law_704 : decode cL_law 704 = .ok (.aload_n 0, 1) := by decide +kernel
theorem dL_law_705 : decode cL_law 705 = .ok (.iload_n 3, 1) := by decide +kernel
theorem dL_law_706 : decode cL_law 706 = .ok (.iconst 2, 1) := by decide +kernel
theorem dL_law_707 : decode cL_law 707 = .ok (.iadd, 1) := by decide +kernel
theorem dL_law_708 : decode cL_law 708 = .ok (.iaload, 1) := by decide +kernel
theorem dL_law_709 : decode cL_law 709 = .ok (.aload_n 0, 1) := by decide +kernel
theorem dL_law_710 : decode cL_law 710 = .ok (.iload_n 3, 1) := by decide +kernel
theorem dL_law_711 : decode cL_law 711 = .ok (.iconst 3, 1) := by decide +kernel
theorem dL_law_712 : decode cL_law 712 = .ok (.iadd, 1) := by decide +kernel
theorem dL_law_713 : decode cL_law 713 = .ok (.iaload, 1) := by decide +kernel
theorem dL_law_714 : decode cL_law 714 = .ok (.invokevirtual 81, 3) := by decide +kernel
theorem dL_law_717 : decode cL_law 717 = .ok (.if_icmp .eq 786, 3) := by decide +kernel
theorem dL_law_720 : decode cL_law 720 = .ok (.iconst 0, 1) := by decide +kernel
theorem dL_law_721 : decode cL_law 721 = .ok (.ireturn, 1) := by decide +kernel
theorem dL_law_722 : decode cL_law 722 = .ok (.aload_n 1, 1) := by decide +kernel
theorem dL_law_723 : decode cL_law 723 = .ok (.aload_n 0, 1) := by decide +kernel
theorem dL_law_724 : decode cL_law 724 = .ok (.iload_n 3, 1) := by decide +kernel
theorem dL_law_725 : decode cL_law 725 = .ok (.iconst 1, 1) := by decide +kernel
theorem dL_law_726 : decode cL_law 726 = .ok (.iadd, 1) := by decide +kernel
theorem dL_law_727 : decode cL_law 727 = .ok (.iaload, 1) := by decide +kernel
theorem dL_law_728 : decode cL_law 728 = .ok (.i2l, 1) := by decide +kernel
theorem dL_law_729 : decode cL_law 729 = .ok (.bipush 32, 2) := by decide +kernel
theorem dL_law_731 : decode cL_law 731 = .ok (.lshl, 1) := by decide +kernel
theorem dL_law_732 : decode cL_law 732 = .ok (.aload_n 0, 1) := by decide +kernel
theorem dL_law_733 : decode cL_law 733 = .ok (.iload_n 3, 1) := by decide +kernel
theorem dL_law_734 : decode cL_law 734 = .ok (.iconst 2, 1) := by decide +kernel
theorem dL_law_735 : decode cL_law 735 = .ok (.iadd, 1) := by decide +kernel
theorem dL_law_736 : decode cL_law 736 = .ok (.iaload, 1) := by decide +kernel
theorem dL_law_737 : decode cL_law 737 = .ok (.i2l, 1) := by decide +kernel
theorem dL_law_738 : decode cL_law 738 = .ok (.ldc2_w 82, 3) := by decide +kernel
theorem dL_law_741 : decode cL_law 741 = .ok (.land, 1) := by decide +kernel
theorem dL_law_742 : decode cL_law 742 = .ok (.lor, 1) := by decide +kernel
theorem dL_law_743 : decode cL_law 743 = .ok (.aload_n 0, 1) := by decide +kernel
theorem dL_law_744 : decode cL_law 744 = .ok (.iload_n 3, 1) := by decide +kernel
theorem dL_law_745 : decode cL_law 745 = .ok (.iconst 3, 1) := by decide +kernel
theorem dL_law_746 : decode cL_law 746 = .ok (.iadd, 1) := by decide +kernel
theorem dL_law_747 : decode cL_law 747 = .ok (.iaload, 1) := by decide +kernel
theorem dL_law_748 : decode cL_law 748 = .ok (.invokevirtual 84, 3) := by decide +kernel
theorem dL_law_751 : decode cL_law 751 = .ok (.aload_n 2, 1) := by decide +kernel
theorem dL_law_752 : decode cL_law 752 = .ok (.aload_n 0, 1) := by decide +kernel
theorem dL_law_753 : decode cL_law 753 = .ok (.iload_n 3, 1) := by decide +kernel
theorem dL_law_754 : decode cL_law 754 = .ok (.iconst 1, 1) := by decide +kernel
theorem dL_law_755 : decode cL_law 755 = .ok (.iadd, 1) := by decide +kernel
theorem dL_law_756 : decode cL_law 756 = .ok (.iaload, 1) := by decide +kernel
theorem dL_law_757 : decode cL_law 757 = .ok (.i2l, 1) := by decide +kernel
theorem dL_law_758 : decode cL_law 758 = .ok (.bipush 32, 2) := by decide +kernel
theorem dL_law_760 : decode cL_law 760 = .ok (.lshl, 1) := by decide +kernel
theorem dL_law_761 : decode cL_law 761 = .ok (.aload_n 0, 1) := by decide +kernel
theorem dL_law_762 : decode cL_law 762 = .ok (.iload_n 3, 1) := by decide +kernel
theorem dL_law_763 : decode cL_law 763 = .ok (.iconst 2, 1) := by decide +kernel
theorem dL_law_764 : decode cL_law 764 = .ok (.iadd, 1) := by decide +kernel
theorem dL_law_765 : decode cL_law 765 = .ok (.iaload, 1) := by decide +kernel
theorem dL_law_766 : decode cL_law 766 = .ok (.i2l, 1) := by decide +kernel
theorem dL_law_767 : decode cL_law 767 = .ok (.ldc2_w 82, 3) := by decide +kernel
theorem dL_law_770 : decode cL_law 770 = .ok (.land, 1) := by decide +kernel
theorem dL_law_771 : decode cL_law 771 = .ok (.lor, 1) := by decide +kernel
theorem dL_law_772 : decode cL_law 772 = .ok (.aload_n 0, 1) := by decide +kernel
theorem dL_law_773 : decode cL_law 773 = .ok (.iload_n 3, 1) := by decide +kernel
theorem dL_law_774 : decode cL_law 774 = .ok (.iconst 3, 1) := by decide +kernel
theorem dL_law_775 : decode cL_law 775 = .ok (.iadd, 1) := by decide +kernel
theorem dL_law_776 : decode cL_law 776 = .ok (.iaload, 1) := by decide +kernel
theorem dL_law_777 : decode cL_law 777 = .ok (.invokevirtual 88, 3) := by decide +kernel
theorem dL_law_780 : decode cL_law 780 = .ok (.if_icmp .eq 723, 3) := by decide +kernel
theorem dL_law_783 : decode cL_law 783 = .ok (.iconst 0, 1) := by decide +kernel
theorem dL_law_784 : decode cL_law 784 = .ok (.ireturn, 1) := by decide +kernel
theorem dL_law_785 : decode cL_law 785 = .ok (.aload_n 1, 1) := by decide +kernel
theorem dL_law_786 : decode cL_law 786 = .ok (.aload_n 0, 1) := by decide +kernel
theorem dL_law_787 : decode cL_law 787 = .ok (.iload_n 3, 1) := by decide +kernel
theorem dL_law_788 : decode cL_law 788 = .ok (.iconst 1, 1) := by decide +kernel
theorem dL_law_789 : decode cL_law 789 = .ok (.iadd, 1) := by decide +kernel
theorem dL_law_790 : decode cL_law 790 = .ok (.iaload, 1) := by decide +kernel
theorem dL_law_791 : decode cL_law 791 = .ok (.invokevirtual 89, 3) := by decide +kernel
theorem dL_law_794 : decode cL_law 794 = .ok (.aload_n 2, 1) := by decide +kernel
theorem dL_law_795 : decode cL_law 795 = .ok (.aload_n 0, 1) := by decide +kernel
theorem dL_law_796 : decode cL_law 796 = .ok (.iload_n 3, 1) := by decide +kernel
theorem dL_law_797 : decode cL_law 797 = .ok (.iconst 1, 1) := by decide +kernel
theorem dL_law_798 : decode cL_law 798 = .ok (.iadd, 1) := by decide +kernel
theorem dL_law_799 : decode cL_law 799 = .ok (.iaload, 1) := by decide +kernel
theorem dL_law_800 : decode cL_law 800 = .ok (.invokevirtual 92, 3) := by decide +kernel
theorem dL_law_803 : decode cL_law 803 = .ok (.if_icmp .eq 700, 3) := by decide +kernel
theorem dL_law_806 : decode cL_law 806 = .ok (.iconst 0, 1) := by decide +kernel
theorem dL_law_807 : decode cL_law 807 = .ok (.ireturn, 1) := by decide +kernel
theorem dL_law_808 : decode cL_law 808 = .ok (.aload_n 1, 1) := by decide +kernel
theorem dL_law_809 : decode cL_law 809 = .ok (.aload_n 0, 1) := by decide +kernel
theorem dL_law_810 : decode cL_law 810 = .ok (.iload_n 3, 1) := by decide +kernel
theorem dL_law_811 : decode cL_law 811 = .ok (.iconst 1, 1) := by decide +kernel
theorem dL_law_812 : decode cL_law 812 = .ok (.iadd, 1) := by decide +kernel
theorem dL_law_813 : decode cL_law 813 = .ok (.iaload, 1) := by decide +kernel
theorem dL_law_814 : decode cL_law 814 = .ok (.aload_n 0, 1) := by decide +kernel
theorem dL_law_815 : decode cL_law 815 = .ok (.iload_n 3, 1) := by decide +kernel
theorem dL_law_816 : decode cL_law 816 = .ok (.iconst 2, 1) := by decide +kernel
theorem dL_law_817 : decode cL_law 817 = .ok (.iadd, 1) := by decide +kernel
theorem dL_law_818 : decode cL_law 818 = .ok (.iaload, 1) := by decide +kernel
theorem dL_law_819 : decode cL_law 819 = .ok (.aload_n 0, 1) := by decide +kernel
theorem dL_law_820 : decode cL_law 820 = .ok (.iload_n 3, 1) := by decide +kernel
theorem dL_law_821 : decode cL_law 821 = .ok (.iconst 3, 1) := by decide +kernel
theorem dL_law_822 : decode cL_law 822 = .ok (.iadd, 1) := by decide +kernel
theorem dL_law_823 : decode cL_law 823 = .ok (.iaload, 1) := by decide +kernel
theorem dL_law_824 : decode cL_law 824 = .ok (.aload_n 0, 1) := by decide +kernel
theorem dL_law_825 : decode cL_law 825 = .ok (.iload_n 3, 1) := by decide +kernel
theorem dL_law_826 : decode cL_law 826 = .ok (.iconst 4, 1) := by decide +kernel
theorem dL_law_827 : decode cL_law 827 = .ok (.iadd, 1) := by decide +kernel
theorem dL_law_828 : decode cL_law 828 = .ok (.iaload, 1) := by decide +kernel
theorem dL_law_829 : decode cL_law 829 = .ok (.invokevirtual 93, 3) := by decide +kernel
theorem dL_law_832 : decode cL_law 832 = .ok (.aload_n 2, 1) := by decide +kernel
theorem dL_law_833 : decode cL_law 833 = .ok (.aload_n 0, 1) := by decide +kernel
theorem dL_law_834 : decode cL_law 834 = .ok (.iload_n 3, 1) := by decide +kernel
theorem dL_law_835 : decode cL_law 835 = .ok (.iconst 1, 1) := by decide +kernel
theorem dL_law_836 : decode cL_law 836 = .ok (.iadd, 1) := by decide +kernel
theorem dL_law_837 : decode cL_law 837 = .ok (.iaload, 1) := by decide +kernel
theorem dL_law_838 : decode cL_law 838 = .ok (.aload_n 0, 1) := by decide +kernel
theorem dL_law_839 : decode cL_law 839 = .ok (.iload_n 3, 1) := by decide +kernel
theorem dL_law_840 : decode cL_law 840 = .ok (.iconst 2, 1) := by decide +kernel
theorem dL_law_841 : decode cL_law 841 = .ok (.iadd, 1) := by decide +kernel
theorem dL_law_842 : decode cL_law 842 = .ok (.iaload, 1) := by decide +kernel
theorem dL_law_843 : decode cL_law 843 = .ok (.aload_n 0, 1) := by decide +kernel
theorem dL_law_844 : decode cL_law 844 = .ok (.iload_n 3, 1) := by decide +kernel
theorem dL_law_845 : decode cL_law 845 = .ok (.iconst 3, 1) := by decide +kernel
theorem dL_law_846 : decode cL_law 846 = .ok (.iadd, 1) := by decide +kernel
theorem dL_law_847 : decode cL_law 847 = .ok (.iaload, 1) := by decide +kernel
theorem dL_law_848 : decode cL_law 848 = .ok (.aload_n 0, 1) := by decide +kernel
theorem dL_law_849 : decode cL_law 849 = .ok (.iload_n 3, 1) := by decide +kernel
theorem dL_law_850 : decode cL_law 850 = .ok (.iconst 4, 1) := by decide +kernel
theorem dL_law_851 : decode cL_law 851 = .ok (.iadd, 1) := by decide +kernel
theorem dL_law_852 : decode cL_law 852 = .ok (.iaload, 1) := by decide +kernel
theorem dL_law_853 : decode cL_law 853 = .ok (.invokevirtual 96, 3) := by decide +kernel
theorem dL_law_856 : decode cL_law 856 = .ok (.if_icmp .eq 647, 3) := by decide +kernel
theorem dL_law_859 : decode cL_law 859 = .ok (.iconst 0, 1) := by decide +kernel
theorem dL_law_860 : decode cL_law 860 = .ok (.ireturn, 1) := by decide +kernel
theorem dL_law_861 : decode cL_law 861 = .ok (.aload_n 1, 1) := by decide +kernel
theorem dL_law_862 : decode cL_law 862 = .ok (.aload_n 0, 1) := by decide +kernel
theorem dL_law_863 : decode cL_law 863 = .ok (.iload_n 3, 1) := by decide +kernel
theorem dL_law_864 : decode cL_law 864 = .ok (.iconst 1, 1) := by decide +kernel
theorem dL_law_865 : decode cL_law 865 = .ok (.iadd, 1) := by decide +kernel
theorem dL_law_866 : decode cL_law 866 = .ok (.iaload, 1) := by decide +kernel
theorem dL_law_867 : decode cL_law 867 = .ok (.aload_n 0, 1) := by decide +kernel
theorem dL_law_868 : decode cL_law 868 = .ok (.iload_n 3, 1) := by decide +kernel
theorem dL_law_869 : decode cL_law 869 = .ok (.iconst 2, 1) := by decide +kernel
theorem dL_law_870 : decode cL_law 870 = .ok (.iadd, 1) := by decide +kernel
theorem dL_law_871 : decode cL_law 871 = .ok (.iaload, 1) := by decide +kernel
theorem dL_law_872 : decode cL_law 872 = .ok (.invokevirtual 97, 3) := by decide +kernel
theorem dL_law_875 : decode cL_law 875 = .ok (.aload_n 2, 1) := by decide +kernel
theorem dL_law_876 : decode cL_law 876 = .ok (.aload_n 0, 1) := by decide +kernel
theorem dL_law_877 : decode cL_law 877 = .ok (.iload_n 3, 1) := by decide +kernel
theorem dL_law_878 : decode cL_law 878 = .ok (.iconst 1, 1) := by decide +kernel
theorem dL_law_879 : decode cL_law 879 = .ok (.iadd, 1) := by decide +kernel
theorem dL_law_880 : decode cL_law 880 = .ok (.iaload, 1) := by decide +kernel
theorem dL_law_881 : decode cL_law 881 = .ok (.aload_n 0, 1) := by decide +kernel
theorem dL_law_882 : decode cL_law 882 = .ok (.iload_n 3, 1) := by decide +kernel
theorem dL_law_883 : decode cL_law 883 = .ok (.iconst 2, 1) := by decide +kernel
theorem dL_law_884 : decode cL_law 884 = .ok (.iadd, 1) := by decide +kernel
theorem dL_law_885 : decode cL_law 885 = .ok (.iaload, 1) := by decide +kernel
theorem dL_law_886 : decode cL_law 886 = .ok (.invokevirtual 100, 3) := by decide +kernel
theorem dL_law_889 : decode cL_law 889 = .ok (.if_icmp .eq 614, 3) := by decide +kernel
theorem dL_law_892 : decode cL_law 892 = .ok (.iconst 0, 1) := by decide +kernel
theorem dL_law_893 : decode cL_law 893 = .ok (.ireturn, 1) := by decide +kernel
theorem dL_law_894 : decode cL_law 894 = .ok (.aload_n 1, 1) := by decide +kernel
theorem dL_law_895 : decode cL_law 895 = .ok (.aload_n 0, 1) := by decide +kernel
theorem dL_law_896 : decode cL_law 896 = .ok (.iload_n 3, 1) := by decide +kernel
theorem dL_law_897 : decode cL_law 897 = .ok (.iconst 1, 1) := by decide +kernel
theorem dL_law_898 : decode cL_law 898 = .ok (.iadd, 1) := by decide +kernel
theorem dL_law_899 : decode cL_law 899 = .ok (.iaload, 1) := by decide +kernel
theorem dL_law_900 : decode cL_law 900 = .ok (.aload_n 0, 1) := by decide +kernel
theorem dL_law_901 : decode cL_law 901 = .ok (.iload_n 3, 1) := by decide +kernel
theorem dL_law_902 : decode cL_law 902 = .ok (.iconst 2, 1) := by decide +kernel
theorem dL_law_903 : decode cL_law 903 = .ok (.iadd, 1) := by decide +kernel
theorem dL_law_904 : decode cL_law 904 = .ok (.iaload, 1) := by decide +kernel
theorem dL_law_905 : decode cL_law 905 = .ok (.invokevirtual 101, 3) := by decide +kernel
theorem dL_law_908 : decode cL_law 908 = .ok (.aload_n 2, 1) := by decide +kernel
theorem dL_law_909 : decode cL_law 909 = .ok (.aload_n 0, 1) := by decide +kernel
theorem dL_law_910 : decode cL_law 910 = .ok (.iload_n 3, 1) := by decide +kernel
theorem dL_law_911 : decode cL_law 911 = .ok (.iconst 1, 1) := by decide +kernel
theorem dL_law_912 : decode cL_law 912 = .ok (.iadd, 1) := by decide +kernel
theorem dL_law_913 : decode cL_law 913 = .ok (.iaload, 1) := by decide +kernel
theorem dL_law_914 : decode cL_law 914 = .ok (.aload_n 0, 1) := by decide +kernel
theorem dL_law_915 : decode cL_law 915 = .ok (.iload_n 3, 1) := by decide +kernel
theorem dL_law_916 : decode cL_law 916 = .ok (.iconst 2, 1) := by decide +kernel
theorem dL_law_917 : decode cL_law 917 = .ok (.iadd, 1) := by decide +kernel
theorem dL_law_918 : decode cL_law 918 = .ok (.iaload, 1) := by decide +kernel
theorem dL_law_919 : decode cL_law 919 = .ok (.invokevirtual 105, 3) := by decide +kernel
theorem dL_law_922 : decode cL_law 922 = .ok (.lcmp, 1) := by decide +kernel
theorem dL_law_923 : decode cL_law 923 = .ok (.ifCond .eq 580, 3) := by decide +kernel
theorem dL_law_926 : decode cL_law 926 = .ok (.iconst 0, 1) := by decide +kernel
theorem dL_law_927 : decode cL_law 927 = .ok (.ireturn, 1) := by decide +kernel
theorem dL_law_928 : decode cL_law 928 = .ok (.aload_n 1, 1) := by decide +kernel
theorem dL_law_929 : decode cL_law 929 = .ok (.invokevirtual 106, 3) := by decide +kernel
theorem dL_law_932 : decode cL_law 932 = .ok (.aload_n 2, 1) := by decide +kernel
theorem dL_law_933 : decode cL_law 933 = .ok (.invokevirtual 109, 3) := by decide +kernel
theorem dL_law_936 : decode cL_law 936 = .ok (.if_icmp .eq 567, 3) := by decide +kernel
theorem dL_law_939 : decode cL_law 939 = .ok (.iconst 0, 1) := by decide +kernel
theorem dL_law_940 : decode cL_law 940 = .ok (.ireturn, 1) := by decide +kernel
theorem dL_law_941 : decode cL_law 941 = .ok (.aload_n 1, 1) := by decide +kernel
theorem dL_law_942 : decode cL_law 942 = .ok (.aload_n 0, 1) := by decide +kernel
theorem dL_law_943 : decode cL_law 943 = .ok (.iload_n 3, 1) := by decide +kernel
theorem dL_law_944 : decode cL_law 944 = .ok (.iconst 1, 1) := by decide +kernel
theorem dL_law_945 : decode cL_law 945 = .ok (.iadd, 1) := by decide +kernel
theorem dL_law_946 : decode cL_law 946 = .ok (.iaload, 1) := by decide +kernel
theorem dL_law_947 : decode cL_law 947 = .ok (.aload_n 0, 1) := by decide +kernel
theorem dL_law_948 : decode cL_law 948 = .ok (.iload_n 3, 1) := by decide +kernel
theorem dL_law_949 : decode cL_law 949 = .ok (.iconst 2, 1) := by decide +kernel
theorem dL_law_950 : decode cL_law 950 = .ok (.iadd, 1) := by decide +kernel
theorem dL_law_951 : decode cL_law 951 = .ok (.iaload, 1) := by decide +kernel
theorem dL_law_952 : decode cL_law 952 = .ok (.aload_n 0, 1) := by decide +kernel
theorem dL_law_953 : decode cL_law 953 = .ok (.iload_n 3, 1) := by decide +kernel
theorem dL_law_954 : decode cL_law 954 = .ok (.iconst 3, 1) := by decide +kernel
theorem dL_law_955 : decode cL_law 955 = .ok (.iadd, 1) := by decide +kernel
theorem dL_law_956 : decode cL_law 956 = .ok (.iaload, 1) := by decide +kernel
theorem dL_law_957 : decode cL_law 957 = .ok (.aload_n 0, 1) := by decide +kernel
theorem dL_law_958 : decode cL_law 958 = .ok (.iload_n 3, 1) := by decide +kernel
theorem dL_law_959 : decode cL_law 959 = .ok (.iconst 4, 1) := by decide +kernel
theorem dL_law_960 : decode cL_law 960 = .ok (.iadd, 1) := by decide +kernel
theorem dL_law_961 : decode cL_law 961 = .ok (.iaload, 1) := by decide +kernel
theorem dL_law_962 : decode cL_law 962 = .ok (.invokevirtual 110, 3) := by decide +kernel
theorem dL_law_965 : decode cL_law 965 = .ok (.aload_n 2, 1) := by decide +kernel
theorem dL_law_966 : decode cL_law 966 = .ok (.aload_n 0, 1) := by decide +kernel
theorem dL_law_967 : decode cL_law 967 = .ok (.iload_n 3, 1) := by decide +kernel
theorem dL_law_968 : decode cL_law 968 = .ok (.iconst 1, 1) := by decide +kernel
theorem dL_law_969 : decode cL_law 969 = .ok (.iadd, 1) := by decide +kernel
theorem dL_law_970 : decode cL_law 970 = .ok (.iaload, 1) := by decide +kernel
theorem dL_law_971 : decode cL_law 971 = .ok (.aload_n 0, 1) := by decide +kernel
theorem dL_law_972 : decode cL_law 972 = .ok (.iload_n 3, 1) := by decide +kernel
theorem dL_law_973 : decode cL_law 973 = .ok (.iconst 2, 1) := by decide +kernel
theorem dL_law_974 : decode cL_law 974 = .ok (.iadd, 1) := by decide +kernel
theorem dL_law_975 : decode cL_law 975 = .ok (.iaload, 1) := by decide +kernel
theorem dL_law_976 : decode cL_law 976 = .ok (.aload_n 0, 1) := by decide +kernel
theorem dL_law_977 : decode cL_law 977 = .ok (.iload_n 3, 1) := by decide +kernel
theorem dL_law_978 : decode cL_law 978 = .ok (.iconst 3, 1) := by decide +kernel
theorem dL_law_979 : decode cL_law 979 = .ok (.iadd, 1) := by decide +kernel
theorem dL_law_980 : decode cL_law 980 = .ok (.iaload, 1) := by decide +kernel
theorem dL_law_981 : decode cL_law 981 = .ok (.aload_n 0, 1) := by decide +kernel
theorem dL_law_982 : decode cL_law 982 = .ok (.iload_n 3, 1) := by decide +kernel
theorem dL_law_983 : decode cL_law 983 = .ok (.iconst 4, 1) := by decide +kernel
theorem dL_law_984 : decode cL_law 984 = .ok (.iadd, 1) := by decide +kernel
theorem dL_law_985 : decode cL_law 985 = .ok (.iaload, 1) := by decide +kernel
theorem dL_law_986 : decode cL_law 986 = .ok (.invokevirtual 113, 3) := by decide +kernel
theorem dL_law_989 : decode cL_law 989 = .ok (.if_icmp .eq 514, 3) := by decide +kernel
theorem dL_law_992 : decode cL_law 992 = .ok (.iconst 0, 1) := by decide +kernel
theorem dL_law_993 : decode cL_law 993 = .ok (.ireturn, 1) := by decide +kernel
theorem dL_law_994 : decode cL_law 994 = .ok (.aload_n 1, 1) := by decide +kernel
theorem dL_law_995 : decode cL_law 995 = .ok (.aload_n 0, 1) := by decide +kernel
theorem dL_law_996 : decode cL_law 996 = .ok (.iload_n 3, 1) := by decide +kernel
theorem dL_law_997 : decode cL_law 997 = .ok (.iconst 1, 1) := by decide +kernel
theorem dL_law_998 : decode cL_law 998 = .ok (.iadd, 1) := by decide +kernel
theorem dL_law_999 : decode cL_law 999 = .ok (.iaload, 1) := by decide +kernel
theorem dL_law_1000 : decode cL_law 1000 = .ok (.aload_n 0, 1) := by decide +kernel
theorem dL_law_1001 : decode cL_law 1001 = .ok (.iload_n 3, 1) := by decide +kernel
theorem dL_law_1002 : decode cL_law 1002 = .ok (.iconst 2, 1) := by decide +kernel
theorem dL_law_1003 : decode cL_law 1003 = .ok (.iadd, 1) := by decide +kernel
theorem dL_law_1004 : decode cL_law 1004 = .ok (.iaload, 1) := by decide +kernel
theorem dL_law_1005 : decode cL_law 1005 = .ok (.aload_n 0, 1) := by decide +kernel
theorem dL_law_1006 : decode cL_law 1006 = .ok (.iload_n 3, 1) := by decide +kernel
theorem dL_law_1007 : decode cL_law 1007 = .ok (.iconst 3, 1) := by decide +kernel
theorem dL_law_1008 : decode cL_law 1008 = .ok (.iadd, 1) := by decide +kernel
theorem dL_law_1009 : decode cL_law 1009 = .ok (.iaload, 1) := by decide +kernel
theorem dL_law_1010 : decode cL_law 1010 = .ok (.aload_n 0, 1) := by decide +kernel
theorem dL_law_1011 : decode cL_law 1011 = .ok (.iload_n 3, 1) := by decide +kernel
theorem dL_law_1012 : decode cL_law 1012 = .ok (.iconst 4, 1) := by decide +kernel
theorem dL_law_1013 : decode cL_law 1013 = .ok (.iadd, 1) := by decide +kernel
theorem dL_law_1014 : decode cL_law 1014 = .ok (.iaload, 1) := by decide +kernel
theorem dL_law_1015 : decode cL_law 1015 = .ok (.invokevirtual 114, 3) := by decide +kernel
theorem dL_law_1018 : decode cL_law 1018 = .ok (.aload_n 2, 1) := by decide +kernel
theorem dL_law_1019 : decode cL_law 1019 = .ok (.aload_n 0, 1) := by decide +kernel
theorem dL_law_1020 : decode cL_law 1020 = .ok (.iload_n 3, 1) := by decide +kernel
theorem dL_law_1021 : decode cL_law 1021 = .ok (.iconst 1, 1) := by decide +kernel
theorem dL_law_1022 : decode cL_law 1022 = .ok (.iadd, 1) := by decide +kernel
theorem dL_law_1023 : decode cL_law 1023 = .ok (.iaload, 1) := by decide +kernel
theorem dL_law_1024 : decode cL_law 1024 = .ok (.aload_n 0, 1) := by decide +kernel
theorem dL_law_1025 : decode cL_law 1025 = .ok (.iload_n 3, 1) := by decide +kernel
theorem dL_law_1026 : decode cL_law 1026 = .ok (.iconst 2, 1) := by decide +kernel
theorem dL_law_1027 : decode cL_law 1027 = .ok (.iadd, 1) := by decide +kernel
theorem dL_law_1028 : decode cL_law 1028 = .ok (.iaload, 1) := by decide +kernel
theorem dL_law_1029 : decode cL_law 1029 = .ok (.aload_n 0, 1) := by decide +kernel
theorem dL_law_1030 : decode cL_law 1030 = .ok (.iload_n 3, 1) := by decide +kernel
theorem dL_law_1031 : decode cL_law 1031 = .ok (.iconst 3, 1) := by decide +kernel
theorem dL_law_1032 : decode cL_law 1032 = .ok (.iadd, 1) := by decide +kernel
theorem dL_law_1033 : decode cL_law 1033 = .ok (.iaload, 1) := by decide +kernel
theorem dL_law_1034 : decode cL_law 1034 = .ok (.aload_n 0, 1) := by decide +kernel
theorem dL_law_1035 : decode cL_law 1035 = .ok (.iload_n 3, 1) := by decide +kernel
theorem dL_law_1036 : decode cL_law 1036 = .ok (.iconst 4, 1) := by decide +kernel
theorem dL_law_1037 : decode cL_law 1037 = .ok (.iadd, 1) := by decide +kernel
theorem dL_law_1038 : decode cL_law 1038 = .ok (.iaload, 1) := by decide +kernel
theorem dL_law_1039 : decode cL_law 1039 = .ok (.invokevirtual 118, 3) := by decide +kernel
theorem dL_law_1042 : decode cL_law 1042 = .ok (.lcmp, 1) := by decide +kernel
theorem dL_law_1043 : decode cL_law 1043 = .ok (.ifCond .eq 460, 3) := by decide +kernel
theorem dL_law_1046 : decode cL_law 1046 = .ok (.iconst 0, 1) := by decide +kernel
theorem dL_law_1047 : decode cL_law 1047 = .ok (.ireturn, 1) := by decide +kernel
theorem dL_law_1048 : decode cL_law 1048 = .ok (.aload_n 1, 1) := by decide +kernel
theorem dL_law_1049 : decode cL_law 1049 = .ok (.aload_n 0, 1) := by decide +kernel
theorem dL_law_1050 : decode cL_law 1050 = .ok (.iload_n 3, 1) := by decide +kernel
theorem dL_law_1051 : decode cL_law 1051 = .ok (.iconst 1, 1) := by decide +kernel
theorem dL_law_1052 : decode cL_law 1052 = .ok (.iadd, 1) := by decide +kernel
theorem dL_law_1053 : decode cL_law 1053 = .ok (.iaload, 1) := by decide +kernel
theorem dL_law_1054 : decode cL_law 1054 = .ok (.aload_n 0, 1) := by decide +kernel
theorem dL_law_1055 : decode cL_law 1055 = .ok (.iload_n 3, 1) := by decide +kernel
theorem dL_law_1056 : decode cL_law 1056 = .ok (.iconst 2, 1) := by decide +kernel
theorem dL_law_1057 : decode cL_law 1057 = .ok (.iadd, 1) := by decide +kernel
theorem dL_law_1058 : decode cL_law 1058 = .ok (.iaload, 1) := by decide +kernel
theorem dL_law_1059 : decode cL_law 1059 = .ok (.aload_n 0, 1) := by decide +kernel
theorem dL_law_1060 : decode cL_law 1060 = .ok (.iload_n 3, 1) := by decide +kernel
theorem dL_law_1061 : decode cL_law 1061 = .ok (.iconst 3, 1) := by decide +kernel
theorem dL_law_1062 : decode cL_law 1062 = .ok (.iadd, 1) := by decide +kernel
theorem dL_law_1063 : decode cL_law 1063 = .ok (.iaload, 1) := by decide +kernel
theorem dL_law_1064 : decode cL_law 1064 = .ok (.aload_n 0, 1) := by decide +kernel
theorem dL_law_1065 : decode cL_law 1065 = .ok (.iload_n 3, 1) := by decide +kernel
theorem dL_law_1066 : decode cL_law 1066 = .ok (.iconst 4, 1) := by decide +kernel
theorem dL_law_1067 : decode cL_law 1067 = .ok (.iadd, 1) := by decide +kernel
theorem dL_law_1068 : decode cL_law 1068 = .ok (.iaload, 1) := by decide +kernel
theorem dL_law_1069 : decode cL_law 1069 = .ok (.invokevirtual 119, 3) := by decide +kernel
theorem dL_law_1072 : decode cL_law 1072 = .ok (.aload_n 2, 1) := by decide +kernel
theorem dL_law_1073 : decode cL_law 1073 = .ok (.aload_n 0, 1) := by decide +kernel
theorem dL_law_1074 : decode cL_law 1074 = .ok (.iload_n 3, 1) := by decide +kernel
theorem dL_law_1075 : decode cL_law 1075 = .ok (.iconst 1, 1) := by decide +kernel
theorem dL_law_1076 : decode cL_law 1076 = .ok (.iadd, 1) := by decide +kernel
theorem dL_law_1077 : decode cL_law 1077 = .ok (.iaload, 1) := by decide +kernel
theorem dL_law_1078 : decode cL_law 1078 = .ok (.aload_n 0, 1) := by decide +kernel
theorem dL_law_1079 : decode cL_law 1079 = .ok (.iload_n 3, 1) := by decide +kernel
theorem dL_law_1080 : decode cL_law 1080 = .ok (.iconst 2, 1) := by decide +kernel
theorem dL_law_1081 : decode cL_law 1081 = .ok (.iadd, 1) := by decide +kernel
theorem dL_law_1082 : decode cL_law 1082 = .ok (.iaload, 1) := by decide +kernel
theorem dL_law_1083 : decode cL_law 1083 = .ok (.aload_n 0, 1) := by decide +kernel
theorem dL_law_1084 : decode cL_law 1084 = .ok (.iload_n 3, 1) := by decide +kernel
theorem dL_law_1085 : decode cL_law 1085 = .ok (.iconst 3, 1) := by decide +kernel
theorem dL_law_1086 : decode cL_law 1086 = .ok (.iadd, 1) := by decide +kernel
theorem dL_law_1087 : decode cL_law 1087 = .ok (.iaload, 1) := by decide +kernel
theorem dL_law_1088 : decode cL_law 1088 = .ok (.aload_n 0, 1) := by decide +kernel
theorem dL_law_1089 : decode cL_law 1089 = .ok (.iload_n 3, 1) := by decide +kernel
theorem dL_law_1090 : decode cL_law 1090 = .ok (.iconst 4, 1) := by decide +kernel
theorem dL_law_1091 : decode cL_law 1091 = .ok (.iadd, 1) := by decide +kernel
theorem dL_law_1092 : decode cL_law 1092 = .ok (.iaload, 1) := by decide +kernel
theorem dL_law_1093 : decode cL_law 1093 = .ok (.invokevirtual 122, 3) := by decide +kernel
theorem dL_law_1096 : decode cL_law 1096 = .ok (.if_icmp .eq 407, 3) := by decide +kernel
theorem dL_law_1099 : decode cL_law 1099 = .ok (.iconst 0, 1) := by decide +kernel
theorem dL_law_1100 : decode cL_law 1100 = .ok (.ireturn, 1) := by decide +kernel
theorem dL_law_1101 : decode cL_law 1101 = .ok (.aload_n 1, 1) := by decide +kernel
theorem dL_law_1102 : decode cL_law 1102 = .ok (.aload_n 0, 1) := by decide +kernel
theorem dL_law_1103 : decode cL_law 1103 = .ok (.iload_n 3, 1) := by decide +kernel
theorem dL_law_1104 : decode cL_law 1104 = .ok (.iconst 1, 1) := by decide +kernel
theorem dL_law_1105 : decode cL_law 1105 = .ok (.iadd, 1) := by decide +kernel
theorem dL_law_1106 : decode cL_law 1106 = .ok (.iaload, 1) := by decide +kernel
theorem dL_law_1107 : decode cL_law 1107 = .ok (.aload_n 0, 1) := by decide +kernel
theorem dL_law_1108 : decode cL_law 1108 = .ok (.iload_n 3, 1) := by decide +kernel
theorem dL_law_1109 : decode cL_law 1109 = .ok (.iconst 2, 1) := by decide +kernel
theorem dL_law_1110 : decode cL_law 1110 = .ok (.iadd, 1) := by decide +kernel
theorem dL_law_1111 : decode cL_law 1111 = .ok (.iaload, 1) := by decide +kernel
theorem dL_law_1112 : decode cL_law 1112 = .ok (.invokevirtual 123, 3) := by decide +kernel
theorem dL_law_1115 : decode cL_law 1115 = .ok (.aload_n 2, 1) := by decide +kernel
theorem dL_law_1116 : decode cL_law 1116 = .ok (.aload_n 0, 1) := by decide +kernel
theorem dL_law_1117 : decode cL_law 1117 = .ok (.iload_n 3, 1) := by decide +kernel
theorem dL_law_1118 : decode cL_law 1118 = .ok (.iconst 1, 1) := by decide +kernel
theorem dL_law_1119 : decode cL_law 1119 = .ok (.iadd, 1) := by decide +kernel
theorem dL_law_1120 : decode cL_law 1120 = .ok (.iaload, 1) := by decide +kernel
theorem dL_law_1121 : decode cL_law 1121 = .ok (.aload_n 0, 1) := by decide +kernel
theorem dL_law_1122 : decode cL_law 1122 = .ok (.iload_n 3, 1) := by decide +kernel
theorem dL_law_1123 : decode cL_law 1123 = .ok (.iconst 2, 1) := by decide +kernel
theorem dL_law_1124 : decode cL_law 1124 = .ok (.iadd, 1) := by decide +kernel
theorem dL_law_1125 : decode cL_law 1125 = .ok (.iaload, 1) := by decide +kernel
theorem dL_law_1126 : decode cL_law 1126 = .ok (.invokevirtual 126, 3) := by decide +kernel
theorem dL_law_1129 : decode cL_law 1129 = .ok (.if_icmp .eq 374, 3) := by decide +kernel
theorem dL_law_1132 : decode cL_law 1132 = .ok (.iconst 0, 1) := by decide +kernel
theorem dL_law_1133 : decode cL_law 1133 = .ok (.ireturn, 1) := by decide +kernel
theorem dL_law_1134 : decode cL_law 1134 = .ok (.aload_n 1, 1) := by decide +kernel
theorem dL_law_1135 : decode cL_law 1135 = .ok (.aload_n 0, 1) := by decide +kernel
theorem dL_law_1136 : decode cL_law 1136 = .ok (.iload_n 3, 1) := by decide +kernel
theorem dL_law_1137 : decode cL_law 1137 = .ok (.iconst 1, 1) := by decide +kernel
theorem dL_law_1138 : decode cL_law 1138 = .ok (.iadd, 1) := by decide +kernel
theorem dL_law_1139 : decode cL_law 1139 = .ok (.iaload, 1) := by decide +kernel
theorem dL_law_1140 : decode cL_law 1140 = .ok (.invokevirtual 127, 3) := by decide +kernel
theorem dL_law_1143 : decode cL_law 1143 = .ok (.aload_n 2, 1) := by decide +kernel
theorem dL_law_1144 : decode cL_law 1144 = .ok (.aload_n 0, 1) := by decide +kernel
theorem dL_law_1145 : decode cL_law 1145 = .ok (.iload_n 3, 1) := by decide +kernel
theorem dL_law_1146 : decode cL_law 1146 = .ok (.iconst 1, 1) := by decide +kernel
theorem dL_law_1147 : decode cL_law 1147 = .ok (.iadd, 1) := by decide +kernel
theorem dL_law_1148 : decode cL_law 1148 = .ok (.iaload, 1) := by decide +kernel
theorem dL_law_1149 : decode cL_law 1149 = .ok (.invokevirtual 130, 3) := by decide +kernel
theorem dL_law_1152 : decode cL_law 1152 = .ok (.if_icmp .eq 351, 3) := by decide +kernel
theorem dL_law_1155 : decode cL_law 1155 = .ok (.iconst 0, 1) := by decide +kernel
theorem dL_law_1156 : decode cL_law 1156 = .ok (.ireturn, 1) := by decide +kernel
theorem dL_law_1157 : decode cL_law 1157 = .ok (.aload_n 1, 1) := by decide +kernel
theorem dL_law_1158 : decode cL_law 1158 = .ok (.aload_n 0, 1) := by decide +kernel
theorem dL_law_1159 : decode cL_law 1159 = .ok (.iload_n 3, 1) := by decide +kernel
theorem dL_law_1160 : decode cL_law 1160 = .ok (.iconst 1, 1) := by decide +kernel
theorem dL_law_1161 : decode cL_law 1161 = .ok (.iadd, 1) := by decide +kernel
theorem dL_law_1162 : decode cL_law 1162 = .ok (.iaload, 1) := by decide +kernel
theorem dL_law_1163 : decode cL_law 1163 = .ok (.aload_n 0, 1) := by decide +kernel
theorem dL_law_1164 : decode cL_law 1164 = .ok (.iload_n 3, 1) := by decide +kernel
theorem dL_law_1165 : decode cL_law 1165 = .ok (.iconst 2, 1) := by decide +kernel
theorem dL_law_1166 : decode cL_law 1166 = .ok (.iadd, 1) := by decide +kernel
theorem dL_law_1167 : decode cL_law 1167 = .ok (.iaload, 1) := by decide +kernel
theorem dL_law_1168 : decode cL_law 1168 = .ok (.aload_n 0, 1) := by decide +kernel
theorem dL_law_1169 : decode cL_law 1169 = .ok (.iload_n 3, 1) := by decide +kernel
theorem dL_law_1170 : decode cL_law 1170 = .ok (.iconst 3, 1) := by decide +kernel
theorem dL_law_1171 : decode cL_law 1171 = .ok (.iadd, 1) := by decide +kernel
theorem dL_law_1172 : decode cL_law 1172 = .ok (.iaload, 1) := by decide +kernel
theorem dL_law_1173 : decode cL_law 1173 = .ok (.invokevirtual 131, 3) := by decide +kernel
theorem dL_law_1176 : decode cL_law 1176 = .ok (.aload_n 2, 1) := by decide +kernel
theorem dL_law_1177 : decode cL_law 1177 = .ok (.aload_n 0, 1) := by decide +kernel
theorem dL_law_1178 : decode cL_law 1178 = .ok (.iload_n 3, 1) := by decide +kernel
theorem dL_law_1179 : decode cL_law 1179 = .ok (.iconst 1, 1) := by decide +kernel
theorem dL_law_1180 : decode cL_law 1180 = .ok (.iadd, 1) := by decide +kernel
theorem dL_law_1181 : decode cL_law 1181 = .ok (.iaload, 1) := by decide +kernel
theorem dL_law_1182 : decode cL_law 1182 = .ok (.aload_n 0, 1) := by decide +kernel
theorem dL_law_1183 : decode cL_law 1183 = .ok (.iload_n 3, 1) := by decide +kernel
theorem dL_law_1184 : decode cL_law 1184 = .ok (.iconst 2, 1) := by decide +kernel
theorem dL_law_1185 : decode cL_law 1185 = .ok (.iadd, 1) := by decide +kernel
theorem dL_law_1186 : decode cL_law 1186 = .ok (.iaload, 1) := by decide +kernel
theorem dL_law_1187 : decode cL_law 1187 = .ok (.aload_n 0, 1) := by decide +kernel
theorem dL_law_1188 : decode cL_law 1188 = .ok (.iload_n 3, 1) := by decide +kernel
theorem dL_law_1189 : decode cL_law 1189 = .ok (.iconst 3, 1) := by decide +kernel
theorem dL_law_1190 : decode cL_law 1190 = .ok (.iadd, 1) := by decide +kernel
theorem dL_law_1191 : decode cL_law 1191 = .ok (.iaload, 1) := by decide +kernel
theorem dL_law_1192 : decode cL_law 1192 = .ok (.invokevirtual 134, 3) := by decide +kernel
theorem dL_law_1195 : decode cL_law 1195 = .ok (.if_icmp .eq 308, 3) := by decide +kernel
theorem dL_law_1198 : decode cL_law 1198 = .ok (.iconst 0, 1) := by decide +kernel
theorem dL_law_1199 : decode cL_law 1199 = .ok (.ireturn, 1) := by decide +kernel
theorem dL_law_1200 : decode cL_law 1200 = .ok (.aload_n 1, 1) := by decide +kernel
theorem dL_law_1201 : decode cL_law 1201 = .ok (.aload_n 0, 1) := by decide +kernel
theorem dL_law_1202 : decode cL_law 1202 = .ok (.iload_n 3, 1) := by decide +kernel
theorem dL_law_1203 : decode cL_law 1203 = .ok (.iconst 1, 1) := by decide +kernel
theorem dL_law_1204 : decode cL_law 1204 = .ok (.iadd, 1) := by decide +kernel
theorem dL_law_1205 : decode cL_law 1205 = .ok (.iaload, 1) := by decide +kernel
theorem dL_law_1206 : decode cL_law 1206 = .ok (.invokevirtual 135, 3) := by decide +kernel
theorem dL_law_1209 : decode cL_law 1209 = .ok (.aload_n 2, 1) := by decide +kernel
theorem dL_law_1210 : decode cL_law 1210 = .ok (.aload_n 0, 1) := by decide +kernel
theorem dL_law_1211 : decode cL_law 1211 = .ok (.iload_n 3, 1) := by decide +kernel
theorem dL_law_1212 : decode cL_law 1212 = .ok (.iconst 1, 1) := by decide +kernel
theorem dL_law_1213 : decode cL_law 1213 = .ok (.iadd, 1) := by decide +kernel
theorem dL_law_1214 : decode cL_law 1214 = .ok (.iaload, 1) := by decide +kernel
theorem dL_law_1215 : decode cL_law 1215 = .ok (.invokevirtual 138, 3) := by decide +kernel
theorem dL_law_1218 : decode cL_law 1218 = .ok (.if_icmp .eq 285, 3) := by decide +kernel
theorem dL_law_1221 : decode cL_law 1221 = .ok (.iconst 0, 1) := by decide +kernel
theorem dL_law_1222 : decode cL_law 1222 = .ok (.ireturn, 1) := by decide +kernel
theorem dL_law_1223 : decode cL_law 1223 = .ok (.aload_n 1, 1) := by decide +kernel
theorem dL_law_1224 : decode cL_law 1224 = .ok (.aload_n 0, 1) := by decide +kernel
theorem dL_law_1225 : decode cL_law 1225 = .ok (.iload_n 3, 1) := by decide +kernel
theorem dL_law_1226 : decode cL_law 1226 = .ok (.iconst 1, 1) := by decide +kernel
theorem dL_law_1227 : decode cL_law 1227 = .ok (.iadd, 1) := by decide +kernel
theorem dL_law_1228 : decode cL_law 1228 = .ok (.iaload, 1) := by decide +kernel
theorem dL_law_1229 : decode cL_law 1229 = .ok (.aload_n 0, 1) := by decide +kernel
theorem dL_law_1230 : decode cL_law 1230 = .ok (.iload_n 3, 1) := by decide +kernel
theorem dL_law_1231 : decode cL_law 1231 = .ok (.iconst 2, 1) := by decide +kernel
theorem dL_law_1232 : decode cL_law 1232 = .ok (.iadd, 1) := by decide +kernel
theorem dL_law_1233 : decode cL_law 1233 = .ok (.iaload, 1) := by decide +kernel
theorem dL_law_1234 : decode cL_law 1234 = .ok (.aload_n 0, 1) := by decide +kernel
theorem dL_law_1235 : decode cL_law 1235 = .ok (.iload_n 3, 1) := by decide +kernel
theorem dL_law_1236 : decode cL_law 1236 = .ok (.iconst 3, 1) := by decide +kernel
theorem dL_law_1237 : decode cL_law 1237 = .ok (.iadd, 1) := by decide +kernel
theorem dL_law_1238 : decode cL_law 1238 = .ok (.iaload, 1) := by decide +kernel
theorem dL_law_1239 : decode cL_law 1239 = .ok (.invokevirtual 139, 3) := by decide +kernel
theorem dL_law_1242 : decode cL_law 1242 = .ok (.aload_n 2, 1) := by decide +kernel
theorem dL_law_1243 : decode cL_law 1243 = .ok (.aload_n 0, 1) := by decide +kernel
theorem dL_law_1244 : decode cL_law 1244 = .ok (.iload_n 3, 1) := by decide +kernel
theorem dL_law_1245 : decode cL_law 1245 = .ok (.iconst 1, 1) := by decide +kernel
theorem dL_law_1246 : decode cL_law 1246 = .ok (.iadd, 1) := by decide +kernel
theorem dL_law_1247 : decode cL_law 1247 = .ok (.iaload, 1) := by decide +kernel
theorem dL_law_1248 : decode cL_law 1248 = .ok (.aload_n 0, 1) := by decide +kernel
theorem dL_law_1249 : decode cL_law 1249 = .ok (.iload_n 3, 1) := by decide +kernel
theorem dL_law_1250 : decode cL_law 1250 = .ok (.iconst 2, 1) := by decide +kernel
theorem dL_law_1251 : decode cL_law 1251 = .ok (.iadd, 1) := by decide +kernel
theorem dL_law_1252 : decode cL_law 1252 = .ok (.iaload, 1) := by decide +kernel
theorem dL_law_1253 : decode cL_law 1253 = .ok (.aload_n 0, 1) := by decide +kernel
theorem dL_law_1254 : decode cL_law 1254 = .ok (.iload_n 3, 1) := by decide +kernel
theorem dL_law_1255 : decode cL_law 1255 = .ok (.iconst 3, 1) := by decide +kernel
theorem dL_law_1256 : decode cL_law 1256 = .ok (.iadd, 1) := by decide +kernel
theorem dL_law_1257 : decode cL_law 1257 = .ok (.iaload, 1) := by decide +kernel
theorem dL_law_1258 : decode cL_law 1258 = .ok (.invokevirtual 142, 3) := by decide +kernel
theorem dL_law_1261 : decode cL_law 1261 = .ok (.if_icmp .eq 242, 3) := by decide +kernel
theorem dL_law_1264 : decode cL_law 1264 = .ok (.iconst 0, 1) := by decide +kernel
theorem dL_law_1265 : decode cL_law 1265 = .ok (.ireturn, 1) := by decide +kernel
theorem dL_law_1266 : decode cL_law 1266 = .ok (.aload_n 1, 1) := by decide +kernel
theorem dL_law_1267 : decode cL_law 1267 = .ok (.aload_n 0, 1) := by decide +kernel
theorem dL_law_1268 : decode cL_law 1268 = .ok (.iload_n 3, 1) := by decide +kernel
theorem dL_law_1269 : decode cL_law 1269 = .ok (.iconst 1, 1) := by decide +kernel
theorem dL_law_1270 : decode cL_law 1270 = .ok (.iadd, 1) := by decide +kernel
theorem dL_law_1271 : decode cL_law 1271 = .ok (.iaload, 1) := by decide +kernel
theorem dL_law_1272 : decode cL_law 1272 = .ok (.aload_n 0, 1) := by decide +kernel
theorem dL_law_1273 : decode cL_law 1273 = .ok (.iload_n 3, 1) := by decide +kernel
theorem dL_law_1274 : decode cL_law 1274 = .ok (.iconst 2, 1) := by decide +kernel
theorem dL_law_1275 : decode cL_law 1275 = .ok (.iadd, 1) := by decide +kernel
theorem dL_law_1276 : decode cL_law 1276 = .ok (.iaload, 1) := by decide +kernel
theorem dL_law_1277 : decode cL_law 1277 = .ok (.aload_n 0, 1) := by decide +kernel
theorem dL_law_1278 : decode cL_law 1278 = .ok (.iload_n 3, 1) := by decide +kernel
theorem dL_law_1279 : decode cL_law 1279 = .ok (.iconst 3, 1) := by decide +kernel
theorem dL_law_1280 : decode cL_law 1280 = .ok (.iadd, 1) := by decide +kernel
theorem dL_law_1281 : decode cL_law 1281 = .ok (.iaload, 1) := by decide +kernel
theorem dL_law_1282 : decode cL_law 1282 = .ok (.invokevirtual 143, 3) := by decide +kernel
theorem dL_law_1285 : decode cL_law 1285 = .ok (.aload_n 2, 1) := by decide +kernel
theorem dL_law_1286 : decode cL_law 1286 = .ok (.aload_n 0, 1) := by decide +kernel
theorem dL_law_1287 : decode cL_law 1287 = .ok (.iload_n 3, 1) := by decide +kernel
theorem dL_law_1288 : decode cL_law 1288 = .ok (.iconst 1, 1) := by decide +kernel
theorem dL_law_1289 : decode cL_law 1289 = .ok (.iadd, 1) := by decide +kernel
theorem dL_law_1290 : decode cL_law 1290 = .ok (.iaload, 1) := by decide +kernel
theorem dL_law_1291 : decode cL_law 1291 = .ok (.aload_n 0, 1) := by decide +kernel
theorem dL_law_1292 : decode cL_law 1292 = .ok (.iload_n 3, 1) := by decide +kernel
theorem dL_law_1293 : decode cL_law 1293 = .ok (.iconst 2, 1) := by decide +kernel
theorem dL_law_1294 : decode cL_law 1294 = .ok (.iadd, 1) := by decide +kernel
theorem dL_law_1295 : decode cL_law 1295 = .ok (.iaload, 1) := by decide +kernel
theorem dL_law_1296 : decode cL_law 1296 = .ok (.aload_n 0, 1) := by decide +kernel
theorem dL_law_1297 : decode cL_law 1297 = .ok (.iload_n 3, 1) := by decide +kernel
theorem dL_law_1298 : decode cL_law 1298 = .ok (.iconst 3, 1) := by decide +kernel
theorem dL_law_1299 : decode cL_law 1299 = .ok (.iadd, 1) := by decide +kernel
theorem dL_law_1300 : decode cL_law 1300 = .ok (.iaload, 1) := by decide +kernel
theorem dL_law_1301 : decode cL_law 1301 = .ok (.invokevirtual 146, 3) := by decide +kernel
theorem dL_law_1304 : decode cL_law 1304 = .ok (.if_icmp .eq 199, 3) := by decide +kernel
theorem dL_law_1307 : decode cL_law 1307 = .ok (.iconst 0, 1) := by decide +kernel
theorem dL_law_1308 : decode cL_law 1308 = .ok (.ireturn, 1) := by decide +kernel
theorem dL_law_1309 : decode cL_law 1309 = .ok (.aload_n 1, 1) := by decide +kernel
theorem dL_law_1310 : decode cL_law 1310 = .ok (.aload_n 0, 1) := by decide +kernel
theorem dL_law_1311 : decode cL_law 1311 = .ok (.iload_n 3, 1) := by decide +kernel
theorem dL_law_1312 : decode cL_law 1312 = .ok (.iconst 1, 1) := by decide +kernel
theorem dL_law_1313 : decode cL_law 1313 = .ok (.iadd, 1) := by decide +kernel
theorem dL_law_1314 : decode cL_law 1314 = .ok (.iaload, 1) := by decide +kernel
theorem dL_law_1315 : decode cL_law 1315 = .ok (.aload_n 0, 1) := by decide +kernel
theorem dL_law_1316 : decode cL_law 1316 = .ok (.iload_n 3, 1) := by decide +kernel
theorem dL_law_1317 : decode cL_law 1317 = .ok (.iconst 2, 1) := by decide +kernel
theorem dL_law_1318 : decode cL_law 1318 = .ok (.iadd, 1) := by decide +kernel
theorem dL_law_1319 : decode cL_law 1319 = .ok (.iaload, 1) := by decide +kernel
theorem dL_law_1320 : decode cL_law 1320 = .ok (.aload_n 0, 1) := by decide +kernel
theorem dL_law_1321 : decode cL_law 1321 = .ok (.iload_n 3, 1) := by decide +kernel
theorem dL_law_1322 : decode cL_law 1322 = .ok (.iconst 3, 1) := by decide +kernel
theorem dL_law_1323 : decode cL_law 1323 = .ok (.iadd, 1) := by decide +kernel
theorem dL_law_1324 : decode cL_law 1324 = .ok (.iaload, 1) := by decide +kernel
theorem dL_law_1325 : decode cL_law 1325 = .ok (.aload_n 0, 1) := by decide +kernel
theorem dL_law_1326 : decode cL_law 1326 = .ok (.iload_n 3, 1) := by decide +kernel
theorem dL_law_1327 : decode cL_law 1327 = .ok (.iconst 4, 1) := by decide +kernel
theorem dL_law_1328 : decode cL_law 1328 = .ok (.iadd, 1) := by decide +kernel
theorem dL_law_1329 : decode cL_law 1329 = .ok (.iaload, 1) := by decide +kernel
theorem dL_law_1330 : decode cL_law 1330 = .ok (.aload_n 0, 1) := by decide +kernel
theorem dL_law_1331 : decode cL_law 1331 = .ok (.iload_n 3, 1) := by decide +kernel
theorem dL_law_1332 : decode cL_law 1332 = .ok (.iconst 5, 1) := by decide +kernel
theorem dL_law_1333 : decode cL_law 1333 = .ok (.iadd, 1) := by decide +kernel
theorem dL_law_1334 : decode cL_law 1334 = .ok (.iaload, 1) := by decide +kernel
theorem dL_law_1335 : decode cL_law 1335 = .ok (.invokevirtual 147, 3) := by decide +kernel
theorem dL_law_1338 : decode cL_law 1338 = .ok (.aload_n 2, 1) := by decide +kernel
theorem dL_law_1339 : decode cL_law 1339 = .ok (.aload_n 0, 1) := by decide +kernel
theorem dL_law_1340 : decode cL_law 1340 = .ok (.iload_n 3, 1) := by decide +kernel
theorem dL_law_1341 : decode cL_law 1341 = .ok (.iconst 1, 1) := by decide +kernel
theorem dL_law_1342 : decode cL_law 1342 = .ok (.iadd, 1) := by decide +kernel
theorem dL_law_1343 : decode cL_law 1343 = .ok (.iaload, 1) := by decide +kernel
theorem dL_law_1344 : decode cL_law 1344 = .ok (.aload_n 0, 1) := by decide +kernel
theorem dL_law_1345 : decode cL_law 1345 = .ok (.iload_n 3, 1) := by decide +kernel
theorem dL_law_1346 : decode cL_law 1346 = .ok (.iconst 2, 1) := by decide +kernel
theorem dL_law_1347 : decode cL_law 1347 = .ok (.iadd, 1) := by decide +kernel
theorem dL_law_1348 : decode cL_law 1348 = .ok (.iaload, 1) := by decide +kernel
theorem dL_law_1349 : decode cL_law 1349 = .ok (.aload_n 0, 1) := by decide +kernel
theorem dL_law_1350 : decode cL_law 1350 = .ok (.iload_n 3, 1) := by decide +kernel
theorem dL_law_1351 : decode cL_law 1351 = .ok (.iconst 3, 1) := by decide +kernel
theorem dL_law_1352 : decode cL_law 1352 = .ok (.iadd, 1) := by decide +kernel
theorem dL_law_1353 : decode cL_law 1353 = .ok (.iaload, 1) := by decide +kernel
theorem dL_law_1354 : decode cL_law 1354 = .ok (.aload_n 0, 1) := by decide +kernel
theorem dL_law_1355 : decode cL_law 1355 = .ok (.iload_n 3, 1) := by decide +kernel
theorem dL_law_1356 : decode cL_law 1356 = .ok (.iconst 4, 1) := by decide +kernel
theorem dL_law_1357 : decode cL_law 1357 = .ok (.iadd, 1) := by decide +kernel
theorem dL_law_1358 : decode cL_law 1358 = .ok (.iaload, 1) := by decide +kernel
theorem dL_law_1359 : decode cL_law 1359 = .ok (.aload_n 0, 1) := by decide +kernel
theorem dL_law_1360 : decode cL_law 1360 = .ok (.iload_n 3, 1) := by decide +kernel
theorem dL_law_1361 : decode cL_law 1361 = .ok (.iconst 5, 1) := by decide +kernel
theorem dL_law_1362 : decode cL_law 1362 = .ok (.iadd, 1) := by decide +kernel
theorem dL_law_1363 : decode cL_law 1363 = .ok (.iaload, 1) := by decide +kernel
theorem dL_law_1364 : decode cL_law 1364 = .ok (.invokevirtual 151, 3) := by decide +kernel
theorem dL_law_1367 : decode cL_law 1367 = .ok (.if_icmp .eq 136, 3) := by decide +kernel
theorem dL_law_1370 : decode cL_law 1370 = .ok (.iconst 0, 1) := by decide +kernel
theorem dL_law_1371 : decode cL_law 1371 = .ok (.ireturn, 1) := by decide +kernel
theorem dL_law_1372 : decode cL_law 1372 = .ok (.aload_n 1, 1) := by decide +kernel
theorem dL_law_1373 : decode cL_law 1373 = .ok (.aload_n 0, 1) := by decide +kernel
theorem dL_law_1374 : decode cL_law 1374 = .ok (.iload_n 3, 1) := by decide +kernel
theorem dL_law_1375 : decode cL_law 1375 = .ok (.iconst 1, 1) := by decide +kernel
theorem dL_law_1376 : decode cL_law 1376 = .ok (.iadd, 1) := by decide +kernel
theorem dL_law_1377 : decode cL_law 1377 = .ok (.iaload, 1) := by decide +kernel
theorem dL_law_1378 : decode cL_law 1378 = .ok (.invokevirtual 152, 3) := by decide +kernel
theorem dL_law_1381 : decode cL_law 1381 = .ok (.aload_n 2, 1) := by decide +kernel
theorem dL_law_1382 : decode cL_law 1382 = .ok (.aload_n 0, 1) := by decide +kernel
theorem dL_law_1383 : decode cL_law 1383 = .ok (.iload_n 3, 1) := by decide +kernel
theorem dL_law_1384 : decode cL_law 1384 = .ok (.iconst 1, 1) := by decide +kernel
theorem dL_law_1385 : decode cL_law 1385 = .ok (.iadd, 1) := by decide +kernel
theorem dL_law_1386 : decode cL_law 1386 = .ok (.iaload, 1) := by decide +kernel
theorem dL_law_1387 : decode cL_law 1387 = .ok (.invokevirtual 155, 3) := by decide +kernel
theorem dL_law_1390 : decode cL_law 1390 = .ok (.if_icmp .eq 113, 3) := by decide +kernel
theorem dL_law_1393 : decode cL_law 1393 = .ok (.iconst 0, 1) := by decide +kernel
theorem dL_law_1394 : decode cL_law 1394 = .ok (.ireturn, 1) := by decide +kernel
theorem dL_law_1395 : decode cL_law 1395 = .ok (.aload_n 1, 1) := by decide +kernel
theorem dL_law_1396 : decode cL_law 1396 = .ok (.invokevirtual 156, 3) := by decide +kernel
theorem dL_law_1399 : decode cL_law 1399 = .ok (.aload_n 2, 1) := by decide +kernel
theorem dL_law_1400 : decode cL_law 1400 = .ok (.invokevirtual 159, 3) := by decide +kernel
theorem dL_law_1403 : decode cL_law 1403 = .ok (.if_icmp .eq 100, 3) := by decide +kernel
theorem dL_law_1406 : decode cL_law 1406 = .ok (.iconst 0, 1) := by decide +kernel
theorem dL_law_1407 : decode cL_law 1407 = .ok (.ireturn, 1) := by decide +kernel
theorem dL_law_1408 : decode cL_law 1408 = .ok (.aload_n 1, 1) := by decide +kernel
theorem dL_law_1409 : decode cL_law 1409 = .ok (.invokevirtual 160, 3) := by decide +kernel
theorem dL_law_1412 : decode cL_law 1412 = .ok (.aload_n 2, 1) := by decide +kernel
theorem dL_law_1413 : decode cL_law 1413 = .ok (.invokevirtual 163, 3) := by decide +kernel
theorem dL_law_1416 : decode cL_law 1416 = .ok (.if_icmp .eq 87, 3) := by decide +kernel
theorem dL_law_1419 : decode cL_law 1419 = .ok (.iconst 0, 1) := by decide +kernel
theorem dL_law_1420 : decode cL_law 1420 = .ok (.ireturn, 1) := by decide +kernel
theorem dL_law_1421 : decode cL_law 1421 = .ok (.aload_n 1, 1) := by decide +kernel
theorem dL_law_1422 : decode cL_law 1422 = .ok (.aload_n 0, 1) := by decide +kernel
theorem dL_law_1423 : decode cL_law 1423 = .ok (.iload_n 3, 1) := by decide +kernel
theorem dL_law_1424 : decode cL_law 1424 = .ok (.iconst 1, 1) := by decide +kernel
theorem dL_law_1425 : decode cL_law 1425 = .ok (.iadd, 1) := by decide +kernel
theorem dL_law_1426 : decode cL_law 1426 = .ok (.iaload, 1) := by decide +kernel
theorem dL_law_1427 : decode cL_law 1427 = .ok (.invokevirtual 164, 3) := by decide +kernel
theorem dL_law_1430 : decode cL_law 1430 = .ok (.aload_n 2, 1) := by decide +kernel
theorem dL_law_1431 : decode cL_law 1431 = .ok (.aload_n 0, 1) := by decide +kernel
theorem dL_law_1432 : decode cL_law 1432 = .ok (.iload_n 3, 1) := by decide +kernel
theorem dL_law_1433 : decode cL_law 1433 = .ok (.iconst 1, 1) := by decide +kernel
theorem dL_law_1434 : decode cL_law 1434 = .ok (.iadd, 1) := by decide +kernel
theorem dL_law_1435 : decode cL_law 1435 = .ok (.iaload, 1) := by decide +kernel
theorem dL_law_1436 : decode cL_law 1436 = .ok (.invokevirtual 167, 3) := by decide +kernel
theorem dL_law_1439 : decode cL_law 1439 = .ok (.if_icmp .eq 64, 3) := by decide +kernel
theorem dL_law_1442 : decode cL_law 1442 = .ok (.iconst 0, 1) := by decide +kernel
theorem dL_law_1443 : decode cL_law 1443 = .ok (.ireturn, 1) := by decide +kernel
theorem dL_law_1444 : decode cL_law 1444 = .ok (.aload_n 1, 1) := by decide +kernel
theorem dL_law_1445 : decode cL_law 1445 = .ok (.invokevirtual 168, 3) := by decide +kernel
theorem dL_law_1448 : decode cL_law 1448 = .ok (.aload_n 2, 1) := by decide +kernel
theorem dL_law_1449 : decode cL_law 1449 = .ok (.invokevirtual 171, 3) := by decide +kernel
theorem dL_law_1452 : decode cL_law 1452 = .ok (.if_icmp .eq 51, 3) := by decide +kernel
theorem dL_law_1455 : decode cL_law 1455 = .ok (.iconst 0, 1) := by decide +kernel
theorem dL_law_1456 : decode cL_law 1456 = .ok (.ireturn, 1) := by decide +kernel
theorem dL_law_1457 : decode cL_law 1457 = .ok (.aload_n 1, 1) := by decide +kernel
theorem dL_law_1458 : decode cL_law 1458 = .ok (.aload_n 0, 1) := by decide +kernel
theorem dL_law_1459 : decode cL_law 1459 = .ok (.iload_n 3, 1) := by decide +kernel
theorem dL_law_1460 : decode cL_law 1460 = .ok (.iconst 1, 1) := by decide +kernel
theorem dL_law_1461 : decode cL_law 1461 = .ok (.iadd, 1) := by decide +kernel
theorem dL_law_1462 : decode cL_law 1462 = .ok (.iaload, 1) := by decide +kernel
theorem dL_law_1463 : decode cL_law 1463 = .ok (.invokevirtual 172, 3) := by decide +kernel
theorem dL_law_1466 : decode cL_law 1466 = .ok (.aload_n 2, 1) := by decide +kernel
theorem dL_law_1467 : decode cL_law 1467 = .ok (.aload_n 0, 1) := by decide +kernel
theorem dL_law_1468 : decode cL_law 1468 = .ok (.iload_n 3, 1) := by decide +kernel
theorem dL_law_1469 : decode cL_law 1469 = .ok (.iconst 1, 1) := by decide +kernel
theorem dL_law_1470 : decode cL_law 1470 = .ok (.iadd, 1) := by decide +kernel
theorem dL_law_1471 : decode cL_law 1471 = .ok (.iaload, 1) := by decide +kernel
theorem dL_law_1472 : decode cL_law 1472 = .ok (.invokevirtual 175, 3) := by decide +kernel
theorem dL_law_1475 : decode cL_law 1475 = .ok (.if_icmp .eq 28, 3) := by decide +kernel
theorem dL_law_1478 : decode cL_law 1478 = .ok (.iconst 0, 1) := by decide +kernel
theorem dL_law_1479 : decode cL_law 1479 = .ok (.ireturn, 1) := by decide +kernel
theorem dL_law_1480 : decode cL_law 1480 = .ok (.aload_n 1, 1) := by decide +kernel
theorem dL_law_1481 : decode cL_law 1481 = .ok (.aload_n 0, 1) := by decide +kernel
theorem dL_law_1482 : decode cL_law 1482 = .ok (.iload_n 3, 1) := by decide +kernel
theorem dL_law_1483 : decode cL_law 1483 = .ok (.iconst 1, 1) := by decide +kernel
theorem dL_law_1484 : decode cL_law 1484 = .ok (.iadd, 1) := by decide +kernel
theorem dL_law_1485 : decode cL_law 1485 = .ok (.iaload, 1) := by decide +kernel
theorem dL_law_1486 : decode cL_law 1486 = .ok (.invokevirtual 176, 3) := by decide +kernel
theorem dL_law_1489 : decode cL_law 1489 = .ok (.aload_n 2, 1) := by decide +kernel
theorem dL_law_1490 : decode cL_law 1490 = .ok (.aload_n 0, 1) := by decide +kernel
theorem dL_law_1491 : decode cL_law 1491 = .ok (.iload_n 3, 1) := by decide +kernel
theorem dL_law_1492 : decode cL_law 1492 = .ok (.iconst 1, 1) := by decide +kernel
theorem dL_law_1493 : decode cL_law 1493 = .ok (.iadd, 1) := by decide +kernel
theorem dL_law_1494 : decode cL_law 1494 = .ok (.iaload, 1) := by decide +kernel
theorem dL_law_1495 : decode cL_law 1495 = .ok (.invokevirtual 179, 3) := by decide +kernel
theorem dL_law_1498 : decode cL_law 1498 = .ok (.if_icmp .eq 5, 3) := by decide +kernel
theorem dL_law_1501 : decode cL_law 1501 = .ok (.iconst 0, 1) := by decide +kernel
theorem dL_law_1502 : decode cL_law 1502 = .ok (.ireturn, 1) := by decide +kernel
theorem dL_law_1503 : decode cL_law 1503 = .ok (.iinc 3 6, 3) := by decide +kernel
theorem dL_law_1506 : decode cL_law 1506 = .ok (.goto (-1488), 3) := by decide +kernel
theorem dL_law_1509 : decode cL_law 1509 = .ok (.iconst 1, 1) := by decide +kernel
theorem dL_law_1510 : decode cL_law 1510 = .ok (.ireturn, 1) := by decide +kernel
