theorem dX10_mergeStands_148 : decode cX10_mergeStands 148 = .ok (.aload_n 0, 1) := by decide +kernel
theorem dX10_mergeStands_149 : decode cX10_mergeStands 149 = .ok (.getfield 125, 3) := by decide +kernel
theorem dX10_mergeStands_152 : decode cX10_mergeStands 152 = .ok (.iconst 2, 1) := by decide +kernel
theorem dX10_mergeStands_153 : decode cX10_mergeStands 153 = .ok (.aload_n 0, 1) := by decide +kernel
theorem dX10_mergeStands_154 : decode cX10_mergeStands 154 = .ok (.getfield 152, 3) := by decide +kernel
theorem dX10_mergeStands_157 : decode cX10_mergeStands 157 = .ok (.imul, 1) := by decide +kernel
theorem dX10_mergeStands_158 : decode cX10_mergeStands 158 = .ok (.iadd, 1) := by decide +kernel
theorem dX10_mergeStands_159 : decode cX10_mergeStands 159 = .ok (.aload_n 0, 1) := by decide +kernel
theorem dX10_mergeStands_160 : decode cX10_mergeStands 160 = .ok (.getfield 122, 3) := by decide +kernel
theorem dX10_mergeStands_163 : decode cX10_mergeStands 163 = .ok (.if_icmp .ge 21, 3) := by decide +kernel
theorem dX10_mergeStands_166 : decode cX10_mergeStands 166 = .ok (.aload_n 0, 1) := by decide +kernel
theorem dX10_mergeStands_167 : decode cX10_mergeStands 167 = .ok (.aload_n 0, 1) := by decide +kernel
theorem dX10_mergeStands_168 : decode cX10_mergeStands 168 = .ok (.getfield 125, 3) := by decide +kernel
theorem dX10_mergeStands_171 : decode cX10_mergeStands 171 = .ok (.iconst 2, 1) := by decide +kernel
theorem dX10_mergeStands_172 : decode cX10_mergeStands 172 = .ok (.aload_n 0, 1) := by decide +kernel
theorem dX10_mergeStands_173 : decode cX10_mergeStands 173 = .ok (.getfield 152, 3) := by decide +kernel
theorem dX10_mergeStands_176 : decode cX10_mergeStands 176 = .ok (.imul, 1) := by decide +kernel
theorem dX10_mergeStands_177 : decode cX10_mergeStands 177 = .ok (.iadd, 1) := by decide +kernel
theorem dX10_mergeStands_178 : decode cX10_mergeStands 178 = .ok (.invokevirtual 200, 3) := by decide +kernel
theorem dX10_mergeStands_181 : decode cX10_mergeStands 181 = .ok (.goto (-181), 3) := by decide +kernel
theorem dX10_mergeStands_184 : decode cX10_mergeStands 184 = .ok (.aload_n 0, 1) := by decide +kernel
theorem dX10_mergeStands_185 : decode cX10_mergeStands 185 = .ok (.iconst 1, 1) := by decide +kernel
theorem dX10_mergeStands_186 : decode cX10_mergeStands 186 = .ok (.aload_n 0, 1) := by decide +kernel
theorem dX10_mergeStands_187 : decode cX10_mergeStands 187 = .ok (.getfield 143, 3) := by decide +kernel
theorem dX10_mergeStands_190 : decode cX10_mergeStands 190 = .ok (.isub, 1) := by decide +kernel
theorem dX10_mergeStands_191 : decode cX10_mergeStands 191 = .ok (.putfield 143, 3) := by decide +kernel
theorem dX10_mergeStands_194 : decode cX10_mergeStands 194 = .ok (.aload_n 0, 1) := by decide +kernel
theorem dX10_mergeStands_195 : decode cX10_mergeStands 195 = .ok (.dup, 1) := by decide +kernel
theorem dX10_mergeStands_196 : decode cX10_mergeStands 196 = .ok (.getfield 152, 3) := by decide +kernel
theorem dX10_mergeStands_199 : decode cX10_mergeStands 199 = .ok (.iconst 2, 1) := by decide +kernel
theorem dX10_mergeStands_200 : decode cX10_mergeStands 200 = .ok (.imul, 1) := by decide +kernel
theorem dX10_mergeStands_201 : decode cX10_mergeStands 201 = .ok (.putfield 152, 3) := by decide +kernel
theorem dX10_mergeStands_204 : decode cX10_mergeStands 204 = .ok (.aload_n 0, 1) := by decide +kernel
theorem dX10_mergeStands_205 : decode cX10_mergeStands 205 = .ok (.getfield 152, 3) := by decide +kernel
theorem dX10_mergeStands_208 : decode cX10_mergeStands 208 = .ok (.aload_n 0, 1) := by decide +kernel
theorem dX10_mergeStands_209 : decode cX10_mergeStands 209 = .ok (.getfield 122, 3) := by decide +kernel
theorem dX10_mergeStands_212 : decode cX10_mergeStands 212 = .ok (.if_icmp .lt 6, 3) := by decide +kernel
theorem dX10_mergeStands_215 : decode cX10_mergeStands 215 = .ok (.goto 11, 3) := by decide +kernel
theorem dX10_mergeStands_218 : decode cX10_mergeStands 218 = .ok (.aload_n 0, 1) := by decide +kernel
theorem dX10_mergeStands_219 : decode cX10_mergeStands 219 = .ok (.iconst 0, 1) := by decide +kernel
theorem dX10_mergeStands_220 : decode cX10_mergeStands 220 = .ok (.invokevirtual 200, 3) := by decide +kernel
theorem dX10_mergeStands_223 : decode cX10_mergeStands 223 = .ok (.goto (-223), 3) := by decide +kernel
theorem dX10_mergeStands_226 : decode cX10_mergeStands 226 = .ok (.iconst 0, 1) := by decide +kernel
theorem dX10_mergeStands_227 : decode cX10_mergeStands 227 = .ok (.istore_n 1, 1) := by decide +kernel
theorem dX10_mergeStands_228 : decode cX10_mergeStands 228 = .ok (.iload_n 1, 1) := by decide +kernel
theorem dX10_mergeStands_229 : decode cX10_mergeStands 229 = .ok (.aload_n 0, 1) := by decide +kernel
theorem dX10_mergeStands_230 : decode cX10_mergeStands 230 = .ok (.getfield 122, 3) := by decide +kernel
theorem dX10_mergeStands_233 : decode cX10_mergeStands 233 = .ok (.if_icmp .ge 49, 3) := by decide +kernel
theorem dX10_mergeStands_236 : decode cX10_mergeStands 236 = .ok (.aload_n 0, 1) := by decide +kernel
theorem dX10_mergeStands_237 : decode cX10_mergeStands 237 = .ok (.getfield 143, 3) := by decide +kernel
theorem dX10_mergeStands_240 : decode cX10_mergeStands 240 = .ok (.iconst 1, 1) := by decide +kernel
theorem dX10_mergeStands_241 : decode cX10_mergeStands 241 = .ok (.if_icmp .ne 41, 3) := by decide +kernel
theorem dX10_mergeStands_244 : decode cX10_mergeStands 244 = .ok (.aload_n 0, 1) := by decide +kernel
theorem dX10_mergeStands_245 : decode cX10_mergeStands 245 = .ok (.getfield 69, 3) := by decide +kernel
theorem dX10_mergeStands_248 : decode cX10_mergeStands 248 = .ok (.aload_n 0, 1) := by decide +kernel
theorem dX10_mergeStands_249 : decode cX10_mergeStands 249 = .ok (.getfield 25, 3) := by decide +kernel
theorem dX10_mergeStands_252 : decode cX10_mergeStands 252 = .ok (.aload_n 0, 1) := by decide +kernel
theorem dX10_mergeStands_253 : decode cX10_mergeStands 253 = .ok (.getfield 119, 3) := by decide +kernel
theorem dX10_mergeStands_256 : decode cX10_mergeStands 256 = .ok (.iaload, 1) := by decide +kernel
theorem dX10_mergeStands_257 : decode cX10_mergeStands 257 = .ok (.iload_n 1, 1) := by decide +kernel
theorem dX10_mergeStands_258 : decode cX10_mergeStands 258 = .ok (.iadd, 1) := by decide +kernel
theorem dX10_mergeStands_259 : decode cX10_mergeStands 259 = .ok (.aload_n 0, 1) := by decide +kernel
theorem dX10_mergeStands_260 : decode cX10_mergeStands 260 = .ok (.getfield 69, 3) := by decide +kernel
theorem dX10_mergeStands_263 : decode cX10_mergeStands 263 = .ok (.aload_n 0, 1) := by decide +kernel
theorem dX10_mergeStands_264 : decode cX10_mergeStands 264 = .ok (.getfield 28, 3) := by decide +kernel
theorem dX10_mergeStands_267 : decode cX10_mergeStands 267 = .ok (.aload_n 0, 1) := by decide +kernel
theorem dX10_mergeStands_268 : decode cX10_mergeStands 268 = .ok (.getfield 119, 3) := by decide +kernel
theorem dX10_mergeStands_271 : decode cX10_mergeStands 271 = .ok (.iaload, 1) := by decide +kernel
theorem dX10_mergeStands_272 : decode cX10_mergeStands 272 = .ok (.iload_n 1, 1) := by decide +kernel
theorem dX10_mergeStands_273 : decode cX10_mergeStands 273 = .ok (.iadd, 1) := by decide +kernel
theorem dX10_mergeStands_274 : decode cX10_mergeStands 274 = .ok (.iaload, 1) := by decide +kernel
theorem dX10_mergeStands_275 : decode cX10_mergeStands 275 = .ok (.iastore, 1) := by decide +kernel
theorem dX10_mergeStands_276 : decode cX10_mergeStands 276 = .ok (.iinc 1 1, 3) := by decide +kernel
theorem dX10_mergeStands_279 : decode cX10_mergeStands 279 = .ok (.goto (-51), 3) := by decide +kernel
theorem dX10_mergeStands_282 : decode cX10_mergeStands 282 = .ok (.iconst 0, 1) := by decide +kernel
theorem dX10_mergeStands_283 : decode cX10_mergeStands 283 = .ok (.ireturn, 1) := by decide +kernel
theorem dX10_mergeGoes_0 : decode cX10_mergeGoes 0 = .ok (.aload_n 0, 1) := by decide +kernel
theorem dX10_mergeGoes_1 : decode cX10_mergeGoes 1 = .ok (.getfield 69, 3) := by decide +kernel
theorem dX10_mergeGoes_4 : decode cX10_mergeGoes 4 = .ok (.aload_n 0, 1) := by decide +kernel
theorem dX10_mergeGoes_5 : decode cX10_mergeGoes 5 = .ok (.invokevirtual 209, 3) := by decide +kernel
theorem dX10_mergeGoes_8 : decode cX10_mergeGoes 8 = .ok (.aload_n 0, 1) := by decide +kernel
theorem dX10_mergeGoes_9 : decode cX10_mergeGoes 9 = .ok (.getfield 128, 3) := by decide +kernel
theorem dX10_mergeGoes_12 : decode cX10_mergeGoes 12 = .ok (.iadd, 1) := by decide +kernel
theorem dX10_mergeGoes_13 : decode cX10_mergeGoes 13 = .ok (.iaload, 1) := by decide +kernel
theorem dX10_mergeGoes_14 : decode cX10_mergeGoes 14 = .ok (.aload_n 0, 1) := by decide +kernel
theorem dX10_mergeGoes_15 : decode cX10_mergeGoes 15 = .ok (.getfield 69, 3) := by decide +kernel
theorem dX10_mergeGoes_18 : decode cX10_mergeGoes 18 = .ok (.aload_n 0, 1) := by decide +kernel
theorem dX10_mergeGoes_19 : decode cX10_mergeGoes 19 = .ok (.invokevirtual 209, 3) := by decide +kernel
theorem dX10_mergeGoes_22 : decode cX10_mergeGoes 22 = .ok (.aload_n 0, 1) := by decide +kernel
theorem dX10_mergeGoes_23 : decode cX10_mergeGoes 23 = .ok (.getfield 131, 3) := by decide +kernel
theorem dX10_mergeGoes_26 : decode cX10_mergeGoes 26 = .ok (.iadd, 1) := by decide +kernel
theorem dX10_mergeGoes_27 : decode cX10_mergeGoes 27 = .ok (.iaload, 1) := by decide +kernel
theorem dX10_mergeGoes_28 : decode cX10_mergeGoes 28 = .ok (.if_icmp .gt 44, 3) := by decide +kernel
theorem dX10_mergeGoes_31 : decode cX10_mergeGoes 31 = .ok (.aload_n 0, 1) := by decide +kernel
theorem dX10_mergeGoes_32 : decode cX10_mergeGoes 32 = .ok (.getfield 69, 3) := by decide +kernel
theorem dX10_mergeGoes_35 : decode cX10_mergeGoes 35 = .ok (.aload_n 0, 1) := by decide +kernel
theorem dX10_mergeGoes_36 : decode cX10_mergeGoes 36 = .ok (.invokevirtual 206, 3) := by decide +kernel
theorem dX10_mergeGoes_39 : decode cX10_mergeGoes 39 = .ok (.aload_n 0, 1) := by decide +kernel
theorem dX10_mergeGoes_40 : decode cX10_mergeGoes 40 = .ok (.getfield 140, 3) := by decide +kernel
theorem dX10_mergeGoes_43 : decode cX10_mergeGoes 43 = .ok (.iadd, 1) := by decide +kernel
theorem dX10_mergeGoes_44 : decode cX10_mergeGoes 44 = .ok (.aload_n 0, 1) := by decide +kernel
theorem dX10_mergeGoes_45 : decode cX10_mergeGoes 45 = .ok (.getfield 69, 3) := by decide +kernel
theorem dX10_mergeGoes_48 : decode cX10_mergeGoes 48 = .ok (.aload_n 0, 1) := by decide +kernel
theorem dX10_mergeGoes_49 : decode cX10_mergeGoes 49 = .ok (.invokevirtual 209, 3) := by decide +kernel
theorem dX10_mergeGoes_52 : decode cX10_mergeGoes 52 = .ok (.aload_n 0, 1) := by decide +kernel
theorem dX10_mergeGoes_53 : decode cX10_mergeGoes 53 = .ok (.getfield 128, 3) := by decide +kernel
theorem dX10_mergeGoes_56 : decode cX10_mergeGoes 56 = .ok (.iadd, 1) := by decide +kernel
theorem dX10_mergeGoes_57 : decode cX10_mergeGoes 57 = .ok (.iaload, 1) := by decide +kernel
theorem dX10_mergeGoes_58 : decode cX10_mergeGoes 58 = .ok (.iastore, 1) := by decide +kernel
theorem dX10_mergeGoes_59 : decode cX10_mergeGoes 59 = .ok (.aload_n 0, 1) := by decide +kernel
theorem dX10_mergeGoes_60 : decode cX10_mergeGoes 60 = .ok (.dup, 1) := by decide +kernel
theorem dX10_mergeGoes_61 : decode cX10_mergeGoes 61 = .ok (.getfield 128, 3) := by decide +kernel
theorem dX10_mergeGoes_64 : decode cX10_mergeGoes 64 = .ok (.iconst 1, 1) := by decide +kernel
theorem dX10_mergeGoes_65 : decode cX10_mergeGoes 65 = .ok (.iadd, 1) := by decide +kernel
theorem dX10_mergeGoes_66 : decode cX10_mergeGoes 66 = .ok (.putfield 128, 3) := by decide +kernel
theorem dX10_mergeGoes_69 : decode cX10_mergeGoes 69 = .ok (.goto 41, 3) := by decide +kernel
theorem dX10_mergeGoes_72 : decode cX10_mergeGoes 72 = .ok (.aload_n 0, 1) := by decide +kernel
theorem dX10_mergeGoes_73 : decode cX10_mergeGoes 73 = .ok (.getfield 69, 3) := by decide +kernel
theorem dX10_mergeGoes_76 : decode cX10_mergeGoes 76 = .ok (.aload_n 0, 1) := by decide +kernel
theorem dX10_mergeGoes_77 : decode cX10_mergeGoes 77 = .ok (.invokevirtual 206, 3) := by decide +kernel
theorem dX10_mergeGoes_80 : decode cX10_mergeGoes 80 = .ok (.aload_n 0, 1) := by decide +kernel
theorem dX10_mergeGoes_81 : decode cX10_mergeGoes 81 = .ok (.getfield 140, 3) := by decide +kernel
theorem dX10_mergeGoes_84 : decode cX10_mergeGoes 84 = .ok (.iadd, 1) := by decide +kernel
theorem dX10_mergeGoes_85 : decode cX10_mergeGoes 85 = .ok (.aload_n 0, 1) := by decide +kernel
theorem dX10_mergeGoes_86 : decode cX10_mergeGoes 86 = .ok (.getfield 69, 3) := by decide +kernel
theorem dX10_mergeGoes_89 : decode cX10_mergeGoes 89 = .ok (.aload_n 0, 1) := by decide +kernel
theorem dX10_mergeGoes_90 : decode cX10_mergeGoes 90 = .ok (.invokevirtual 209, 3) := by decide +kernel
theorem dX10_mergeGoes_93 : decode cX10_mergeGoes 93 = .ok (.aload_n 0, 1) := by decide +kernel
theorem dX10_mergeGoes_94 : decode cX10_mergeGoes 94 = .ok (.getfield 131, 3) := by decide +kernel
theorem dX10_mergeGoes_97 : decode cX10_mergeGoes 97 = .ok (.iadd, 1) := by decide +kernel
theorem dX10_mergeGoes_98 : decode cX10_mergeGoes 98 = .ok (.iaload, 1) := by decide +kernel
theorem dX10_mergeGoes_99 : decode cX10_mergeGoes 99 = .ok (.iastore, 1) := by decide +kernel
theorem dX10_mergeGoes_100 : decode cX10_mergeGoes 100 = .ok (.aload_n 0, 1) := by decide +kernel
theorem dX10_mergeGoes_101 : decode cX10_mergeGoes 101 = .ok (.dup, 1) := by decide +kernel
theorem dX10_mergeGoes_102 : decode cX10_mergeGoes 102 = .ok (.getfield 131, 3) := by decide +kernel
theorem dX10_mergeGoes_105 : decode cX10_mergeGoes 105 = .ok (.iconst 1, 1) := by decide +kernel
theorem dX10_mergeGoes_106 : decode cX10_mergeGoes 106 = .ok (.iadd, 1) := by decide +kernel
theorem dX10_mergeGoes_107 : decode cX10_mergeGoes 107 = .ok (.putfield 131, 3) := by decide +kernel
theorem dX10_mergeGoes_110 : decode cX10_mergeGoes 110 = .ok (.aload_n 0, 1) := by decide +kernel
theorem dX10_mergeGoes_111 : decode cX10_mergeGoes 111 = .ok (.dup, 1) := by decide +kernel
theorem dX10_mergeGoes_112 : decode cX10_mergeGoes 112 = .ok (.getfield 140, 3) := by decide +kernel
theorem dX10_mergeGoes_115 : decode cX10_mergeGoes 115 = .ok (.iconst 1, 1) := by decide +kernel
theorem dX10_mergeGoes_116 : decode cX10_mergeGoes 116 = .ok (.iadd, 1) := by decide +kernel
theorem dX10_mergeGoes_117 : decode cX10_mergeGoes 117 = .ok (.putfield 140, 3) := by decide +kernel
theorem dX10_mergeGoes_120 : decode cX10_mergeGoes 120 = .ok (.aload_n 0, 1) := by decide +kernel
theorem dX10_mergeGoes_121 : decode cX10_mergeGoes 121 = .ok (.invokevirtual 203, 3) := by decide +kernel
theorem dX10_mergeGoes_124 : decode cX10_mergeGoes 124 = .ok (.ireturn, 1) := by decide +kernel
theorem dX10_range_0 : decode cX10_range 0 = .ok (.aload_n 0, 1) := by decide +kernel
theorem dX10_range_1 : decode cX10_range 1 = .ok (.iload_n 1, 1) := by decide +kernel
theorem dX10_range_2 : decode cX10_range 2 = .ok (.putfield 125, 3) := by decide +kernel
theorem dX10_range_5 : decode cX10_range 5 = .ok (.aload_n 0, 1) := by decide +kernel
theorem dX10_range_6 : decode cX10_range 6 = .ok (.iload_n 2, 1) := by decide +kernel
theorem dX10_range_7 : decode cX10_range 7 = .ok (.putfield 128, 3) := by decide +kernel
theorem dX10_range_10 : decode cX10_range 10 = .ok (.aload_n 0, 1) := by decide +kernel
theorem dX10_range_11 : decode cX10_range 11 = .ok (.iload_n 1, 1) := by decide +kernel
theorem dX10_range_12 : decode cX10_range 12 = .ok (.putfield 131, 3) := by decide +kernel
theorem dX10_range_15 : decode cX10_range 15 = .ok (.aload_n 0, 1) := by decide +kernel
theorem dX10_range_16 : decode cX10_range 16 = .ok (.iload_n 1, 1) := by decide +kernel
theorem dX10_range_17 : decode cX10_range 17 = .ok (.putfield 134, 3) := by decide +kernel
theorem dX10_range_20 : decode cX10_range 20 = .ok (.aload_n 0, 1) := by decide +kernel
theorem dX10_range_21 : decode cX10_range 21 = .ok (.iload_n 1, 1) := by decide +kernel
theorem dX10_range_22 : decode cX10_range 22 = .ok (.iload_n 2, 1) := by decide +kernel
theorem dX10_range_23 : decode cX10_range 23 = .ok (.iadd, 1) := by decide +kernel
theorem dX10_range_24 : decode cX10_range 24 = .ok (.iconst 2, 1) := by decide +kernel
theorem dX10_range_25 : decode cX10_range 25 = .ok (.idiv, 1) := by decide +kernel
theorem dX10_range_26 : decode cX10_range 26 = .ok (.iload_n 2, 1) := by decide +kernel
theorem dX10_range_27 : decode cX10_range 27 = .ok (.invokevirtual 190, 3) := by decide +kernel
theorem dX10_range_30 : decode cX10_range 30 = .ok (.iconst 1, 1) := by decide +kernel
theorem dX10_range_31 : decode cX10_range 31 = .ok (.ireturn, 1) := by decide +kernel
theorem dX10_rangeGoes_0 : decode cX10_rangeGoes 0 = .ok (.aload_n 0, 1) := by decide +kernel
theorem dX10_rangeGoes_1 : decode cX10_rangeGoes 1 = .ok (.aload_n 0, 1) := by decide +kernel
theorem dX10_rangeGoes_2 : decode cX10_rangeGoes 2 = .ok (.getfield 134, 3) := by decide +kernel
theorem dX10_rangeGoes_5 : decode cX10_rangeGoes 5 = .ok (.invokevirtual 187, 3) := by decide +kernel
theorem dX10_rangeGoes_8 : decode cX10_rangeGoes 8 = .ok (.aload_n 0, 1) := by decide +kernel
theorem dX10_rangeGoes_9 : decode cX10_rangeGoes 9 = .ok (.aload_n 0, 1) := by decide +kernel
theorem dX10_rangeGoes_10 : decode cX10_rangeGoes 10 = .ok (.getfield 128, 3) := by decide +kernel
theorem dX10_rangeGoes_13 : decode cX10_rangeGoes 13 = .ok (.invokevirtual 187, 3) := by decide +kernel
theorem dX10_rangeGoes_16 : decode cX10_rangeGoes 16 = .ok (.if_icmp .ge 25, 3) := by decide +kernel
theorem dX10_rangeGoes_19 : decode cX10_rangeGoes 19 = .ok (.aload_n 0, 1) := by decide +kernel
theorem dX10_rangeGoes_20 : decode cX10_rangeGoes 20 = .ok (.aload_n 0, 1) := by decide +kernel
theorem dX10_rangeGoes_21 : decode cX10_rangeGoes 21 = .ok (.getfield 134, 3) := by decide +kernel
theorem dX10_rangeGoes_24 : decode cX10_rangeGoes 24 = .ok (.aload_n 0, 1) := by decide +kernel
theorem dX10_rangeGoes_25 : decode cX10_rangeGoes 25 = .ok (.getfield 131, 3) := by decide +kernel
theorem dX10_rangeGoes_28 : decode cX10_rangeGoes 28 = .ok (.invokevirtual 190, 3) := by decide +kernel
theorem dX10_rangeGoes_31 : decode cX10_rangeGoes 31 = .ok (.aload_n 0, 1) := by decide +kernel
theorem dX10_rangeGoes_32 : decode cX10_rangeGoes 32 = .ok (.dup, 1) := by decide +kernel
theorem dX10_rangeGoes_33 : decode cX10_rangeGoes 33 = .ok (.getfield 131, 3) := by decide +kernel
theorem dX10_rangeGoes_36 : decode cX10_rangeGoes 36 = .ok (.iconst 1, 1) := by decide +kernel
theorem dX10_rangeGoes_37 : decode cX10_rangeGoes 37 = .ok (.iadd, 1) := by decide +kernel
theorem dX10_rangeGoes_38 : decode cX10_rangeGoes 38 = .ok (.putfield 131, 3) := by decide +kernel
theorem dX10_rangeGoes_41 : decode cX10_rangeGoes 41 = .ok (.aload_n 0, 1) := by decide +kernel
theorem dX10_rangeGoes_42 : decode cX10_rangeGoes 42 = .ok (.dup, 1) := by decide +kernel
theorem dX10_rangeGoes_43 : decode cX10_rangeGoes 43 = .ok (.getfield 134, 3) := by decide +kernel
theorem dX10_rangeGoes_46 : decode cX10_rangeGoes 46 = .ok (.iconst 1, 1) := by decide +kernel
theorem dX10_rangeGoes_47 : decode cX10_rangeGoes 47 = .ok (.iadd, 1) := by decide +kernel
theorem dX10_rangeGoes_48 : decode cX10_rangeGoes 48 = .ok (.putfield 134, 3) := by decide +kernel
theorem dX10_rangeGoes_51 : decode cX10_rangeGoes 51 = .ok (.aload_n 0, 1) := by decide +kernel
theorem dX10_rangeGoes_52 : decode cX10_rangeGoes 52 = .ok (.getfield 134, 3) := by decide +kernel
theorem dX10_rangeGoes_55 : decode cX10_rangeGoes 55 = .ok (.aload_n 0, 1) := by decide +kernel
theorem dX10_rangeGoes_56 : decode cX10_rangeGoes 56 = .ok (.getfield 128, 3) := by decide +kernel
theorem dX10_rangeGoes_59 : decode cX10_rangeGoes 59 = .ok (.if_icmp .ge 5, 3) := by decide +kernel
theorem dX10_rangeGoes_62 : decode cX10_rangeGoes 62 = .ok (.iconst 1, 1) := by decide +kernel
theorem dX10_rangeGoes_63 : decode cX10_rangeGoes 63 = .ok (.ireturn, 1) := by decide +kernel
theorem dX10_rangeGoes_64 : decode cX10_rangeGoes 64 = .ok (.aload_n 0, 1) := by decide +kernel
theorem dX10_rangeGoes_65 : decode cX10_rangeGoes 65 = .ok (.aload_n 0, 1) := by decide +kernel
theorem dX10_rangeGoes_66 : decode cX10_rangeGoes 66 = .ok (.getfield 131, 3) := by decide +kernel
theorem dX10_rangeGoes_69 : decode cX10_rangeGoes 69 = .ok (.aload_n 0, 1) := by decide +kernel
theorem dX10_rangeGoes_70 : decode cX10_rangeGoes 70 = .ok (.getfield 128, 3) := by decide +kernel
theorem dX10_rangeGoes_73 : decode cX10_rangeGoes 73 = .ok (.invokevirtual 190, 3) := by decide +kernel
theorem dX10_rangeGoes_76 : decode cX10_rangeGoes 76 = .ok (.aload_n 0, 1) := by decide +kernel
theorem dX10_rangeGoes_77 : decode cX10_rangeGoes 77 = .ok (.getfield 131, 3) := by decide +kernel
theorem dX10_rangeGoes_80 : decode cX10_rangeGoes 80 = .ok (.aload_n 0, 1) := by decide +kernel
theorem dX10_rangeGoes_81 : decode cX10_rangeGoes 81 = .ok (.getfield 125, 3) := by decide +kernel
theorem dX10_rangeGoes_84 : decode cX10_rangeGoes 84 = .ok (.isub, 1) := by decide +kernel
theorem dX10_rangeGoes_85 : decode cX10_rangeGoes 85 = .ok (.aload_n 0, 1) := by decide +kernel
theorem dX10_rangeGoes_86 : decode cX10_rangeGoes 86 = .ok (.getfield 128, 3) := by decide +kernel
theorem dX10_rangeGoes_89 : decode cX10_rangeGoes 89 = .ok (.aload_n 0, 1) := by decide +kernel
theorem dX10_rangeGoes_90 : decode cX10_rangeGoes 90 = .ok (.getfield 131, 3) := by decide +kernel
theorem dX10_rangeGoes_93 : decode cX10_rangeGoes 93 = .ok (.isub, 1) := by decide +kernel
theorem dX10_rangeGoes_94 : decode cX10_rangeGoes 94 = .ok (.if_icmp .le 7, 3) := by decide +kernel
theorem dX10_rangeGoes_97 : decode cX10_rangeGoes 97 = .ok (.iconst 1, 1) := by decide +kernel
theorem dX10_rangeGoes_98 : decode cX10_rangeGoes 98 = .ok (.goto 4, 3) := by decide +kernel
theorem dX10_rangeGoes_101 : decode cX10_rangeGoes 101 = .ok (.iconst 0, 1) := by decide +kernel
theorem dX10_rangeGoes_102 : decode cX10_rangeGoes 102 = .ok (.istore_n 1, 1) := by decide +kernel
theorem dX10_rangeGoes_103 : decode cX10_rangeGoes 103 = .ok (.iload_n 1, 1) := by decide +kernel
theorem dX10_rangeGoes_104 : decode cX10_rangeGoes 104 = .ok (.ifCond .eq 10, 3) := by decide +kernel
theorem dX10_rangeGoes_107 : decode cX10_rangeGoes 107 = .ok (.aload_n 0, 1) := by decide +kernel
theorem dX10_rangeGoes_108 : decode cX10_rangeGoes 108 = .ok (.getfield 125, 3) := by decide +kernel
theorem dX10_rangeGoes_111 : decode cX10_rangeGoes 111 = .ok (.goto 9, 3) := by decide +kernel
theorem dX10_rangeGoes_114 : decode cX10_rangeGoes 114 = .ok (.aload_n 0, 1) := by decide +kernel
theorem dX10_rangeGoes_115 : decode cX10_rangeGoes 115 = .ok (.getfield 131, 3) := by decide +kernel
theorem dX10_rangeGoes_118 : decode cX10_rangeGoes 118 = .ok (.iconst 1, 1) := by decide +kernel
theorem dX10_rangeGoes_119 : decode cX10_rangeGoes 119 = .ok (.iadd, 1) := by decide +kernel
theorem dX10_rangeGoes_120 : decode cX10_rangeGoes 120 = .ok (.istore_n 2, 1) := by decide +kernel
theorem dX10_rangeGoes_121 : decode cX10_rangeGoes 121 = .ok (.iload_n 1, 1) := by decide +kernel
theorem dX10_rangeGoes_122 : decode cX10_rangeGoes 122 = .ok (.ifCond .eq 12, 3) := by decide +kernel
theorem dX10_rangeGoes_125 : decode cX10_rangeGoes 125 = .ok (.aload_n 0, 1) := by decide +kernel
theorem dX10_rangeGoes_126 : decode cX10_rangeGoes 126 = .ok (.getfield 131, 3) := by decide +kernel
theorem dX10_rangeGoes_129 : decode cX10_rangeGoes 129 = .ok (.iconst 1, 1) := by decide +kernel
theorem dX10_rangeGoes_130 : decode cX10_rangeGoes 130 = .ok (.isub, 1) := by decide +kernel
theorem dX10_rangeGoes_131 : decode cX10_rangeGoes 131 = .ok (.goto 7, 3) := by decide +kernel
theorem dX10_rangeGoes_134 : decode cX10_rangeGoes 134 = .ok (.aload_n 0, 1) := by decide +kernel
theorem dX10_rangeGoes_135 : decode cX10_rangeGoes 135 = .ok (.getfield 128, 3) := by decide +kernel
theorem dX10_rangeGoes_138 : decode cX10_rangeGoes 138 = .ok (.istore_n 3, 1) := by decide +kernel
theorem dX10_rangeGoes_139 : decode cX10_rangeGoes 139 = .ok (.iload_n 3, 1) := by decide +kernel
theorem dX10_rangeGoes_140 : decode cX10_rangeGoes 140 = .ok (.iload_n 2, 1) := by decide +kernel
theorem dX10_rangeGoes_141 : decode cX10_rangeGoes 141 = .ok (.if_icmp .le 59, 3) := by decide +kernel
theorem dX10_rangeGoes_144 : decode cX10_rangeGoes 144 = .ok (.aload_n 0, 1) := by decide +kernel
theorem dX10_rangeGoes_145 : decode cX10_rangeGoes 145 = .ok (.getfield 69, 3) := by decide +kernel
theorem dX10_rangeGoes_148 : decode cX10_rangeGoes 148 = .ok (.aload_n 0, 1) := by decide +kernel
theorem dX10_rangeGoes_149 : decode cX10_rangeGoes 149 = .ok (.getfield 28, 3) := by decide +kernel
theorem dX10_rangeGoes_152 : decode cX10_rangeGoes 152 = .ok (.aload_n 0, 1) := by decide +kernel
theorem dX10_rangeGoes_153 : decode cX10_rangeGoes 153 = .ok (.getfield 119, 3) := by decide +kernel
theorem dX10_rangeGoes_156 : decode cX10_rangeGoes 156 = .ok (.iaload, 1) := by decide +kernel
theorem dX10_rangeGoes_157 : decode cX10_rangeGoes 157 = .ok (.iconst 2, 1) := by decide +kernel
theorem dX10_rangeGoes_158 : decode cX10_rangeGoes 158 = .ok (.aload_n 0, 1) := by decide +kernel
theorem dX10_rangeGoes_159 : decode cX10_rangeGoes 159 = .ok (.getfield 149, 3) := by decide +kernel
theorem dX10_rangeGoes_162 : decode cX10_rangeGoes 162 = .ok (.imul, 1) := by decide +kernel
theorem dX10_rangeGoes_163 : decode cX10_rangeGoes 163 = .ok (.iadd, 1) := by decide +kernel
theorem dX10_rangeGoes_164 : decode cX10_rangeGoes 164 = .ok (.iload_n 2, 1) := by decide +kernel
theorem dX10_rangeGoes_165 : decode cX10_rangeGoes 165 = .ok (.iastore, 1) := by decide +kernel
theorem dX10_rangeGoes_166 : decode cX10_rangeGoes 166 = .ok (.aload_n 0, 1) := by decide +kernel
theorem dX10_rangeGoes_167 : decode cX10_rangeGoes 167 = .ok (.getfield 69, 3) := by decide +kernel
theorem dX10_rangeGoes_170 : decode cX10_rangeGoes 170 = .ok (.aload_n 0, 1) := by decide +kernel
theorem dX10_rangeGoes_171 : decode cX10_rangeGoes 171 = .ok (.getfield 28, 3) := by decide +kernel
theorem dX10_rangeGoes_174 : decode cX10_rangeGoes 174 = .ok (.aload_n 0, 1) := by decide +kernel
theorem dX10_rangeGoes_175 : decode cX10_rangeGoes 175 = .ok (.getfield 119, 3) := by decide +kernel
theorem dX10_rangeGoes_178 : decode cX10_rangeGoes 178 = .ok (.iaload, 1) := by decide +kernel
theorem dX10_rangeGoes_179 : decode cX10_rangeGoes 179 = .ok (.iconst 2, 1) := by decide +kernel
theorem dX10_rangeGoes_180 : decode cX10_rangeGoes 180 = .ok (.aload_n 0, 1) := by decide +kernel
theorem dX10_rangeGoes_181 : decode cX10_rangeGoes 181 = .ok (.getfield 149, 3) := by decide +kernel
theorem dX10_rangeGoes_184 : decode cX10_rangeGoes 184 = .ok (.imul, 1) := by decide +kernel
theorem dX10_rangeGoes_185 : decode cX10_rangeGoes 185 = .ok (.iadd, 1) := by decide +kernel
theorem dX10_rangeGoes_186 : decode cX10_rangeGoes 186 = .ok (.iconst 1, 1) := by decide +kernel
theorem dX10_rangeGoes_187 : decode cX10_rangeGoes 187 = .ok (.iadd, 1) := by decide +kernel
theorem dX10_rangeGoes_188 : decode cX10_rangeGoes 188 = .ok (.iload_n 3, 1) := by decide +kernel
theorem dX10_rangeGoes_189 : decode cX10_rangeGoes 189 = .ok (.iastore, 1) := by decide +kernel
theorem dX10_rangeGoes_190 : decode cX10_rangeGoes 190 = .ok (.aload_n 0, 1) := by decide +kernel
theorem dX10_rangeGoes_191 : decode cX10_rangeGoes 191 = .ok (.dup, 1) := by decide +kernel
theorem dX10_rangeGoes_192 : decode cX10_rangeGoes 192 = .ok (.getfield 149, 3) := by decide +kernel
theorem dX10_rangeGoes_195 : decode cX10_rangeGoes 195 = .ok (.iconst 1, 1) := by decide +kernel
theorem dX10_rangeGoes_196 : decode cX10_rangeGoes 196 = .ok (.iadd, 1) := by decide +kernel
theorem dX10_rangeGoes_197 : decode cX10_rangeGoes 197 = .ok (.putfield 149, 3) := by decide +kernel
theorem dX10_rangeGoes_200 : decode cX10_rangeGoes 200 = .ok (.iload_n 1, 1) := by decide +kernel
theorem dX10_rangeGoes_201 : decode cX10_rangeGoes 201 = .ok (.ifCond .eq 12, 3) := by decide +kernel
theorem dX10_rangeGoes_204 : decode cX10_rangeGoes 204 = .ok (.aload_n 0, 1) := by decide +kernel
theorem dX10_rangeGoes_205 : decode cX10_rangeGoes 205 = .ok (.getfield 131, 3) := by decide +kernel
theorem dX10_rangeGoes_208 : decode cX10_rangeGoes 208 = .ok (.iconst 1, 1) := by decide +kernel
theorem dX10_rangeGoes_209 : decode cX10_rangeGoes 209 = .ok (.iadd, 1) := by decide +kernel
theorem dX10_rangeGoes_210 : decode cX10_rangeGoes 210 = .ok (.goto 7, 3) := by decide +kernel
theorem dX10_rangeGoes_213 : decode cX10_rangeGoes 213 = .ok (.aload_n 0, 1) := by decide +kernel
theorem dX10_rangeGoes_214 : decode cX10_rangeGoes 214 = .ok (.getfield 125, 3) := by decide +kernel
theorem dX10_rangeGoes_217 : decode cX10_rangeGoes 217 = .ok (.istore 4, 2) := by decide +kernel
theorem dX10_rangeGoes_219 : decode cX10_rangeGoes 219 = .ok (.iload_n 1, 1) := by decide +kernel
theorem dX10_rangeGoes_220 : decode cX10_rangeGoes 220 = .ok (.ifCond .eq 10, 3) := by decide +kernel
theorem dX10_rangeGoes_223 : decode cX10_rangeGoes 223 = .ok (.aload_n 0, 1) := by decide +kernel
theorem dX10_rangeGoes_224 : decode cX10_rangeGoes 224 = .ok (.getfield 128, 3) := by decide +kernel
theorem dX10_rangeGoes_227 : decode cX10_rangeGoes 227 = .ok (.goto 9, 3) := by decide +kernel
theorem dX10_rangeGoes_230 : decode cX10_rangeGoes 230 = .ok (.aload_n 0, 1) := by decide +kernel
theorem dX10_rangeGoes_231 : decode cX10_rangeGoes 231 = .ok (.getfield 131, 3) := by decide +kernel
theorem dX10_rangeGoes_234 : decode cX10_rangeGoes 234 = .ok (.iconst 1, 1) := by decide +kernel
theorem dX10_rangeGoes_235 : decode cX10_rangeGoes 235 = .ok (.isub, 1) := by decide +kernel
theorem dX10_rangeGoes_236 : decode cX10_rangeGoes 236 = .ok (.istore 5, 2) := by decide +kernel
theorem dX10_rangeGoes_238 : decode cX10_rangeGoes 238 = .ok (.iload 5, 2) := by decide +kernel
theorem dX10_rangeGoes_240 : decode cX10_rangeGoes 240 = .ok (.iload 4, 2) := by decide +kernel
theorem dX10_rangeGoes_242 : decode cX10_rangeGoes 242 = .ok (.if_icmp .le 12, 3) := by decide +kernel
theorem dX10_rangeGoes_245 : decode cX10_rangeGoes 245 = .ok (.aload_n 0, 1) := by decide +kernel
theorem dX10_rangeGoes_246 : decode cX10_rangeGoes 246 = .ok (.iload 4, 2) := by decide +kernel
theorem dX10_rangeGoes_248 : decode cX10_rangeGoes 248 = .ok (.iload 5, 2) := by decide +kernel
theorem dX10_rangeGoes_250 : decode cX10_rangeGoes 250 = .ok (.invokevirtual 168, 3) := by decide +kernel
theorem dX10_rangeGoes_253 : decode cX10_rangeGoes 253 = .ok (.ireturn, 1) := by decide +kernel
theorem dX10_rangeGoes_254 : decode cX10_rangeGoes 254 = .ok (.aload_n 0, 1) := by decide +kernel
theorem dX10_rangeGoes_255 : decode cX10_rangeGoes 255 = .ok (.getfield 149, 3) := by decide +kernel
theorem dX10_rangeGoes_258 : decode cX10_rangeGoes 258 = .ok (.ifCond .ne 5, 3) := by decide +kernel
theorem dX10_rangeGoes_261 : decode cX10_rangeGoes 261 = .ok (.iconst 0, 1) := by decide +kernel
theorem dX10_rangeGoes_262 : decode cX10_rangeGoes 262 = .ok (.ireturn, 1) := by decide +kernel
theorem dX10_rangeGoes_263 : decode cX10_rangeGoes 263 = .ok (.aload_n 0, 1) := by decide +kernel
theorem dX10_rangeGoes_264 : decode cX10_rangeGoes 264 = .ok (.dup, 1) := by decide +kernel
theorem dX10_rangeGoes_265 : decode cX10_rangeGoes 265 = .ok (.getfield 149, 3) := by decide +kernel
theorem dX10_rangeGoes_268 : decode cX10_rangeGoes 268 = .ok (.iconst 1, 1) := by decide +kernel
theorem dX10_rangeGoes_269 : decode cX10_rangeGoes 269 = .ok (.isub, 1) := by decide +kernel
theorem dX10_rangeGoes_270 : decode cX10_rangeGoes 270 = .ok (.putfield 149, 3) := by decide +kernel
theorem dX10_rangeGoes_273 : decode cX10_rangeGoes 273 = .ok (.aload_n 0, 1) := by decide +kernel
theorem dX10_rangeGoes_274 : decode cX10_rangeGoes 274 = .ok (.aload_n 0, 1) := by decide +kernel
theorem dX10_rangeGoes_275 : decode cX10_rangeGoes 275 = .ok (.getfield 69, 3) := by decide +kernel
theorem dX10_rangeGoes_278 : decode cX10_rangeGoes 278 = .ok (.aload_n 0, 1) := by decide +kernel
theorem dX10_rangeGoes_279 : decode cX10_rangeGoes 279 = .ok (.getfield 28, 3) := by decide +kernel
theorem dX10_rangeGoes_282 : decode cX10_rangeGoes 282 = .ok (.aload_n 0, 1) := by decide +kernel
theorem dX10_rangeGoes_283 : decode cX10_rangeGoes 283 = .ok (.getfield 119, 3) := by decide +kernel
theorem dX10_rangeGoes_286 : decode cX10_rangeGoes 286 = .ok (.iaload, 1) := by decide +kernel
theorem dX10_rangeGoes_287 : decode cX10_rangeGoes 287 = .ok (.iconst 2, 1) := by decide +kernel
theorem dX10_rangeGoes_288 : decode cX10_rangeGoes 288 = .ok (.aload_n 0, 1) := by decide +kernel
theorem dX10_rangeGoes_289 : decode cX10_rangeGoes 289 = .ok (.getfield 149, 3) := by decide +kernel
theorem dX10_rangeGoes_292 : decode cX10_rangeGoes 292 = .ok (.imul, 1) := by decide +kernel
theorem dX10_rangeGoes_293 : decode cX10_rangeGoes 293 = .ok (.iadd, 1) := by decide +kernel
theorem dX10_rangeGoes_294 : decode cX10_rangeGoes 294 = .ok (.iaload, 1) := by decide +kernel
theorem dX10_rangeGoes_295 : decode cX10_rangeGoes 295 = .ok (.aload_n 0, 1) := by decide +kernel
theorem dX10_rangeGoes_296 : decode cX10_rangeGoes 296 = .ok (.getfield 69, 3) := by decide +kernel
theorem dX10_rangeGoes_299 : decode cX10_rangeGoes 299 = .ok (.aload_n 0, 1) := by decide +kernel
theorem dX10_rangeGoes_300 : decode cX10_rangeGoes 300 = .ok (.getfield 28, 3) := by decide +kernel
theorem dX10_rangeGoes_303 : decode cX10_rangeGoes 303 = .ok (.aload_n 0, 1) := by decide +kernel
theorem dX10_rangeGoes_304 : decode cX10_rangeGoes 304 = .ok (.getfield 119, 3) := by decide +kernel
theorem dX10_rangeGoes_307 : decode cX10_rangeGoes 307 = .ok (.iaload, 1) := by decide +kernel
theorem dX10_rangeGoes_308 : decode cX10_rangeGoes 308 = .ok (.iconst 2, 1) := by decide +kernel
theorem dX10_rangeGoes_309 : decode cX10_rangeGoes 309 = .ok (.aload_n 0, 1) := by decide +kernel
theorem dX10_rangeGoes_310 : decode cX10_rangeGoes 310 = .ok (.getfield 149, 3) := by decide +kernel
theorem dX10_rangeGoes_313 : decode cX10_rangeGoes 313 = .ok (.imul, 1) := by decide +kernel
theorem dX10_rangeGoes_314 : decode cX10_rangeGoes 314 = .ok (.iadd, 1) := by decide +kernel
theorem dX10_rangeGoes_315 : decode cX10_rangeGoes 315 = .ok (.iconst 1, 1) := by decide +kernel
theorem dX10_rangeGoes_316 : decode cX10_rangeGoes 316 = .ok (.iadd, 1) := by decide +kernel
theorem dX10_rangeGoes_317 : decode cX10_rangeGoes 317 = .ok (.iaload, 1) := by decide +kernel
theorem dX10_rangeGoes_318 : decode cX10_rangeGoes 318 = .ok (.invokevirtual 168, 3) := by decide +kernel
theorem dX10_rangeGoes_321 : decode cX10_rangeGoes 321 = .ok (.ireturn, 1) := by decide +kernel
theorem dX10_turn_0 : decode cX10_turn 0 = .ok (.iconst (-1), 1) := by decide +kernel
theorem dX10_turn_1 : decode cX10_turn 1 = .ok (.istore_n 1, 1) := by decide +kernel
theorem dX10_turn_2 : decode cX10_turn 2 = .ok (.iconst 0, 1) := by decide +kernel
theorem dX10_turn_3 : decode cX10_turn 3 = .ok (.istore_n 2, 1) := by decide +kernel
theorem dX10_turn_4 : decode cX10_turn 4 = .ok (.iload_n 2, 1) := by decide +kernel
theorem dX10_turn_5 : decode cX10_turn 5 = .ok (.aload_n 0, 1) := by decide +kernel
theorem dX10_turn_6 : decode cX10_turn 6 = .ok (.getfield 63, 3) := by decide +kernel
theorem dX10_turn_9 : decode cX10_turn 9 = .ok (.if_icmp .ge 84, 3) := by decide +kernel
theorem dX10_turn_12 : decode cX10_turn 12 = .ok (.aload_n 0, 1) := by decide +kernel
theorem dX10_turn_13 : decode cX10_turn 13 = .ok (.getfield 9, 3) := by decide +kernel
theorem dX10_turn_16 : decode cX10_turn 16 = .ok (.iload_n 2, 1) := by decide +kernel
theorem dX10_turn_17 : decode cX10_turn 17 = .ok (.iaload, 1) := by decide +kernel
theorem dX10_turn_18 : decode cX10_turn 18 = .ok (.iconst 2, 1) := by decide +kernel
theorem dX10_turn_19 : decode cX10_turn 19 = .ok (.if_icmp .eq 6, 3) := by decide +kernel
theorem dX10_turn_22 : decode cX10_turn 22 = .ok (.goto 65, 3) := by decide +kernel
theorem dX10_turn_25 : decode cX10_turn 25 = .ok (.iload_n 1, 1) := by decide +kernel
theorem dX10_turn_26 : decode cX10_turn 26 = .ok (.iconst (-1), 1) := by decide +kernel
theorem dX10_turn_27 : decode cX10_turn 27 = .ok (.if_icmp .eq 48, 3) := by decide +kernel
theorem dX10_turn_30 : decode cX10_turn 30 = .ok (.aload_n 0, 1) := by decide +kernel
theorem dX10_turn_31 : decode cX10_turn 31 = .ok (.getfield 19, 3) := by decide +kernel
theorem dX10_turn_34 : decode cX10_turn 34 = .ok (.iload_n 2, 1) := by decide +kernel
theorem dX10_turn_35 : decode cX10_turn 35 = .ok (.iaload, 1) := by decide +kernel
theorem dX10_turn_36 : decode cX10_turn 36 = .ok (.aload_n 0, 1) := by decide +kernel
theorem dX10_turn_37 : decode cX10_turn 37 = .ok (.getfield 19, 3) := by decide +kernel
theorem dX10_turn_40 : decode cX10_turn 40 = .ok (.iload_n 1, 1) := by decide +kernel
theorem dX10_turn_41 : decode cX10_turn 41 = .ok (.iaload, 1) := by decide +kernel
theorem dX10_turn_42 : decode cX10_turn 42 = .ok (.if_icmp .gt 33, 3) := by decide +kernel
theorem dX10_turn_45 : decode cX10_turn 45 = .ok (.aload_n 0, 1) := by decide +kernel
theorem dX10_turn_46 : decode cX10_turn 46 = .ok (.getfield 19, 3) := by decide +kernel
theorem dX10_turn_49 : decode cX10_turn 49 = .ok (.iload_n 2, 1) := by decide +kernel
theorem dX10_turn_50 : decode cX10_turn 50 = .ok (.iaload, 1) := by decide +kernel
theorem dX10_turn_51 : decode cX10_turn 51 = .ok (.aload_n 0, 1) := by decide +kernel
theorem dX10_turn_52 : decode cX10_turn 52 = .ok (.getfield 19, 3) := by decide +kernel
theorem dX10_turn_55 : decode cX10_turn 55 = .ok (.iload_n 1, 1) := by decide +kernel
theorem dX10_turn_56 : decode cX10_turn 56 = .ok (.iaload, 1) := by decide +kernel
theorem dX10_turn_57 : decode cX10_turn 57 = .ok (.if_icmp .ne 22, 3) := by decide +kernel
theorem dX10_turn_60 : decode cX10_turn 60 = .ok (.aload_n 0, 1) := by decide +kernel
theorem dX10_turn_61 : decode cX10_turn 61 = .ok (.getfield 31, 3) := by decide +kernel
theorem dX10_turn_64 : decode cX10_turn 64 = .ok (.iload_n 2, 1) := by decide +kernel
theorem dX10_turn_65 : decode cX10_turn 65 = .ok (.iaload, 1) := by decide +kernel
theorem dX10_turn_66 : decode cX10_turn 66 = .ok (.aload_n 0, 1) := by decide +kernel
theorem dX10_turn_67 : decode cX10_turn 67 = .ok (.getfield 31, 3) := by decide +kernel
theorem dX10_turn_70 : decode cX10_turn 70 = .ok (.iload_n 1, 1) := by decide +kernel
theorem dX10_turn_71 : decode cX10_turn 71 = .ok (.iaload, 1) := by decide +kernel
theorem dX10_turn_72 : decode cX10_turn 72 = .ok (.if_icmp .ge 7, 3) := by decide +kernel
theorem dX10_turn_75 : decode cX10_turn 75 = .ok (.iconst 1, 1) := by decide +kernel
theorem dX10_turn_76 : decode cX10_turn 76 = .ok (.goto 4, 3) := by decide +kernel
theorem dX10_turn_79 : decode cX10_turn 79 = .ok (.iconst 0, 1) := by decide +kernel
theorem dX10_turn_80 : decode cX10_turn 80 = .ok (.istore_n 3, 1) := by decide +kernel
theorem dX10_turn_81 : decode cX10_turn 81 = .ok (.iload_n 3, 1) := by decide +kernel
theorem dX10_turn_82 : decode cX10_turn 82 = .ok (.ifCond .eq 5, 3) := by decide +kernel
theorem dX10_turn_85 : decode cX10_turn 85 = .ok (.iload_n 2, 1) := by decide +kernel
theorem dX10_turn_86 : decode cX10_turn 86 = .ok (.istore_n 1, 1) := by decide +kernel
theorem dX10_turn_87 : decode cX10_turn 87 = .ok (.iinc 2 1, 3) := by decide +kernel
theorem dX10_turn_90 : decode cX10_turn 90 = .ok (.goto (-86), 3) := by decide +kernel
theorem dX10_turn_93 : decode cX10_turn 93 = .ok (.iload_n 1, 1) := by decide +kernel
theorem dX10_turn_94 : decode cX10_turn 94 = .ok (.ireturn, 1) := by decide +kernel
theorem dX10_tick_0 : decode cX10_tick 0 = .ok (.aload_n 0, 1) := by decide +kernel
theorem dX10_tick_1 : decode cX10_tick 1 = .ok (.dup, 1) := by decide +kernel
theorem dX10_tick_2 : decode cX10_tick 2 = .ok (.getfield 106, 3) := by decide +kernel
theorem dX10_tick_5 : decode cX10_tick 5 = .ok (.iconst 1, 1) := by decide +kernel
theorem dX10_tick_6 : decode cX10_tick 6 = .ok (.iadd, 1) := by decide +kernel
theorem dX10_tick_7 : decode cX10_tick 7 = .ok (.putfield 106, 3) := by decide +kernel
theorem dX10_tick_10 : decode cX10_tick 10 = .ok (.aload_n 0, 1) := by decide +kernel
theorem dX10_tick_11 : decode cX10_tick 11 = .ok (.invokevirtual 212, 3) := by decide +kernel
theorem dX10_tick_14 : decode cX10_tick 14 = .ok (.istore_n 1, 1) := by decide +kernel
theorem dX10_tick_15 : decode cX10_tick 15 = .ok (.iload_n 1, 1) := by decide +kernel
theorem dX10_tick_16 : decode cX10_tick 16 = .ok (.iconst (-1), 1) := by decide +kernel
theorem dX10_tick_17 : decode cX10_tick 17 = .ok (.if_icmp .ne 5, 3) := by decide +kernel
theorem dX10_tick_20 : decode cX10_tick 20 = .ok (.iconst (-1), 1) := by decide +kernel
theorem dX10_tick_21 : decode cX10_tick 21 = .ok (.ireturn, 1) := by decide +kernel
theorem dX10_tick_22 : decode cX10_tick 22 = .ok (.aload_n 0, 1) := by decide +kernel
theorem dX10_tick_23 : decode cX10_tick 23 = .ok (.iload_n 1, 1) := by decide +kernel
theorem dX10_tick_24 : decode cX10_tick 24 = .ok (.invokevirtual 109, 3) := by decide +kernel
theorem dX10_tick_27 : decode cX10_tick 27 = .ok (.iconst 0, 1) := by decide +kernel
theorem dX10_tick_28 : decode cX10_tick 28 = .ok (.istore_n 2, 1) := by decide +kernel
theorem dX10_tick_29 : decode cX10_tick 29 = .ok (.iload_n 2, 1) := by decide +kernel
theorem dX10_tick_30 : decode cX10_tick 30 = .ok (.aload_n 0, 1) := by decide +kernel
theorem dX10_tick_31 : decode cX10_tick 31 = .ok (.getfield 66, 3) := by decide +kernel
theorem dX10_tick_34 : decode cX10_tick 34 = .ok (.if_icmp .ge 48, 3) := by decide +kernel
theorem dX10_tick_37 : decode cX10_tick 37 = .ok (.aload_n 0, 1) := by decide +kernel
theorem dX10_tick_38 : decode cX10_tick 38 = .ok (.getfield 40, 3) := by decide +kernel
theorem dX10_tick_41 : decode cX10_tick 41 = .ok (.iload_n 1, 1) := by decide +kernel
theorem dX10_tick_42 : decode cX10_tick 42 = .ok (.baload, 1) := by decide +kernel
theorem dX10_tick_43 : decode cX10_tick 43 = .ok (.ifCond .eq 39, 3) := by decide +kernel
theorem dX10_tick_46 : decode cX10_tick 46 = .ok (.aload_n 0, 1) := by decide +kernel
theorem dX10_tick_47 : decode cX10_tick 47 = .ok (.getfield 22, 3) := by decide +kernel
theorem dX10_tick_50 : decode cX10_tick 50 = .ok (.iload_n 1, 1) := by decide +kernel
theorem dX10_tick_51 : decode cX10_tick 51 = .ok (.dup2, 1) := by decide +kernel
theorem dX10_tick_52 : decode cX10_tick 52 = .ok (.iaload, 1) := by decide +kernel
theorem dX10_tick_53 : decode cX10_tick 53 = .ok (.iconst 1, 1) := by decide +kernel
theorem dX10_tick_54 : decode cX10_tick 54 = .ok (.iadd, 1) := by decide +kernel
theorem dX10_tick_55 : decode cX10_tick 55 = .ok (.iastore, 1) := by decide +kernel
theorem dX10_tick_56 : decode cX10_tick 56 = .ok (.aload_n 0, 1) := by decide +kernel
theorem dX10_tick_57 : decode cX10_tick 57 = .ok (.dup, 1) := by decide +kernel
theorem dX10_tick_58 : decode cX10_tick 58 = .ok (.getfield 215, 3) := by decide +kernel
theorem dX10_tick_61 : decode cX10_tick 61 = .ok (.iconst 1, 1) := by decide +kernel
theorem dX10_tick_62 : decode cX10_tick 62 = .ok (.iadd, 1) := by decide +kernel
theorem dX10_tick_63 : decode cX10_tick 63 = .ok (.putfield 215, 3) := by decide +kernel
theorem dX10_tick_66 : decode cX10_tick 66 = .ok (.aload_n 0, 1) := by decide +kernel
theorem dX10_tick_67 : decode cX10_tick 67 = .ok (.getfield 40, 3) := by decide +kernel
theorem dX10_tick_70 : decode cX10_tick 70 = .ok (.iload_n 1, 1) := by decide +kernel
theorem dX10_tick_71 : decode cX10_tick 71 = .ok (.aload_n 0, 1) := by decide +kernel
theorem dX10_tick_72 : decode cX10_tick 72 = .ok (.invokevirtual 218, 3) := by decide +kernel
theorem dX10_tick_75 : decode cX10_tick 75 = .ok (.bastore, 1) := by decide +kernel
theorem dX10_tick_76 : decode cX10_tick 76 = .ok (.iinc 2 1, 3) := by decide +kernel
theorem dX10_tick_79 : decode cX10_tick 79 = .ok (.goto (-50), 3) := by decide +kernel
theorem dX10_tick_82 : decode cX10_tick 82 = .ok (.aload_n 0, 1) := by decide +kernel
theorem dX10_tick_83 : decode cX10_tick 83 = .ok (.invokevirtual 116, 3) := by decide +kernel
theorem dX10_tick_86 : decode cX10_tick 86 = .ok (.aload_n 0, 1) := by decide +kernel
theorem dX10_tick_87 : decode cX10_tick 87 = .ok (.getfield 40, 3) := by decide +kernel
theorem dX10_tick_90 : decode cX10_tick 90 = .ok (.iload_n 1, 1) := by decide +kernel
theorem dX10_tick_91 : decode cX10_tick 91 = .ok (.baload, 1) := by decide +kernel
theorem dX10_tick_92 : decode cX10_tick 92 = .ok (.ifCond .ne 23, 3) := by decide +kernel
theorem dX10_tick_95 : decode cX10_tick 95 = .ok (.aload_n 0, 1) := by decide +kernel
theorem dX10_tick_96 : decode cX10_tick 96 = .ok (.getfield 9, 3) := by decide +kernel
theorem dX10_tick_99 : decode cX10_tick 99 = .ok (.iload_n 1, 1) := by decide +kernel
theorem dX10_tick_100 : decode cX10_tick 100 = .ok (.iconst 3, 1) := by decide +kernel
theorem dX10_tick_101 : decode cX10_tick 101 = .ok (.iastore, 1) := by decide +kernel
theorem dX10_tick_102 : decode cX10_tick 102 = .ok (.aload_n 0, 1) := by decide +kernel
theorem dX10_tick_103 : decode cX10_tick 103 = .ok (.getfield 37, 3) := by decide +kernel
theorem dX10_tick_106 : decode cX10_tick 106 = .ok (.iload_n 1, 1) := by decide +kernel
theorem dX10_tick_107 : decode cX10_tick 107 = .ok (.aload_n 0, 1) := by decide +kernel
theorem dX10_tick_108 : decode cX10_tick 108 = .ok (.getfield 106, 3) := by decide +kernel
theorem dX10_tick_111 : decode cX10_tick 111 = .ok (.iastore, 1) := by decide +kernel
theorem dX10_tick_112 : decode cX10_tick 112 = .ok (.goto 8, 3) := by decide +kernel
theorem dX10_tick_115 : decode cX10_tick 115 = .ok (.aload_n 0, 1) := by decide +kernel
theorem dX10_tick_116 : decode cX10_tick 116 = .ok (.iload_n 1, 1) := by decide +kernel
theorem dX10_tick_117 : decode cX10_tick 117 = .ok (.invokevirtual 102, 3) := by decide +kernel
theorem dX10_tick_120 : decode cX10_tick 120 = .ok (.iload_n 1, 1) := by decide +kernel
theorem dX10_tick_121 : decode cX10_tick 121 = .ok (.ireturn, 1) := by decide +kernel
theorem dX10_run_0 : decode cX10_run 0 = .ok (.iload_n 1, 1) := by decide +kernel
theorem dX10_run_1 : decode cX10_run 1 = .ok (.ifCond .lt 10, 3) := by decide +kernel
theorem dX10_run_4 : decode cX10_run 4 = .ok (.iload_n 1, 1) := by decide +kernel
theorem dX10_run_5 : decode cX10_run 5 = .ok (.sipush 3000, 3) := by decide +kernel
theorem dX10_run_8 : decode cX10_run 8 = .ok (.if_icmp .le 6, 3) := by decide +kernel
theorem dX10_run_11 : decode cX10_run 11 = .ok (.bipush (-4), 2) := by decide +kernel
theorem dX10_run_13 : decode cX10_run 13 = .ok (.ireturn, 1) := by decide +kernel
theorem dX10_run_14 : decode cX10_run 14 = .ok (.iconst 0, 1) := by decide +kernel
theorem dX10_run_15 : decode cX10_run 15 = .ok (.istore_n 2, 1) := by decide +kernel
theorem dX10_run_16 : decode cX10_run 16 = .ok (.iload_n 2, 1) := by decide +kernel
theorem dX10_run_17 : decode cX10_run 17 = .ok (.iload_n 1, 1) := by decide +kernel
theorem dX10_run_18 : decode cX10_run 18 = .ok (.if_icmp .ge 22, 3) := by decide +kernel
theorem dX10_run_21 : decode cX10_run 21 = .ok (.aload_n 0, 1) := by decide +kernel
theorem dX10_run_22 : decode cX10_run 22 = .ok (.invokevirtual 212, 3) := by decide +kernel
theorem dX10_run_25 : decode cX10_run 25 = .ok (.iconst (-1), 1) := by decide +kernel
theorem dX10_run_26 : decode cX10_run 26 = .ok (.if_icmp .eq 14, 3) := by decide +kernel
theorem dX10_run_29 : decode cX10_run 29 = .ok (.aload_n 0, 1) := by decide +kernel
theorem dX10_run_30 : decode cX10_run 30 = .ok (.invokevirtual 221, 3) := by decide +kernel
theorem dX10_run_33 : decode cX10_run 33 = .ok (.istore_n 3, 1) := by decide +kernel
theorem dX10_run_34 : decode cX10_run 34 = .ok (.iinc 2 1, 3) := by decide +kernel
theorem dX10_run_37 : decode cX10_run 37 = .ok (.goto (-21), 3) := by decide +kernel
theorem dX10_run_40 : decode cX10_run 40 = .ok (.iload_n 2, 1) := by decide +kernel
theorem dX10_run_41 : decode cX10_run 41 = .ok (.ireturn, 1) := by decide +kernel
theorem dX10_state_0 : decode cX10_state 0 = .ok (.aload_n 0, 1) := by decide +kernel
theorem dX10_state_1 : decode cX10_state 1 = .ok (.iload_n 1, 1) := by decide +kernel
theorem dX10_state_2 : decode cX10_state 2 = .ok (.invokevirtual 96, 3) := by decide +kernel
theorem dX10_state_5 : decode cX10_state 5 = .ok (.ifCond .eq 12, 3) := by decide +kernel
theorem dX10_state_8 : decode cX10_state 8 = .ok (.aload_n 0, 1) := by decide +kernel
theorem dX10_state_9 : decode cX10_state 9 = .ok (.getfield 9, 3) := by decide +kernel
theorem dX10_state_12 : decode cX10_state 12 = .ok (.iload_n 1, 1) := by decide +kernel
theorem dX10_state_13 : decode cX10_state 13 = .ok (.iaload, 1) := by decide +kernel
theorem dX10_state_14 : decode cX10_state 14 = .ok (.goto 4, 3) := by decide +kernel
theorem dX10_state_17 : decode cX10_state 17 = .ok (.iconst (-1), 1) := by decide +kernel
theorem dX10_state_18 : decode cX10_state 18 = .ok (.ireturn, 1) := by decide +kernel
theorem dX10_get_0 : decode cX10_get 0 = .ok (.aload_n 0, 1) := by decide +kernel
theorem dX10_get_1 : decode cX10_get 1 = .ok (.iload_n 1, 1) := by decide +kernel
theorem dX10_get_2 : decode cX10_get 2 = .ok (.invokevirtual 96, 3) := by decide +kernel
theorem dX10_get_5 : decode cX10_get 5 = .ok (.ifCond .eq 33, 3) := by decide +kernel
theorem dX10_get_8 : decode cX10_get 8 = .ok (.iload_n 2, 1) := by decide +kernel
theorem dX10_get_9 : decode cX10_get 9 = .ok (.ifCond .lt 29, 3) := by decide +kernel
theorem dX10_get_12 : decode cX10_get 12 = .ok (.iload_n 2, 1) := by decide +kernel
theorem dX10_get_13 : decode cX10_get 13 = .ok (.aload_n 0, 1) := by decide +kernel
theorem dX10_get_14 : decode cX10_get 14 = .ok (.getfield 13, 3) := by decide +kernel
theorem dX10_get_17 : decode cX10_get 17 = .ok (.iload_n 1, 1) := by decide +kernel
theorem dX10_get_18 : decode cX10_get 18 = .ok (.iaload, 1) := by decide +kernel
theorem dX10_get_19 : decode cX10_get 19 = .ok (.if_icmp .ge 19, 3) := by decide +kernel
theorem dX10_get_22 : decode cX10_get 22 = .ok (.aload_n 0, 1) := by decide +kernel
theorem dX10_get_23 : decode cX10_get 23 = .ok (.getfield 69, 3) := by decide +kernel
theorem dX10_get_26 : decode cX10_get 26 = .ok (.aload_n 0, 1) := by decide +kernel
theorem dX10_get_27 : decode cX10_get 27 = .ok (.getfield 25, 3) := by decide +kernel
theorem dX10_get_30 : decode cX10_get 30 = .ok (.iload_n 1, 1) := by decide +kernel
theorem dX10_get_31 : decode cX10_get 31 = .ok (.iaload, 1) := by decide +kernel
theorem dX10_get_32 : decode cX10_get 32 = .ok (.iload_n 2, 1) := by decide +kernel
theorem dX10_get_33 : decode cX10_get 33 = .ok (.iadd, 1) := by decide +kernel
theorem dX10_get_34 : decode cX10_get 34 = .ok (.iaload, 1) := by decide +kernel
theorem dX10_get_35 : decode cX10_get 35 = .ok (.goto 4, 3) := by decide +kernel
theorem dX10_get_38 : decode cX10_get 38 = .ok (.iconst 0, 1) := by decide +kernel
theorem dX10_get_39 : decode cX10_get 39 = .ok (.ireturn, 1) := by decide +kernel
theorem dX10_word_0 : decode cX10_word 0 = .ok (.iload_n 1, 1) := by decide +kernel
theorem dX10_word_1 : decode cX10_word 1 = .ok (.ifCond .lt 20, 3) := by decide +kernel
theorem dX10_word_4 : decode cX10_word 4 = .ok (.iload_n 1, 1) := by decide +kernel
theorem dX10_word_5 : decode cX10_word 5 = .ok (.aload_n 0, 1) := by decide +kernel
theorem dX10_word_6 : decode cX10_word 6 = .ok (.getfield 59, 3) := by decide +kernel
theorem dX10_word_9 : decode cX10_word 9 = .ok (.if_icmp .ge 12, 3) := by decide +kernel
theorem dX10_word_12 : decode cX10_word 12 = .ok (.aload_n 0, 1) := by decide +kernel
theorem dX10_word_13 : decode cX10_word 13 = .ok (.getfield 69, 3) := by decide +kernel
theorem dX10_word_16 : decode cX10_word 16 = .ok (.iload_n 1, 1) := by decide +kernel
theorem dX10_word_17 : decode cX10_word 17 = .ok (.iaload, 1) := by decide +kernel
theorem dX10_word_18 : decode cX10_word 18 = .ok (.goto 4, 3) := by decide +kernel
theorem dX10_word_21 : decode cX10_word 21 = .ok (.iconst 0, 1) := by decide +kernel
theorem dX10_word_22 : decode cX10_word 22 = .ok (.ireturn, 1) := by decide +kernel
theorem dX10_ahead_0 : decode cX10_ahead 0 = .ok (.aload_n 0, 1) := by decide +kernel
theorem dX10_ahead_1 : decode cX10_ahead 1 = .ok (.getfield 9, 3) := by decide +kernel
theorem dX10_ahead_4 : decode cX10_ahead 4 = .ok (.iload_n 1, 1) := by decide +kernel
theorem dX10_ahead_5 : decode cX10_ahead 5 = .ok (.iaload, 1) := by decide +kernel
theorem dX10_ahead_6 : decode cX10_ahead 6 = .ok (.iconst 2, 1) := by decide +kernel
theorem dX10_ahead_7 : decode cX10_ahead 7 = .ok (.if_icmp .eq 5, 3) := by decide +kernel
theorem dX10_ahead_10 : decode cX10_ahead 10 = .ok (.iconst (-1), 1) := by decide +kernel
theorem dX10_ahead_11 : decode cX10_ahead 11 = .ok (.ireturn, 1) := by decide +kernel
theorem dX10_ahead_12 : decode cX10_ahead 12 = .ok (.iconst 0, 1) := by decide +kernel
theorem dX10_ahead_13 : decode cX10_ahead 13 = .ok (.istore_n 2, 1) := by decide +kernel
theorem dX10_ahead_14 : decode cX10_ahead 14 = .ok (.iconst 0, 1) := by decide +kernel
theorem dX10_ahead_15 : decode cX10_ahead 15 = .ok (.istore_n 3, 1) := by decide +kernel
theorem dX10_ahead_16 : decode cX10_ahead 16 = .ok (.iload_n 3, 1) := by decide +kernel
theorem dX10_ahead_17 : decode cX10_ahead 17 = .ok (.aload_n 0, 1) := by decide +kernel
theorem dX10_ahead_18 : decode cX10_ahead 18 = .ok (.getfield 63, 3) := by decide +kernel
theorem dX10_ahead_21 : decode cX10_ahead 21 = .ok (.if_icmp .ge 57, 3) := by decide +kernel
theorem dX10_ahead_24 : decode cX10_ahead 24 = .ok (.iload_n 2, 1) := by decide +kernel
theorem dX10_ahead_25 : decode cX10_ahead 25 = .ok (.aload_n 0, 1) := by decide +kernel
theorem dX10_ahead_26 : decode cX10_ahead 26 = .ok (.getfield 9, 3) := by decide +kernel
theorem dX10_ahead_29 : decode cX10_ahead 29 = .ok (.iload_n 3, 1) := by decide +kernel
theorem dX10_ahead_30 : decode cX10_ahead 30 = .ok (.iaload, 1) := by decide +kernel
theorem dX10_ahead_31 : decode cX10_ahead 31 = .ok (.iconst 2, 1) := by decide +kernel
theorem dX10_ahead_32 : decode cX10_ahead 32 = .ok (.if_icmp .ne 37, 3) := by decide +kernel
theorem dX10_ahead_35 : decode cX10_ahead 35 = .ok (.aload_n 0, 1) := by decide +kernel
theorem dX10_ahead_36 : decode cX10_ahead 36 = .ok (.getfield 19, 3) := by decide +kernel
theorem dX10_ahead_39 : decode cX10_ahead 39 = .ok (.iload_n 3, 1) := by decide +kernel
theorem dX10_ahead_40 : decode cX10_ahead 40 = .ok (.iaload, 1) := by decide +kernel
theorem dX10_ahead_41 : decode cX10_ahead 41 = .ok (.aload_n 0, 1) := by decide +kernel
theorem dX10_ahead_42 : decode cX10_ahead 42 = .ok (.getfield 19, 3) := by decide +kernel
theorem dX10_ahead_45 : decode cX10_ahead 45 = .ok (.iload_n 1, 1) := by decide +kernel
theorem dX10_ahead_46 : decode cX10_ahead 46 = .ok (.iaload, 1) := by decide +kernel
theorem dX10_ahead_47 : decode cX10_ahead 47 = .ok (.if_icmp .ne 22, 3) := by decide +kernel
theorem dX10_ahead_50 : decode cX10_ahead 50 = .ok (.aload_n 0, 1) := by decide +kernel
theorem dX10_ahead_51 : decode cX10_ahead 51 = .ok (.getfield 31, 3) := by decide +kernel
theorem dX10_ahead_54 : decode cX10_ahead 54 = .ok (.iload_n 3, 1) := by decide +kernel
theorem dX10_ahead_55 : decode cX10_ahead 55 = .ok (.iaload, 1) := by decide +kernel
theorem dX10_ahead_56 : decode cX10_ahead 56 = .ok (.aload_n 0, 1) := by decide +kernel
theorem dX10_ahead_57 : decode cX10_ahead 57 = .ok (.getfield 31, 3) := by decide +kernel
theorem dX10_ahead_60 : decode cX10_ahead 60 = .ok (.iload_n 1, 1) := by decide +kernel
theorem dX10_ahead_61 : decode cX10_ahead 61 = .ok (.iaload, 1) := by decide +kernel
theorem dX10_ahead_62 : decode cX10_ahead 62 = .ok (.if_icmp .ge 7, 3) := by decide +kernel
theorem dX10_ahead_65 : decode cX10_ahead 65 = .ok (.iconst 1, 1) := by decide +kernel
theorem dX10_ahead_66 : decode cX10_ahead 66 = .ok (.goto 4, 3) := by decide +kernel
theorem dX10_ahead_69 : decode cX10_ahead 69 = .ok (.iconst 0, 1) := by decide +kernel
theorem dX10_ahead_70 : decode cX10_ahead 70 = .ok (.iadd, 1) := by decide +kernel
theorem dX10_ahead_71 : decode cX10_ahead 71 = .ok (.istore_n 2, 1) := by decide +kernel
theorem dX10_ahead_72 : decode cX10_ahead 72 = .ok (.iinc 3 1, 3) := by decide +kernel
theorem dX10_ahead_75 : decode cX10_ahead 75 = .ok (.goto (-59), 3) := by decide +kernel
theorem dX10_ahead_78 : decode cX10_ahead 78 = .ok (.iload_n 2, 1) := by decide +kernel
theorem dX10_ahead_79 : decode cX10_ahead 79 = .ok (.ireturn, 1) := by decide +kernel
theorem dX10_job_0 : decode cX10_job 0 = .ok (.aload_n 0, 1) := by decide +kernel
theorem dX10_job_1 : decode cX10_job 1 = .ok (.iload_n 1, 1) := by decide +kernel
theorem dX10_job_2 : decode cX10_job 2 = .ok (.invokevirtual 96, 3) := by decide +kernel
theorem dX10_job_5 : decode cX10_job 5 = .ok (.ifCond .ne 5, 3) := by decide +kernel
theorem dX10_job_8 : decode cX10_job 8 = .ok (.iconst (-1), 1) := by decide +kernel
theorem dX10_job_9 : decode cX10_job 9 = .ok (.ireturn, 1) := by decide +kernel
theorem dX10_job_10 : decode cX10_job 10 = .ok (.iload_n 2, 1) := by decide +kernel
theorem dX10_job_11 : decode cX10_job 11 = .ok (.tableswitch 111 0 8 #[49, 56, 63, 70, 77, 84, 91, 97, 104], 49) := by decide +kernel
theorem dX10_job_60 : decode cX10_job 60 = .ok (.aload_n 0, 1) := by decide +kernel
theorem dX10_job_61 : decode cX10_job 61 = .ok (.getfield 13, 3) := by decide +kernel
theorem dX10_job_64 : decode cX10_job 64 = .ok (.iload_n 1, 1) := by decide +kernel
theorem dX10_job_65 : decode cX10_job 65 = .ok (.iaload, 1) := by decide +kernel
theorem dX10_job_66 : decode cX10_job 66 = .ok (.ireturn, 1) := by decide +kernel
theorem dX10_job_67 : decode cX10_job 67 = .ok (.aload_n 0, 1) := by decide +kernel
theorem dX10_job_68 : decode cX10_job 68 = .ok (.getfield 16, 3) := by decide +kernel
theorem dX10_job_71 : decode cX10_job 71 = .ok (.iload_n 1, 1) := by decide +kernel
theorem dX10_job_72 : decode cX10_job 72 = .ok (.iaload, 1) := by decide +kernel
theorem dX10_job_73 : decode cX10_job 73 = .ok (.ireturn, 1) := by decide +kernel
theorem dX10_job_74 : decode cX10_job 74 = .ok (.aload_n 0, 1) := by decide +kernel
theorem dX10_job_75 : decode cX10_job 75 = .ok (.getfield 19, 3) := by decide +kernel
theorem dX10_job_78 : decode cX10_job 78 = .ok (.iload_n 1, 1) := by decide +kernel
theorem dX10_job_79 : decode cX10_job 79 = .ok (.iaload, 1) := by decide +kernel
theorem dX10_job_80 : decode cX10_job 80 = .ok (.ireturn, 1) := by decide +kernel
theorem dX10_job_81 : decode cX10_job 81 = .ok (.aload_n 0, 1) := by decide +kernel
theorem dX10_job_82 : decode cX10_job 82 = .ok (.getfield 22, 3) := by decide +kernel
theorem dX10_job_85 : decode cX10_job 85 = .ok (.iload_n 1, 1) := by decide +kernel
theorem dX10_job_86 : decode cX10_job 86 = .ok (.iaload, 1) := by decide +kernel
theorem dX10_job_87 : decode cX10_job 87 = .ok (.ireturn, 1) := by decide +kernel
theorem dX10_job_88 : decode cX10_job 88 = .ok (.aload_n 0, 1) := by decide +kernel
theorem dX10_job_89 : decode cX10_job 89 = .ok (.getfield 25, 3) := by decide +kernel
theorem dX10_job_92 : decode cX10_job 92 = .ok (.iload_n 1, 1) := by decide +kernel
theorem dX10_job_93 : decode cX10_job 93 = .ok (.iaload, 1) := by decide +kernel
theorem dX10_job_94 : decode cX10_job 94 = .ok (.ireturn, 1) := by decide +kernel
theorem dX10_job_95 : decode cX10_job 95 = .ok (.aload_n 0, 1) := by decide +kernel
theorem dX10_job_96 : decode cX10_job 96 = .ok (.getfield 28, 3) := by decide +kernel
theorem dX10_job_99 : decode cX10_job 99 = .ok (.iload_n 1, 1) := by decide +kernel
theorem dX10_job_100 : decode cX10_job 100 = .ok (.iaload, 1) := by decide +kernel
theorem dX10_job_101 : decode cX10_job 101 = .ok (.ireturn, 1) := by decide +kernel
theorem dX10_job_102 : decode cX10_job 102 = .ok (.aload_n 0, 1) := by decide +kernel
theorem dX10_job_103 : decode cX10_job 103 = .ok (.iload_n 1, 1) := by decide +kernel
theorem dX10_job_104 : decode cX10_job 104 = .ok (.invokevirtual 224, 3) := by decide +kernel
theorem dX10_job_107 : decode cX10_job 107 = .ok (.ireturn, 1) := by decide +kernel
theorem dX10_job_108 : decode cX10_job 108 = .ok (.aload_n 0, 1) := by decide +kernel
theorem dX10_job_109 : decode cX10_job 109 = .ok (.getfield 34, 3) := by decide +kernel
theorem dX10_job_112 : decode cX10_job 112 = .ok (.iload_n 1, 1) := by decide +kernel
theorem dX10_job_113 : decode cX10_job 113 = .ok (.iaload, 1) := by decide +kernel
theorem dX10_job_114 : decode cX10_job 114 = .ok (.ireturn, 1) := by decide +kernel
theorem dX10_job_115 : decode cX10_job 115 = .ok (.aload_n 0, 1) := by decide +kernel
theorem dX10_job_116 : decode cX10_job 116 = .ok (.getfield 37, 3) := by decide +kernel
theorem dX10_job_119 : decode cX10_job 119 = .ok (.iload_n 1, 1) := by decide +kernel
theorem dX10_job_120 : decode cX10_job 120 = .ok (.iaload, 1) := by decide +kernel
theorem dX10_job_121 : decode cX10_job 121 = .ok (.ireturn, 1) := by decide +kernel
theorem dX10_job_122 : decode cX10_job 122 = .ok (.iconst (-1), 1) := by decide +kernel
theorem dX10_job_123 : decode cX10_job 123 = .ok (.ireturn, 1) := by decide +kernel
theorem dX10_count_0 : decode cX10_count 0 = .ok (.iconst 0, 1) := by decide +kernel
theorem dX10_count_1 : decode cX10_count 1 = .ok (.istore_n 2, 1) := by decide +kernel
theorem dX10_count_2 : decode cX10_count 2 = .ok (.iload_n 1, 1) := by decide +kernel
theorem dX10_count_3 : decode cX10_count 3 = .ok (.tableswitch 145 0 8 #[49, 49, 49, 55, 60, 94, 130, 135, 140], 49) := by decide +kernel
theorem dX10_count_52 : decode cX10_count 52 = .ok (.aload_n 0, 1) := by decide +kernel
theorem dX10_count_53 : decode cX10_count 53 = .ok (.iload_n 1, 1) := by decide +kernel
theorem dX10_count_54 : decode cX10_count 54 = .ok (.invokevirtual 227, 3) := by decide +kernel
theorem dX10_count_57 : decode cX10_count 57 = .ok (.ireturn, 1) := by decide +kernel
theorem dX10_count_58 : decode cX10_count 58 = .ok (.aload_n 0, 1) := by decide +kernel
theorem dX10_count_59 : decode cX10_count 59 = .ok (.getfield 106, 3) := by decide +kernel
theorem dX10_count_62 : decode cX10_count 62 = .ok (.ireturn, 1) := by decide +kernel
theorem dX10_count_63 : decode cX10_count 63 = .ok (.iconst 0, 1) := by decide +kernel
theorem dX10_count_64 : decode cX10_count 64 = .ok (.istore_n 3, 1) := by decide +kernel
theorem dX10_count_65 : decode cX10_count 65 = .ok (.iload_n 3, 1) := by decide +kernel
theorem dX10_count_66 : decode cX10_count 66 = .ok (.aload_n 0, 1) := by decide +kernel
theorem dX10_count_67 : decode cX10_count 67 = .ok (.getfield 63, 3) := by decide +kernel
theorem dX10_count_70 : decode cX10_count 70 = .ok (.if_icmp .ge 25, 3) := by decide +kernel
theorem dX10_count_73 : decode cX10_count 73 = .ok (.iload_n 2, 1) := by decide +kernel
theorem dX10_count_74 : decode cX10_count 74 = .ok (.aload_n 0, 1) := by decide +kernel
theorem dX10_count_75 : decode cX10_count 75 = .ok (.iload_n 3, 1) := by decide +kernel
theorem dX10_count_76 : decode cX10_count 76 = .ok (.invokevirtual 72, 3) := by decide +kernel
theorem dX10_count_79 : decode cX10_count 79 = .ok (.ifCond .eq 7, 3) := by decide +kernel
theorem dX10_count_82 : decode cX10_count 82 = .ok (.iconst 1, 1) := by decide +kernel
theorem dX10_count_83 : decode cX10_count 83 = .ok (.goto 4, 3) := by decide +kernel
theorem dX10_count_86 : decode cX10_count 86 = .ok (.iconst 0, 1) := by decide +kernel
theorem dX10_count_87 : decode cX10_count 87 = .ok (.iadd, 1) := by decide +kernel
theorem dX10_count_88 : decode cX10_count 88 = .ok (.istore_n 2, 1) := by decide +kernel
theorem dX10_count_89 : decode cX10_count 89 = .ok (.iinc 3 1, 3) := by decide +kernel
theorem dX10_count_92 : decode cX10_count 92 = .ok (.goto (-27), 3) := by decide +kernel
theorem dX10_count_95 : decode cX10_count 95 = .ok (.iload_n 2, 1) := by decide +kernel
theorem dX10_count_96 : decode cX10_count 96 = .ok (.ireturn, 1) := by decide +kernel
theorem dX10_count_97 : decode cX10_count 97 = .ok (.iconst 0, 1) := by decide +kernel
theorem dX10_count_98 : decode cX10_count 98 = .ok (.istore_n 3, 1) := by decide +kernel
theorem dX10_count_99 : decode cX10_count 99 = .ok (.iload_n 3, 1) := by decide +kernel
theorem dX10_count_100 : decode cX10_count 100 = .ok (.aload_n 0, 1) := by decide +kernel
theorem dX10_count_101 : decode cX10_count 101 = .ok (.getfield 63, 3) := by decide +kernel
theorem dX10_count_104 : decode cX10_count 104 = .ok (.if_icmp .ge 27, 3) := by decide +kernel
theorem dX10_count_107 : decode cX10_count 107 = .ok (.iload_n 2, 1) := by decide +kernel
theorem dX10_count_108 : decode cX10_count 108 = .ok (.aload_n 0, 1) := by decide +kernel
theorem dX10_count_109 : decode cX10_count 109 = .ok (.getfield 9, 3) := by decide +kernel
theorem dX10_count_112 : decode cX10_count 112 = .ok (.iload_n 3, 1) := by decide +kernel
theorem dX10_count_113 : decode cX10_count 113 = .ok (.iaload, 1) := by decide +kernel
theorem dX10_count_114 : decode cX10_count 114 = .ok (.iconst 2, 1) := by decide +kernel
theorem dX10_count_115 : decode cX10_count 115 = .ok (.if_icmp .ne 7, 3) := by decide +kernel
theorem dX10_count_118 : decode cX10_count 118 = .ok (.iconst 1, 1) := by decide +kernel
theorem dX10_count_119 : decode cX10_count 119 = .ok (.goto 4, 3) := by decide +kernel
theorem dX10_count_122 : decode cX10_count 122 = .ok (.iconst 0, 1) := by decide +kernel
theorem dX10_count_123 : decode cX10_count 123 = .ok (.iadd, 1) := by decide +kernel
theorem dX10_count_124 : decode cX10_count 124 = .ok (.istore_n 2, 1) := by decide +kernel
theorem dX10_count_125 : decode cX10_count 125 = .ok (.iinc 3 1, 3) := by decide +kernel
theorem dX10_count_128 : decode cX10_count 128 = .ok (.goto (-29), 3) := by decide +kernel
theorem dX10_count_131 : decode cX10_count 131 = .ok (.iload_n 2, 1) := by decide +kernel
theorem dX10_count_132 : decode cX10_count 132 = .ok (.ireturn, 1) := by decide +kernel
theorem dX10_count_133 : decode cX10_count 133 = .ok (.aload_n 0, 1) := by decide +kernel
theorem dX10_count_134 : decode cX10_count 134 = .ok (.getfield 215, 3) := by decide +kernel
theorem dX10_count_137 : decode cX10_count 137 = .ok (.ireturn, 1) := by decide +kernel
theorem dX10_count_138 : decode cX10_count 138 = .ok (.aload_n 0, 1) := by decide +kernel
theorem dX10_count_139 : decode cX10_count 139 = .ok (.getfield 59, 3) := by decide +kernel
theorem dX10_count_142 : decode cX10_count 142 = .ok (.ireturn, 1) := by decide +kernel
theorem dX10_count_143 : decode cX10_count 143 = .ok (.aload_n 0, 1) := by decide +kernel
theorem dX10_count_144 : decode cX10_count 144 = .ok (.getfield 66, 3) := by decide +kernel
theorem dX10_count_147 : decode cX10_count 147 = .ok (.ireturn, 1) := by decide +kernel
theorem dX10_count_148 : decode cX10_count 148 = .ok (.iconst (-1), 1) := by decide +kernel
theorem dX10_count_149 : decode cX10_count 149 = .ok (.ireturn, 1) := by decide +kernel
theorem dL_cell_0 : decode cL_cell 0 = .ok (.iload_n 1, 1) := by decide +kernel
theorem dL_cell_1 : decode cL_cell 1 = .ok (.aload_n 0, 1) := by decide +kernel
theorem dL_cell_2 : decode cL_cell 2 = .ok (.arraylength, 1) := by decide +kernel
theorem dL_cell_3 : decode cL_cell 3 = .ok (.if_icmp .ge 9, 3) := by decide +kernel
theorem dL_cell_6 : decode cL_cell 6 = .ok (.aload_n 0, 1) := by decide +kernel
theorem dL_cell_7 : decode cL_cell 7 = .ok (.iload_n 1, 1) := by decide +kernel
theorem dL_cell_8 : decode cL_cell 8 = .ok (.iaload, 1) := by decide +kernel
theorem dL_cell_9 : decode cL_cell 9 = .ok (.goto 4, 3) := by decide +kernel
theorem dL_cell_12 : decode cL_cell 12 = .ok (.iconst 0, 1) := by decide +kernel
theorem dL_cell_13 : decode cL_cell 13 = .ok (.ireturn, 1) := by decide +kernel
theorem dL_law_0 : decode cL_law 0 = .ok (.new 7, 3) := by decide +kernel
theorem dL_law_3 : decode cL_law 3 = .ok (.dup, 1) := by decide +kernel
theorem dL_law_4 : decode cL_law 4 = .ok (.aload_n 0, 1) := by decide +kernel
theorem dL_law_5 : decode cL_law 5 = .ok (.iconst 0, 1) := by decide +kernel
theorem dL_law_6 : decode cL_law 6 = .ok (.invokestatic 9, 3) := by decide +kernel
theorem dL_law_9 : decode cL_law 9 = .ok (.aload_n 0, 1) := by decide +kernel
theorem dL_law_10 : decode cL_law 10 = .ok (.iconst 1, 1) := by decide +kernel
theorem dL_law_11 : decode cL_law 11 = .ok (.invokestatic 9, 3) := by decide +kernel
theorem dL_law_14 : decode cL_law 14 = .ok (.aload_n 0, 1) := by decide +kernel
theorem dL_law_15 : decode cL_law 15 = .ok (.iconst 2, 1) := by decide +kernel
theorem dL_law_16 : decode cL_law 16 = .ok (.invokestatic 9, 3) := by decide +kernel
theorem dL_law_19 : decode cL_law 19 = .ok (.invokespecial 15, 3) := by decide +kernel
theorem dL_law_22 : decode cL_law 22 = .ok (.astore_n 1, 1) := by decide +kernel
theorem dL_law_23 : decode cL_law 23 = .ok (.new 18, 3) := by decide +kernel
theorem dL_law_26 : decode cL_law 26 = .ok (.dup, 1) := by decide +kernel
theorem dL_law_27 : decode cL_law 27 = .ok (.aload_n 0, 1) := by decide +kernel
theorem dL_law_28 : decode cL_law 28 = .ok (.iconst 0, 1) := by decide +kernel
theorem dL_law_29 : decode cL_law 29 = .ok (.invokestatic 9, 3) := by decide +kernel
theorem dL_law_32 : decode cL_law 32 = .ok (.aload_n 0, 1) := by decide +kernel
theorem dL_law_33 : decode cL_law 33 = .ok (.iconst 1, 1) := by decide +kernel
theorem dL_law_34 : decode cL_law 34 = .ok (.invokestatic 9, 3) := by decide +kernel
theorem dL_law_37 : decode cL_law 37 = .ok (.aload_n 0, 1) := by decide +kernel
theorem dL_law_38 : decode cL_law 38 = .ok (.iconst 2, 1) := by decide +kernel
theorem dL_law_39 : decode cL_law 39 = .ok (.invokestatic 9, 3) := by decide +kernel
theorem dL_law_42 : decode cL_law 42 = .ok (.invokespecial 20, 3) := by decide +kernel
theorem dL_law_45 : decode cL_law 45 = .ok (.astore_n 2, 1) := by decide +kernel
theorem dL_law_46 : decode cL_law 46 = .ok (.iconst 3, 1) := by decide +kernel
theorem dL_law_47 : decode cL_law 47 = .ok (.istore_n 3, 1) := by decide +kernel
theorem dL_law_48 : decode cL_law 48 = .ok (.iload_n 3, 1) := by decide +kernel
theorem dL_law_49 : decode cL_law 49 = .ok (.aload_n 0, 1) := by decide +kernel
theorem dL_law_50 : decode cL_law 50 = .ok (.arraylength, 1) := by decide +kernel
theorem dL_law_51 : decode cL_law 51 = .ok (.iconst 4, 1) := by decide +kernel
theorem dL_law_52 : decode cL_law 52 = .ok (.isub, 1) := by decide +kernel
theorem dL_law_53 : decode cL_law 53 = .ok (.if_icmp .gt 494, 3) := by decide +kernel
theorem dL_law_56 : decode cL_law 56 = .ok (.aload_n 0, 1) := by decide +kernel
theorem dL_law_57 : decode cL_law 57 = .ok (.iload_n 3, 1) := by decide +kernel
theorem dL_law_58 : decode cL_law 58 = .ok (.iaload, 1) := by decide +kernel
theorem dL_law_59 : decode cL_law 59 = .ok (.bipush 15, 2) := by decide +kernel
theorem dL_law_61 : decode cL_law 61 = .ok (.iand, 1) := by decide +kernel
theorem dL_law_62 : decode cL_law 62 = .ok (.tableswitch 479 0 14 #[74, 117, 160, 193, 216, 229, 252, 275, 308, 331, 364, 387, 400, 423, 456], 74) := by decide +kernel
theorem dL_law_136 : decode cL_law 136 = .ok (.aload_n 1, 1) := by decide +kernel
theorem dL_law_137 : decode cL_law 137 = .ok (.aload_n 0, 1) := by decide +kernel
theorem dL_law_138 : decode cL_law 138 = .ok (.iload_n 3, 1) := by decide +kernel
theorem dL_law_139 : decode cL_law 139 = .ok (.iconst 1, 1) := by decide +kernel
theorem dL_law_140 : decode cL_law 140 = .ok (.iadd, 1) := by decide +kernel
theorem dL_law_141 : decode cL_law 141 = .ok (.iaload, 1) := by decide +kernel
theorem dL_law_142 : decode cL_law 142 = .ok (.aload_n 0, 1) := by decide +kernel
theorem dL_law_143 : decode cL_law 143 = .ok (.iload_n 3, 1) := by decide +kernel
theorem dL_law_144 : decode cL_law 144 = .ok (.iconst 2, 1) := by decide +kernel
theorem dL_law_145 : decode cL_law 145 = .ok (.iadd, 1) := by decide +kernel
theorem dL_law_146 : decode cL_law 146 = .ok (.iaload, 1) := by decide +kernel
theorem dL_law_147 : decode cL_law 147 = .ok (.aload_n 0, 1) := by decide +kernel
theorem dL_law_148 : decode cL_law 148 = .ok (.iload_n 3, 1) := by decide +kernel
theorem dL_law_149 : decode cL_law 149 = .ok (.iconst 3, 1) := by decide +kernel
theorem dL_law_150 : decode cL_law 150 = .ok (.iadd, 1) := by decide +kernel
theorem dL_law_151 : decode cL_law 151 = .ok (.iaload, 1) := by decide +kernel
theorem dL_law_152 : decode cL_law 152 = .ok (.invokevirtual 21, 3) := by decide +kernel
theorem dL_law_155 : decode cL_law 155 = .ok (.aload_n 2, 1) := by decide +kernel
theorem dL_law_156 : decode cL_law 156 = .ok (.aload_n 0, 1) := by decide +kernel
theorem dL_law_157 : decode cL_law 157 = .ok (.iload_n 3, 1) := by decide +kernel
theorem dL_law_158 : decode cL_law 158 = .ok (.iconst 1, 1) := by decide +kernel
theorem dL_law_159 : decode cL_law 159 = .ok (.iadd, 1) := by decide +kernel
theorem dL_law_160 : decode cL_law 160 = .ok (.iaload, 1) := by decide +kernel
theorem dL_law_161 : decode cL_law 161 = .ok (.aload_n 0, 1) := by decide +kernel
theorem dL_law_162 : decode cL_law 162 = .ok (.iload_n 3, 1) := by decide +kernel
theorem dL_law_163 : decode cL_law 163 = .ok (.iconst 2, 1) := by decide +kernel
theorem dL_law_164 : decode cL_law 164 = .ok (.iadd, 1) := by decide +kernel
theorem dL_law_165 : decode cL_law 165 = .ok (.iaload, 1) := by decide +kernel
theorem dL_law_166 : decode cL_law 166 = .ok (.aload_n 0, 1) := by decide +kernel
theorem dL_law_167 : decode cL_law 167 = .ok (.iload_n 3, 1) := by decide +kernel
theorem dL_law_168 : decode cL_law 168 = .ok (.iconst 3, 1) := by decide +kernel
theorem dL_law_169 : decode cL_law 169 = .ok (.iadd, 1) := by decide +kernel
theorem dL_law_170 : decode cL_law 170 = .ok (.iaload, 1) := by decide +kernel
theorem dL_law_171 : decode cL_law 171 = .ok (.invokevirtual 25, 3) := by decide +kernel
theorem dL_law_174 : decode cL_law 174 = .ok (.if_icmp .eq 367, 3) := by decide +kernel
theorem dL_law_177 : decode cL_law 177 = .ok (.iconst 0, 1) := by decide +kernel
theorem dL_law_178 : decode cL_law 178 = .ok (.ireturn, 1) := by decide +kernel
theorem dL_law_179 : decode cL_law 179 = .ok (.aload_n 1, 1) := by decide +kernel
theorem dL_law_180 : decode cL_law 180 = .ok (.aload_n 0, 1) := by decide +kernel
theorem dL_law_181 : decode cL_law 181 = .ok (.iload_n 3, 1) := by decide +kernel
theorem dL_law_182 : decode cL_law 182 = .ok (.iconst 1, 1) := by decide +kernel
theorem dL_law_183 : decode cL_law 183 = .ok (.iadd, 1) := by decide +kernel
theorem dL_law_184 : decode cL_law 184 = .ok (.iaload, 1) := by decide +kernel
theorem dL_law_185 : decode cL_law 185 = .ok (.aload_n 0, 1) := by decide +kernel
theorem dL_law_186 : decode cL_law 186 = .ok (.iload_n 3, 1) := by decide +kernel
theorem dL_law_187 : decode cL_law 187 = .ok (.iconst 2, 1) := by decide +kernel
theorem dL_law_188 : decode cL_law 188 = .ok (.iadd, 1) := by decide +kernel
theorem dL_law_189 : decode cL_law 189 = .ok (.iaload, 1) := by decide +kernel
theorem dL_law_190 : decode cL_law 190 = .ok (.aload_n 0, 1) := by decide +kernel
theorem dL_law_191 : decode cL_law 191 = .ok (.iload_n 3, 1) := by decide +kernel
theorem dL_law_192 : decode cL_law 192 = .ok (.iconst 3, 1) := by decide +kernel
theorem dL_law_193 : decode cL_law 193 = .ok (.iadd, 1) := by decide +kernel
theorem dL_law_194 : decode cL_law 194 = .ok (.iaload, 1) := by decide +kernel
theorem dL_law_195 : decode cL_law 195 = .ok (.invokevirtual 26, 3) := by decide +kernel
theorem dL_law_198 : decode cL_law 198 = .ok (.aload_n 2, 1) := by decide +kernel
theorem dL_law_199 : decode cL_law 199 = .ok (.aload_n 0, 1) := by decide +kernel
theorem dL_law_200 : decode cL_law 200 = .ok (.iload_n 3, 1) := by decide +kernel
theorem dL_law_201 : decode cL_law 201 = .ok (.iconst 1, 1) := by decide +kernel
theorem dL_law_202 : decode cL_law 202 = .ok (.iadd, 1) := by decide +kernel
theorem dL_law_203 : decode cL_law 203 = .ok (.iaload, 1) := by decide +kernel
theorem dL_law_204 : decode cL_law 204 = .ok (.aload_n 0, 1) := by decide +kernel
theorem dL_law_205 : decode cL_law 205 = .ok (.iload_n 3, 1) := by decide +kernel
theorem dL_law_206 : decode cL_law 206 = .ok (.iconst 2, 1) := by decide +kernel
theorem dL_law_207 : decode cL_law 207 = .ok (.iadd, 1) := by decide +kernel
theorem dL_law_208 : decode cL_law 208 = .ok (.iaload, 1) := by decide +kernel
theorem dL_law_209 : decode cL_law 209 = .ok (.aload_n 0, 1) := by decide +kernel
theorem dL_law_210 : decode cL_law 210 = .ok (.iload_n 3, 1) := by decide +kernel
theorem dL_law_211 : decode cL_law 211 = .ok (.iconst 3, 1) := by decide +kernel
theorem dL_law_212 : decode cL_law 212 = .ok (.iadd, 1) := by decide +kernel
theorem dL_law_213 : decode cL_law 213 = .ok (.iaload, 1) := by decide +kernel
theorem dL_law_214 : decode cL_law 214 = .ok (.invokevirtual 29, 3) := by decide +kernel
theorem dL_law_217 : decode cL_law 217 = .ok (.if_icmp .eq 324, 3) := by decide +kernel
theorem dL_law_220 : decode cL_law 220 = .ok (.iconst 0, 1) := by decide +kernel
theorem dL_law_221 : decode cL_law 221 = .ok (.ireturn, 1) := by decide +kernel
theorem dL_law_222 : decode cL_law 222 = .ok (.aload_n 1, 1) := by decide +kernel
theorem dL_law_223 : decode cL_law 223 = .ok (.aload_n 0, 1) := by decide +kernel
theorem dL_law_224 : decode cL_law 224 = .ok (.iload_n 3, 1) := by decide +kernel
theorem dL_law_225 : decode cL_law 225 = .ok (.iconst 1, 1) := by decide +kernel
theorem dL_law_226 : decode cL_law 226 = .ok (.iadd, 1) := by decide +kernel
theorem dL_law_227 : decode cL_law 227 = .ok (.iaload, 1) := by decide +kernel
theorem dL_law_228 : decode cL_law 228 = .ok (.aload_n 0, 1) := by decide +kernel
theorem dL_law_229 : decode cL_law 229 = .ok (.iload_n 3, 1) := by decide +kernel
theorem dL_law_230 : decode cL_law 230 = .ok (.iconst 2, 1) := by decide +kernel
theorem dL_law_231 : decode cL_law 231 = .ok (.iadd, 1) := by decide +kernel
theorem dL_law_232 : decode cL_law 232 = .ok (.iaload, 1) := by decide +kernel
theorem dL_law_233 : decode cL_law 233 = .ok (.invokevirtual 30, 3) := by decide +kernel
theorem dL_law_236 : decode cL_law 236 = .ok (.aload_n 2, 1) := by decide +kernel
theorem dL_law_237 : decode cL_law 237 = .ok (.aload_n 0, 1) := by decide +kernel
theorem dL_law_238 : decode cL_law 238 = .ok (.iload_n 3, 1) := by decide +kernel
theorem dL_law_239 : decode cL_law 239 = .ok (.iconst 1, 1) := by decide +kernel
theorem dL_law_240 : decode cL_law 240 = .ok (.iadd, 1) := by decide +kernel
theorem dL_law_241 : decode cL_law 241 = .ok (.iaload, 1) := by decide +kernel
theorem dL_law_242 : decode cL_law 242 = .ok (.aload_n 0, 1) := by decide +kernel
theorem dL_law_243 : decode cL_law 243 = .ok (.iload_n 3, 1) := by decide +kernel
theorem dL_law_244 : decode cL_law 244 = .ok (.iconst 2, 1) := by decide +kernel
theorem dL_law_245 : decode cL_law 245 = .ok (.iadd, 1) := by decide +kernel
theorem dL_law_246 : decode cL_law 246 = .ok (.iaload, 1) := by decide +kernel
theorem dL_law_247 : decode cL_law 247 = .ok (.invokevirtual 34, 3) := by decide +kernel
theorem dL_law_250 : decode cL_law 250 = .ok (.if_icmp .eq 291, 3) := by decide +kernel
theorem dL_law_253 : decode cL_law 253 = .ok (.iconst 0, 1) := by decide +kernel
theorem dL_law_254 : decode cL_law 254 = .ok (.ireturn, 1) := by decide +kernel
theorem dL_law_255 : decode cL_law 255 = .ok (.aload_n 1, 1) := by decide +kernel
theorem dL_law_256 : decode cL_law 256 = .ok (.aload_n 0, 1) := by decide +kernel
theorem dL_law_257 : decode cL_law 257 = .ok (.iload_n 3, 1) := by decide +kernel
theorem dL_law_258 : decode cL_law 258 = .ok (.iconst 1, 1) := by decide +kernel
theorem dL_law_259 : decode cL_law 259 = .ok (.iadd, 1) := by decide +kernel
theorem dL_law_260 : decode cL_law 260 = .ok (.iaload, 1) := by decide +kernel
theorem dL_law_261 : decode cL_law 261 = .ok (.invokevirtual 35, 3) := by decide +kernel
theorem dL_law_264 : decode cL_law 264 = .ok (.aload_n 2, 1) := by decide +kernel
theorem dL_law_265 : decode cL_law 265 = .ok (.aload_n 0, 1) := by decide +kernel
theorem dL_law_266 : decode cL_law 266 = .ok (.iload_n 3, 1) := by decide +kernel
theorem dL_law_267 : decode cL_law 267 = .ok (.iconst 1, 1) := by decide +kernel
theorem dL_law_268 : decode cL_law 268 = .ok (.iadd, 1) := by decide +kernel
theorem dL_law_269 : decode cL_law 269 = .ok (.iaload, 1) := by decide +kernel
theorem dL_law_270 : decode cL_law 270 = .ok (.invokevirtual 39, 3) := by decide +kernel
theorem dL_law_273 : decode cL_law 273 = .ok (.if_icmp .eq 268, 3) := by decide +kernel
theorem dL_law_276 : decode cL_law 276 = .ok (.iconst 0, 1) := by decide +kernel
theorem dL_law_277 : decode cL_law 277 = .ok (.ireturn, 1) := by decide +kernel
theorem dL_law_278 : decode cL_law 278 = .ok (.aload_n 1, 1) := by decide +kernel
theorem dL_law_279 : decode cL_law 279 = .ok (.invokevirtual 40, 3) := by decide +kernel
theorem dL_law_282 : decode cL_law 282 = .ok (.aload_n 2, 1) := by decide +kernel
theorem dL_law_283 : decode cL_law 283 = .ok (.invokevirtual 44, 3) := by decide +kernel
theorem dL_law_286 : decode cL_law 286 = .ok (.if_icmp .eq 255, 3) := by decide +kernel
theorem dL_law_289 : decode cL_law 289 = .ok (.iconst 0, 1) := by decide +kernel
theorem dL_law_290 : decode cL_law 290 = .ok (.ireturn, 1) := by decide +kernel
theorem dL_law_291 : decode cL_law 291 = .ok (.aload_n 1, 1) := by decide +kernel
theorem dL_law_292 : decode cL_law 292 = .ok (.aload_n 0, 1) := by decide +kernel
theorem dL_law_293 : decode cL_law 293 = .ok (.iload_n 3, 1) := by decide +kernel
theorem dL_law_294 : decode cL_law 294 = .ok (.iconst 1, 1) := by decide +kernel
theorem dL_law_295 : decode cL_law 295 = .ok (.iadd, 1) := by decide +kernel
theorem dL_law_296 : decode cL_law 296 = .ok (.iaload, 1) := by decide +kernel
theorem dL_law_297 : decode cL_law 297 = .ok (.invokevirtual 45, 3) := by decide +kernel
theorem dL_law_300 : decode cL_law 300 = .ok (.aload_n 2, 1) := by decide +kernel
theorem dL_law_301 : decode cL_law 301 = .ok (.aload_n 0, 1) := by decide +kernel
theorem dL_law_302 : decode cL_law 302 = .ok (.iload_n 3, 1) := by decide +kernel
theorem dL_law_303 : decode cL_law 303 = .ok (.iconst 1, 1) := by decide +kernel
theorem dL_law_304 : decode cL_law 304 = .ok (.iadd, 1) := by decide +kernel
theorem dL_law_305 : decode cL_law 305 = .ok (.iaload, 1) := by decide +kernel
theorem dL_law_306 : decode cL_law 306 = .ok (.invokevirtual 48, 3) := by decide +kernel
theorem dL_law_309 : decode cL_law 309 = .ok (.if_icmp .eq 232, 3) := by decide +kernel
theorem dL_law_312 : decode cL_law 312 = .ok (.iconst 0, 1) := by decide +kernel
theorem dL_law_313 : decode cL_law 313 = .ok (.ireturn, 1) := by decide +kernel
theorem dL_law_314 : decode cL_law 314 = .ok (.aload_n 1, 1) := by decide +kernel
theorem dL_law_315 : decode cL_law 315 = .ok (.aload_n 0, 1) := by decide +kernel
theorem dL_law_316 : decode cL_law 316 = .ok (.iload_n 3, 1) := by decide +kernel
theorem dL_law_317 : decode cL_law 317 = .ok (.iconst 1, 1) := by decide +kernel
theorem dL_law_318 : decode cL_law 318 = .ok (.iadd, 1) := by decide +kernel
theorem dL_law_319 : decode cL_law 319 = .ok (.iaload, 1) := by decide +kernel
theorem dL_law_320 : decode cL_law 320 = .ok (.invokevirtual 49, 3) := by decide +kernel
theorem dL_law_323 : decode cL_law 323 = .ok (.aload_n 2, 1) := by decide +kernel
theorem dL_law_324 : decode cL_law 324 = .ok (.aload_n 0, 1) := by decide +kernel
theorem dL_law_325 : decode cL_law 325 = .ok (.iload_n 3, 1) := by decide +kernel
theorem dL_law_326 : decode cL_law 326 = .ok (.iconst 1, 1) := by decide +kernel
theorem dL_law_327 : decode cL_law 327 = .ok (.iadd, 1) := by decide +kernel
theorem dL_law_328 : decode cL_law 328 = .ok (.iaload, 1) := by decide +kernel
theorem dL_law_329 : decode cL_law 329 = .ok (.invokevirtual 52, 3) := by decide +kernel
theorem dL_law_332 : decode cL_law 332 = .ok (.if_icmp .eq 209, 3) := by decide +kernel
theorem dL_law_335 : decode cL_law 335 = .ok (.iconst 0, 1) := by decide +kernel
theorem dL_law_336 : decode cL_law 336 = .ok (.ireturn, 1) := by decide +kernel
theorem dL_law_337 : decode cL_law 337 = .ok (.aload_n 1, 1) := by decide +kernel
theorem dL_law_338 : decode cL_law 338 = .ok (.aload_n 0, 1) := by decide +kernel
theorem dL_law_339 : decode cL_law 339 = .ok (.iload_n 3, 1) := by decide +kernel
theorem dL_law_340 : decode cL_law 340 = .ok (.iconst 1, 1) := by decide +kernel
theorem dL_law_341 : decode cL_law 341 = .ok (.iadd, 1) := by decide +kernel
theorem dL_law_342 : decode cL_law 342 = .ok (.iaload, 1) := by decide +kernel
theorem dL_law_343 : decode cL_law 343 = .ok (.aload_n 0, 1) := by decide +kernel
theorem dL_law_344 : decode cL_law 344 = .ok (.iload_n 3, 1) := by decide +kernel
theorem dL_law_345 : decode cL_law 345 = .ok (.iconst 2, 1) := by decide +kernel
theorem dL_law_346 : decode cL_law 346 = .ok (.iadd, 1) := by decide +kernel
theorem dL_law_347 : decode cL_law 347 = .ok (.iaload, 1) := by decide +kernel
theorem dL_law_348 : decode cL_law 348 = .ok (.invokevirtual 53, 3) := by decide +kernel
theorem dL_law_351 : decode cL_law 351 = .ok (.aload_n 2, 1) := by decide +kernel
theorem dL_law_352 : decode cL_law 352 = .ok (.aload_n 0, 1) := by decide +kernel
theorem dL_law_353 : decode cL_law 353 = .ok (.iload_n 3, 1) := by decide +kernel
theorem dL_law_354 : decode cL_law 354 = .ok (.iconst 1, 1) := by decide +kernel
theorem dL_law_355 : decode cL_law 355 = .ok (.iadd, 1) := by decide +kernel
theorem dL_law_356 : decode cL_law 356 = .ok (.iaload, 1) := by decide +kernel
theorem dL_law_357 : decode cL_law 357 = .ok (.aload_n 0, 1) := by decide +kernel
theorem dL_law_358 : decode cL_law 358 = .ok (.iload_n 3, 1) := by decide +kernel
theorem dL_law_359 : decode cL_law 359 = .ok (.iconst 2, 1) := by decide +kernel
theorem dL_law_360 : decode cL_law 360 = .ok (.iadd, 1) := by decide +kernel
theorem dL_law_361 : decode cL_law 361 = .ok (.iaload, 1) := by decide +kernel
theorem dL_law_362 : decode cL_law 362 = .ok (.invokevirtual 56, 3) := by decide +kernel
theorem dL_law_365 : decode cL_law 365 = .ok (.if_icmp .eq 176, 3) := by decide +kernel
theorem dL_law_368 : decode cL_law 368 = .ok (.iconst 0, 1) := by decide +kernel
theorem dL_law_369 : decode cL_law 369 = .ok (.ireturn, 1) := by decide +kernel
theorem dL_law_370 : decode cL_law 370 = .ok (.aload_n 1, 1) := by decide +kernel
theorem dL_law_371 : decode cL_law 371 = .ok (.aload_n 0, 1) := by decide +kernel
theorem dL_law_372 : decode cL_law 372 = .ok (.iload_n 3, 1) := by decide +kernel
theorem dL_law_373 : decode cL_law 373 = .ok (.iconst 1, 1) := by decide +kernel
theorem dL_law_374 : decode cL_law 374 = .ok (.iadd, 1) := by decide +kernel
theorem dL_law_375 : decode cL_law 375 = .ok (.iaload, 1) := by decide +kernel
theorem dL_law_376 : decode cL_law 376 = .ok (.invokevirtual 57, 3) := by decide +kernel
theorem dL_law_379 : decode cL_law 379 = .ok (.aload_n 2, 1) := by decide +kernel
theorem dL_law_380 : decode cL_law 380 = .ok (.aload_n 0, 1) := by decide +kernel
theorem dL_law_381 : decode cL_law 381 = .ok (.iload_n 3, 1) := by decide +kernel
theorem dL_law_382 : decode cL_law 382 = .ok (.iconst 1, 1) := by decide +kernel
theorem dL_law_383 : decode cL_law 383 = .ok (.iadd, 1) := by decide +kernel
theorem dL_law_384 : decode cL_law 384 = .ok (.iaload, 1) := by decide +kernel
theorem dL_law_385 : decode cL_law 385 = .ok (.invokevirtual 60, 3) := by decide +kernel
theorem dL_law_388 : decode cL_law 388 = .ok (.if_icmp .eq 153, 3) := by decide +kernel
theorem dL_law_391 : decode cL_law 391 = .ok (.iconst 0, 1) := by decide +kernel
theorem dL_law_392 : decode cL_law 392 = .ok (.ireturn, 1) := by decide +kernel
theorem dL_law_393 : decode cL_law 393 = .ok (.aload_n 1, 1) := by decide +kernel
theorem dL_law_394 : decode cL_law 394 = .ok (.aload_n 0, 1) := by decide +kernel
theorem dL_law_395 : decode cL_law 395 = .ok (.iload_n 3, 1) := by decide +kernel
theorem dL_law_396 : decode cL_law 396 = .ok (.iconst 1, 1) := by decide +kernel
theorem dL_law_397 : decode cL_law 397 = .ok (.iadd, 1) := by decide +kernel
theorem dL_law_398 : decode cL_law 398 = .ok (.iaload, 1) := by decide +kernel
theorem dL_law_399 : decode cL_law 399 = .ok (.aload_n 0, 1) := by decide +kernel
theorem dL_law_400 : decode cL_law 400 = .ok (.iload_n 3, 1) := by decide +kernel
theorem dL_law_401 : decode cL_law 401 = .ok (.iconst 2, 1) := by decide +kernel
theorem dL_law_402 : decode cL_law 402 = .ok (.iadd, 1) := by decide +kernel
theorem dL_law_403 : decode cL_law 403 = .ok (.iaload, 1) := by decide +kernel
theorem dL_law_404 : decode cL_law 404 = .ok (.invokevirtual 61, 3) := by decide +kernel
theorem dL_law_407 : decode cL_law 407 = .ok (.aload_n 2, 1) := by decide +kernel
theorem dL_law_408 : decode cL_law 408 = .ok (.aload_n 0, 1) := by decide +kernel
theorem dL_law_409 : decode cL_law 409 = .ok (.iload_n 3, 1) := by decide +kernel
theorem dL_law_410 : decode cL_law 410 = .ok (.iconst 1, 1) := by decide +kernel
theorem dL_law_411 : decode cL_law 411 = .ok (.iadd, 1) := by decide +kernel
theorem dL_law_412 : decode cL_law 412 = .ok (.iaload, 1) := by decide +kernel
theorem dL_law_413 : decode cL_law 413 = .ok (.aload_n 0, 1) := by decide +kernel
theorem dL_law_414 : decode cL_law 414 = .ok (.iload_n 3, 1) := by decide +kernel
theorem dL_law_415 : decode cL_law 415 = .ok (.iconst 2, 1) := by decide +kernel
theorem dL_law_416 : decode cL_law 416 = .ok (.iadd, 1) := by decide +kernel
theorem dL_law_417 : decode cL_law 417 = .ok (.iaload, 1) := by decide +kernel
theorem dL_law_418 : decode cL_law 418 = .ok (.invokevirtual 64, 3) := by decide +kernel
theorem dL_law_421 : decode cL_law 421 = .ok (.if_icmp .eq 120, 3) := by decide +kernel
theorem dL_law_424 : decode cL_law 424 = .ok (.iconst 0, 1) := by decide +kernel
theorem dL_law_425 : decode cL_law 425 = .ok (.ireturn, 1) := by decide +kernel
theorem dL_law_426 : decode cL_law 426 = .ok (.aload_n 1, 1) := by decide +kernel
theorem dL_law_427 : decode cL_law 427 = .ok (.aload_n 0, 1) := by decide +kernel
theorem dL_law_428 : decode cL_law 428 = .ok (.iload_n 3, 1) := by decide +kernel
theorem dL_law_429 : decode cL_law 429 = .ok (.iconst 1, 1) := by decide +kernel
theorem dL_law_430 : decode cL_law 430 = .ok (.iadd, 1) := by decide +kernel
theorem dL_law_431 : decode cL_law 431 = .ok (.iaload, 1) := by decide +kernel
theorem dL_law_432 : decode cL_law 432 = .ok (.invokevirtual 65, 3) := by decide +kernel
theorem dL_law_435 : decode cL_law 435 = .ok (.aload_n 2, 1) := by decide +kernel
theorem dL_law_436 : decode cL_law 436 = .ok (.aload_n 0, 1) := by decide +kernel
theorem dL_law_437 : decode cL_law 437 = .ok (.iload_n 3, 1) := by decide +kernel
theorem dL_law_438 : decode cL_law 438 = .ok (.iconst 1, 1) := by decide +kernel
theorem dL_law_439 : decode cL_law 439 = .ok (.iadd, 1) := by decide +kernel
theorem dL_law_440 : decode cL_law 440 = .ok (.iaload, 1) := by decide +kernel
theorem dL_law_441 : decode cL_law 441 = .ok (.invokevirtual 68, 3) := by decide +kernel
theorem dL_law_444 : decode cL_law 444 = .ok (.if_icmp .eq 97, 3) := by decide +kernel
theorem dL_law_447 : decode cL_law 447 = .ok (.iconst 0, 1) := by decide +kernel
theorem dL_law_448 : decode cL_law 448 = .ok (.ireturn, 1) := by decide +kernel
theorem dL_law_449 : decode cL_law 449 = .ok (.aload_n 1, 1) := by decide +kernel
theorem dL_law_450 : decode cL_law 450 = .ok (.invokevirtual 69, 3) := by decide +kernel
theorem dL_law_453 : decode cL_law 453 = .ok (.aload_n 2, 1) := by decide +kernel
theorem dL_law_454 : decode cL_law 454 = .ok (.invokevirtual 72, 3) := by decide +kernel
theorem dL_law_457 : decode cL_law 457 = .ok (.if_icmp .eq 84, 3) := by decide +kernel
theorem dL_law_460 : decode cL_law 460 = .ok (.iconst 0, 1) := by decide +kernel
theorem dL_law_461 : decode cL_law 461 = .ok (.ireturn, 1) := by decide +kernel
theorem dL_law_462 : decode cL_law 462 = .ok (.aload_n 1, 1) := by decide +kernel
theorem dL_law_463 : decode cL_law 463 = .ok (.aload_n 0, 1) := by decide +kernel
theorem dL_law_464 : decode cL_law 464 = .ok (.iload_n 3, 1) := by decide +kernel
theorem dL_law_465 : decode cL_law 465 = .ok (.iconst 1, 1) := by decide +kernel
theorem dL_law_466 : decode cL_law 466 = .ok (.iadd, 1) := by decide +kernel
theorem dL_law_467 : decode cL_law 467 = .ok (.iaload, 1) := by decide +kernel
theorem dL_law_468 : decode cL_law 468 = .ok (.invokevirtual 73, 3) := by decide +kernel
theorem dL_law_471 : decode cL_law 471 = .ok (.aload_n 2, 1) := by decide +kernel
theorem dL_law_472 : decode cL_law 472 = .ok (.aload_n 0, 1) := by decide +kernel
theorem dL_law_473 : decode cL_law 473 = .ok (.iload_n 3, 1) := by decide +kernel
theorem dL_law_474 : decode cL_law 474 = .ok (.iconst 1, 1) := by decide +kernel
theorem dL_law_475 : decode cL_law 475 = .ok (.iadd, 1) := by decide +kernel
theorem dL_law_476 : decode cL_law 476 = .ok (.iaload, 1) := by decide +kernel
theorem dL_law_477 : decode cL_law 477 = .ok (.invokevirtual 76, 3) := by decide +kernel
theorem dL_law_480 : decode cL_law 480 = .ok (.if_icmp .eq 61, 3) := by decide +kernel
theorem dL_law_483 : decode cL_law 483 = .ok (.iconst 0, 1) := by decide +kernel
theorem dL_law_484 : decode cL_law 484 = .ok (.ireturn, 1) := by decide +kernel
theorem dL_law_485 : decode cL_law 485 = .ok (.aload_n 1, 1) := by decide +kernel
theorem dL_law_486 : decode cL_law 486 = .ok (.aload_n 0, 1) := by decide +kernel
theorem dL_law_487 : decode cL_law 487 = .ok (.iload_n 3, 1) := by decide +kernel
theorem dL_law_488 : decode cL_law 488 = .ok (.iconst 1, 1) := by decide +kernel
theorem dL_law_489 : decode cL_law 489 = .ok (.iadd, 1) := by decide +kernel
theorem dL_law_490 : decode cL_law 490 = .ok (.iaload, 1) := by decide +kernel
theorem dL_law_491 : decode cL_law 491 = .ok (.aload_n 0, 1) := by decide +kernel
theorem dL_law_492 : decode cL_law 492 = .ok (.iload_n 3, 1) := by decide +kernel
theorem dL_law_493 : decode cL_law 493 = .ok (.iconst 2, 1) := by decide +kernel
theorem dL_law_494 : decode cL_law 494 = .ok (.iadd, 1) := by decide +kernel
theorem dL_law_495 : decode cL_law 495 = .ok (.iaload, 1) := by decide +kernel
theorem dL_law_496 : decode cL_law 496 = .ok (.invokevirtual 77, 3) := by decide +kernel
theorem dL_law_499 : decode cL_law 499 = .ok (.aload_n 2, 1) := by decide +kernel
theorem dL_law_500 : decode cL_law 500 = .ok (.aload_n 0, 1) := by decide +kernel
theorem dL_law_501 : decode cL_law 501 = .ok (.iload_n 3, 1) := by decide +kernel
theorem dL_law_502 : decode cL_law 502 = .ok (.iconst 1, 1) := by decide +kernel
theorem dL_law_503 : decode cL_law 503 = .ok (.iadd, 1) := by decide +kernel
theorem dL_law_504 : decode cL_law 504 = .ok (.iaload, 1) := by decide +kernel
theorem dL_law_505 : decode cL_law 505 = .ok (.aload_n 0, 1) := by decide +kernel
theorem dL_law_506 : decode cL_law 506 = .ok (.iload_n 3, 1) := by decide +kernel
theorem dL_law_507 : decode cL_law 507 = .ok (.iconst 2, 1) := by decide +kernel
theorem dL_law_508 : decode cL_law 508 = .ok (.iadd, 1) := by decide +kernel
theorem dL_law_509 : decode cL_law 509 = .ok (.iaload, 1) := by decide +kernel
theorem dL_law_510 : decode cL_law 510 = .ok (.invokevirtual 80, 3) := by decide +kernel
theorem dL_law_513 : decode cL_law 513 = .ok (.if_icmp .eq 28, 3) := by decide +kernel
theorem dL_law_516 : decode cL_law 516 = .ok (.iconst 0, 1) := by decide +kernel
theorem dL_law_517 : decode cL_law 517 = .ok (.ireturn, 1) := by decide +kernel
theorem dL_law_518 : decode cL_law 518 = .ok (.aload_n 1, 1) := by decide +kernel
theorem dL_law_519 : decode cL_law 519 = .ok (.aload_n 0, 1) := by decide +kernel
theorem dL_law_520 : decode cL_law 520 = .ok (.iload_n 3, 1) := by decide +kernel
theorem dL_law_521 : decode cL_law 521 = .ok (.iconst 1, 1) := by decide +kernel
theorem dL_law_522 : decode cL_law 522 = .ok (.iadd, 1) := by decide +kernel
theorem dL_law_523 : decode cL_law 523 = .ok (.iaload, 1) := by decide +kernel
theorem dL_law_524 : decode cL_law 524 = .ok (.invokevirtual 81, 3) := by decide +kernel
theorem dL_law_527 : decode cL_law 527 = .ok (.aload_n 2, 1) := by decide +kernel
theorem dL_law_528 : decode cL_law 528 = .ok (.aload_n 0, 1) := by decide +kernel
theorem dL_law_529 : decode cL_law 529 = .ok (.iload_n 3, 1) := by decide +kernel
theorem dL_law_530 : decode cL_law 530 = .ok (.iconst 1, 1) := by decide +kernel
theorem dL_law_531 : decode cL_law 531 = .ok (.iadd, 1) := by decide +kernel
theorem dL_law_532 : decode cL_law 532 = .ok (.iaload, 1) := by decide +kernel
theorem dL_law_533 : decode cL_law 533 = .ok (.invokevirtual 84, 3) := by decide +kernel
theorem dL_law_536 : decode cL_law 536 = .ok (.if_icmp .eq 5, 3) := by decide +kernel
theorem dL_law_539 : decode cL_law 539 = .ok (.iconst 0, 1) := by decide +kernel
theorem dL_law_540 : decode cL_law 540 = .ok (.ireturn, 1) := by decide +kernel
theorem dL_law_541 : decode cL_law 541 = .ok (.iinc 3 4, 3) := by decide +kernel
theorem dL_law_544 : decode cL_law 544 = .ok (.goto (-496), 3) := by decide +kernel
theorem dL_law_547 : decode cL_law 547 = .ok (.iconst 1, 1) := by decide +kernel
theorem dL_law_548 : decode cL_law 548 = .ok (.ireturn, 1) := by decide +kernel
