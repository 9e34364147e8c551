theorem dX6_holdBallot_121 : decode cX6_holdBallot 121 = .ok (.ishl, 1) := by decide +kernel
theorem dX6_holdBallot_122 : decode cX6_holdBallot 122 = .ok (.istore 6, 2) := by decide +kernel
theorem dX6_holdBallot_124 : decode cX6_holdBallot 124 = .ok (.aload_n 0, 1) := by decide +kernel
theorem dX6_holdBallot_125 : decode cX6_holdBallot 125 = .ok (.getfield 7, 3) := by decide +kernel
theorem dX6_holdBallot_128 : decode cX6_holdBallot 128 = .ok (.bipush 59, 2) := by decide +kernel
theorem dX6_holdBallot_130 : decode cX6_holdBallot 130 = .ok (.iload 5, 2) := by decide +kernel
theorem dX6_holdBallot_132 : decode cX6_holdBallot 132 = .ok (.iadd, 1) := by decide +kernel
theorem dX6_holdBallot_133 : decode cX6_holdBallot 133 = .ok (.dup2, 1) := by decide +kernel
theorem dX6_holdBallot_134 : decode cX6_holdBallot 134 = .ok (.iaload, 1) := by decide +kernel
theorem dX6_holdBallot_135 : decode cX6_holdBallot 135 = .ok (.aload_n 0, 1) := by decide +kernel
theorem dX6_holdBallot_136 : decode cX6_holdBallot 136 = .ok (.iload_n 2, 1) := by decide +kernel
theorem dX6_holdBallot_137 : decode cX6_holdBallot 137 = .ok (.iload 6, 2) := by decide +kernel
theorem dX6_holdBallot_139 : decode cX6_holdBallot 139 = .ok (.ior, 1) := by decide +kernel
theorem dX6_holdBallot_140 : decode cX6_holdBallot 140 = .ok (.aload_n 0, 1) := by decide +kernel
theorem dX6_holdBallot_141 : decode cX6_holdBallot 141 = .ok (.getfield 7, 3) := by decide +kernel
theorem dX6_holdBallot_144 : decode cX6_holdBallot 144 = .ok (.iconst 1, 1) := by decide +kernel
theorem dX6_holdBallot_145 : decode cX6_holdBallot 145 = .ok (.iaload, 1) := by decide +kernel
theorem dX6_holdBallot_146 : decode cX6_holdBallot 146 = .ok (.invokevirtual 96, 3) := by decide +kernel
theorem dX6_holdBallot_149 : decode cX6_holdBallot 149 = .ok (.ifCond .eq 26, 3) := by decide +kernel
theorem dX6_holdBallot_152 : decode cX6_holdBallot 152 = .ok (.aload_n 0, 1) := by decide +kernel
theorem dX6_holdBallot_153 : decode cX6_holdBallot 153 = .ok (.iload_n 2, 1) := by decide +kernel
theorem dX6_holdBallot_154 : decode cX6_holdBallot 154 = .ok (.iload 6, 2) := by decide +kernel
theorem dX6_holdBallot_156 : decode cX6_holdBallot 156 = .ok (.iconst (-1), 1) := by decide +kernel
theorem dX6_holdBallot_157 : decode cX6_holdBallot 157 = .ok (.ixor, 1) := by decide +kernel
theorem dX6_holdBallot_158 : decode cX6_holdBallot 158 = .ok (.iand, 1) := by decide +kernel
theorem dX6_holdBallot_159 : decode cX6_holdBallot 159 = .ok (.aload_n 0, 1) := by decide +kernel
theorem dX6_holdBallot_160 : decode cX6_holdBallot 160 = .ok (.getfield 7, 3) := by decide +kernel
theorem dX6_holdBallot_163 : decode cX6_holdBallot 163 = .ok (.iconst 1, 1) := by decide +kernel
theorem dX6_holdBallot_164 : decode cX6_holdBallot 164 = .ok (.iaload, 1) := by decide +kernel
theorem dX6_holdBallot_165 : decode cX6_holdBallot 165 = .ok (.invokevirtual 96, 3) := by decide +kernel
theorem dX6_holdBallot_168 : decode cX6_holdBallot 168 = .ok (.ifCond .ne 7, 3) := by decide +kernel
theorem dX6_holdBallot_171 : decode cX6_holdBallot 171 = .ok (.iconst 1, 1) := by decide +kernel
theorem dX6_holdBallot_172 : decode cX6_holdBallot 172 = .ok (.goto 4, 3) := by decide +kernel
theorem dX6_holdBallot_175 : decode cX6_holdBallot 175 = .ok (.iconst 0, 1) := by decide +kernel
theorem dX6_holdBallot_176 : decode cX6_holdBallot 176 = .ok (.iadd, 1) := by decide +kernel
theorem dX6_holdBallot_177 : decode cX6_holdBallot 177 = .ok (.iastore, 1) := by decide +kernel
theorem dX6_holdBallot_178 : decode cX6_holdBallot 178 = .ok (.iinc 5 1, 3) := by decide +kernel
theorem dX6_holdBallot_181 : decode cX6_holdBallot 181 = .ok (.goto (-78), 3) := by decide +kernel
theorem dX6_holdBallot_184 : decode cX6_holdBallot 184 = .ok (.bipush 23, 2) := by decide +kernel
theorem dX6_holdBallot_186 : decode cX6_holdBallot 186 = .ok (.istore 5, 2) := by decide +kernel
theorem dX6_holdBallot_188 : decode cX6_holdBallot 188 = .ok (.iload 5, 2) := by decide +kernel
theorem dX6_holdBallot_190 : decode cX6_holdBallot 190 = .ok (.iconst 2, 1) := by decide +kernel
theorem dX6_holdBallot_191 : decode cX6_holdBallot 191 = .ok (.if_icmp .le 29, 3) := by decide +kernel
theorem dX6_holdBallot_194 : decode cX6_holdBallot 194 = .ok (.aload_n 0, 1) := by decide +kernel
theorem dX6_holdBallot_195 : decode cX6_holdBallot 195 = .ok (.getfield 7, 3) := by decide +kernel
theorem dX6_holdBallot_198 : decode cX6_holdBallot 198 = .ok (.iconst 5, 1) := by decide +kernel
theorem dX6_holdBallot_199 : decode cX6_holdBallot 199 = .ok (.iload 5, 2) := by decide +kernel
theorem dX6_holdBallot_201 : decode cX6_holdBallot 201 = .ok (.iadd, 1) := by decide +kernel
theorem dX6_holdBallot_202 : decode cX6_holdBallot 202 = .ok (.aload_n 0, 1) := by decide +kernel
theorem dX6_holdBallot_203 : decode cX6_holdBallot 203 = .ok (.getfield 7, 3) := by decide +kernel
theorem dX6_holdBallot_206 : decode cX6_holdBallot 206 = .ok (.iconst 5, 1) := by decide +kernel
theorem dX6_holdBallot_207 : decode cX6_holdBallot 207 = .ok (.iload 5, 2) := by decide +kernel
theorem dX6_holdBallot_209 : decode cX6_holdBallot 209 = .ok (.iadd, 1) := by decide +kernel
theorem dX6_holdBallot_210 : decode cX6_holdBallot 210 = .ok (.iconst 3, 1) := by decide +kernel
theorem dX6_holdBallot_211 : decode cX6_holdBallot 211 = .ok (.isub, 1) := by decide +kernel
theorem dX6_holdBallot_212 : decode cX6_holdBallot 212 = .ok (.iaload, 1) := by decide +kernel
theorem dX6_holdBallot_213 : decode cX6_holdBallot 213 = .ok (.iastore, 1) := by decide +kernel
theorem dX6_holdBallot_214 : decode cX6_holdBallot 214 = .ok (.iinc 5 (-1), 3) := by decide +kernel
theorem dX6_holdBallot_217 : decode cX6_holdBallot 217 = .ok (.goto (-29), 3) := by decide +kernel
theorem dX6_holdBallot_220 : decode cX6_holdBallot 220 = .ok (.aload_n 0, 1) := by decide +kernel
theorem dX6_holdBallot_221 : decode cX6_holdBallot 221 = .ok (.getfield 7, 3) := by decide +kernel
theorem dX6_holdBallot_224 : decode cX6_holdBallot 224 = .ok (.iconst 5, 1) := by decide +kernel
theorem dX6_holdBallot_225 : decode cX6_holdBallot 225 = .ok (.iload 4, 2) := by decide +kernel
theorem dX6_holdBallot_227 : decode cX6_holdBallot 227 = .ok (.ifCond .eq 7, 3) := by decide +kernel
theorem dX6_holdBallot_230 : decode cX6_holdBallot 230 = .ok (.iconst 1, 1) := by decide +kernel
theorem dX6_holdBallot_231 : decode cX6_holdBallot 231 = .ok (.goto 4, 3) := by decide +kernel
theorem dX6_holdBallot_234 : decode cX6_holdBallot 234 = .ok (.iconst 0, 1) := by decide +kernel
theorem dX6_holdBallot_235 : decode cX6_holdBallot 235 = .ok (.iastore, 1) := by decide +kernel
theorem dX6_holdBallot_236 : decode cX6_holdBallot 236 = .ok (.aload_n 0, 1) := by decide +kernel
theorem dX6_holdBallot_237 : decode cX6_holdBallot 237 = .ok (.getfield 7, 3) := by decide +kernel
theorem dX6_holdBallot_240 : decode cX6_holdBallot 240 = .ok (.bipush 6, 2) := by decide +kernel
theorem dX6_holdBallot_242 : decode cX6_holdBallot 242 = .ok (.aload_n 0, 1) := by decide +kernel
theorem dX6_holdBallot_243 : decode cX6_holdBallot 243 = .ok (.iload_n 2, 1) := by decide +kernel
theorem dX6_holdBallot_244 : decode cX6_holdBallot 244 = .ok (.invokevirtual 90, 3) := by decide +kernel
theorem dX6_holdBallot_247 : decode cX6_holdBallot 247 = .ok (.iastore, 1) := by decide +kernel
theorem dX6_holdBallot_248 : decode cX6_holdBallot 248 = .ok (.aload_n 0, 1) := by decide +kernel
theorem dX6_holdBallot_249 : decode cX6_holdBallot 249 = .ok (.getfield 7, 3) := by decide +kernel
theorem dX6_holdBallot_252 : decode cX6_holdBallot 252 = .ok (.bipush 7, 2) := by decide +kernel
theorem dX6_holdBallot_254 : decode cX6_holdBallot 254 = .ok (.iload_n 3, 1) := by decide +kernel
theorem dX6_holdBallot_255 : decode cX6_holdBallot 255 = .ok (.iastore, 1) := by decide +kernel
theorem dX6_holdBallot_256 : decode cX6_holdBallot 256 = .ok (.aload_n 0, 1) := by decide +kernel
theorem dX6_holdBallot_257 : decode cX6_holdBallot 257 = .ok (.getfield 7, 3) := by decide +kernel
theorem dX6_holdBallot_260 : decode cX6_holdBallot 260 = .ok (.iconst 4, 1) := by decide +kernel
theorem dX6_holdBallot_261 : decode cX6_holdBallot 261 = .ok (.aload_n 0, 1) := by decide +kernel
theorem dX6_holdBallot_262 : decode cX6_holdBallot 262 = .ok (.getfield 7, 3) := by decide +kernel
theorem dX6_holdBallot_265 : decode cX6_holdBallot 265 = .ok (.iconst 4, 1) := by decide +kernel
theorem dX6_holdBallot_266 : decode cX6_holdBallot 266 = .ok (.iaload, 1) := by decide +kernel
theorem dX6_holdBallot_267 : decode cX6_holdBallot 267 = .ok (.bipush 8, 2) := by decide +kernel
theorem dX6_holdBallot_269 : decode cX6_holdBallot 269 = .ok (.if_icmp .ge 14, 3) := by decide +kernel
theorem dX6_holdBallot_272 : decode cX6_holdBallot 272 = .ok (.aload_n 0, 1) := by decide +kernel
theorem dX6_holdBallot_273 : decode cX6_holdBallot 273 = .ok (.getfield 7, 3) := by decide +kernel
theorem dX6_holdBallot_276 : decode cX6_holdBallot 276 = .ok (.iconst 4, 1) := by decide +kernel
theorem dX6_holdBallot_277 : decode cX6_holdBallot 277 = .ok (.iaload, 1) := by decide +kernel
theorem dX6_holdBallot_278 : decode cX6_holdBallot 278 = .ok (.iconst 1, 1) := by decide +kernel
theorem dX6_holdBallot_279 : decode cX6_holdBallot 279 = .ok (.iadd, 1) := by decide +kernel
theorem dX6_holdBallot_280 : decode cX6_holdBallot 280 = .ok (.goto 5, 3) := by decide +kernel
theorem dX6_holdBallot_283 : decode cX6_holdBallot 283 = .ok (.bipush 8, 2) := by decide +kernel
theorem dX6_holdBallot_285 : decode cX6_holdBallot 285 = .ok (.iastore, 1) := by decide +kernel
theorem dX6_holdBallot_286 : decode cX6_holdBallot 286 = .ok (.aload_n 0, 1) := by decide +kernel
theorem dX6_holdBallot_287 : decode cX6_holdBallot 287 = .ok (.getfield 7, 3) := by decide +kernel
theorem dX6_holdBallot_290 : decode cX6_holdBallot 290 = .ok (.iconst 2, 1) := by decide +kernel
theorem dX6_holdBallot_291 : decode cX6_holdBallot 291 = .ok (.dup2, 1) := by decide +kernel
theorem dX6_holdBallot_292 : decode cX6_holdBallot 292 = .ok (.iaload, 1) := by decide +kernel
theorem dX6_holdBallot_293 : decode cX6_holdBallot 293 = .ok (.iconst 1, 1) := by decide +kernel
theorem dX6_holdBallot_294 : decode cX6_holdBallot 294 = .ok (.iadd, 1) := by decide +kernel
theorem dX6_holdBallot_295 : decode cX6_holdBallot 295 = .ok (.iastore, 1) := by decide +kernel
theorem dX6_holdBallot_296 : decode cX6_holdBallot 296 = .ok (.aload_n 0, 1) := by decide +kernel
theorem dX6_holdBallot_297 : decode cX6_holdBallot 297 = .ok (.getfield 7, 3) := by decide +kernel
theorem dX6_holdBallot_300 : decode cX6_holdBallot 300 = .ok (.iconst 3, 1) := by decide +kernel
theorem dX6_holdBallot_301 : decode cX6_holdBallot 301 = .ok (.dup2, 1) := by decide +kernel
theorem dX6_holdBallot_302 : decode cX6_holdBallot 302 = .ok (.iaload, 1) := by decide +kernel
theorem dX6_holdBallot_303 : decode cX6_holdBallot 303 = .ok (.iload 4, 2) := by decide +kernel
theorem dX6_holdBallot_305 : decode cX6_holdBallot 305 = .ok (.ifCond .eq 7, 3) := by decide +kernel
theorem dX6_holdBallot_308 : decode cX6_holdBallot 308 = .ok (.iconst 1, 1) := by decide +kernel
theorem dX6_holdBallot_309 : decode cX6_holdBallot 309 = .ok (.goto 4, 3) := by decide +kernel
theorem dX6_holdBallot_312 : decode cX6_holdBallot 312 = .ok (.iconst 0, 1) := by decide +kernel
theorem dX6_holdBallot_313 : decode cX6_holdBallot 313 = .ok (.iadd, 1) := by decide +kernel
theorem dX6_holdBallot_314 : decode cX6_holdBallot 314 = .ok (.iastore, 1) := by decide +kernel
theorem dX6_holdBallot_315 : decode cX6_holdBallot 315 = .ok (.iload 4, 2) := by decide +kernel
theorem dX6_holdBallot_317 : decode cX6_holdBallot 317 = .ok (.ireturn, 1) := by decide +kernel
theorem dX6_vote_0 : decode cX6_vote 0 = .ok (.aload_n 0, 1) := by decide +kernel
theorem dX6_vote_1 : decode cX6_vote 1 = .ok (.getfield 7, 3) := by decide +kernel
theorem dX6_vote_4 : decode cX6_vote 4 = .ok (.iconst 0, 1) := by decide +kernel
theorem dX6_vote_5 : decode cX6_vote 5 = .ok (.iaload, 1) := by decide +kernel
theorem dX6_vote_6 : decode cX6_vote 6 = .ok (.ifCond .ne 6, 3) := by decide +kernel
theorem dX6_vote_9 : decode cX6_vote 9 = .ok (.bipush (-100), 2) := by decide +kernel
theorem dX6_vote_11 : decode cX6_vote 11 = .ok (.ireturn, 1) := by decide +kernel
theorem dX6_vote_12 : decode cX6_vote 12 = .ok (.aload_n 0, 1) := by decide +kernel
theorem dX6_vote_13 : decode cX6_vote 13 = .ok (.iconst 0, 1) := by decide +kernel
theorem dX6_vote_14 : decode cX6_vote 14 = .ok (.invokevirtual 138, 3) := by decide +kernel
theorem dX6_vote_17 : decode cX6_vote 17 = .ok (.ifCond .ge 11, 3) := by decide +kernel
theorem dX6_vote_20 : decode cX6_vote 20 = .ok (.bipush (-100), 2) := by decide +kernel
theorem dX6_vote_22 : decode cX6_vote 22 = .ok (.aload_n 0, 1) := by decide +kernel
theorem dX6_vote_23 : decode cX6_vote 23 = .ok (.getfield 129, 3) := by decide +kernel
theorem dX6_vote_26 : decode cX6_vote 26 = .ok (.isub, 1) := by decide +kernel
theorem dX6_vote_27 : decode cX6_vote 27 = .ok (.ireturn, 1) := by decide +kernel
theorem dX6_vote_28 : decode cX6_vote 28 = .ok (.aload_n 0, 1) := by decide +kernel
theorem dX6_vote_29 : decode cX6_vote 29 = .ok (.invokevirtual 50, 3) := by decide +kernel
theorem dX6_vote_32 : decode cX6_vote 32 = .ok (.aload_n 0, 1) := by decide +kernel
theorem dX6_vote_33 : decode cX6_vote 33 = .ok (.iconst 1, 1) := by decide +kernel
theorem dX6_vote_34 : decode cX6_vote 34 = .ok (.invokevirtual 138, 3) := by decide +kernel
theorem dX6_vote_37 : decode cX6_vote 37 = .ok (.ireturn, 1) := by decide +kernel
theorem dX6_rank_0 : decode cX6_rank 0 = .ok (.iconst 0, 1) := by decide +kernel
theorem dX6_rank_1 : decode cX6_rank 1 = .ok (.istore_n 2, 1) := by decide +kernel
theorem dX6_rank_2 : decode cX6_rank 2 = .ok (.iconst 0, 1) := by decide +kernel
theorem dX6_rank_3 : decode cX6_rank 3 = .ok (.istore_n 3, 1) := by decide +kernel
theorem dX6_rank_4 : decode cX6_rank 4 = .ok (.iload_n 3, 1) := by decide +kernel
theorem dX6_rank_5 : decode cX6_rank 5 = .ok (.aload_n 0, 1) := by decide +kernel
theorem dX6_rank_6 : decode cX6_rank 6 = .ok (.getfield 7, 3) := by decide +kernel
theorem dX6_rank_9 : decode cX6_rank 9 = .ok (.iconst 0, 1) := by decide +kernel
theorem dX6_rank_10 : decode cX6_rank 10 = .ok (.iaload, 1) := by decide +kernel
theorem dX6_rank_11 : decode cX6_rank 11 = .ok (.if_icmp .ge 86, 3) := by decide +kernel
theorem dX6_rank_14 : decode cX6_rank 14 = .ok (.aload_n 0, 1) := by decide +kernel
theorem dX6_rank_15 : decode cX6_rank 15 = .ok (.getfield 36, 3) := by decide +kernel
theorem dX6_rank_18 : decode cX6_rank 18 = .ok (.aload_n 0, 1) := by decide +kernel
theorem dX6_rank_19 : decode cX6_rank 19 = .ok (.iload_n 3, 1) := by decide +kernel
theorem dX6_rank_20 : decode cX6_rank 20 = .ok (.invokevirtual 83, 3) := by decide +kernel
theorem dX6_rank_23 : decode cX6_rank 23 = .ok (.iaload, 1) := by decide +kernel
theorem dX6_rank_24 : decode cX6_rank 24 = .ok (.aload_n 0, 1) := by decide +kernel
theorem dX6_rank_25 : decode cX6_rank 25 = .ok (.getfield 36, 3) := by decide +kernel
theorem dX6_rank_28 : decode cX6_rank 28 = .ok (.aload_n 0, 1) := by decide +kernel
theorem dX6_rank_29 : decode cX6_rank 29 = .ok (.iload_n 1, 1) := by decide +kernel
theorem dX6_rank_30 : decode cX6_rank 30 = .ok (.invokevirtual 83, 3) := by decide +kernel
theorem dX6_rank_33 : decode cX6_rank 33 = .ok (.iaload, 1) := by decide +kernel
theorem dX6_rank_34 : decode cX6_rank 34 = .ok (.isub, 1) := by decide +kernel
theorem dX6_rank_35 : decode cX6_rank 35 = .ok (.istore 4, 2) := by decide +kernel
theorem dX6_rank_37 : decode cX6_rank 37 = .ok (.iload 4, 2) := by decide +kernel
theorem dX6_rank_39 : decode cX6_rank 39 = .ok (.ifCond .ne 25, 3) := by decide +kernel
theorem dX6_rank_42 : decode cX6_rank 42 = .ok (.aload_n 0, 1) := by decide +kernel
theorem dX6_rank_43 : decode cX6_rank 43 = .ok (.getfield 7, 3) := by decide +kernel
theorem dX6_rank_46 : decode cX6_rank 46 = .ok (.bipush 29, 2) := by decide +kernel
theorem dX6_rank_48 : decode cX6_rank 48 = .ok (.iload_n 3, 1) := by decide +kernel
theorem dX6_rank_49 : decode cX6_rank 49 = .ok (.iadd, 1) := by decide +kernel
theorem dX6_rank_50 : decode cX6_rank 50 = .ok (.iaload, 1) := by decide +kernel
theorem dX6_rank_51 : decode cX6_rank 51 = .ok (.aload_n 0, 1) := by decide +kernel
theorem dX6_rank_52 : decode cX6_rank 52 = .ok (.getfield 7, 3) := by decide +kernel
theorem dX6_rank_55 : decode cX6_rank 55 = .ok (.bipush 29, 2) := by decide +kernel
theorem dX6_rank_57 : decode cX6_rank 57 = .ok (.iload_n 1, 1) := by decide +kernel
theorem dX6_rank_58 : decode cX6_rank 58 = .ok (.iadd, 1) := by decide +kernel
theorem dX6_rank_59 : decode cX6_rank 59 = .ok (.iaload, 1) := by decide +kernel
theorem dX6_rank_60 : decode cX6_rank 60 = .ok (.isub, 1) := by decide +kernel
theorem dX6_rank_61 : decode cX6_rank 61 = .ok (.goto 5, 3) := by decide +kernel
theorem dX6_rank_64 : decode cX6_rank 64 = .ok (.iload 4, 2) := by decide +kernel
theorem dX6_rank_66 : decode cX6_rank 66 = .ok (.istore 4, 2) := by decide +kernel
theorem dX6_rank_68 : decode cX6_rank 68 = .ok (.iload_n 2, 1) := by decide +kernel
theorem dX6_rank_69 : decode cX6_rank 69 = .ok (.iload 4, 2) := by decide +kernel
theorem dX6_rank_71 : decode cX6_rank 71 = .ok (.ifCond .gt 13, 3) := by decide +kernel
theorem dX6_rank_74 : decode cX6_rank 74 = .ok (.iload 4, 2) := by decide +kernel
theorem dX6_rank_76 : decode cX6_rank 76 = .ok (.ifCond .ne 12, 3) := by decide +kernel
theorem dX6_rank_79 : decode cX6_rank 79 = .ok (.iload_n 3, 1) := by decide +kernel
theorem dX6_rank_80 : decode cX6_rank 80 = .ok (.iload_n 1, 1) := by decide +kernel
theorem dX6_rank_81 : decode cX6_rank 81 = .ok (.if_icmp .ge 7, 3) := by decide +kernel
theorem dX6_rank_84 : decode cX6_rank 84 = .ok (.iconst 1, 1) := by decide +kernel
theorem dX6_rank_85 : decode cX6_rank 85 = .ok (.goto 4, 3) := by decide +kernel
theorem dX6_rank_88 : decode cX6_rank 88 = .ok (.iconst 0, 1) := by decide +kernel
theorem dX6_rank_89 : decode cX6_rank 89 = .ok (.iadd, 1) := by decide +kernel
theorem dX6_rank_90 : decode cX6_rank 90 = .ok (.istore_n 2, 1) := by decide +kernel
theorem dX6_rank_91 : decode cX6_rank 91 = .ok (.iinc 3 1, 3) := by decide +kernel
theorem dX6_rank_94 : decode cX6_rank 94 = .ok (.goto (-90), 3) := by decide +kernel
theorem dX6_rank_97 : decode cX6_rank 97 = .ok (.iload_n 2, 1) := by decide +kernel
theorem dX6_rank_98 : decode cX6_rank 98 = .ok (.ireturn, 1) := by decide +kernel
theorem dX6_member_0 : decode cX6_member 0 = .ok (.aload_n 0, 1) := by decide +kernel
theorem dX6_member_1 : decode cX6_member 1 = .ok (.iload_n 1, 1) := by decide +kernel
theorem dX6_member_2 : decode cX6_member 2 = .ok (.invokevirtual 57, 3) := by decide +kernel
theorem dX6_member_5 : decode cX6_member 5 = .ok (.ifCond .eq 5, 3) := by decide +kernel
theorem dX6_member_8 : decode cX6_member 8 = .ok (.iconst (-1), 1) := by decide +kernel
theorem dX6_member_9 : decode cX6_member 9 = .ok (.ireturn, 1) := by decide +kernel
theorem dX6_member_10 : decode cX6_member 10 = .ok (.aload_n 0, 1) := by decide +kernel
theorem dX6_member_11 : decode cX6_member 11 = .ok (.invokevirtual 114, 3) := by decide +kernel
theorem dX6_member_14 : decode cX6_member 14 = .ok (.aload_n 0, 1) := by decide +kernel
theorem dX6_member_15 : decode cX6_member 15 = .ok (.iload_n 1, 1) := by decide +kernel
theorem dX6_member_16 : decode cX6_member 16 = .ok (.invokevirtual 83, 3) := by decide +kernel
theorem dX6_member_19 : decode cX6_member 19 = .ok (.istore_n 3, 1) := by decide +kernel
theorem dX6_member_20 : decode cX6_member 20 = .ok (.iload_n 2, 1) := by decide +kernel
theorem dX6_member_21 : decode cX6_member 21 = .ok (.tableswitch 178 0 11 #[63, 73, 83, 93, 100, 106, 113, 119, 134, 148, 162, 168], 63) := by decide +kernel
theorem dX6_member_84 : decode cX6_member 84 = .ok (.aload_n 0, 1) := by decide +kernel
theorem dX6_member_85 : decode cX6_member 85 = .ok (.getfield 7, 3) := by decide +kernel
theorem dX6_member_88 : decode cX6_member 88 = .ok (.bipush 29, 2) := by decide +kernel
theorem dX6_member_90 : decode cX6_member 90 = .ok (.iload_n 1, 1) := by decide +kernel
theorem dX6_member_91 : decode cX6_member 91 = .ok (.iadd, 1) := by decide +kernel
theorem dX6_member_92 : decode cX6_member 92 = .ok (.iaload, 1) := by decide +kernel
theorem dX6_member_93 : decode cX6_member 93 = .ok (.ireturn, 1) := by decide +kernel
theorem dX6_member_94 : decode cX6_member 94 = .ok (.aload_n 0, 1) := by decide +kernel
theorem dX6_member_95 : decode cX6_member 95 = .ok (.getfield 7, 3) := by decide +kernel
theorem dX6_member_98 : decode cX6_member 98 = .ok (.bipush 39, 2) := by decide +kernel
theorem dX6_member_100 : decode cX6_member 100 = .ok (.iload_n 1, 1) := by decide +kernel
theorem dX6_member_101 : decode cX6_member 101 = .ok (.iadd, 1) := by decide +kernel
theorem dX6_member_102 : decode cX6_member 102 = .ok (.iaload, 1) := by decide +kernel
theorem dX6_member_103 : decode cX6_member 103 = .ok (.ireturn, 1) := by decide +kernel
theorem dX6_member_104 : decode cX6_member 104 = .ok (.aload_n 0, 1) := by decide +kernel
theorem dX6_member_105 : decode cX6_member 105 = .ok (.getfield 7, 3) := by decide +kernel
theorem dX6_member_108 : decode cX6_member 108 = .ok (.bipush 49, 2) := by decide +kernel
theorem dX6_member_110 : decode cX6_member 110 = .ok (.iload_n 1, 1) := by decide +kernel
theorem dX6_member_111 : decode cX6_member 111 = .ok (.iadd, 1) := by decide +kernel
theorem dX6_member_112 : decode cX6_member 112 = .ok (.iaload, 1) := by decide +kernel
theorem dX6_member_113 : decode cX6_member 113 = .ok (.ireturn, 1) := by decide +kernel
theorem dX6_member_114 : decode cX6_member 114 = .ok (.aload_n 0, 1) := by decide +kernel
theorem dX6_member_115 : decode cX6_member 115 = .ok (.getfield 26, 3) := by decide +kernel
theorem dX6_member_118 : decode cX6_member 118 = .ok (.iload_n 3, 1) := by decide +kernel
theorem dX6_member_119 : decode cX6_member 119 = .ok (.iaload, 1) := by decide +kernel
theorem dX6_member_120 : decode cX6_member 120 = .ok (.ireturn, 1) := by decide +kernel
theorem dX6_member_121 : decode cX6_member 121 = .ok (.aload_n 0, 1) := by decide +kernel
theorem dX6_member_122 : decode cX6_member 122 = .ok (.iload_n 1, 1) := by decide +kernel
theorem dX6_member_123 : decode cX6_member 123 = .ok (.invokevirtual 135, 3) := by decide +kernel
theorem dX6_member_126 : decode cX6_member 126 = .ok (.ireturn, 1) := by decide +kernel
theorem dX6_member_127 : decode cX6_member 127 = .ok (.aload_n 0, 1) := by decide +kernel
theorem dX6_member_128 : decode cX6_member 128 = .ok (.getfield 36, 3) := by decide +kernel
theorem dX6_member_131 : decode cX6_member 131 = .ok (.iload_n 3, 1) := by decide +kernel
theorem dX6_member_132 : decode cX6_member 132 = .ok (.iaload, 1) := by decide +kernel
theorem dX6_member_133 : decode cX6_member 133 = .ok (.ireturn, 1) := by decide +kernel
theorem dX6_member_134 : decode cX6_member 134 = .ok (.aload_n 0, 1) := by decide +kernel
theorem dX6_member_135 : decode cX6_member 135 = .ok (.iload_n 3, 1) := by decide +kernel
theorem dX6_member_136 : decode cX6_member 136 = .ok (.invokevirtual 142, 3) := by decide +kernel
theorem dX6_member_139 : decode cX6_member 139 = .ok (.ireturn, 1) := by decide +kernel
theorem dX6_member_140 : decode cX6_member 140 = .ok (.aload_n 0, 1) := by decide +kernel
theorem dX6_member_141 : decode cX6_member 141 = .ok (.getfield 36, 3) := by decide +kernel
theorem dX6_member_144 : decode cX6_member 144 = .ok (.iload_n 3, 1) := by decide +kernel
theorem dX6_member_145 : decode cX6_member 145 = .ok (.iaload, 1) := by decide +kernel
theorem dX6_member_146 : decode cX6_member 146 = .ok (.ifCond .ne 7, 3) := by decide +kernel
theorem dX6_member_149 : decode cX6_member 149 = .ok (.iconst 1, 1) := by decide +kernel
theorem dX6_member_150 : decode cX6_member 150 = .ok (.goto 4, 3) := by decide +kernel
theorem dX6_member_153 : decode cX6_member 153 = .ok (.iconst 0, 1) := by decide +kernel
theorem dX6_member_154 : decode cX6_member 154 = .ok (.ireturn, 1) := by decide +kernel
theorem dX6_member_155 : decode cX6_member 155 = .ok (.aload_n 0, 1) := by decide +kernel
theorem dX6_member_156 : decode cX6_member 156 = .ok (.iload_n 3, 1) := by decide +kernel
theorem dX6_member_157 : decode cX6_member 157 = .ok (.invokevirtual 145, 3) := by decide +kernel
theorem dX6_member_160 : decode cX6_member 160 = .ok (.ifCond .eq 7, 3) := by decide +kernel
theorem dX6_member_163 : decode cX6_member 163 = .ok (.iconst 1, 1) := by decide +kernel
theorem dX6_member_164 : decode cX6_member 164 = .ok (.goto 4, 3) := by decide +kernel
theorem dX6_member_167 : decode cX6_member 167 = .ok (.iconst 0, 1) := by decide +kernel
theorem dX6_member_168 : decode cX6_member 168 = .ok (.ireturn, 1) := by decide +kernel
theorem dX6_member_169 : decode cX6_member 169 = .ok (.aload_n 0, 1) := by decide +kernel
theorem dX6_member_170 : decode cX6_member 170 = .ok (.iload_n 3, 1) := by decide +kernel
theorem dX6_member_171 : decode cX6_member 171 = .ok (.invokevirtual 148, 3) := by decide +kernel
theorem dX6_member_174 : decode cX6_member 174 = .ok (.ifCond .eq 7, 3) := by decide +kernel
theorem dX6_member_177 : decode cX6_member 177 = .ok (.iconst 1, 1) := by decide +kernel
theorem dX6_member_178 : decode cX6_member 178 = .ok (.goto 4, 3) := by decide +kernel
theorem dX6_member_181 : decode cX6_member 181 = .ok (.iconst 0, 1) := by decide +kernel
theorem dX6_member_182 : decode cX6_member 182 = .ok (.ireturn, 1) := by decide +kernel
theorem dX6_member_183 : decode cX6_member 183 = .ok (.aload_n 0, 1) := by decide +kernel
theorem dX6_member_184 : decode cX6_member 184 = .ok (.iload_n 1, 1) := by decide +kernel
theorem dX6_member_185 : decode cX6_member 185 = .ok (.invokevirtual 151, 3) := by decide +kernel
theorem dX6_member_188 : decode cX6_member 188 = .ok (.ireturn, 1) := by decide +kernel
theorem dX6_member_189 : decode cX6_member 189 = .ok (.aload_n 0, 1) := by decide +kernel
theorem dX6_member_190 : decode cX6_member 190 = .ok (.getfield 7, 3) := by decide +kernel
theorem dX6_member_193 : decode cX6_member 193 = .ok (.bipush 59, 2) := by decide +kernel
theorem dX6_member_195 : decode cX6_member 195 = .ok (.iload_n 1, 1) := by decide +kernel
theorem dX6_member_196 : decode cX6_member 196 = .ok (.iadd, 1) := by decide +kernel
theorem dX6_member_197 : decode cX6_member 197 = .ok (.iaload, 1) := by decide +kernel
theorem dX6_member_198 : decode cX6_member 198 = .ok (.ireturn, 1) := by decide +kernel
theorem dX6_member_199 : decode cX6_member 199 = .ok (.bipush (-2), 2) := by decide +kernel
theorem dX6_member_201 : decode cX6_member 201 = .ok (.ireturn, 1) := by decide +kernel
theorem dX6_common_0 : decode cX6_common 0 = .ok (.iload_n 0, 1) := by decide +kernel
theorem dX6_common_1 : decode cX6_common 1 = .ok (.istore_n 2, 1) := by decide +kernel
theorem dX6_common_2 : decode cX6_common 2 = .ok (.iload_n 1, 1) := by decide +kernel
theorem dX6_common_3 : decode cX6_common 3 = .ok (.istore_n 3, 1) := by decide +kernel
theorem dX6_common_4 : decode cX6_common 4 = .ok (.iload_n 3, 1) := by decide +kernel
theorem dX6_common_5 : decode cX6_common 5 = .ok (.ifCond .eq 16, 3) := by decide +kernel
theorem dX6_common_8 : decode cX6_common 8 = .ok (.iload_n 2, 1) := by decide +kernel
theorem dX6_common_9 : decode cX6_common 9 = .ok (.iload_n 3, 1) := by decide +kernel
theorem dX6_common_10 : decode cX6_common 10 = .ok (.irem, 1) := by decide +kernel
theorem dX6_common_11 : decode cX6_common 11 = .ok (.istore 4, 2) := by decide +kernel
theorem dX6_common_13 : decode cX6_common 13 = .ok (.iload_n 3, 1) := by decide +kernel
theorem dX6_common_14 : decode cX6_common 14 = .ok (.istore_n 2, 1) := by decide +kernel
theorem dX6_common_15 : decode cX6_common 15 = .ok (.iload 4, 2) := by decide +kernel
theorem dX6_common_17 : decode cX6_common 17 = .ok (.istore_n 3, 1) := by decide +kernel
theorem dX6_common_18 : decode cX6_common 18 = .ok (.goto (-14), 3) := by decide +kernel
theorem dX6_common_21 : decode cX6_common 21 = .ok (.iload_n 2, 1) := by decide +kernel
theorem dX6_common_22 : decode cX6_common 22 = .ok (.ireturn, 1) := by decide +kernel
theorem dX6_share_0 : decode cX6_share 0 = .ok (.aload_n 0, 1) := by decide +kernel
theorem dX6_share_1 : decode cX6_share 1 = .ok (.iload_n 1, 1) := by decide +kernel
theorem dX6_share_2 : decode cX6_share 2 = .ok (.invokevirtual 57, 3) := by decide +kernel
theorem dX6_share_5 : decode cX6_share 5 = .ok (.ifCond .eq 5, 3) := by decide +kernel
theorem dX6_share_8 : decode cX6_share 8 = .ok (.iconst (-1), 1) := by decide +kernel
theorem dX6_share_9 : decode cX6_share 9 = .ok (.ireturn, 1) := by decide +kernel
theorem dX6_share_10 : decode cX6_share 10 = .ok (.iload_n 2, 1) := by decide +kernel
theorem dX6_share_11 : decode cX6_share 11 = .ok (.iconst 0, 1) := by decide +kernel
theorem dX6_share_12 : decode cX6_share 12 = .ok (.iconst 3, 1) := by decide +kernel
theorem dX6_share_13 : decode cX6_share 13 = .ok (.invokestatic 53, 3) := by decide +kernel
theorem dX6_share_16 : decode cX6_share 16 = .ok (.ifCond .ne 6, 3) := by decide +kernel
theorem dX6_share_19 : decode cX6_share 19 = .ok (.bipush (-2), 2) := by decide +kernel
theorem dX6_share_21 : decode cX6_share 21 = .ok (.ireturn, 1) := by decide +kernel
theorem dX6_share_22 : decode cX6_share 22 = .ok (.aload_n 0, 1) := by decide +kernel
theorem dX6_share_23 : decode cX6_share 23 = .ok (.invokevirtual 114, 3) := by decide +kernel
theorem dX6_share_26 : decode cX6_share 26 = .ok (.aload_n 0, 1) := by decide +kernel
theorem dX6_share_27 : decode cX6_share 27 = .ok (.invokevirtual 154, 3) := by decide +kernel
theorem dX6_share_30 : decode cX6_share 30 = .ok (.ifCond .ne 6, 3) := by decide +kernel
theorem dX6_share_33 : decode cX6_share 33 = .ok (.bipush (-5), 2) := by decide +kernel
theorem dX6_share_35 : decode cX6_share 35 = .ok (.ireturn, 1) := by decide +kernel
theorem dX6_share_36 : decode cX6_share 36 = .ok (.aload_n 0, 1) := by decide +kernel
theorem dX6_share_37 : decode cX6_share 37 = .ok (.iload_n 1, 1) := by decide +kernel
theorem dX6_share_38 : decode cX6_share 38 = .ok (.invokevirtual 83, 3) := by decide +kernel
theorem dX6_share_41 : decode cX6_share 41 = .ok (.istore_n 3, 1) := by decide +kernel
theorem dX6_share_42 : decode cX6_share 42 = .ok (.iload_n 2, 1) := by decide +kernel
theorem dX6_share_43 : decode cX6_share 43 = .ok (.iconst 2, 1) := by decide +kernel
theorem dX6_share_44 : decode cX6_share 44 = .ok (.if_icmp .ge 12, 3) := by decide +kernel
theorem dX6_share_47 : decode cX6_share 47 = .ok (.aload_n 0, 1) := by decide +kernel
theorem dX6_share_48 : decode cX6_share 48 = .ok (.getfield 36, 3) := by decide +kernel
theorem dX6_share_51 : decode cX6_share 51 = .ok (.iload_n 3, 1) := by decide +kernel
theorem dX6_share_52 : decode cX6_share 52 = .ok (.iaload, 1) := by decide +kernel
theorem dX6_share_53 : decode cX6_share 53 = .ok (.goto 8, 3) := by decide +kernel
theorem dX6_share_56 : decode cX6_share 56 = .ok (.aload_n 0, 1) := by decide +kernel
theorem dX6_share_57 : decode cX6_share 57 = .ok (.iload_n 3, 1) := by decide +kernel
theorem dX6_share_58 : decode cX6_share 58 = .ok (.invokevirtual 142, 3) := by decide +kernel
theorem dX6_share_61 : decode cX6_share 61 = .ok (.istore 4, 2) := by decide +kernel
theorem dX6_share_63 : decode cX6_share 63 = .ok (.iload_n 2, 1) := by decide +kernel
theorem dX6_share_64 : decode cX6_share 64 = .ok (.iconst 2, 1) := by decide +kernel
theorem dX6_share_65 : decode cX6_share 65 = .ok (.if_icmp .ge 10, 3) := by decide +kernel
theorem dX6_share_68 : decode cX6_share 68 = .ok (.aload_n 0, 1) := by decide +kernel
theorem dX6_share_69 : decode cX6_share 69 = .ok (.getfield 99, 3) := by decide +kernel
theorem dX6_share_72 : decode cX6_share 72 = .ok (.goto 10, 3) := by decide +kernel
theorem dX6_share_75 : decode cX6_share 75 = .ok (.aload_n 0, 1) := by decide +kernel
theorem dX6_share_76 : decode cX6_share 76 = .ok (.getfield 77, 3) := by decide +kernel
theorem dX6_share_79 : decode cX6_share 79 = .ok (.invokestatic 108, 3) := by decide +kernel
theorem dX6_share_82 : decode cX6_share 82 = .ok (.istore 5, 2) := by decide +kernel
theorem dX6_share_84 : decode cX6_share 84 = .ok (.iload 5, 2) := by decide +kernel
theorem dX6_share_86 : decode cX6_share 86 = .ok (.iload 4, 2) := by decide +kernel
theorem dX6_share_88 : decode cX6_share 88 = .ok (.invokestatic 157, 3) := by decide +kernel
theorem dX6_share_91 : decode cX6_share 91 = .ok (.istore 6, 2) := by decide +kernel
theorem dX6_share_93 : decode cX6_share 93 = .ok (.iload_n 2, 1) := by decide +kernel
theorem dX6_share_94 : decode cX6_share 94 = .ok (.iconst 2, 1) := by decide +kernel
theorem dX6_share_95 : decode cX6_share 95 = .ok (.irem, 1) := by decide +kernel
theorem dX6_share_96 : decode cX6_share 96 = .ok (.ifCond .ne 11, 3) := by decide +kernel
theorem dX6_share_99 : decode cX6_share 99 = .ok (.iload 4, 2) := by decide +kernel
theorem dX6_share_101 : decode cX6_share 101 = .ok (.iload 6, 2) := by decide +kernel
theorem dX6_share_103 : decode cX6_share 103 = .ok (.idiv, 1) := by decide +kernel
theorem dX6_share_104 : decode cX6_share 104 = .ok (.goto 8, 3) := by decide +kernel
theorem dX6_share_107 : decode cX6_share 107 = .ok (.iload 5, 2) := by decide +kernel
theorem dX6_share_109 : decode cX6_share 109 = .ok (.iload 6, 2) := by decide +kernel
theorem dX6_share_111 : decode cX6_share 111 = .ok (.idiv, 1) := by decide +kernel
theorem dX6_share_112 : decode cX6_share 112 = .ok (.ireturn, 1) := by decide +kernel
theorem dX6_wins_0 : decode cX6_wins 0 = .ok (.iload_n 1, 1) := by decide +kernel
theorem dX6_wins_1 : decode cX6_wins 1 = .ok (.iconst 0, 1) := by decide +kernel
theorem dX6_wins_2 : decode cX6_wins 2 = .ok (.iconst 1, 1) := by decide +kernel
theorem dX6_wins_3 : decode cX6_wins 3 = .ok (.aload_n 0, 1) := by decide +kernel
theorem dX6_wins_4 : decode cX6_wins 4 = .ok (.getfield 7, 3) := by decide +kernel
theorem dX6_wins_7 : decode cX6_wins 7 = .ok (.iconst 0, 1) := by decide +kernel
theorem dX6_wins_8 : decode cX6_wins 8 = .ok (.iaload, 1) := by decide +kernel
theorem dX6_wins_9 : decode cX6_wins 9 = .ok (.ishl, 1) := by decide +kernel
theorem dX6_wins_10 : decode cX6_wins 10 = .ok (.iconst 1, 1) := by decide +kernel
theorem dX6_wins_11 : decode cX6_wins 11 = .ok (.isub, 1) := by decide +kernel
theorem dX6_wins_12 : decode cX6_wins 12 = .ok (.invokestatic 53, 3) := by decide +kernel
theorem dX6_wins_15 : decode cX6_wins 15 = .ok (.ifCond .ne 6, 3) := by decide +kernel
theorem dX6_wins_18 : decode cX6_wins 18 = .ok (.bipush (-2), 2) := by decide +kernel
theorem dX6_wins_20 : decode cX6_wins 20 = .ok (.ireturn, 1) := by decide +kernel
theorem dX6_wins_21 : decode cX6_wins 21 = .ok (.aload_n 0, 1) := by decide +kernel
theorem dX6_wins_22 : decode cX6_wins 22 = .ok (.invokevirtual 114, 3) := by decide +kernel
theorem dX6_wins_25 : decode cX6_wins 25 = .ok (.iconst 0, 1) := by decide +kernel
theorem dX6_wins_26 : decode cX6_wins 26 = .ok (.istore_n 2, 1) := by decide +kernel
theorem dX6_wins_27 : decode cX6_wins 27 = .ok (.iconst 0, 1) := by decide +kernel
theorem dX6_wins_28 : decode cX6_wins 28 = .ok (.istore_n 3, 1) := by decide +kernel
theorem dX6_wins_29 : decode cX6_wins 29 = .ok (.iload_n 3, 1) := by decide +kernel
theorem dX6_wins_30 : decode cX6_wins 30 = .ok (.aload_n 0, 1) := by decide +kernel
theorem dX6_wins_31 : decode cX6_wins 31 = .ok (.getfield 77, 3) := by decide +kernel
theorem dX6_wins_34 : decode cX6_wins 34 = .ok (.if_icmp .ge 32, 3) := by decide +kernel
theorem dX6_wins_37 : decode cX6_wins 37 = .ok (.iload_n 2, 1) := by decide +kernel
theorem dX6_wins_38 : decode cX6_wins 38 = .ok (.aload_n 0, 1) := by decide +kernel
theorem dX6_wins_39 : decode cX6_wins 39 = .ok (.getfield 29, 3) := by decide +kernel
theorem dX6_wins_42 : decode cX6_wins 42 = .ok (.iload_n 3, 1) := by decide +kernel
theorem dX6_wins_43 : decode cX6_wins 43 = .ok (.iaload, 1) := by decide +kernel
theorem dX6_wins_44 : decode cX6_wins 44 = .ok (.iload_n 1, 1) := by decide +kernel
theorem dX6_wins_45 : decode cX6_wins 45 = .ok (.iconst (-1), 1) := by decide +kernel
theorem dX6_wins_46 : decode cX6_wins 46 = .ok (.ixor, 1) := by decide +kernel
theorem dX6_wins_47 : decode cX6_wins 47 = .ok (.iand, 1) := by decide +kernel
theorem dX6_wins_48 : decode cX6_wins 48 = .ok (.ifCond .ne 9, 3) := by decide +kernel
theorem dX6_wins_51 : decode cX6_wins 51 = .ok (.iconst 1, 1) := by decide +kernel
theorem dX6_wins_52 : decode cX6_wins 52 = .ok (.iload_n 3, 1) := by decide +kernel
theorem dX6_wins_53 : decode cX6_wins 53 = .ok (.ishl, 1) := by decide +kernel
theorem dX6_wins_54 : decode cX6_wins 54 = .ok (.goto 4, 3) := by decide +kernel
theorem dX6_wins_57 : decode cX6_wins 57 = .ok (.iconst 0, 1) := by decide +kernel
theorem dX6_wins_58 : decode cX6_wins 58 = .ok (.ior, 1) := by decide +kernel
theorem dX6_wins_59 : decode cX6_wins 59 = .ok (.istore_n 2, 1) := by decide +kernel
theorem dX6_wins_60 : decode cX6_wins 60 = .ok (.iinc 3 1, 3) := by decide +kernel
theorem dX6_wins_63 : decode cX6_wins 63 = .ok (.goto (-34), 3) := by decide +kernel
theorem dX6_wins_66 : decode cX6_wins 66 = .ok (.aload_n 0, 1) := by decide +kernel
theorem dX6_wins_67 : decode cX6_wins 67 = .ok (.getfield 32, 3) := by decide +kernel
theorem dX6_wins_70 : decode cX6_wins 70 = .ok (.iload_n 2, 1) := by decide +kernel
theorem dX6_wins_71 : decode cX6_wins 71 = .ok (.baload, 1) := by decide +kernel
theorem dX6_wins_72 : decode cX6_wins 72 = .ok (.ifCond .eq 7, 3) := by decide +kernel
theorem dX6_wins_75 : decode cX6_wins 75 = .ok (.iconst 1, 1) := by decide +kernel
theorem dX6_wins_76 : decode cX6_wins 76 = .ok (.goto 4, 3) := by decide +kernel
theorem dX6_wins_79 : decode cX6_wins 79 = .ok (.iconst 0, 1) := by decide +kernel
theorem dX6_wins_80 : decode cX6_wins 80 = .ok (.ireturn, 1) := by decide +kernel
theorem dX6_leastCoalition_0 : decode cX6_leastCoalition 0 = .ok (.iload_n 1, 1) := by decide +kernel
theorem dX6_leastCoalition_1 : decode cX6_leastCoalition 1 = .ok (.ifCond .lt 12, 3) := by decide +kernel
theorem dX6_leastCoalition_4 : decode cX6_leastCoalition 4 = .ok (.iload_n 2, 1) := by decide +kernel
theorem dX6_leastCoalition_5 : decode cX6_leastCoalition 5 = .ok (.iconst 0, 1) := by decide +kernel
theorem dX6_leastCoalition_6 : decode cX6_leastCoalition 6 = .ok (.iconst 2, 1) := by decide +kernel
theorem dX6_leastCoalition_7 : decode cX6_leastCoalition 7 = .ok (.invokestatic 53, 3) := by decide +kernel
theorem dX6_leastCoalition_10 : decode cX6_leastCoalition 10 = .ok (.ifCond .ne 6, 3) := by decide +kernel
theorem dX6_leastCoalition_13 : decode cX6_leastCoalition 13 = .ok (.bipush (-2), 2) := by decide +kernel
theorem dX6_leastCoalition_15 : decode cX6_leastCoalition 15 = .ok (.ireturn, 1) := by decide +kernel
theorem dX6_leastCoalition_16 : decode cX6_leastCoalition 16 = .ok (.aload_n 0, 1) := by decide +kernel
theorem dX6_leastCoalition_17 : decode cX6_leastCoalition 17 = .ok (.invokevirtual 160, 3) := by decide +kernel
theorem dX6_leastCoalition_20 : decode cX6_leastCoalition 20 = .ok (.iload_n 1, 1) := by decide +kernel
theorem dX6_leastCoalition_21 : decode cX6_leastCoalition 21 = .ok (.aload_n 0, 1) := by decide +kernel
theorem dX6_leastCoalition_22 : decode cX6_leastCoalition 22 = .ok (.getfield 117, 3) := by decide +kernel
theorem dX6_leastCoalition_25 : decode cX6_leastCoalition 25 = .ok (.if_icmp .lt 6, 3) := by decide +kernel
theorem dX6_leastCoalition_28 : decode cX6_leastCoalition 28 = .ok (.bipush (-5), 2) := by decide +kernel
theorem dX6_leastCoalition_30 : decode cX6_leastCoalition 30 = .ok (.ireturn, 1) := by decide +kernel
theorem dX6_leastCoalition_31 : decode cX6_leastCoalition 31 = .ok (.aload_n 0, 1) := by decide +kernel
theorem dX6_leastCoalition_32 : decode cX6_leastCoalition 32 = .ok (.getfield 39, 3) := by decide +kernel
theorem dX6_leastCoalition_35 : decode cX6_leastCoalition 35 = .ok (.iload_n 1, 1) := by decide +kernel
theorem dX6_leastCoalition_36 : decode cX6_leastCoalition 36 = .ok (.iaload, 1) := by decide +kernel
theorem dX6_leastCoalition_37 : decode cX6_leastCoalition 37 = .ok (.istore_n 3, 1) := by decide +kernel
theorem dX6_leastCoalition_38 : decode cX6_leastCoalition 38 = .ok (.iload_n 2, 1) := by decide +kernel
theorem dX6_leastCoalition_39 : decode cX6_leastCoalition 39 = .ok (.ifCond .ne 11, 3) := by decide +kernel
theorem dX6_leastCoalition_42 : decode cX6_leastCoalition 42 = .ok (.aload_n 0, 1) := by decide +kernel
theorem dX6_leastCoalition_43 : decode cX6_leastCoalition 43 = .ok (.iload_n 3, 1) := by decide +kernel
theorem dX6_leastCoalition_44 : decode cX6_leastCoalition 44 = .ok (.invokevirtual 111, 3) := by decide +kernel
theorem dX6_leastCoalition_47 : decode cX6_leastCoalition 47 = .ok (.goto 20, 3) := by decide +kernel
theorem dX6_leastCoalition_50 : decode cX6_leastCoalition 50 = .ok (.iload_n 2, 1) := by decide +kernel
theorem dX6_leastCoalition_51 : decode cX6_leastCoalition 51 = .ok (.iconst 1, 1) := by decide +kernel
theorem dX6_leastCoalition_52 : decode cX6_leastCoalition 52 = .ok (.if_icmp .ne 10, 3) := by decide +kernel
theorem dX6_leastCoalition_55 : decode cX6_leastCoalition 55 = .ok (.iload_n 3, 1) := by decide +kernel
theorem dX6_leastCoalition_56 : decode cX6_leastCoalition 56 = .ok (.invokestatic 105, 3) := by decide +kernel
theorem dX6_leastCoalition_59 : decode cX6_leastCoalition 59 = .ok (.goto 8, 3) := by decide +kernel
theorem dX6_leastCoalition_62 : decode cX6_leastCoalition 62 = .ok (.aload_n 0, 1) := by decide +kernel
theorem dX6_leastCoalition_63 : decode cX6_leastCoalition 63 = .ok (.iload_n 3, 1) := by decide +kernel
theorem dX6_leastCoalition_64 : decode cX6_leastCoalition 64 = .ok (.invokevirtual 90, 3) := by decide +kernel
theorem dX6_leastCoalition_67 : decode cX6_leastCoalition 67 = .ok (.ireturn, 1) := by decide +kernel
theorem dX6_ranked_0 : decode cX6_ranked 0 = .ok (.iload_n 1, 1) := by decide +kernel
theorem dX6_ranked_1 : decode cX6_ranked 1 = .ok (.ifCond .ge 6, 3) := by decide +kernel
theorem dX6_ranked_4 : decode cX6_ranked 4 = .ok (.bipush (-2), 2) := by decide +kernel
theorem dX6_ranked_6 : decode cX6_ranked 6 = .ok (.ireturn, 1) := by decide +kernel
theorem dX6_ranked_7 : decode cX6_ranked 7 = .ok (.aload_n 0, 1) := by decide +kernel
theorem dX6_ranked_8 : decode cX6_ranked 8 = .ok (.invokevirtual 114, 3) := by decide +kernel
theorem dX6_ranked_11 : decode cX6_ranked 11 = .ok (.iconst 0, 1) := by decide +kernel
theorem dX6_ranked_12 : decode cX6_ranked 12 = .ok (.istore_n 2, 1) := by decide +kernel
theorem dX6_ranked_13 : decode cX6_ranked 13 = .ok (.iload_n 2, 1) := by decide +kernel
theorem dX6_ranked_14 : decode cX6_ranked 14 = .ok (.aload_n 0, 1) := by decide +kernel
theorem dX6_ranked_15 : decode cX6_ranked 15 = .ok (.getfield 7, 3) := by decide +kernel
theorem dX6_ranked_18 : decode cX6_ranked 18 = .ok (.iconst 0, 1) := by decide +kernel
theorem dX6_ranked_19 : decode cX6_ranked 19 = .ok (.iaload, 1) := by decide +kernel
theorem dX6_ranked_20 : decode cX6_ranked 20 = .ok (.if_icmp .ge 20, 3) := by decide +kernel
theorem dX6_ranked_23 : decode cX6_ranked 23 = .ok (.aload_n 0, 1) := by decide +kernel
theorem dX6_ranked_24 : decode cX6_ranked 24 = .ok (.iload_n 2, 1) := by decide +kernel
theorem dX6_ranked_25 : decode cX6_ranked 25 = .ok (.invokevirtual 151, 3) := by decide +kernel
theorem dX6_ranked_28 : decode cX6_ranked 28 = .ok (.iload_n 1, 1) := by decide +kernel
theorem dX6_ranked_29 : decode cX6_ranked 29 = .ok (.if_icmp .ne 5, 3) := by decide +kernel
theorem dX6_ranked_32 : decode cX6_ranked 32 = .ok (.iload_n 2, 1) := by decide +kernel
theorem dX6_ranked_33 : decode cX6_ranked 33 = .ok (.ireturn, 1) := by decide +kernel
theorem dX6_ranked_34 : decode cX6_ranked 34 = .ok (.iinc 2 1, 3) := by decide +kernel
theorem dX6_ranked_37 : decode cX6_ranked 37 = .ok (.goto (-24), 3) := by decide +kernel
theorem dX6_ranked_40 : decode cX6_ranked 40 = .ok (.bipush (-5), 2) := by decide +kernel
theorem dX6_ranked_42 : decode cX6_ranked 42 = .ok (.ireturn, 1) := by decide +kernel
theorem dX6_dummies_0 : decode cX6_dummies 0 = .ok (.iconst 0, 1) := by decide +kernel
theorem dX6_dummies_1 : decode cX6_dummies 1 = .ok (.istore_n 1, 1) := by decide +kernel
theorem dX6_dummies_2 : decode cX6_dummies 2 = .ok (.iconst 0, 1) := by decide +kernel
theorem dX6_dummies_3 : decode cX6_dummies 3 = .ok (.istore_n 2, 1) := by decide +kernel
theorem dX6_dummies_4 : decode cX6_dummies 4 = .ok (.iload_n 2, 1) := by decide +kernel
theorem dX6_dummies_5 : decode cX6_dummies 5 = .ok (.aload_n 0, 1) := by decide +kernel
theorem dX6_dummies_6 : decode cX6_dummies 6 = .ok (.getfield 77, 3) := by decide +kernel
theorem dX6_dummies_9 : decode cX6_dummies 9 = .ok (.if_icmp .ge 26, 3) := by decide +kernel
theorem dX6_dummies_12 : decode cX6_dummies 12 = .ok (.iload_n 1, 1) := by decide +kernel
theorem dX6_dummies_13 : decode cX6_dummies 13 = .ok (.aload_n 0, 1) := by decide +kernel
theorem dX6_dummies_14 : decode cX6_dummies 14 = .ok (.getfield 36, 3) := by decide +kernel
theorem dX6_dummies_17 : decode cX6_dummies 17 = .ok (.iload_n 2, 1) := by decide +kernel
theorem dX6_dummies_18 : decode cX6_dummies 18 = .ok (.iaload, 1) := by decide +kernel
theorem dX6_dummies_19 : decode cX6_dummies 19 = .ok (.ifCond .ne 7, 3) := by decide +kernel
theorem dX6_dummies_22 : decode cX6_dummies 22 = .ok (.iconst 1, 1) := by decide +kernel
theorem dX6_dummies_23 : decode cX6_dummies 23 = .ok (.goto 4, 3) := by decide +kernel
theorem dX6_dummies_26 : decode cX6_dummies 26 = .ok (.iconst 0, 1) := by decide +kernel
theorem dX6_dummies_27 : decode cX6_dummies 27 = .ok (.iadd, 1) := by decide +kernel
theorem dX6_dummies_28 : decode cX6_dummies 28 = .ok (.istore_n 1, 1) := by decide +kernel
theorem dX6_dummies_29 : decode cX6_dummies 29 = .ok (.iinc 2 1, 3) := by decide +kernel
theorem dX6_dummies_32 : decode cX6_dummies 32 = .ok (.goto (-28), 3) := by decide +kernel
theorem dX6_dummies_35 : decode cX6_dummies 35 = .ok (.iload_n 1, 1) := by decide +kernel
theorem dX6_dummies_36 : decode cX6_dummies 36 = .ok (.ireturn, 1) := by decide +kernel
theorem dX6_blockers_0 : decode cX6_blockers 0 = .ok (.iconst 0, 1) := by decide +kernel
theorem dX6_blockers_1 : decode cX6_blockers 1 = .ok (.istore_n 1, 1) := by decide +kernel
theorem dX6_blockers_2 : decode cX6_blockers 2 = .ok (.iconst 0, 1) := by decide +kernel
theorem dX6_blockers_3 : decode cX6_blockers 3 = .ok (.istore_n 2, 1) := by decide +kernel
theorem dX6_blockers_4 : decode cX6_blockers 4 = .ok (.iload_n 2, 1) := by decide +kernel
theorem dX6_blockers_5 : decode cX6_blockers 5 = .ok (.aload_n 0, 1) := by decide +kernel
theorem dX6_blockers_6 : decode cX6_blockers 6 = .ok (.getfield 77, 3) := by decide +kernel
theorem dX6_blockers_9 : decode cX6_blockers 9 = .ok (.if_icmp .ge 25, 3) := by decide +kernel
theorem dX6_blockers_12 : decode cX6_blockers 12 = .ok (.iload_n 1, 1) := by decide +kernel
theorem dX6_blockers_13 : decode cX6_blockers 13 = .ok (.aload_n 0, 1) := by decide +kernel
theorem dX6_blockers_14 : decode cX6_blockers 14 = .ok (.iload_n 2, 1) := by decide +kernel
theorem dX6_blockers_15 : decode cX6_blockers 15 = .ok (.invokevirtual 145, 3) := by decide +kernel
theorem dX6_blockers_18 : decode cX6_blockers 18 = .ok (.ifCond .eq 7, 3) := by decide +kernel
theorem dX6_blockers_21 : decode cX6_blockers 21 = .ok (.iconst 1, 1) := by decide +kernel
theorem dX6_blockers_22 : decode cX6_blockers 22 = .ok (.goto 4, 3) := by decide +kernel
theorem dX6_blockers_25 : decode cX6_blockers 25 = .ok (.iconst 0, 1) := by decide +kernel
theorem dX6_blockers_26 : decode cX6_blockers 26 = .ok (.iadd, 1) := by decide +kernel
theorem dX6_blockers_27 : decode cX6_blockers 27 = .ok (.istore_n 1, 1) := by decide +kernel
theorem dX6_blockers_28 : decode cX6_blockers 28 = .ok (.iinc 2 1, 3) := by decide +kernel
theorem dX6_blockers_31 : decode cX6_blockers 31 = .ok (.goto (-27), 3) := by decide +kernel
theorem dX6_blockers_34 : decode cX6_blockers 34 = .ok (.iload_n 1, 1) := by decide +kernel
theorem dX6_blockers_35 : decode cX6_blockers 35 = .ok (.ireturn, 1) := by decide +kernel
theorem dX6_withQuota_0 : decode cX6_withQuota 0 = .ok (.iload_n 1, 1) := by decide +kernel
theorem dX6_withQuota_1 : decode cX6_withQuota 1 = .ok (.iconst 1, 1) := by decide +kernel
theorem dX6_withQuota_2 : decode cX6_withQuota 2 = .ok (.sipush 500, 3) := by decide +kernel
theorem dX6_withQuota_5 : decode cX6_withQuota 5 = .ok (.invokestatic 53, 3) := by decide +kernel
theorem dX6_withQuota_8 : decode cX6_withQuota 8 = .ok (.ifCond .eq 12, 3) := by decide +kernel
theorem dX6_withQuota_11 : decode cX6_withQuota 11 = .ok (.iload_n 2, 1) := by decide +kernel
theorem dX6_withQuota_12 : decode cX6_withQuota 12 = .ok (.iconst 0, 1) := by decide +kernel
theorem dX6_withQuota_13 : decode cX6_withQuota 13 = .ok (.iconst 3, 1) := by decide +kernel
theorem dX6_withQuota_14 : decode cX6_withQuota 14 = .ok (.invokestatic 53, 3) := by decide +kernel
theorem dX6_withQuota_17 : decode cX6_withQuota 17 = .ok (.ifCond .ne 6, 3) := by decide +kernel
theorem dX6_withQuota_20 : decode cX6_withQuota 20 = .ok (.bipush (-2), 2) := by decide +kernel
theorem dX6_withQuota_22 : decode cX6_withQuota 22 = .ok (.ireturn, 1) := by decide +kernel
theorem dX6_withQuota_23 : decode cX6_withQuota 23 = .ok (.aload_n 0, 1) := by decide +kernel
theorem dX6_withQuota_24 : decode cX6_withQuota 24 = .ok (.iload_n 1, 1) := by decide +kernel
theorem dX6_withQuota_25 : decode cX6_withQuota 25 = .ok (.invokevirtual 102, 3) := by decide +kernel
theorem dX6_withQuota_28 : decode cX6_withQuota 28 = .ok (.iload_n 2, 1) := by decide +kernel
theorem dX6_withQuota_29 : decode cX6_withQuota 29 = .ok (.ifCond .ne 10, 3) := by decide +kernel
theorem dX6_withQuota_32 : decode cX6_withQuota 32 = .ok (.aload_n 0, 1) := by decide +kernel
theorem dX6_withQuota_33 : decode cX6_withQuota 33 = .ok (.invokevirtual 163, 3) := by decide +kernel
theorem dX6_withQuota_36 : decode cX6_withQuota 36 = .ok (.goto 31, 3) := by decide +kernel
theorem dX6_withQuota_39 : decode cX6_withQuota 39 = .ok (.iload_n 2, 1) := by decide +kernel
theorem dX6_withQuota_40 : decode cX6_withQuota 40 = .ok (.iconst 1, 1) := by decide +kernel
theorem dX6_withQuota_41 : decode cX6_withQuota 41 = .ok (.if_icmp .ne 10, 3) := by decide +kernel
theorem dX6_withQuota_44 : decode cX6_withQuota 44 = .ok (.aload_n 0, 1) := by decide +kernel
theorem dX6_withQuota_45 : decode cX6_withQuota 45 = .ok (.invokevirtual 166, 3) := by decide +kernel
theorem dX6_withQuota_48 : decode cX6_withQuota 48 = .ok (.goto 19, 3) := by decide +kernel
theorem dX6_withQuota_51 : decode cX6_withQuota 51 = .ok (.iload_n 2, 1) := by decide +kernel
theorem dX6_withQuota_52 : decode cX6_withQuota 52 = .ok (.iconst 2, 1) := by decide +kernel
theorem dX6_withQuota_53 : decode cX6_withQuota 53 = .ok (.if_icmp .ne 10, 3) := by decide +kernel
theorem dX6_withQuota_56 : decode cX6_withQuota 56 = .ok (.aload_n 0, 1) := by decide +kernel
theorem dX6_withQuota_57 : decode cX6_withQuota 57 = .ok (.getfield 99, 3) := by decide +kernel
theorem dX6_withQuota_60 : decode cX6_withQuota 60 = .ok (.goto 7, 3) := by decide +kernel
theorem dX6_withQuota_63 : decode cX6_withQuota 63 = .ok (.aload_n 0, 1) := by decide +kernel
theorem dX6_withQuota_64 : decode cX6_withQuota 64 = .ok (.invokevirtual 154, 3) := by decide +kernel
theorem dX6_withQuota_67 : decode cX6_withQuota 67 = .ok (.ireturn, 1) := by decide +kernel
theorem dX6_allWeights_0 : decode cX6_allWeights 0 = .ok (.iconst 0, 1) := by decide +kernel
theorem dX6_allWeights_1 : decode cX6_allWeights 1 = .ok (.istore_n 1, 1) := by decide +kernel
theorem dX6_allWeights_2 : decode cX6_allWeights 2 = .ok (.iconst 0, 1) := by decide +kernel
theorem dX6_allWeights_3 : decode cX6_allWeights 3 = .ok (.istore_n 2, 1) := by decide +kernel
theorem dX6_allWeights_4 : decode cX6_allWeights 4 = .ok (.iload_n 2, 1) := by decide +kernel
theorem dX6_allWeights_5 : decode cX6_allWeights 5 = .ok (.aload_n 0, 1) := by decide +kernel
theorem dX6_allWeights_6 : decode cX6_allWeights 6 = .ok (.getfield 7, 3) := by decide +kernel
theorem dX6_allWeights_9 : decode cX6_allWeights 9 = .ok (.iconst 0, 1) := by decide +kernel
theorem dX6_allWeights_10 : decode cX6_allWeights 10 = .ok (.iaload, 1) := by decide +kernel
theorem dX6_allWeights_11 : decode cX6_allWeights 11 = .ok (.if_icmp .ge 21, 3) := by decide +kernel
theorem dX6_allWeights_14 : decode cX6_allWeights 14 = .ok (.iload_n 1, 1) := by decide +kernel
theorem dX6_allWeights_15 : decode cX6_allWeights 15 = .ok (.aload_n 0, 1) := by decide +kernel
theorem dX6_allWeights_16 : decode cX6_allWeights 16 = .ok (.getfield 7, 3) := by decide +kernel
theorem dX6_allWeights_19 : decode cX6_allWeights 19 = .ok (.bipush 29, 2) := by decide +kernel
theorem dX6_allWeights_21 : decode cX6_allWeights 21 = .ok (.iload_n 2, 1) := by decide +kernel
theorem dX6_allWeights_22 : decode cX6_allWeights 22 = .ok (.iadd, 1) := by decide +kernel
theorem dX6_allWeights_23 : decode cX6_allWeights 23 = .ok (.iaload, 1) := by decide +kernel
theorem dX6_allWeights_24 : decode cX6_allWeights 24 = .ok (.iadd, 1) := by decide +kernel
theorem dX6_allWeights_25 : decode cX6_allWeights 25 = .ok (.istore_n 1, 1) := by decide +kernel
theorem dX6_allWeights_26 : decode cX6_allWeights 26 = .ok (.iinc 2 1, 3) := by decide +kernel
theorem dX6_allWeights_29 : decode cX6_allWeights 29 = .ok (.goto (-25), 3) := by decide +kernel
theorem dX6_allWeights_32 : decode cX6_allWeights 32 = .ok (.iload_n 1, 1) := by decide +kernel
theorem dX6_allWeights_33 : decode cX6_allWeights 33 = .ok (.ireturn, 1) := by decide +kernel
theorem dX6_leavesOut_0 : decode cX6_leavesOut 0 = .ok (.aload_n 0, 1) := by decide +kernel
theorem dX6_leavesOut_1 : decode cX6_leavesOut 1 = .ok (.iload_n 1, 1) := by decide +kernel
theorem dX6_leavesOut_2 : decode cX6_leavesOut 2 = .ok (.invokevirtual 57, 3) := by decide +kernel
theorem dX6_leavesOut_5 : decode cX6_leavesOut 5 = .ok (.ifCond .eq 5, 3) := by decide +kernel
theorem dX6_leavesOut_8 : decode cX6_leavesOut 8 = .ok (.iconst (-1), 1) := by decide +kernel
theorem dX6_leavesOut_9 : decode cX6_leavesOut 9 = .ok (.ireturn, 1) := by decide +kernel
theorem dX6_leavesOut_10 : decode cX6_leavesOut 10 = .ok (.iload_n 2, 1) := by decide +kernel
theorem dX6_leavesOut_11 : decode cX6_leavesOut 11 = .ok (.iconst 1, 1) := by decide +kernel
theorem dX6_leavesOut_12 : decode cX6_leavesOut 12 = .ok (.sipush 500, 3) := by decide +kernel
theorem dX6_leavesOut_15 : decode cX6_leavesOut 15 = .ok (.invokestatic 53, 3) := by decide +kernel
theorem dX6_leavesOut_18 : decode cX6_leavesOut 18 = .ok (.ifCond .ne 6, 3) := by decide +kernel
theorem dX6_leavesOut_21 : decode cX6_leavesOut 21 = .ok (.bipush (-2), 2) := by decide +kernel
theorem dX6_leavesOut_23 : decode cX6_leavesOut 23 = .ok (.ireturn, 1) := by decide +kernel
theorem dX6_leavesOut_24 : decode cX6_leavesOut 24 = .ok (.aload_n 0, 1) := by decide +kernel
theorem dX6_leavesOut_25 : decode cX6_leavesOut 25 = .ok (.invokevirtual 169, 3) := by decide +kernel
theorem dX6_leavesOut_28 : decode cX6_leavesOut 28 = .ok (.istore_n 3, 1) := by decide +kernel
theorem dX6_leavesOut_29 : decode cX6_leavesOut 29 = .ok (.iload_n 2, 1) := by decide +kernel
theorem dX6_leavesOut_30 : decode cX6_leavesOut 30 = .ok (.istore 4, 2) := by decide +kernel
theorem dX6_leavesOut_32 : decode cX6_leavesOut 32 = .ok (.iload 4, 2) := by decide +kernel
theorem dX6_leavesOut_34 : decode cX6_leavesOut 34 = .ok (.iload_n 3, 1) := by decide +kernel
theorem dX6_leavesOut_35 : decode cX6_leavesOut 35 = .ok (.if_icmp .gt 31, 3) := by decide +kernel
theorem dX6_leavesOut_38 : decode cX6_leavesOut 38 = .ok (.aload_n 0, 1) := by decide +kernel
theorem dX6_leavesOut_39 : decode cX6_leavesOut 39 = .ok (.iload 4, 2) := by decide +kernel
theorem dX6_leavesOut_41 : decode cX6_leavesOut 41 = .ok (.invokevirtual 102, 3) := by decide +kernel
theorem dX6_leavesOut_44 : decode cX6_leavesOut 44 = .ok (.aload_n 0, 1) := by decide +kernel
theorem dX6_leavesOut_45 : decode cX6_leavesOut 45 = .ok (.getfield 36, 3) := by decide +kernel
theorem dX6_leavesOut_48 : decode cX6_leavesOut 48 = .ok (.aload_n 0, 1) := by decide +kernel
theorem dX6_leavesOut_49 : decode cX6_leavesOut 49 = .ok (.iload_n 1, 1) := by decide +kernel
theorem dX6_leavesOut_50 : decode cX6_leavesOut 50 = .ok (.invokevirtual 83, 3) := by decide +kernel
theorem dX6_leavesOut_53 : decode cX6_leavesOut 53 = .ok (.iaload, 1) := by decide +kernel
theorem dX6_leavesOut_54 : decode cX6_leavesOut 54 = .ok (.ifCond .ne 6, 3) := by decide +kernel
theorem dX6_leavesOut_57 : decode cX6_leavesOut 57 = .ok (.iload 4, 2) := by decide +kernel
theorem dX6_leavesOut_59 : decode cX6_leavesOut 59 = .ok (.ireturn, 1) := by decide +kernel
theorem dX6_leavesOut_60 : decode cX6_leavesOut 60 = .ok (.iinc 4 1, 3) := by decide +kernel
theorem dX6_leavesOut_63 : decode cX6_leavesOut 63 = .ok (.goto (-31), 3) := by decide +kernel
theorem dX6_leavesOut_66 : decode cX6_leavesOut 66 = .ok (.bipush (-5), 2) := by decide +kernel
theorem dX6_leavesOut_68 : decode cX6_leavesOut 68 = .ok (.ireturn, 1) := by decide +kernel
theorem dX6_apart_0 : decode cX6_apart 0 = .ok (.lconst 0, 1) := by decide +kernel
theorem dX6_apart_1 : decode cX6_apart 1 = .ok (.lstore_n 2, 1) := by decide +kernel
theorem dX6_apart_2 : decode cX6_apart 2 = .ok (.iconst 0, 1) := by decide +kernel
theorem dX6_apart_3 : decode cX6_apart 3 = .ok (.istore 4, 2) := by decide +kernel
theorem dX6_apart_5 : decode cX6_apart 5 = .ok (.iload 4, 2) := by decide +kernel
theorem dX6_apart_7 : decode cX6_apart 7 = .ok (.aload_n 0, 1) := by decide +kernel
theorem dX6_apart_8 : decode cX6_apart 8 = .ok (.getfield 77, 3) := by decide +kernel
theorem dX6_apart_11 : decode cX6_apart 11 = .ok (.if_icmp .ge 55, 3) := by decide +kernel
theorem dX6_apart_14 : decode cX6_apart 14 = .ok (.aload_n 0, 1) := by decide +kernel
theorem dX6_apart_15 : decode cX6_apart 15 = .ok (.getfield 36, 3) := by decide +kernel
theorem dX6_apart_18 : decode cX6_apart 18 = .ok (.iload 4, 2) := by decide +kernel
theorem dX6_apart_20 : decode cX6_apart 20 = .ok (.iaload, 1) := by decide +kernel
theorem dX6_apart_21 : decode cX6_apart 21 = .ok (.i2l, 1) := by decide +kernel
theorem dX6_apart_22 : decode cX6_apart 22 = .ok (.iload_n 1, 1) := by decide +kernel
theorem dX6_apart_23 : decode cX6_apart 23 = .ok (.i2l, 1) := by decide +kernel
theorem dX6_apart_24 : decode cX6_apart 24 = .ok (.lmul, 1) := by decide +kernel
theorem dX6_apart_25 : decode cX6_apart 25 = .ok (.aload_n 0, 1) := by decide +kernel
theorem dX6_apart_26 : decode cX6_apart 26 = .ok (.getfield 26, 3) := by decide +kernel
theorem dX6_apart_29 : decode cX6_apart 29 = .ok (.iload 4, 2) := by decide +kernel
theorem dX6_apart_31 : decode cX6_apart 31 = .ok (.iaload, 1) := by decide +kernel
theorem dX6_apart_32 : decode cX6_apart 32 = .ok (.i2l, 1) := by decide +kernel
theorem dX6_apart_33 : decode cX6_apart 33 = .ok (.aload_n 0, 1) := by decide +kernel
theorem dX6_apart_34 : decode cX6_apart 34 = .ok (.getfield 99, 3) := by decide +kernel
theorem dX6_apart_37 : decode cX6_apart 37 = .ok (.i2l, 1) := by decide +kernel
theorem dX6_apart_38 : decode cX6_apart 38 = .ok (.lmul, 1) := by decide +kernel
theorem dX6_apart_39 : decode cX6_apart 39 = .ok (.lsub, 1) := by decide +kernel
theorem dX6_apart_40 : decode cX6_apart 40 = .ok (.lstore 5, 2) := by decide +kernel
theorem dX6_apart_42 : decode cX6_apart 42 = .ok (.lload_n 2, 1) := by decide +kernel
theorem dX6_apart_43 : decode cX6_apart 43 = .ok (.lload 5, 2) := by decide +kernel
theorem dX6_apart_45 : decode cX6_apart 45 = .ok (.lconst 0, 1) := by decide +kernel
theorem dX6_apart_46 : decode cX6_apart 46 = .ok (.lcmp, 1) := by decide +kernel
theorem dX6_apart_47 : decode cX6_apart 47 = .ok (.ifCond .ge 9, 3) := by decide +kernel
theorem dX6_apart_50 : decode cX6_apart 50 = .ok (.lload 5, 2) := by decide +kernel
theorem dX6_apart_52 : decode cX6_apart 52 = .ok (.lneg, 1) := by decide +kernel
theorem dX6_apart_53 : decode cX6_apart 53 = .ok (.goto 5, 3) := by decide +kernel
theorem dX6_apart_56 : decode cX6_apart 56 = .ok (.lload 5, 2) := by decide +kernel
theorem dX6_apart_58 : decode cX6_apart 58 = .ok (.ladd, 1) := by decide +kernel
theorem dX6_apart_59 : decode cX6_apart 59 = .ok (.lstore_n 2, 1) := by decide +kernel
theorem dX6_apart_60 : decode cX6_apart 60 = .ok (.iinc 4 1, 3) := by decide +kernel
theorem dX6_apart_63 : decode cX6_apart 63 = .ok (.goto (-58), 3) := by decide +kernel
theorem dX6_apart_66 : decode cX6_apart 66 = .ok (.lload_n 2, 1) := by decide +kernel
theorem dX6_apart_67 : decode cX6_apart 67 = .ok (.lreturn, 1) := by decide +kernel
theorem dX6_fairest_0 : decode cX6_fairest 0 = .ok (.aload_n 0, 1) := by decide +kernel
theorem dX6_fairest_1 : decode cX6_fairest 1 = .ok (.invokevirtual 169, 3) := by decide +kernel
theorem dX6_fairest_4 : decode cX6_fairest 4 = .ok (.istore_n 1, 1) := by decide +kernel
theorem dX6_fairest_5 : decode cX6_fairest 5 = .ok (.bipush (-5), 2) := by decide +kernel
theorem dX6_fairest_7 : decode cX6_fairest 7 = .ok (.istore_n 2, 1) := by decide +kernel
theorem dX6_fairest_8 : decode cX6_fairest 8 = .ok (.lconst 0, 1) := by decide +kernel
theorem dX6_fairest_9 : decode cX6_fairest 9 = .ok (.lstore_n 3, 1) := by decide +kernel
theorem dX6_fairest_10 : decode cX6_fairest 10 = .ok (.lconst 1, 1) := by decide +kernel
theorem dX6_fairest_11 : decode cX6_fairest 11 = .ok (.lstore 5, 2) := by decide +kernel
theorem dX6_fairest_13 : decode cX6_fairest 13 = .ok (.iconst 1, 1) := by decide +kernel
theorem dX6_fairest_14 : decode cX6_fairest 14 = .ok (.istore 7, 2) := by decide +kernel
theorem dX6_fairest_16 : decode cX6_fairest 16 = .ok (.iload 7, 2) := by decide +kernel
theorem dX6_fairest_18 : decode cX6_fairest 18 = .ok (.iload_n 1, 1) := by decide +kernel
theorem dX6_fairest_19 : decode cX6_fairest 19 = .ok (.if_icmp .gt 55, 3) := by decide +kernel
theorem dX6_fairest_22 : decode cX6_fairest 22 = .ok (.aload_n 0, 1) := by decide +kernel
theorem dX6_fairest_23 : decode cX6_fairest 23 = .ok (.iload 7, 2) := by decide +kernel
theorem dX6_fairest_25 : decode cX6_fairest 25 = .ok (.invokevirtual 102, 3) := by decide +kernel
theorem dX6_fairest_28 : decode cX6_fairest 28 = .ok (.aload_n 0, 1) := by decide +kernel
theorem dX6_fairest_29 : decode cX6_fairest 29 = .ok (.iload_n 1, 1) := by decide +kernel
theorem dX6_fairest_30 : decode cX6_fairest 30 = .ok (.invokevirtual 172, 3) := by decide +kernel
theorem dX6_fairest_33 : decode cX6_fairest 33 = .ok (.lstore 8, 2) := by decide +kernel
theorem dX6_fairest_35 : decode cX6_fairest 35 = .ok (.iload_n 2, 1) := by decide +kernel
theorem dX6_fairest_36 : decode cX6_fairest 36 = .ok (.ifCond .lt 19, 3) := by decide +kernel
theorem dX6_fairest_39 : decode cX6_fairest 39 = .ok (.lload 8, 2) := by decide +kernel
theorem dX6_fairest_41 : decode cX6_fairest 41 = .ok (.lload 5, 2) := by decide +kernel
theorem dX6_fairest_43 : decode cX6_fairest 43 = .ok (.lmul, 1) := by decide +kernel
theorem dX6_fairest_44 : decode cX6_fairest 44 = .ok (.lload_n 3, 1) := by decide +kernel
theorem dX6_fairest_45 : decode cX6_fairest 45 = .ok (.aload_n 0, 1) := by decide +kernel
theorem dX6_fairest_46 : decode cX6_fairest 46 = .ok (.getfield 99, 3) := by decide +kernel
theorem dX6_fairest_49 : decode cX6_fairest 49 = .ok (.i2l, 1) := by decide +kernel
theorem dX6_fairest_50 : decode cX6_fairest 50 = .ok (.lmul, 1) := by decide +kernel
theorem dX6_fairest_51 : decode cX6_fairest 51 = .ok (.lcmp, 1) := by decide +kernel
theorem dX6_fairest_52 : decode cX6_fairest 52 = .ok (.ifCond .ge 16, 3) := by decide +kernel
theorem dX6_fairest_55 : decode cX6_fairest 55 = .ok (.iload 7, 2) := by decide +kernel
theorem dX6_fairest_57 : decode cX6_fairest 57 = .ok (.istore_n 2, 1) := by decide +kernel
theorem dX6_fairest_58 : decode cX6_fairest 58 = .ok (.lload 8, 2) := by decide +kernel
theorem dX6_fairest_60 : decode cX6_fairest 60 = .ok (.lstore_n 3, 1) := by decide +kernel
theorem dX6_fairest_61 : decode cX6_fairest 61 = .ok (.aload_n 0, 1) := by decide +kernel
theorem dX6_fairest_62 : decode cX6_fairest 62 = .ok (.getfield 99, 3) := by decide +kernel
theorem dX6_fairest_65 : decode cX6_fairest 65 = .ok (.i2l, 1) := by decide +kernel
theorem dX6_fairest_66 : decode cX6_fairest 66 = .ok (.lstore 5, 2) := by decide +kernel
theorem dX6_fairest_68 : decode cX6_fairest 68 = .ok (.iinc 7 1, 3) := by decide +kernel
theorem dX6_fairest_71 : decode cX6_fairest 71 = .ok (.goto (-55), 3) := by decide +kernel
theorem dX6_fairest_74 : decode cX6_fairest 74 = .ok (.iload_n 2, 1) := by decide +kernel
theorem dX6_fairest_75 : decode cX6_fairest 75 = .ok (.ireturn, 1) := by decide +kernel
theorem dX6_ballot_0 : decode cX6_ballot 0 = .ok (.iload_n 1, 1) := by decide +kernel
theorem dX6_ballot_1 : decode cX6_ballot 1 = .ok (.ifCond .lt 12, 3) := by decide +kernel
theorem dX6_ballot_4 : decode cX6_ballot 4 = .ok (.iload_n 2, 1) := by decide +kernel
theorem dX6_ballot_5 : decode cX6_ballot 5 = .ok (.iconst 0, 1) := by decide +kernel
theorem dX6_ballot_6 : decode cX6_ballot 6 = .ok (.iconst 2, 1) := by decide +kernel
theorem dX6_ballot_7 : decode cX6_ballot 7 = .ok (.invokestatic 53, 3) := by decide +kernel
theorem dX6_ballot_10 : decode cX6_ballot 10 = .ok (.ifCond .ne 6, 3) := by decide +kernel
theorem dX6_ballot_13 : decode cX6_ballot 13 = .ok (.bipush (-2), 2) := by decide +kernel
theorem dX6_ballot_15 : decode cX6_ballot 15 = .ok (.ireturn, 1) := by decide +kernel
theorem dX6_ballot_16 : decode cX6_ballot 16 = .ok (.iload_n 1, 1) := by decide +kernel
theorem dX6_ballot_17 : decode cX6_ballot 17 = .ok (.aload_n 0, 1) := by decide +kernel
theorem dX6_ballot_18 : decode cX6_ballot 18 = .ok (.getfield 7, 3) := by decide +kernel
theorem dX6_ballot_21 : decode cX6_ballot 21 = .ok (.iconst 4, 1) := by decide +kernel
theorem dX6_ballot_22 : decode cX6_ballot 22 = .ok (.iaload, 1) := by decide +kernel
theorem dX6_ballot_23 : decode cX6_ballot 23 = .ok (.if_icmp .ge 18, 3) := by decide +kernel
theorem dX6_ballot_26 : decode cX6_ballot 26 = .ok (.aload_n 0, 1) := by decide +kernel
theorem dX6_ballot_27 : decode cX6_ballot 27 = .ok (.getfield 7, 3) := by decide +kernel
theorem dX6_ballot_30 : decode cX6_ballot 30 = .ok (.iconst 5, 1) := by decide +kernel
theorem dX6_ballot_31 : decode cX6_ballot 31 = .ok (.iconst 3, 1) := by decide +kernel
theorem dX6_ballot_32 : decode cX6_ballot 32 = .ok (.iload_n 1, 1) := by decide +kernel
theorem dX6_ballot_33 : decode cX6_ballot 33 = .ok (.imul, 1) := by decide +kernel
theorem dX6_ballot_34 : decode cX6_ballot 34 = .ok (.iadd, 1) := by decide +kernel
theorem dX6_ballot_35 : decode cX6_ballot 35 = .ok (.iload_n 2, 1) := by decide +kernel
theorem dX6_ballot_36 : decode cX6_ballot 36 = .ok (.iadd, 1) := by decide +kernel
theorem dX6_ballot_37 : decode cX6_ballot 37 = .ok (.iaload, 1) := by decide +kernel
theorem dX6_ballot_38 : decode cX6_ballot 38 = .ok (.goto 5, 3) := by decide +kernel
theorem dX6_ballot_41 : decode cX6_ballot 41 = .ok (.bipush (-5), 2) := by decide +kernel
theorem dX6_ballot_43 : decode cX6_ballot 43 = .ok (.ireturn, 1) := by decide +kernel
theorem dX6_count_0 : decode cX6_count 0 = .ok (.aload_n 0, 1) := by decide +kernel
theorem dX6_count_1 : decode cX6_count 1 = .ok (.invokevirtual 160, 3) := by decide +kernel
theorem dX6_count_4 : decode cX6_count 4 = .ok (.iload_n 1, 1) := by decide +kernel
theorem dX6_count_5 : decode cX6_count 5 = .ok (.tableswitch 140 0 12 #[67, 74, 79, 86, 91, 96, 101, 106, 111, 116, 123, 130, 135], 67) := by decide +kernel
theorem dX6_count_72 : decode cX6_count 72 = .ok (.aload_n 0, 1) := by decide +kernel
theorem dX6_count_73 : decode cX6_count 73 = .ok (.getfield 7, 3) := by decide +kernel
theorem dX6_count_76 : decode cX6_count 76 = .ok (.iconst 0, 1) := by decide +kernel
theorem dX6_count_77 : decode cX6_count 77 = .ok (.iaload, 1) := by decide +kernel
theorem dX6_count_78 : decode cX6_count 78 = .ok (.ireturn, 1) := by decide +kernel
theorem dX6_count_79 : decode cX6_count 79 = .ok (.aload_n 0, 1) := by decide +kernel
theorem dX6_count_80 : decode cX6_count 80 = .ok (.getfield 77, 3) := by decide +kernel
theorem dX6_count_83 : decode cX6_count 83 = .ok (.ireturn, 1) := by decide +kernel
theorem dX6_count_84 : decode cX6_count 84 = .ok (.aload_n 0, 1) := by decide +kernel
theorem dX6_count_85 : decode cX6_count 85 = .ok (.getfield 7, 3) := by decide +kernel
theorem dX6_count_88 : decode cX6_count 88 = .ok (.iconst 1, 1) := by decide +kernel
theorem dX6_count_89 : decode cX6_count 89 = .ok (.iaload, 1) := by decide +kernel
theorem dX6_count_90 : decode cX6_count 90 = .ok (.ireturn, 1) := by decide +kernel
theorem dX6_count_91 : decode cX6_count 91 = .ok (.aload_n 0, 1) := by decide +kernel
theorem dX6_count_92 : decode cX6_count 92 = .ok (.invokevirtual 169, 3) := by decide +kernel
theorem dX6_count_95 : decode cX6_count 95 = .ok (.ireturn, 1) := by decide +kernel
theorem dX6_count_96 : decode cX6_count 96 = .ok (.aload_n 0, 1) := by decide +kernel
theorem dX6_count_97 : decode cX6_count 97 = .ok (.invokevirtual 154, 3) := by decide +kernel
theorem dX6_count_100 : decode cX6_count 100 = .ok (.ireturn, 1) := by decide +kernel
theorem dX6_count_101 : decode cX6_count 101 = .ok (.aload_n 0, 1) := by decide +kernel
theorem dX6_count_102 : decode cX6_count 102 = .ok (.getfield 117, 3) := by decide +kernel
theorem dX6_count_105 : decode cX6_count 105 = .ok (.ireturn, 1) := by decide +kernel
theorem dX6_count_106 : decode cX6_count 106 = .ok (.aload_n 0, 1) := by decide +kernel
theorem dX6_count_107 : decode cX6_count 107 = .ok (.getfield 99, 3) := by decide +kernel
theorem dX6_count_110 : decode cX6_count 110 = .ok (.ireturn, 1) := by decide +kernel
theorem dX6_count_111 : decode cX6_count 111 = .ok (.aload_n 0, 1) := by decide +kernel
theorem dX6_count_112 : decode cX6_count 112 = .ok (.invokevirtual 163, 3) := by decide +kernel
theorem dX6_count_115 : decode cX6_count 115 = .ok (.ireturn, 1) := by decide +kernel
theorem dX6_count_116 : decode cX6_count 116 = .ok (.aload_n 0, 1) := by decide +kernel
theorem dX6_count_117 : decode cX6_count 117 = .ok (.invokevirtual 69, 3) := by decide +kernel
theorem dX6_count_120 : decode cX6_count 120 = .ok (.ireturn, 1) := by decide +kernel
theorem dX6_count_121 : decode cX6_count 121 = .ok (.aload_n 0, 1) := by decide +kernel
theorem dX6_count_122 : decode cX6_count 122 = .ok (.getfield 7, 3) := by decide +kernel
theorem dX6_count_125 : decode cX6_count 125 = .ok (.iconst 2, 1) := by decide +kernel
theorem dX6_count_126 : decode cX6_count 126 = .ok (.iaload, 1) := by decide +kernel
theorem dX6_count_127 : decode cX6_count 127 = .ok (.ireturn, 1) := by decide +kernel
theorem dX6_count_128 : decode cX6_count 128 = .ok (.aload_n 0, 1) := by decide +kernel
theorem dX6_count_129 : decode cX6_count 129 = .ok (.getfield 7, 3) := by decide +kernel
theorem dX6_count_132 : decode cX6_count 132 = .ok (.iconst 3, 1) := by decide +kernel
theorem dX6_count_133 : decode cX6_count 133 = .ok (.iaload, 1) := by decide +kernel
theorem dX6_count_134 : decode cX6_count 134 = .ok (.ireturn, 1) := by decide +kernel
theorem dX6_count_135 : decode cX6_count 135 = .ok (.aload_n 0, 1) := by decide +kernel
theorem dX6_count_136 : decode cX6_count 136 = .ok (.getfield 42, 3) := by decide +kernel
theorem dX6_count_139 : decode cX6_count 139 = .ok (.ireturn, 1) := by decide +kernel
theorem dX6_count_140 : decode cX6_count 140 = .ok (.aload_n 0, 1) := by decide +kernel
theorem dX6_count_141 : decode cX6_count 141 = .ok (.getfield 126, 3) := by decide +kernel
theorem dX6_count_144 : decode cX6_count 144 = .ok (.ireturn, 1) := by decide +kernel
theorem dX6_count_145 : decode cX6_count 145 = .ok (.bipush (-2), 2) := by decide +kernel
theorem dX6_count_147 : decode cX6_count 147 = .ok (.ireturn, 1) := by decide +kernel
theorem dJ6_compare_7cf53_0 : decode cJ6_compare_7cf53 0 = .ok (.iload_n 0, 1) := by decide +kernel
theorem dJ6_compare_7cf53_1 : decode cJ6_compare_7cf53 1 = .ok (.iload_n 1, 1) := by decide +kernel
theorem dJ6_compare_7cf53_2 : decode cJ6_compare_7cf53 2 = .ok (.if_icmp .ge 7, 3) := by decide +kernel
theorem dJ6_compare_7cf53_5 : decode cJ6_compare_7cf53 5 = .ok (.iconst (-1), 1) := by decide +kernel
theorem dJ6_compare_7cf53_6 : decode cJ6_compare_7cf53 6 = .ok (.goto 13, 3) := by decide +kernel
theorem dJ6_compare_7cf53_9 : decode cJ6_compare_7cf53 9 = .ok (.iload_n 0, 1) := by decide +kernel
theorem dJ6_compare_7cf53_10 : decode cJ6_compare_7cf53 10 = .ok (.iload_n 1, 1) := by decide +kernel
theorem dJ6_compare_7cf53_11 : decode cJ6_compare_7cf53 11 = .ok (.if_icmp .ne 7, 3) := by decide +kernel
theorem dJ6_compare_7cf53_14 : decode cJ6_compare_7cf53 14 = .ok (.iconst 0, 1) := by decide +kernel
theorem dJ6_compare_7cf53_15 : decode cJ6_compare_7cf53 15 = .ok (.goto 4, 3) := by decide +kernel
theorem dJ6_compare_7cf53_18 : decode cJ6_compare_7cf53 18 = .ok (.iconst 1, 1) := by decide +kernel
theorem dJ6_compare_7cf53_19 : decode cJ6_compare_7cf53 19 = .ok (.ireturn, 1) := by decide +kernel
theorem dJ6_bitCount_0f7a4_0 : decode cJ6_bitCount_0f7a4 0 = .ok (.iload_n 0, 1) := by decide +kernel
theorem dJ6_bitCount_0f7a4_1 : decode cJ6_bitCount_0f7a4 1 = .ok (.iload_n 0, 1) := by decide +kernel
theorem dJ6_bitCount_0f7a4_2 : decode cJ6_bitCount_0f7a4 2 = .ok (.iconst 1, 1) := by decide +kernel
theorem dJ6_bitCount_0f7a4_3 : decode cJ6_bitCount_0f7a4 3 = .ok (.iushr, 1) := by decide +kernel
theorem dJ6_bitCount_0f7a4_4 : decode cJ6_bitCount_0f7a4 4 = .ok (.ldc_w 265, 3) := by decide +kernel
theorem dJ6_bitCount_0f7a4_7 : decode cJ6_bitCount_0f7a4 7 = .ok (.iand, 1) := by decide +kernel
theorem dJ6_bitCount_0f7a4_8 : decode cJ6_bitCount_0f7a4 8 = .ok (.isub, 1) := by decide +kernel
theorem dJ6_bitCount_0f7a4_9 : decode cJ6_bitCount_0f7a4 9 = .ok (.istore_n 0, 1) := by decide +kernel
theorem dJ6_bitCount_0f7a4_10 : decode cJ6_bitCount_0f7a4 10 = .ok (.iload_n 0, 1) := by decide +kernel
theorem dJ6_bitCount_0f7a4_11 : decode cJ6_bitCount_0f7a4 11 = .ok (.ldc_w 266, 3) := by decide +kernel
theorem dJ6_bitCount_0f7a4_14 : decode cJ6_bitCount_0f7a4 14 = .ok (.iand, 1) := by decide +kernel
theorem dJ6_bitCount_0f7a4_15 : decode cJ6_bitCount_0f7a4 15 = .ok (.iload_n 0, 1) := by decide +kernel
theorem dJ6_bitCount_0f7a4_16 : decode cJ6_bitCount_0f7a4 16 = .ok (.iconst 2, 1) := by decide +kernel
theorem dJ6_bitCount_0f7a4_17 : decode cJ6_bitCount_0f7a4 17 = .ok (.iushr, 1) := by decide +kernel
theorem dJ6_bitCount_0f7a4_18 : decode cJ6_bitCount_0f7a4 18 = .ok (.ldc_w 266, 3) := by decide +kernel
theorem dJ6_bitCount_0f7a4_21 : decode cJ6_bitCount_0f7a4 21 = .ok (.iand, 1) := by decide +kernel
theorem dJ6_bitCount_0f7a4_22 : decode cJ6_bitCount_0f7a4 22 = .ok (.iadd, 1) := by decide +kernel
theorem dJ6_bitCount_0f7a4_23 : decode cJ6_bitCount_0f7a4 23 = .ok (.istore_n 0, 1) := by decide +kernel
theorem dJ6_bitCount_0f7a4_24 : decode cJ6_bitCount_0f7a4 24 = .ok (.iload_n 0, 1) := by decide +kernel
theorem dJ6_bitCount_0f7a4_25 : decode cJ6_bitCount_0f7a4 25 = .ok (.iload_n 0, 1) := by decide +kernel
theorem dJ6_bitCount_0f7a4_26 : decode cJ6_bitCount_0f7a4 26 = .ok (.iconst 4, 1) := by decide +kernel
theorem dJ6_bitCount_0f7a4_27 : decode cJ6_bitCount_0f7a4 27 = .ok (.iushr, 1) := by decide +kernel
theorem dJ6_bitCount_0f7a4_28 : decode cJ6_bitCount_0f7a4 28 = .ok (.iadd, 1) := by decide +kernel
theorem dJ6_bitCount_0f7a4_29 : decode cJ6_bitCount_0f7a4 29 = .ok (.ldc_w 267, 3) := by decide +kernel
theorem dJ6_bitCount_0f7a4_32 : decode cJ6_bitCount_0f7a4 32 = .ok (.iand, 1) := by decide +kernel
theorem dJ6_bitCount_0f7a4_33 : decode cJ6_bitCount_0f7a4 33 = .ok (.istore_n 0, 1) := by decide +kernel
theorem dJ6_bitCount_0f7a4_34 : decode cJ6_bitCount_0f7a4 34 = .ok (.iload_n 0, 1) := by decide +kernel
theorem dJ6_bitCount_0f7a4_35 : decode cJ6_bitCount_0f7a4 35 = .ok (.iload_n 0, 1) := by decide +kernel
theorem dJ6_bitCount_0f7a4_36 : decode cJ6_bitCount_0f7a4 36 = .ok (.bipush 8, 2) := by decide +kernel
theorem dJ6_bitCount_0f7a4_38 : decode cJ6_bitCount_0f7a4 38 = .ok (.iushr, 1) := by decide +kernel
theorem dJ6_bitCount_0f7a4_39 : decode cJ6_bitCount_0f7a4 39 = .ok (.iadd, 1) := by decide +kernel
theorem dJ6_bitCount_0f7a4_40 : decode cJ6_bitCount_0f7a4 40 = .ok (.istore_n 0, 1) := by decide +kernel
theorem dJ6_bitCount_0f7a4_41 : decode cJ6_bitCount_0f7a4 41 = .ok (.iload_n 0, 1) := by decide +kernel
theorem dJ6_bitCount_0f7a4_42 : decode cJ6_bitCount_0f7a4 42 = .ok (.iload_n 0, 1) := by decide +kernel
theorem dJ6_bitCount_0f7a4_43 : decode cJ6_bitCount_0f7a4 43 = .ok (.bipush 16, 2) := by decide +kernel
theorem dJ6_bitCount_0f7a4_45 : decode cJ6_bitCount_0f7a4 45 = .ok (.iushr, 1) := by decide +kernel
theorem dJ6_bitCount_0f7a4_46 : decode cJ6_bitCount_0f7a4 46 = .ok (.iadd, 1) := by decide +kernel
theorem dJ6_bitCount_0f7a4_47 : decode cJ6_bitCount_0f7a4 47 = .ok (.istore_n 0, 1) := by decide +kernel
theorem dJ6_bitCount_0f7a4_48 : decode cJ6_bitCount_0f7a4 48 = .ok (.iload_n 0, 1) := by decide +kernel
theorem dJ6_bitCount_0f7a4_49 : decode cJ6_bitCount_0f7a4 49 = .ok (.bipush 63, 2) := by decide +kernel
theorem dJ6_bitCount_0f7a4_51 : decode cJ6_bitCount_0f7a4 51 = .ok (.iand, 1) := by decide +kernel
theorem dJ6_bitCount_0f7a4_52 : decode cJ6_bitCount_0f7a4 52 = .ok (.ireturn, 1) := by decide +kernel
theorem dJ9_abs_0f7a4_0 : decode cJ9_abs_0f7a4 0 = .ok (.iload_n 0, 1) := by decide +kernel
theorem dJ9_abs_0f7a4_1 : decode cJ9_abs_0f7a4 1 = .ok (.ifCond .ge 8, 3) := by decide +kernel
theorem dJ9_abs_0f7a4_4 : decode cJ9_abs_0f7a4 4 = .ok (.iload_n 0, 1) := by decide +kernel
theorem dJ9_abs_0f7a4_5 : decode cJ9_abs_0f7a4 5 = .ok (.ineg, 1) := by decide +kernel
theorem dJ9_abs_0f7a4_6 : decode cJ9_abs_0f7a4 6 = .ok (.goto 4, 3) := by decide +kernel
theorem dJ9_abs_0f7a4_9 : decode cJ9_abs_0f7a4 9 = .ok (.iload_n 0, 1) := by decide +kernel
theorem dJ9_abs_0f7a4_10 : decode cJ9_abs_0f7a4 10 = .ok (.ireturn, 1) := by decide +kernel
theorem dJ9_max_7cf53_0 : decode cJ9_max_7cf53 0 = .ok (.iload_n 0, 1) := by decide +kernel
theorem dJ9_max_7cf53_1 : decode cJ9_max_7cf53 1 = .ok (.iload_n 1, 1) := by decide +kernel
theorem dJ9_max_7cf53_2 : decode cJ9_max_7cf53 2 = .ok (.if_icmp .lt 7, 3) := by decide +kernel
theorem dJ9_max_7cf53_5 : decode cJ9_max_7cf53 5 = .ok (.iload_n 0, 1) := by decide +kernel
theorem dJ9_max_7cf53_6 : decode cJ9_max_7cf53 6 = .ok (.goto 4, 3) := by decide +kernel
theorem dJ9_max_7cf53_9 : decode cJ9_max_7cf53 9 = .ok (.iload_n 1, 1) := by decide +kernel
theorem dJ9_max_7cf53_10 : decode cJ9_max_7cf53 10 = .ok (.ireturn, 1) := by decide +kernel
theorem dJ7_fill_53178_0 : decode cJ7_fill_53178 0 = .ok (.iconst 0, 1) := by decide +kernel
theorem dJ7_fill_53178_1 : decode cJ7_fill_53178 1 = .ok (.istore_n 2, 1) := by decide +kernel
theorem dJ7_fill_53178_2 : decode cJ7_fill_53178 2 = .ok (.aload_n 0, 1) := by decide +kernel
theorem dJ7_fill_53178_3 : decode cJ7_fill_53178 3 = .ok (.arraylength, 1) := by decide +kernel
theorem dJ7_fill_53178_4 : decode cJ7_fill_53178 4 = .ok (.istore_n 3, 1) := by decide +kernel
theorem dJ7_fill_53178_5 : decode cJ7_fill_53178 5 = .ok (.iload_n 2, 1) := by decide +kernel
theorem dJ7_fill_53178_6 : decode cJ7_fill_53178 6 = .ok (.iload_n 3, 1) := by decide +kernel
theorem dJ7_fill_53178_7 : decode cJ7_fill_53178 7 = .ok (.if_icmp .ge 13, 3) := by decide +kernel
theorem dJ7_fill_53178_10 : decode cJ7_fill_53178 10 = .ok (.aload_n 0, 1) := by decide +kernel
theorem dJ7_fill_53178_11 : decode cJ7_fill_53178 11 = .ok (.iload_n 2, 1) := by decide +kernel
theorem dJ7_fill_53178_12 : decode cJ7_fill_53178 12 = .ok (.iload_n 1, 1) := by decide +kernel
theorem dJ7_fill_53178_13 : decode cJ7_fill_53178 13 = .ok (.iastore, 1) := by decide +kernel
theorem dJ7_fill_53178_14 : decode cJ7_fill_53178 14 = .ok (.iinc 2 1, 3) := by decide +kernel
theorem dJ7_fill_53178_17 : decode cJ7_fill_53178 17 = .ok (.goto (-12), 3) := by decide +kernel
theorem dJ7_fill_53178_20 : decode cJ7_fill_53178 20 = .ok (.return_, 1) := by decide +kernel
theorem dL_law_0 : decode cL_law 0 = .ok (.new 7, 3) := by decide +kernel
theorem dL_law_3 : decode cL_law 3 = .ok (.dup, 1) := by decide +kernel
theorem dL_law_4 : decode cL_law 4 = .ok (.invokespecial 9, 3) := by decide +kernel
theorem dL_law_7 : decode cL_law 7 = .ok (.astore_n 1, 1) := by decide +kernel
theorem dL_law_8 : decode cL_law 8 = .ok (.new 10, 3) := by decide +kernel
theorem dL_law_11 : decode cL_law 11 = .ok (.dup, 1) := by decide +kernel
theorem dL_law_12 : decode cL_law 12 = .ok (.invokespecial 12, 3) := by decide +kernel
theorem dL_law_15 : decode cL_law 15 = .ok (.astore_n 2, 1) := by decide +kernel
theorem dL_law_16 : decode cL_law 16 = .ok (.iconst 0, 1) := by decide +kernel
theorem dL_law_17 : decode cL_law 17 = .ok (.istore_n 3, 1) := by decide +kernel
theorem dL_law_18 : decode cL_law 18 = .ok (.iload_n 3, 1) := by decide +kernel
theorem dL_law_19 : decode cL_law 19 = .ok (.aload_n 0, 1) := by decide +kernel
theorem dL_law_20 : decode cL_law 20 = .ok (.arraylength, 1) := by decide +kernel
theorem dL_law_21 : decode cL_law 21 = .ok (.iconst 3, 1) := by decide +kernel
theorem dL_law_22 : decode cL_law 22 = .ok (.isub, 1) := by decide +kernel
theorem dL_law_23 : decode cL_law 23 = .ok (.if_icmp .gt 700, 3) := by decide +kernel
theorem dL_law_26 : decode cL_law 26 = .ok (.aload_n 0, 1) := by decide +kernel
theorem dL_law_27 : decode cL_law 27 = .ok (.iload_n 3, 1) := by decide +kernel
theorem dL_law_28 : decode cL_law 28 = .ok (.iaload, 1) := by decide +kernel
theorem dL_law_29 : decode cL_law 29 = .ok (.bipush 31, 2) := by decide +kernel
theorem dL_law_31 : decode cL_law 31 = .ok (.iand, 1) := by decide +kernel
theorem dL_law_32 : decode cL_law 32 = .ok (.tableswitch 685 0 22 #[108, 131, 154, 187, 236, 259, 292, 315, 340, 353, 366, 379, 392, 405, 438, 471, 494, 527, 550, 583, 616, 629, 662], 108) := by decide +kernel
theorem dL_law_140 : decode cL_law 140 = .ok (.aload_n 1, 1) := by decide +kernel
theorem dL_law_141 : decode cL_law 141 = .ok (.aload_n 0, 1) := by decide +kernel
theorem dL_law_142 : decode cL_law 142 = .ok (.iload_n 3, 1) := by decide +kernel
theorem dL_law_143 : decode cL_law 143 = .ok (.iconst 1, 1) := by decide +kernel
theorem dL_law_144 : decode cL_law 144 = .ok (.iadd, 1) := by decide +kernel
theorem dL_law_145 : decode cL_law 145 = .ok (.iaload, 1) := by decide +kernel
theorem dL_law_146 : decode cL_law 146 = .ok (.invokevirtual 13, 3) := by decide +kernel
theorem dL_law_149 : decode cL_law 149 = .ok (.aload_n 2, 1) := by decide +kernel
theorem dL_law_150 : decode cL_law 150 = .ok (.aload_n 0, 1) := by decide +kernel
theorem dL_law_151 : decode cL_law 151 = .ok (.iload_n 3, 1) := by decide +kernel
theorem dL_law_152 : decode cL_law 152 = .ok (.iconst 1, 1) := by decide +kernel
theorem dL_law_153 : decode cL_law 153 = .ok (.iadd, 1) := by decide +kernel
theorem dL_law_154 : decode cL_law 154 = .ok (.iaload, 1) := by decide +kernel
theorem dL_law_155 : decode cL_law 155 = .ok (.invokevirtual 17, 3) := by decide +kernel
theorem dL_law_158 : decode cL_law 158 = .ok (.if_icmp .eq 559, 3) := by decide +kernel
theorem dL_law_161 : decode cL_law 161 = .ok (.iconst 0, 1) := by decide +kernel
theorem dL_law_162 : decode cL_law 162 = .ok (.ireturn, 1) := by decide +kernel
theorem dL_law_163 : decode cL_law 163 = .ok (.aload_n 1, 1) := by decide +kernel
theorem dL_law_164 : decode cL_law 164 = .ok (.aload_n 0, 1) := by decide +kernel
theorem dL_law_165 : decode cL_law 165 = .ok (.iload_n 3, 1) := by decide +kernel
theorem dL_law_166 : decode cL_law 166 = .ok (.iconst 1, 1) := by decide +kernel
theorem dL_law_167 : decode cL_law 167 = .ok (.iadd, 1) := by decide +kernel
theorem dL_law_168 : decode cL_law 168 = .ok (.iaload, 1) := by decide +kernel
theorem dL_law_169 : decode cL_law 169 = .ok (.invokevirtual 18, 3) := by decide +kernel
theorem dL_law_172 : decode cL_law 172 = .ok (.aload_n 2, 1) := by decide +kernel
theorem dL_law_173 : decode cL_law 173 = .ok (.aload_n 0, 1) := by decide +kernel
theorem dL_law_174 : decode cL_law 174 = .ok (.iload_n 3, 1) := by decide +kernel
theorem dL_law_175 : decode cL_law 175 = .ok (.iconst 1, 1) := by decide +kernel
theorem dL_law_176 : decode cL_law 176 = .ok (.iadd, 1) := by decide +kernel
theorem dL_law_177 : decode cL_law 177 = .ok (.iaload, 1) := by decide +kernel
theorem dL_law_178 : decode cL_law 178 = .ok (.invokevirtual 21, 3) := by decide +kernel
theorem dL_law_181 : decode cL_law 181 = .ok (.if_icmp .eq 536, 3) := by decide +kernel
theorem dL_law_184 : decode cL_law 184 = .ok (.iconst 0, 1) := by decide +kernel
theorem dL_law_185 : decode cL_law 185 = .ok (.ireturn, 1) := by decide +kernel
theorem dL_law_186 : decode cL_law 186 = .ok (.aload_n 1, 1) := by decide +kernel
theorem dL_law_187 : decode cL_law 187 = .ok (.aload_n 0, 1) := by decide +kernel
theorem dL_law_188 : decode cL_law 188 = .ok (.iload_n 3, 1) := by decide +kernel
theorem dL_law_189 : decode cL_law 189 = .ok (.iconst 1, 1) := by decide +kernel
theorem dL_law_190 : decode cL_law 190 = .ok (.iadd, 1) := by decide +kernel
theorem dL_law_191 : decode cL_law 191 = .ok (.iaload, 1) := by decide +kernel
theorem dL_law_192 : decode cL_law 192 = .ok (.aload_n 0, 1) := by decide +kernel
theorem dL_law_193 : decode cL_law 193 = .ok (.iload_n 3, 1) := by decide +kernel
theorem dL_law_194 : decode cL_law 194 = .ok (.iconst 2, 1) := by decide +kernel
theorem dL_law_195 : decode cL_law 195 = .ok (.iadd, 1) := by decide +kernel
theorem dL_law_196 : decode cL_law 196 = .ok (.iaload, 1) := by decide +kernel
theorem dL_law_197 : decode cL_law 197 = .ok (.invokevirtual 22, 3) := by decide +kernel
theorem dL_law_200 : decode cL_law 200 = .ok (.aload_n 2, 1) := by decide +kernel
theorem dL_law_201 : decode cL_law 201 = .ok (.aload_n 0, 1) := by decide +kernel
theorem dL_law_202 : decode cL_law 202 = .ok (.iload_n 3, 1) := by decide +kernel
theorem dL_law_203 : decode cL_law 203 = .ok (.iconst 1, 1) := by decide +kernel
theorem dL_law_204 : decode cL_law 204 = .ok (.iadd, 1) := by decide +kernel
theorem dL_law_205 : decode cL_law 205 = .ok (.iaload, 1) := by decide +kernel
theorem dL_law_206 : decode cL_law 206 = .ok (.aload_n 0, 1) := by decide +kernel
theorem dL_law_207 : decode cL_law 207 = .ok (.iload_n 3, 1) := by decide +kernel
theorem dL_law_208 : decode cL_law 208 = .ok (.iconst 2, 1) := by decide +kernel
theorem dL_law_209 : decode cL_law 209 = .ok (.iadd, 1) := by decide +kernel
theorem dL_law_210 : decode cL_law 210 = .ok (.iaload, 1) := by decide +kernel
theorem dL_law_211 : decode cL_law 211 = .ok (.invokevirtual 26, 3) := by decide +kernel
theorem dL_law_214 : decode cL_law 214 = .ok (.if_icmp .eq 503, 3) := by decide +kernel
theorem dL_law_217 : decode cL_law 217 = .ok (.iconst 0, 1) := by decide +kernel
theorem dL_law_218 : decode cL_law 218 = .ok (.ireturn, 1) := by decide +kernel
theorem dL_law_219 : decode cL_law 219 = .ok (.aload_n 1, 1) := by decide +kernel
theorem dL_law_220 : decode cL_law 220 = .ok (.aload_n 0, 1) := by decide +kernel
theorem dL_law_221 : decode cL_law 221 = .ok (.iload_n 3, 1) := by decide +kernel
theorem dL_law_222 : decode cL_law 222 = .ok (.iconst 1, 1) := by decide +kernel
theorem dL_law_223 : decode cL_law 223 = .ok (.iadd, 1) := by decide +kernel
theorem dL_law_224 : decode cL_law 224 = .ok (.iaload, 1) := by decide +kernel
theorem dL_law_225 : decode cL_law 225 = .ok (.aload_n 0, 1) := by decide +kernel
theorem dL_law_226 : decode cL_law 226 = .ok (.iload_n 3, 1) := by decide +kernel
theorem dL_law_227 : decode cL_law 227 = .ok (.iconst 2, 1) := by decide +kernel
theorem dL_law_228 : decode cL_law 228 = .ok (.iadd, 1) := by decide +kernel
theorem dL_law_229 : decode cL_law 229 = .ok (.iaload, 1) := by decide +kernel
theorem dL_law_230 : decode cL_law 230 = .ok (.ifCond .eq 7, 3) := by decide +kernel
theorem dL_law_233 : decode cL_law 233 = .ok (.iconst 1, 1) := by decide +kernel
theorem dL_law_234 : decode cL_law 234 = .ok (.goto 4, 3) := by decide +kernel
theorem dL_law_237 : decode cL_law 237 = .ok (.iconst 0, 1) := by decide +kernel
theorem dL_law_238 : decode cL_law 238 = .ok (.invokevirtual 27, 3) := by decide +kernel
theorem dL_law_241 : decode cL_law 241 = .ok (.aload_n 2, 1) := by decide +kernel
theorem dL_law_242 : decode cL_law 242 = .ok (.aload_n 0, 1) := by decide +kernel
theorem dL_law_243 : decode cL_law 243 = .ok (.iload_n 3, 1) := by decide +kernel
theorem dL_law_244 : decode cL_law 244 = .ok (.iconst 1, 1) := by decide +kernel
theorem dL_law_245 : decode cL_law 245 = .ok (.iadd, 1) := by decide +kernel
theorem dL_law_246 : decode cL_law 246 = .ok (.iaload, 1) := by decide +kernel
theorem dL_law_247 : decode cL_law 247 = .ok (.aload_n 0, 1) := by decide +kernel
theorem dL_law_248 : decode cL_law 248 = .ok (.iload_n 3, 1) := by decide +kernel
theorem dL_law_249 : decode cL_law 249 = .ok (.iconst 2, 1) := by decide +kernel
theorem dL_law_250 : decode cL_law 250 = .ok (.iadd, 1) := by decide +kernel
theorem dL_law_251 : decode cL_law 251 = .ok (.iaload, 1) := by decide +kernel
theorem dL_law_252 : decode cL_law 252 = .ok (.ifCond .eq 7, 3) := by decide +kernel
theorem dL_law_255 : decode cL_law 255 = .ok (.iconst 1, 1) := by decide +kernel
theorem dL_law_256 : decode cL_law 256 = .ok (.goto 4, 3) := by decide +kernel
theorem dL_law_259 : decode cL_law 259 = .ok (.iconst 0, 1) := by decide +kernel
theorem dL_law_260 : decode cL_law 260 = .ok (.invokevirtual 31, 3) := by decide +kernel
theorem dL_law_263 : decode cL_law 263 = .ok (.if_icmp .eq 454, 3) := by decide +kernel
theorem dL_law_266 : decode cL_law 266 = .ok (.iconst 0, 1) := by decide +kernel
theorem dL_law_267 : decode cL_law 267 = .ok (.ireturn, 1) := by decide +kernel
theorem dL_law_268 : decode cL_law 268 = .ok (.aload_n 1, 1) := by decide +kernel
theorem dL_law_269 : decode cL_law 269 = .ok (.aload_n 0, 1) := by decide +kernel
theorem dL_law_270 : decode cL_law 270 = .ok (.iload_n 3, 1) := by decide +kernel
theorem dL_law_271 : decode cL_law 271 = .ok (.iconst 1, 1) := by decide +kernel
theorem dL_law_272 : decode cL_law 272 = .ok (.iadd, 1) := by decide +kernel
theorem dL_law_273 : decode cL_law 273 = .ok (.iaload, 1) := by decide +kernel
theorem dL_law_274 : decode cL_law 274 = .ok (.invokevirtual 32, 3) := by decide +kernel
theorem dL_law_277 : decode cL_law 277 = .ok (.aload_n 2, 1) := by decide +kernel
theorem dL_law_278 : decode cL_law 278 = .ok (.aload_n 0, 1) := by decide +kernel
theorem dL_law_279 : decode cL_law 279 = .ok (.iload_n 3, 1) := by decide +kernel
theorem dL_law_280 : decode cL_law 280 = .ok (.iconst 1, 1) := by decide +kernel
theorem dL_law_281 : decode cL_law 281 = .ok (.iadd, 1) := by decide +kernel
theorem dL_law_282 : decode cL_law 282 = .ok (.iaload, 1) := by decide +kernel
theorem dL_law_283 : decode cL_law 283 = .ok (.invokevirtual 35, 3) := by decide +kernel
theorem dL_law_286 : decode cL_law 286 = .ok (.if_icmp .eq 431, 3) := by decide +kernel
theorem dL_law_289 : decode cL_law 289 = .ok (.iconst 0, 1) := by decide +kernel
theorem dL_law_290 : decode cL_law 290 = .ok (.ireturn, 1) := by decide +kernel
theorem dL_law_291 : decode cL_law 291 = .ok (.aload_n 1, 1) := by decide +kernel
theorem dL_law_292 : decode cL_law 292 = .ok (.aload_n 0, 1) := by decide +kernel
theorem dL_law_293 : decode cL_law 293 = .ok (.iload_n 3, 1) := by decide +kernel
theorem dL_law_294 : decode cL_law 294 = .ok (.iconst 1, 1) := by decide +kernel
theorem dL_law_295 : decode cL_law 295 = .ok (.iadd, 1) := by decide +kernel
theorem dL_law_296 : decode cL_law 296 = .ok (.iaload, 1) := by decide +kernel
theorem dL_law_297 : decode cL_law 297 = .ok (.aload_n 0, 1) := by decide +kernel
theorem dL_law_298 : decode cL_law 298 = .ok (.iload_n 3, 1) := by decide +kernel
theorem dL_law_299 : decode cL_law 299 = .ok (.iconst 2, 1) := by decide +kernel
theorem dL_law_300 : decode cL_law 300 = .ok (.iadd, 1) := by decide +kernel
theorem dL_law_301 : decode cL_law 301 = .ok (.iaload, 1) := by decide +kernel
theorem dL_law_302 : decode cL_law 302 = .ok (.invokevirtual 36, 3) := by decide +kernel
theorem dL_law_305 : decode cL_law 305 = .ok (.aload_n 2, 1) := by decide +kernel
theorem dL_law_306 : decode cL_law 306 = .ok (.aload_n 0, 1) := by decide +kernel
theorem dL_law_307 : decode cL_law 307 = .ok (.iload_n 3, 1) := by decide +kernel
theorem dL_law_308 : decode cL_law 308 = .ok (.iconst 1, 1) := by decide +kernel
theorem dL_law_309 : decode cL_law 309 = .ok (.iadd, 1) := by decide +kernel
theorem dL_law_310 : decode cL_law 310 = .ok (.iaload, 1) := by decide +kernel
theorem dL_law_311 : decode cL_law 311 = .ok (.aload_n 0, 1) := by decide +kernel
theorem dL_law_312 : decode cL_law 312 = .ok (.iload_n 3, 1) := by decide +kernel
theorem dL_law_313 : decode cL_law 313 = .ok (.iconst 2, 1) := by decide +kernel
theorem dL_law_314 : decode cL_law 314 = .ok (.iadd, 1) := by decide +kernel
theorem dL_law_315 : decode cL_law 315 = .ok (.iaload, 1) := by decide +kernel
theorem dL_law_316 : decode cL_law 316 = .ok (.invokevirtual 39, 3) := by decide +kernel
theorem dL_law_319 : decode cL_law 319 = .ok (.if_icmp .eq 398, 3) := by decide +kernel
theorem dL_law_322 : decode cL_law 322 = .ok (.iconst 0, 1) := by decide +kernel
theorem dL_law_323 : decode cL_law 323 = .ok (.ireturn, 1) := by decide +kernel
theorem dL_law_324 : decode cL_law 324 = .ok (.aload_n 1, 1) := by decide +kernel
theorem dL_law_325 : decode cL_law 325 = .ok (.aload_n 0, 1) := by decide +kernel
theorem dL_law_326 : decode cL_law 326 = .ok (.iload_n 3, 1) := by decide +kernel
theorem dL_law_327 : decode cL_law 327 = .ok (.iconst 1, 1) := by decide +kernel
theorem dL_law_328 : decode cL_law 328 = .ok (.iadd, 1) := by decide +kernel
theorem dL_law_329 : decode cL_law 329 = .ok (.iaload, 1) := by decide +kernel
theorem dL_law_330 : decode cL_law 330 = .ok (.invokevirtual 40, 3) := by decide +kernel
theorem dL_law_333 : decode cL_law 333 = .ok (.aload_n 2, 1) := by decide +kernel
theorem dL_law_334 : decode cL_law 334 = .ok (.aload_n 0, 1) := by decide +kernel
theorem dL_law_335 : decode cL_law 335 = .ok (.iload_n 3, 1) := by decide +kernel
theorem dL_law_336 : decode cL_law 336 = .ok (.iconst 1, 1) := by decide +kernel
theorem dL_law_337 : decode cL_law 337 = .ok (.iadd, 1) := by decide +kernel
theorem dL_law_338 : decode cL_law 338 = .ok (.iaload, 1) := by decide +kernel
theorem dL_law_339 : decode cL_law 339 = .ok (.invokevirtual 43, 3) := by decide +kernel
theorem dL_law_342 : decode cL_law 342 = .ok (.if_icmp .eq 375, 3) := by decide +kernel
theorem dL_law_345 : decode cL_law 345 = .ok (.iconst 0, 1) := by decide +kernel
theorem dL_law_346 : decode cL_law 346 = .ok (.ireturn, 1) := by decide +kernel
theorem dL_law_347 : decode cL_law 347 = .ok (.aload_n 1, 1) := by decide +kernel
theorem dL_law_348 : decode cL_law 348 = .ok (.aload_n 0, 1) := by decide +kernel
theorem dL_law_349 : decode cL_law 349 = .ok (.iload_n 3, 1) := by decide +kernel
theorem dL_law_350 : decode cL_law 350 = .ok (.iconst 1, 1) := by decide +kernel
theorem dL_law_351 : decode cL_law 351 = .ok (.iadd, 1) := by decide +kernel
theorem dL_law_352 : decode cL_law 352 = .ok (.iaload, 1) := by decide +kernel
theorem dL_law_353 : decode cL_law 353 = .ok (.i2c, 1) := by decide +kernel
theorem dL_law_354 : decode cL_law 354 = .ok (.invokevirtual 44, 3) := by decide +kernel
theorem dL_law_357 : decode cL_law 357 = .ok (.aload_n 2, 1) := by decide +kernel
theorem dL_law_358 : decode cL_law 358 = .ok (.aload_n 0, 1) := by decide +kernel
theorem dL_law_359 : decode cL_law 359 = .ok (.iload_n 3, 1) := by decide +kernel
theorem dL_law_360 : decode cL_law 360 = .ok (.iconst 1, 1) := by decide +kernel
theorem dL_law_361 : decode cL_law 361 = .ok (.iadd, 1) := by decide +kernel
theorem dL_law_362 : decode cL_law 362 = .ok (.iaload, 1) := by decide +kernel
theorem dL_law_363 : decode cL_law 363 = .ok (.i2c, 1) := by decide +kernel
theorem dL_law_364 : decode cL_law 364 = .ok (.invokevirtual 48, 3) := by decide +kernel
theorem dL_law_367 : decode cL_law 367 = .ok (.if_icmp .eq 350, 3) := by decide +kernel
theorem dL_law_370 : decode cL_law 370 = .ok (.iconst 0, 1) := by decide +kernel
theorem dL_law_371 : decode cL_law 371 = .ok (.ireturn, 1) := by decide +kernel
theorem dL_law_372 : decode cL_law 372 = .ok (.aload_n 1, 1) := by decide +kernel
theorem dL_law_373 : decode cL_law 373 = .ok (.invokevirtual 49, 3) := by decide +kernel
theorem dL_law_376 : decode cL_law 376 = .ok (.aload_n 2, 1) := by decide +kernel
theorem dL_law_377 : decode cL_law 377 = .ok (.invokevirtual 53, 3) := by decide +kernel
theorem dL_law_380 : decode cL_law 380 = .ok (.if_icmp .eq 337, 3) := by decide +kernel
theorem dL_law_383 : decode cL_law 383 = .ok (.iconst 0, 1) := by decide +kernel
theorem dL_law_384 : decode cL_law 384 = .ok (.ireturn, 1) := by decide +kernel
theorem dL_law_385 : decode cL_law 385 = .ok (.aload_n 1, 1) := by decide +kernel
theorem dL_law_386 : decode cL_law 386 = .ok (.invokevirtual 54, 3) := by decide +kernel
theorem dL_law_389 : decode cL_law 389 = .ok (.aload_n 2, 1) := by decide +kernel
theorem dL_law_390 : decode cL_law 390 = .ok (.invokevirtual 57, 3) := by decide +kernel
theorem dL_law_393 : decode cL_law 393 = .ok (.if_icmp .eq 324, 3) := by decide +kernel
theorem dL_law_396 : decode cL_law 396 = .ok (.iconst 0, 1) := by decide +kernel
theorem dL_law_397 : decode cL_law 397 = .ok (.ireturn, 1) := by decide +kernel
theorem dL_law_398 : decode cL_law 398 = .ok (.aload_n 1, 1) := by decide +kernel
theorem dL_law_399 : decode cL_law 399 = .ok (.invokevirtual 58, 3) := by decide +kernel
theorem dL_law_402 : decode cL_law 402 = .ok (.aload_n 2, 1) := by decide +kernel
theorem dL_law_403 : decode cL_law 403 = .ok (.invokevirtual 61, 3) := by decide +kernel
theorem dL_law_406 : decode cL_law 406 = .ok (.if_icmp .eq 311, 3) := by decide +kernel
theorem dL_law_409 : decode cL_law 409 = .ok (.iconst 0, 1) := by decide +kernel
theorem dL_law_410 : decode cL_law 410 = .ok (.ireturn, 1) := by decide +kernel
theorem dL_law_411 : decode cL_law 411 = .ok (.aload_n 1, 1) := by decide +kernel
theorem dL_law_412 : decode cL_law 412 = .ok (.invokevirtual 62, 3) := by decide +kernel
theorem dL_law_415 : decode cL_law 415 = .ok (.aload_n 2, 1) := by decide +kernel
theorem dL_law_416 : decode cL_law 416 = .ok (.invokevirtual 65, 3) := by decide +kernel
theorem dL_law_419 : decode cL_law 419 = .ok (.if_icmp .eq 298, 3) := by decide +kernel
theorem dL_law_422 : decode cL_law 422 = .ok (.iconst 0, 1) := by decide +kernel
theorem dL_law_423 : decode cL_law 423 = .ok (.ireturn, 1) := by decide +kernel
theorem dL_law_424 : decode cL_law 424 = .ok (.aload_n 1, 1) := by decide +kernel
theorem dL_law_425 : decode cL_law 425 = .ok (.invokevirtual 66, 3) := by decide +kernel
theorem dL_law_428 : decode cL_law 428 = .ok (.aload_n 2, 1) := by decide +kernel
theorem dL_law_429 : decode cL_law 429 = .ok (.invokevirtual 69, 3) := by decide +kernel
theorem dL_law_432 : decode cL_law 432 = .ok (.if_icmp .eq 285, 3) := by decide +kernel
theorem dL_law_435 : decode cL_law 435 = .ok (.iconst 0, 1) := by decide +kernel
theorem dL_law_436 : decode cL_law 436 = .ok (.ireturn, 1) := by decide +kernel
theorem dL_law_437 : decode cL_law 437 = .ok (.aload_n 1, 1) := by decide +kernel
theorem dL_law_438 : decode cL_law 438 = .ok (.aload_n 0, 1) := by decide +kernel
theorem dL_law_439 : decode cL_law 439 = .ok (.iload_n 3, 1) := by decide +kernel
theorem dL_law_440 : decode cL_law 440 = .ok (.iconst 1, 1) := by decide +kernel
theorem dL_law_441 : decode cL_law 441 = .ok (.iadd, 1) := by decide +kernel
theorem dL_law_442 : decode cL_law 442 = .ok (.iaload, 1) := by decide +kernel
theorem dL_law_443 : decode cL_law 443 = .ok (.aload_n 0, 1) := by decide +kernel
theorem dL_law_444 : decode cL_law 444 = .ok (.iload_n 3, 1) := by decide +kernel
theorem dL_law_445 : decode cL_law 445 = .ok (.iconst 2, 1) := by decide +kernel
theorem dL_law_446 : decode cL_law 446 = .ok (.iadd, 1) := by decide +kernel
theorem dL_law_447 : decode cL_law 447 = .ok (.iaload, 1) := by decide +kernel
theorem dL_law_448 : decode cL_law 448 = .ok (.invokevirtual 70, 3) := by decide +kernel
theorem dL_law_451 : decode cL_law 451 = .ok (.aload_n 2, 1) := by decide +kernel
theorem dL_law_452 : decode cL_law 452 = .ok (.aload_n 0, 1) := by decide +kernel
theorem dL_law_453 : decode cL_law 453 = .ok (.iload_n 3, 1) := by decide +kernel
theorem dL_law_454 : decode cL_law 454 = .ok (.iconst 1, 1) := by decide +kernel
theorem dL_law_455 : decode cL_law 455 = .ok (.iadd, 1) := by decide +kernel
theorem dL_law_456 : decode cL_law 456 = .ok (.iaload, 1) := by decide +kernel
theorem dL_law_457 : decode cL_law 457 = .ok (.aload_n 0, 1) := by decide +kernel
theorem dL_law_458 : decode cL_law 458 = .ok (.iload_n 3, 1) := by decide +kernel
theorem dL_law_459 : decode cL_law 459 = .ok (.iconst 2, 1) := by decide +kernel
theorem dL_law_460 : decode cL_law 460 = .ok (.iadd, 1) := by decide +kernel
theorem dL_law_461 : decode cL_law 461 = .ok (.iaload, 1) := by decide +kernel
theorem dL_law_462 : decode cL_law 462 = .ok (.invokevirtual 73, 3) := by decide +kernel
theorem dL_law_465 : decode cL_law 465 = .ok (.if_icmp .eq 252, 3) := by decide +kernel
theorem dL_law_468 : decode cL_law 468 = .ok (.iconst 0, 1) := by decide +kernel
theorem dL_law_469 : decode cL_law 469 = .ok (.ireturn, 1) := by decide +kernel
theorem dL_law_470 : decode cL_law 470 = .ok (.aload_n 1, 1) := by decide +kernel
theorem dL_law_471 : decode cL_law 471 = .ok (.aload_n 0, 1) := by decide +kernel
theorem dL_law_472 : decode cL_law 472 = .ok (.iload_n 3, 1) := by decide +kernel
theorem dL_law_473 : decode cL_law 473 = .ok (.iconst 1, 1) := by decide +kernel
theorem dL_law_474 : decode cL_law 474 = .ok (.iadd, 1) := by decide +kernel
theorem dL_law_475 : decode cL_law 475 = .ok (.iaload, 1) := by decide +kernel
theorem dL_law_476 : decode cL_law 476 = .ok (.aload_n 0, 1) := by decide +kernel
theorem dL_law_477 : decode cL_law 477 = .ok (.iload_n 3, 1) := by decide +kernel
theorem dL_law_478 : decode cL_law 478 = .ok (.iconst 2, 1) := by decide +kernel
theorem dL_law_479 : decode cL_law 479 = .ok (.iadd, 1) := by decide +kernel
theorem dL_law_480 : decode cL_law 480 = .ok (.iaload, 1) := by decide +kernel
theorem dL_law_481 : decode cL_law 481 = .ok (.invokevirtual 74, 3) := by decide +kernel
theorem dL_law_484 : decode cL_law 484 = .ok (.aload_n 2, 1) := by decide +kernel
theorem dL_law_485 : decode cL_law 485 = .ok (.aload_n 0, 1) := by decide +kernel
theorem dL_law_486 : decode cL_law 486 = .ok (.iload_n 3, 1) := by decide +kernel
theorem dL_law_487 : decode cL_law 487 = .ok (.iconst 1, 1) := by decide +kernel
theorem dL_law_488 : decode cL_law 488 = .ok (.iadd, 1) := by decide +kernel
theorem dL_law_489 : decode cL_law 489 = .ok (.iaload, 1) := by decide +kernel
theorem dL_law_490 : decode cL_law 490 = .ok (.aload_n 0, 1) := by decide +kernel
theorem dL_law_491 : decode cL_law 491 = .ok (.iload_n 3, 1) := by decide +kernel
theorem dL_law_492 : decode cL_law 492 = .ok (.iconst 2, 1) := by decide +kernel
theorem dL_law_493 : decode cL_law 493 = .ok (.iadd, 1) := by decide +kernel
theorem dL_law_494 : decode cL_law 494 = .ok (.iaload, 1) := by decide +kernel
theorem dL_law_495 : decode cL_law 495 = .ok (.invokevirtual 77, 3) := by decide +kernel
theorem dL_law_498 : decode cL_law 498 = .ok (.if_icmp .eq 219, 3) := by decide +kernel
theorem dL_law_501 : decode cL_law 501 = .ok (.iconst 0, 1) := by decide +kernel
theorem dL_law_502 : decode cL_law 502 = .ok (.ireturn, 1) := by decide +kernel
theorem dL_law_503 : decode cL_law 503 = .ok (.aload_n 1, 1) := by decide +kernel
theorem dL_law_504 : decode cL_law 504 = .ok (.aload_n 0, 1) := by decide +kernel
theorem dL_law_505 : decode cL_law 505 = .ok (.iload_n 3, 1) := by decide +kernel
theorem dL_law_506 : decode cL_law 506 = .ok (.iconst 1, 1) := by decide +kernel
theorem dL_law_507 : decode cL_law 507 = .ok (.iadd, 1) := by decide +kernel
theorem dL_law_508 : decode cL_law 508 = .ok (.iaload, 1) := by decide +kernel
theorem dL_law_509 : decode cL_law 509 = .ok (.invokevirtual 78, 3) := by decide +kernel
theorem dL_law_512 : decode cL_law 512 = .ok (.aload_n 2, 1) := by decide +kernel
theorem dL_law_513 : decode cL_law 513 = .ok (.aload_n 0, 1) := by decide +kernel
theorem dL_law_514 : decode cL_law 514 = .ok (.iload_n 3, 1) := by decide +kernel
theorem dL_law_515 : decode cL_law 515 = .ok (.iconst 1, 1) := by decide +kernel
theorem dL_law_516 : decode cL_law 516 = .ok (.iadd, 1) := by decide +kernel
theorem dL_law_517 : decode cL_law 517 = .ok (.iaload, 1) := by decide +kernel
theorem dL_law_518 : decode cL_law 518 = .ok (.invokevirtual 81, 3) := by decide +kernel
theorem dL_law_521 : decode cL_law 521 = .ok (.if_icmp .eq 196, 3) := by decide +kernel
theorem dL_law_524 : decode cL_law 524 = .ok (.iconst 0, 1) := by decide +kernel
theorem dL_law_525 : decode cL_law 525 = .ok (.ireturn, 1) := by decide +kernel
theorem dL_law_526 : decode cL_law 526 = .ok (.aload_n 1, 1) := by decide +kernel
theorem dL_law_527 : decode cL_law 527 = .ok (.aload_n 0, 1) := by decide +kernel
theorem dL_law_528 : decode cL_law 528 = .ok (.iload_n 3, 1) := by decide +kernel
theorem dL_law_529 : decode cL_law 529 = .ok (.iconst 1, 1) := by decide +kernel
theorem dL_law_530 : decode cL_law 530 = .ok (.iadd, 1) := by decide +kernel
theorem dL_law_531 : decode cL_law 531 = .ok (.iaload, 1) := by decide +kernel
theorem dL_law_532 : decode cL_law 532 = .ok (.aload_n 0, 1) := by decide +kernel
theorem dL_law_533 : decode cL_law 533 = .ok (.iload_n 3, 1) := by decide +kernel
theorem dL_law_534 : decode cL_law 534 = .ok (.iconst 2, 1) := by decide +kernel
theorem dL_law_535 : decode cL_law 535 = .ok (.iadd, 1) := by decide +kernel
theorem dL_law_536 : decode cL_law 536 = .ok (.iaload, 1) := by decide +kernel
theorem dL_law_537 : decode cL_law 537 = .ok (.invokevirtual 82, 3) := by decide +kernel
theorem dL_law_540 : decode cL_law 540 = .ok (.aload_n 2, 1) := by decide +kernel
theorem dL_law_541 : decode cL_law 541 = .ok (.aload_n 0, 1) := by decide +kernel
theorem dL_law_542 : decode cL_law 542 = .ok (.iload_n 3, 1) := by decide +kernel
theorem dL_law_543 : decode cL_law 543 = .ok (.iconst 1, 1) := by decide +kernel
theorem dL_law_544 : decode cL_law 544 = .ok (.iadd, 1) := by decide +kernel
theorem dL_law_545 : decode cL_law 545 = .ok (.iaload, 1) := by decide +kernel
theorem dL_law_546 : decode cL_law 546 = .ok (.aload_n 0, 1) := by decide +kernel
theorem dL_law_547 : decode cL_law 547 = .ok (.iload_n 3, 1) := by decide +kernel
theorem dL_law_548 : decode cL_law 548 = .ok (.iconst 2, 1) := by decide +kernel
theorem dL_law_549 : decode cL_law 549 = .ok (.iadd, 1) := by decide +kernel
theorem dL_law_550 : decode cL_law 550 = .ok (.iaload, 1) := by decide +kernel
theorem dL_law_551 : decode cL_law 551 = .ok (.invokevirtual 85, 3) := by decide +kernel
theorem dL_law_554 : decode cL_law 554 = .ok (.if_icmp .eq 163, 3) := by decide +kernel
theorem dL_law_557 : decode cL_law 557 = .ok (.iconst 0, 1) := by decide +kernel
theorem dL_law_558 : decode cL_law 558 = .ok (.ireturn, 1) := by decide +kernel
theorem dL_law_559 : decode cL_law 559 = .ok (.aload_n 1, 1) := by decide +kernel
theorem dL_law_560 : decode cL_law 560 = .ok (.aload_n 0, 1) := by decide +kernel
theorem dL_law_561 : decode cL_law 561 = .ok (.iload_n 3, 1) := by decide +kernel
theorem dL_law_562 : decode cL_law 562 = .ok (.iconst 1, 1) := by decide +kernel
theorem dL_law_563 : decode cL_law 563 = .ok (.iadd, 1) := by decide +kernel
theorem dL_law_564 : decode cL_law 564 = .ok (.iaload, 1) := by decide +kernel
theorem dL_law_565 : decode cL_law 565 = .ok (.invokevirtual 86, 3) := by decide +kernel
theorem dL_law_568 : decode cL_law 568 = .ok (.aload_n 2, 1) := by decide +kernel
theorem dL_law_569 : decode cL_law 569 = .ok (.aload_n 0, 1) := by decide +kernel
theorem dL_law_570 : decode cL_law 570 = .ok (.iload_n 3, 1) := by decide +kernel
theorem dL_law_571 : decode cL_law 571 = .ok (.iconst 1, 1) := by decide +kernel
theorem dL_law_572 : decode cL_law 572 = .ok (.iadd, 1) := by decide +kernel
theorem dL_law_573 : decode cL_law 573 = .ok (.iaload, 1) := by decide +kernel
theorem dL_law_574 : decode cL_law 574 = .ok (.invokevirtual 89, 3) := by decide +kernel
theorem dL_law_577 : decode cL_law 577 = .ok (.if_icmp .eq 140, 3) := by decide +kernel
theorem dL_law_580 : decode cL_law 580 = .ok (.iconst 0, 1) := by decide +kernel
theorem dL_law_581 : decode cL_law 581 = .ok (.ireturn, 1) := by decide +kernel
theorem dL_law_582 : decode cL_law 582 = .ok (.aload_n 1, 1) := by decide +kernel
theorem dL_law_583 : decode cL_law 583 = .ok (.aload_n 0, 1) := by decide +kernel
theorem dL_law_584 : decode cL_law 584 = .ok (.iload_n 3, 1) := by decide +kernel
theorem dL_law_585 : decode cL_law 585 = .ok (.iconst 1, 1) := by decide +kernel
theorem dL_law_586 : decode cL_law 586 = .ok (.iadd, 1) := by decide +kernel
theorem dL_law_587 : decode cL_law 587 = .ok (.iaload, 1) := by decide +kernel
theorem dL_law_588 : decode cL_law 588 = .ok (.aload_n 0, 1) := by decide +kernel
theorem dL_law_589 : decode cL_law 589 = .ok (.iload_n 3, 1) := by decide +kernel
theorem dL_law_590 : decode cL_law 590 = .ok (.iconst 2, 1) := by decide +kernel
theorem dL_law_591 : decode cL_law 591 = .ok (.iadd, 1) := by decide +kernel
theorem dL_law_592 : decode cL_law 592 = .ok (.iaload, 1) := by decide +kernel
theorem dL_law_593 : decode cL_law 593 = .ok (.invokevirtual 90, 3) := by decide +kernel
theorem dL_law_596 : decode cL_law 596 = .ok (.aload_n 2, 1) := by decide +kernel
theorem dL_law_597 : decode cL_law 597 = .ok (.aload_n 0, 1) := by decide +kernel
theorem dL_law_598 : decode cL_law 598 = .ok (.iload_n 3, 1) := by decide +kernel
theorem dL_law_599 : decode cL_law 599 = .ok (.iconst 1, 1) := by decide +kernel
theorem dL_law_600 : decode cL_law 600 = .ok (.iadd, 1) := by decide +kernel
theorem dL_law_601 : decode cL_law 601 = .ok (.iaload, 1) := by decide +kernel
theorem dL_law_602 : decode cL_law 602 = .ok (.aload_n 0, 1) := by decide +kernel
theorem dL_law_603 : decode cL_law 603 = .ok (.iload_n 3, 1) := by decide +kernel
theorem dL_law_604 : decode cL_law 604 = .ok (.iconst 2, 1) := by decide +kernel
theorem dL_law_605 : decode cL_law 605 = .ok (.iadd, 1) := by decide +kernel
theorem dL_law_606 : decode cL_law 606 = .ok (.iaload, 1) := by decide +kernel
theorem dL_law_607 : decode cL_law 607 = .ok (.invokevirtual 93, 3) := by decide +kernel
theorem dL_law_610 : decode cL_law 610 = .ok (.if_icmp .eq 107, 3) := by decide +kernel
theorem dL_law_613 : decode cL_law 613 = .ok (.iconst 0, 1) := by decide +kernel
theorem dL_law_614 : decode cL_law 614 = .ok (.ireturn, 1) := by decide +kernel
theorem dL_law_615 : decode cL_law 615 = .ok (.aload_n 1, 1) := by decide +kernel
theorem dL_law_616 : decode cL_law 616 = .ok (.aload_n 0, 1) := by decide +kernel
theorem dL_law_617 : decode cL_law 617 = .ok (.iload_n 3, 1) := by decide +kernel
theorem dL_law_618 : decode cL_law 618 = .ok (.iconst 1, 1) := by decide +kernel
theorem dL_law_619 : decode cL_law 619 = .ok (.iadd, 1) := by decide +kernel
theorem dL_law_620 : decode cL_law 620 = .ok (.iaload, 1) := by decide +kernel
theorem dL_law_621 : decode cL_law 621 = .ok (.aload_n 0, 1) := by decide +kernel
theorem dL_law_622 : decode cL_law 622 = .ok (.iload_n 3, 1) := by decide +kernel
theorem dL_law_623 : decode cL_law 623 = .ok (.iconst 2, 1) := by decide +kernel
theorem dL_law_624 : decode cL_law 624 = .ok (.iadd, 1) := by decide +kernel
theorem dL_law_625 : decode cL_law 625 = .ok (.iaload, 1) := by decide +kernel
theorem dL_law_626 : decode cL_law 626 = .ok (.invokevirtual 94, 3) := by decide +kernel
theorem dL_law_629 : decode cL_law 629 = .ok (.aload_n 2, 1) := by decide +kernel
theorem dL_law_630 : decode cL_law 630 = .ok (.aload_n 0, 1) := by decide +kernel
theorem dL_law_631 : decode cL_law 631 = .ok (.iload_n 3, 1) := by decide +kernel
theorem dL_law_632 : decode cL_law 632 = .ok (.iconst 1, 1) := by decide +kernel
theorem dL_law_633 : decode cL_law 633 = .ok (.iadd, 1) := by decide +kernel
theorem dL_law_634 : decode cL_law 634 = .ok (.iaload, 1) := by decide +kernel
theorem dL_law_635 : decode cL_law 635 = .ok (.aload_n 0, 1) := by decide +kernel
theorem dL_law_636 : decode cL_law 636 = .ok (.iload_n 3, 1) := by decide +kernel
theorem dL_law_637 : decode cL_law 637 = .ok (.iconst 2, 1) := by decide +kernel
theorem dL_law_638 : decode cL_law 638 = .ok (.iadd, 1) := by decide +kernel
theorem dL_law_639 : decode cL_law 639 = .ok (.iaload, 1) := by decide +kernel
theorem dL_law_640 : decode cL_law 640 = .ok (.invokevirtual 97, 3) := by decide +kernel
theorem dL_law_643 : decode cL_law 643 = .ok (.if_icmp .eq 74, 3) := by decide +kernel
theorem dL_law_646 : decode cL_law 646 = .ok (.iconst 0, 1) := by decide +kernel
theorem dL_law_647 : decode cL_law 647 = .ok (.ireturn, 1) := by decide +kernel
theorem dL_law_648 : decode cL_law 648 = .ok (.aload_n 1, 1) := by decide +kernel
theorem dL_law_649 : decode cL_law 649 = .ok (.invokevirtual 98, 3) := by decide +kernel
theorem dL_law_652 : decode cL_law 652 = .ok (.aload_n 2, 1) := by decide +kernel
theorem dL_law_653 : decode cL_law 653 = .ok (.invokevirtual 101, 3) := by decide +kernel
theorem dL_law_656 : decode cL_law 656 = .ok (.if_icmp .eq 61, 3) := by decide +kernel
theorem dL_law_659 : decode cL_law 659 = .ok (.iconst 0, 1) := by decide +kernel
theorem dL_law_660 : decode cL_law 660 = .ok (.ireturn, 1) := by decide +kernel
theorem dL_law_661 : decode cL_law 661 = .ok (.aload_n 1, 1) := by decide +kernel
theorem dL_law_662 : decode cL_law 662 = .ok (.aload_n 0, 1) := by decide +kernel
theorem dL_law_663 : decode cL_law 663 = .ok (.iload_n 3, 1) := by decide +kernel
theorem dL_law_664 : decode cL_law 664 = .ok (.iconst 1, 1) := by decide +kernel
theorem dL_law_665 : decode cL_law 665 = .ok (.iadd, 1) := by decide +kernel
theorem dL_law_666 : decode cL_law 666 = .ok (.iaload, 1) := by decide +kernel
theorem dL_law_667 : decode cL_law 667 = .ok (.aload_n 0, 1) := by decide +kernel
theorem dL_law_668 : decode cL_law 668 = .ok (.iload_n 3, 1) := by decide +kernel
theorem dL_law_669 : decode cL_law 669 = .ok (.iconst 2, 1) := by decide +kernel
theorem dL_law_670 : decode cL_law 670 = .ok (.iadd, 1) := by decide +kernel
theorem dL_law_671 : decode cL_law 671 = .ok (.iaload, 1) := by decide +kernel
theorem dL_law_672 : decode cL_law 672 = .ok (.invokevirtual 102, 3) := by decide +kernel
theorem dL_law_675 : decode cL_law 675 = .ok (.aload_n 2, 1) := by decide +kernel
theorem dL_law_676 : decode cL_law 676 = .ok (.aload_n 0, 1) := by decide +kernel
theorem dL_law_677 : decode cL_law 677 = .ok (.iload_n 3, 1) := by decide +kernel
theorem dL_law_678 : decode cL_law 678 = .ok (.iconst 1, 1) := by decide +kernel
theorem dL_law_679 : decode cL_law 679 = .ok (.iadd, 1) := by decide +kernel
theorem dL_law_680 : decode cL_law 680 = .ok (.iaload, 1) := by decide +kernel
theorem dL_law_681 : decode cL_law 681 = .ok (.aload_n 0, 1) := by decide +kernel
theorem dL_law_682 : decode cL_law 682 = .ok (.iload_n 3, 1) := by decide +kernel
theorem dL_law_683 : decode cL_law 683 = .ok (.iconst 2, 1) := by decide +kernel
theorem dL_law_684 : decode cL_law 684 = .ok (.iadd, 1) := by decide +kernel
theorem dL_law_685 : decode cL_law 685 = .ok (.iaload, 1) := by decide +kernel
theorem dL_law_686 : decode cL_law 686 = .ok (.invokevirtual 105, 3) := by decide +kernel
theorem dL_law_689 : decode cL_law 689 = .ok (.if_icmp .eq 28, 3) := by decide +kernel
theorem dL_law_692 : decode cL_law 692 = .ok (.iconst 0, 1) := by decide +kernel
theorem dL_law_693 : decode cL_law 693 = .ok (.ireturn, 1) := by decide +kernel
theorem dL_law_694 : decode cL_law 694 = .ok (.aload_n 1, 1) := by decide +kernel
theorem dL_law_695 : decode cL_law 695 = .ok (.aload_n 0, 1) := by decide +kernel
theorem dL_law_696 : decode cL_law 696 = .ok (.iload_n 3, 1) := by decide +kernel
theorem dL_law_697 : decode cL_law 697 = .ok (.iconst 1, 1) := by decide +kernel
theorem dL_law_698 : decode cL_law 698 = .ok (.iadd, 1) := by decide +kernel
theorem dL_law_699 : decode cL_law 699 = .ok (.iaload, 1) := by decide +kernel
theorem dL_law_700 : decode cL_law 700 = .ok (.invokevirtual 106, 3) := by decide +kernel
theorem dL_law_703 : decode cL_law 703 = .ok (.aload_n 2, 1) := by decide +kernel
theorem dL_law_704 : decode cL_law 704 = .ok (.aload_n 0, 1) := by decide +kernel
theorem dL_law_705 : decode cL_law 705 = .ok (.iload_n 3, 1) := by decide +kernel
theorem dL_law_706 : decode cL_law 706 = .ok (.iconst 1, 1) := by decide +kernel
theorem dL_law_707 : decode cL_law 707 = .ok (.iadd, 1) := by decide +kernel
theorem dL_law_708 : decode cL_law 708 = .ok (.iaload, 1) := by decide +kernel
theorem dL_law_709 : decode cL_law 709 = .ok (.invokevirtual 109, 3) := by decide +kernel
theorem dL_law_712 : decode cL_law 712 = .ok (.if_icmp .eq 5, 3) := by decide +kernel
theorem dL_law_715 : decode cL_law 715 = .ok (.iconst 0, 1) := by decide +kernel
theorem dL_law_716 : decode cL_law 716 = .ok (.ireturn, 1) := by decide +kernel
theorem dL_law_717 : decode cL_law 717 = .ok (.iinc 3 3, 3) := by decide +kernel
theorem dL_law_720 : decode cL_law 720 = .ok (.goto (-702), 3) := by decide +kernel
theorem dL_law_723 : decode cL_law 723 = .ok (.iconst 1, 1) := by decide +kernel
theorem dL_law_724 : decode cL_law 724 = .ok (.ireturn, 1) := by decide +kernel
