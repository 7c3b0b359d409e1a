theorem dX6_laying_173 : decode cX6_laying 173 = .ok (.iaload, 1) := by decide +kernel
theorem dX6_laying_174 : decode cX6_laying 174 = .ok (.bipush 8, 2) := by decide +kernel
theorem dX6_laying_176 : decode cX6_laying 176 = .ok (.if_icmp .ge 103, 3) := by decide +kernel
theorem dX6_laying_179 : decode cX6_laying 179 = .ok (.aload_n 0, 1) := by decide +kernel
theorem dX6_laying_180 : decode cX6_laying 180 = .ok (.iload_n 1, 1) := by decide +kernel
theorem dX6_laying_181 : decode cX6_laying 181 = .ok (.invokevirtual 51, 3) := by decide +kernel
theorem dX6_laying_184 : decode cX6_laying 184 = .ok (.ifCond .le 95, 3) := by decide +kernel
theorem dX6_laying_187 : decode cX6_laying 187 = .ok (.aload_n 0, 1) := by decide +kernel
theorem dX6_laying_188 : decode cX6_laying 188 = .ok (.getfield 7, 3) := by decide +kernel
theorem dX6_laying_191 : decode cX6_laying 191 = .ok (.iload_n 2, 1) := by decide +kernel
theorem dX6_laying_192 : decode cX6_laying 192 = .ok (.bipush 12, 2) := by decide +kernel
theorem dX6_laying_194 : decode cX6_laying 194 = .ok (.iadd, 1) := by decide +kernel
theorem dX6_laying_195 : decode cX6_laying 195 = .ok (.iaload, 1) := by decide +kernel
theorem dX6_laying_196 : decode cX6_laying 196 = .ok (.iconst 1, 1) := by decide +kernel
theorem dX6_laying_197 : decode cX6_laying 197 = .ok (.if_icmp .ne 7, 3) := by decide +kernel
theorem dX6_laying_200 : decode cX6_laying 200 = .ok (.iconst 1, 1) := by decide +kernel
theorem dX6_laying_201 : decode cX6_laying 201 = .ok (.goto 4, 3) := by decide +kernel
theorem dX6_laying_204 : decode cX6_laying 204 = .ok (.iconst 0, 1) := by decide +kernel
theorem dX6_laying_205 : decode cX6_laying 205 = .ok (.istore_n 3, 1) := by decide +kernel
theorem dX6_laying_206 : decode cX6_laying 206 = .ok (.aload_n 0, 1) := by decide +kernel
theorem dX6_laying_207 : decode cX6_laying 207 = .ok (.iload_n 1, 1) := by decide +kernel
theorem dX6_laying_208 : decode cX6_laying 208 = .ok (.aload_n 0, 1) := by decide +kernel
theorem dX6_laying_209 : decode cX6_laying 209 = .ok (.getfield 7, 3) := by decide +kernel
theorem dX6_laying_212 : decode cX6_laying 212 = .ok (.iload_n 2, 1) := by decide +kernel
theorem dX6_laying_213 : decode cX6_laying 213 = .ok (.iconst 1, 1) := by decide +kernel
theorem dX6_laying_214 : decode cX6_laying 214 = .ok (.iadd, 1) := by decide +kernel
theorem dX6_laying_215 : decode cX6_laying 215 = .ok (.iaload, 1) := by decide +kernel
theorem dX6_laying_216 : decode cX6_laying 216 = .ok (.iload_n 3, 1) := by decide +kernel
theorem dX6_laying_217 : decode cX6_laying 217 = .ok (.invokevirtual 135, 3) := by decide +kernel
theorem dX6_laying_220 : decode cX6_laying 220 = .ok (.aload_n 0, 1) := by decide +kernel
theorem dX6_laying_221 : decode cX6_laying 221 = .ok (.getfield 7, 3) := by decide +kernel
theorem dX6_laying_224 : decode cX6_laying 224 = .ok (.iload_n 2, 1) := by decide +kernel
theorem dX6_laying_225 : decode cX6_laying 225 = .ok (.bipush 12, 2) := by decide +kernel
theorem dX6_laying_227 : decode cX6_laying 227 = .ok (.iadd, 1) := by decide +kernel
theorem dX6_laying_228 : decode cX6_laying 228 = .ok (.iconst 0, 1) := by decide +kernel
theorem dX6_laying_229 : decode cX6_laying 229 = .ok (.iastore, 1) := by decide +kernel
theorem dX6_laying_230 : decode cX6_laying 230 = .ok (.aload_n 0, 1) := by decide +kernel
theorem dX6_laying_231 : decode cX6_laying 231 = .ok (.getfield 7, 3) := by decide +kernel
theorem dX6_laying_234 : decode cX6_laying 234 = .ok (.bipush 7, 2) := by decide +kernel
theorem dX6_laying_236 : decode cX6_laying 236 = .ok (.iload_n 3, 1) := by decide +kernel
theorem dX6_laying_237 : decode cX6_laying 237 = .ok (.ifCond .eq 7, 3) := by decide +kernel
theorem dX6_laying_240 : decode cX6_laying 240 = .ok (.iconst 2, 1) := by decide +kernel
theorem dX6_laying_241 : decode cX6_laying 241 = .ok (.goto 4, 3) := by decide +kernel
theorem dX6_laying_244 : decode cX6_laying 244 = .ok (.iconst 0, 1) := by decide +kernel
theorem dX6_laying_245 : decode cX6_laying 245 = .ok (.iadd, 1) := by decide +kernel
theorem dX6_laying_246 : decode cX6_laying 246 = .ok (.dup2, 1) := by decide +kernel
theorem dX6_laying_247 : decode cX6_laying 247 = .ok (.iaload, 1) := by decide +kernel
theorem dX6_laying_248 : decode cX6_laying 248 = .ok (.iconst 1, 1) := by decide +kernel
theorem dX6_laying_249 : decode cX6_laying 249 = .ok (.iadd, 1) := by decide +kernel
theorem dX6_laying_250 : decode cX6_laying 250 = .ok (.iastore, 1) := by decide +kernel
theorem dX6_laying_251 : decode cX6_laying 251 = .ok (.iload_n 3, 1) := by decide +kernel
theorem dX6_laying_252 : decode cX6_laying 252 = .ok (.ifCond .ne 27, 3) := by decide +kernel
theorem dX6_laying_255 : decode cX6_laying 255 = .ok (.aload_n 0, 1) := by decide +kernel
theorem dX6_laying_256 : decode cX6_laying 256 = .ok (.getfield 7, 3) := by decide +kernel
theorem dX6_laying_259 : decode cX6_laying 259 = .ok (.iload_n 2, 1) := by decide +kernel
theorem dX6_laying_260 : decode cX6_laying 260 = .ok (.iconst 1, 1) := by decide +kernel
theorem dX6_laying_261 : decode cX6_laying 261 = .ok (.iadd, 1) := by decide +kernel
theorem dX6_laying_262 : decode cX6_laying 262 = .ok (.dup2, 1) := by decide +kernel
theorem dX6_laying_263 : decode cX6_laying 263 = .ok (.iaload, 1) := by decide +kernel
theorem dX6_laying_264 : decode cX6_laying 264 = .ok (.iconst 1, 1) := by decide +kernel
theorem dX6_laying_265 : decode cX6_laying 265 = .ok (.iadd, 1) := by decide +kernel
theorem dX6_laying_266 : decode cX6_laying 266 = .ok (.iastore, 1) := by decide +kernel
theorem dX6_laying_267 : decode cX6_laying 267 = .ok (.aload_n 0, 1) := by decide +kernel
theorem dX6_laying_268 : decode cX6_laying 268 = .ok (.getfield 7, 3) := by decide +kernel
theorem dX6_laying_271 : decode cX6_laying 271 = .ok (.iload_n 2, 1) := by decide +kernel
theorem dX6_laying_272 : decode cX6_laying 272 = .ok (.iconst 2, 1) := by decide +kernel
theorem dX6_laying_273 : decode cX6_laying 273 = .ok (.iadd, 1) := by decide +kernel
theorem dX6_laying_274 : decode cX6_laying 274 = .ok (.dup2, 1) := by decide +kernel
theorem dX6_laying_275 : decode cX6_laying 275 = .ok (.iaload, 1) := by decide +kernel
theorem dX6_laying_276 : decode cX6_laying 276 = .ok (.iconst 1, 1) := by decide +kernel
theorem dX6_laying_277 : decode cX6_laying 277 = .ok (.iadd, 1) := by decide +kernel
theorem dX6_laying_278 : decode cX6_laying 278 = .ok (.iastore, 1) := by decide +kernel
theorem dX6_laying_279 : decode cX6_laying 279 = .ok (.return_, 1) := by decide +kernel
theorem dX6_ticks_0 : decode cX6_ticks 0 = .ok (.aload_n 0, 1) := by decide +kernel
theorem dX6_ticks_1 : decode cX6_ticks 1 = .ok (.getfield 7, 3) := by decide +kernel
theorem dX6_ticks_4 : decode cX6_ticks 4 = .ok (.iconst 3, 1) := by decide +kernel
theorem dX6_ticks_5 : decode cX6_ticks 5 = .ok (.dup2, 1) := by decide +kernel
theorem dX6_ticks_6 : decode cX6_ticks 6 = .ok (.iaload, 1) := by decide +kernel
theorem dX6_ticks_7 : decode cX6_ticks 7 = .ok (.iconst 1, 1) := by decide +kernel
theorem dX6_ticks_8 : decode cX6_ticks 8 = .ok (.iadd, 1) := by decide +kernel
theorem dX6_ticks_9 : decode cX6_ticks 9 = .ok (.iastore, 1) := by decide +kernel
theorem dX6_ticks_10 : decode cX6_ticks 10 = .ok (.aload_n 0, 1) := by decide +kernel
theorem dX6_ticks_11 : decode cX6_ticks 11 = .ok (.aload_n 0, 1) := by decide +kernel
theorem dX6_ticks_12 : decode cX6_ticks 12 = .ok (.getfield 7, 3) := by decide +kernel
theorem dX6_ticks_15 : decode cX6_ticks 15 = .ok (.iconst 4, 1) := by decide +kernel
theorem dX6_ticks_16 : decode cX6_ticks 16 = .ok (.iaload, 1) := by decide +kernel
theorem dX6_ticks_17 : decode cX6_ticks 17 = .ok (.ifCond .le 7, 3) := by decide +kernel
theorem dX6_ticks_20 : decode cX6_ticks 20 = .ok (.iconst 1, 1) := by decide +kernel
theorem dX6_ticks_21 : decode cX6_ticks 21 = .ok (.goto 4, 3) := by decide +kernel
theorem dX6_ticks_24 : decode cX6_ticks 24 = .ok (.iconst 0, 1) := by decide +kernel
theorem dX6_ticks_25 : decode cX6_ticks 25 = .ok (.putfield 139, 3) := by decide +kernel
theorem dX6_ticks_28 : decode cX6_ticks 28 = .ok (.aload_n 0, 1) := by decide +kernel
theorem dX6_ticks_29 : decode cX6_ticks 29 = .ok (.getfield 7, 3) := by decide +kernel
theorem dX6_ticks_32 : decode cX6_ticks 32 = .ok (.iconst 4, 1) := by decide +kernel
theorem dX6_ticks_33 : decode cX6_ticks 33 = .ok (.dup2, 1) := by decide +kernel
theorem dX6_ticks_34 : decode cX6_ticks 34 = .ok (.iaload, 1) := by decide +kernel
theorem dX6_ticks_35 : decode cX6_ticks 35 = .ok (.aload_n 0, 1) := by decide +kernel
theorem dX6_ticks_36 : decode cX6_ticks 36 = .ok (.getfield 139, 3) := by decide +kernel
theorem dX6_ticks_39 : decode cX6_ticks 39 = .ok (.ifCond .eq 7, 3) := by decide +kernel
theorem dX6_ticks_42 : decode cX6_ticks 42 = .ok (.iconst 1, 1) := by decide +kernel
theorem dX6_ticks_43 : decode cX6_ticks 43 = .ok (.goto 4, 3) := by decide +kernel
theorem dX6_ticks_46 : decode cX6_ticks 46 = .ok (.iconst 0, 1) := by decide +kernel
theorem dX6_ticks_47 : decode cX6_ticks 47 = .ok (.isub, 1) := by decide +kernel
theorem dX6_ticks_48 : decode cX6_ticks 48 = .ok (.iastore, 1) := by decide +kernel
theorem dX6_ticks_49 : decode cX6_ticks 49 = .ok (.aload_n 0, 1) := by decide +kernel
theorem dX6_ticks_50 : decode cX6_ticks 50 = .ok (.invokevirtual 143, 3) := by decide +kernel
theorem dX6_ticks_53 : decode cX6_ticks 53 = .ok (.istore_n 1, 1) := by decide +kernel
theorem dX6_ticks_54 : decode cX6_ticks 54 = .ok (.aload_n 0, 1) := by decide +kernel
theorem dX6_ticks_55 : decode cX6_ticks 55 = .ok (.getfield 139, 3) := by decide +kernel
theorem dX6_ticks_58 : decode cX6_ticks 58 = .ok (.ifCond .ne 13, 3) := by decide +kernel
theorem dX6_ticks_61 : decode cX6_ticks 61 = .ok (.aload_n 0, 1) := by decide +kernel
theorem dX6_ticks_62 : decode cX6_ticks 62 = .ok (.iconst 0, 1) := by decide +kernel
theorem dX6_ticks_63 : decode cX6_ticks 63 = .ok (.invokevirtual 147, 3) := by decide +kernel
theorem dX6_ticks_66 : decode cX6_ticks 66 = .ok (.aload_n 0, 1) := by decide +kernel
theorem dX6_ticks_67 : decode cX6_ticks 67 = .ok (.iconst 1, 1) := by decide +kernel
theorem dX6_ticks_68 : decode cX6_ticks 68 = .ok (.invokevirtual 147, 3) := by decide +kernel
theorem dX6_ticks_71 : decode cX6_ticks 71 = .ok (.iconst 0, 1) := by decide +kernel
theorem dX6_ticks_72 : decode cX6_ticks 72 = .ok (.istore_n 2, 1) := by decide +kernel
theorem dX6_ticks_73 : decode cX6_ticks 73 = .ok (.iload_n 2, 1) := by decide +kernel
theorem dX6_ticks_74 : decode cX6_ticks 74 = .ok (.iconst 2, 1) := by decide +kernel
theorem dX6_ticks_75 : decode cX6_ticks 75 = .ok (.if_icmp .ge 30, 3) := by decide +kernel
theorem dX6_ticks_78 : decode cX6_ticks 78 = .ok (.aload_n 0, 1) := by decide +kernel
theorem dX6_ticks_79 : decode cX6_ticks 79 = .ok (.getfield 139, 3) := by decide +kernel
theorem dX6_ticks_82 : decode cX6_ticks 82 = .ok (.ifCond .ne 17, 3) := by decide +kernel
theorem dX6_ticks_85 : decode cX6_ticks 85 = .ok (.aload_n 0, 1) := by decide +kernel
theorem dX6_ticks_86 : decode cX6_ticks 86 = .ok (.getfield 7, 3) := by decide +kernel
theorem dX6_ticks_89 : decode cX6_ticks 89 = .ok (.iconst 4, 1) := by decide +kernel
theorem dX6_ticks_90 : decode cX6_ticks 90 = .ok (.iaload, 1) := by decide +kernel
theorem dX6_ticks_91 : decode cX6_ticks 91 = .ok (.ifCond .ne 8, 3) := by decide +kernel
theorem dX6_ticks_94 : decode cX6_ticks 94 = .ok (.aload_n 0, 1) := by decide +kernel
theorem dX6_ticks_95 : decode cX6_ticks 95 = .ok (.iload_n 2, 1) := by decide +kernel
theorem dX6_ticks_96 : decode cX6_ticks 96 = .ok (.invokevirtual 150, 3) := by decide +kernel
theorem dX6_ticks_99 : decode cX6_ticks 99 = .ok (.iinc 2 1, 3) := by decide +kernel
theorem dX6_ticks_102 : decode cX6_ticks 102 = .ok (.goto (-29), 3) := by decide +kernel
theorem dX6_ticks_105 : decode cX6_ticks 105 = .ok (.iload_n 1, 1) := by decide +kernel
theorem dX6_ticks_106 : decode cX6_ticks 106 = .ok (.ireturn, 1) := by decide +kernel
theorem dX6_tick_0 : decode cX6_tick 0 = .ok (.iload_n 1, 1) := by decide +kernel
theorem dX6_tick_1 : decode cX6_tick 1 = .ok (.i2l, 1) := by decide +kernel
theorem dX6_tick_2 : decode cX6_tick 2 = .ok (.lconst 1, 1) := by decide +kernel
theorem dX6_tick_3 : decode cX6_tick 3 = .ok (.ldc2_w 153, 3) := by decide +kernel
theorem dX6_tick_6 : decode cX6_tick 6 = .ok (.invokestatic 45, 3) := by decide +kernel
theorem dX6_tick_9 : decode cX6_tick 9 = .ok (.ifCond .ne 5, 3) := by decide +kernel
theorem dX6_tick_12 : decode cX6_tick 12 = .ok (.iconst (-1), 1) := by decide +kernel
theorem dX6_tick_13 : decode cX6_tick 13 = .ok (.ireturn, 1) := by decide +kernel
theorem dX6_tick_14 : decode cX6_tick 14 = .ok (.aload_n 0, 1) := by decide +kernel
theorem dX6_tick_15 : decode cX6_tick 15 = .ok (.getfield 7, 3) := by decide +kernel
theorem dX6_tick_18 : decode cX6_tick 18 = .ok (.iconst 3, 1) := by decide +kernel
theorem dX6_tick_19 : decode cX6_tick 19 = .ok (.iaload, 1) := by decide +kernel
theorem dX6_tick_20 : decode cX6_tick 20 = .ok (.iload_n 1, 1) := by decide +kernel
theorem dX6_tick_21 : decode cX6_tick 21 = .ok (.iadd, 1) := by decide +kernel
theorem dX6_tick_22 : decode cX6_tick 22 = .ok (.sipush 20000, 3) := by decide +kernel
theorem dX6_tick_25 : decode cX6_tick 25 = .ok (.if_icmp .le 6, 3) := by decide +kernel
theorem dX6_tick_28 : decode cX6_tick 28 = .ok (.bipush (-3), 2) := by decide +kernel
theorem dX6_tick_30 : decode cX6_tick 30 = .ok (.ireturn, 1) := by decide +kernel
theorem dX6_tick_31 : decode cX6_tick 31 = .ok (.iconst 0, 1) := by decide +kernel
theorem dX6_tick_32 : decode cX6_tick 32 = .ok (.istore_n 2, 1) := by decide +kernel
theorem dX6_tick_33 : decode cX6_tick 33 = .ok (.iconst 0, 1) := by decide +kernel
theorem dX6_tick_34 : decode cX6_tick 34 = .ok (.istore_n 3, 1) := by decide +kernel
theorem dX6_tick_35 : decode cX6_tick 35 = .ok (.iload_n 3, 1) := by decide +kernel
theorem dX6_tick_36 : decode cX6_tick 36 = .ok (.iload_n 1, 1) := by decide +kernel
theorem dX6_tick_37 : decode cX6_tick 37 = .ok (.if_icmp .ge 16, 3) := by decide +kernel
theorem dX6_tick_40 : decode cX6_tick 40 = .ok (.iload_n 2, 1) := by decide +kernel
theorem dX6_tick_41 : decode cX6_tick 41 = .ok (.aload_n 0, 1) := by decide +kernel
theorem dX6_tick_42 : decode cX6_tick 42 = .ok (.invokevirtual 155, 3) := by decide +kernel
theorem dX6_tick_45 : decode cX6_tick 45 = .ok (.iadd, 1) := by decide +kernel
theorem dX6_tick_46 : decode cX6_tick 46 = .ok (.istore_n 2, 1) := by decide +kernel
theorem dX6_tick_47 : decode cX6_tick 47 = .ok (.iinc 3 1, 3) := by decide +kernel
theorem dX6_tick_50 : decode cX6_tick 50 = .ok (.goto (-15), 3) := by decide +kernel
theorem dX6_tick_53 : decode cX6_tick 53 = .ok (.iload_n 2, 1) := by decide +kernel
theorem dX6_tick_54 : decode cX6_tick 54 = .ok (.ireturn, 1) := by decide +kernel
theorem dX6_isQuiet_0 : decode cX6_isQuiet 0 = .ok (.aload_n 0, 1) := by decide +kernel
theorem dX6_isQuiet_1 : decode cX6_isQuiet 1 = .ok (.iconst 0, 1) := by decide +kernel
theorem dX6_isQuiet_2 : decode cX6_isQuiet 2 = .ok (.invokevirtual 78, 3) := by decide +kernel
theorem dX6_isQuiet_5 : decode cX6_isQuiet 5 = .ok (.ifCond .ne 24, 3) := by decide +kernel
theorem dX6_isQuiet_8 : decode cX6_isQuiet 8 = .ok (.aload_n 0, 1) := by decide +kernel
theorem dX6_isQuiet_9 : decode cX6_isQuiet 9 = .ok (.iconst 1, 1) := by decide +kernel
theorem dX6_isQuiet_10 : decode cX6_isQuiet 10 = .ok (.invokevirtual 78, 3) := by decide +kernel
theorem dX6_isQuiet_13 : decode cX6_isQuiet 13 = .ok (.ifCond .ne 16, 3) := by decide +kernel
theorem dX6_isQuiet_16 : decode cX6_isQuiet 16 = .ok (.aload_n 0, 1) := by decide +kernel
theorem dX6_isQuiet_17 : decode cX6_isQuiet 17 = .ok (.getfield 7, 3) := by decide +kernel
theorem dX6_isQuiet_20 : decode cX6_isQuiet 20 = .ok (.iconst 4, 1) := by decide +kernel
theorem dX6_isQuiet_21 : decode cX6_isQuiet 21 = .ok (.iaload, 1) := by decide +kernel
theorem dX6_isQuiet_22 : decode cX6_isQuiet 22 = .ok (.ifCond .ne 7, 3) := by decide +kernel
theorem dX6_isQuiet_25 : decode cX6_isQuiet 25 = .ok (.iconst 1, 1) := by decide +kernel
theorem dX6_isQuiet_26 : decode cX6_isQuiet 26 = .ok (.goto 4, 3) := by decide +kernel
theorem dX6_isQuiet_29 : decode cX6_isQuiet 29 = .ok (.iconst 0, 1) := by decide +kernel
theorem dX6_isQuiet_30 : decode cX6_isQuiet 30 = .ok (.istore_n 1, 1) := by decide +kernel
theorem dX6_isQuiet_31 : decode cX6_isQuiet 31 = .ok (.iconst 0, 1) := by decide +kernel
theorem dX6_isQuiet_32 : decode cX6_isQuiet 32 = .ok (.istore_n 2, 1) := by decide +kernel
theorem dX6_isQuiet_33 : decode cX6_isQuiet 33 = .ok (.iload_n 2, 1) := by decide +kernel
theorem dX6_isQuiet_34 : decode cX6_isQuiet 34 = .ok (.iconst 2, 1) := by decide +kernel
theorem dX6_isQuiet_35 : decode cX6_isQuiet 35 = .ok (.if_icmp .ge 73, 3) := by decide +kernel
theorem dX6_isQuiet_38 : decode cX6_isQuiet 38 = .ok (.iload_n 1, 1) := by decide +kernel
theorem dX6_isQuiet_39 : decode cX6_isQuiet 39 = .ok (.ifCond .eq 61, 3) := by decide +kernel
theorem dX6_isQuiet_42 : decode cX6_isQuiet 42 = .ok (.aload_n 0, 1) := by decide +kernel
theorem dX6_isQuiet_43 : decode cX6_isQuiet 43 = .ok (.iload_n 2, 1) := by decide +kernel
theorem dX6_isQuiet_44 : decode cX6_isQuiet 44 = .ok (.invokevirtual 51, 3) := by decide +kernel
theorem dX6_isQuiet_47 : decode cX6_isQuiet 47 = .ok (.ifCond .ne 53, 3) := by decide +kernel
theorem dX6_isQuiet_50 : decode cX6_isQuiet 50 = .ok (.aload_n 0, 1) := by decide +kernel
theorem dX6_isQuiet_51 : decode cX6_isQuiet 51 = .ok (.getfield 7, 3) := by decide +kernel
theorem dX6_isQuiet_54 : decode cX6_isQuiet 54 = .ok (.iload_n 2, 1) := by decide +kernel
theorem dX6_isQuiet_55 : decode cX6_isQuiet 55 = .ok (.invokestatic 20, 3) := by decide +kernel
theorem dX6_isQuiet_58 : decode cX6_isQuiet 58 = .ok (.iconst 2, 1) := by decide +kernel
theorem dX6_isQuiet_59 : decode cX6_isQuiet 59 = .ok (.iadd, 1) := by decide +kernel
theorem dX6_isQuiet_60 : decode cX6_isQuiet 60 = .ok (.iaload, 1) := by decide +kernel
theorem dX6_isQuiet_61 : decode cX6_isQuiet 61 = .ok (.ifCond .ne 39, 3) := by decide +kernel
theorem dX6_isQuiet_64 : decode cX6_isQuiet 64 = .ok (.aload_n 0, 1) := by decide +kernel
theorem dX6_isQuiet_65 : decode cX6_isQuiet 65 = .ok (.getfield 7, 3) := by decide +kernel
theorem dX6_isQuiet_68 : decode cX6_isQuiet 68 = .ok (.iload_n 2, 1) := by decide +kernel
theorem dX6_isQuiet_69 : decode cX6_isQuiet 69 = .ok (.invokestatic 20, 3) := by decide +kernel
theorem dX6_isQuiet_72 : decode cX6_isQuiet 72 = .ok (.bipush 9, 2) := by decide +kernel
theorem dX6_isQuiet_74 : decode cX6_isQuiet 74 = .ok (.iadd, 1) := by decide +kernel
theorem dX6_isQuiet_75 : decode cX6_isQuiet 75 = .ok (.iaload, 1) := by decide +kernel
theorem dX6_isQuiet_76 : decode cX6_isQuiet 76 = .ok (.bipush (-4), 2) := by decide +kernel
theorem dX6_isQuiet_78 : decode cX6_isQuiet 78 = .ok (.if_icmp .ne 22, 3) := by decide +kernel
theorem dX6_isQuiet_81 : decode cX6_isQuiet 81 = .ok (.aload_n 0, 1) := by decide +kernel
theorem dX6_isQuiet_82 : decode cX6_isQuiet 82 = .ok (.getfield 7, 3) := by decide +kernel
theorem dX6_isQuiet_85 : decode cX6_isQuiet 85 = .ok (.iload_n 2, 1) := by decide +kernel
theorem dX6_isQuiet_86 : decode cX6_isQuiet 86 = .ok (.invokestatic 20, 3) := by decide +kernel
theorem dX6_isQuiet_89 : decode cX6_isQuiet 89 = .ok (.bipush 10, 2) := by decide +kernel
theorem dX6_isQuiet_91 : decode cX6_isQuiet 91 = .ok (.iadd, 1) := by decide +kernel
theorem dX6_isQuiet_92 : decode cX6_isQuiet 92 = .ok (.iaload, 1) := by decide +kernel
theorem dX6_isQuiet_93 : decode cX6_isQuiet 93 = .ok (.ifCond .ne 7, 3) := by decide +kernel
theorem dX6_isQuiet_96 : decode cX6_isQuiet 96 = .ok (.iconst 1, 1) := by decide +kernel
theorem dX6_isQuiet_97 : decode cX6_isQuiet 97 = .ok (.goto 4, 3) := by decide +kernel
theorem dX6_isQuiet_100 : decode cX6_isQuiet 100 = .ok (.iconst 0, 1) := by decide +kernel
theorem dX6_isQuiet_101 : decode cX6_isQuiet 101 = .ok (.istore_n 1, 1) := by decide +kernel
theorem dX6_isQuiet_102 : decode cX6_isQuiet 102 = .ok (.iinc 2 1, 3) := by decide +kernel
theorem dX6_isQuiet_105 : decode cX6_isQuiet 105 = .ok (.goto (-72), 3) := by decide +kernel
theorem dX6_isQuiet_108 : decode cX6_isQuiet 108 = .ok (.iload_n 1, 1) := by decide +kernel
theorem dX6_isQuiet_109 : decode cX6_isQuiet 109 = .ok (.ireturn, 1) := by decide +kernel
theorem dX6_settle_0 : decode cX6_settle 0 = .ok (.iload_n 1, 1) := by decide +kernel
theorem dX6_settle_1 : decode cX6_settle 1 = .ok (.i2l, 1) := by decide +kernel
theorem dX6_settle_2 : decode cX6_settle 2 = .ok (.lconst 1, 1) := by decide +kernel
theorem dX6_settle_3 : decode cX6_settle 3 = .ok (.ldc2_w 158, 3) := by decide +kernel
theorem dX6_settle_6 : decode cX6_settle 6 = .ok (.invokestatic 45, 3) := by decide +kernel
theorem dX6_settle_9 : decode cX6_settle 9 = .ok (.ifCond .ne 5, 3) := by decide +kernel
theorem dX6_settle_12 : decode cX6_settle 12 = .ok (.iconst (-1), 1) := by decide +kernel
theorem dX6_settle_13 : decode cX6_settle 13 = .ok (.ireturn, 1) := by decide +kernel
theorem dX6_settle_14 : decode cX6_settle 14 = .ok (.aload_n 0, 1) := by decide +kernel
theorem dX6_settle_15 : decode cX6_settle 15 = .ok (.getfield 7, 3) := by decide +kernel
theorem dX6_settle_18 : decode cX6_settle 18 = .ok (.iconst 3, 1) := by decide +kernel
theorem dX6_settle_19 : decode cX6_settle 19 = .ok (.iaload, 1) := by decide +kernel
theorem dX6_settle_20 : decode cX6_settle 20 = .ok (.iload_n 1, 1) := by decide +kernel
theorem dX6_settle_21 : decode cX6_settle 21 = .ok (.iadd, 1) := by decide +kernel
theorem dX6_settle_22 : decode cX6_settle 22 = .ok (.sipush 20000, 3) := by decide +kernel
theorem dX6_settle_25 : decode cX6_settle 25 = .ok (.if_icmp .le 6, 3) := by decide +kernel
theorem dX6_settle_28 : decode cX6_settle 28 = .ok (.bipush (-3), 2) := by decide +kernel
theorem dX6_settle_30 : decode cX6_settle 30 = .ok (.ireturn, 1) := by decide +kernel
theorem dX6_settle_31 : decode cX6_settle 31 = .ok (.iconst 0, 1) := by decide +kernel
theorem dX6_settle_32 : decode cX6_settle 32 = .ok (.istore_n 2, 1) := by decide +kernel
theorem dX6_settle_33 : decode cX6_settle 33 = .ok (.iload_n 2, 1) := by decide +kernel
theorem dX6_settle_34 : decode cX6_settle 34 = .ok (.iload_n 1, 1) := by decide +kernel
theorem dX6_settle_35 : decode cX6_settle 35 = .ok (.if_icmp .ge 21, 3) := by decide +kernel
theorem dX6_settle_38 : decode cX6_settle 38 = .ok (.aload_n 0, 1) := by decide +kernel
theorem dX6_settle_39 : decode cX6_settle 39 = .ok (.invokevirtual 160, 3) := by decide +kernel
theorem dX6_settle_42 : decode cX6_settle 42 = .ok (.ifCond .ne 14, 3) := by decide +kernel
theorem dX6_settle_45 : decode cX6_settle 45 = .ok (.aload_n 0, 1) := by decide +kernel
theorem dX6_settle_46 : decode cX6_settle 46 = .ok (.invokevirtual 155, 3) := by decide +kernel
theorem dX6_settle_49 : decode cX6_settle 49 = .ok (.istore_n 3, 1) := by decide +kernel
theorem dX6_settle_50 : decode cX6_settle 50 = .ok (.iinc 2 1, 3) := by decide +kernel
theorem dX6_settle_53 : decode cX6_settle 53 = .ok (.goto (-20), 3) := by decide +kernel
theorem dX6_settle_56 : decode cX6_settle 56 = .ok (.iload_n 2, 1) := by decide +kernel
theorem dX6_settle_57 : decode cX6_settle 57 = .ok (.ireturn, 1) := by decide +kernel
theorem dX6_voids_0 : decode cX6_voids 0 = .ok (.iload_n 1, 1) := by decide +kernel
theorem dX6_voids_1 : decode cX6_voids 1 = .ok (.invokestatic 39, 3) := by decide +kernel
theorem dX6_voids_4 : decode cX6_voids 4 = .ok (.ifCond .ne 5, 3) := by decide +kernel
theorem dX6_voids_7 : decode cX6_voids 7 = .ok (.iconst (-1), 1) := by decide +kernel
theorem dX6_voids_8 : decode cX6_voids 8 = .ok (.ireturn, 1) := by decide +kernel
theorem dX6_voids_9 : decode cX6_voids 9 = .ok (.aload_n 0, 1) := by decide +kernel
theorem dX6_voids_10 : decode cX6_voids 10 = .ok (.getfield 7, 3) := by decide +kernel
theorem dX6_voids_13 : decode cX6_voids 13 = .ok (.iload_n 1, 1) := by decide +kernel
theorem dX6_voids_14 : decode cX6_voids 14 = .ok (.invokestatic 20, 3) := by decide +kernel
theorem dX6_voids_17 : decode cX6_voids 17 = .ok (.bipush 12, 2) := by decide +kernel
theorem dX6_voids_19 : decode cX6_voids 19 = .ok (.iadd, 1) := by decide +kernel
theorem dX6_voids_20 : decode cX6_voids 20 = .ok (.iaload, 1) := by decide +kernel
theorem dX6_voids_21 : decode cX6_voids 21 = .ok (.istore_n 2, 1) := by decide +kernel
theorem dX6_voids_22 : decode cX6_voids 22 = .ok (.aload_n 0, 1) := by decide +kernel
theorem dX6_voids_23 : decode cX6_voids 23 = .ok (.getfield 7, 3) := by decide +kernel
theorem dX6_voids_26 : decode cX6_voids 26 = .ok (.iload_n 1, 1) := by decide +kernel
theorem dX6_voids_27 : decode cX6_voids 27 = .ok (.invokestatic 20, 3) := by decide +kernel
theorem dX6_voids_30 : decode cX6_voids 30 = .ok (.bipush 12, 2) := by decide +kernel
theorem dX6_voids_32 : decode cX6_voids 32 = .ok (.iadd, 1) := by decide +kernel
theorem dX6_voids_33 : decode cX6_voids 33 = .ok (.iconst 1, 1) := by decide +kernel
theorem dX6_voids_34 : decode cX6_voids 34 = .ok (.iastore, 1) := by decide +kernel
theorem dX6_voids_35 : decode cX6_voids 35 = .ok (.iload_n 2, 1) := by decide +kernel
theorem dX6_voids_36 : decode cX6_voids 36 = .ok (.ireturn, 1) := by decide +kernel
theorem dX6_isFrame_0 : decode cX6_isFrame 0 = .ok (.iload_n 1, 1) := by decide +kernel
theorem dX6_isFrame_1 : decode cX6_isFrame 1 = .ok (.invokestatic 39, 3) := by decide +kernel
theorem dX6_isFrame_4 : decode cX6_isFrame 4 = .ok (.ifCond .eq 24, 3) := by decide +kernel
theorem dX6_isFrame_7 : decode cX6_isFrame 7 = .ok (.iload_n 2, 1) := by decide +kernel
theorem dX6_isFrame_8 : decode cX6_isFrame 8 = .ok (.i2l, 1) := by decide +kernel
theorem dX6_isFrame_9 : decode cX6_isFrame 9 = .ok (.lconst 0, 1) := by decide +kernel
theorem dX6_isFrame_10 : decode cX6_isFrame 10 = .ok (.aload_n 0, 1) := by decide +kernel
theorem dX6_isFrame_11 : decode cX6_isFrame 11 = .ok (.iload_n 1, 1) := by decide +kernel
theorem dX6_isFrame_12 : decode cX6_isFrame 12 = .ok (.invokevirtual 78, 3) := by decide +kernel
theorem dX6_isFrame_15 : decode cX6_isFrame 15 = .ok (.iconst 1, 1) := by decide +kernel
theorem dX6_isFrame_16 : decode cX6_isFrame 16 = .ok (.isub, 1) := by decide +kernel
theorem dX6_isFrame_17 : decode cX6_isFrame 17 = .ok (.i2l, 1) := by decide +kernel
theorem dX6_isFrame_18 : decode cX6_isFrame 18 = .ok (.invokestatic 45, 3) := by decide +kernel
theorem dX6_isFrame_21 : decode cX6_isFrame 21 = .ok (.ifCond .eq 7, 3) := by decide +kernel
theorem dX6_isFrame_24 : decode cX6_isFrame 24 = .ok (.iconst 1, 1) := by decide +kernel
theorem dX6_isFrame_25 : decode cX6_isFrame 25 = .ok (.goto 4, 3) := by decide +kernel
theorem dX6_isFrame_28 : decode cX6_isFrame 28 = .ok (.iconst 0, 1) := by decide +kernel
theorem dX6_isFrame_29 : decode cX6_isFrame 29 = .ok (.ireturn, 1) := by decide +kernel
theorem dX6_bend_0 : decode cX6_bend 0 = .ok (.aload_n 0, 1) := by decide +kernel
theorem dX6_bend_1 : decode cX6_bend 1 = .ok (.iload_n 1, 1) := by decide +kernel
theorem dX6_bend_2 : decode cX6_bend 2 = .ok (.iload_n 2, 1) := by decide +kernel
theorem dX6_bend_3 : decode cX6_bend 3 = .ok (.invokevirtual 164, 3) := by decide +kernel
theorem dX6_bend_6 : decode cX6_bend 6 = .ok (.ifCond .eq 38, 3) := by decide +kernel
theorem dX6_bend_9 : decode cX6_bend 9 = .ok (.iload_n 3, 1) := by decide +kernel
theorem dX6_bend_10 : decode cX6_bend 10 = .ok (.i2l, 1) := by decide +kernel
theorem dX6_bend_11 : decode cX6_bend 11 = .ok (.lconst 0, 1) := by decide +kernel
theorem dX6_bend_12 : decode cX6_bend 12 = .ok (.aload_n 0, 1) := by decide +kernel
theorem dX6_bend_13 : decode cX6_bend 13 = .ok (.getfield 7, 3) := by decide +kernel
theorem dX6_bend_16 : decode cX6_bend 16 = .ok (.iload_n 1, 1) := by decide +kernel
theorem dX6_bend_17 : decode cX6_bend 17 = .ok (.iload_n 2, 1) := by decide +kernel
theorem dX6_bend_18 : decode cX6_bend 18 = .ok (.invokestatic 81, 3) := by decide +kernel
theorem dX6_bend_21 : decode cX6_bend 21 = .ok (.iaload, 1) := by decide +kernel
theorem dX6_bend_22 : decode cX6_bend 22 = .ok (.iconst 1, 1) := by decide +kernel
theorem dX6_bend_23 : decode cX6_bend 23 = .ok (.isub, 1) := by decide +kernel
theorem dX6_bend_24 : decode cX6_bend 24 = .ok (.i2l, 1) := by decide +kernel
theorem dX6_bend_25 : decode cX6_bend 25 = .ok (.invokestatic 45, 3) := by decide +kernel
theorem dX6_bend_28 : decode cX6_bend 28 = .ok (.ifCond .eq 16, 3) := by decide +kernel
theorem dX6_bend_31 : decode cX6_bend 31 = .ok (.iload 4, 2) := by decide +kernel
theorem dX6_bend_33 : decode cX6_bend 33 = .ok (.i2l, 1) := by decide +kernel
theorem dX6_bend_34 : decode cX6_bend 34 = .ok (.lconst 1, 1) := by decide +kernel
theorem dX6_bend_35 : decode cX6_bend 35 = .ok (.ldc2_w 49, 3) := by decide +kernel
theorem dX6_bend_38 : decode cX6_bend 38 = .ok (.invokestatic 45, 3) := by decide +kernel
theorem dX6_bend_41 : decode cX6_bend 41 = .ok (.ifCond .ne 5, 3) := by decide +kernel
theorem dX6_bend_44 : decode cX6_bend 44 = .ok (.iconst (-1), 1) := by decide +kernel
theorem dX6_bend_45 : decode cX6_bend 45 = .ok (.ireturn, 1) := by decide +kernel
theorem dX6_bend_46 : decode cX6_bend 46 = .ok (.iload_n 1, 1) := by decide +kernel
theorem dX6_bend_47 : decode cX6_bend 47 = .ok (.iload_n 2, 1) := by decide +kernel
theorem dX6_bend_48 : decode cX6_bend 48 = .ok (.invokestatic 81, 3) := by decide +kernel
theorem dX6_bend_51 : decode cX6_bend 51 = .ok (.iconst 2, 1) := by decide +kernel
theorem dX6_bend_52 : decode cX6_bend 52 = .ok (.iadd, 1) := by decide +kernel
theorem dX6_bend_53 : decode cX6_bend 53 = .ok (.iload_n 3, 1) := by decide +kernel
theorem dX6_bend_54 : decode cX6_bend 54 = .ok (.iadd, 1) := by decide +kernel
theorem dX6_bend_55 : decode cX6_bend 55 = .ok (.istore 5, 2) := by decide +kernel
theorem dX6_bend_57 : decode cX6_bend 57 = .ok (.aload_n 0, 1) := by decide +kernel
theorem dX6_bend_58 : decode cX6_bend 58 = .ok (.getfield 7, 3) := by decide +kernel
theorem dX6_bend_61 : decode cX6_bend 61 = .ok (.iload 5, 2) := by decide +kernel
theorem dX6_bend_63 : decode cX6_bend 63 = .ok (.aload_n 0, 1) := by decide +kernel
theorem dX6_bend_64 : decode cX6_bend 64 = .ok (.getfield 7, 3) := by decide +kernel
theorem dX6_bend_67 : decode cX6_bend 67 = .ok (.iload 5, 2) := by decide +kernel
theorem dX6_bend_69 : decode cX6_bend 69 = .ok (.iaload, 1) := by decide +kernel
theorem dX6_bend_70 : decode cX6_bend 70 = .ok (.iload 4, 2) := by decide +kernel
theorem dX6_bend_72 : decode cX6_bend 72 = .ok (.ixor, 1) := by decide +kernel
theorem dX6_bend_73 : decode cX6_bend 73 = .ok (.iastore, 1) := by decide +kernel
theorem dX6_bend_74 : decode cX6_bend 74 = .ok (.aload_n 0, 1) := by decide +kernel
theorem dX6_bend_75 : decode cX6_bend 75 = .ok (.getfield 7, 3) := by decide +kernel
theorem dX6_bend_78 : decode cX6_bend 78 = .ok (.iload 5, 2) := by decide +kernel
theorem dX6_bend_80 : decode cX6_bend 80 = .ok (.iaload, 1) := by decide +kernel
theorem dX6_bend_81 : decode cX6_bend 81 = .ok (.ireturn, 1) := by decide +kernel
theorem dX6_lose_0 : decode cX6_lose 0 = .ok (.aload_n 0, 1) := by decide +kernel
theorem dX6_lose_1 : decode cX6_lose 1 = .ok (.iload_n 1, 1) := by decide +kernel
theorem dX6_lose_2 : decode cX6_lose 2 = .ok (.iload_n 2, 1) := by decide +kernel
theorem dX6_lose_3 : decode cX6_lose 3 = .ok (.invokevirtual 164, 3) := by decide +kernel
theorem dX6_lose_6 : decode cX6_lose 6 = .ok (.ifCond .ne 5, 3) := by decide +kernel
theorem dX6_lose_9 : decode cX6_lose 9 = .ok (.iconst (-1), 1) := by decide +kernel
theorem dX6_lose_10 : decode cX6_lose 10 = .ok (.ireturn, 1) := by decide +kernel
theorem dX6_lose_11 : decode cX6_lose 11 = .ok (.aload_n 0, 1) := by decide +kernel
theorem dX6_lose_12 : decode cX6_lose 12 = .ok (.iload_n 1, 1) := by decide +kernel
theorem dX6_lose_13 : decode cX6_lose 13 = .ok (.iload_n 2, 1) := by decide +kernel
theorem dX6_lose_14 : decode cX6_lose 14 = .ok (.invokevirtual 84, 3) := by decide +kernel
theorem dX6_lose_17 : decode cX6_lose 17 = .ok (.aload_n 0, 1) := by decide +kernel
theorem dX6_lose_18 : decode cX6_lose 18 = .ok (.iload_n 1, 1) := by decide +kernel
theorem dX6_lose_19 : decode cX6_lose 19 = .ok (.invokevirtual 78, 3) := by decide +kernel
theorem dX6_lose_22 : decode cX6_lose 22 = .ok (.ireturn, 1) := by decide +kernel
theorem dX6_twice_0 : decode cX6_twice 0 = .ok (.aload_n 0, 1) := by decide +kernel
theorem dX6_twice_1 : decode cX6_twice 1 = .ok (.iload_n 1, 1) := by decide +kernel
theorem dX6_twice_2 : decode cX6_twice 2 = .ok (.iload_n 2, 1) := by decide +kernel
theorem dX6_twice_3 : decode cX6_twice 3 = .ok (.invokevirtual 164, 3) := by decide +kernel
theorem dX6_twice_6 : decode cX6_twice 6 = .ok (.ifCond .ne 5, 3) := by decide +kernel
theorem dX6_twice_9 : decode cX6_twice 9 = .ok (.iconst (-1), 1) := by decide +kernel
theorem dX6_twice_10 : decode cX6_twice 10 = .ok (.ireturn, 1) := by decide +kernel
theorem dX6_twice_11 : decode cX6_twice 11 = .ok (.aload_n 0, 1) := by decide +kernel
theorem dX6_twice_12 : decode cX6_twice 12 = .ok (.iload_n 1, 1) := by decide +kernel
theorem dX6_twice_13 : decode cX6_twice 13 = .ok (.invokevirtual 78, 3) := by decide +kernel
theorem dX6_twice_16 : decode cX6_twice 16 = .ok (.bipush 12, 2) := by decide +kernel
theorem dX6_twice_18 : decode cX6_twice 18 = .ok (.if_icmp .ne 6, 3) := by decide +kernel
theorem dX6_twice_21 : decode cX6_twice 21 = .ok (.bipush (-3), 2) := by decide +kernel
theorem dX6_twice_23 : decode cX6_twice 23 = .ok (.ireturn, 1) := by decide +kernel
theorem dX6_twice_24 : decode cX6_twice 24 = .ok (.iload_n 1, 1) := by decide +kernel
theorem dX6_twice_25 : decode cX6_twice 25 = .ok (.aload_n 0, 1) := by decide +kernel
theorem dX6_twice_26 : decode cX6_twice 26 = .ok (.iload_n 1, 1) := by decide +kernel
theorem dX6_twice_27 : decode cX6_twice 27 = .ok (.invokevirtual 78, 3) := by decide +kernel
theorem dX6_twice_30 : decode cX6_twice 30 = .ok (.invokestatic 81, 3) := by decide +kernel
theorem dX6_twice_33 : decode cX6_twice 33 = .ok (.iconst 1, 1) := by decide +kernel
theorem dX6_twice_34 : decode cX6_twice 34 = .ok (.isub, 1) := by decide +kernel
theorem dX6_twice_35 : decode cX6_twice 35 = .ok (.istore_n 3, 1) := by decide +kernel
theorem dX6_twice_36 : decode cX6_twice 36 = .ok (.iload_n 3, 1) := by decide +kernel
theorem dX6_twice_37 : decode cX6_twice 37 = .ok (.iload_n 1, 1) := by decide +kernel
theorem dX6_twice_38 : decode cX6_twice 38 = .ok (.iload_n 2, 1) := by decide +kernel
theorem dX6_twice_39 : decode cX6_twice 39 = .ok (.invokestatic 81, 3) := by decide +kernel
theorem dX6_twice_42 : decode cX6_twice 42 = .ok (.if_icmp .lt 24, 3) := by decide +kernel
theorem dX6_twice_45 : decode cX6_twice 45 = .ok (.aload_n 0, 1) := by decide +kernel
theorem dX6_twice_46 : decode cX6_twice 46 = .ok (.getfield 7, 3) := by decide +kernel
theorem dX6_twice_49 : decode cX6_twice 49 = .ok (.iload_n 3, 1) := by decide +kernel
theorem dX6_twice_50 : decode cX6_twice 50 = .ok (.bipush 36, 2) := by decide +kernel
theorem dX6_twice_52 : decode cX6_twice 52 = .ok (.iadd, 1) := by decide +kernel
theorem dX6_twice_53 : decode cX6_twice 53 = .ok (.aload_n 0, 1) := by decide +kernel
theorem dX6_twice_54 : decode cX6_twice 54 = .ok (.getfield 7, 3) := by decide +kernel
theorem dX6_twice_57 : decode cX6_twice 57 = .ok (.iload_n 3, 1) := by decide +kernel
theorem dX6_twice_58 : decode cX6_twice 58 = .ok (.iaload, 1) := by decide +kernel
theorem dX6_twice_59 : decode cX6_twice 59 = .ok (.iastore, 1) := by decide +kernel
theorem dX6_twice_60 : decode cX6_twice 60 = .ok (.iinc 3 (-1), 3) := by decide +kernel
theorem dX6_twice_63 : decode cX6_twice 63 = .ok (.goto (-27), 3) := by decide +kernel
theorem dX6_twice_66 : decode cX6_twice 66 = .ok (.aload_n 0, 1) := by decide +kernel
theorem dX6_twice_67 : decode cX6_twice 67 = .ok (.getfield 7, 3) := by decide +kernel
theorem dX6_twice_70 : decode cX6_twice 70 = .ok (.iload_n 1, 1) := by decide +kernel
theorem dX6_twice_71 : decode cX6_twice 71 = .ok (.invokestatic 24, 3) := by decide +kernel
theorem dX6_twice_74 : decode cX6_twice 74 = .ok (.dup2, 1) := by decide +kernel
theorem dX6_twice_75 : decode cX6_twice 75 = .ok (.iaload, 1) := by decide +kernel
theorem dX6_twice_76 : decode cX6_twice 76 = .ok (.iconst 1, 1) := by decide +kernel
theorem dX6_twice_77 : decode cX6_twice 77 = .ok (.iadd, 1) := by decide +kernel
theorem dX6_twice_78 : decode cX6_twice 78 = .ok (.iastore, 1) := by decide +kernel
theorem dX6_twice_79 : decode cX6_twice 79 = .ok (.aload_n 0, 1) := by decide +kernel
theorem dX6_twice_80 : decode cX6_twice 80 = .ok (.iload_n 1, 1) := by decide +kernel
theorem dX6_twice_81 : decode cX6_twice 81 = .ok (.invokevirtual 78, 3) := by decide +kernel
theorem dX6_twice_84 : decode cX6_twice 84 = .ok (.ireturn, 1) := by decide +kernel
theorem dX6_wire_0 : decode cX6_wire 0 = .ok (.iload_n 1, 1) := by decide +kernel
theorem dX6_wire_1 : decode cX6_wire 1 = .ok (.invokestatic 39, 3) := by decide +kernel
theorem dX6_wire_4 : decode cX6_wire 4 = .ok (.ifCond .ne 5, 3) := by decide +kernel
theorem dX6_wire_7 : decode cX6_wire 7 = .ok (.iconst (-1), 1) := by decide +kernel
theorem dX6_wire_8 : decode cX6_wire 8 = .ok (.ireturn, 1) := by decide +kernel
theorem dX6_wire_9 : decode cX6_wire 9 = .ok (.iload_n 2, 1) := by decide +kernel
theorem dX6_wire_10 : decode cX6_wire 10 = .ok (.iconst (-1), 1) := by decide +kernel
theorem dX6_wire_11 : decode cX6_wire 11 = .ok (.if_icmp .ne 9, 3) := by decide +kernel
theorem dX6_wire_14 : decode cX6_wire 14 = .ok (.aload_n 0, 1) := by decide +kernel
theorem dX6_wire_15 : decode cX6_wire 15 = .ok (.iload_n 1, 1) := by decide +kernel
theorem dX6_wire_16 : decode cX6_wire 16 = .ok (.invokevirtual 78, 3) := by decide +kernel
theorem dX6_wire_19 : decode cX6_wire 19 = .ok (.ireturn, 1) := by decide +kernel
theorem dX6_wire_20 : decode cX6_wire 20 = .ok (.aload_n 0, 1) := by decide +kernel
theorem dX6_wire_21 : decode cX6_wire 21 = .ok (.iload_n 1, 1) := by decide +kernel
theorem dX6_wire_22 : decode cX6_wire 22 = .ok (.iload_n 2, 1) := by decide +kernel
theorem dX6_wire_23 : decode cX6_wire 23 = .ok (.invokevirtual 164, 3) := by decide +kernel
theorem dX6_wire_26 : decode cX6_wire 26 = .ok (.ifCond .eq 15, 3) := by decide +kernel
theorem dX6_wire_29 : decode cX6_wire 29 = .ok (.iload_n 3, 1) := by decide +kernel
theorem dX6_wire_30 : decode cX6_wire 30 = .ok (.i2l, 1) := by decide +kernel
theorem dX6_wire_31 : decode cX6_wire 31 = .ok (.lconst 0, 1) := by decide +kernel
theorem dX6_wire_32 : decode cX6_wire 32 = .ok (.ldc2_w 168, 3) := by decide +kernel
theorem dX6_wire_35 : decode cX6_wire 35 = .ok (.invokestatic 45, 3) := by decide +kernel
theorem dX6_wire_38 : decode cX6_wire 38 = .ok (.ifCond .ne 5, 3) := by decide +kernel
theorem dX6_wire_41 : decode cX6_wire 41 = .ok (.iconst (-1), 1) := by decide +kernel
theorem dX6_wire_42 : decode cX6_wire 42 = .ok (.ireturn, 1) := by decide +kernel
theorem dX6_wire_43 : decode cX6_wire 43 = .ok (.iload_n 1, 1) := by decide +kernel
theorem dX6_wire_44 : decode cX6_wire 44 = .ok (.iload_n 2, 1) := by decide +kernel
theorem dX6_wire_45 : decode cX6_wire 45 = .ok (.invokestatic 81, 3) := by decide +kernel
theorem dX6_wire_48 : decode cX6_wire 48 = .ok (.istore 4, 2) := by decide +kernel
theorem dX6_wire_50 : decode cX6_wire 50 = .ok (.iload_n 3, 1) := by decide +kernel
theorem dX6_wire_51 : decode cX6_wire 51 = .ok (.tableswitch 57 0 2 #[25, 33, 50], 25) := by decide +kernel
theorem dX6_wire_76 : decode cX6_wire 76 = .ok (.aload_n 0, 1) := by decide +kernel
theorem dX6_wire_77 : decode cX6_wire 77 = .ok (.getfield 7, 3) := by decide +kernel
theorem dX6_wire_80 : decode cX6_wire 80 = .ok (.iload 4, 2) := by decide +kernel
theorem dX6_wire_82 : decode cX6_wire 82 = .ok (.iaload, 1) := by decide +kernel
theorem dX6_wire_83 : decode cX6_wire 83 = .ok (.ireturn, 1) := by decide +kernel
theorem dX6_wire_84 : decode cX6_wire 84 = .ok (.aload_n 0, 1) := by decide +kernel
theorem dX6_wire_85 : decode cX6_wire 85 = .ok (.getfield 7, 3) := by decide +kernel
theorem dX6_wire_88 : decode cX6_wire 88 = .ok (.iload 4, 2) := by decide +kernel
theorem dX6_wire_90 : decode cX6_wire 90 = .ok (.iconst 1, 1) := by decide +kernel
theorem dX6_wire_91 : decode cX6_wire 91 = .ok (.iadd, 1) := by decide +kernel
theorem dX6_wire_92 : decode cX6_wire 92 = .ok (.iaload, 1) := by decide +kernel
theorem dX6_wire_93 : decode cX6_wire 93 = .ok (.aload_n 0, 1) := by decide +kernel
theorem dX6_wire_94 : decode cX6_wire 94 = .ok (.getfield 7, 3) := by decide +kernel
theorem dX6_wire_97 : decode cX6_wire 97 = .ok (.iconst 3, 1) := by decide +kernel
theorem dX6_wire_98 : decode cX6_wire 98 = .ok (.iaload, 1) := by decide +kernel
theorem dX6_wire_99 : decode cX6_wire 99 = .ok (.isub, 1) := by decide +kernel
theorem dX6_wire_100 : decode cX6_wire 100 = .ok (.ireturn, 1) := by decide +kernel
theorem dX6_wire_101 : decode cX6_wire 101 = .ok (.aload_n 0, 1) := by decide +kernel
theorem dX6_wire_102 : decode cX6_wire 102 = .ok (.iload 4, 2) := by decide +kernel
theorem dX6_wire_104 : decode cX6_wire 104 = .ok (.invokevirtual 119, 3) := by decide +kernel
theorem dX6_wire_107 : decode cX6_wire 107 = .ok (.ireturn, 1) := by decide +kernel
theorem dX6_wire_108 : decode cX6_wire 108 = .ok (.iload_n 3, 1) := by decide +kernel
theorem dX6_wire_109 : decode cX6_wire 109 = .ok (.iconst 3, 1) := by decide +kernel
theorem dX6_wire_110 : decode cX6_wire 110 = .ok (.isub, 1) := by decide +kernel
theorem dX6_wire_111 : decode cX6_wire 111 = .ok (.aload_n 0, 1) := by decide +kernel
theorem dX6_wire_112 : decode cX6_wire 112 = .ok (.getfield 7, 3) := by decide +kernel
theorem dX6_wire_115 : decode cX6_wire 115 = .ok (.iload 4, 2) := by decide +kernel
theorem dX6_wire_117 : decode cX6_wire 117 = .ok (.iaload, 1) := by decide +kernel
theorem dX6_wire_118 : decode cX6_wire 118 = .ok (.if_icmp .ge 19, 3) := by decide +kernel
theorem dX6_wire_121 : decode cX6_wire 121 = .ok (.aload_n 0, 1) := by decide +kernel
theorem dX6_wire_122 : decode cX6_wire 122 = .ok (.getfield 7, 3) := by decide +kernel
theorem dX6_wire_125 : decode cX6_wire 125 = .ok (.iload 4, 2) := by decide +kernel
theorem dX6_wire_127 : decode cX6_wire 127 = .ok (.iconst 2, 1) := by decide +kernel
theorem dX6_wire_128 : decode cX6_wire 128 = .ok (.iadd, 1) := by decide +kernel
theorem dX6_wire_129 : decode cX6_wire 129 = .ok (.iload_n 3, 1) := by decide +kernel
theorem dX6_wire_130 : decode cX6_wire 130 = .ok (.iadd, 1) := by decide +kernel
theorem dX6_wire_131 : decode cX6_wire 131 = .ok (.iconst 3, 1) := by decide +kernel
theorem dX6_wire_132 : decode cX6_wire 132 = .ok (.isub, 1) := by decide +kernel
theorem dX6_wire_133 : decode cX6_wire 133 = .ok (.iaload, 1) := by decide +kernel
theorem dX6_wire_134 : decode cX6_wire 134 = .ok (.goto 5, 3) := by decide +kernel
theorem dX6_wire_137 : decode cX6_wire 137 = .ok (.bipush (-4), 2) := by decide +kernel
theorem dX6_wire_139 : decode cX6_wire 139 = .ok (.ireturn, 1) := by decide +kernel
theorem dX6_end_0 : decode cX6_end 0 = .ok (.iload_n 1, 1) := by decide +kernel
theorem dX6_end_1 : decode cX6_end 1 = .ok (.invokestatic 39, 3) := by decide +kernel
theorem dX6_end_4 : decode cX6_end 4 = .ok (.ifCond .ne 5, 3) := by decide +kernel
theorem dX6_end_7 : decode cX6_end 7 = .ok (.iconst (-1), 1) := by decide +kernel
theorem dX6_end_8 : decode cX6_end 8 = .ok (.ireturn, 1) := by decide +kernel
theorem dX6_end_9 : decode cX6_end 9 = .ok (.iload_n 1, 1) := by decide +kernel
theorem dX6_end_10 : decode cX6_end 10 = .ok (.invokestatic 20, 3) := by decide +kernel
theorem dX6_end_13 : decode cX6_end 13 = .ok (.istore_n 3, 1) := by decide +kernel
theorem dX6_end_14 : decode cX6_end 14 = .ok (.iload_n 2, 1) := by decide +kernel
theorem dX6_end_15 : decode cX6_end 15 = .ok (.tableswitch 202 0 13 #[69, 75, 84, 96, 105, 114, 123, 133, 143, 153, 163, 173, 182, 192], 69) := by decide +kernel
theorem dX6_end_84 : decode cX6_end 84 = .ok (.aload_n 0, 1) := by decide +kernel
theorem dX6_end_85 : decode cX6_end 85 = .ok (.iload_n 1, 1) := by decide +kernel
theorem dX6_end_86 : decode cX6_end 86 = .ok (.invokevirtual 51, 3) := by decide +kernel
theorem dX6_end_89 : decode cX6_end 89 = .ok (.ireturn, 1) := by decide +kernel
theorem dX6_end_90 : decode cX6_end 90 = .ok (.aload_n 0, 1) := by decide +kernel
theorem dX6_end_91 : decode cX6_end 91 = .ok (.getfield 7, 3) := by decide +kernel
theorem dX6_end_94 : decode cX6_end 94 = .ok (.iload_n 3, 1) := by decide +kernel
theorem dX6_end_95 : decode cX6_end 95 = .ok (.iconst 2, 1) := by decide +kernel
theorem dX6_end_96 : decode cX6_end 96 = .ok (.iadd, 1) := by decide +kernel
theorem dX6_end_97 : decode cX6_end 97 = .ok (.iaload, 1) := by decide +kernel
theorem dX6_end_98 : decode cX6_end 98 = .ok (.ireturn, 1) := by decide +kernel
theorem dX6_end_99 : decode cX6_end 99 = .ok (.aload_n 0, 1) := by decide +kernel
theorem dX6_end_100 : decode cX6_end 100 = .ok (.getfield 7, 3) := by decide +kernel
theorem dX6_end_103 : decode cX6_end 103 = .ok (.iload_n 3, 1) := by decide +kernel
theorem dX6_end_104 : decode cX6_end 104 = .ok (.iconst 1, 1) := by decide +kernel
theorem dX6_end_105 : decode cX6_end 105 = .ok (.iadd, 1) := by decide +kernel
theorem dX6_end_106 : decode cX6_end 106 = .ok (.iaload, 1) := by decide +kernel
theorem dX6_end_107 : decode cX6_end 107 = .ok (.invokestatic 95, 3) := by decide +kernel
theorem dX6_end_110 : decode cX6_end 110 = .ok (.ireturn, 1) := by decide +kernel
theorem dX6_end_111 : decode cX6_end 111 = .ok (.aload_n 0, 1) := by decide +kernel
theorem dX6_end_112 : decode cX6_end 112 = .ok (.getfield 7, 3) := by decide +kernel
theorem dX6_end_115 : decode cX6_end 115 = .ok (.iload_n 3, 1) := by decide +kernel
theorem dX6_end_116 : decode cX6_end 116 = .ok (.iconst 3, 1) := by decide +kernel
theorem dX6_end_117 : decode cX6_end 117 = .ok (.iadd, 1) := by decide +kernel
theorem dX6_end_118 : decode cX6_end 118 = .ok (.iaload, 1) := by decide +kernel
theorem dX6_end_119 : decode cX6_end 119 = .ok (.ireturn, 1) := by decide +kernel
theorem dX6_end_120 : decode cX6_end 120 = .ok (.aload_n 0, 1) := by decide +kernel
theorem dX6_end_121 : decode cX6_end 121 = .ok (.getfield 7, 3) := by decide +kernel
theorem dX6_end_124 : decode cX6_end 124 = .ok (.iload_n 3, 1) := by decide +kernel
theorem dX6_end_125 : decode cX6_end 125 = .ok (.iconst 4, 1) := by decide +kernel
theorem dX6_end_126 : decode cX6_end 126 = .ok (.iadd, 1) := by decide +kernel
theorem dX6_end_127 : decode cX6_end 127 = .ok (.iaload, 1) := by decide +kernel
theorem dX6_end_128 : decode cX6_end 128 = .ok (.ireturn, 1) := by decide +kernel
theorem dX6_end_129 : decode cX6_end 129 = .ok (.aload_n 0, 1) := by decide +kernel
theorem dX6_end_130 : decode cX6_end 130 = .ok (.getfield 7, 3) := by decide +kernel
theorem dX6_end_133 : decode cX6_end 133 = .ok (.iload_n 3, 1) := by decide +kernel
theorem dX6_end_134 : decode cX6_end 134 = .ok (.iconst 5, 1) := by decide +kernel
theorem dX6_end_135 : decode cX6_end 135 = .ok (.iadd, 1) := by decide +kernel
theorem dX6_end_136 : decode cX6_end 136 = .ok (.iaload, 1) := by decide +kernel
theorem dX6_end_137 : decode cX6_end 137 = .ok (.ireturn, 1) := by decide +kernel
theorem dX6_end_138 : decode cX6_end 138 = .ok (.aload_n 0, 1) := by decide +kernel
theorem dX6_end_139 : decode cX6_end 139 = .ok (.getfield 7, 3) := by decide +kernel
theorem dX6_end_142 : decode cX6_end 142 = .ok (.iload_n 3, 1) := by decide +kernel
theorem dX6_end_143 : decode cX6_end 143 = .ok (.bipush 6, 2) := by decide +kernel
theorem dX6_end_145 : decode cX6_end 145 = .ok (.iadd, 1) := by decide +kernel
theorem dX6_end_146 : decode cX6_end 146 = .ok (.iaload, 1) := by decide +kernel
theorem dX6_end_147 : decode cX6_end 147 = .ok (.ireturn, 1) := by decide +kernel
theorem dX6_end_148 : decode cX6_end 148 = .ok (.aload_n 0, 1) := by decide +kernel
theorem dX6_end_149 : decode cX6_end 149 = .ok (.getfield 7, 3) := by decide +kernel
theorem dX6_end_152 : decode cX6_end 152 = .ok (.iload_n 3, 1) := by decide +kernel
theorem dX6_end_153 : decode cX6_end 153 = .ok (.bipush 7, 2) := by decide +kernel
theorem dX6_end_155 : decode cX6_end 155 = .ok (.iadd, 1) := by decide +kernel
theorem dX6_end_156 : decode cX6_end 156 = .ok (.iaload, 1) := by decide +kernel
theorem dX6_end_157 : decode cX6_end 157 = .ok (.ireturn, 1) := by decide +kernel
theorem dX6_end_158 : decode cX6_end 158 = .ok (.aload_n 0, 1) := by decide +kernel
theorem dX6_end_159 : decode cX6_end 159 = .ok (.getfield 7, 3) := by decide +kernel
theorem dX6_end_162 : decode cX6_end 162 = .ok (.iload_n 3, 1) := by decide +kernel
theorem dX6_end_163 : decode cX6_end 163 = .ok (.bipush 8, 2) := by decide +kernel
theorem dX6_end_165 : decode cX6_end 165 = .ok (.iadd, 1) := by decide +kernel
theorem dX6_end_166 : decode cX6_end 166 = .ok (.iaload, 1) := by decide +kernel
theorem dX6_end_167 : decode cX6_end 167 = .ok (.ireturn, 1) := by decide +kernel
theorem dX6_end_168 : decode cX6_end 168 = .ok (.aload_n 0, 1) := by decide +kernel
theorem dX6_end_169 : decode cX6_end 169 = .ok (.getfield 7, 3) := by decide +kernel
theorem dX6_end_172 : decode cX6_end 172 = .ok (.iload_n 3, 1) := by decide +kernel
theorem dX6_end_173 : decode cX6_end 173 = .ok (.bipush 9, 2) := by decide +kernel
theorem dX6_end_175 : decode cX6_end 175 = .ok (.iadd, 1) := by decide +kernel
theorem dX6_end_176 : decode cX6_end 176 = .ok (.iaload, 1) := by decide +kernel
theorem dX6_end_177 : decode cX6_end 177 = .ok (.ireturn, 1) := by decide +kernel
theorem dX6_end_178 : decode cX6_end 178 = .ok (.aload_n 0, 1) := by decide +kernel
theorem dX6_end_179 : decode cX6_end 179 = .ok (.getfield 7, 3) := by decide +kernel
theorem dX6_end_182 : decode cX6_end 182 = .ok (.iload_n 3, 1) := by decide +kernel
theorem dX6_end_183 : decode cX6_end 183 = .ok (.bipush 10, 2) := by decide +kernel
theorem dX6_end_185 : decode cX6_end 185 = .ok (.iadd, 1) := by decide +kernel
theorem dX6_end_186 : decode cX6_end 186 = .ok (.iaload, 1) := by decide +kernel
theorem dX6_end_187 : decode cX6_end 187 = .ok (.ireturn, 1) := by decide +kernel
theorem dX6_end_188 : decode cX6_end 188 = .ok (.aload_n 0, 1) := by decide +kernel
theorem dX6_end_189 : decode cX6_end 189 = .ok (.getfield 7, 3) := by decide +kernel
theorem dX6_end_192 : decode cX6_end 192 = .ok (.iload_n 3, 1) := by decide +kernel
theorem dX6_end_193 : decode cX6_end 193 = .ok (.iconst 0, 1) := by decide +kernel
theorem dX6_end_194 : decode cX6_end 194 = .ok (.iadd, 1) := by decide +kernel
theorem dX6_end_195 : decode cX6_end 195 = .ok (.iaload, 1) := by decide +kernel
theorem dX6_end_196 : decode cX6_end 196 = .ok (.ireturn, 1) := by decide +kernel
theorem dX6_end_197 : decode cX6_end 197 = .ok (.aload_n 0, 1) := by decide +kernel
theorem dX6_end_198 : decode cX6_end 198 = .ok (.getfield 7, 3) := by decide +kernel
theorem dX6_end_201 : decode cX6_end 201 = .ok (.iload_n 3, 1) := by decide +kernel
theorem dX6_end_202 : decode cX6_end 202 = .ok (.bipush 11, 2) := by decide +kernel
theorem dX6_end_204 : decode cX6_end 204 = .ok (.iadd, 1) := by decide +kernel
theorem dX6_end_205 : decode cX6_end 205 = .ok (.iaload, 1) := by decide +kernel
theorem dX6_end_206 : decode cX6_end 206 = .ok (.ireturn, 1) := by decide +kernel
theorem dX6_end_207 : decode cX6_end 207 = .ok (.aload_n 0, 1) := by decide +kernel
theorem dX6_end_208 : decode cX6_end 208 = .ok (.getfield 7, 3) := by decide +kernel
theorem dX6_end_211 : decode cX6_end 211 = .ok (.iload_n 3, 1) := by decide +kernel
theorem dX6_end_212 : decode cX6_end 212 = .ok (.bipush 13, 2) := by decide +kernel
theorem dX6_end_214 : decode cX6_end 214 = .ok (.iadd, 1) := by decide +kernel
theorem dX6_end_215 : decode cX6_end 215 = .ok (.iaload, 1) := by decide +kernel
theorem dX6_end_216 : decode cX6_end 216 = .ok (.ireturn, 1) := by decide +kernel
theorem dX6_end_217 : decode cX6_end 217 = .ok (.iconst (-1), 1) := by decide +kernel
theorem dX6_end_218 : decode cX6_end 218 = .ok (.ireturn, 1) := by decide +kernel
theorem dX6_upMany_0 : decode cX6_upMany 0 = .ok (.aload_n 0, 1) := by decide +kernel
theorem dX6_upMany_1 : decode cX6_upMany 1 = .ok (.getfield 7, 3) := by decide +kernel
theorem dX6_upMany_4 : decode cX6_upMany 4 = .ok (.iload_n 1, 1) := by decide +kernel
theorem dX6_upMany_5 : decode cX6_upMany 5 = .ok (.invokestatic 20, 3) := by decide +kernel
theorem dX6_upMany_8 : decode cX6_upMany 8 = .ok (.bipush 11, 2) := by decide +kernel
theorem dX6_upMany_10 : decode cX6_upMany 10 = .ok (.iadd, 1) := by decide +kernel
theorem dX6_upMany_11 : decode cX6_upMany 11 = .ok (.iaload, 1) := by decide +kernel
theorem dX6_upMany_12 : decode cX6_upMany 12 = .ok (.bipush 60, 2) := by decide +kernel
theorem dX6_upMany_14 : decode cX6_upMany 14 = .ok (.if_icmp .ge 18, 3) := by decide +kernel
theorem dX6_upMany_17 : decode cX6_upMany 17 = .ok (.aload_n 0, 1) := by decide +kernel
theorem dX6_upMany_18 : decode cX6_upMany 18 = .ok (.getfield 7, 3) := by decide +kernel
theorem dX6_upMany_21 : decode cX6_upMany 21 = .ok (.iload_n 1, 1) := by decide +kernel
theorem dX6_upMany_22 : decode cX6_upMany 22 = .ok (.invokestatic 20, 3) := by decide +kernel
theorem dX6_upMany_25 : decode cX6_upMany 25 = .ok (.bipush 11, 2) := by decide +kernel
theorem dX6_upMany_27 : decode cX6_upMany 27 = .ok (.iadd, 1) := by decide +kernel
theorem dX6_upMany_28 : decode cX6_upMany 28 = .ok (.iaload, 1) := by decide +kernel
theorem dX6_upMany_29 : decode cX6_upMany 29 = .ok (.goto 5, 3) := by decide +kernel
theorem dX6_upMany_32 : decode cX6_upMany 32 = .ok (.bipush 60, 2) := by decide +kernel
theorem dX6_upMany_34 : decode cX6_upMany 34 = .ok (.ireturn, 1) := by decide +kernel
theorem dX6_up_0 : decode cX6_up 0 = .ok (.iload_n 1, 1) := by decide +kernel
theorem dX6_up_1 : decode cX6_up 1 = .ok (.invokestatic 39, 3) := by decide +kernel
theorem dX6_up_4 : decode cX6_up 4 = .ok (.ifCond .eq 7, 3) := by decide +kernel
theorem dX6_up_7 : decode cX6_up 7 = .ok (.iload_n 2, 1) := by decide +kernel
theorem dX6_up_8 : decode cX6_up 8 = .ok (.ifCond .ge 5, 3) := by decide +kernel
theorem dX6_up_11 : decode cX6_up 11 = .ok (.iconst (-1), 1) := by decide +kernel
theorem dX6_up_12 : decode cX6_up 12 = .ok (.ireturn, 1) := by decide +kernel
theorem dX6_up_13 : decode cX6_up 13 = .ok (.iload_n 2, 1) := by decide +kernel
theorem dX6_up_14 : decode cX6_up 14 = .ok (.aload_n 0, 1) := by decide +kernel
theorem dX6_up_15 : decode cX6_up 15 = .ok (.iload_n 1, 1) := by decide +kernel
theorem dX6_up_16 : decode cX6_up 16 = .ok (.invokevirtual 170, 3) := by decide +kernel
theorem dX6_up_19 : decode cX6_up 19 = .ok (.if_icmp .ge 16, 3) := by decide +kernel
theorem dX6_up_22 : decode cX6_up 22 = .ok (.aload_n 0, 1) := by decide +kernel
theorem dX6_up_23 : decode cX6_up 23 = .ok (.getfield 7, 3) := by decide +kernel
theorem dX6_up_26 : decode cX6_up 26 = .ok (.iload_n 1, 1) := by decide +kernel
theorem dX6_up_27 : decode cX6_up 27 = .ok (.iload_n 2, 1) := by decide +kernel
theorem dX6_up_28 : decode cX6_up 28 = .ok (.invokestatic 116, 3) := by decide +kernel
theorem dX6_up_31 : decode cX6_up 31 = .ok (.iaload, 1) := by decide +kernel
theorem dX6_up_32 : decode cX6_up 32 = .ok (.goto 5, 3) := by decide +kernel
theorem dX6_up_35 : decode cX6_up 35 = .ok (.bipush (-4), 2) := by decide +kernel
theorem dX6_up_37 : decode cX6_up 37 = .ok (.ireturn, 1) := by decide +kernel
theorem dX6_upByte_0 : decode cX6_upByte 0 = .ok (.iload_n 1, 1) := by decide +kernel
theorem dX6_upByte_1 : decode cX6_upByte 1 = .ok (.invokestatic 39, 3) := by decide +kernel
theorem dX6_upByte_4 : decode cX6_upByte 4 = .ok (.ifCond .eq 11, 3) := by decide +kernel
theorem dX6_upByte_7 : decode cX6_upByte 7 = .ok (.iload_n 2, 1) := by decide +kernel
theorem dX6_upByte_8 : decode cX6_upByte 8 = .ok (.ifCond .lt 7, 3) := by decide +kernel
theorem dX6_upByte_11 : decode cX6_upByte 11 = .ok (.iload_n 3, 1) := by decide +kernel
theorem dX6_upByte_12 : decode cX6_upByte 12 = .ok (.ifCond .ge 5, 3) := by decide +kernel
theorem dX6_upByte_15 : decode cX6_upByte 15 = .ok (.iconst (-1), 1) := by decide +kernel
theorem dX6_upByte_16 : decode cX6_upByte 16 = .ok (.ireturn, 1) := by decide +kernel
theorem dX6_upByte_17 : decode cX6_upByte 17 = .ok (.iload_n 2, 1) := by decide +kernel
theorem dX6_upByte_18 : decode cX6_upByte 18 = .ok (.aload_n 0, 1) := by decide +kernel
theorem dX6_upByte_19 : decode cX6_upByte 19 = .ok (.iload_n 1, 1) := by decide +kernel
theorem dX6_upByte_20 : decode cX6_upByte 20 = .ok (.invokevirtual 170, 3) := by decide +kernel
theorem dX6_upByte_23 : decode cX6_upByte 23 = .ok (.if_icmp .ge 34, 3) := by decide +kernel
theorem dX6_upByte_26 : decode cX6_upByte 26 = .ok (.iload_n 3, 1) := by decide +kernel
theorem dX6_upByte_27 : decode cX6_upByte 27 = .ok (.aload_n 0, 1) := by decide +kernel
theorem dX6_upByte_28 : decode cX6_upByte 28 = .ok (.getfield 7, 3) := by decide +kernel
theorem dX6_upByte_31 : decode cX6_upByte 31 = .ok (.iload_n 1, 1) := by decide +kernel
theorem dX6_upByte_32 : decode cX6_upByte 32 = .ok (.iload_n 2, 1) := by decide +kernel
theorem dX6_upByte_33 : decode cX6_upByte 33 = .ok (.invokestatic 116, 3) := by decide +kernel
theorem dX6_upByte_36 : decode cX6_upByte 36 = .ok (.iaload, 1) := by decide +kernel
theorem dX6_upByte_37 : decode cX6_upByte 37 = .ok (.if_icmp .ge 20, 3) := by decide +kernel
theorem dX6_upByte_40 : decode cX6_upByte 40 = .ok (.aload_n 0, 1) := by decide +kernel
theorem dX6_upByte_41 : decode cX6_upByte 41 = .ok (.getfield 7, 3) := by decide +kernel
theorem dX6_upByte_44 : decode cX6_upByte 44 = .ok (.iload_n 1, 1) := by decide +kernel
theorem dX6_upByte_45 : decode cX6_upByte 45 = .ok (.iload_n 2, 1) := by decide +kernel
theorem dX6_upByte_46 : decode cX6_upByte 46 = .ok (.invokestatic 116, 3) := by decide +kernel
theorem dX6_upByte_49 : decode cX6_upByte 49 = .ok (.iconst 1, 1) := by decide +kernel
theorem dX6_upByte_50 : decode cX6_upByte 50 = .ok (.iadd, 1) := by decide +kernel
theorem dX6_upByte_51 : decode cX6_upByte 51 = .ok (.iload_n 3, 1) := by decide +kernel
theorem dX6_upByte_52 : decode cX6_upByte 52 = .ok (.iadd, 1) := by decide +kernel
theorem dX6_upByte_53 : decode cX6_upByte 53 = .ok (.iaload, 1) := by decide +kernel
theorem dX6_upByte_54 : decode cX6_upByte 54 = .ok (.goto 5, 3) := by decide +kernel
theorem dX6_upByte_57 : decode cX6_upByte 57 = .ok (.bipush (-4), 2) := by decide +kernel
theorem dX6_upByte_59 : decode cX6_upByte 59 = .ok (.ireturn, 1) := by decide +kernel
theorem dX6_count_0 : decode cX6_count 0 = .ok (.iload_n 1, 1) := by decide +kernel
theorem dX6_count_1 : decode cX6_count 1 = .ok (.i2l, 1) := by decide +kernel
theorem dX6_count_2 : decode cX6_count 2 = .ok (.lconst 0, 1) := by decide +kernel
theorem dX6_count_3 : decode cX6_count 3 = .ok (.ldc2_w 173, 3) := by decide +kernel
theorem dX6_count_6 : decode cX6_count 6 = .ok (.invokestatic 45, 3) := by decide +kernel
theorem dX6_count_9 : decode cX6_count 9 = .ok (.ifCond .ne 5, 3) := by decide +kernel
theorem dX6_count_12 : decode cX6_count 12 = .ok (.iconst (-1), 1) := by decide +kernel
theorem dX6_count_13 : decode cX6_count 13 = .ok (.ireturn, 1) := by decide +kernel
theorem dX6_count_14 : decode cX6_count 14 = .ok (.iload_n 1, 1) := by decide +kernel
theorem dX6_count_15 : decode cX6_count 15 = .ok (.iconst 4, 1) := by decide +kernel
theorem dX6_count_16 : decode cX6_count 16 = .ok (.if_icmp .ge 12, 3) := by decide +kernel
theorem dX6_count_19 : decode cX6_count 19 = .ok (.aload_n 0, 1) := by decide +kernel
theorem dX6_count_20 : decode cX6_count 20 = .ok (.getfield 7, 3) := by decide +kernel
theorem dX6_count_23 : decode cX6_count 23 = .ok (.iconst 3, 1) := by decide +kernel
theorem dX6_count_24 : decode cX6_count 24 = .ok (.iload_n 1, 1) := by decide +kernel
theorem dX6_count_25 : decode cX6_count 25 = .ok (.iadd, 1) := by decide +kernel
theorem dX6_count_26 : decode cX6_count 26 = .ok (.iaload, 1) := by decide +kernel
theorem dX6_count_27 : decode cX6_count 27 = .ok (.ireturn, 1) := by decide +kernel
theorem dX6_count_28 : decode cX6_count 28 = .ok (.iload_n 1, 1) := by decide +kernel
theorem dX6_count_29 : decode cX6_count 29 = .ok (.bipush 9, 2) := by decide +kernel
theorem dX6_count_31 : decode cX6_count 31 = .ok (.if_icmp .ge 15, 3) := by decide +kernel
theorem dX6_count_34 : decode cX6_count 34 = .ok (.aload_n 0, 1) := by decide +kernel
theorem dX6_count_35 : decode cX6_count 35 = .ok (.getfield 7, 3) := by decide +kernel
theorem dX6_count_38 : decode cX6_count 38 = .ok (.bipush 7, 2) := by decide +kernel
theorem dX6_count_40 : decode cX6_count 40 = .ok (.iload_n 1, 1) := by decide +kernel
theorem dX6_count_41 : decode cX6_count 41 = .ok (.iadd, 1) := by decide +kernel
theorem dX6_count_42 : decode cX6_count 42 = .ok (.iconst 4, 1) := by decide +kernel
theorem dX6_count_43 : decode cX6_count 43 = .ok (.isub, 1) := by decide +kernel
theorem dX6_count_44 : decode cX6_count 44 = .ok (.iaload, 1) := by decide +kernel
theorem dX6_count_45 : decode cX6_count 45 = .ok (.ireturn, 1) := by decide +kernel
theorem dX6_count_46 : decode cX6_count 46 = .ok (.iload_n 1, 1) := by decide +kernel
theorem dX6_count_47 : decode cX6_count 47 = .ok (.bipush 17, 2) := by decide +kernel
theorem dX6_count_49 : decode cX6_count 49 = .ok (.if_icmp .ge 18, 3) := by decide +kernel
theorem dX6_count_52 : decode cX6_count 52 = .ok (.aload_n 0, 1) := by decide +kernel
theorem dX6_count_53 : decode cX6_count 53 = .ok (.getfield 7, 3) := by decide +kernel
theorem dX6_count_56 : decode cX6_count 56 = .ok (.bipush 24, 2) := by decide +kernel
theorem dX6_count_58 : decode cX6_count 58 = .ok (.iload_n 1, 1) := by decide +kernel
theorem dX6_count_59 : decode cX6_count 59 = .ok (.iadd, 1) := by decide +kernel
theorem dX6_count_60 : decode cX6_count 60 = .ok (.bipush 9, 2) := by decide +kernel
theorem dX6_count_62 : decode cX6_count 62 = .ok (.isub, 1) := by decide +kernel
theorem dX6_count_63 : decode cX6_count 63 = .ok (.iaload, 1) := by decide +kernel
theorem dX6_count_64 : decode cX6_count 64 = .ok (.goto 15, 3) := by decide +kernel
theorem dX6_count_67 : decode cX6_count 67 = .ok (.aload_n 0, 1) := by decide +kernel
theorem dX6_count_68 : decode cX6_count 68 = .ok (.invokevirtual 160, 3) := by decide +kernel
theorem dX6_count_71 : decode cX6_count 71 = .ok (.ifCond .eq 7, 3) := by decide +kernel
theorem dX6_count_74 : decode cX6_count 74 = .ok (.iconst 1, 1) := by decide +kernel
theorem dX6_count_75 : decode cX6_count 75 = .ok (.goto 4, 3) := by decide +kernel
theorem dX6_count_78 : decode cX6_count 78 = .ok (.iconst 0, 1) := by decide +kernel
theorem dX6_count_79 : decode cX6_count 79 = .ok (.ireturn, 1) := by decide +kernel
theorem dX6_keep_0 : decode cX6_keep 0 = .ok (.iload_n 1, 1) := by decide +kernel
theorem dX6_keep_1 : decode cX6_keep 1 = .ok (.invokestatic 39, 3) := by decide +kernel
theorem dX6_keep_4 : decode cX6_keep 4 = .ok (.ifCond .ne 5, 3) := by decide +kernel
theorem dX6_keep_7 : decode cX6_keep 7 = .ok (.iconst (-1), 1) := by decide +kernel
theorem dX6_keep_8 : decode cX6_keep 8 = .ok (.ireturn, 1) := by decide +kernel
theorem dX6_keep_9 : decode cX6_keep 9 = .ok (.aload_n 0, 1) := by decide +kernel
theorem dX6_keep_10 : decode cX6_keep 10 = .ok (.getfield 16, 3) := by decide +kernel
theorem dX6_keep_13 : decode cX6_keep 13 = .ok (.iload_n 1, 1) := by decide +kernel
theorem dX6_keep_14 : decode cX6_keep 14 = .ok (.baload, 1) := by decide +kernel
theorem dX6_keep_15 : decode cX6_keep 15 = .ok (.ifCond .eq 7, 3) := by decide +kernel
theorem dX6_keep_18 : decode cX6_keep 18 = .ok (.iconst 1, 1) := by decide +kernel
theorem dX6_keep_19 : decode cX6_keep 19 = .ok (.goto 4, 3) := by decide +kernel
theorem dX6_keep_22 : decode cX6_keep 22 = .ok (.iconst 0, 1) := by decide +kernel
theorem dX6_keep_23 : decode cX6_keep 23 = .ok (.istore_n 2, 1) := by decide +kernel
theorem dX6_keep_24 : decode cX6_keep 24 = .ok (.iconst 0, 1) := by decide +kernel
theorem dX6_keep_25 : decode cX6_keep 25 = .ok (.istore_n 3, 1) := by decide +kernel
theorem dX6_keep_26 : decode cX6_keep 26 = .ok (.iload_n 3, 1) := by decide +kernel
theorem dX6_keep_27 : decode cX6_keep 27 = .ok (.sipush 8000, 3) := by decide +kernel
theorem dX6_keep_30 : decode cX6_keep 30 = .ok (.if_icmp .ge 27, 3) := by decide +kernel
theorem dX6_keep_33 : decode cX6_keep 33 = .ok (.aload_n 0, 1) := by decide +kernel
theorem dX6_keep_34 : decode cX6_keep 34 = .ok (.getfield 13, 3) := by decide +kernel
theorem dX6_keep_37 : decode cX6_keep 37 = .ok (.sipush 8000, 3) := by decide +kernel
theorem dX6_keep_40 : decode cX6_keep 40 = .ok (.iload_n 1, 1) := by decide +kernel
theorem dX6_keep_41 : decode cX6_keep 41 = .ok (.imul, 1) := by decide +kernel
theorem dX6_keep_42 : decode cX6_keep 42 = .ok (.iload_n 3, 1) := by decide +kernel
theorem dX6_keep_43 : decode cX6_keep 43 = .ok (.iadd, 1) := by decide +kernel
theorem dX6_keep_44 : decode cX6_keep 44 = .ok (.aload_n 0, 1) := by decide +kernel
theorem dX6_keep_45 : decode cX6_keep 45 = .ok (.getfield 7, 3) := by decide +kernel
theorem dX6_keep_48 : decode cX6_keep 48 = .ok (.iload_n 3, 1) := by decide +kernel
theorem dX6_keep_49 : decode cX6_keep 49 = .ok (.iaload, 1) := by decide +kernel
theorem dX6_keep_50 : decode cX6_keep 50 = .ok (.iastore, 1) := by decide +kernel
theorem dX6_keep_51 : decode cX6_keep 51 = .ok (.iinc 3 1, 3) := by decide +kernel
theorem dX6_keep_54 : decode cX6_keep 54 = .ok (.goto (-28), 3) := by decide +kernel
theorem dX6_keep_57 : decode cX6_keep 57 = .ok (.aload_n 0, 1) := by decide +kernel
theorem dX6_keep_58 : decode cX6_keep 58 = .ok (.getfield 16, 3) := by decide +kernel
theorem dX6_keep_61 : decode cX6_keep 61 = .ok (.iload_n 1, 1) := by decide +kernel
theorem dX6_keep_62 : decode cX6_keep 62 = .ok (.iconst 1, 1) := by decide +kernel
theorem dX6_keep_63 : decode cX6_keep 63 = .ok (.bastore, 1) := by decide +kernel
theorem dX6_keep_64 : decode cX6_keep 64 = .ok (.iload_n 2, 1) := by decide +kernel
theorem dX6_keep_65 : decode cX6_keep 65 = .ok (.ireturn, 1) := by decide +kernel
theorem dX6_again_0 : decode cX6_again 0 = .ok (.iload_n 1, 1) := by decide +kernel
theorem dX6_again_1 : decode cX6_again 1 = .ok (.invokestatic 39, 3) := by decide +kernel
theorem dX6_again_4 : decode cX6_again 4 = .ok (.ifCond .ne 5, 3) := by decide +kernel
theorem dX6_again_7 : decode cX6_again 7 = .ok (.iconst (-1), 1) := by decide +kernel
theorem dX6_again_8 : decode cX6_again 8 = .ok (.ireturn, 1) := by decide +kernel
theorem dX6_again_9 : decode cX6_again 9 = .ok (.aload_n 0, 1) := by decide +kernel
theorem dX6_again_10 : decode cX6_again 10 = .ok (.getfield 16, 3) := by decide +kernel
theorem dX6_again_13 : decode cX6_again 13 = .ok (.iload_n 1, 1) := by decide +kernel
theorem dX6_again_14 : decode cX6_again 14 = .ok (.baload, 1) := by decide +kernel
theorem dX6_again_15 : decode cX6_again 15 = .ok (.ifCond .ne 6, 3) := by decide +kernel
theorem dX6_again_18 : decode cX6_again 18 = .ok (.bipush (-2), 2) := by decide +kernel
theorem dX6_again_20 : decode cX6_again 20 = .ok (.ireturn, 1) := by decide +kernel
theorem dX6_again_21 : decode cX6_again 21 = .ok (.iconst 0, 1) := by decide +kernel
theorem dX6_again_22 : decode cX6_again 22 = .ok (.istore_n 2, 1) := by decide +kernel
theorem dX6_again_23 : decode cX6_again 23 = .ok (.iload_n 2, 1) := by decide +kernel
theorem dX6_again_24 : decode cX6_again 24 = .ok (.sipush 8000, 3) := by decide +kernel
theorem dX6_again_27 : decode cX6_again 27 = .ok (.if_icmp .ge 27, 3) := by decide +kernel
theorem dX6_again_30 : decode cX6_again 30 = .ok (.aload_n 0, 1) := by decide +kernel
theorem dX6_again_31 : decode cX6_again 31 = .ok (.getfield 7, 3) := by decide +kernel
theorem dX6_again_34 : decode cX6_again 34 = .ok (.iload_n 2, 1) := by decide +kernel
theorem dX6_again_35 : decode cX6_again 35 = .ok (.aload_n 0, 1) := by decide +kernel
theorem dX6_again_36 : decode cX6_again 36 = .ok (.getfield 13, 3) := by decide +kernel
theorem dX6_again_39 : decode cX6_again 39 = .ok (.sipush 8000, 3) := by decide +kernel
theorem dX6_again_42 : decode cX6_again 42 = .ok (.iload_n 1, 1) := by decide +kernel
theorem dX6_again_43 : decode cX6_again 43 = .ok (.imul, 1) := by decide +kernel
theorem dX6_again_44 : decode cX6_again 44 = .ok (.iload_n 2, 1) := by decide +kernel
theorem dX6_again_45 : decode cX6_again 45 = .ok (.iadd, 1) := by decide +kernel
theorem dX6_again_46 : decode cX6_again 46 = .ok (.iaload, 1) := by decide +kernel
theorem dX6_again_47 : decode cX6_again 47 = .ok (.iastore, 1) := by decide +kernel
theorem dX6_again_48 : decode cX6_again 48 = .ok (.iinc 2 1, 3) := by decide +kernel
theorem dX6_again_51 : decode cX6_again 51 = .ok (.goto (-28), 3) := by decide +kernel
theorem dX6_again_54 : decode cX6_again 54 = .ok (.aload_n 0, 1) := by decide +kernel
theorem dX6_again_55 : decode cX6_again 55 = .ok (.getfield 7, 3) := by decide +kernel
theorem dX6_again_58 : decode cX6_again 58 = .ok (.iconst 3, 1) := by decide +kernel
theorem dX6_again_59 : decode cX6_again 59 = .ok (.iaload, 1) := by decide +kernel
theorem dX6_again_60 : decode cX6_again 60 = .ok (.ireturn, 1) := by decide +kernel
theorem dJ9_min_7cf53_0 : decode cJ9_min_7cf53 0 = .ok (.iload_n 0, 1) := by decide +kernel
theorem dJ9_min_7cf53_1 : decode cJ9_min_7cf53 1 = .ok (.iload_n 1, 1) := by decide +kernel
theorem dJ9_min_7cf53_2 : decode cJ9_min_7cf53 2 = .ok (.if_icmp .gt 7, 3) := by decide +kernel
theorem dJ9_min_7cf53_5 : decode cJ9_min_7cf53 5 = .ok (.iload_n 0, 1) := by decide +kernel
theorem dJ9_min_7cf53_6 : decode cJ9_min_7cf53 6 = .ok (.goto 4, 3) := by decide +kernel
theorem dJ9_min_7cf53_9 : decode cJ9_min_7cf53 9 = .ok (.iload_n 1, 1) := by decide +kernel
theorem dJ9_min_7cf53_10 : decode cJ9_min_7cf53 10 = .ok (.ireturn, 1) := by decide +kernel
theorem dL_law_0 : decode cL_law 0 = .ok (.new 7, 3) := by decide +kernel
theorem dL_law_3 : decode cL_law 3 = .ok (.dup, 1) := by decide +kernel
theorem dL_law_4 : decode cL_law 4 = .ok (.invokespecial 9, 3) := by decide +kernel
theorem dL_law_7 : decode cL_law 7 = .ok (.astore_n 1, 1) := by decide +kernel
theorem dL_law_8 : decode cL_law 8 = .ok (.new 10, 3) := by decide +kernel
theorem dL_law_11 : decode cL_law 11 = .ok (.dup, 1) := by decide +kernel
theorem dL_law_12 : decode cL_law 12 = .ok (.invokespecial 12, 3) := by decide +kernel
theorem dL_law_15 : decode cL_law 15 = .ok (.astore_n 2, 1) := by decide +kernel
theorem dL_law_16 : decode cL_law 16 = .ok (.iconst 0, 1) := by decide +kernel
theorem dL_law_17 : decode cL_law 17 = .ok (.istore_n 3, 1) := by decide +kernel
theorem dL_law_18 : decode cL_law 18 = .ok (.iload_n 3, 1) := by decide +kernel
theorem dL_law_19 : decode cL_law 19 = .ok (.aload_n 0, 1) := by decide +kernel
theorem dL_law_20 : decode cL_law 20 = .ok (.arraylength, 1) := by decide +kernel
theorem dL_law_21 : decode cL_law 21 = .ok (.iconst 5, 1) := by decide +kernel
theorem dL_law_22 : decode cL_law 22 = .ok (.isub, 1) := by decide +kernel
theorem dL_law_23 : decode cL_law 23 = .ok (.if_icmp .gt 671, 3) := by decide +kernel
theorem dL_law_26 : decode cL_law 26 = .ok (.aload_n 0, 1) := by decide +kernel
theorem dL_law_27 : decode cL_law 27 = .ok (.iload_n 3, 1) := by decide +kernel
theorem dL_law_28 : decode cL_law 28 = .ok (.iaload, 1) := by decide +kernel
theorem dL_law_29 : decode cL_law 29 = .ok (.bipush 31, 2) := by decide +kernel
theorem dL_law_31 : decode cL_law 31 = .ok (.iand, 1) := by decide +kernel
theorem dL_law_32 : decode cL_law 32 = .ok (.tableswitch 656 0 16 #[84, 157, 180, 214, 247, 270, 293, 316, 369, 402, 435, 478, 511, 544, 587, 610, 633], 84) := by decide +kernel
theorem dL_law_116 : decode cL_law 116 = .ok (.aload_n 1, 1) := by decide +kernel
theorem dL_law_117 : decode cL_law 117 = .ok (.aload_n 0, 1) := by decide +kernel
theorem dL_law_118 : decode cL_law 118 = .ok (.iload_n 3, 1) := by decide +kernel
theorem dL_law_119 : decode cL_law 119 = .ok (.iconst 1, 1) := by decide +kernel
theorem dL_law_120 : decode cL_law 120 = .ok (.iadd, 1) := by decide +kernel
theorem dL_law_121 : decode cL_law 121 = .ok (.iaload, 1) := by decide +kernel
theorem dL_law_122 : decode cL_law 122 = .ok (.aload_n 0, 1) := by decide +kernel
theorem dL_law_123 : decode cL_law 123 = .ok (.iload_n 3, 1) := by decide +kernel
theorem dL_law_124 : decode cL_law 124 = .ok (.iconst 2, 1) := by decide +kernel
theorem dL_law_125 : decode cL_law 125 = .ok (.iadd, 1) := by decide +kernel
theorem dL_law_126 : decode cL_law 126 = .ok (.iaload, 1) := by decide +kernel
theorem dL_law_127 : decode cL_law 127 = .ok (.aload_n 0, 1) := by decide +kernel
theorem dL_law_128 : decode cL_law 128 = .ok (.iload_n 3, 1) := by decide +kernel
theorem dL_law_129 : decode cL_law 129 = .ok (.iconst 3, 1) := by decide +kernel
theorem dL_law_130 : decode cL_law 130 = .ok (.iadd, 1) := by decide +kernel
theorem dL_law_131 : decode cL_law 131 = .ok (.iaload, 1) := by decide +kernel
theorem dL_law_132 : decode cL_law 132 = .ok (.i2l, 1) := by decide +kernel
theorem dL_law_133 : decode cL_law 133 = .ok (.bipush 32, 2) := by decide +kernel
theorem dL_law_135 : decode cL_law 135 = .ok (.lshl, 1) := by decide +kernel
theorem dL_law_136 : decode cL_law 136 = .ok (.aload_n 0, 1) := by decide +kernel
theorem dL_law_137 : decode cL_law 137 = .ok (.iload_n 3, 1) := by decide +kernel
theorem dL_law_138 : decode cL_law 138 = .ok (.iconst 4, 1) := by decide +kernel
theorem dL_law_139 : decode cL_law 139 = .ok (.iadd, 1) := by decide +kernel
theorem dL_law_140 : decode cL_law 140 = .ok (.iaload, 1) := by decide +kernel
theorem dL_law_141 : decode cL_law 141 = .ok (.i2l, 1) := by decide +kernel
theorem dL_law_142 : decode cL_law 142 = .ok (.ldc2_w 13, 3) := by decide +kernel
theorem dL_law_145 : decode cL_law 145 = .ok (.land, 1) := by decide +kernel
theorem dL_law_146 : decode cL_law 146 = .ok (.lor, 1) := by decide +kernel
theorem dL_law_147 : decode cL_law 147 = .ok (.invokevirtual 15, 3) := by decide +kernel
theorem dL_law_150 : decode cL_law 150 = .ok (.aload_n 2, 1) := by decide +kernel
theorem dL_law_151 : decode cL_law 151 = .ok (.aload_n 0, 1) := by decide +kernel
theorem dL_law_152 : decode cL_law 152 = .ok (.iload_n 3, 1) := by decide +kernel
theorem dL_law_153 : decode cL_law 153 = .ok (.iconst 1, 1) := by decide +kernel
theorem dL_law_154 : decode cL_law 154 = .ok (.iadd, 1) := by decide +kernel
theorem dL_law_155 : decode cL_law 155 = .ok (.iaload, 1) := by decide +kernel
theorem dL_law_156 : decode cL_law 156 = .ok (.aload_n 0, 1) := by decide +kernel
theorem dL_law_157 : decode cL_law 157 = .ok (.iload_n 3, 1) := by decide +kernel
theorem dL_law_158 : decode cL_law 158 = .ok (.iconst 2, 1) := by decide +kernel
theorem dL_law_159 : decode cL_law 159 = .ok (.iadd, 1) := by decide +kernel
theorem dL_law_160 : decode cL_law 160 = .ok (.iaload, 1) := by decide +kernel
theorem dL_law_161 : decode cL_law 161 = .ok (.aload_n 0, 1) := by decide +kernel
theorem dL_law_162 : decode cL_law 162 = .ok (.iload_n 3, 1) := by decide +kernel
theorem dL_law_163 : decode cL_law 163 = .ok (.iconst 3, 1) := by decide +kernel
theorem dL_law_164 : decode cL_law 164 = .ok (.iadd, 1) := by decide +kernel
theorem dL_law_165 : decode cL_law 165 = .ok (.iaload, 1) := by decide +kernel
theorem dL_law_166 : decode cL_law 166 = .ok (.i2l, 1) := by decide +kernel
theorem dL_law_167 : decode cL_law 167 = .ok (.bipush 32, 2) := by decide +kernel
theorem dL_law_169 : decode cL_law 169 = .ok (.lshl, 1) := by decide +kernel
theorem dL_law_170 : decode cL_law 170 = .ok (.aload_n 0, 1) := by decide +kernel
theorem dL_law_171 : decode cL_law 171 = .ok (.iload_n 3, 1) := by decide +kernel
theorem dL_law_172 : decode cL_law 172 = .ok (.iconst 4, 1) := by decide +kernel
theorem dL_law_173 : decode cL_law 173 = .ok (.iadd, 1) := by decide +kernel
theorem dL_law_174 : decode cL_law 174 = .ok (.iaload, 1) := by decide +kernel
theorem dL_law_175 : decode cL_law 175 = .ok (.i2l, 1) := by decide +kernel
theorem dL_law_176 : decode cL_law 176 = .ok (.ldc2_w 13, 3) := by decide +kernel
theorem dL_law_179 : decode cL_law 179 = .ok (.land, 1) := by decide +kernel
theorem dL_law_180 : decode cL_law 180 = .ok (.lor, 1) := by decide +kernel
theorem dL_law_181 : decode cL_law 181 = .ok (.invokevirtual 19, 3) := by decide +kernel
theorem dL_law_184 : decode cL_law 184 = .ok (.if_icmp .eq 504, 3) := by decide +kernel
theorem dL_law_187 : decode cL_law 187 = .ok (.iconst 0, 1) := by decide +kernel
theorem dL_law_188 : decode cL_law 188 = .ok (.ireturn, 1) := by decide +kernel
theorem dL_law_189 : decode cL_law 189 = .ok (.aload_n 1, 1) := by decide +kernel
theorem dL_law_190 : decode cL_law 190 = .ok (.aload_n 0, 1) := by decide +kernel
theorem dL_law_191 : decode cL_law 191 = .ok (.iload_n 3, 1) := by decide +kernel
theorem dL_law_192 : decode cL_law 192 = .ok (.iconst 1, 1) := by decide +kernel
theorem dL_law_193 : decode cL_law 193 = .ok (.iadd, 1) := by decide +kernel
theorem dL_law_194 : decode cL_law 194 = .ok (.iaload, 1) := by decide +kernel
theorem dL_law_195 : decode cL_law 195 = .ok (.invokevirtual 20, 3) := by decide +kernel
theorem dL_law_198 : decode cL_law 198 = .ok (.aload_n 2, 1) := by decide +kernel
theorem dL_law_199 : decode cL_law 199 = .ok (.aload_n 0, 1) := by decide +kernel
theorem dL_law_200 : decode cL_law 200 = .ok (.iload_n 3, 1) := by decide +kernel
theorem dL_law_201 : decode cL_law 201 = .ok (.iconst 1, 1) := by decide +kernel
theorem dL_law_202 : decode cL_law 202 = .ok (.iadd, 1) := by decide +kernel
theorem dL_law_203 : decode cL_law 203 = .ok (.iaload, 1) := by decide +kernel
theorem dL_law_204 : decode cL_law 204 = .ok (.invokevirtual 24, 3) := by decide +kernel
theorem dL_law_207 : decode cL_law 207 = .ok (.if_icmp .eq 481, 3) := by decide +kernel
theorem dL_law_210 : decode cL_law 210 = .ok (.iconst 0, 1) := by decide +kernel
theorem dL_law_211 : decode cL_law 211 = .ok (.ireturn, 1) := by decide +kernel
theorem dL_law_212 : decode cL_law 212 = .ok (.aload_n 1, 1) := by decide +kernel
theorem dL_law_213 : decode cL_law 213 = .ok (.aload_n 0, 1) := by decide +kernel
theorem dL_law_214 : decode cL_law 214 = .ok (.iload_n 3, 1) := by decide +kernel
theorem dL_law_215 : decode cL_law 215 = .ok (.iconst 1, 1) := by decide +kernel
theorem dL_law_216 : decode cL_law 216 = .ok (.iadd, 1) := by decide +kernel
theorem dL_law_217 : decode cL_law 217 = .ok (.iaload, 1) := by decide +kernel
theorem dL_law_218 : decode cL_law 218 = .ok (.aload_n 0, 1) := by decide +kernel
theorem dL_law_219 : decode cL_law 219 = .ok (.iload_n 3, 1) := by decide +kernel
theorem dL_law_220 : decode cL_law 220 = .ok (.iconst 2, 1) := by decide +kernel
theorem dL_law_221 : decode cL_law 221 = .ok (.iadd, 1) := by decide +kernel
theorem dL_law_222 : decode cL_law 222 = .ok (.iaload, 1) := by decide +kernel
theorem dL_law_223 : decode cL_law 223 = .ok (.invokevirtual 25, 3) := by decide +kernel
theorem dL_law_226 : decode cL_law 226 = .ok (.aload_n 2, 1) := by decide +kernel
theorem dL_law_227 : decode cL_law 227 = .ok (.aload_n 0, 1) := by decide +kernel
theorem dL_law_228 : decode cL_law 228 = .ok (.iload_n 3, 1) := by decide +kernel
theorem dL_law_229 : decode cL_law 229 = .ok (.iconst 1, 1) := by decide +kernel
theorem dL_law_230 : decode cL_law 230 = .ok (.iadd, 1) := by decide +kernel
theorem dL_law_231 : decode cL_law 231 = .ok (.iaload, 1) := by decide +kernel
theorem dL_law_232 : decode cL_law 232 = .ok (.aload_n 0, 1) := by decide +kernel
theorem dL_law_233 : decode cL_law 233 = .ok (.iload_n 3, 1) := by decide +kernel
theorem dL_law_234 : decode cL_law 234 = .ok (.iconst 2, 1) := by decide +kernel
theorem dL_law_235 : decode cL_law 235 = .ok (.iadd, 1) := by decide +kernel
theorem dL_law_236 : decode cL_law 236 = .ok (.iaload, 1) := by decide +kernel
theorem dL_law_237 : decode cL_law 237 = .ok (.invokevirtual 29, 3) := by decide +kernel
theorem dL_law_240 : decode cL_law 240 = .ok (.lcmp, 1) := by decide +kernel
theorem dL_law_241 : decode cL_law 241 = .ok (.ifCond .eq 447, 3) := by decide +kernel
theorem dL_law_244 : decode cL_law 244 = .ok (.iconst 0, 1) := by decide +kernel
theorem dL_law_245 : decode cL_law 245 = .ok (.ireturn, 1) := by decide +kernel
theorem dL_law_246 : decode cL_law 246 = .ok (.aload_n 1, 1) := by decide +kernel
theorem dL_law_247 : decode cL_law 247 = .ok (.aload_n 0, 1) := by decide +kernel
theorem dL_law_248 : decode cL_law 248 = .ok (.iload_n 3, 1) := by decide +kernel
theorem dL_law_249 : decode cL_law 249 = .ok (.iconst 1, 1) := by decide +kernel
theorem dL_law_250 : decode cL_law 250 = .ok (.iadd, 1) := by decide +kernel
theorem dL_law_251 : decode cL_law 251 = .ok (.iaload, 1) := by decide +kernel
theorem dL_law_252 : decode cL_law 252 = .ok (.aload_n 0, 1) := by decide +kernel
theorem dL_law_253 : decode cL_law 253 = .ok (.iload_n 3, 1) := by decide +kernel
theorem dL_law_254 : decode cL_law 254 = .ok (.iconst 2, 1) := by decide +kernel
theorem dL_law_255 : decode cL_law 255 = .ok (.iadd, 1) := by decide +kernel
theorem dL_law_256 : decode cL_law 256 = .ok (.iaload, 1) := by decide +kernel
theorem dL_law_257 : decode cL_law 257 = .ok (.invokevirtual 30, 3) := by decide +kernel
theorem dL_law_260 : decode cL_law 260 = .ok (.aload_n 2, 1) := by decide +kernel
theorem dL_law_261 : decode cL_law 261 = .ok (.aload_n 0, 1) := by decide +kernel
theorem dL_law_262 : decode cL_law 262 = .ok (.iload_n 3, 1) := by decide +kernel
theorem dL_law_263 : decode cL_law 263 = .ok (.iconst 1, 1) := by decide +kernel
theorem dL_law_264 : decode cL_law 264 = .ok (.iadd, 1) := by decide +kernel
theorem dL_law_265 : decode cL_law 265 = .ok (.iaload, 1) := by decide +kernel
theorem dL_law_266 : decode cL_law 266 = .ok (.aload_n 0, 1) := by decide +kernel
theorem dL_law_267 : decode cL_law 267 = .ok (.iload_n 3, 1) := by decide +kernel
theorem dL_law_268 : decode cL_law 268 = .ok (.iconst 2, 1) := by decide +kernel
theorem dL_law_269 : decode cL_law 269 = .ok (.iadd, 1) := by decide +kernel
theorem dL_law_270 : decode cL_law 270 = .ok (.iaload, 1) := by decide +kernel
theorem dL_law_271 : decode cL_law 271 = .ok (.invokevirtual 34, 3) := by decide +kernel
theorem dL_law_274 : decode cL_law 274 = .ok (.if_icmp .eq 414, 3) := by decide +kernel
theorem dL_law_277 : decode cL_law 277 = .ok (.iconst 0, 1) := by decide +kernel
theorem dL_law_278 : decode cL_law 278 = .ok (.ireturn, 1) := by decide +kernel
theorem dL_law_279 : decode cL_law 279 = .ok (.aload_n 1, 1) := by decide +kernel
theorem dL_law_280 : decode cL_law 280 = .ok (.aload_n 0, 1) := by decide +kernel
theorem dL_law_281 : decode cL_law 281 = .ok (.iload_n 3, 1) := by decide +kernel
theorem dL_law_282 : decode cL_law 282 = .ok (.iconst 1, 1) := by decide +kernel
theorem dL_law_283 : decode cL_law 283 = .ok (.iadd, 1) := by decide +kernel
theorem dL_law_284 : decode cL_law 284 = .ok (.iaload, 1) := by decide +kernel
theorem dL_law_285 : decode cL_law 285 = .ok (.invokevirtual 35, 3) := by decide +kernel
theorem dL_law_288 : decode cL_law 288 = .ok (.aload_n 2, 1) := by decide +kernel
theorem dL_law_289 : decode cL_law 289 = .ok (.aload_n 0, 1) := by decide +kernel
theorem dL_law_290 : decode cL_law 290 = .ok (.iload_n 3, 1) := by decide +kernel
theorem dL_law_291 : decode cL_law 291 = .ok (.iconst 1, 1) := by decide +kernel
theorem dL_law_292 : decode cL_law 292 = .ok (.iadd, 1) := by decide +kernel
theorem dL_law_293 : decode cL_law 293 = .ok (.iaload, 1) := by decide +kernel
theorem dL_law_294 : decode cL_law 294 = .ok (.invokevirtual 38, 3) := by decide +kernel
theorem dL_law_297 : decode cL_law 297 = .ok (.if_icmp .eq 391, 3) := by decide +kernel
theorem dL_law_300 : decode cL_law 300 = .ok (.iconst 0, 1) := by decide +kernel
theorem dL_law_301 : decode cL_law 301 = .ok (.ireturn, 1) := by decide +kernel
theorem dL_law_302 : decode cL_law 302 = .ok (.aload_n 1, 1) := by decide +kernel
theorem dL_law_303 : decode cL_law 303 = .ok (.aload_n 0, 1) := by decide +kernel
theorem dL_law_304 : decode cL_law 304 = .ok (.iload_n 3, 1) := by decide +kernel
theorem dL_law_305 : decode cL_law 305 = .ok (.iconst 1, 1) := by decide +kernel
theorem dL_law_306 : decode cL_law 306 = .ok (.iadd, 1) := by decide +kernel
theorem dL_law_307 : decode cL_law 307 = .ok (.iaload, 1) := by decide +kernel
theorem dL_law_308 : decode cL_law 308 = .ok (.invokevirtual 39, 3) := by decide +kernel
theorem dL_law_311 : decode cL_law 311 = .ok (.aload_n 2, 1) := by decide +kernel
theorem dL_law_312 : decode cL_law 312 = .ok (.aload_n 0, 1) := by decide +kernel
theorem dL_law_313 : decode cL_law 313 = .ok (.iload_n 3, 1) := by decide +kernel
theorem dL_law_314 : decode cL_law 314 = .ok (.iconst 1, 1) := by decide +kernel
theorem dL_law_315 : decode cL_law 315 = .ok (.iadd, 1) := by decide +kernel
theorem dL_law_316 : decode cL_law 316 = .ok (.iaload, 1) := by decide +kernel
theorem dL_law_317 : decode cL_law 317 = .ok (.invokevirtual 42, 3) := by decide +kernel
theorem dL_law_320 : decode cL_law 320 = .ok (.if_icmp .eq 368, 3) := by decide +kernel
theorem dL_law_323 : decode cL_law 323 = .ok (.iconst 0, 1) := by decide +kernel
theorem dL_law_324 : decode cL_law 324 = .ok (.ireturn, 1) := by decide +kernel
theorem dL_law_325 : decode cL_law 325 = .ok (.aload_n 1, 1) := by decide +kernel
theorem dL_law_326 : decode cL_law 326 = .ok (.aload_n 0, 1) := by decide +kernel
theorem dL_law_327 : decode cL_law 327 = .ok (.iload_n 3, 1) := by decide +kernel
theorem dL_law_328 : decode cL_law 328 = .ok (.iconst 1, 1) := by decide +kernel
theorem dL_law_329 : decode cL_law 329 = .ok (.iadd, 1) := by decide +kernel
theorem dL_law_330 : decode cL_law 330 = .ok (.iaload, 1) := by decide +kernel
theorem dL_law_331 : decode cL_law 331 = .ok (.invokevirtual 43, 3) := by decide +kernel
theorem dL_law_334 : decode cL_law 334 = .ok (.aload_n 2, 1) := by decide +kernel
theorem dL_law_335 : decode cL_law 335 = .ok (.aload_n 0, 1) := by decide +kernel
theorem dL_law_336 : decode cL_law 336 = .ok (.iload_n 3, 1) := by decide +kernel
theorem dL_law_337 : decode cL_law 337 = .ok (.iconst 1, 1) := by decide +kernel
theorem dL_law_338 : decode cL_law 338 = .ok (.iadd, 1) := by decide +kernel
theorem dL_law_339 : decode cL_law 339 = .ok (.iaload, 1) := by decide +kernel
theorem dL_law_340 : decode cL_law 340 = .ok (.invokevirtual 46, 3) := by decide +kernel
theorem dL_law_343 : decode cL_law 343 = .ok (.if_icmp .eq 345, 3) := by decide +kernel
theorem dL_law_346 : decode cL_law 346 = .ok (.iconst 0, 1) := by decide +kernel
theorem dL_law_347 : decode cL_law 347 = .ok (.ireturn, 1) := by decide +kernel
theorem dL_law_348 : decode cL_law 348 = .ok (.aload_n 1, 1) := by decide +kernel
theorem dL_law_349 : decode cL_law 349 = .ok (.aload_n 0, 1) := by decide +kernel
theorem dL_law_350 : decode cL_law 350 = .ok (.iload_n 3, 1) := by decide +kernel
theorem dL_law_351 : decode cL_law 351 = .ok (.iconst 1, 1) := by decide +kernel
theorem dL_law_352 : decode cL_law 352 = .ok (.iadd, 1) := by decide +kernel
theorem dL_law_353 : decode cL_law 353 = .ok (.iaload, 1) := by decide +kernel
theorem dL_law_354 : decode cL_law 354 = .ok (.aload_n 0, 1) := by decide +kernel
theorem dL_law_355 : decode cL_law 355 = .ok (.iload_n 3, 1) := by decide +kernel
theorem dL_law_356 : decode cL_law 356 = .ok (.iconst 2, 1) := by decide +kernel
theorem dL_law_357 : decode cL_law 357 = .ok (.iadd, 1) := by decide +kernel
theorem dL_law_358 : decode cL_law 358 = .ok (.iaload, 1) := by decide +kernel
theorem dL_law_359 : decode cL_law 359 = .ok (.aload_n 0, 1) := by decide +kernel
theorem dL_law_360 : decode cL_law 360 = .ok (.iload_n 3, 1) := by decide +kernel
theorem dL_law_361 : decode cL_law 361 = .ok (.iconst 3, 1) := by decide +kernel
theorem dL_law_362 : decode cL_law 362 = .ok (.iadd, 1) := by decide +kernel
theorem dL_law_363 : decode cL_law 363 = .ok (.iaload, 1) := by decide +kernel
theorem dL_law_364 : decode cL_law 364 = .ok (.aload_n 0, 1) := by decide +kernel
theorem dL_law_365 : decode cL_law 365 = .ok (.iload_n 3, 1) := by decide +kernel
theorem dL_law_366 : decode cL_law 366 = .ok (.iconst 4, 1) := by decide +kernel
theorem dL_law_367 : decode cL_law 367 = .ok (.iadd, 1) := by decide +kernel
theorem dL_law_368 : decode cL_law 368 = .ok (.iaload, 1) := by decide +kernel
theorem dL_law_369 : decode cL_law 369 = .ok (.invokevirtual 47, 3) := by decide +kernel
theorem dL_law_372 : decode cL_law 372 = .ok (.aload_n 2, 1) := by decide +kernel
theorem dL_law_373 : decode cL_law 373 = .ok (.aload_n 0, 1) := by decide +kernel
theorem dL_law_374 : decode cL_law 374 = .ok (.iload_n 3, 1) := by decide +kernel
theorem dL_law_375 : decode cL_law 375 = .ok (.iconst 1, 1) := by decide +kernel
theorem dL_law_376 : decode cL_law 376 = .ok (.iadd, 1) := by decide +kernel
theorem dL_law_377 : decode cL_law 377 = .ok (.iaload, 1) := by decide +kernel
theorem dL_law_378 : decode cL_law 378 = .ok (.aload_n 0, 1) := by decide +kernel
theorem dL_law_379 : decode cL_law 379 = .ok (.iload_n 3, 1) := by decide +kernel
theorem dL_law_380 : decode cL_law 380 = .ok (.iconst 2, 1) := by decide +kernel
theorem dL_law_381 : decode cL_law 381 = .ok (.iadd, 1) := by decide +kernel
theorem dL_law_382 : decode cL_law 382 = .ok (.iaload, 1) := by decide +kernel
theorem dL_law_383 : decode cL_law 383 = .ok (.aload_n 0, 1) := by decide +kernel
theorem dL_law_384 : decode cL_law 384 = .ok (.iload_n 3, 1) := by decide +kernel
theorem dL_law_385 : decode cL_law 385 = .ok (.iconst 3, 1) := by decide +kernel
theorem dL_law_386 : decode cL_law 386 = .ok (.iadd, 1) := by decide +kernel
theorem dL_law_387 : decode cL_law 387 = .ok (.iaload, 1) := by decide +kernel
theorem dL_law_388 : decode cL_law 388 = .ok (.aload_n 0, 1) := by decide +kernel
theorem dL_law_389 : decode cL_law 389 = .ok (.iload_n 3, 1) := by decide +kernel
theorem dL_law_390 : decode cL_law 390 = .ok (.iconst 4, 1) := by decide +kernel
theorem dL_law_391 : decode cL_law 391 = .ok (.iadd, 1) := by decide +kernel
theorem dL_law_392 : decode cL_law 392 = .ok (.iaload, 1) := by decide +kernel
theorem dL_law_393 : decode cL_law 393 = .ok (.invokevirtual 51, 3) := by decide +kernel
theorem dL_law_396 : decode cL_law 396 = .ok (.if_icmp .eq 292, 3) := by decide +kernel
theorem dL_law_399 : decode cL_law 399 = .ok (.iconst 0, 1) := by decide +kernel
theorem dL_law_400 : decode cL_law 400 = .ok (.ireturn, 1) := by decide +kernel
theorem dL_law_401 : decode cL_law 401 = .ok (.aload_n 1, 1) := by decide +kernel
theorem dL_law_402 : decode cL_law 402 = .ok (.aload_n 0, 1) := by decide +kernel
theorem dL_law_403 : decode cL_law 403 = .ok (.iload_n 3, 1) := by decide +kernel
theorem dL_law_404 : decode cL_law 404 = .ok (.iconst 1, 1) := by decide +kernel
theorem dL_law_405 : decode cL_law 405 = .ok (.iadd, 1) := by decide +kernel
theorem dL_law_406 : decode cL_law 406 = .ok (.iaload, 1) := by decide +kernel
theorem dL_law_407 : decode cL_law 407 = .ok (.aload_n 0, 1) := by decide +kernel
theorem dL_law_408 : decode cL_law 408 = .ok (.iload_n 3, 1) := by decide +kernel
theorem dL_law_409 : decode cL_law 409 = .ok (.iconst 2, 1) := by decide +kernel
theorem dL_law_410 : decode cL_law 410 = .ok (.iadd, 1) := by decide +kernel
theorem dL_law_411 : decode cL_law 411 = .ok (.iaload, 1) := by decide +kernel
theorem dL_law_412 : decode cL_law 412 = .ok (.invokevirtual 52, 3) := by decide +kernel
theorem dL_law_415 : decode cL_law 415 = .ok (.aload_n 2, 1) := by decide +kernel
theorem dL_law_416 : decode cL_law 416 = .ok (.aload_n 0, 1) := by decide +kernel
theorem dL_law_417 : decode cL_law 417 = .ok (.iload_n 3, 1) := by decide +kernel
theorem dL_law_418 : decode cL_law 418 = .ok (.iconst 1, 1) := by decide +kernel
theorem dL_law_419 : decode cL_law 419 = .ok (.iadd, 1) := by decide +kernel
theorem dL_law_420 : decode cL_law 420 = .ok (.iaload, 1) := by decide +kernel
theorem dL_law_421 : decode cL_law 421 = .ok (.aload_n 0, 1) := by decide +kernel
theorem dL_law_422 : decode cL_law 422 = .ok (.iload_n 3, 1) := by decide +kernel
theorem dL_law_423 : decode cL_law 423 = .ok (.iconst 2, 1) := by decide +kernel
theorem dL_law_424 : decode cL_law 424 = .ok (.iadd, 1) := by decide +kernel
theorem dL_law_425 : decode cL_law 425 = .ok (.iaload, 1) := by decide +kernel
theorem dL_law_426 : decode cL_law 426 = .ok (.invokevirtual 55, 3) := by decide +kernel
theorem dL_law_429 : decode cL_law 429 = .ok (.if_icmp .eq 259, 3) := by decide +kernel
theorem dL_law_432 : decode cL_law 432 = .ok (.iconst 0, 1) := by decide +kernel
theorem dL_law_433 : decode cL_law 433 = .ok (.ireturn, 1) := by decide +kernel
theorem dL_law_434 : decode cL_law 434 = .ok (.aload_n 1, 1) := by decide +kernel
theorem dL_law_435 : decode cL_law 435 = .ok (.aload_n 0, 1) := by decide +kernel
theorem dL_law_436 : decode cL_law 436 = .ok (.iload_n 3, 1) := by decide +kernel
theorem dL_law_437 : decode cL_law 437 = .ok (.iconst 1, 1) := by decide +kernel
theorem dL_law_438 : decode cL_law 438 = .ok (.iadd, 1) := by decide +kernel
theorem dL_law_439 : decode cL_law 439 = .ok (.iaload, 1) := by decide +kernel
theorem dL_law_440 : decode cL_law 440 = .ok (.aload_n 0, 1) := by decide +kernel
theorem dL_law_441 : decode cL_law 441 = .ok (.iload_n 3, 1) := by decide +kernel
theorem dL_law_442 : decode cL_law 442 = .ok (.iconst 2, 1) := by decide +kernel
theorem dL_law_443 : decode cL_law 443 = .ok (.iadd, 1) := by decide +kernel
theorem dL_law_444 : decode cL_law 444 = .ok (.iaload, 1) := by decide +kernel
theorem dL_law_445 : decode cL_law 445 = .ok (.invokevirtual 56, 3) := by decide +kernel
theorem dL_law_448 : decode cL_law 448 = .ok (.aload_n 2, 1) := by decide +kernel
theorem dL_law_449 : decode cL_law 449 = .ok (.aload_n 0, 1) := by decide +kernel
theorem dL_law_450 : decode cL_law 450 = .ok (.iload_n 3, 1) := by decide +kernel
theorem dL_law_451 : decode cL_law 451 = .ok (.iconst 1, 1) := by decide +kernel
theorem dL_law_452 : decode cL_law 452 = .ok (.iadd, 1) := by decide +kernel
theorem dL_law_453 : decode cL_law 453 = .ok (.iaload, 1) := by decide +kernel
theorem dL_law_454 : decode cL_law 454 = .ok (.aload_n 0, 1) := by decide +kernel
theorem dL_law_455 : decode cL_law 455 = .ok (.iload_n 3, 1) := by decide +kernel
theorem dL_law_456 : decode cL_law 456 = .ok (.iconst 2, 1) := by decide +kernel
theorem dL_law_457 : decode cL_law 457 = .ok (.iadd, 1) := by decide +kernel
theorem dL_law_458 : decode cL_law 458 = .ok (.iaload, 1) := by decide +kernel
theorem dL_law_459 : decode cL_law 459 = .ok (.invokevirtual 59, 3) := by decide +kernel
theorem dL_law_462 : decode cL_law 462 = .ok (.if_icmp .eq 226, 3) := by decide +kernel
theorem dL_law_465 : decode cL_law 465 = .ok (.iconst 0, 1) := by decide +kernel
theorem dL_law_466 : decode cL_law 466 = .ok (.ireturn, 1) := by decide +kernel
theorem dL_law_467 : decode cL_law 467 = .ok (.aload_n 1, 1) := by decide +kernel
theorem dL_law_468 : decode cL_law 468 = .ok (.aload_n 0, 1) := by decide +kernel
theorem dL_law_469 : decode cL_law 469 = .ok (.iload_n 3, 1) := by decide +kernel
theorem dL_law_470 : decode cL_law 470 = .ok (.iconst 1, 1) := by decide +kernel
theorem dL_law_471 : decode cL_law 471 = .ok (.iadd, 1) := by decide +kernel
theorem dL_law_472 : decode cL_law 472 = .ok (.iaload, 1) := by decide +kernel
theorem dL_law_473 : decode cL_law 473 = .ok (.aload_n 0, 1) := by decide +kernel
theorem dL_law_474 : decode cL_law 474 = .ok (.iload_n 3, 1) := by decide +kernel
theorem dL_law_475 : decode cL_law 475 = .ok (.iconst 2, 1) := by decide +kernel
theorem dL_law_476 : decode cL_law 476 = .ok (.iadd, 1) := by decide +kernel
theorem dL_law_477 : decode cL_law 477 = .ok (.iaload, 1) := by decide +kernel
theorem dL_law_478 : decode cL_law 478 = .ok (.aload_n 0, 1) := by decide +kernel
theorem dL_law_479 : decode cL_law 479 = .ok (.iload_n 3, 1) := by decide +kernel
theorem dL_law_480 : decode cL_law 480 = .ok (.iconst 3, 1) := by decide +kernel
theorem dL_law_481 : decode cL_law 481 = .ok (.iadd, 1) := by decide +kernel
theorem dL_law_482 : decode cL_law 482 = .ok (.iaload, 1) := by decide +kernel
theorem dL_law_483 : decode cL_law 483 = .ok (.invokevirtual 60, 3) := by decide +kernel
theorem dL_law_486 : decode cL_law 486 = .ok (.aload_n 2, 1) := by decide +kernel
theorem dL_law_487 : decode cL_law 487 = .ok (.aload_n 0, 1) := by decide +kernel
theorem dL_law_488 : decode cL_law 488 = .ok (.iload_n 3, 1) := by decide +kernel
theorem dL_law_489 : decode cL_law 489 = .ok (.iconst 1, 1) := by decide +kernel
theorem dL_law_490 : decode cL_law 490 = .ok (.iadd, 1) := by decide +kernel
theorem dL_law_491 : decode cL_law 491 = .ok (.iaload, 1) := by decide +kernel
theorem dL_law_492 : decode cL_law 492 = .ok (.aload_n 0, 1) := by decide +kernel
theorem dL_law_493 : decode cL_law 493 = .ok (.iload_n 3, 1) := by decide +kernel
theorem dL_law_494 : decode cL_law 494 = .ok (.iconst 2, 1) := by decide +kernel
theorem dL_law_495 : decode cL_law 495 = .ok (.iadd, 1) := by decide +kernel
theorem dL_law_496 : decode cL_law 496 = .ok (.iaload, 1) := by decide +kernel
theorem dL_law_497 : decode cL_law 497 = .ok (.aload_n 0, 1) := by decide +kernel
theorem dL_law_498 : decode cL_law 498 = .ok (.iload_n 3, 1) := by decide +kernel
theorem dL_law_499 : decode cL_law 499 = .ok (.iconst 3, 1) := by decide +kernel
theorem dL_law_500 : decode cL_law 500 = .ok (.iadd, 1) := by decide +kernel
theorem dL_law_501 : decode cL_law 501 = .ok (.iaload, 1) := by decide +kernel
theorem dL_law_502 : decode cL_law 502 = .ok (.invokevirtual 64, 3) := by decide +kernel
theorem dL_law_505 : decode cL_law 505 = .ok (.if_icmp .eq 183, 3) := by decide +kernel
theorem dL_law_508 : decode cL_law 508 = .ok (.iconst 0, 1) := by decide +kernel
theorem dL_law_509 : decode cL_law 509 = .ok (.ireturn, 1) := by decide +kernel
theorem dL_law_510 : decode cL_law 510 = .ok (.aload_n 1, 1) := by decide +kernel
theorem dL_law_511 : decode cL_law 511 = .ok (.aload_n 0, 1) := by decide +kernel
theorem dL_law_512 : decode cL_law 512 = .ok (.iload_n 3, 1) := by decide +kernel
theorem dL_law_513 : decode cL_law 513 = .ok (.iconst 1, 1) := by decide +kernel
theorem dL_law_514 : decode cL_law 514 = .ok (.iadd, 1) := by decide +kernel
theorem dL_law_515 : decode cL_law 515 = .ok (.iaload, 1) := by decide +kernel
theorem dL_law_516 : decode cL_law 516 = .ok (.aload_n 0, 1) := by decide +kernel
theorem dL_law_517 : decode cL_law 517 = .ok (.iload_n 3, 1) := by decide +kernel
theorem dL_law_518 : decode cL_law 518 = .ok (.iconst 2, 1) := by decide +kernel
theorem dL_law_519 : decode cL_law 519 = .ok (.iadd, 1) := by decide +kernel
theorem dL_law_520 : decode cL_law 520 = .ok (.iaload, 1) := by decide +kernel
theorem dL_law_521 : decode cL_law 521 = .ok (.invokevirtual 65, 3) := by decide +kernel
theorem dL_law_524 : decode cL_law 524 = .ok (.aload_n 2, 1) := by decide +kernel
theorem dL_law_525 : decode cL_law 525 = .ok (.aload_n 0, 1) := by decide +kernel
theorem dL_law_526 : decode cL_law 526 = .ok (.iload_n 3, 1) := by decide +kernel
theorem dL_law_527 : decode cL_law 527 = .ok (.iconst 1, 1) := by decide +kernel
theorem dL_law_528 : decode cL_law 528 = .ok (.iadd, 1) := by decide +kernel
theorem dL_law_529 : decode cL_law 529 = .ok (.iaload, 1) := by decide +kernel
theorem dL_law_530 : decode cL_law 530 = .ok (.aload_n 0, 1) := by decide +kernel
theorem dL_law_531 : decode cL_law 531 = .ok (.iload_n 3, 1) := by decide +kernel
theorem dL_law_532 : decode cL_law 532 = .ok (.iconst 2, 1) := by decide +kernel
theorem dL_law_533 : decode cL_law 533 = .ok (.iadd, 1) := by decide +kernel
theorem dL_law_534 : decode cL_law 534 = .ok (.iaload, 1) := by decide +kernel
theorem dL_law_535 : decode cL_law 535 = .ok (.invokevirtual 68, 3) := by decide +kernel
theorem dL_law_538 : decode cL_law 538 = .ok (.if_icmp .eq 150, 3) := by decide +kernel
theorem dL_law_541 : decode cL_law 541 = .ok (.iconst 0, 1) := by decide +kernel
theorem dL_law_542 : decode cL_law 542 = .ok (.ireturn, 1) := by decide +kernel
theorem dL_law_543 : decode cL_law 543 = .ok (.aload_n 1, 1) := by decide +kernel
theorem dL_law_544 : decode cL_law 544 = .ok (.aload_n 0, 1) := by decide +kernel
theorem dL_law_545 : decode cL_law 545 = .ok (.iload_n 3, 1) := by decide +kernel
theorem dL_law_546 : decode cL_law 546 = .ok (.iconst 1, 1) := by decide +kernel
theorem dL_law_547 : decode cL_law 547 = .ok (.iadd, 1) := by decide +kernel
theorem dL_law_548 : decode cL_law 548 = .ok (.iaload, 1) := by decide +kernel
theorem dL_law_549 : decode cL_law 549 = .ok (.aload_n 0, 1) := by decide +kernel
theorem dL_law_550 : decode cL_law 550 = .ok (.iload_n 3, 1) := by decide +kernel
theorem dL_law_551 : decode cL_law 551 = .ok (.iconst 2, 1) := by decide +kernel
theorem dL_law_552 : decode cL_law 552 = .ok (.iadd, 1) := by decide +kernel
theorem dL_law_553 : decode cL_law 553 = .ok (.iaload, 1) := by decide +kernel
theorem dL_law_554 : decode cL_law 554 = .ok (.invokevirtual 69, 3) := by decide +kernel
theorem dL_law_557 : decode cL_law 557 = .ok (.aload_n 2, 1) := by decide +kernel
theorem dL_law_558 : decode cL_law 558 = .ok (.aload_n 0, 1) := by decide +kernel
theorem dL_law_559 : decode cL_law 559 = .ok (.iload_n 3, 1) := by decide +kernel
theorem dL_law_560 : decode cL_law 560 = .ok (.iconst 1, 1) := by decide +kernel
theorem dL_law_561 : decode cL_law 561 = .ok (.iadd, 1) := by decide +kernel
theorem dL_law_562 : decode cL_law 562 = .ok (.iaload, 1) := by decide +kernel
theorem dL_law_563 : decode cL_law 563 = .ok (.aload_n 0, 1) := by decide +kernel
theorem dL_law_564 : decode cL_law 564 = .ok (.iload_n 3, 1) := by decide +kernel
theorem dL_law_565 : decode cL_law 565 = .ok (.iconst 2, 1) := by decide +kernel
theorem dL_law_566 : decode cL_law 566 = .ok (.iadd, 1) := by decide +kernel
theorem dL_law_567 : decode cL_law 567 = .ok (.iaload, 1) := by decide +kernel
theorem dL_law_568 : decode cL_law 568 = .ok (.invokevirtual 72, 3) := by decide +kernel
theorem dL_law_571 : decode cL_law 571 = .ok (.if_icmp .eq 117, 3) := by decide +kernel
theorem dL_law_574 : decode cL_law 574 = .ok (.iconst 0, 1) := by decide +kernel
theorem dL_law_575 : decode cL_law 575 = .ok (.ireturn, 1) := by decide +kernel
theorem dL_law_576 : decode cL_law 576 = .ok (.aload_n 1, 1) := by decide +kernel
theorem dL_law_577 : decode cL_law 577 = .ok (.aload_n 0, 1) := by decide +kernel
theorem dL_law_578 : decode cL_law 578 = .ok (.iload_n 3, 1) := by decide +kernel
theorem dL_law_579 : decode cL_law 579 = .ok (.iconst 1, 1) := by decide +kernel
theorem dL_law_580 : decode cL_law 580 = .ok (.iadd, 1) := by decide +kernel
theorem dL_law_581 : decode cL_law 581 = .ok (.iaload, 1) := by decide +kernel
theorem dL_law_582 : decode cL_law 582 = .ok (.aload_n 0, 1) := by decide +kernel
theorem dL_law_583 : decode cL_law 583 = .ok (.iload_n 3, 1) := by decide +kernel
theorem dL_law_584 : decode cL_law 584 = .ok (.iconst 2, 1) := by decide +kernel
theorem dL_law_585 : decode cL_law 585 = .ok (.iadd, 1) := by decide +kernel
theorem dL_law_586 : decode cL_law 586 = .ok (.iaload, 1) := by decide +kernel
theorem dL_law_587 : decode cL_law 587 = .ok (.aload_n 0, 1) := by decide +kernel
theorem dL_law_588 : decode cL_law 588 = .ok (.iload_n 3, 1) := by decide +kernel
theorem dL_law_589 : decode cL_law 589 = .ok (.iconst 3, 1) := by decide +kernel
theorem dL_law_590 : decode cL_law 590 = .ok (.iadd, 1) := by decide +kernel
theorem dL_law_591 : decode cL_law 591 = .ok (.iaload, 1) := by decide +kernel
theorem dL_law_592 : decode cL_law 592 = .ok (.invokevirtual 73, 3) := by decide +kernel
theorem dL_law_595 : decode cL_law 595 = .ok (.aload_n 2, 1) := by decide +kernel
theorem dL_law_596 : decode cL_law 596 = .ok (.aload_n 0, 1) := by decide +kernel
theorem dL_law_597 : decode cL_law 597 = .ok (.iload_n 3, 1) := by decide +kernel
theorem dL_law_598 : decode cL_law 598 = .ok (.iconst 1, 1) := by decide +kernel
theorem dL_law_599 : decode cL_law 599 = .ok (.iadd, 1) := by decide +kernel
theorem dL_law_600 : decode cL_law 600 = .ok (.iaload, 1) := by decide +kernel
theorem dL_law_601 : decode cL_law 601 = .ok (.aload_n 0, 1) := by decide +kernel
theorem dL_law_602 : decode cL_law 602 = .ok (.iload_n 3, 1) := by decide +kernel
theorem dL_law_603 : decode cL_law 603 = .ok (.iconst 2, 1) := by decide +kernel
theorem dL_law_604 : decode cL_law 604 = .ok (.iadd, 1) := by decide +kernel
theorem dL_law_605 : decode cL_law 605 = .ok (.iaload, 1) := by decide +kernel
theorem dL_law_606 : decode cL_law 606 = .ok (.aload_n 0, 1) := by decide +kernel
theorem dL_law_607 : decode cL_law 607 = .ok (.iload_n 3, 1) := by decide +kernel
theorem dL_law_608 : decode cL_law 608 = .ok (.iconst 3, 1) := by decide +kernel
theorem dL_law_609 : decode cL_law 609 = .ok (.iadd, 1) := by decide +kernel
theorem dL_law_610 : decode cL_law 610 = .ok (.iaload, 1) := by decide +kernel
theorem dL_law_611 : decode cL_law 611 = .ok (.invokevirtual 76, 3) := by decide +kernel
theorem dL_law_614 : decode cL_law 614 = .ok (.if_icmp .eq 74, 3) := by decide +kernel
theorem dL_law_617 : decode cL_law 617 = .ok (.iconst 0, 1) := by decide +kernel
theorem dL_law_618 : decode cL_law 618 = .ok (.ireturn, 1) := by decide +kernel
theorem dL_law_619 : decode cL_law 619 = .ok (.aload_n 1, 1) := by decide +kernel
theorem dL_law_620 : decode cL_law 620 = .ok (.aload_n 0, 1) := by decide +kernel
theorem dL_law_621 : decode cL_law 621 = .ok (.iload_n 3, 1) := by decide +kernel
theorem dL_law_622 : decode cL_law 622 = .ok (.iconst 1, 1) := by decide +kernel
theorem dL_law_623 : decode cL_law 623 = .ok (.iadd, 1) := by decide +kernel
theorem dL_law_624 : decode cL_law 624 = .ok (.iaload, 1) := by decide +kernel
theorem dL_law_625 : decode cL_law 625 = .ok (.invokevirtual 77, 3) := by decide +kernel
theorem dL_law_628 : decode cL_law 628 = .ok (.aload_n 2, 1) := by decide +kernel
theorem dL_law_629 : decode cL_law 629 = .ok (.aload_n 0, 1) := by decide +kernel
theorem dL_law_630 : decode cL_law 630 = .ok (.iload_n 3, 1) := by decide +kernel
theorem dL_law_631 : decode cL_law 631 = .ok (.iconst 1, 1) := by decide +kernel
theorem dL_law_632 : decode cL_law 632 = .ok (.iadd, 1) := by decide +kernel
theorem dL_law_633 : decode cL_law 633 = .ok (.iaload, 1) := by decide +kernel
theorem dL_law_634 : decode cL_law 634 = .ok (.invokevirtual 80, 3) := by decide +kernel
theorem dL_law_637 : decode cL_law 637 = .ok (.if_icmp .eq 51, 3) := by decide +kernel
theorem dL_law_640 : decode cL_law 640 = .ok (.iconst 0, 1) := by decide +kernel
theorem dL_law_641 : decode cL_law 641 = .ok (.ireturn, 1) := by decide +kernel
theorem dL_law_642 : decode cL_law 642 = .ok (.aload_n 1, 1) := by decide +kernel
theorem dL_law_643 : decode cL_law 643 = .ok (.aload_n 0, 1) := by decide +kernel
theorem dL_law_644 : decode cL_law 644 = .ok (.iload_n 3, 1) := by decide +kernel
theorem dL_law_645 : decode cL_law 645 = .ok (.iconst 1, 1) := by decide +kernel
theorem dL_law_646 : decode cL_law 646 = .ok (.iadd, 1) := by decide +kernel
theorem dL_law_647 : decode cL_law 647 = .ok (.iaload, 1) := by decide +kernel
theorem dL_law_648 : decode cL_law 648 = .ok (.invokevirtual 81, 3) := by decide +kernel
theorem dL_law_651 : decode cL_law 651 = .ok (.aload_n 2, 1) := by decide +kernel
theorem dL_law_652 : decode cL_law 652 = .ok (.aload_n 0, 1) := by decide +kernel
theorem dL_law_653 : decode cL_law 653 = .ok (.iload_n 3, 1) := by decide +kernel
theorem dL_law_654 : decode cL_law 654 = .ok (.iconst 1, 1) := by decide +kernel
theorem dL_law_655 : decode cL_law 655 = .ok (.iadd, 1) := by decide +kernel
theorem dL_law_656 : decode cL_law 656 = .ok (.iaload, 1) := by decide +kernel
theorem dL_law_657 : decode cL_law 657 = .ok (.invokevirtual 84, 3) := by decide +kernel
theorem dL_law_660 : decode cL_law 660 = .ok (.if_icmp .eq 28, 3) := by decide +kernel
theorem dL_law_663 : decode cL_law 663 = .ok (.iconst 0, 1) := by decide +kernel
theorem dL_law_664 : decode cL_law 664 = .ok (.ireturn, 1) := by decide +kernel
theorem dL_law_665 : decode cL_law 665 = .ok (.aload_n 1, 1) := by decide +kernel
theorem dL_law_666 : decode cL_law 666 = .ok (.aload_n 0, 1) := by decide +kernel
theorem dL_law_667 : decode cL_law 667 = .ok (.iload_n 3, 1) := by decide +kernel
theorem dL_law_668 : decode cL_law 668 = .ok (.iconst 1, 1) := by decide +kernel
theorem dL_law_669 : decode cL_law 669 = .ok (.iadd, 1) := by decide +kernel
theorem dL_law_670 : decode cL_law 670 = .ok (.iaload, 1) := by decide +kernel
theorem dL_law_671 : decode cL_law 671 = .ok (.invokevirtual 85, 3) := by decide +kernel
theorem dL_law_674 : decode cL_law 674 = .ok (.aload_n 2, 1) := by decide +kernel
theorem dL_law_675 : decode cL_law 675 = .ok (.aload_n 0, 1) := by decide +kernel
theorem dL_law_676 : decode cL_law 676 = .ok (.iload_n 3, 1) := by decide +kernel
theorem dL_law_677 : decode cL_law 677 = .ok (.iconst 1, 1) := by decide +kernel
theorem dL_law_678 : decode cL_law 678 = .ok (.iadd, 1) := by decide +kernel
theorem dL_law_679 : decode cL_law 679 = .ok (.iaload, 1) := by decide +kernel
theorem dL_law_680 : decode cL_law 680 = .ok (.invokevirtual 88, 3) := by decide +kernel
theorem dL_law_683 : decode cL_law 683 = .ok (.if_icmp .eq 5, 3) := by decide +kernel
theorem dL_law_686 : decode cL_law 686 = .ok (.iconst 0, 1) := by decide +kernel
theorem dL_law_687 : decode cL_law 687 = .ok (.ireturn, 1) := by decide +kernel
theorem dL_law_688 : decode cL_law 688 = .ok (.iinc 3 5, 3) := by decide +kernel
theorem dL_law_691 : decode cL_law 691 = .ok (.goto (-673), 3) := by decide +kernel
theorem dL_law_694 : decode cL_law 694 = .ok (.iconst 1, 1) := by decide +kernel
theorem dL_law_695 : decode cL_law 695 = .ok (.ireturn, 1) := by decide +kernel
