theorem dX7_cut_204 : decode cX7_cut 204 = .ok (.istore_n 3, 1) := by decide +kernel
theorem dX7_cut_205 : decode cX7_cut 205 = .ok (.iconst 0, 1) := by decide +kernel
theorem dX7_cut_206 : decode cX7_cut 206 = .ok (.istore 4, 2) := by decide +kernel
theorem dX7_cut_208 : decode cX7_cut 208 = .ok (.aload_n 0, 1) := by decide +kernel
theorem dX7_cut_209 : decode cX7_cut 209 = .ok (.iload_n 1, 1) := by decide +kernel
theorem dX7_cut_210 : decode cX7_cut 210 = .ok (.iload_n 3, 1) := by decide +kernel
theorem dX7_cut_211 : decode cX7_cut 211 = .ok (.iadd, 1) := by decide +kernel
theorem dX7_cut_212 : decode cX7_cut 212 = .ok (.invokevirtual 169, 3) := by decide +kernel
theorem dX7_cut_215 : decode cX7_cut 215 = .ok (.invokestatic 181, 3) := by decide +kernel
theorem dX7_cut_218 : decode cX7_cut 218 = .ok (.ifCond .eq 32, 3) := by decide +kernel
theorem dX7_cut_221 : decode cX7_cut 221 = .ok (.iload_n 3, 1) := by decide +kernel
theorem dX7_cut_222 : decode cX7_cut 222 = .ok (.iconst 4, 1) := by decide +kernel
theorem dX7_cut_223 : decode cX7_cut 223 = .ok (.if_icmp .ge 21, 3) := by decide +kernel
theorem dX7_cut_226 : decode cX7_cut 226 = .ok (.bipush 10, 2) := by decide +kernel
theorem dX7_cut_228 : decode cX7_cut 228 = .ok (.iload 4, 2) := by decide +kernel
theorem dX7_cut_230 : decode cX7_cut 230 = .ok (.imul, 1) := by decide +kernel
theorem dX7_cut_231 : decode cX7_cut 231 = .ok (.aload_n 0, 1) := by decide +kernel
theorem dX7_cut_232 : decode cX7_cut 232 = .ok (.iload_n 1, 1) := by decide +kernel
theorem dX7_cut_233 : decode cX7_cut 233 = .ok (.iload_n 3, 1) := by decide +kernel
theorem dX7_cut_234 : decode cX7_cut 234 = .ok (.iadd, 1) := by decide +kernel
theorem dX7_cut_235 : decode cX7_cut 235 = .ok (.invokevirtual 169, 3) := by decide +kernel
theorem dX7_cut_238 : decode cX7_cut 238 = .ok (.iadd, 1) := by decide +kernel
theorem dX7_cut_239 : decode cX7_cut 239 = .ok (.bipush 48, 2) := by decide +kernel
theorem dX7_cut_241 : decode cX7_cut 241 = .ok (.isub, 1) := by decide +kernel
theorem dX7_cut_242 : decode cX7_cut 242 = .ok (.istore 4, 2) := by decide +kernel
theorem dX7_cut_244 : decode cX7_cut 244 = .ok (.iinc 3 1, 3) := by decide +kernel
theorem dX7_cut_247 : decode cX7_cut 247 = .ok (.goto (-39), 3) := by decide +kernel
theorem dX7_cut_250 : decode cX7_cut 250 = .ok (.aload_n 0, 1) := by decide +kernel
theorem dX7_cut_251 : decode cX7_cut 251 = .ok (.iload_n 3, 1) := by decide +kernel
theorem dX7_cut_252 : decode cX7_cut 252 = .ok (.iconst 4, 1) := by decide +kernel
theorem dX7_cut_253 : decode cX7_cut 253 = .ok (.if_icmp .le 7, 3) := by decide +kernel
theorem dX7_cut_256 : decode cX7_cut 256 = .ok (.iconst 3, 1) := by decide +kernel
theorem dX7_cut_257 : decode cX7_cut 257 = .ok (.goto 4, 3) := by decide +kernel
theorem dX7_cut_260 : decode cX7_cut 260 = .ok (.iconst 2, 1) := by decide +kernel
theorem dX7_cut_261 : decode cX7_cut 261 = .ok (.iload_n 1, 1) := by decide +kernel
theorem dX7_cut_262 : decode cX7_cut 262 = .ok (.iload 4, 2) := by decide +kernel
theorem dX7_cut_264 : decode cX7_cut 264 = .ok (.lconst 0, 1) := by decide +kernel
theorem dX7_cut_265 : decode cX7_cut 265 = .ok (.invokevirtual 173, 3) := by decide +kernel
theorem dX7_cut_268 : decode cX7_cut 268 = .ok (.iload_n 1, 1) := by decide +kernel
theorem dX7_cut_269 : decode cX7_cut 269 = .ok (.iload_n 3, 1) := by decide +kernel
theorem dX7_cut_270 : decode cX7_cut 270 = .ok (.iadd, 1) := by decide +kernel
theorem dX7_cut_271 : decode cX7_cut 271 = .ok (.istore_n 1, 1) := by decide +kernel
theorem dX7_cut_272 : decode cX7_cut 272 = .ok (.goto 19, 3) := by decide +kernel
theorem dX7_cut_275 : decode cX7_cut 275 = .ok (.iload_n 1, 1) := by decide +kernel
theorem dX7_cut_276 : decode cX7_cut 276 = .ok (.aload_n 0, 1) := by decide +kernel
theorem dX7_cut_277 : decode cX7_cut 277 = .ok (.iload_n 1, 1) := by decide +kernel
theorem dX7_cut_278 : decode cX7_cut 278 = .ok (.iload_n 2, 1) := by decide +kernel
theorem dX7_cut_279 : decode cX7_cut 279 = .ok (.aload_n 0, 1) := by decide +kernel
theorem dX7_cut_280 : decode cX7_cut 280 = .ok (.iload_n 1, 1) := by decide +kernel
theorem dX7_cut_281 : decode cX7_cut 281 = .ok (.iconst 1, 1) := by decide +kernel
theorem dX7_cut_282 : decode cX7_cut 282 = .ok (.iadd, 1) := by decide +kernel
theorem dX7_cut_283 : decode cX7_cut 283 = .ok (.invokevirtual 169, 3) := by decide +kernel
theorem dX7_cut_286 : decode cX7_cut 286 = .ok (.invokevirtual 184, 3) := by decide +kernel
theorem dX7_cut_289 : decode cX7_cut 289 = .ok (.iadd, 1) := by decide +kernel
theorem dX7_cut_290 : decode cX7_cut 290 = .ok (.istore_n 1, 1) := by decide +kernel
theorem dX7_cut_291 : decode cX7_cut 291 = .ok (.goto (-284), 3) := by decide +kernel
theorem dX7_cut_294 : decode cX7_cut 294 = .ok (.return_, 1) := by decide +kernel
theorem dX7_sign_0 : decode cX7_sign 0 = .ok (.iload_n 2, 1) := by decide +kernel
theorem dX7_sign_1 : decode cX7_sign 1 = .ok (.bipush 59, 2) := by decide +kernel
theorem dX7_sign_3 : decode cX7_sign 3 = .ok (.if_icmp .ne 7, 3) := by decide +kernel
theorem dX7_sign_6 : decode cX7_sign 6 = .ok (.iconst 4, 1) := by decide +kernel
theorem dX7_sign_7 : decode cX7_sign 7 = .ok (.goto 36, 3) := by decide +kernel
theorem dX7_sign_10 : decode cX7_sign 10 = .ok (.iload_n 2, 1) := by decide +kernel
theorem dX7_sign_11 : decode cX7_sign 11 = .ok (.bipush 61, 2) := by decide +kernel
theorem dX7_sign_13 : decode cX7_sign 13 = .ok (.if_icmp .ne 7, 3) := by decide +kernel
theorem dX7_sign_16 : decode cX7_sign 16 = .ok (.iconst 5, 1) := by decide +kernel
theorem dX7_sign_17 : decode cX7_sign 17 = .ok (.goto 26, 3) := by decide +kernel
theorem dX7_sign_20 : decode cX7_sign 20 = .ok (.iload_n 2, 1) := by decide +kernel
theorem dX7_sign_21 : decode cX7_sign 21 = .ok (.bipush 40, 2) := by decide +kernel
theorem dX7_sign_23 : decode cX7_sign 23 = .ok (.if_icmp .ne 8, 3) := by decide +kernel
theorem dX7_sign_26 : decode cX7_sign 26 = .ok (.bipush 6, 2) := by decide +kernel
theorem dX7_sign_28 : decode cX7_sign 28 = .ok (.goto 15, 3) := by decide +kernel
theorem dX7_sign_31 : decode cX7_sign 31 = .ok (.iload_n 2, 1) := by decide +kernel
theorem dX7_sign_32 : decode cX7_sign 32 = .ok (.bipush 41, 2) := by decide +kernel
theorem dX7_sign_34 : decode cX7_sign 34 = .ok (.if_icmp .ne 8, 3) := by decide +kernel
theorem dX7_sign_37 : decode cX7_sign 37 = .ok (.bipush 7, 2) := by decide +kernel
theorem dX7_sign_39 : decode cX7_sign 39 = .ok (.goto 4, 3) := by decide +kernel
theorem dX7_sign_42 : decode cX7_sign 42 = .ok (.iconst 3, 1) := by decide +kernel
theorem dX7_sign_43 : decode cX7_sign 43 = .ok (.istore 4, 2) := by decide +kernel
theorem dX7_sign_45 : decode cX7_sign 45 = .ok (.iload_n 2, 1) := by decide +kernel
theorem dX7_sign_46 : decode cX7_sign 46 = .ok (.bipush 43, 2) := by decide +kernel
theorem dX7_sign_48 : decode cX7_sign 48 = .ok (.if_icmp .ne 7, 3) := by decide +kernel
theorem dX7_sign_51 : decode cX7_sign 51 = .ok (.bipush 8, 2) := by decide +kernel
theorem dX7_sign_53 : decode cX7_sign 53 = .ok (.istore 4, 2) := by decide +kernel
theorem dX7_sign_55 : decode cX7_sign 55 = .ok (.iload_n 2, 1) := by decide +kernel
theorem dX7_sign_56 : decode cX7_sign 56 = .ok (.bipush 45, 2) := by decide +kernel
theorem dX7_sign_58 : decode cX7_sign 58 = .ok (.if_icmp .ne 7, 3) := by decide +kernel
theorem dX7_sign_61 : decode cX7_sign 61 = .ok (.bipush 9, 2) := by decide +kernel
theorem dX7_sign_63 : decode cX7_sign 63 = .ok (.istore 4, 2) := by decide +kernel
theorem dX7_sign_65 : decode cX7_sign 65 = .ok (.iload_n 2, 1) := by decide +kernel
theorem dX7_sign_66 : decode cX7_sign 66 = .ok (.bipush 42, 2) := by decide +kernel
theorem dX7_sign_68 : decode cX7_sign 68 = .ok (.if_icmp .ne 7, 3) := by decide +kernel
theorem dX7_sign_71 : decode cX7_sign 71 = .ok (.bipush 10, 2) := by decide +kernel
theorem dX7_sign_73 : decode cX7_sign 73 = .ok (.istore 4, 2) := by decide +kernel
theorem dX7_sign_75 : decode cX7_sign 75 = .ok (.iload_n 2, 1) := by decide +kernel
theorem dX7_sign_76 : decode cX7_sign 76 = .ok (.bipush 47, 2) := by decide +kernel
theorem dX7_sign_78 : decode cX7_sign 78 = .ok (.if_icmp .ne 7, 3) := by decide +kernel
theorem dX7_sign_81 : decode cX7_sign 81 = .ok (.bipush 15, 2) := by decide +kernel
theorem dX7_sign_83 : decode cX7_sign 83 = .ok (.istore 4, 2) := by decide +kernel
theorem dX7_sign_85 : decode cX7_sign 85 = .ok (.iload_n 2, 1) := by decide +kernel
theorem dX7_sign_86 : decode cX7_sign 86 = .ok (.bipush 60, 2) := by decide +kernel
theorem dX7_sign_88 : decode cX7_sign 88 = .ok (.if_icmp .ne 7, 3) := by decide +kernel
theorem dX7_sign_91 : decode cX7_sign 91 = .ok (.bipush 13, 2) := by decide +kernel
theorem dX7_sign_93 : decode cX7_sign 93 = .ok (.istore 4, 2) := by decide +kernel
theorem dX7_sign_95 : decode cX7_sign 95 = .ok (.aload_n 0, 1) := by decide +kernel
theorem dX7_sign_96 : decode cX7_sign 96 = .ok (.iload 4, 2) := by decide +kernel
theorem dX7_sign_98 : decode cX7_sign 98 = .ok (.iload_n 1, 1) := by decide +kernel
theorem dX7_sign_99 : decode cX7_sign 99 = .ok (.iconst 0, 1) := by decide +kernel
theorem dX7_sign_100 : decode cX7_sign 100 = .ok (.lconst 0, 1) := by decide +kernel
theorem dX7_sign_101 : decode cX7_sign 101 = .ok (.invokevirtual 173, 3) := by decide +kernel
theorem dX7_sign_104 : decode cX7_sign 104 = .ok (.iconst 1, 1) := by decide +kernel
theorem dX7_sign_105 : decode cX7_sign 105 = .ok (.ireturn, 1) := by decide +kernel
theorem dX7_is_0 : decode cX7_is 0 = .ok (.aload_n 0, 1) := by decide +kernel
theorem dX7_is_1 : decode cX7_is 1 = .ok (.getfield 188, 3) := by decide +kernel
theorem dX7_is_4 : decode cX7_is 4 = .ok (.ifCond .ne 20, 3) := by decide +kernel
theorem dX7_is_7 : decode cX7_is 7 = .ok (.aload_n 0, 1) := by decide +kernel
theorem dX7_is_8 : decode cX7_is 8 = .ok (.getfield 20, 3) := by decide +kernel
theorem dX7_is_11 : decode cX7_is 11 = .ok (.aload_n 0, 1) := by decide +kernel
theorem dX7_is_12 : decode cX7_is 12 = .ok (.getfield 191, 3) := by decide +kernel
theorem dX7_is_15 : decode cX7_is 15 = .ok (.iaload, 1) := by decide +kernel
theorem dX7_is_16 : decode cX7_is 16 = .ok (.iload_n 1, 1) := by decide +kernel
theorem dX7_is_17 : decode cX7_is 17 = .ok (.if_icmp .ne 7, 3) := by decide +kernel
theorem dX7_is_20 : decode cX7_is 20 = .ok (.iconst 1, 1) := by decide +kernel
theorem dX7_is_21 : decode cX7_is 21 = .ok (.goto 4, 3) := by decide +kernel
theorem dX7_is_24 : decode cX7_is 24 = .ok (.iconst 0, 1) := by decide +kernel
theorem dX7_is_25 : decode cX7_is 25 = .ok (.ireturn, 1) := by decide +kernel
theorem dX7_fail_0 : decode cX7_fail 0 = .ok (.aload_n 0, 1) := by decide +kernel
theorem dX7_fail_1 : decode cX7_fail 1 = .ok (.getfield 188, 3) := by decide +kernel
theorem dX7_fail_4 : decode cX7_fail 4 = .ok (.ifCond .le 4, 3) := by decide +kernel
theorem dX7_fail_7 : decode cX7_fail 7 = .ok (.return_, 1) := by decide +kernel
theorem dX7_fail_8 : decode cX7_fail 8 = .ok (.aload_n 0, 1) := by decide +kernel
theorem dX7_fail_9 : decode cX7_fail 9 = .ok (.iload_n 1, 1) := by decide +kernel
theorem dX7_fail_10 : decode cX7_fail 10 = .ok (.putfield 188, 3) := by decide +kernel
theorem dX7_fail_13 : decode cX7_fail 13 = .ok (.aload_n 0, 1) := by decide +kernel
theorem dX7_fail_14 : decode cX7_fail 14 = .ok (.aload_n 0, 1) := by decide +kernel
theorem dX7_fail_15 : decode cX7_fail 15 = .ok (.getfield 24, 3) := by decide +kernel
theorem dX7_fail_18 : decode cX7_fail 18 = .ok (.aload_n 0, 1) := by decide +kernel
theorem dX7_fail_19 : decode cX7_fail 19 = .ok (.getfield 191, 3) := by decide +kernel
theorem dX7_fail_22 : decode cX7_fail 22 = .ok (.iaload, 1) := by decide +kernel
theorem dX7_fail_23 : decode cX7_fail 23 = .ok (.putfield 194, 3) := by decide +kernel
theorem dX7_fail_26 : decode cX7_fail 26 = .ok (.return_, 1) := by decide +kernel
theorem dX7_wrong_0 : decode cX7_wrong 0 = .ok (.aload_n 0, 1) := by decide +kernel
theorem dX7_wrong_1 : decode cX7_wrong 1 = .ok (.getfield 24, 3) := by decide +kernel
theorem dX7_wrong_4 : decode cX7_wrong 4 = .ok (.iload_n 2, 1) := by decide +kernel
theorem dX7_wrong_5 : decode cX7_wrong 5 = .ok (.iaload, 1) := by decide +kernel
theorem dX7_wrong_6 : decode cX7_wrong 6 = .ok (.istore_n 3, 1) := by decide +kernel
theorem dX7_wrong_7 : decode cX7_wrong 7 = .ok (.aload_n 0, 1) := by decide +kernel
theorem dX7_wrong_8 : decode cX7_wrong 8 = .ok (.getfield 188, 3) := by decide +kernel
theorem dX7_wrong_11 : decode cX7_wrong 11 = .ok (.ifCond .gt 34, 3) := by decide +kernel
theorem dX7_wrong_14 : decode cX7_wrong 14 = .ok (.aload_n 0, 1) := by decide +kernel
theorem dX7_wrong_15 : decode cX7_wrong 15 = .ok (.getfield 197, 3) := by decide +kernel
theorem dX7_wrong_18 : decode cX7_wrong 18 = .ok (.ifCond .eq 28, 3) := by decide +kernel
theorem dX7_wrong_21 : decode cX7_wrong 21 = .ok (.iload_n 3, 1) := by decide +kernel
theorem dX7_wrong_22 : decode cX7_wrong 22 = .ok (.aload_n 0, 1) := by decide +kernel
theorem dX7_wrong_23 : decode cX7_wrong 23 = .ok (.getfield 200, 3) := by decide +kernel
theorem dX7_wrong_26 : decode cX7_wrong 26 = .ok (.if_icmp .gt 19, 3) := by decide +kernel
theorem dX7_wrong_29 : decode cX7_wrong 29 = .ok (.iload_n 3, 1) := by decide +kernel
theorem dX7_wrong_30 : decode cX7_wrong 30 = .ok (.aload_n 0, 1) := by decide +kernel
theorem dX7_wrong_31 : decode cX7_wrong 31 = .ok (.getfield 200, 3) := by decide +kernel
theorem dX7_wrong_34 : decode cX7_wrong 34 = .ok (.if_icmp .ne 12, 3) := by decide +kernel
theorem dX7_wrong_37 : decode cX7_wrong 37 = .ok (.iload_n 1, 1) := by decide +kernel
theorem dX7_wrong_38 : decode cX7_wrong 38 = .ok (.aload_n 0, 1) := by decide +kernel
theorem dX7_wrong_39 : decode cX7_wrong 39 = .ok (.getfield 197, 3) := by decide +kernel
theorem dX7_wrong_42 : decode cX7_wrong 42 = .ok (.if_icmp .lt 4, 3) := by decide +kernel
theorem dX7_wrong_45 : decode cX7_wrong 45 = .ok (.return_, 1) := by decide +kernel
theorem dX7_wrong_46 : decode cX7_wrong 46 = .ok (.aload_n 0, 1) := by decide +kernel
theorem dX7_wrong_47 : decode cX7_wrong 47 = .ok (.iload_n 1, 1) := by decide +kernel
theorem dX7_wrong_48 : decode cX7_wrong 48 = .ok (.putfield 197, 3) := by decide +kernel
theorem dX7_wrong_51 : decode cX7_wrong 51 = .ok (.aload_n 0, 1) := by decide +kernel
theorem dX7_wrong_52 : decode cX7_wrong 52 = .ok (.iload_n 3, 1) := by decide +kernel
theorem dX7_wrong_53 : decode cX7_wrong 53 = .ok (.putfield 200, 3) := by decide +kernel
theorem dX7_wrong_56 : decode cX7_wrong 56 = .ok (.return_, 1) := by decide +kernel
theorem dX7_goesOn_0 : decode cX7_goesOn 0 = .ok (.aload_n 0, 1) := by decide +kernel
theorem dX7_goesOn_1 : decode cX7_goesOn 1 = .ok (.getfield 191, 3) := by decide +kernel
theorem dX7_goesOn_4 : decode cX7_goesOn 4 = .ok (.sipush 400, 3) := by decide +kernel
theorem dX7_goesOn_7 : decode cX7_goesOn 7 = .ok (.if_icmp .ne 11, 3) := by decide +kernel
theorem dX7_goesOn_10 : decode cX7_goesOn 10 = .ok (.aload_n 0, 1) := by decide +kernel
theorem dX7_goesOn_11 : decode cX7_goesOn 11 = .ok (.iconst 2, 1) := by decide +kernel
theorem dX7_goesOn_12 : decode cX7_goesOn 12 = .ok (.invokevirtual 203, 3) := by decide +kernel
theorem dX7_goesOn_15 : decode cX7_goesOn 15 = .ok (.goto 13, 3) := by decide +kernel
theorem dX7_goesOn_18 : decode cX7_goesOn 18 = .ok (.aload_n 0, 1) := by decide +kernel
theorem dX7_goesOn_19 : decode cX7_goesOn 19 = .ok (.dup, 1) := by decide +kernel
theorem dX7_goesOn_20 : decode cX7_goesOn 20 = .ok (.getfield 191, 3) := by decide +kernel
theorem dX7_goesOn_23 : decode cX7_goesOn 23 = .ok (.iconst 1, 1) := by decide +kernel
theorem dX7_goesOn_24 : decode cX7_goesOn 24 = .ok (.iadd, 1) := by decide +kernel
theorem dX7_goesOn_25 : decode cX7_goesOn 25 = .ok (.putfield 191, 3) := by decide +kernel
theorem dX7_goesOn_28 : decode cX7_goesOn 28 = .ok (.return_, 1) := by decide +kernel
theorem dX7_must_0 : decode cX7_must 0 = .ok (.aload_n 0, 1) := by decide +kernel
theorem dX7_must_1 : decode cX7_must 1 = .ok (.iload_n 1, 1) := by decide +kernel
theorem dX7_must_2 : decode cX7_must 2 = .ok (.invokevirtual 206, 3) := by decide +kernel
theorem dX7_must_5 : decode cX7_must 5 = .ok (.ifCond .eq 10, 3) := by decide +kernel
theorem dX7_must_8 : decode cX7_must 8 = .ok (.aload_n 0, 1) := by decide +kernel
theorem dX7_must_9 : decode cX7_must 9 = .ok (.invokevirtual 209, 3) := by decide +kernel
theorem dX7_must_12 : decode cX7_must 12 = .ok (.goto 8, 3) := by decide +kernel
theorem dX7_must_15 : decode cX7_must 15 = .ok (.aload_n 0, 1) := by decide +kernel
theorem dX7_must_16 : decode cX7_must 16 = .ok (.iconst 1, 1) := by decide +kernel
theorem dX7_must_17 : decode cX7_must 17 = .ok (.invokevirtual 203, 3) := by decide +kernel
theorem dX7_must_20 : decode cX7_must 20 = .ok (.return_, 1) := by decide +kernel
theorem dX7_plain_0 : decode cX7_plain 0 = .ok (.aload_n 0, 1) := by decide +kernel
theorem dX7_plain_1 : decode cX7_plain 1 = .ok (.getfield 43, 3) := by decide +kernel
theorem dX7_plain_4 : decode cX7_plain 4 = .ok (.iload_n 1, 1) := by decide +kernel
theorem dX7_plain_5 : decode cX7_plain 5 = .ok (.iconst 0, 1) := by decide +kernel
theorem dX7_plain_6 : decode cX7_plain 6 = .ok (.iastore, 1) := by decide +kernel
theorem dX7_plain_7 : decode cX7_plain 7 = .ok (.aload_n 0, 1) := by decide +kernel
theorem dX7_plain_8 : decode cX7_plain 8 = .ok (.getfield 59, 3) := by decide +kernel
theorem dX7_plain_11 : decode cX7_plain 11 = .ok (.iload_n 1, 1) := by decide +kernel
theorem dX7_plain_12 : decode cX7_plain 12 = .ok (.iconst 0, 1) := by decide +kernel
theorem dX7_plain_13 : decode cX7_plain 13 = .ok (.iastore, 1) := by decide +kernel
theorem dX7_plain_14 : decode cX7_plain 14 = .ok (.aload_n 0, 1) := by decide +kernel
theorem dX7_plain_15 : decode cX7_plain 15 = .ok (.getfield 68, 3) := by decide +kernel
theorem dX7_plain_18 : decode cX7_plain 18 = .ok (.iload_n 1, 1) := by decide +kernel
theorem dX7_plain_19 : decode cX7_plain 19 = .ok (.iconst 0, 1) := by decide +kernel
theorem dX7_plain_20 : decode cX7_plain 20 = .ok (.iastore, 1) := by decide +kernel
theorem dX7_plain_21 : decode cX7_plain 21 = .ok (.iconst 0, 1) := by decide +kernel
theorem dX7_plain_22 : decode cX7_plain 22 = .ok (.istore_n 2, 1) := by decide +kernel
theorem dX7_plain_23 : decode cX7_plain 23 = .ok (.iload_n 2, 1) := by decide +kernel
theorem dX7_plain_24 : decode cX7_plain 24 = .ok (.bipush 8, 2) := by decide +kernel
theorem dX7_plain_26 : decode cX7_plain 26 = .ok (.if_icmp .ge 21, 3) := by decide +kernel
theorem dX7_plain_29 : decode cX7_plain 29 = .ok (.aload_n 0, 1) := by decide +kernel
theorem dX7_plain_30 : decode cX7_plain 30 = .ok (.getfield 55, 3) := by decide +kernel
theorem dX7_plain_33 : decode cX7_plain 33 = .ok (.bipush 8, 2) := by decide +kernel
theorem dX7_plain_35 : decode cX7_plain 35 = .ok (.iload_n 1, 1) := by decide +kernel
theorem dX7_plain_36 : decode cX7_plain 36 = .ok (.imul, 1) := by decide +kernel
theorem dX7_plain_37 : decode cX7_plain 37 = .ok (.iload_n 2, 1) := by decide +kernel
theorem dX7_plain_38 : decode cX7_plain 38 = .ok (.iadd, 1) := by decide +kernel
theorem dX7_plain_39 : decode cX7_plain 39 = .ok (.iconst 0, 1) := by decide +kernel
theorem dX7_plain_40 : decode cX7_plain 40 = .ok (.bastore, 1) := by decide +kernel
theorem dX7_plain_41 : decode cX7_plain 41 = .ok (.iinc 2 1, 3) := by decide +kernel
theorem dX7_plain_44 : decode cX7_plain 44 = .ok (.goto (-21), 3) := by decide +kernel
theorem dX7_plain_47 : decode cX7_plain 47 = .ok (.iconst 0, 1) := by decide +kernel
theorem dX7_plain_48 : decode cX7_plain 48 = .ok (.istore_n 2, 1) := by decide +kernel
theorem dX7_plain_49 : decode cX7_plain 49 = .ok (.iload_n 2, 1) := by decide +kernel
theorem dX7_plain_50 : decode cX7_plain 50 = .ok (.iconst 4, 1) := by decide +kernel
theorem dX7_plain_51 : decode cX7_plain 51 = .ok (.if_icmp .ge 31, 3) := by decide +kernel
theorem dX7_plain_54 : decode cX7_plain 54 = .ok (.aload_n 0, 1) := by decide +kernel
theorem dX7_plain_55 : decode cX7_plain 55 = .ok (.getfield 71, 3) := by decide +kernel
theorem dX7_plain_58 : decode cX7_plain 58 = .ok (.iconst 4, 1) := by decide +kernel
theorem dX7_plain_59 : decode cX7_plain 59 = .ok (.iload_n 1, 1) := by decide +kernel
theorem dX7_plain_60 : decode cX7_plain 60 = .ok (.imul, 1) := by decide +kernel
theorem dX7_plain_61 : decode cX7_plain 61 = .ok (.iload_n 2, 1) := by decide +kernel
theorem dX7_plain_62 : decode cX7_plain 62 = .ok (.iadd, 1) := by decide +kernel
theorem dX7_plain_63 : decode cX7_plain 63 = .ok (.iconst 0, 1) := by decide +kernel
theorem dX7_plain_64 : decode cX7_plain 64 = .ok (.iastore, 1) := by decide +kernel
theorem dX7_plain_65 : decode cX7_plain 65 = .ok (.aload_n 0, 1) := by decide +kernel
theorem dX7_plain_66 : decode cX7_plain 66 = .ok (.getfield 74, 3) := by decide +kernel
theorem dX7_plain_69 : decode cX7_plain 69 = .ok (.iconst 4, 1) := by decide +kernel
theorem dX7_plain_70 : decode cX7_plain 70 = .ok (.iload_n 1, 1) := by decide +kernel
theorem dX7_plain_71 : decode cX7_plain 71 = .ok (.imul, 1) := by decide +kernel
theorem dX7_plain_72 : decode cX7_plain 72 = .ok (.iload_n 2, 1) := by decide +kernel
theorem dX7_plain_73 : decode cX7_plain 73 = .ok (.iadd, 1) := by decide +kernel
theorem dX7_plain_74 : decode cX7_plain 74 = .ok (.iconst 0, 1) := by decide +kernel
theorem dX7_plain_75 : decode cX7_plain 75 = .ok (.iastore, 1) := by decide +kernel
theorem dX7_plain_76 : decode cX7_plain 76 = .ok (.iinc 2 1, 3) := by decide +kernel
theorem dX7_plain_79 : decode cX7_plain 79 = .ok (.goto (-30), 3) := by decide +kernel
theorem dX7_plain_82 : decode cX7_plain 82 = .ok (.return_, 1) := by decide +kernel
theorem dX7_read_0 : decode cX7_read 0 = .ok (.aload_n 0, 1) := by decide +kernel
theorem dX7_read_1 : decode cX7_read 1 = .ok (.aload_n 0, 1) := by decide +kernel
theorem dX7_read_2 : decode cX7_read 2 = .ok (.getfield 151, 3) := by decide +kernel
theorem dX7_read_5 : decode cX7_read 5 = .ok (.putfield 157, 3) := by decide +kernel
theorem dX7_read_8 : decode cX7_read 8 = .ok (.iconst 0, 1) := by decide +kernel
theorem dX7_read_9 : decode cX7_read 9 = .ok (.istore_n 1, 1) := by decide +kernel
theorem dX7_read_10 : decode cX7_read 10 = .ok (.iload_n 1, 1) := by decide +kernel
theorem dX7_read_11 : decode cX7_read 11 = .ok (.aload_n 0, 1) := by decide +kernel
theorem dX7_read_12 : decode cX7_read 12 = .ok (.getfield 157, 3) := by decide +kernel
theorem dX7_read_15 : decode cX7_read 15 = .ok (.if_icmp .ge 21, 3) := by decide +kernel
theorem dX7_read_18 : decode cX7_read 18 = .ok (.aload_n 0, 1) := by decide +kernel
theorem dX7_read_19 : decode cX7_read 19 = .ok (.getfield 17, 3) := by decide +kernel
theorem dX7_read_22 : decode cX7_read 22 = .ok (.iload_n 1, 1) := by decide +kernel
theorem dX7_read_23 : decode cX7_read 23 = .ok (.aload_n 0, 1) := by decide +kernel
theorem dX7_read_24 : decode cX7_read 24 = .ok (.getfield 13, 3) := by decide +kernel
theorem dX7_read_27 : decode cX7_read 27 = .ok (.iload_n 1, 1) := by decide +kernel
theorem dX7_read_28 : decode cX7_read 28 = .ok (.baload, 1) := by decide +kernel
theorem dX7_read_29 : decode cX7_read 29 = .ok (.bastore, 1) := by decide +kernel
theorem dX7_read_30 : decode cX7_read 30 = .ok (.iinc 1 1, 3) := by decide +kernel
theorem dX7_read_33 : decode cX7_read 33 = .ok (.goto (-23), 3) := by decide +kernel
theorem dX7_read_36 : decode cX7_read 36 = .ok (.aload_n 0, 1) := by decide +kernel
theorem dX7_read_37 : decode cX7_read 37 = .ok (.iconst 0, 1) := by decide +kernel
theorem dX7_read_38 : decode cX7_read 38 = .ok (.putfield 151, 3) := by decide +kernel
theorem dX7_read_41 : decode cX7_read 41 = .ok (.aload_n 0, 1) := by decide +kernel
theorem dX7_read_42 : decode cX7_read 42 = .ok (.invokevirtual 212, 3) := by decide +kernel
theorem dX7_read_45 : decode cX7_read 45 = .ok (.aload_n 0, 1) := by decide +kernel
theorem dX7_read_46 : decode cX7_read 46 = .ok (.iconst 0, 1) := by decide +kernel
theorem dX7_read_47 : decode cX7_read 47 = .ok (.putfield 191, 3) := by decide +kernel
theorem dX7_read_50 : decode cX7_read 50 = .ok (.aload_n 0, 1) := by decide +kernel
theorem dX7_read_51 : decode cX7_read 51 = .ok (.iconst 0, 1) := by decide +kernel
theorem dX7_read_52 : decode cX7_read 52 = .ok (.putfield 215, 3) := by decide +kernel
theorem dX7_read_55 : decode cX7_read 55 = .ok (.aload_n 0, 1) := by decide +kernel
theorem dX7_read_56 : decode cX7_read 56 = .ok (.iconst 0, 1) := by decide +kernel
theorem dX7_read_57 : decode cX7_read 57 = .ok (.putfield 188, 3) := by decide +kernel
theorem dX7_read_60 : decode cX7_read 60 = .ok (.aload_n 0, 1) := by decide +kernel
theorem dX7_read_61 : decode cX7_read 61 = .ok (.iconst 0, 1) := by decide +kernel
theorem dX7_read_62 : decode cX7_read 62 = .ok (.putfield 197, 3) := by decide +kernel
theorem dX7_read_65 : decode cX7_read 65 = .ok (.aload_n 0, 1) := by decide +kernel
theorem dX7_read_66 : decode cX7_read 66 = .ok (.iconst 1, 1) := by decide +kernel
theorem dX7_read_67 : decode cX7_read 67 = .ok (.aload_n 0, 1) := by decide +kernel
theorem dX7_read_68 : decode cX7_read 68 = .ok (.getfield 218, 3) := by decide +kernel
theorem dX7_read_71 : decode cX7_read 71 = .ok (.isub, 1) := by decide +kernel
theorem dX7_read_72 : decode cX7_read 72 = .ok (.putfield 221, 3) := by decide +kernel
theorem dX7_read_75 : decode cX7_read 75 = .ok (.aload_n 0, 1) := by decide +kernel
theorem dX7_read_76 : decode cX7_read 76 = .ok (.iconst 0, 1) := by decide +kernel
theorem dX7_read_77 : decode cX7_read 77 = .ok (.putfield 224, 3) := by decide +kernel
theorem dX7_read_80 : decode cX7_read 80 = .ok (.aload_n 0, 1) := by decide +kernel
theorem dX7_read_81 : decode cX7_read 81 = .ok (.aload_n 0, 1) := by decide +kernel
theorem dX7_read_82 : decode cX7_read 82 = .ok (.getfield 221, 3) := by decide +kernel
theorem dX7_read_85 : decode cX7_read 85 = .ok (.invokevirtual 137, 3) := by decide +kernel
theorem dX7_read_88 : decode cX7_read 88 = .ok (.aload_n 0, 1) := by decide +kernel
theorem dX7_read_89 : decode cX7_read 89 = .ok (.sipush 130, 3) := by decide +kernel
theorem dX7_read_92 : decode cX7_read 92 = .ok (.aload_n 0, 1) := by decide +kernel
theorem dX7_read_93 : decode cX7_read 93 = .ok (.getfield 221, 3) := by decide +kernel
theorem dX7_read_96 : decode cX7_read 96 = .ok (.imul, 1) := by decide +kernel
theorem dX7_read_97 : decode cX7_read 97 = .ok (.putfield 227, 3) := by decide +kernel
theorem dX7_read_100 : decode cX7_read 100 = .ok (.aload_n 0, 1) := by decide +kernel
theorem dX7_read_101 : decode cX7_read 101 = .ok (.sipush 420, 3) := by decide +kernel
theorem dX7_read_104 : decode cX7_read 104 = .ok (.aload_n 0, 1) := by decide +kernel
theorem dX7_read_105 : decode cX7_read 105 = .ok (.getfield 221, 3) := by decide +kernel
theorem dX7_read_108 : decode cX7_read 108 = .ok (.imul, 1) := by decide +kernel
theorem dX7_read_109 : decode cX7_read 109 = .ok (.putfield 230, 3) := by decide +kernel
theorem dX7_read_112 : decode cX7_read 112 = .ok (.aload_n 0, 1) := by decide +kernel
theorem dX7_read_113 : decode cX7_read 113 = .ok (.getfield 188, 3) := by decide +kernel
theorem dX7_read_116 : decode cX7_read 116 = .ok (.ifCond .ne 18, 3) := by decide +kernel
theorem dX7_read_119 : decode cX7_read 119 = .ok (.aload_n 0, 1) := by decide +kernel
theorem dX7_read_120 : decode cX7_read 120 = .ok (.iconst 0, 1) := by decide +kernel
theorem dX7_read_121 : decode cX7_read 121 = .ok (.invokevirtual 206, 3) := by decide +kernel
theorem dX7_read_124 : decode cX7_read 124 = .ok (.ifCond .ne 10, 3) := by decide +kernel
theorem dX7_read_127 : decode cX7_read 127 = .ok (.aload_n 0, 1) := by decide +kernel
theorem dX7_read_128 : decode cX7_read 128 = .ok (.invokevirtual 233, 3) := by decide +kernel
theorem dX7_read_131 : decode cX7_read 131 = .ok (.goto (-19), 3) := by decide +kernel
theorem dX7_read_134 : decode cX7_read 134 = .ok (.aload_n 0, 1) := by decide +kernel
theorem dX7_read_135 : decode cX7_read 135 = .ok (.aload_n 0, 1) := by decide +kernel
theorem dX7_read_136 : decode cX7_read 136 = .ok (.getfield 188, 3) := by decide +kernel
theorem dX7_read_139 : decode cX7_read 139 = .ok (.ifCond .le 10, 3) := by decide +kernel
theorem dX7_read_142 : decode cX7_read 142 = .ok (.aload_n 0, 1) := by decide +kernel
theorem dX7_read_143 : decode cX7_read 143 = .ok (.getfield 194, 3) := by decide +kernel
theorem dX7_read_146 : decode cX7_read 146 = .ok (.goto 18, 3) := by decide +kernel
theorem dX7_read_149 : decode cX7_read 149 = .ok (.aload_n 0, 1) := by decide +kernel
theorem dX7_read_150 : decode cX7_read 150 = .ok (.getfield 197, 3) := by decide +kernel
theorem dX7_read_153 : decode cX7_read 153 = .ok (.ifCond .le 10, 3) := by decide +kernel
theorem dX7_read_156 : decode cX7_read 156 = .ok (.aload_n 0, 1) := by decide +kernel
theorem dX7_read_157 : decode cX7_read 157 = .ok (.getfield 200, 3) := by decide +kernel
theorem dX7_read_160 : decode cX7_read 160 = .ok (.goto 4, 3) := by decide +kernel
theorem dX7_read_163 : decode cX7_read 163 = .ok (.iconst (-1), 1) := by decide +kernel
theorem dX7_read_164 : decode cX7_read 164 = .ok (.putfield 37, 3) := by decide +kernel
theorem dX7_read_167 : decode cX7_read 167 = .ok (.aload_n 0, 1) := by decide +kernel
theorem dX7_read_168 : decode cX7_read 168 = .ok (.getfield 188, 3) := by decide +kernel
theorem dX7_read_171 : decode cX7_read 171 = .ok (.ifCond .le 8, 3) := by decide +kernel
theorem dX7_read_174 : decode cX7_read 174 = .ok (.aload_n 0, 1) := by decide +kernel
theorem dX7_read_175 : decode cX7_read 175 = .ok (.getfield 188, 3) := by decide +kernel
theorem dX7_read_178 : decode cX7_read 178 = .ok (.ireturn, 1) := by decide +kernel
theorem dX7_read_179 : decode cX7_read 179 = .ok (.aload_n 0, 1) := by decide +kernel
theorem dX7_read_180 : decode cX7_read 180 = .ok (.getfield 197, 3) := by decide +kernel
theorem dX7_read_183 : decode cX7_read 183 = .ok (.ifCond .le 8, 3) := by decide +kernel
theorem dX7_read_186 : decode cX7_read 186 = .ok (.aload_n 0, 1) := by decide +kernel
theorem dX7_read_187 : decode cX7_read 187 = .ok (.getfield 197, 3) := by decide +kernel
theorem dX7_read_190 : decode cX7_read 190 = .ok (.ireturn, 1) := by decide +kernel
theorem dX7_read_191 : decode cX7_read 191 = .ok (.aload_n 0, 1) := by decide +kernel
theorem dX7_read_192 : decode cX7_read 192 = .ok (.aload_n 0, 1) := by decide +kernel
theorem dX7_read_193 : decode cX7_read 193 = .ok (.getfield 221, 3) := by decide +kernel
theorem dX7_read_196 : decode cX7_read 196 = .ok (.putfield 218, 3) := by decide +kernel
theorem dX7_read_199 : decode cX7_read 199 = .ok (.aload_n 0, 1) := by decide +kernel
theorem dX7_read_200 : decode cX7_read 200 = .ok (.invokevirtual 145, 3) := by decide +kernel
theorem dX7_read_203 : decode cX7_read 203 = .ok (.aload_n 0, 1) := by decide +kernel
theorem dX7_read_204 : decode cX7_read 204 = .ok (.invokevirtual 148, 3) := by decide +kernel
theorem dX7_read_207 : decode cX7_read 207 = .ok (.aload_n 0, 1) := by decide +kernel
theorem dX7_read_208 : decode cX7_read 208 = .ok (.iconst 0, 1) := by decide +kernel
theorem dX7_read_209 : decode cX7_read 209 = .ok (.putfield 236, 3) := by decide +kernel
theorem dX7_read_212 : decode cX7_read 212 = .ok (.aload_n 0, 1) := by decide +kernel
theorem dX7_read_213 : decode cX7_read 213 = .ok (.iconst 0, 1) := by decide +kernel
theorem dX7_read_214 : decode cX7_read 214 = .ok (.putfield 239, 3) := by decide +kernel
theorem dX7_read_217 : decode cX7_read 217 = .ok (.iconst 0, 1) := by decide +kernel
theorem dX7_read_218 : decode cX7_read 218 = .ok (.istore_n 1, 1) := by decide +kernel
theorem dX7_read_219 : decode cX7_read 219 = .ok (.iload_n 1, 1) := by decide +kernel
theorem dX7_read_220 : decode cX7_read 220 = .ok (.iconst 3, 1) := by decide +kernel
theorem dX7_read_221 : decode cX7_read 221 = .ok (.if_icmp .ge 16, 3) := by decide +kernel
theorem dX7_read_224 : decode cX7_read 224 = .ok (.aload_n 0, 1) := by decide +kernel
theorem dX7_read_225 : decode cX7_read 225 = .ok (.getfield 131, 3) := by decide +kernel
theorem dX7_read_228 : decode cX7_read 228 = .ok (.iload_n 1, 1) := by decide +kernel
theorem dX7_read_229 : decode cX7_read 229 = .ok (.iconst 0, 1) := by decide +kernel
theorem dX7_read_230 : decode cX7_read 230 = .ok (.bastore, 1) := by decide +kernel
theorem dX7_read_231 : decode cX7_read 231 = .ok (.iinc 1 1, 3) := by decide +kernel
theorem dX7_read_234 : decode cX7_read 234 = .ok (.goto (-15), 3) := by decide +kernel
theorem dX7_read_237 : decode cX7_read 237 = .ok (.iconst 0, 1) := by decide +kernel
theorem dX7_read_238 : decode cX7_read 238 = .ok (.ireturn, 1) := by decide +kernel
theorem dX7_place_0 : decode cX7_place 0 = .ok (.aload_n 0, 1) := by decide +kernel
theorem dX7_place_1 : decode cX7_place 1 = .ok (.getfield 37, 3) := by decide +kernel
theorem dX7_place_4 : decode cX7_place 4 = .ok (.ireturn, 1) := by decide +kernel
theorem dX7_roomFor_0 : decode cX7_roomFor 0 = .ok (.iload_n 1, 1) := by decide +kernel
theorem dX7_roomFor_1 : decode cX7_roomFor 1 = .ok (.iload_n 2, 1) := by decide +kernel
theorem dX7_roomFor_2 : decode cX7_roomFor 2 = .ok (.if_icmp .ne 8, 3) := by decide +kernel
theorem dX7_roomFor_5 : decode cX7_roomFor 5 = .ok (.aload_n 0, 1) := by decide +kernel
theorem dX7_roomFor_6 : decode cX7_roomFor 6 = .ok (.iconst 2, 1) := by decide +kernel
theorem dX7_roomFor_7 : decode cX7_roomFor 7 = .ok (.invokevirtual 203, 3) := by decide +kernel
theorem dX7_roomFor_10 : decode cX7_roomFor 10 = .ok (.aload_n 0, 1) := by decide +kernel
theorem dX7_roomFor_11 : decode cX7_roomFor 11 = .ok (.getfield 188, 3) := by decide +kernel
theorem dX7_roomFor_14 : decode cX7_roomFor 14 = .ok (.ifCond .ne 7, 3) := by decide +kernel
theorem dX7_roomFor_17 : decode cX7_roomFor 17 = .ok (.aload_n 0, 1) := by decide +kernel
theorem dX7_roomFor_18 : decode cX7_roomFor 18 = .ok (.invokevirtual 209, 3) := by decide +kernel
theorem dX7_roomFor_21 : decode cX7_roomFor 21 = .ok (.return_, 1) := by decide +kernel
theorem dX7_tellOne_0 : decode cX7_tellOne 0 = .ok (.aload_n 0, 1) := by decide +kernel
theorem dX7_tellOne_1 : decode cX7_tellOne 1 = .ok (.getfield 20, 3) := by decide +kernel
theorem dX7_tellOne_4 : decode cX7_tellOne 4 = .ok (.aload_n 0, 1) := by decide +kernel
theorem dX7_tellOne_5 : decode cX7_tellOne 5 = .ok (.getfield 191, 3) := by decide +kernel
theorem dX7_tellOne_8 : decode cX7_tellOne 8 = .ok (.iaload, 1) := by decide +kernel
theorem dX7_tellOne_9 : decode cX7_tellOne 9 = .ok (.tableswitch 202 20 27 #[47, 76, 105, 202, 202, 202, 202, 173], 47) := by decide +kernel
theorem dX7_tellOne_56 : decode cX7_tellOne 56 = .ok (.aload_n 0, 1) := by decide +kernel
theorem dX7_tellOne_57 : decode cX7_tellOne 57 = .ok (.aload_n 0, 1) := by decide +kernel
theorem dX7_tellOne_58 : decode cX7_tellOne 58 = .ok (.getfield 43, 3) := by decide +kernel
theorem dX7_tellOne_61 : decode cX7_tellOne 61 = .ok (.aload_n 0, 1) := by decide +kernel
theorem dX7_tellOne_62 : decode cX7_tellOne 62 = .ok (.getfield 221, 3) := by decide +kernel
theorem dX7_tellOne_65 : decode cX7_tellOne 65 = .ok (.iaload, 1) := by decide +kernel
theorem dX7_tellOne_66 : decode cX7_tellOne 66 = .ok (.bipush 8, 2) := by decide +kernel
theorem dX7_tellOne_68 : decode cX7_tellOne 68 = .ok (.invokevirtual 242, 3) := by decide +kernel
theorem dX7_tellOne_71 : decode cX7_tellOne 71 = .ok (.aload_n 0, 1) := by decide +kernel
theorem dX7_tellOne_72 : decode cX7_tellOne 72 = .ok (.getfield 188, 3) := by decide +kernel
theorem dX7_tellOne_75 : decode cX7_tellOne 75 = .ok (.ifCond .ne 189, 3) := by decide +kernel
theorem dX7_tellOne_78 : decode cX7_tellOne 78 = .ok (.aload_n 0, 1) := by decide +kernel
theorem dX7_tellOne_79 : decode cX7_tellOne 79 = .ok (.invokevirtual 246, 3) := by decide +kernel
theorem dX7_tellOne_82 : decode cX7_tellOne 82 = .ok (.goto 182, 3) := by decide +kernel
theorem dX7_tellOne_85 : decode cX7_tellOne 85 = .ok (.aload_n 0, 1) := by decide +kernel
theorem dX7_tellOne_86 : decode cX7_tellOne 86 = .ok (.aload_n 0, 1) := by decide +kernel
theorem dX7_tellOne_87 : decode cX7_tellOne 87 = .ok (.getfield 59, 3) := by decide +kernel
theorem dX7_tellOne_90 : decode cX7_tellOne 90 = .ok (.aload_n 0, 1) := by decide +kernel
theorem dX7_tellOne_91 : decode cX7_tellOne 91 = .ok (.getfield 221, 3) := by decide +kernel
theorem dX7_tellOne_94 : decode cX7_tellOne 94 = .ok (.iaload, 1) := by decide +kernel
theorem dX7_tellOne_95 : decode cX7_tellOne 95 = .ok (.bipush 6, 2) := by decide +kernel
theorem dX7_tellOne_97 : decode cX7_tellOne 97 = .ok (.invokevirtual 242, 3) := by decide +kernel
theorem dX7_tellOne_100 : decode cX7_tellOne 100 = .ok (.aload_n 0, 1) := by decide +kernel
theorem dX7_tellOne_101 : decode cX7_tellOne 101 = .ok (.getfield 188, 3) := by decide +kernel
theorem dX7_tellOne_104 : decode cX7_tellOne 104 = .ok (.ifCond .ne 160, 3) := by decide +kernel
theorem dX7_tellOne_107 : decode cX7_tellOne 107 = .ok (.aload_n 0, 1) := by decide +kernel
theorem dX7_tellOne_108 : decode cX7_tellOne 108 = .ok (.invokevirtual 249, 3) := by decide +kernel
theorem dX7_tellOne_111 : decode cX7_tellOne 111 = .ok (.goto 153, 3) := by decide +kernel
theorem dX7_tellOne_114 : decode cX7_tellOne 114 = .ok (.aload_n 0, 1) := by decide +kernel
theorem dX7_tellOne_115 : decode cX7_tellOne 115 = .ok (.invokevirtual 209, 3) := by decide +kernel
theorem dX7_tellOne_118 : decode cX7_tellOne 118 = .ok (.aload_n 0, 1) := by decide +kernel
theorem dX7_tellOne_119 : decode cX7_tellOne 119 = .ok (.getfield 191, 3) := by decide +kernel
theorem dX7_tellOne_122 : decode cX7_tellOne 122 = .ok (.istore_n 1, 1) := by decide +kernel
theorem dX7_tellOne_123 : decode cX7_tellOne 123 = .ok (.aload_n 0, 1) := by decide +kernel
theorem dX7_tellOne_124 : decode cX7_tellOne 124 = .ok (.invokevirtual 252, 3) := by decide +kernel
theorem dX7_tellOne_127 : decode cX7_tellOne 127 = .ok (.istore_n 2, 1) := by decide +kernel
theorem dX7_tellOne_128 : decode cX7_tellOne 128 = .ok (.iload_n 2, 1) := by decide +kernel
theorem dX7_tellOne_129 : decode cX7_tellOne 129 = .ok (.ifCond .lt 26, 3) := by decide +kernel
theorem dX7_tellOne_132 : decode cX7_tellOne 132 = .ok (.aload_n 0, 1) := by decide +kernel
theorem dX7_tellOne_133 : decode cX7_tellOne 133 = .ok (.getfield 55, 3) := by decide +kernel
theorem dX7_tellOne_136 : decode cX7_tellOne 136 = .ok (.bipush 8, 2) := by decide +kernel
theorem dX7_tellOne_138 : decode cX7_tellOne 138 = .ok (.aload_n 0, 1) := by decide +kernel
theorem dX7_tellOne_139 : decode cX7_tellOne 139 = .ok (.getfield 221, 3) := by decide +kernel
theorem dX7_tellOne_142 : decode cX7_tellOne 142 = .ok (.imul, 1) := by decide +kernel
theorem dX7_tellOne_143 : decode cX7_tellOne 143 = .ok (.iload_n 2, 1) := by decide +kernel
theorem dX7_tellOne_144 : decode cX7_tellOne 144 = .ok (.iadd, 1) := by decide +kernel
theorem dX7_tellOne_145 : decode cX7_tellOne 145 = .ok (.baload, 1) := by decide +kernel
theorem dX7_tellOne_146 : decode cX7_tellOne 146 = .ok (.ifCond .eq 9, 3) := by decide +kernel
theorem dX7_tellOne_149 : decode cX7_tellOne 149 = .ok (.aload_n 0, 1) := by decide +kernel
theorem dX7_tellOne_150 : decode cX7_tellOne 150 = .ok (.iconst 3, 1) := by decide +kernel
theorem dX7_tellOne_151 : decode cX7_tellOne 151 = .ok (.iload_n 1, 1) := by decide +kernel
theorem dX7_tellOne_152 : decode cX7_tellOne 152 = .ok (.invokevirtual 256, 3) := by decide +kernel
theorem dX7_tellOne_155 : decode cX7_tellOne 155 = .ok (.aload_n 0, 1) := by decide +kernel
theorem dX7_tellOne_156 : decode cX7_tellOne 156 = .ok (.iconst 4, 1) := by decide +kernel
theorem dX7_tellOne_157 : decode cX7_tellOne 157 = .ok (.invokevirtual 259, 3) := by decide +kernel
theorem dX7_tellOne_160 : decode cX7_tellOne 160 = .ok (.iload_n 2, 1) := by decide +kernel
theorem dX7_tellOne_161 : decode cX7_tellOne 161 = .ok (.ifCond .lt 103, 3) := by decide +kernel
theorem dX7_tellOne_164 : decode cX7_tellOne 164 = .ok (.aload_n 0, 1) := by decide +kernel
theorem dX7_tellOne_165 : decode cX7_tellOne 165 = .ok (.getfield 55, 3) := by decide +kernel
theorem dX7_tellOne_168 : decode cX7_tellOne 168 = .ok (.bipush 8, 2) := by decide +kernel
theorem dX7_tellOne_170 : decode cX7_tellOne 170 = .ok (.aload_n 0, 1) := by decide +kernel
theorem dX7_tellOne_171 : decode cX7_tellOne 171 = .ok (.getfield 221, 3) := by decide +kernel
theorem dX7_tellOne_174 : decode cX7_tellOne 174 = .ok (.imul, 1) := by decide +kernel
theorem dX7_tellOne_175 : decode cX7_tellOne 175 = .ok (.iload_n 2, 1) := by decide +kernel
theorem dX7_tellOne_176 : decode cX7_tellOne 176 = .ok (.iadd, 1) := by decide +kernel
theorem dX7_tellOne_177 : decode cX7_tellOne 177 = .ok (.iconst 1, 1) := by decide +kernel
theorem dX7_tellOne_178 : decode cX7_tellOne 178 = .ok (.bastore, 1) := by decide +kernel
theorem dX7_tellOne_179 : decode cX7_tellOne 179 = .ok (.goto 85, 3) := by decide +kernel
theorem dX7_tellOne_182 : decode cX7_tellOne 182 = .ok (.aload_n 0, 1) := by decide +kernel
theorem dX7_tellOne_183 : decode cX7_tellOne 183 = .ok (.invokevirtual 209, 3) := by decide +kernel
theorem dX7_tellOne_186 : decode cX7_tellOne 186 = .ok (.aload_n 0, 1) := by decide +kernel
theorem dX7_tellOne_187 : decode cX7_tellOne 187 = .ok (.getfield 68, 3) := by decide +kernel
theorem dX7_tellOne_190 : decode cX7_tellOne 190 = .ok (.aload_n 0, 1) := by decide +kernel
theorem dX7_tellOne_191 : decode cX7_tellOne 191 = .ok (.getfield 221, 3) := by decide +kernel
theorem dX7_tellOne_194 : decode cX7_tellOne 194 = .ok (.aload_n 0, 1) := by decide +kernel
theorem dX7_tellOne_195 : decode cX7_tellOne 195 = .ok (.iconst 0, 1) := by decide +kernel
theorem dX7_tellOne_196 : decode cX7_tellOne 196 = .ok (.sipush 9999, 3) := by decide +kernel
theorem dX7_tellOne_199 : decode cX7_tellOne 199 = .ok (.invokevirtual 262, 3) := by decide +kernel
theorem dX7_tellOne_202 : decode cX7_tellOne 202 = .ok (.iastore, 1) := by decide +kernel
theorem dX7_tellOne_203 : decode cX7_tellOne 203 = .ok (.aload_n 0, 1) := by decide +kernel
theorem dX7_tellOne_204 : decode cX7_tellOne 204 = .ok (.iconst 4, 1) := by decide +kernel
theorem dX7_tellOne_205 : decode cX7_tellOne 205 = .ok (.invokevirtual 259, 3) := by decide +kernel
theorem dX7_tellOne_208 : decode cX7_tellOne 208 = .ok (.goto 56, 3) := by decide +kernel
theorem dX7_tellOne_211 : decode cX7_tellOne 211 = .ok (.aload_n 0, 1) := by decide +kernel
theorem dX7_tellOne_212 : decode cX7_tellOne 212 = .ok (.getfield 20, 3) := by decide +kernel
theorem dX7_tellOne_215 : decode cX7_tellOne 215 = .ok (.aload_n 0, 1) := by decide +kernel
theorem dX7_tellOne_216 : decode cX7_tellOne 216 = .ok (.getfield 191, 3) := by decide +kernel
theorem dX7_tellOne_219 : decode cX7_tellOne 219 = .ok (.iaload, 1) := by decide +kernel
theorem dX7_tellOne_220 : decode cX7_tellOne 220 = .ok (.bipush 23, 2) := by decide +kernel
theorem dX7_tellOne_222 : decode cX7_tellOne 222 = .ok (.isub, 1) := by decide +kernel
theorem dX7_tellOne_223 : decode cX7_tellOne 223 = .ok (.istore_n 1, 1) := by decide +kernel
theorem dX7_tellOne_224 : decode cX7_tellOne 224 = .ok (.iload_n 1, 1) := by decide +kernel
theorem dX7_tellOne_225 : decode cX7_tellOne 225 = .ok (.ifCond .lt 17, 3) := by decide +kernel
theorem dX7_tellOne_228 : decode cX7_tellOne 228 = .ok (.aload_n 0, 1) := by decide +kernel
theorem dX7_tellOne_229 : decode cX7_tellOne 229 = .ok (.getfield 20, 3) := by decide +kernel
theorem dX7_tellOne_232 : decode cX7_tellOne 232 = .ok (.aload_n 0, 1) := by decide +kernel
theorem dX7_tellOne_233 : decode cX7_tellOne 233 = .ok (.getfield 191, 3) := by decide +kernel
theorem dX7_tellOne_236 : decode cX7_tellOne 236 = .ok (.iaload, 1) := by decide +kernel
theorem dX7_tellOne_237 : decode cX7_tellOne 237 = .ok (.bipush 26, 2) := by decide +kernel
theorem dX7_tellOne_239 : decode cX7_tellOne 239 = .ok (.if_icmp .le 8, 3) := by decide +kernel
theorem dX7_tellOne_242 : decode cX7_tellOne 242 = .ok (.aload_n 0, 1) := by decide +kernel
theorem dX7_tellOne_243 : decode cX7_tellOne 243 = .ok (.iconst 1, 1) := by decide +kernel
theorem dX7_tellOne_244 : decode cX7_tellOne 244 = .ok (.invokevirtual 203, 3) := by decide +kernel
theorem dX7_tellOne_247 : decode cX7_tellOne 247 = .ok (.aload_n 0, 1) := by decide +kernel
theorem dX7_tellOne_248 : decode cX7_tellOne 248 = .ok (.getfield 188, 3) := by decide +kernel
theorem dX7_tellOne_251 : decode cX7_tellOne 251 = .ok (.ifCond .le 4, 3) := by decide +kernel
theorem dX7_tellOne_254 : decode cX7_tellOne 254 = .ok (.return_, 1) := by decide +kernel
theorem dX7_tellOne_255 : decode cX7_tellOne 255 = .ok (.aload_n 0, 1) := by decide +kernel
theorem dX7_tellOne_256 : decode cX7_tellOne 256 = .ok (.invokevirtual 209, 3) := by decide +kernel
theorem dX7_tellOne_259 : decode cX7_tellOne 259 = .ok (.aload_n 0, 1) := by decide +kernel
theorem dX7_tellOne_260 : decode cX7_tellOne 260 = .ok (.iload_n 1, 1) := by decide +kernel
theorem dX7_tellOne_261 : decode cX7_tellOne 261 = .ok (.invokevirtual 266, 3) := by decide +kernel
theorem dX7_tellOne_264 : decode cX7_tellOne 264 = .ok (.return_, 1) := by decide +kernel
theorem dX7_known_0 : decode cX7_known 0 = .ok (.aload_n 0, 1) := by decide +kernel
theorem dX7_known_1 : decode cX7_known 1 = .ok (.getfield 191, 3) := by decide +kernel
theorem dX7_known_4 : decode cX7_known 4 = .ok (.istore_n 1, 1) := by decide +kernel
theorem dX7_known_5 : decode cX7_known 5 = .ok (.aload_n 0, 1) := by decide +kernel
theorem dX7_known_6 : decode cX7_known 6 = .ok (.iconst 1, 1) := by decide +kernel
theorem dX7_known_7 : decode cX7_known 7 = .ok (.invokevirtual 259, 3) := by decide +kernel
theorem dX7_known_10 : decode cX7_known 10 = .ok (.aload_n 0, 1) := by decide +kernel
theorem dX7_known_11 : decode cX7_known 11 = .ok (.getfield 188, 3) := by decide +kernel
theorem dX7_known_14 : decode cX7_known 14 = .ok (.ifCond .le 5, 3) := by decide +kernel
theorem dX7_known_17 : decode cX7_known 17 = .ok (.iconst (-1), 1) := by decide +kernel
theorem dX7_known_18 : decode cX7_known 18 = .ok (.ireturn, 1) := by decide +kernel
theorem dX7_known_19 : decode cX7_known 19 = .ok (.iconst 0, 1) := by decide +kernel
theorem dX7_known_20 : decode cX7_known 20 = .ok (.istore_n 2, 1) := by decide +kernel
theorem dX7_known_21 : decode cX7_known 21 = .ok (.iload_n 2, 1) := by decide +kernel
theorem dX7_known_22 : decode cX7_known 22 = .ok (.aload_n 0, 1) := by decide +kernel
theorem dX7_known_23 : decode cX7_known 23 = .ok (.getfield 224, 3) := by decide +kernel
theorem dX7_known_26 : decode cX7_known 26 = .ok (.if_icmp .ge 27, 3) := by decide +kernel
theorem dX7_known_29 : decode cX7_known 29 = .ok (.aload_n 0, 1) := by decide +kernel
theorem dX7_known_30 : decode cX7_known 30 = .ok (.getfield 40, 3) := by decide +kernel
theorem dX7_known_33 : decode cX7_known 33 = .ok (.iload_n 2, 1) := by decide +kernel
theorem dX7_known_34 : decode cX7_known 34 = .ok (.laload, 1) := by decide +kernel
theorem dX7_known_35 : decode cX7_known 35 = .ok (.aload_n 0, 1) := by decide +kernel
theorem dX7_known_36 : decode cX7_known 36 = .ok (.getfield 30, 3) := by decide +kernel
theorem dX7_known_39 : decode cX7_known 39 = .ok (.iload_n 1, 1) := by decide +kernel
theorem dX7_known_40 : decode cX7_known 40 = .ok (.laload, 1) := by decide +kernel
theorem dX7_known_41 : decode cX7_known 41 = .ok (.lcmp, 1) := by decide +kernel
theorem dX7_known_42 : decode cX7_known 42 = .ok (.ifCond .ne 5, 3) := by decide +kernel
theorem dX7_known_45 : decode cX7_known 45 = .ok (.iload_n 2, 1) := by decide +kernel
theorem dX7_known_46 : decode cX7_known 46 = .ok (.ireturn, 1) := by decide +kernel
theorem dX7_known_47 : decode cX7_known 47 = .ok (.iinc 2 1, 3) := by decide +kernel
theorem dX7_known_50 : decode cX7_known 50 = .ok (.goto (-29), 3) := by decide +kernel
theorem dX7_known_53 : decode cX7_known 53 = .ok (.aload_n 0, 1) := by decide +kernel
theorem dX7_known_54 : decode cX7_known 54 = .ok (.iconst 4, 1) := by decide +kernel
theorem dX7_known_55 : decode cX7_known 55 = .ok (.iload_n 1, 1) := by decide +kernel
theorem dX7_known_56 : decode cX7_known 56 = .ok (.invokevirtual 256, 3) := by decide +kernel
theorem dX7_known_59 : decode cX7_known 59 = .ok (.iconst (-1), 1) := by decide +kernel
theorem dX7_known_60 : decode cX7_known 60 = .ok (.ireturn, 1) := by decide +kernel
theorem dX7_bounded_0 : decode cX7_bounded 0 = .ok (.aload_n 0, 1) := by decide +kernel
theorem dX7_bounded_1 : decode cX7_bounded 1 = .ok (.getfield 188, 3) := by decide +kernel
theorem dX7_bounded_4 : decode cX7_bounded 4 = .ok (.ifCond .gt 11, 3) := by decide +kernel
theorem dX7_bounded_7 : decode cX7_bounded 7 = .ok (.aload_n 0, 1) := by decide +kernel
theorem dX7_bounded_8 : decode cX7_bounded 8 = .ok (.iconst 2, 1) := by decide +kernel
theorem dX7_bounded_9 : decode cX7_bounded 9 = .ok (.invokevirtual 206, 3) := by decide +kernel
theorem dX7_bounded_12 : decode cX7_bounded 12 = .ok (.ifCond .ne 10, 3) := by decide +kernel
theorem dX7_bounded_15 : decode cX7_bounded 15 = .ok (.aload_n 0, 1) := by decide +kernel
theorem dX7_bounded_16 : decode cX7_bounded 16 = .ok (.iconst 1, 1) := by decide +kernel
theorem dX7_bounded_17 : decode cX7_bounded 17 = .ok (.invokevirtual 203, 3) := by decide +kernel
theorem dX7_bounded_20 : decode cX7_bounded 20 = .ok (.iload_n 1, 1) := by decide +kernel
theorem dX7_bounded_21 : decode cX7_bounded 21 = .ok (.ireturn, 1) := by decide +kernel
theorem dX7_bounded_22 : decode cX7_bounded 22 = .ok (.aload_n 0, 1) := by decide +kernel
theorem dX7_bounded_23 : decode cX7_bounded 23 = .ok (.getfield 27, 3) := by decide +kernel
theorem dX7_bounded_26 : decode cX7_bounded 26 = .ok (.aload_n 0, 1) := by decide +kernel
theorem dX7_bounded_27 : decode cX7_bounded 27 = .ok (.getfield 191, 3) := by decide +kernel
theorem dX7_bounded_30 : decode cX7_bounded 30 = .ok (.iaload, 1) := by decide +kernel
theorem dX7_bounded_31 : decode cX7_bounded 31 = .ok (.istore_n 3, 1) := by decide +kernel
theorem dX7_bounded_32 : decode cX7_bounded 32 = .ok (.iload_n 3, 1) := by decide +kernel
theorem dX7_bounded_33 : decode cX7_bounded 33 = .ok (.iload_n 1, 1) := by decide +kernel
theorem dX7_bounded_34 : decode cX7_bounded 34 = .ok (.if_icmp .lt 8, 3) := by decide +kernel
theorem dX7_bounded_37 : decode cX7_bounded 37 = .ok (.iload_n 3, 1) := by decide +kernel
theorem dX7_bounded_38 : decode cX7_bounded 38 = .ok (.iload_n 2, 1) := by decide +kernel
theorem dX7_bounded_39 : decode cX7_bounded 39 = .ok (.if_icmp .le 12, 3) := by decide +kernel
theorem dX7_bounded_42 : decode cX7_bounded 42 = .ok (.aload_n 0, 1) := by decide +kernel
theorem dX7_bounded_43 : decode cX7_bounded 43 = .ok (.iconst 5, 1) := by decide +kernel
theorem dX7_bounded_44 : decode cX7_bounded 44 = .ok (.aload_n 0, 1) := by decide +kernel
theorem dX7_bounded_45 : decode cX7_bounded 45 = .ok (.getfield 191, 3) := by decide +kernel
theorem dX7_bounded_48 : decode cX7_bounded 48 = .ok (.invokevirtual 256, 3) := by decide +kernel
theorem dX7_bounded_51 : decode cX7_bounded 51 = .ok (.aload_n 0, 1) := by decide +kernel
theorem dX7_bounded_52 : decode cX7_bounded 52 = .ok (.invokevirtual 209, 3) := by decide +kernel
theorem dX7_bounded_55 : decode cX7_bounded 55 = .ok (.iload_n 3, 1) := by decide +kernel
theorem dX7_bounded_56 : decode cX7_bounded 56 = .ok (.ireturn, 1) := by decide +kernel
theorem dX7_tellHouse_0 : decode cX7_tellHouse 0 = .ok (.bipush 8, 2) := by decide +kernel
theorem dX7_tellHouse_2 : decode cX7_tellHouse 2 = .ok (.aload_n 0, 1) := by decide +kernel
theorem dX7_tellHouse_3 : decode cX7_tellHouse 3 = .ok (.getfield 221, 3) := by decide +kernel
theorem dX7_tellHouse_6 : decode cX7_tellHouse 6 = .ok (.imul, 1) := by decide +kernel
theorem dX7_tellHouse_7 : decode cX7_tellHouse 7 = .ok (.aload_n 0, 1) := by decide +kernel
theorem dX7_tellHouse_8 : decode cX7_tellHouse 8 = .ok (.getfield 43, 3) := by decide +kernel
theorem dX7_tellHouse_11 : decode cX7_tellHouse 11 = .ok (.aload_n 0, 1) := by decide +kernel
theorem dX7_tellHouse_12 : decode cX7_tellHouse 12 = .ok (.getfield 221, 3) := by decide +kernel
theorem dX7_tellHouse_15 : decode cX7_tellHouse 15 = .ok (.iaload, 1) := by decide +kernel
theorem dX7_tellHouse_16 : decode cX7_tellHouse 16 = .ok (.iadd, 1) := by decide +kernel
theorem dX7_tellHouse_17 : decode cX7_tellHouse 17 = .ok (.istore_n 1, 1) := by decide +kernel
theorem dX7_tellHouse_18 : decode cX7_tellHouse 18 = .ok (.aload_n 0, 1) := by decide +kernel
theorem dX7_tellHouse_19 : decode cX7_tellHouse 19 = .ok (.getfield 191, 3) := by decide +kernel
theorem dX7_tellHouse_22 : decode cX7_tellHouse 22 = .ok (.istore_n 2, 1) := by decide +kernel
theorem dX7_tellHouse_23 : decode cX7_tellHouse 23 = .ok (.aload_n 0, 1) := by decide +kernel
theorem dX7_tellHouse_24 : decode cX7_tellHouse 24 = .ok (.iconst 1, 1) := by decide +kernel
theorem dX7_tellHouse_25 : decode cX7_tellHouse 25 = .ok (.invokevirtual 259, 3) := by decide +kernel
theorem dX7_tellHouse_28 : decode cX7_tellHouse 28 = .ok (.iconst 0, 1) := by decide +kernel
theorem dX7_tellHouse_29 : decode cX7_tellHouse 29 = .ok (.istore_n 3, 1) := by decide +kernel
theorem dX7_tellHouse_30 : decode cX7_tellHouse 30 = .ok (.iload_n 3, 1) := by decide +kernel
theorem dX7_tellHouse_31 : decode cX7_tellHouse 31 = .ok (.aload_n 0, 1) := by decide +kernel
theorem dX7_tellHouse_32 : decode cX7_tellHouse 32 = .ok (.getfield 224, 3) := by decide +kernel
theorem dX7_tellHouse_35 : decode cX7_tellHouse 35 = .ok (.if_icmp .ge 38, 3) := by decide +kernel
theorem dX7_tellHouse_38 : decode cX7_tellHouse 38 = .ok (.aload_n 0, 1) := by decide +kernel
theorem dX7_tellHouse_39 : decode cX7_tellHouse 39 = .ok (.getfield 188, 3) := by decide +kernel
theorem dX7_tellHouse_42 : decode cX7_tellHouse 42 = .ok (.ifCond .ne 31, 3) := by decide +kernel
theorem dX7_tellHouse_45 : decode cX7_tellHouse 45 = .ok (.aload_n 0, 1) := by decide +kernel
theorem dX7_tellHouse_46 : decode cX7_tellHouse 46 = .ok (.getfield 40, 3) := by decide +kernel
theorem dX7_tellHouse_49 : decode cX7_tellHouse 49 = .ok (.iload_n 3, 1) := by decide +kernel
theorem dX7_tellHouse_50 : decode cX7_tellHouse 50 = .ok (.laload, 1) := by decide +kernel
theorem dX7_tellHouse_51 : decode cX7_tellHouse 51 = .ok (.aload_n 0, 1) := by decide +kernel
theorem dX7_tellHouse_52 : decode cX7_tellHouse 52 = .ok (.getfield 30, 3) := by decide +kernel
theorem dX7_tellHouse_55 : decode cX7_tellHouse 55 = .ok (.iload_n 2, 1) := by decide +kernel
theorem dX7_tellHouse_56 : decode cX7_tellHouse 56 = .ok (.laload, 1) := by decide +kernel
theorem dX7_tellHouse_57 : decode cX7_tellHouse 57 = .ok (.lcmp, 1) := by decide +kernel
theorem dX7_tellHouse_58 : decode cX7_tellHouse 58 = .ok (.ifCond .ne 9, 3) := by decide +kernel
theorem dX7_tellHouse_61 : decode cX7_tellHouse 61 = .ok (.aload_n 0, 1) := by decide +kernel
theorem dX7_tellHouse_62 : decode cX7_tellHouse 62 = .ok (.iconst 3, 1) := by decide +kernel
theorem dX7_tellHouse_63 : decode cX7_tellHouse 63 = .ok (.iload_n 2, 1) := by decide +kernel
theorem dX7_tellHouse_64 : decode cX7_tellHouse 64 = .ok (.invokevirtual 256, 3) := by decide +kernel
theorem dX7_tellHouse_67 : decode cX7_tellHouse 67 = .ok (.iinc 3 1, 3) := by decide +kernel
theorem dX7_tellHouse_70 : decode cX7_tellHouse 70 = .ok (.goto (-40), 3) := by decide +kernel
theorem dX7_tellHouse_73 : decode cX7_tellHouse 73 = .ok (.aload_n 0, 1) := by decide +kernel
theorem dX7_tellHouse_74 : decode cX7_tellHouse 74 = .ok (.getfield 46, 3) := by decide +kernel
theorem dX7_tellHouse_77 : decode cX7_tellHouse 77 = .ok (.iload_n 1, 1) := by decide +kernel
theorem dX7_tellHouse_78 : decode cX7_tellHouse 78 = .ok (.aload_n 0, 1) := by decide +kernel
theorem dX7_tellHouse_79 : decode cX7_tellHouse 79 = .ok (.iconst 0, 1) := by decide +kernel
theorem dX7_tellHouse_80 : decode cX7_tellHouse 80 = .ok (.bipush 23, 2) := by decide +kernel
theorem dX7_tellHouse_82 : decode cX7_tellHouse 82 = .ok (.invokevirtual 262, 3) := by decide +kernel
theorem dX7_tellHouse_85 : decode cX7_tellHouse 85 = .ok (.iastore, 1) := by decide +kernel
theorem dX7_tellHouse_86 : decode cX7_tellHouse 86 = .ok (.aload_n 0, 1) := by decide +kernel
theorem dX7_tellHouse_87 : decode cX7_tellHouse 87 = .ok (.getfield 49, 3) := by decide +kernel
theorem dX7_tellHouse_90 : decode cX7_tellHouse 90 = .ok (.iload_n 1, 1) := by decide +kernel
theorem dX7_tellHouse_91 : decode cX7_tellHouse 91 = .ok (.aload_n 0, 1) := by decide +kernel
theorem dX7_tellHouse_92 : decode cX7_tellHouse 92 = .ok (.iconst 0, 1) := by decide +kernel
theorem dX7_tellHouse_93 : decode cX7_tellHouse 93 = .ok (.bipush 23, 2) := by decide +kernel
theorem dX7_tellHouse_95 : decode cX7_tellHouse 95 = .ok (.invokevirtual 262, 3) := by decide +kernel
theorem dX7_tellHouse_98 : decode cX7_tellHouse 98 = .ok (.iastore, 1) := by decide +kernel
theorem dX7_tellHouse_99 : decode cX7_tellHouse 99 = .ok (.aload_n 0, 1) := by decide +kernel
theorem dX7_tellHouse_100 : decode cX7_tellHouse 100 = .ok (.getfield 52, 3) := by decide +kernel
theorem dX7_tellHouse_103 : decode cX7_tellHouse 103 = .ok (.iload_n 1, 1) := by decide +kernel
theorem dX7_tellHouse_104 : decode cX7_tellHouse 104 = .ok (.aload_n 0, 1) := by decide +kernel
theorem dX7_tellHouse_105 : decode cX7_tellHouse 105 = .ok (.iconst 0, 1) := by decide +kernel
theorem dX7_tellHouse_106 : decode cX7_tellHouse 106 = .ok (.bipush 9, 2) := by decide +kernel
theorem dX7_tellHouse_108 : decode cX7_tellHouse 108 = .ok (.invokevirtual 262, 3) := by decide +kernel
theorem dX7_tellHouse_111 : decode cX7_tellHouse 111 = .ok (.iastore, 1) := by decide +kernel
theorem dX7_tellHouse_112 : decode cX7_tellHouse 112 = .ok (.aload_n 0, 1) := by decide +kernel
theorem dX7_tellHouse_113 : decode cX7_tellHouse 113 = .ok (.iconst 4, 1) := by decide +kernel
theorem dX7_tellHouse_114 : decode cX7_tellHouse 114 = .ok (.invokevirtual 259, 3) := by decide +kernel
theorem dX7_tellHouse_117 : decode cX7_tellHouse 117 = .ok (.aload_n 0, 1) := by decide +kernel
theorem dX7_tellHouse_118 : decode cX7_tellHouse 118 = .ok (.getfield 188, 3) := by decide +kernel
theorem dX7_tellHouse_121 : decode cX7_tellHouse 121 = .ok (.ifCond .le 4, 3) := by decide +kernel
theorem dX7_tellHouse_124 : decode cX7_tellHouse 124 = .ok (.return_, 1) := by decide +kernel
theorem dX7_tellHouse_125 : decode cX7_tellHouse 125 = .ok (.aload_n 0, 1) := by decide +kernel
theorem dX7_tellHouse_126 : decode cX7_tellHouse 126 = .ok (.getfield 40, 3) := by decide +kernel
theorem dX7_tellHouse_129 : decode cX7_tellHouse 129 = .ok (.aload_n 0, 1) := by decide +kernel
theorem dX7_tellHouse_130 : decode cX7_tellHouse 130 = .ok (.getfield 224, 3) := by decide +kernel
theorem dX7_tellHouse_133 : decode cX7_tellHouse 133 = .ok (.aload_n 0, 1) := by decide +kernel
theorem dX7_tellHouse_134 : decode cX7_tellHouse 134 = .ok (.getfield 30, 3) := by decide +kernel
theorem dX7_tellHouse_137 : decode cX7_tellHouse 137 = .ok (.iload_n 2, 1) := by decide +kernel
theorem dX7_tellHouse_138 : decode cX7_tellHouse 138 = .ok (.laload, 1) := by decide +kernel
theorem dX7_tellHouse_139 : decode cX7_tellHouse 139 = .ok (.lastore, 1) := by decide +kernel
theorem dX7_tellHouse_140 : decode cX7_tellHouse 140 = .ok (.aload_n 0, 1) := by decide +kernel
theorem dX7_tellHouse_141 : decode cX7_tellHouse 141 = .ok (.dup, 1) := by decide +kernel
theorem dX7_tellHouse_142 : decode cX7_tellHouse 142 = .ok (.getfield 224, 3) := by decide +kernel
theorem dX7_tellHouse_145 : decode cX7_tellHouse 145 = .ok (.iconst 1, 1) := by decide +kernel
theorem dX7_tellHouse_146 : decode cX7_tellHouse 146 = .ok (.iadd, 1) := by decide +kernel
theorem dX7_tellHouse_147 : decode cX7_tellHouse 147 = .ok (.putfield 224, 3) := by decide +kernel
theorem dX7_tellHouse_150 : decode cX7_tellHouse 150 = .ok (.aload_n 0, 1) := by decide +kernel
theorem dX7_tellHouse_151 : decode cX7_tellHouse 151 = .ok (.getfield 43, 3) := by decide +kernel
theorem dX7_tellHouse_154 : decode cX7_tellHouse 154 = .ok (.aload_n 0, 1) := by decide +kernel
theorem dX7_tellHouse_155 : decode cX7_tellHouse 155 = .ok (.getfield 221, 3) := by decide +kernel
theorem dX7_tellHouse_158 : decode cX7_tellHouse 158 = .ok (.dup2, 1) := by decide +kernel
theorem dX7_tellHouse_159 : decode cX7_tellHouse 159 = .ok (.iaload, 1) := by decide +kernel
theorem dX7_tellHouse_160 : decode cX7_tellHouse 160 = .ok (.iconst 1, 1) := by decide +kernel
theorem dX7_tellHouse_161 : decode cX7_tellHouse 161 = .ok (.iadd, 1) := by decide +kernel
theorem dX7_tellHouse_162 : decode cX7_tellHouse 162 = .ok (.iastore, 1) := by decide +kernel
theorem dX7_tellHouse_163 : decode cX7_tellHouse 163 = .ok (.return_, 1) := by decide +kernel
theorem dX7_tellSpare_0 : decode cX7_tellSpare 0 = .ok (.bipush 6, 2) := by decide +kernel
theorem dX7_tellSpare_2 : decode cX7_tellSpare 2 = .ok (.aload_n 0, 1) := by decide +kernel
theorem dX7_tellSpare_3 : decode cX7_tellSpare 3 = .ok (.getfield 221, 3) := by decide +kernel
theorem dX7_tellSpare_6 : decode cX7_tellSpare 6 = .ok (.imul, 1) := by decide +kernel
theorem dX7_tellSpare_7 : decode cX7_tellSpare 7 = .ok (.aload_n 0, 1) := by decide +kernel
theorem dX7_tellSpare_8 : decode cX7_tellSpare 8 = .ok (.getfield 59, 3) := by decide +kernel
theorem dX7_tellSpare_11 : decode cX7_tellSpare 11 = .ok (.aload_n 0, 1) := by decide +kernel
theorem dX7_tellSpare_12 : decode cX7_tellSpare 12 = .ok (.getfield 221, 3) := by decide +kernel
theorem dX7_tellSpare_15 : decode cX7_tellSpare 15 = .ok (.iaload, 1) := by decide +kernel
theorem dX7_tellSpare_16 : decode cX7_tellSpare 16 = .ok (.iadd, 1) := by decide +kernel
theorem dX7_tellSpare_17 : decode cX7_tellSpare 17 = .ok (.istore_n 1, 1) := by decide +kernel
theorem dX7_tellSpare_18 : decode cX7_tellSpare 18 = .ok (.aload_n 0, 1) := by decide +kernel
theorem dX7_tellSpare_19 : decode cX7_tellSpare 19 = .ok (.getfield 62, 3) := by decide +kernel
theorem dX7_tellSpare_22 : decode cX7_tellSpare 22 = .ok (.iload_n 1, 1) := by decide +kernel
theorem dX7_tellSpare_23 : decode cX7_tellSpare 23 = .ok (.aload_n 0, 1) := by decide +kernel
theorem dX7_tellSpare_24 : decode cX7_tellSpare 24 = .ok (.invokevirtual 252, 3) := by decide +kernel
theorem dX7_tellSpare_27 : decode cX7_tellSpare 27 = .ok (.iastore, 1) := by decide +kernel
theorem dX7_tellSpare_28 : decode cX7_tellSpare 28 = .ok (.aload_n 0, 1) := by decide +kernel
theorem dX7_tellSpare_29 : decode cX7_tellSpare 29 = .ok (.getfield 65, 3) := by decide +kernel
theorem dX7_tellSpare_32 : decode cX7_tellSpare 32 = .ok (.iload_n 1, 1) := by decide +kernel
theorem dX7_tellSpare_33 : decode cX7_tellSpare 33 = .ok (.aload_n 0, 1) := by decide +kernel
theorem dX7_tellSpare_34 : decode cX7_tellSpare 34 = .ok (.invokevirtual 252, 3) := by decide +kernel
theorem dX7_tellSpare_37 : decode cX7_tellSpare 37 = .ok (.iastore, 1) := by decide +kernel
theorem dX7_tellSpare_38 : decode cX7_tellSpare 38 = .ok (.aload_n 0, 1) := by decide +kernel
theorem dX7_tellSpare_39 : decode cX7_tellSpare 39 = .ok (.iconst 4, 1) := by decide +kernel
theorem dX7_tellSpare_40 : decode cX7_tellSpare 40 = .ok (.invokevirtual 259, 3) := by decide +kernel
theorem dX7_tellSpare_43 : decode cX7_tellSpare 43 = .ok (.aload_n 0, 1) := by decide +kernel
theorem dX7_tellSpare_44 : decode cX7_tellSpare 44 = .ok (.getfield 188, 3) := by decide +kernel
theorem dX7_tellSpare_47 : decode cX7_tellSpare 47 = .ok (.ifCond .ne 16, 3) := by decide +kernel
theorem dX7_tellSpare_50 : decode cX7_tellSpare 50 = .ok (.aload_n 0, 1) := by decide +kernel
theorem dX7_tellSpare_51 : decode cX7_tellSpare 51 = .ok (.getfield 59, 3) := by decide +kernel
theorem dX7_tellSpare_54 : decode cX7_tellSpare 54 = .ok (.aload_n 0, 1) := by decide +kernel
theorem dX7_tellSpare_55 : decode cX7_tellSpare 55 = .ok (.getfield 221, 3) := by decide +kernel
theorem dX7_tellSpare_58 : decode cX7_tellSpare 58 = .ok (.dup2, 1) := by decide +kernel
theorem dX7_tellSpare_59 : decode cX7_tellSpare 59 = .ok (.iaload, 1) := by decide +kernel
theorem dX7_tellSpare_60 : decode cX7_tellSpare 60 = .ok (.iconst 1, 1) := by decide +kernel
theorem dX7_tellSpare_61 : decode cX7_tellSpare 61 = .ok (.iadd, 1) := by decide +kernel
theorem dX7_tellSpare_62 : decode cX7_tellSpare 62 = .ok (.iastore, 1) := by decide +kernel
theorem dX7_tellSpare_63 : decode cX7_tellSpare 63 = .ok (.return_, 1) := by decide +kernel
theorem dX7_tellLaw_0 : decode cX7_tellLaw 0 = .ok (.aload_n 0, 1) := by decide +kernel
theorem dX7_tellLaw_1 : decode cX7_tellLaw 1 = .ok (.iconst 5, 1) := by decide +kernel
theorem dX7_tellLaw_2 : decode cX7_tellLaw 2 = .ok (.invokevirtual 259, 3) := by decide +kernel
theorem dX7_tellLaw_5 : decode cX7_tellLaw 5 = .ok (.aload_n 0, 1) := by decide +kernel
theorem dX7_tellLaw_6 : decode cX7_tellLaw 6 = .ok (.getfield 227, 3) := by decide +kernel
theorem dX7_tellLaw_9 : decode cX7_tellLaw 9 = .ok (.istore_n 2, 1) := by decide +kernel
theorem dX7_tellLaw_10 : decode cX7_tellLaw 10 = .ok (.iconst 0, 1) := by decide +kernel
theorem dX7_tellLaw_11 : decode cX7_tellLaw 11 = .ok (.istore_n 3, 1) := by decide +kernel
theorem dX7_tellLaw_12 : decode cX7_tellLaw 12 = .ok (.aload_n 0, 1) := by decide +kernel
theorem dX7_tellLaw_13 : decode cX7_tellLaw 13 = .ok (.getfield 188, 3) := by decide +kernel
theorem dX7_tellLaw_16 : decode cX7_tellLaw 16 = .ok (.ifCond .ne 113, 3) := by decide +kernel
theorem dX7_tellLaw_19 : decode cX7_tellLaw 19 = .ok (.aload_n 0, 1) := by decide +kernel
theorem dX7_tellLaw_20 : decode cX7_tellLaw 20 = .ok (.bipush 28, 2) := by decide +kernel
theorem dX7_tellLaw_22 : decode cX7_tellLaw 22 = .ok (.invokevirtual 206, 3) := by decide +kernel
theorem dX7_tellLaw_25 : decode cX7_tellLaw 25 = .ok (.ifCond .eq 104, 3) := by decide +kernel
theorem dX7_tellLaw_28 : decode cX7_tellLaw 28 = .ok (.iload_n 3, 1) := by decide +kernel
theorem dX7_tellLaw_29 : decode cX7_tellLaw 29 = .ok (.iconst 4, 1) := by decide +kernel
theorem dX7_tellLaw_30 : decode cX7_tellLaw 30 = .ok (.if_icmp .ne 8, 3) := by decide +kernel
theorem dX7_tellLaw_33 : decode cX7_tellLaw 33 = .ok (.aload_n 0, 1) := by decide +kernel
theorem dX7_tellLaw_34 : decode cX7_tellLaw 34 = .ok (.iconst 2, 1) := by decide +kernel
theorem dX7_tellLaw_35 : decode cX7_tellLaw 35 = .ok (.invokevirtual 203, 3) := by decide +kernel
theorem dX7_tellLaw_38 : decode cX7_tellLaw 38 = .ok (.aload_n 0, 1) := by decide +kernel
theorem dX7_tellLaw_39 : decode cX7_tellLaw 39 = .ok (.getfield 188, 3) := by decide +kernel
theorem dX7_tellLaw_42 : decode cX7_tellLaw 42 = .ok (.ifCond .le 4, 3) := by decide +kernel
theorem dX7_tellLaw_45 : decode cX7_tellLaw 45 = .ok (.return_, 1) := by decide +kernel
theorem dX7_tellLaw_46 : decode cX7_tellLaw 46 = .ok (.iinc 3 1, 3) := by decide +kernel
theorem dX7_tellLaw_49 : decode cX7_tellLaw 49 = .ok (.aload_n 0, 1) := by decide +kernel
theorem dX7_tellLaw_50 : decode cX7_tellLaw 50 = .ok (.invokevirtual 209, 3) := by decide +kernel
theorem dX7_tellLaw_53 : decode cX7_tellLaw 53 = .ok (.aload_n 0, 1) := by decide +kernel
theorem dX7_tellLaw_54 : decode cX7_tellLaw 54 = .ok (.getfield 77, 3) := by decide +kernel
theorem dX7_tellLaw_57 : decode cX7_tellLaw 57 = .ok (.aload_n 0, 1) := by decide +kernel
theorem dX7_tellLaw_58 : decode cX7_tellLaw 58 = .ok (.getfield 227, 3) := by decide +kernel
theorem dX7_tellLaw_61 : decode cX7_tellLaw 61 = .ok (.iconst 1, 1) := by decide +kernel
theorem dX7_tellLaw_62 : decode cX7_tellLaw 62 = .ok (.bastore, 1) := by decide +kernel
theorem dX7_tellLaw_63 : decode cX7_tellLaw 63 = .ok (.aload_n 0, 1) := by decide +kernel
theorem dX7_tellLaw_64 : decode cX7_tellLaw 64 = .ok (.getfield 80, 3) := by decide +kernel
theorem dX7_tellLaw_67 : decode cX7_tellLaw 67 = .ok (.aload_n 0, 1) := by decide +kernel
theorem dX7_tellLaw_68 : decode cX7_tellLaw 68 = .ok (.getfield 227, 3) := by decide +kernel
theorem dX7_tellLaw_71 : decode cX7_tellLaw 71 = .ok (.aload_n 0, 1) := by decide +kernel
theorem dX7_tellLaw_72 : decode cX7_tellLaw 72 = .ok (.getfield 230, 3) := by decide +kernel
theorem dX7_tellLaw_75 : decode cX7_tellLaw 75 = .ok (.iastore, 1) := by decide +kernel
theorem dX7_tellLaw_76 : decode cX7_tellLaw 76 = .ok (.aload_n 0, 1) := by decide +kernel
theorem dX7_tellLaw_77 : decode cX7_tellLaw 77 = .ok (.invokevirtual 269, 3) := by decide +kernel
theorem dX7_tellLaw_80 : decode cX7_tellLaw 80 = .ok (.aload_n 0, 1) := by decide +kernel
theorem dX7_tellLaw_81 : decode cX7_tellLaw 81 = .ok (.bipush 13, 2) := by decide +kernel
theorem dX7_tellLaw_83 : decode cX7_tellLaw 83 = .ok (.invokevirtual 259, 3) := by decide +kernel
theorem dX7_tellLaw_86 : decode cX7_tellLaw 86 = .ok (.aload_n 0, 1) := by decide +kernel
theorem dX7_tellLaw_87 : decode cX7_tellLaw 87 = .ok (.getfield 83, 3) := by decide +kernel
theorem dX7_tellLaw_90 : decode cX7_tellLaw 90 = .ok (.aload_n 0, 1) := by decide +kernel
theorem dX7_tellLaw_91 : decode cX7_tellLaw 91 = .ok (.getfield 227, 3) := by decide +kernel
theorem dX7_tellLaw_94 : decode cX7_tellLaw 94 = .ok (.aload_n 0, 1) := by decide +kernel
theorem dX7_tellLaw_95 : decode cX7_tellLaw 95 = .ok (.getfield 230, 3) := by decide +kernel
theorem dX7_tellLaw_98 : decode cX7_tellLaw 98 = .ok (.iastore, 1) := by decide +kernel
theorem dX7_tellLaw_99 : decode cX7_tellLaw 99 = .ok (.aload_n 0, 1) := by decide +kernel
theorem dX7_tellLaw_100 : decode cX7_tellLaw 100 = .ok (.getfield 188, 3) := by decide +kernel
theorem dX7_tellLaw_103 : decode cX7_tellLaw 103 = .ok (.ifCond .ne 7, 3) := by decide +kernel
theorem dX7_tellLaw_106 : decode cX7_tellLaw 106 = .ok (.aload_n 0, 1) := by decide +kernel
theorem dX7_tellLaw_107 : decode cX7_tellLaw 107 = .ok (.invokevirtual 269, 3) := by decide +kernel
theorem dX7_tellLaw_110 : decode cX7_tellLaw 110 = .ok (.aload_n 0, 1) := by decide +kernel
theorem dX7_tellLaw_111 : decode cX7_tellLaw 111 = .ok (.bipush 29, 2) := by decide +kernel
theorem dX7_tellLaw_113 : decode cX7_tellLaw 113 = .ok (.invokevirtual 259, 3) := by decide +kernel
theorem dX7_tellLaw_116 : decode cX7_tellLaw 116 = .ok (.aload_n 0, 1) := by decide +kernel
theorem dX7_tellLaw_117 : decode cX7_tellLaw 117 = .ok (.invokevirtual 272, 3) := by decide +kernel
theorem dX7_tellLaw_120 : decode cX7_tellLaw 120 = .ok (.aload_n 0, 1) := by decide +kernel
theorem dX7_tellLaw_121 : decode cX7_tellLaw 121 = .ok (.bipush 30, 2) := by decide +kernel
theorem dX7_tellLaw_123 : decode cX7_tellLaw 123 = .ok (.invokevirtual 259, 3) := by decide +kernel
theorem dX7_tellLaw_126 : decode cX7_tellLaw 126 = .ok (.goto (-114), 3) := by decide +kernel
theorem dX7_tellLaw_129 : decode cX7_tellLaw 129 = .ok (.aload_n 0, 1) := by decide +kernel
theorem dX7_tellLaw_130 : decode cX7_tellLaw 130 = .ok (.getfield 77, 3) := by decide +kernel
theorem dX7_tellLaw_133 : decode cX7_tellLaw 133 = .ok (.aload_n 0, 1) := by decide +kernel
theorem dX7_tellLaw_134 : decode cX7_tellLaw 134 = .ok (.getfield 227, 3) := by decide +kernel
theorem dX7_tellLaw_137 : decode cX7_tellLaw 137 = .ok (.iconst 0, 1) := by decide +kernel
theorem dX7_tellLaw_138 : decode cX7_tellLaw 138 = .ok (.bastore, 1) := by decide +kernel
theorem dX7_tellLaw_139 : decode cX7_tellLaw 139 = .ok (.aload_n 0, 1) := by decide +kernel
theorem dX7_tellLaw_140 : decode cX7_tellLaw 140 = .ok (.invokevirtual 272, 3) := by decide +kernel
theorem dX7_tellLaw_143 : decode cX7_tellLaw 143 = .ok (.aload_n 0, 1) := by decide +kernel
theorem dX7_tellLaw_144 : decode cX7_tellLaw 144 = .ok (.iconst 4, 1) := by decide +kernel
theorem dX7_tellLaw_145 : decode cX7_tellLaw 145 = .ok (.invokevirtual 259, 3) := by decide +kernel
theorem dX7_tellLaw_148 : decode cX7_tellLaw 148 = .ok (.aload_n 0, 1) := by decide +kernel
theorem dX7_tellLaw_149 : decode cX7_tellLaw 149 = .ok (.getfield 188, 3) := by decide +kernel
theorem dX7_tellLaw_152 : decode cX7_tellLaw 152 = .ok (.ifCond .le 4, 3) := by decide +kernel
theorem dX7_tellLaw_155 : decode cX7_tellLaw 155 = .ok (.return_, 1) := by decide +kernel
theorem dX7_tellLaw_156 : decode cX7_tellLaw 156 = .ok (.aload_n 0, 1) := by decide +kernel
theorem dX7_tellLaw_157 : decode cX7_tellLaw 157 = .ok (.getfield 71, 3) := by decide +kernel
theorem dX7_tellLaw_160 : decode cX7_tellLaw 160 = .ok (.iconst 4, 1) := by decide +kernel
theorem dX7_tellLaw_161 : decode cX7_tellLaw 161 = .ok (.aload_n 0, 1) := by decide +kernel
theorem dX7_tellLaw_162 : decode cX7_tellLaw 162 = .ok (.getfield 221, 3) := by decide +kernel
theorem dX7_tellLaw_165 : decode cX7_tellLaw 165 = .ok (.imul, 1) := by decide +kernel
theorem dX7_tellLaw_166 : decode cX7_tellLaw 166 = .ok (.iload_n 1, 1) := by decide +kernel
theorem dX7_tellLaw_167 : decode cX7_tellLaw 167 = .ok (.iadd, 1) := by decide +kernel
theorem dX7_tellLaw_168 : decode cX7_tellLaw 168 = .ok (.iload_n 2, 1) := by decide +kernel
theorem dX7_tellLaw_169 : decode cX7_tellLaw 169 = .ok (.iastore, 1) := by decide +kernel
theorem dX7_tellLaw_170 : decode cX7_tellLaw 170 = .ok (.aload_n 0, 1) := by decide +kernel
theorem dX7_tellLaw_171 : decode cX7_tellLaw 171 = .ok (.getfield 74, 3) := by decide +kernel
theorem dX7_tellLaw_174 : decode cX7_tellLaw 174 = .ok (.iconst 4, 1) := by decide +kernel
theorem dX7_tellLaw_175 : decode cX7_tellLaw 175 = .ok (.aload_n 0, 1) := by decide +kernel
theorem dX7_tellLaw_176 : decode cX7_tellLaw 176 = .ok (.getfield 221, 3) := by decide +kernel
theorem dX7_tellLaw_179 : decode cX7_tellLaw 179 = .ok (.imul, 1) := by decide +kernel
theorem dX7_tellLaw_180 : decode cX7_tellLaw 180 = .ok (.iload_n 1, 1) := by decide +kernel
theorem dX7_tellLaw_181 : decode cX7_tellLaw 181 = .ok (.iadd, 1) := by decide +kernel
theorem dX7_tellLaw_182 : decode cX7_tellLaw 182 = .ok (.aload_n 0, 1) := by decide +kernel
theorem dX7_tellLaw_183 : decode cX7_tellLaw 183 = .ok (.getfield 227, 3) := by decide +kernel
theorem dX7_tellLaw_186 : decode cX7_tellLaw 186 = .ok (.iastore, 1) := by decide +kernel
theorem dX7_tellLaw_187 : decode cX7_tellLaw 187 = .ok (.return_, 1) := by decide +kernel
theorem dX7_term_0 : decode cX7_term 0 = .ok (.aload_n 0, 1) := by decide +kernel
theorem dX7_term_1 : decode cX7_term 1 = .ok (.getfield 86, 3) := by decide +kernel
theorem dX7_term_4 : decode cX7_term 4 = .ok (.aload_n 0, 1) := by decide +kernel
theorem dX7_term_5 : decode cX7_term 5 = .ok (.getfield 227, 3) := by decide +kernel
theorem dX7_term_8 : decode cX7_term 8 = .ok (.aload_n 0, 1) := by decide +kernel
theorem dX7_term_9 : decode cX7_term 9 = .ok (.getfield 230, 3) := by decide +kernel
theorem dX7_term_12 : decode cX7_term 12 = .ok (.iastore, 1) := by decide +kernel
theorem dX7_term_13 : decode cX7_term 13 = .ok (.aload_n 0, 1) := by decide +kernel
theorem dX7_term_14 : decode cX7_term 14 = .ok (.getfield 188, 3) := by decide +kernel
theorem dX7_term_17 : decode cX7_term 17 = .ok (.ifCond .ne 7, 3) := by decide +kernel
theorem dX7_term_20 : decode cX7_term 20 = .ok (.aload_n 0, 1) := by decide +kernel
theorem dX7_term_21 : decode cX7_term 21 = .ok (.invokevirtual 269, 3) := by decide +kernel
theorem dX7_term_24 : decode cX7_term 24 = .ok (.aload_n 0, 1) := by decide +kernel
theorem dX7_term_25 : decode cX7_term 25 = .ok (.getfield 89, 3) := by decide +kernel
theorem dX7_term_28 : decode cX7_term 28 = .ok (.aload_n 0, 1) := by decide +kernel
theorem dX7_term_29 : decode cX7_term 29 = .ok (.getfield 227, 3) := by decide +kernel
theorem dX7_term_32 : decode cX7_term 32 = .ok (.aload_n 0, 1) := by decide +kernel
theorem dX7_term_33 : decode cX7_term 33 = .ok (.getfield 230, 3) := by decide +kernel
theorem dX7_term_36 : decode cX7_term 36 = .ok (.iastore, 1) := by decide +kernel
theorem dX7_term_37 : decode cX7_term 37 = .ok (.aload_n 0, 1) := by decide +kernel
theorem dX7_term_38 : decode cX7_term 38 = .ok (.dup, 1) := by decide +kernel
theorem dX7_term_39 : decode cX7_term 39 = .ok (.getfield 227, 3) := by decide +kernel
theorem dX7_term_42 : decode cX7_term 42 = .ok (.iconst 1, 1) := by decide +kernel
theorem dX7_term_43 : decode cX7_term 43 = .ok (.iadd, 1) := by decide +kernel
theorem dX7_term_44 : decode cX7_term 44 = .ok (.putfield 227, 3) := by decide +kernel
theorem dX7_term_47 : decode cX7_term 47 = .ok (.return_, 1) := by decide +kernel
theorem dX7_emit_0 : decode cX7_emit 0 = .ok (.aload_n 0, 1) := by decide +kernel
theorem dX7_emit_1 : decode cX7_emit 1 = .ok (.getfield 92, 3) := by decide +kernel
theorem dX7_emit_4 : decode cX7_emit 4 = .ok (.aload_n 0, 1) := by decide +kernel
theorem dX7_emit_5 : decode cX7_emit 5 = .ok (.getfield 230, 3) := by decide +kernel
theorem dX7_emit_8 : decode cX7_emit 8 = .ok (.iload_n 1, 1) := by decide +kernel
theorem dX7_emit_9 : decode cX7_emit 9 = .ok (.iastore, 1) := by decide +kernel
theorem dX7_emit_10 : decode cX7_emit 10 = .ok (.aload_n 0, 1) := by decide +kernel
theorem dX7_emit_11 : decode cX7_emit 11 = .ok (.getfield 95, 3) := by decide +kernel
theorem dX7_emit_14 : decode cX7_emit 14 = .ok (.aload_n 0, 1) := by decide +kernel
theorem dX7_emit_15 : decode cX7_emit 15 = .ok (.getfield 230, 3) := by decide +kernel
theorem dX7_emit_18 : decode cX7_emit 18 = .ok (.iload_n 2, 1) := by decide +kernel
theorem dX7_emit_19 : decode cX7_emit 19 = .ok (.iastore, 1) := by decide +kernel
theorem dX7_emit_20 : decode cX7_emit 20 = .ok (.aload_n 0, 1) := by decide +kernel
theorem dX7_emit_21 : decode cX7_emit 21 = .ok (.dup, 1) := by decide +kernel
theorem dX7_emit_22 : decode cX7_emit 22 = .ok (.getfield 230, 3) := by decide +kernel
theorem dX7_emit_25 : decode cX7_emit 25 = .ok (.iconst 1, 1) := by decide +kernel
theorem dX7_emit_26 : decode cX7_emit 26 = .ok (.iadd, 1) := by decide +kernel
theorem dX7_emit_27 : decode cX7_emit 27 = .ok (.putfield 230, 3) := by decide +kernel
theorem dX7_emit_30 : decode cX7_emit 30 = .ok (.return_, 1) := by decide +kernel
theorem dX7_comesOut_0 : decode cX7_comesOut 0 = .ok (.aload_n 0, 1) := by decide +kernel
theorem dX7_comesOut_1 : decode cX7_comesOut 1 = .ok (.getfield 275, 3) := by decide +kernel
theorem dX7_comesOut_4 : decode cX7_comesOut 4 = .ok (.ifCond .le 87, 3) := by decide +kernel
theorem dX7_comesOut_7 : decode cX7_comesOut 7 = .ok (.aload_n 0, 1) := by decide +kernel
theorem dX7_comesOut_8 : decode cX7_comesOut 8 = .ok (.getfield 98, 3) := by decide +kernel
theorem dX7_comesOut_11 : decode cX7_comesOut 11 = .ok (.aload_n 0, 1) := by decide +kernel
theorem dX7_comesOut_12 : decode cX7_comesOut 12 = .ok (.getfield 275, 3) := by decide +kernel
theorem dX7_comesOut_15 : decode cX7_comesOut 15 = .ok (.iconst 1, 1) := by decide +kernel
theorem dX7_comesOut_16 : decode cX7_comesOut 16 = .ok (.isub, 1) := by decide +kernel
theorem dX7_comesOut_17 : decode cX7_comesOut 17 = .ok (.iaload, 1) := by decide +kernel
theorem dX7_comesOut_18 : decode cX7_comesOut 18 = .ok (.istore_n 2, 1) := by decide +kernel
theorem dX7_comesOut_19 : decode cX7_comesOut 19 = .ok (.iload_n 2, 1) := by decide +kernel
theorem dX7_comesOut_20 : decode cX7_comesOut 20 = .ok (.bipush 6, 2) := by decide +kernel
theorem dX7_comesOut_22 : decode cX7_comesOut 22 = .ok (.if_icmp .eq 19, 3) := by decide +kernel
theorem dX7_comesOut_25 : decode cX7_comesOut 25 = .ok (.iload_n 1, 1) := by decide +kernel
theorem dX7_comesOut_26 : decode cX7_comesOut 26 = .ok (.ifCond .eq 16, 3) := by decide +kernel
theorem dX7_comesOut_29 : decode cX7_comesOut 29 = .ok (.iload_n 2, 1) := by decide +kernel
theorem dX7_comesOut_30 : decode cX7_comesOut 30 = .ok (.bipush 8, 2) := by decide +kernel
theorem dX7_comesOut_32 : decode cX7_comesOut 32 = .ok (.if_icmp .eq 9, 3) := by decide +kernel
theorem dX7_comesOut_35 : decode cX7_comesOut 35 = .ok (.iload_n 2, 1) := by decide +kernel
theorem dX7_comesOut_36 : decode cX7_comesOut 36 = .ok (.bipush 9, 2) := by decide +kernel
theorem dX7_comesOut_38 : decode cX7_comesOut 38 = .ok (.if_icmp .ne 4, 3) := by decide +kernel
theorem dX7_comesOut_41 : decode cX7_comesOut 41 = .ok (.return_, 1) := by decide +kernel
theorem dX7_comesOut_42 : decode cX7_comesOut 42 = .ok (.aload_n 0, 1) := by decide +kernel
theorem dX7_comesOut_43 : decode cX7_comesOut 43 = .ok (.dup, 1) := by decide +kernel
theorem dX7_comesOut_44 : decode cX7_comesOut 44 = .ok (.getfield 275, 3) := by decide +kernel
theorem dX7_comesOut_47 : decode cX7_comesOut 47 = .ok (.iconst 1, 1) := by decide +kernel
theorem dX7_comesOut_48 : decode cX7_comesOut 48 = .ok (.isub, 1) := by decide +kernel
theorem dX7_comesOut_49 : decode cX7_comesOut 49 = .ok (.putfield 275, 3) := by decide +kernel
theorem dX7_comesOut_52 : decode cX7_comesOut 52 = .ok (.aload_n 0, 1) := by decide +kernel
theorem dX7_comesOut_53 : decode cX7_comesOut 53 = .ok (.iload_n 2, 1) := by decide +kernel
theorem dX7_comesOut_54 : decode cX7_comesOut 54 = .ok (.bipush 8, 2) := by decide +kernel
theorem dX7_comesOut_56 : decode cX7_comesOut 56 = .ok (.if_icmp .ne 7, 3) := by decide +kernel
theorem dX7_comesOut_59 : decode cX7_comesOut 59 = .ok (.iconst 2, 1) := by decide +kernel
theorem dX7_comesOut_60 : decode cX7_comesOut 60 = .ok (.goto 24, 3) := by decide +kernel
theorem dX7_comesOut_63 : decode cX7_comesOut 63 = .ok (.iload_n 2, 1) := by decide +kernel
theorem dX7_comesOut_64 : decode cX7_comesOut 64 = .ok (.bipush 9, 2) := by decide +kernel
theorem dX7_comesOut_66 : decode cX7_comesOut 66 = .ok (.if_icmp .ne 7, 3) := by decide +kernel
theorem dX7_comesOut_69 : decode cX7_comesOut 69 = .ok (.iconst 3, 1) := by decide +kernel
theorem dX7_comesOut_70 : decode cX7_comesOut 70 = .ok (.goto 14, 3) := by decide +kernel
theorem dX7_comesOut_73 : decode cX7_comesOut 73 = .ok (.iload_n 2, 1) := by decide +kernel
theorem dX7_comesOut_74 : decode cX7_comesOut 74 = .ok (.bipush 10, 2) := by decide +kernel
theorem dX7_comesOut_76 : decode cX7_comesOut 76 = .ok (.if_icmp .ne 7, 3) := by decide +kernel
theorem dX7_comesOut_79 : decode cX7_comesOut 79 = .ok (.iconst 4, 1) := by decide +kernel
theorem dX7_comesOut_80 : decode cX7_comesOut 80 = .ok (.goto 4, 3) := by decide +kernel
theorem dX7_comesOut_83 : decode cX7_comesOut 83 = .ok (.iconst 5, 1) := by decide +kernel
theorem dX7_comesOut_84 : decode cX7_comesOut 84 = .ok (.iconst 0, 1) := by decide +kernel
theorem dX7_comesOut_85 : decode cX7_comesOut 85 = .ok (.invokevirtual 278, 3) := by decide +kernel
theorem dX7_comesOut_88 : decode cX7_comesOut 88 = .ok (.goto (-88), 3) := by decide +kernel
theorem dX7_comesOut_91 : decode cX7_comesOut 91 = .ok (.return_, 1) := by decide +kernel
theorem dX7_expression_0 : decode cX7_expression 0 = .ok (.aload_n 0, 1) := by decide +kernel
theorem dX7_expression_1 : decode cX7_expression 1 = .ok (.iconst 0, 1) := by decide +kernel
theorem dX7_expression_2 : decode cX7_expression 2 = .ok (.putfield 275, 3) := by decide +kernel
theorem dX7_expression_5 : decode cX7_expression 5 = .ok (.aload_n 0, 1) := by decide +kernel
theorem dX7_expression_6 : decode cX7_expression 6 = .ok (.getfield 215, 3) := by decide +kernel
theorem dX7_expression_9 : decode cX7_expression 9 = .ok (.istore_n 1, 1) := by decide +kernel
theorem dX7_expression_10 : decode cX7_expression 10 = .ok (.iconst 1, 1) := by decide +kernel
theorem dX7_expression_11 : decode cX7_expression 11 = .ok (.istore_n 2, 1) := by decide +kernel
theorem dX7_expression_12 : decode cX7_expression 12 = .ok (.iload_n 2, 1) := by decide +kernel
theorem dX7_expression_13 : decode cX7_expression 13 = .ok (.ifCond .eq 259, 3) := by decide +kernel
theorem dX7_expression_16 : decode cX7_expression 16 = .ok (.aload_n 0, 1) := by decide +kernel
theorem dX7_expression_17 : decode cX7_expression 17 = .ok (.getfield 188, 3) := by decide +kernel
theorem dX7_expression_20 : decode cX7_expression 20 = .ok (.ifCond .ne 252, 3) := by decide +kernel
theorem dX7_expression_23 : decode cX7_expression 23 = .ok (.aload_n 0, 1) := by decide +kernel
theorem dX7_expression_24 : decode cX7_expression 24 = .ok (.bipush 6, 2) := by decide +kernel
theorem dX7_expression_26 : decode cX7_expression 26 = .ok (.invokevirtual 206, 3) := by decide +kernel
theorem dX7_expression_29 : decode cX7_expression 29 = .ok (.ifCond .eq 55, 3) := by decide +kernel
theorem dX7_expression_32 : decode cX7_expression 32 = .ok (.aload_n 0, 1) := by decide +kernel
theorem dX7_expression_33 : decode cX7_expression 33 = .ok (.getfield 215, 3) := by decide +kernel
theorem dX7_expression_36 : decode cX7_expression 36 = .ok (.bipush 6, 2) := by decide +kernel
theorem dX7_expression_38 : decode cX7_expression 38 = .ok (.if_icmp .ne 8, 3) := by decide +kernel
theorem dX7_expression_41 : decode cX7_expression 41 = .ok (.aload_n 0, 1) := by decide +kernel
theorem dX7_expression_42 : decode cX7_expression 42 = .ok (.iconst 2, 1) := by decide +kernel
theorem dX7_expression_43 : decode cX7_expression 43 = .ok (.invokevirtual 203, 3) := by decide +kernel
theorem dX7_expression_46 : decode cX7_expression 46 = .ok (.aload_n 0, 1) := by decide +kernel
theorem dX7_expression_47 : decode cX7_expression 47 = .ok (.dup, 1) := by decide +kernel
theorem dX7_expression_48 : decode cX7_expression 48 = .ok (.getfield 215, 3) := by decide +kernel
theorem dX7_expression_51 : decode cX7_expression 51 = .ok (.iconst 1, 1) := by decide +kernel
theorem dX7_expression_52 : decode cX7_expression 52 = .ok (.iadd, 1) := by decide +kernel
theorem dX7_expression_53 : decode cX7_expression 53 = .ok (.putfield 215, 3) := by decide +kernel
theorem dX7_expression_56 : decode cX7_expression 56 = .ok (.aload_n 0, 1) := by decide +kernel
theorem dX7_expression_57 : decode cX7_expression 57 = .ok (.invokevirtual 209, 3) := by decide +kernel
theorem dX7_expression_60 : decode cX7_expression 60 = .ok (.aload_n 0, 1) := by decide +kernel
theorem dX7_expression_61 : decode cX7_expression 61 = .ok (.getfield 98, 3) := by decide +kernel
theorem dX7_expression_64 : decode cX7_expression 64 = .ok (.aload_n 0, 1) := by decide +kernel
theorem dX7_expression_65 : decode cX7_expression 65 = .ok (.getfield 275, 3) := by decide +kernel
theorem dX7_expression_68 : decode cX7_expression 68 = .ok (.bipush 6, 2) := by decide +kernel
theorem dX7_expression_70 : decode cX7_expression 70 = .ok (.iastore, 1) := by decide +kernel
theorem dX7_expression_71 : decode cX7_expression 71 = .ok (.aload_n 0, 1) := by decide +kernel
theorem dX7_expression_72 : decode cX7_expression 72 = .ok (.dup, 1) := by decide +kernel
theorem dX7_expression_73 : decode cX7_expression 73 = .ok (.getfield 275, 3) := by decide +kernel
theorem dX7_expression_76 : decode cX7_expression 76 = .ok (.iconst 1, 1) := by decide +kernel
theorem dX7_expression_77 : decode cX7_expression 77 = .ok (.iadd, 1) := by decide +kernel
theorem dX7_expression_78 : decode cX7_expression 78 = .ok (.putfield 275, 3) := by decide +kernel
theorem dX7_expression_81 : decode cX7_expression 81 = .ok (.goto (-58), 3) := by decide +kernel
theorem dX7_expression_84 : decode cX7_expression 84 = .ok (.aload_n 0, 1) := by decide +kernel
theorem dX7_expression_85 : decode cX7_expression 85 = .ok (.invokevirtual 281, 3) := by decide +kernel
theorem dX7_expression_88 : decode cX7_expression 88 = .ok (.aload_n 0, 1) := by decide +kernel
theorem dX7_expression_89 : decode cX7_expression 89 = .ok (.getfield 188, 3) := by decide +kernel
theorem dX7_expression_92 : decode cX7_expression 92 = .ok (.ifCond .le 4, 3) := by decide +kernel
theorem dX7_expression_95 : decode cX7_expression 95 = .ok (.return_, 1) := by decide +kernel
theorem dX7_expression_96 : decode cX7_expression 96 = .ok (.aload_n 0, 1) := by decide +kernel
theorem dX7_expression_97 : decode cX7_expression 97 = .ok (.bipush 7, 2) := by decide +kernel
theorem dX7_expression_99 : decode cX7_expression 99 = .ok (.invokevirtual 206, 3) := by decide +kernel
theorem dX7_expression_102 : decode cX7_expression 102 = .ok (.ifCond .eq 43, 3) := by decide +kernel
theorem dX7_expression_105 : decode cX7_expression 105 = .ok (.aload_n 0, 1) := by decide +kernel
theorem dX7_expression_106 : decode cX7_expression 106 = .ok (.getfield 215, 3) := by decide +kernel
theorem dX7_expression_109 : decode cX7_expression 109 = .ok (.iload_n 1, 1) := by decide +kernel
theorem dX7_expression_110 : decode cX7_expression 110 = .ok (.if_icmp .le 35, 3) := by decide +kernel
theorem dX7_expression_113 : decode cX7_expression 113 = .ok (.aload_n 0, 1) := by decide +kernel
theorem dX7_expression_114 : decode cX7_expression 114 = .ok (.iconst 0, 1) := by decide +kernel
theorem dX7_expression_115 : decode cX7_expression 115 = .ok (.invokevirtual 284, 3) := by decide +kernel
theorem dX7_expression_118 : decode cX7_expression 118 = .ok (.aload_n 0, 1) := by decide +kernel
theorem dX7_expression_119 : decode cX7_expression 119 = .ok (.dup, 1) := by decide +kernel
theorem dX7_expression_120 : decode cX7_expression 120 = .ok (.getfield 275, 3) := by decide +kernel
theorem dX7_expression_123 : decode cX7_expression 123 = .ok (.iconst 1, 1) := by decide +kernel
theorem dX7_expression_124 : decode cX7_expression 124 = .ok (.isub, 1) := by decide +kernel
theorem dX7_expression_125 : decode cX7_expression 125 = .ok (.putfield 275, 3) := by decide +kernel
theorem dX7_expression_128 : decode cX7_expression 128 = .ok (.aload_n 0, 1) := by decide +kernel
theorem dX7_expression_129 : decode cX7_expression 129 = .ok (.dup, 1) := by decide +kernel
theorem dX7_expression_130 : decode cX7_expression 130 = .ok (.getfield 215, 3) := by decide +kernel
theorem dX7_expression_133 : decode cX7_expression 133 = .ok (.iconst 1, 1) := by decide +kernel
theorem dX7_expression_134 : decode cX7_expression 134 = .ok (.isub, 1) := by decide +kernel
theorem dX7_expression_135 : decode cX7_expression 135 = .ok (.putfield 215, 3) := by decide +kernel
theorem dX7_expression_138 : decode cX7_expression 138 = .ok (.aload_n 0, 1) := by decide +kernel
theorem dX7_expression_139 : decode cX7_expression 139 = .ok (.invokevirtual 209, 3) := by decide +kernel
theorem dX7_expression_142 : decode cX7_expression 142 = .ok (.goto (-46), 3) := by decide +kernel
theorem dX7_expression_145 : decode cX7_expression 145 = .ok (.aload_n 0, 1) := by decide +kernel
theorem dX7_expression_146 : decode cX7_expression 146 = .ok (.bipush 8, 2) := by decide +kernel
theorem dX7_expression_148 : decode cX7_expression 148 = .ok (.invokevirtual 206, 3) := by decide +kernel
theorem dX7_expression_151 : decode cX7_expression 151 = .ok (.ifCond .ne 30, 3) := by decide +kernel
theorem dX7_expression_154 : decode cX7_expression 154 = .ok (.aload_n 0, 1) := by decide +kernel
theorem dX7_expression_155 : decode cX7_expression 155 = .ok (.bipush 9, 2) := by decide +kernel
theorem dX7_expression_157 : decode cX7_expression 157 = .ok (.invokevirtual 206, 3) := by decide +kernel
theorem dX7_expression_160 : decode cX7_expression 160 = .ok (.ifCond .ne 21, 3) := by decide +kernel
theorem dX7_expression_163 : decode cX7_expression 163 = .ok (.aload_n 0, 1) := by decide +kernel
theorem dX7_expression_164 : decode cX7_expression 164 = .ok (.bipush 10, 2) := by decide +kernel
theorem dX7_expression_166 : decode cX7_expression 166 = .ok (.invokevirtual 206, 3) := by decide +kernel
theorem dX7_expression_169 : decode cX7_expression 169 = .ok (.ifCond .ne 12, 3) := by decide +kernel
theorem dX7_expression_172 : decode cX7_expression 172 = .ok (.aload_n 0, 1) := by decide +kernel
theorem dX7_expression_173 : decode cX7_expression 173 = .ok (.bipush 15, 2) := by decide +kernel
theorem dX7_expression_175 : decode cX7_expression 175 = .ok (.invokevirtual 206, 3) := by decide +kernel
theorem dX7_expression_178 : decode cX7_expression 178 = .ok (.ifCond .eq 7, 3) := by decide +kernel
theorem dX7_expression_181 : decode cX7_expression 181 = .ok (.iconst 1, 1) := by decide +kernel
theorem dX7_expression_182 : decode cX7_expression 182 = .ok (.goto 4, 3) := by decide +kernel
theorem dX7_expression_185 : decode cX7_expression 185 = .ok (.iconst 0, 1) := by decide +kernel
theorem dX7_expression_186 : decode cX7_expression 186 = .ok (.istore_n 2, 1) := by decide +kernel
theorem dX7_expression_187 : decode cX7_expression 187 = .ok (.iload_n 2, 1) := by decide +kernel
theorem dX7_expression_188 : decode cX7_expression 188 = .ok (.ifCond .ne 22, 3) := by decide +kernel
theorem dX7_expression_191 : decode cX7_expression 191 = .ok (.aload_n 0, 1) := by decide +kernel
theorem dX7_expression_192 : decode cX7_expression 192 = .ok (.getfield 215, 3) := by decide +kernel
theorem dX7_expression_195 : decode cX7_expression 195 = .ok (.iload_n 1, 1) := by decide +kernel
theorem dX7_expression_196 : decode cX7_expression 196 = .ok (.if_icmp .le 8, 3) := by decide +kernel
theorem dX7_expression_199 : decode cX7_expression 199 = .ok (.aload_n 0, 1) := by decide +kernel
theorem dX7_expression_200 : decode cX7_expression 200 = .ok (.iconst 1, 1) := by decide +kernel
theorem dX7_expression_201 : decode cX7_expression 201 = .ok (.invokevirtual 203, 3) := by decide +kernel
theorem dX7_expression_204 : decode cX7_expression 204 = .ok (.aload_n 0, 1) := by decide +kernel
theorem dX7_expression_205 : decode cX7_expression 205 = .ok (.iconst 0, 1) := by decide +kernel
theorem dX7_expression_206 : decode cX7_expression 206 = .ok (.invokevirtual 284, 3) := by decide +kernel
theorem dX7_expression_209 : decode cX7_expression 209 = .ok (.return_, 1) := by decide +kernel
theorem dX7_expression_210 : decode cX7_expression 210 = .ok (.aload_n 0, 1) := by decide +kernel
theorem dX7_expression_211 : decode cX7_expression 211 = .ok (.aload_n 0, 1) := by decide +kernel
theorem dX7_expression_212 : decode cX7_expression 212 = .ok (.bipush 10, 2) := by decide +kernel
theorem dX7_expression_214 : decode cX7_expression 214 = .ok (.invokevirtual 206, 3) := by decide +kernel
theorem dX7_expression_217 : decode cX7_expression 217 = .ok (.ifCond .ne 12, 3) := by decide +kernel
theorem dX7_expression_220 : decode cX7_expression 220 = .ok (.aload_n 0, 1) := by decide +kernel
theorem dX7_expression_221 : decode cX7_expression 221 = .ok (.bipush 15, 2) := by decide +kernel
theorem dX7_expression_223 : decode cX7_expression 223 = .ok (.invokevirtual 206, 3) := by decide +kernel
theorem dX7_expression_226 : decode cX7_expression 226 = .ok (.ifCond .eq 7, 3) := by decide +kernel
theorem dX7_expression_229 : decode cX7_expression 229 = .ok (.iconst 1, 1) := by decide +kernel
theorem dX7_expression_230 : decode cX7_expression 230 = .ok (.goto 4, 3) := by decide +kernel
theorem dX7_expression_233 : decode cX7_expression 233 = .ok (.iconst 0, 1) := by decide +kernel
theorem dX7_expression_234 : decode cX7_expression 234 = .ok (.invokevirtual 284, 3) := by decide +kernel
theorem dX7_expression_237 : decode cX7_expression 237 = .ok (.aload_n 0, 1) := by decide +kernel
theorem dX7_expression_238 : decode cX7_expression 238 = .ok (.getfield 98, 3) := by decide +kernel
theorem dX7_expression_241 : decode cX7_expression 241 = .ok (.aload_n 0, 1) := by decide +kernel
theorem dX7_expression_242 : decode cX7_expression 242 = .ok (.getfield 275, 3) := by decide +kernel
theorem dX7_expression_245 : decode cX7_expression 245 = .ok (.aload_n 0, 1) := by decide +kernel
theorem dX7_expression_246 : decode cX7_expression 246 = .ok (.getfield 20, 3) := by decide +kernel
theorem dX7_expression_249 : decode cX7_expression 249 = .ok (.aload_n 0, 1) := by decide +kernel
theorem dX7_expression_250 : decode cX7_expression 250 = .ok (.getfield 191, 3) := by decide +kernel
theorem dX7_expression_253 : decode cX7_expression 253 = .ok (.iaload, 1) := by decide +kernel
theorem dX7_expression_254 : decode cX7_expression 254 = .ok (.iastore, 1) := by decide +kernel
theorem dX7_expression_255 : decode cX7_expression 255 = .ok (.aload_n 0, 1) := by decide +kernel
theorem dX7_expression_256 : decode cX7_expression 256 = .ok (.dup, 1) := by decide +kernel
theorem dX7_expression_257 : decode cX7_expression 257 = .ok (.getfield 275, 3) := by decide +kernel
theorem dX7_expression_260 : decode cX7_expression 260 = .ok (.iconst 1, 1) := by decide +kernel
theorem dX7_expression_261 : decode cX7_expression 261 = .ok (.iadd, 1) := by decide +kernel
theorem dX7_expression_262 : decode cX7_expression 262 = .ok (.putfield 275, 3) := by decide +kernel
theorem dX7_expression_265 : decode cX7_expression 265 = .ok (.aload_n 0, 1) := by decide +kernel
theorem dX7_expression_266 : decode cX7_expression 266 = .ok (.invokevirtual 209, 3) := by decide +kernel
theorem dX7_expression_269 : decode cX7_expression 269 = .ok (.goto (-257), 3) := by decide +kernel
theorem dX7_expression_272 : decode cX7_expression 272 = .ok (.return_, 1) := by decide +kernel
theorem dX7_unit_0 : decode cX7_unit 0 = .ok (.aload_n 0, 1) := by decide +kernel
theorem dX7_unit_1 : decode cX7_unit 1 = .ok (.iconst 2, 1) := by decide +kernel
theorem dX7_unit_2 : decode cX7_unit 2 = .ok (.invokevirtual 206, 3) := by decide +kernel
theorem dX7_unit_5 : decode cX7_unit 5 = .ok (.ifCond .eq 24, 3) := by decide +kernel
theorem dX7_unit_8 : decode cX7_unit 8 = .ok (.aload_n 0, 1) := by decide +kernel
theorem dX7_unit_9 : decode cX7_unit 9 = .ok (.iconst 0, 1) := by decide +kernel
theorem dX7_unit_10 : decode cX7_unit 10 = .ok (.aload_n 0, 1) := by decide +kernel
theorem dX7_unit_11 : decode cX7_unit 11 = .ok (.getfield 27, 3) := by decide +kernel
theorem dX7_unit_14 : decode cX7_unit 14 = .ok (.aload_n 0, 1) := by decide +kernel
theorem dX7_unit_15 : decode cX7_unit 15 = .ok (.getfield 191, 3) := by decide +kernel
theorem dX7_unit_18 : decode cX7_unit 18 = .ok (.iaload, 1) := by decide +kernel
theorem dX7_unit_19 : decode cX7_unit 19 = .ok (.invokevirtual 278, 3) := by decide +kernel
theorem dX7_unit_22 : decode cX7_unit 22 = .ok (.aload_n 0, 1) := by decide +kernel
theorem dX7_unit_23 : decode cX7_unit 23 = .ok (.invokevirtual 209, 3) := by decide +kernel
theorem dX7_unit_26 : decode cX7_unit 26 = .ok (.goto 67, 3) := by decide +kernel
theorem dX7_unit_29 : decode cX7_unit 29 = .ok (.aload_n 0, 1) := by decide +kernel
theorem dX7_unit_30 : decode cX7_unit 30 = .ok (.getfield 188, 3) := by decide +kernel
theorem dX7_unit_33 : decode cX7_unit 33 = .ok (.ifCond .ne 55, 3) := by decide +kernel
theorem dX7_unit_36 : decode cX7_unit 36 = .ok (.aload_n 0, 1) := by decide +kernel
theorem dX7_unit_37 : decode cX7_unit 37 = .ok (.getfield 20, 3) := by decide +kernel
theorem dX7_unit_40 : decode cX7_unit 40 = .ok (.aload_n 0, 1) := by decide +kernel
theorem dX7_unit_41 : decode cX7_unit 41 = .ok (.getfield 191, 3) := by decide +kernel
theorem dX7_unit_44 : decode cX7_unit 44 = .ok (.iaload, 1) := by decide +kernel
theorem dX7_unit_45 : decode cX7_unit 45 = .ok (.bipush 31, 2) := by decide +kernel
theorem dX7_unit_47 : decode cX7_unit 47 = .ok (.if_icmp .lt 41, 3) := by decide +kernel
theorem dX7_unit_50 : decode cX7_unit 50 = .ok (.aload_n 0, 1) := by decide +kernel
theorem dX7_unit_51 : decode cX7_unit 51 = .ok (.getfield 20, 3) := by decide +kernel
theorem dX7_unit_54 : decode cX7_unit 54 = .ok (.aload_n 0, 1) := by decide +kernel
theorem dX7_unit_55 : decode cX7_unit 55 = .ok (.getfield 191, 3) := by decide +kernel
theorem dX7_unit_58 : decode cX7_unit 58 = .ok (.iaload, 1) := by decide +kernel
theorem dX7_unit_59 : decode cX7_unit 59 = .ok (.bipush 39, 2) := by decide +kernel
theorem dX7_unit_61 : decode cX7_unit 61 = .ok (.if_icmp .gt 27, 3) := by decide +kernel
theorem dX7_unit_64 : decode cX7_unit 64 = .ok (.aload_n 0, 1) := by decide +kernel
theorem dX7_unit_65 : decode cX7_unit 65 = .ok (.iconst 1, 1) := by decide +kernel
theorem dX7_unit_66 : decode cX7_unit 66 = .ok (.aload_n 0, 1) := by decide +kernel
theorem dX7_unit_67 : decode cX7_unit 67 = .ok (.getfield 20, 3) := by decide +kernel
theorem dX7_unit_70 : decode cX7_unit 70 = .ok (.aload_n 0, 1) := by decide +kernel
theorem dX7_unit_71 : decode cX7_unit 71 = .ok (.getfield 191, 3) := by decide +kernel
theorem dX7_unit_74 : decode cX7_unit 74 = .ok (.iaload, 1) := by decide +kernel
theorem dX7_unit_75 : decode cX7_unit 75 = .ok (.bipush 31, 2) := by decide +kernel
theorem dX7_unit_77 : decode cX7_unit 77 = .ok (.isub, 1) := by decide +kernel
theorem dX7_unit_78 : decode cX7_unit 78 = .ok (.invokevirtual 278, 3) := by decide +kernel
theorem dX7_unit_81 : decode cX7_unit 81 = .ok (.aload_n 0, 1) := by decide +kernel
theorem dX7_unit_82 : decode cX7_unit 82 = .ok (.invokevirtual 209, 3) := by decide +kernel
theorem dX7_unit_85 : decode cX7_unit 85 = .ok (.goto 8, 3) := by decide +kernel
theorem dX7_unit_88 : decode cX7_unit 88 = .ok (.aload_n 0, 1) := by decide +kernel
theorem dX7_unit_89 : decode cX7_unit 89 = .ok (.iconst 1, 1) := by decide +kernel
theorem dX7_unit_90 : decode cX7_unit 90 = .ok (.invokevirtual 203, 3) := by decide +kernel
theorem dX7_unit_93 : decode cX7_unit 93 = .ok (.return_, 1) := by decide +kernel
theorem dX7_termOf_0 : decode cX7_termOf 0 = .ok (.iconst 0, 1) := by decide +kernel
theorem dX7_termOf_1 : decode cX7_termOf 1 = .ok (.istore_n 3, 1) := by decide +kernel
theorem dX7_termOf_2 : decode cX7_termOf 2 = .ok (.iload_n 1, 1) := by decide +kernel
theorem dX7_termOf_3 : decode cX7_termOf 3 = .ok (.istore 4, 2) := by decide +kernel
theorem dX7_termOf_5 : decode cX7_termOf 5 = .ok (.iload 4, 2) := by decide +kernel
theorem dX7_termOf_7 : decode cX7_termOf 7 = .ok (.iload_n 2, 1) := by decide +kernel
theorem dX7_termOf_8 : decode cX7_termOf 8 = .ok (.if_icmp .ge 157, 3) := by decide +kernel
theorem dX7_termOf_11 : decode cX7_termOf 11 = .ok (.aload_n 0, 1) := by decide +kernel
theorem dX7_termOf_12 : decode cX7_termOf 12 = .ok (.getfield 92, 3) := by decide +kernel
theorem dX7_termOf_15 : decode cX7_termOf 15 = .ok (.iload 4, 2) := by decide +kernel
theorem dX7_termOf_17 : decode cX7_termOf 17 = .ok (.iaload, 1) := by decide +kernel
theorem dX7_termOf_18 : decode cX7_termOf 18 = .ok (.istore 5, 2) := by decide +kernel
theorem dX7_termOf_20 : decode cX7_termOf 20 = .ok (.iload 5, 2) := by decide +kernel
theorem dX7_termOf_22 : decode cX7_termOf 22 = .ok (.iconst 2, 1) := by decide +kernel
theorem dX7_termOf_23 : decode cX7_termOf 23 = .ok (.if_icmp .ge 42, 3) := by decide +kernel
theorem dX7_termOf_26 : decode cX7_termOf 26 = .ok (.aload_n 0, 1) := by decide +kernel
theorem dX7_termOf_27 : decode cX7_termOf 27 = .ok (.getfield 104, 3) := by decide +kernel
theorem dX7_termOf_30 : decode cX7_termOf 30 = .ok (.iload_n 3, 1) := by decide +kernel
theorem dX7_termOf_31 : decode cX7_termOf 31 = .ok (.iload 5, 2) := by decide +kernel
theorem dX7_termOf_33 : decode cX7_termOf 33 = .ok (.ifCond .ne 13, 3) := by decide +kernel
theorem dX7_termOf_36 : decode cX7_termOf 36 = .ok (.aload_n 0, 1) := by decide +kernel
theorem dX7_termOf_37 : decode cX7_termOf 37 = .ok (.getfield 95, 3) := by decide +kernel
theorem dX7_termOf_40 : decode cX7_termOf 40 = .ok (.iload 4, 2) := by decide +kernel
theorem dX7_termOf_42 : decode cX7_termOf 42 = .ok (.iaload, 1) := by decide +kernel
theorem dX7_termOf_43 : decode cX7_termOf 43 = .ok (.goto 15, 3) := by decide +kernel
theorem dX7_termOf_46 : decode cX7_termOf 46 = .ok (.aload_n 0, 1) := by decide +kernel
theorem dX7_termOf_47 : decode cX7_termOf 47 = .ok (.getfield 101, 3) := by decide +kernel
theorem dX7_termOf_50 : decode cX7_termOf 50 = .ok (.aload_n 0, 1) := by decide +kernel
theorem dX7_termOf_51 : decode cX7_termOf 51 = .ok (.getfield 95, 3) := by decide +kernel
theorem dX7_termOf_54 : decode cX7_termOf 54 = .ok (.iload 4, 2) := by decide +kernel
theorem dX7_termOf_56 : decode cX7_termOf 56 = .ok (.iaload, 1) := by decide +kernel
theorem dX7_termOf_57 : decode cX7_termOf 57 = .ok (.iaload, 1) := by decide +kernel
theorem dX7_termOf_58 : decode cX7_termOf 58 = .ok (.iastore, 1) := by decide +kernel
theorem dX7_termOf_59 : decode cX7_termOf 59 = .ok (.iinc 3 1, 3) := by decide +kernel
theorem dX7_termOf_62 : decode cX7_termOf 62 = .ok (.goto 97, 3) := by decide +kernel
theorem dX7_termOf_65 : decode cX7_termOf 65 = .ok (.iinc 3 (-1), 3) := by decide +kernel
theorem dX7_termOf_68 : decode cX7_termOf 68 = .ok (.aload_n 0, 1) := by decide +kernel
theorem dX7_termOf_69 : decode cX7_termOf 69 = .ok (.getfield 104, 3) := by decide +kernel
theorem dX7_termOf_72 : decode cX7_termOf 72 = .ok (.iload_n 3, 1) := by decide +kernel
theorem dX7_termOf_73 : decode cX7_termOf 73 = .ok (.iconst 1, 1) := by decide +kernel
theorem dX7_termOf_74 : decode cX7_termOf 74 = .ok (.isub, 1) := by decide +kernel
theorem dX7_termOf_75 : decode cX7_termOf 75 = .ok (.iaload, 1) := by decide +kernel
theorem dX7_termOf_76 : decode cX7_termOf 76 = .ok (.istore 6, 2) := by decide +kernel
theorem dX7_termOf_78 : decode cX7_termOf 78 = .ok (.aload_n 0, 1) := by decide +kernel
theorem dX7_termOf_79 : decode cX7_termOf 79 = .ok (.getfield 104, 3) := by decide +kernel
theorem dX7_termOf_82 : decode cX7_termOf 82 = .ok (.iload_n 3, 1) := by decide +kernel
theorem dX7_termOf_83 : decode cX7_termOf 83 = .ok (.iaload, 1) := by decide +kernel
theorem dX7_termOf_84 : decode cX7_termOf 84 = .ok (.istore 7, 2) := by decide +kernel
theorem dX7_termOf_86 : decode cX7_termOf 86 = .ok (.iload 5, 2) := by decide +kernel
theorem dX7_termOf_88 : decode cX7_termOf 88 = .ok (.iconst 5, 1) := by decide +kernel
theorem dX7_termOf_89 : decode cX7_termOf 89 = .ok (.if_icmp .ne 15, 3) := by decide +kernel
theorem dX7_termOf_92 : decode cX7_termOf 92 = .ok (.iload 7, 2) := by decide +kernel
theorem dX7_termOf_94 : decode cX7_termOf 94 = .ok (.ifCond .ne 10, 3) := by decide +kernel
theorem dX7_termOf_97 : decode cX7_termOf 97 = .ok (.aload_n 0, 1) := by decide +kernel
theorem dX7_termOf_98 : decode cX7_termOf 98 = .ok (.iconst 1, 1) := by decide +kernel
theorem dX7_termOf_99 : decode cX7_termOf 99 = .ok (.putfield 288, 3) := by decide +kernel
theorem dX7_termOf_102 : decode cX7_termOf 102 = .ok (.iconst 0, 1) := by decide +kernel
theorem dX7_termOf_103 : decode cX7_termOf 103 = .ok (.ireturn, 1) := by decide +kernel
theorem dX7_termOf_104 : decode cX7_termOf 104 = .ok (.aload_n 0, 1) := by decide +kernel
theorem dX7_termOf_105 : decode cX7_termOf 105 = .ok (.getfield 104, 3) := by decide +kernel
theorem dX7_termOf_108 : decode cX7_termOf 108 = .ok (.iload_n 3, 1) := by decide +kernel
theorem dX7_termOf_109 : decode cX7_termOf 109 = .ok (.iconst 1, 1) := by decide +kernel
theorem dX7_termOf_110 : decode cX7_termOf 110 = .ok (.isub, 1) := by decide +kernel
theorem dX7_termOf_111 : decode cX7_termOf 111 = .ok (.iload 5, 2) := by decide +kernel
theorem dX7_termOf_113 : decode cX7_termOf 113 = .ok (.iconst 2, 1) := by decide +kernel
theorem dX7_termOf_114 : decode cX7_termOf 114 = .ok (.if_icmp .ne 11, 3) := by decide +kernel
theorem dX7_termOf_117 : decode cX7_termOf 117 = .ok (.iload 6, 2) := by decide +kernel
theorem dX7_termOf_119 : decode cX7_termOf 119 = .ok (.iload 7, 2) := by decide +kernel
theorem dX7_termOf_121 : decode cX7_termOf 121 = .ok (.iadd, 1) := by decide +kernel
theorem dX7_termOf_122 : decode cX7_termOf 122 = .ok (.goto 36, 3) := by decide +kernel
theorem dX7_termOf_125 : decode cX7_termOf 125 = .ok (.iload 5, 2) := by decide +kernel
theorem dX7_termOf_127 : decode cX7_termOf 127 = .ok (.iconst 3, 1) := by decide +kernel
theorem dX7_termOf_128 : decode cX7_termOf 128 = .ok (.if_icmp .ne 11, 3) := by decide +kernel
theorem dX7_termOf_131 : decode cX7_termOf 131 = .ok (.iload 6, 2) := by decide +kernel
theorem dX7_termOf_133 : decode cX7_termOf 133 = .ok (.iload 7, 2) := by decide +kernel
theorem dX7_termOf_135 : decode cX7_termOf 135 = .ok (.isub, 1) := by decide +kernel
theorem dX7_termOf_136 : decode cX7_termOf 136 = .ok (.goto 22, 3) := by decide +kernel
theorem dX7_termOf_139 : decode cX7_termOf 139 = .ok (.iload 5, 2) := by decide +kernel
theorem dX7_termOf_141 : decode cX7_termOf 141 = .ok (.iconst 4, 1) := by decide +kernel
theorem dX7_termOf_142 : decode cX7_termOf 142 = .ok (.if_icmp .ne 11, 3) := by decide +kernel
theorem dX7_termOf_145 : decode cX7_termOf 145 = .ok (.iload 6, 2) := by decide +kernel
theorem dX7_termOf_147 : decode cX7_termOf 147 = .ok (.iload 7, 2) := by decide +kernel
theorem dX7_termOf_149 : decode cX7_termOf 149 = .ok (.imul, 1) := by decide +kernel
theorem dX7_termOf_150 : decode cX7_termOf 150 = .ok (.goto 8, 3) := by decide +kernel
theorem dX7_termOf_153 : decode cX7_termOf 153 = .ok (.iload 6, 2) := by decide +kernel
theorem dX7_termOf_155 : decode cX7_termOf 155 = .ok (.iload 7, 2) := by decide +kernel
theorem dX7_termOf_157 : decode cX7_termOf 157 = .ok (.idiv, 1) := by decide +kernel
theorem dX7_termOf_158 : decode cX7_termOf 158 = .ok (.iastore, 1) := by decide +kernel
theorem dX7_termOf_159 : decode cX7_termOf 159 = .ok (.iinc 4 1, 3) := by decide +kernel
theorem dX7_termOf_162 : decode cX7_termOf 162 = .ok (.goto (-157), 3) := by decide +kernel
theorem dX7_termOf_165 : decode cX7_termOf 165 = .ok (.aload_n 0, 1) := by decide +kernel
theorem dX7_termOf_166 : decode cX7_termOf 166 = .ok (.getfield 104, 3) := by decide +kernel
theorem dX7_termOf_169 : decode cX7_termOf 169 = .ok (.iconst 0, 1) := by decide +kernel
theorem dX7_termOf_170 : decode cX7_termOf 170 = .ok (.iaload, 1) := by decide +kernel
theorem dX7_termOf_171 : decode cX7_termOf 171 = .ok (.ireturn, 1) := by decide +kernel
theorem dX7_in_0 : decode cX7_in 0 = .ok (.iload_n 0, 1) := by decide +kernel
theorem dX7_in_1 : decode cX7_in 1 = .ok (.iload_n 1, 1) := by decide +kernel
theorem dX7_in_2 : decode cX7_in 2 = .ok (.if_icmp .lt 12, 3) := by decide +kernel
theorem dX7_in_5 : decode cX7_in 5 = .ok (.iload_n 0, 1) := by decide +kernel
theorem dX7_in_6 : decode cX7_in 6 = .ok (.iload_n 2, 1) := by decide +kernel
theorem dX7_in_7 : decode cX7_in 7 = .ok (.if_icmp .gt 7, 3) := by decide +kernel
theorem dX7_in_10 : decode cX7_in 10 = .ok (.iconst 1, 1) := by decide +kernel
theorem dX7_in_11 : decode cX7_in 11 = .ok (.goto 4, 3) := by decide +kernel
theorem dX7_in_14 : decode cX7_in 14 = .ok (.iconst 0, 1) := by decide +kernel
theorem dX7_in_15 : decode cX7_in 15 = .ok (.ireturn, 1) := by decide +kernel
theorem dX7_within_0 : decode cX7_within 0 = .ok (.iload_n 0, 1) := by decide +kernel
theorem dX7_within_1 : decode cX7_within 1 = .ok (.iload_n 1, 1) := by decide +kernel
theorem dX7_within_2 : decode cX7_within 2 = .ok (.if_icmp .ge 7, 3) := by decide +kernel
theorem dX7_within_5 : decode cX7_within 5 = .ok (.iload_n 1, 1) := by decide +kernel
theorem dX7_within_6 : decode cX7_within 6 = .ok (.goto 13, 3) := by decide +kernel
theorem dX7_within_9 : decode cX7_within 9 = .ok (.iload_n 0, 1) := by decide +kernel
theorem dX7_within_10 : decode cX7_within 10 = .ok (.iload_n 2, 1) := by decide +kernel
theorem dX7_within_11 : decode cX7_within 11 = .ok (.if_icmp .le 7, 3) := by decide +kernel
theorem dX7_within_14 : decode cX7_within 14 = .ok (.iload_n 2, 1) := by decide +kernel
theorem dX7_within_15 : decode cX7_within 15 = .ok (.goto 4, 3) := by decide +kernel
theorem dX7_within_18 : decode cX7_within 18 = .ok (.iload_n 0, 1) := by decide +kernel
theorem dX7_within_19 : decode cX7_within 19 = .ok (.ireturn, 1) := by decide +kernel
theorem dX7_bits_0 : decode cX7_bits 0 = .ok (.iconst 0, 1) := by decide +kernel
theorem dX7_bits_1 : decode cX7_bits 1 = .ok (.istore_n 1, 1) := by decide +kernel
theorem dX7_bits_2 : decode cX7_bits 2 = .ok (.iconst 0, 1) := by decide +kernel
theorem dX7_bits_3 : decode cX7_bits 3 = .ok (.istore_n 2, 1) := by decide +kernel
theorem dX7_bits_4 : decode cX7_bits 4 = .ok (.iload_n 2, 1) := by decide +kernel
theorem dX7_bits_5 : decode cX7_bits 5 = .ok (.bipush 8, 2) := by decide +kernel
theorem dX7_bits_7 : decode cX7_bits 7 = .ok (.if_icmp .ge 17, 3) := by decide +kernel
theorem dX7_bits_10 : decode cX7_bits 10 = .ok (.iload_n 1, 1) := by decide +kernel
theorem dX7_bits_11 : decode cX7_bits 11 = .ok (.iload_n 0, 1) := by decide +kernel
theorem dX7_bits_12 : decode cX7_bits 12 = .ok (.iload_n 2, 1) := by decide +kernel
theorem dX7_bits_13 : decode cX7_bits 13 = .ok (.ishr, 1) := by decide +kernel
theorem dX7_bits_14 : decode cX7_bits 14 = .ok (.iconst 1, 1) := by decide +kernel
theorem dX7_bits_15 : decode cX7_bits 15 = .ok (.iand, 1) := by decide +kernel
theorem dX7_bits_16 : decode cX7_bits 16 = .ok (.iadd, 1) := by decide +kernel
theorem dX7_bits_17 : decode cX7_bits 17 = .ok (.istore_n 1, 1) := by decide +kernel
theorem dX7_bits_18 : decode cX7_bits 18 = .ok (.iinc 2 1, 3) := by decide +kernel
theorem dX7_bits_21 : decode cX7_bits 21 = .ok (.goto (-17), 3) := by decide +kernel
theorem dX7_bits_24 : decode cX7_bits 24 = .ok (.iload_n 1, 1) := by decide +kernel
theorem dX7_bits_25 : decode cX7_bits 25 = .ok (.ireturn, 1) := by decide +kernel
theorem dX7_isHouse_0 : decode cX7_isHouse 0 = .ok (.iload_n 1, 1) := by decide +kernel
theorem dX7_isHouse_1 : decode cX7_isHouse 1 = .ok (.iconst 0, 1) := by decide +kernel
theorem dX7_isHouse_2 : decode cX7_isHouse 2 = .ok (.aload_n 0, 1) := by decide +kernel
theorem dX7_isHouse_3 : decode cX7_isHouse 3 = .ok (.getfield 43, 3) := by decide +kernel
theorem dX7_isHouse_6 : decode cX7_isHouse 6 = .ok (.aload_n 0, 1) := by decide +kernel
theorem dX7_isHouse_7 : decode cX7_isHouse 7 = .ok (.getfield 218, 3) := by decide +kernel
theorem dX7_isHouse_10 : decode cX7_isHouse 10 = .ok (.iaload, 1) := by decide +kernel
theorem dX7_isHouse_11 : decode cX7_isHouse 11 = .ok (.iconst 1, 1) := by decide +kernel
theorem dX7_isHouse_12 : decode cX7_isHouse 12 = .ok (.isub, 1) := by decide +kernel
theorem dX7_isHouse_13 : decode cX7_isHouse 13 = .ok (.invokestatic 292, 3) := by decide +kernel
theorem dX7_isHouse_16 : decode cX7_isHouse 16 = .ok (.ireturn, 1) := by decide +kernel
theorem dX7_isSpare_0 : decode cX7_isSpare 0 = .ok (.iload_n 1, 1) := by decide +kernel
theorem dX7_isSpare_1 : decode cX7_isSpare 1 = .ok (.iconst 0, 1) := by decide +kernel
theorem dX7_isSpare_2 : decode cX7_isSpare 2 = .ok (.aload_n 0, 1) := by decide +kernel
theorem dX7_isSpare_3 : decode cX7_isSpare 3 = .ok (.getfield 59, 3) := by decide +kernel
theorem dX7_isSpare_6 : decode cX7_isSpare 6 = .ok (.aload_n 0, 1) := by decide +kernel
theorem dX7_isSpare_7 : decode cX7_isSpare 7 = .ok (.getfield 218, 3) := by decide +kernel
theorem dX7_isSpare_10 : decode cX7_isSpare 10 = .ok (.iaload, 1) := by decide +kernel
theorem dX7_isSpare_11 : decode cX7_isSpare 11 = .ok (.iconst 1, 1) := by decide +kernel
theorem dX7_isSpare_12 : decode cX7_isSpare 12 = .ok (.isub, 1) := by decide +kernel
theorem dX7_isSpare_13 : decode cX7_isSpare 13 = .ok (.invokestatic 292, 3) := by decide +kernel
theorem dX7_isSpare_16 : decode cX7_isSpare 16 = .ok (.ireturn, 1) := by decide +kernel
theorem dX7_begins_0 : decode cX7_begins 0 = .ok (.iconst 0, 1) := by decide +kernel
theorem dX7_begins_1 : decode cX7_begins 1 = .ok (.istore_n 1, 1) := by decide +kernel
theorem dX7_begins_2 : decode cX7_begins 2 = .ok (.iload_n 1, 1) := by decide +kernel
theorem dX7_begins_3 : decode cX7_begins 3 = .ok (.bipush 88, 2) := by decide +kernel
theorem dX7_begins_5 : decode cX7_begins 5 = .ok (.if_icmp .ge 16, 3) := by decide +kernel
theorem dX7_begins_8 : decode cX7_begins 8 = .ok (.aload_n 0, 1) := by decide +kernel
theorem dX7_begins_9 : decode cX7_begins 9 = .ok (.getfield 110, 3) := by decide +kernel
theorem dX7_begins_12 : decode cX7_begins 12 = .ok (.iload_n 1, 1) := by decide +kernel
theorem dX7_begins_13 : decode cX7_begins 13 = .ok (.iconst 0, 1) := by decide +kernel
theorem dX7_begins_14 : decode cX7_begins 14 = .ok (.iastore, 1) := by decide +kernel
theorem dX7_begins_15 : decode cX7_begins 15 = .ok (.iinc 1 1, 3) := by decide +kernel
theorem dX7_begins_18 : decode cX7_begins 18 = .ok (.goto (-16), 3) := by decide +kernel
theorem dX7_begins_21 : decode cX7_begins 21 = .ok (.iconst 0, 1) := by decide +kernel
theorem dX7_begins_22 : decode cX7_begins 22 = .ok (.istore_n 1, 1) := by decide +kernel
theorem dX7_begins_23 : decode cX7_begins 23 = .ok (.iload_n 1, 1) := by decide +kernel
theorem dX7_begins_24 : decode cX7_begins 24 = .ok (.aload_n 0, 1) := by decide +kernel
theorem dX7_begins_25 : decode cX7_begins 25 = .ok (.getfield 43, 3) := by decide +kernel
theorem dX7_begins_28 : decode cX7_begins 28 = .ok (.aload_n 0, 1) := by decide +kernel
theorem dX7_begins_29 : decode cX7_begins 29 = .ok (.getfield 218, 3) := by decide +kernel
theorem dX7_begins_32 : decode cX7_begins 32 = .ok (.iaload, 1) := by decide +kernel
theorem dX7_begins_33 : decode cX7_begins 33 = .ok (.if_icmp .ge 96, 3) := by decide +kernel
theorem dX7_begins_36 : decode cX7_begins 36 = .ok (.aload_n 0, 1) := by decide +kernel
theorem dX7_begins_37 : decode cX7_begins 37 = .ok (.getfield 110, 3) := by decide +kernel
theorem dX7_begins_40 : decode cX7_begins 40 = .ok (.iload_n 1, 1) := by decide +kernel
theorem dX7_begins_41 : decode cX7_begins 41 = .ok (.aload_n 0, 1) := by decide +kernel
theorem dX7_begins_42 : decode cX7_begins 42 = .ok (.getfield 46, 3) := by decide +kernel
theorem dX7_begins_45 : decode cX7_begins 45 = .ok (.bipush 8, 2) := by decide +kernel
theorem dX7_begins_47 : decode cX7_begins 47 = .ok (.aload_n 0, 1) := by decide +kernel
theorem dX7_begins_48 : decode cX7_begins 48 = .ok (.getfield 218, 3) := by decide +kernel
theorem dX7_begins_51 : decode cX7_begins 51 = .ok (.imul, 1) := by decide +kernel
theorem dX7_begins_52 : decode cX7_begins 52 = .ok (.iload_n 1, 1) := by decide +kernel
theorem dX7_begins_53 : decode cX7_begins 53 = .ok (.iadd, 1) := by decide +kernel
theorem dX7_begins_54 : decode cX7_begins 54 = .ok (.iaload, 1) := by decide +kernel
theorem dX7_begins_55 : decode cX7_begins 55 = .ok (.iastore, 1) := by decide +kernel
theorem dX7_begins_56 : decode cX7_begins 56 = .ok (.aload_n 0, 1) := by decide +kernel
theorem dX7_begins_57 : decode cX7_begins 57 = .ok (.getfield 110, 3) := by decide +kernel
theorem dX7_begins_60 : decode cX7_begins 60 = .ok (.bipush 8, 2) := by decide +kernel
theorem dX7_begins_62 : decode cX7_begins 62 = .ok (.iload_n 1, 1) := by decide +kernel
theorem dX7_begins_63 : decode cX7_begins 63 = .ok (.iadd, 1) := by decide +kernel
theorem dX7_begins_64 : decode cX7_begins 64 = .ok (.aload_n 0, 1) := by decide +kernel
theorem dX7_begins_65 : decode cX7_begins 65 = .ok (.getfield 49, 3) := by decide +kernel
theorem dX7_begins_68 : decode cX7_begins 68 = .ok (.bipush 8, 2) := by decide +kernel
theorem dX7_begins_70 : decode cX7_begins 70 = .ok (.aload_n 0, 1) := by decide +kernel
theorem dX7_begins_71 : decode cX7_begins 71 = .ok (.getfield 218, 3) := by decide +kernel
theorem dX7_begins_74 : decode cX7_begins 74 = .ok (.imul, 1) := by decide +kernel
theorem dX7_begins_75 : decode cX7_begins 75 = .ok (.iload_n 1, 1) := by decide +kernel
theorem dX7_begins_76 : decode cX7_begins 76 = .ok (.iadd, 1) := by decide +kernel
theorem dX7_begins_77 : decode cX7_begins 77 = .ok (.iaload, 1) := by decide +kernel
theorem dX7_begins_78 : decode cX7_begins 78 = .ok (.iastore, 1) := by decide +kernel
theorem dX7_begins_79 : decode cX7_begins 79 = .ok (.aload_n 0, 1) := by decide +kernel
theorem dX7_begins_80 : decode cX7_begins 80 = .ok (.getfield 110, 3) := by decide +kernel
theorem dX7_begins_83 : decode cX7_begins 83 = .ok (.bipush 16, 2) := by decide +kernel
theorem dX7_begins_85 : decode cX7_begins 85 = .ok (.iload_n 1, 1) := by decide +kernel
theorem dX7_begins_86 : decode cX7_begins 86 = .ok (.iadd, 1) := by decide +kernel
theorem dX7_begins_87 : decode cX7_begins 87 = .ok (.aload_n 0, 1) := by decide +kernel
theorem dX7_begins_88 : decode cX7_begins 88 = .ok (.getfield 52, 3) := by decide +kernel
theorem dX7_begins_91 : decode cX7_begins 91 = .ok (.bipush 8, 2) := by decide +kernel
theorem dX7_begins_93 : decode cX7_begins 93 = .ok (.aload_n 0, 1) := by decide +kernel
theorem dX7_begins_94 : decode cX7_begins 94 = .ok (.getfield 218, 3) := by decide +kernel
theorem dX7_begins_97 : decode cX7_begins 97 = .ok (.imul, 1) := by decide +kernel
theorem dX7_begins_98 : decode cX7_begins 98 = .ok (.iload_n 1, 1) := by decide +kernel
theorem dX7_begins_99 : decode cX7_begins 99 = .ok (.iadd, 1) := by decide +kernel
theorem dX7_begins_100 : decode cX7_begins 100 = .ok (.iaload, 1) := by decide +kernel
theorem dX7_begins_101 : decode cX7_begins 101 = .ok (.iastore, 1) := by decide +kernel
theorem dX7_begins_102 : decode cX7_begins 102 = .ok (.aload_n 0, 1) := by decide +kernel
theorem dX7_begins_103 : decode cX7_begins 103 = .ok (.getfield 110, 3) := by decide +kernel
theorem dX7_begins_106 : decode cX7_begins 106 = .ok (.bipush 24, 2) := by decide +kernel
theorem dX7_begins_108 : decode cX7_begins 108 = .ok (.iload_n 1, 1) := by decide +kernel
theorem dX7_begins_109 : decode cX7_begins 109 = .ok (.iadd, 1) := by decide +kernel
theorem dX7_begins_110 : decode cX7_begins 110 = .ok (.iload_n 1, 1) := by decide +kernel
theorem dX7_begins_111 : decode cX7_begins 111 = .ok (.iastore, 1) := by decide +kernel
theorem dX7_begins_112 : decode cX7_begins 112 = .ok (.aload_n 0, 1) := by decide +kernel
theorem dX7_begins_113 : decode cX7_begins 113 = .ok (.getfield 110, 3) := by decide +kernel
theorem dX7_begins_116 : decode cX7_begins 116 = .ok (.bipush 64, 2) := by decide +kernel
theorem dX7_begins_118 : decode cX7_begins 118 = .ok (.iload_n 1, 1) := by decide +kernel
theorem dX7_begins_119 : decode cX7_begins 119 = .ok (.iadd, 1) := by decide +kernel
theorem dX7_begins_120 : decode cX7_begins 120 = .ok (.bipush (-2), 2) := by decide +kernel
theorem dX7_begins_122 : decode cX7_begins 122 = .ok (.iastore, 1) := by decide +kernel
theorem dX7_begins_123 : decode cX7_begins 123 = .ok (.iinc 1 1, 3) := by decide +kernel
theorem dX7_begins_126 : decode cX7_begins 126 = .ok (.goto (-103), 3) := by decide +kernel
theorem dX7_begins_129 : decode cX7_begins 129 = .ok (.iconst 0, 1) := by decide +kernel
theorem dX7_begins_130 : decode cX7_begins 130 = .ok (.istore_n 1, 1) := by decide +kernel
theorem dX7_begins_131 : decode cX7_begins 131 = .ok (.iload_n 1, 1) := by decide +kernel
theorem dX7_begins_132 : decode cX7_begins 132 = .ok (.bipush 6, 2) := by decide +kernel
theorem dX7_begins_134 : decode cX7_begins 134 = .ok (.if_icmp .ge 60, 3) := by decide +kernel
theorem dX7_begins_137 : decode cX7_begins 137 = .ok (.aload_n 0, 1) := by decide +kernel
theorem dX7_begins_138 : decode cX7_begins 138 = .ok (.getfield 110, 3) := by decide +kernel
theorem dX7_begins_141 : decode cX7_begins 141 = .ok (.bipush 72, 2) := by decide +kernel
theorem dX7_begins_143 : decode cX7_begins 143 = .ok (.iload_n 1, 1) := by decide +kernel
theorem dX7_begins_144 : decode cX7_begins 144 = .ok (.iadd, 1) := by decide +kernel
theorem dX7_begins_145 : decode cX7_begins 145 = .ok (.iload_n 1, 1) := by decide +kernel
theorem dX7_begins_146 : decode cX7_begins 146 = .ok (.aload_n 0, 1) := by decide +kernel
theorem dX7_begins_147 : decode cX7_begins 147 = .ok (.getfield 59, 3) := by decide +kernel
theorem dX7_begins_150 : decode cX7_begins 150 = .ok (.aload_n 0, 1) := by decide +kernel
theorem dX7_begins_151 : decode cX7_begins 151 = .ok (.getfield 218, 3) := by decide +kernel
theorem dX7_begins_154 : decode cX7_begins 154 = .ok (.iaload, 1) := by decide +kernel
theorem dX7_begins_155 : decode cX7_begins 155 = .ok (.if_icmp .ge 20, 3) := by decide +kernel
theorem dX7_begins_158 : decode cX7_begins 158 = .ok (.aload_n 0, 1) := by decide +kernel
theorem dX7_begins_159 : decode cX7_begins 159 = .ok (.getfield 65, 3) := by decide +kernel
theorem dX7_begins_162 : decode cX7_begins 162 = .ok (.bipush 6, 2) := by decide +kernel
theorem dX7_begins_164 : decode cX7_begins 164 = .ok (.aload_n 0, 1) := by decide +kernel
theorem dX7_begins_165 : decode cX7_begins 165 = .ok (.getfield 218, 3) := by decide +kernel
theorem dX7_begins_168 : decode cX7_begins 168 = .ok (.imul, 1) := by decide +kernel
theorem dX7_begins_169 : decode cX7_begins 169 = .ok (.iload_n 1, 1) := by decide +kernel
theorem dX7_begins_170 : decode cX7_begins 170 = .ok (.iadd, 1) := by decide +kernel
theorem dX7_begins_171 : decode cX7_begins 171 = .ok (.iaload, 1) := by decide +kernel
theorem dX7_begins_172 : decode cX7_begins 172 = .ok (.goto 4, 3) := by decide +kernel
theorem dX7_begins_175 : decode cX7_begins 175 = .ok (.iconst (-1), 1) := by decide +kernel
theorem dX7_begins_176 : decode cX7_begins 176 = .ok (.iastore, 1) := by decide +kernel
theorem dX7_begins_177 : decode cX7_begins 177 = .ok (.aload_n 0, 1) := by decide +kernel
theorem dX7_begins_178 : decode cX7_begins 178 = .ok (.getfield 110, 3) := by decide +kernel
theorem dX7_begins_181 : decode cX7_begins 181 = .ok (.bipush 78, 2) := by decide +kernel
theorem dX7_begins_183 : decode cX7_begins 183 = .ok (.iload_n 1, 1) := by decide +kernel
theorem dX7_begins_184 : decode cX7_begins 184 = .ok (.iadd, 1) := by decide +kernel
theorem dX7_begins_185 : decode cX7_begins 185 = .ok (.bipush (-2), 2) := by decide +kernel
theorem dX7_begins_187 : decode cX7_begins 187 = .ok (.iastore, 1) := by decide +kernel
theorem dX7_begins_188 : decode cX7_begins 188 = .ok (.iinc 1 1, 3) := by decide +kernel
theorem dX7_begins_191 : decode cX7_begins 191 = .ok (.goto (-60), 3) := by decide +kernel
theorem dX7_begins_194 : decode cX7_begins 194 = .ok (.aload_n 0, 1) := by decide +kernel
theorem dX7_begins_195 : decode cX7_begins 195 = .ok (.aload_n 0, 1) := by decide +kernel
theorem dX7_begins_196 : decode cX7_begins 196 = .ok (.getfield 68, 3) := by decide +kernel
theorem dX7_begins_199 : decode cX7_begins 199 = .ok (.aload_n 0, 1) := by decide +kernel
theorem dX7_begins_200 : decode cX7_begins 200 = .ok (.getfield 218, 3) := by decide +kernel
theorem dX7_begins_203 : decode cX7_begins 203 = .ok (.iaload, 1) := by decide +kernel
theorem dX7_begins_204 : decode cX7_begins 204 = .ok (.putfield 296, 3) := by decide +kernel
theorem dX7_begins_207 : decode cX7_begins 207 = .ok (.aload_n 0, 1) := by decide +kernel
theorem dX7_begins_208 : decode cX7_begins 208 = .ok (.iconst 0, 1) := by decide +kernel
theorem dX7_begins_209 : decode cX7_begins 209 = .ok (.putfield 299, 3) := by decide +kernel
theorem dX7_begins_212 : decode cX7_begins 212 = .ok (.aload_n 0, 1) := by decide +kernel
theorem dX7_begins_213 : decode cX7_begins 213 = .ok (.iconst (-1), 1) := by decide +kernel
theorem dX7_begins_214 : decode cX7_begins 214 = .ok (.putfield 302, 3) := by decide +kernel
theorem dX7_begins_217 : decode cX7_begins 217 = .ok (.return_, 1) := by decide +kernel
theorem dX7_keepsRow_0 : decode cX7_keepsRow 0 = .ok (.iconst 0, 1) := by decide +kernel
theorem dX7_keepsRow_1 : decode cX7_keepsRow 1 = .ok (.istore_n 1, 1) := by decide +kernel
theorem dX7_keepsRow_2 : decode cX7_keepsRow 2 = .ok (.iload_n 1, 1) := by decide +kernel
theorem dX7_keepsRow_3 : decode cX7_keepsRow 3 = .ok (.bipush 88, 2) := by decide +kernel
theorem dX7_keepsRow_5 : decode cX7_keepsRow 5 = .ok (.if_icmp .ge 21, 3) := by decide +kernel
theorem dX7_keepsRow_8 : decode cX7_keepsRow 8 = .ok (.aload_n 0, 1) := by decide +kernel
theorem dX7_keepsRow_9 : decode cX7_keepsRow 9 = .ok (.getfield 107, 3) := by decide +kernel
theorem dX7_keepsRow_12 : decode cX7_keepsRow 12 = .ok (.iload_n 1, 1) := by decide +kernel
theorem dX7_keepsRow_13 : decode cX7_keepsRow 13 = .ok (.aload_n 0, 1) := by decide +kernel
theorem dX7_keepsRow_14 : decode cX7_keepsRow 14 = .ok (.getfield 110, 3) := by decide +kernel
theorem dX7_keepsRow_17 : decode cX7_keepsRow 17 = .ok (.iload_n 1, 1) := by decide +kernel
theorem dX7_keepsRow_18 : decode cX7_keepsRow 18 = .ok (.iaload, 1) := by decide +kernel
theorem dX7_keepsRow_19 : decode cX7_keepsRow 19 = .ok (.iastore, 1) := by decide +kernel
theorem dX7_keepsRow_20 : decode cX7_keepsRow 20 = .ok (.iinc 1 1, 3) := by decide +kernel
theorem dX7_keepsRow_23 : decode cX7_keepsRow 23 = .ok (.goto (-21), 3) := by decide +kernel
theorem dX7_keepsRow_26 : decode cX7_keepsRow 26 = .ok (.return_, 1) := by decide +kernel
theorem dX7_copies_0 : decode cX7_copies 0 = .ok (.iconst 0, 1) := by decide +kernel
theorem dX7_copies_1 : decode cX7_copies 1 = .ok (.istore_n 1, 1) := by decide +kernel
theorem dX7_copies_2 : decode cX7_copies 2 = .ok (.iload_n 1, 1) := by decide +kernel
theorem dX7_copies_3 : decode cX7_copies 3 = .ok (.bipush 88, 2) := by decide +kernel
theorem dX7_copies_5 : decode cX7_copies 5 = .ok (.if_icmp .ge 21, 3) := by decide +kernel
theorem dX7_copies_8 : decode cX7_copies 8 = .ok (.aload_n 0, 1) := by decide +kernel
theorem dX7_copies_9 : decode cX7_copies 9 = .ok (.getfield 110, 3) := by decide +kernel
theorem dX7_copies_12 : decode cX7_copies 12 = .ok (.iload_n 1, 1) := by decide +kernel
theorem dX7_copies_13 : decode cX7_copies 13 = .ok (.aload_n 0, 1) := by decide +kernel
theorem dX7_copies_14 : decode cX7_copies 14 = .ok (.getfield 107, 3) := by decide +kernel
theorem dX7_copies_17 : decode cX7_copies 17 = .ok (.iload_n 1, 1) := by decide +kernel
theorem dX7_copies_18 : decode cX7_copies 18 = .ok (.iaload, 1) := by decide +kernel
theorem dX7_copies_19 : decode cX7_copies 19 = .ok (.iastore, 1) := by decide +kernel
theorem dX7_copies_20 : decode cX7_copies 20 = .ok (.iinc 1 1, 3) := by decide +kernel
theorem dX7_copies_23 : decode cX7_copies 23 = .ok (.goto (-21), 3) := by decide +kernel
theorem dX7_copies_26 : decode cX7_copies 26 = .ok (.aload_n 0, 1) := by decide +kernel
theorem dX7_copies_27 : decode cX7_copies 27 = .ok (.aload_n 0, 1) := by decide +kernel
theorem dX7_copies_28 : decode cX7_copies 28 = .ok (.getfield 68, 3) := by decide +kernel
theorem dX7_copies_31 : decode cX7_copies 31 = .ok (.aload_n 0, 1) := by decide +kernel
theorem dX7_copies_32 : decode cX7_copies 32 = .ok (.getfield 218, 3) := by decide +kernel
theorem dX7_copies_35 : decode cX7_copies 35 = .ok (.iaload, 1) := by decide +kernel
theorem dX7_copies_36 : decode cX7_copies 36 = .ok (.putfield 296, 3) := by decide +kernel
theorem dX7_copies_39 : decode cX7_copies 39 = .ok (.aload_n 0, 1) := by decide +kernel
theorem dX7_copies_40 : decode cX7_copies 40 = .ok (.iconst 0, 1) := by decide +kernel
theorem dX7_copies_41 : decode cX7_copies 41 = .ok (.putfield 299, 3) := by decide +kernel
theorem dX7_copies_44 : decode cX7_copies 44 = .ok (.aload_n 0, 1) := by decide +kernel
theorem dX7_copies_45 : decode cX7_copies 45 = .ok (.iconst (-1), 1) := by decide +kernel
theorem dX7_copies_46 : decode cX7_copies 46 = .ok (.putfield 302, 3) := by decide +kernel
theorem dX7_copies_49 : decode cX7_copies 49 = .ok (.return_, 1) := by decide +kernel
theorem dX7_copiesStill_0 : decode cX7_copiesStill 0 = .ok (.aload_n 0, 1) := by decide +kernel
theorem dX7_copiesStill_1 : decode cX7_copiesStill 1 = .ok (.invokevirtual 305, 3) := by decide +kernel
theorem dX7_copiesStill_4 : decode cX7_copiesStill 4 = .ok (.aload_n 0, 1) := by decide +kernel
theorem dX7_copiesStill_5 : decode cX7_copiesStill 5 = .ok (.iconst 1, 1) := by decide +kernel
theorem dX7_copiesStill_6 : decode cX7_copiesStill 6 = .ok (.putfield 299, 3) := by decide +kernel
theorem dX7_copiesStill_9 : decode cX7_copiesStill 9 = .ok (.return_, 1) := by decide +kernel
theorem dX7_mixed_0 : decode cX7_mixed 0 = .ok (.iload_n 0, 1) := by decide +kernel
theorem dX7_mixed_1 : decode cX7_mixed 1 = .ok (.iload_n 1, 1) := by decide +kernel
theorem dX7_mixed_2 : decode cX7_mixed 2 = .ok (.ixor, 1) := by decide +kernel
theorem dX7_mixed_3 : decode cX7_mixed 3 = .ok (.ldc_w 308, 3) := by decide +kernel
theorem dX7_mixed_6 : decode cX7_mixed 6 = .ok (.imul, 1) := by decide +kernel
theorem dX7_mixed_7 : decode cX7_mixed 7 = .ok (.sipush 12345, 3) := by decide +kernel
theorem dX7_mixed_10 : decode cX7_mixed 10 = .ok (.iadd, 1) := by decide +kernel
theorem dX7_mixed_11 : decode cX7_mixed 11 = .ok (.istore_n 2, 1) := by decide +kernel
theorem dX7_mixed_12 : decode cX7_mixed 12 = .ok (.iload_n 2, 1) := by decide +kernel
theorem dX7_mixed_13 : decode cX7_mixed 13 = .ok (.iload_n 2, 1) := by decide +kernel
theorem dX7_mixed_14 : decode cX7_mixed 14 = .ok (.bipush 15, 2) := by decide +kernel
theorem dX7_mixed_16 : decode cX7_mixed 16 = .ok (.iushr, 1) := by decide +kernel
theorem dX7_mixed_17 : decode cX7_mixed 17 = .ok (.ixor, 1) := by decide +kernel
theorem dX7_mixed_18 : decode cX7_mixed 18 = .ok (.ireturn, 1) := by decide +kernel
theorem dX7_lotOf_0 : decode cX7_lotOf 0 = .ok (.aload_n 0, 1) := by decide +kernel
theorem dX7_lotOf_1 : decode cX7_lotOf 1 = .ok (.getfield 296, 3) := by decide +kernel
theorem dX7_lotOf_4 : decode cX7_lotOf 4 = .ok (.sipush 133, 3) := by decide +kernel
theorem dX7_lotOf_7 : decode cX7_lotOf 7 = .ok (.invokestatic 309, 3) := by decide +kernel
theorem dX7_lotOf_10 : decode cX7_lotOf 10 = .ok (.iload_n 1, 1) := by decide +kernel
theorem dX7_lotOf_11 : decode cX7_lotOf 11 = .ok (.invokestatic 309, 3) := by decide +kernel
theorem dX7_lotOf_14 : decode cX7_lotOf 14 = .ok (.iconst 1, 1) := by decide +kernel
theorem dX7_lotOf_15 : decode cX7_lotOf 15 = .ok (.iushr, 1) := by decide +kernel
theorem dX7_lotOf_16 : decode cX7_lotOf 16 = .ok (.bipush 100, 2) := by decide +kernel
theorem dX7_lotOf_18 : decode cX7_lotOf 18 = .ok (.irem, 1) := by decide +kernel
theorem dX7_lotOf_19 : decode cX7_lotOf 19 = .ok (.ireturn, 1) := by decide +kernel
theorem dX7_rightOf_0 : decode cX7_rightOf 0 = .ok (.iload_n 1, 1) := by decide +kernel
theorem dX7_rightOf_1 : decode cX7_rightOf 1 = .ok (.iconst 1, 1) := by decide +kernel
theorem dX7_rightOf_2 : decode cX7_rightOf 2 = .ok (.iadd, 1) := by decide +kernel
theorem dX7_rightOf_3 : decode cX7_rightOf 3 = .ok (.aload_n 0, 1) := by decide +kernel
theorem dX7_rightOf_4 : decode cX7_rightOf 4 = .ok (.getfield 43, 3) := by decide +kernel
theorem dX7_rightOf_7 : decode cX7_rightOf 7 = .ok (.aload_n 0, 1) := by decide +kernel
theorem dX7_rightOf_8 : decode cX7_rightOf 8 = .ok (.getfield 218, 3) := by decide +kernel
theorem dX7_rightOf_11 : decode cX7_rightOf 11 = .ok (.iaload, 1) := by decide +kernel
theorem dX7_rightOf_12 : decode cX7_rightOf 12 = .ok (.irem, 1) := by decide +kernel
theorem dX7_rightOf_13 : decode cX7_rightOf 13 = .ok (.ireturn, 1) := by decide +kernel
theorem dX7_leftOf_0 : decode cX7_leftOf 0 = .ok (.iload_n 1, 1) := by decide +kernel
theorem dX7_leftOf_1 : decode cX7_leftOf 1 = .ok (.aload_n 0, 1) := by decide +kernel
theorem dX7_leftOf_2 : decode cX7_leftOf 2 = .ok (.getfield 43, 3) := by decide +kernel
theorem dX7_leftOf_5 : decode cX7_leftOf 5 = .ok (.aload_n 0, 1) := by decide +kernel
theorem dX7_leftOf_6 : decode cX7_leftOf 6 = .ok (.getfield 218, 3) := by decide +kernel
theorem dX7_leftOf_9 : decode cX7_leftOf 9 = .ok (.iaload, 1) := by decide +kernel
theorem dX7_leftOf_10 : decode cX7_leftOf 10 = .ok (.iadd, 1) := by decide +kernel
theorem dX7_leftOf_11 : decode cX7_leftOf 11 = .ok (.iconst 1, 1) := by decide +kernel
theorem dX7_leftOf_12 : decode cX7_leftOf 12 = .ok (.isub, 1) := by decide +kernel
theorem dX7_leftOf_13 : decode cX7_leftOf 13 = .ok (.aload_n 0, 1) := by decide +kernel
theorem dX7_leftOf_14 : decode cX7_leftOf 14 = .ok (.getfield 43, 3) := by decide +kernel
theorem dX7_leftOf_17 : decode cX7_leftOf 17 = .ok (.aload_n 0, 1) := by decide +kernel
theorem dX7_leftOf_18 : decode cX7_leftOf 18 = .ok (.getfield 218, 3) := by decide +kernel
theorem dX7_leftOf_21 : decode cX7_leftOf 21 = .ok (.iaload, 1) := by decide +kernel
theorem dX7_leftOf_22 : decode cX7_leftOf 22 = .ok (.irem, 1) := by decide +kernel
theorem dX7_leftOf_23 : decode cX7_leftOf 23 = .ok (.ireturn, 1) := by decide +kernel
theorem dX7_soBits_0 : decode cX7_soBits 0 = .ok (.iconst 0, 1) := by decide +kernel
theorem dX7_soBits_1 : decode cX7_soBits 1 = .ok (.istore_n 2, 1) := by decide +kernel
theorem dX7_soBits_2 : decode cX7_soBits 2 = .ok (.iconst 0, 1) := by decide +kernel
theorem dX7_soBits_3 : decode cX7_soBits 3 = .ok (.istore_n 3, 1) := by decide +kernel
theorem dX7_soBits_4 : decode cX7_soBits 4 = .ok (.iload_n 3, 1) := by decide +kernel
theorem dX7_soBits_5 : decode cX7_soBits 5 = .ok (.aload_n 0, 1) := by decide +kernel
theorem dX7_soBits_6 : decode cX7_soBits 6 = .ok (.getfield 43, 3) := by decide +kernel
theorem dX7_soBits_9 : decode cX7_soBits 9 = .ok (.aload_n 0, 1) := by decide +kernel
theorem dX7_soBits_10 : decode cX7_soBits 10 = .ok (.getfield 218, 3) := by decide +kernel
theorem dX7_soBits_13 : decode cX7_soBits 13 = .ok (.iaload, 1) := by decide +kernel
theorem dX7_soBits_14 : decode cX7_soBits 14 = .ok (.if_icmp .ge 28, 3) := by decide +kernel
theorem dX7_soBits_17 : decode cX7_soBits 17 = .ok (.aload_n 0, 1) := by decide +kernel
theorem dX7_soBits_18 : decode cX7_soBits 18 = .ok (.getfield 110, 3) := by decide +kernel
theorem dX7_soBits_21 : decode cX7_soBits 21 = .ok (.bipush 40, 2) := by decide +kernel
theorem dX7_soBits_23 : decode cX7_soBits 23 = .ok (.iload_n 3, 1) := by decide +kernel
theorem dX7_soBits_24 : decode cX7_soBits 24 = .ok (.iadd, 1) := by decide +kernel
theorem dX7_soBits_25 : decode cX7_soBits 25 = .ok (.iaload, 1) := by decide +kernel
theorem dX7_soBits_26 : decode cX7_soBits 26 = .ok (.iload_n 1, 1) := by decide +kernel
theorem dX7_soBits_27 : decode cX7_soBits 27 = .ok (.if_icmp .ne 9, 3) := by decide +kernel
theorem dX7_soBits_30 : decode cX7_soBits 30 = .ok (.iload_n 2, 1) := by decide +kernel
theorem dX7_soBits_31 : decode cX7_soBits 31 = .ok (.iconst 1, 1) := by decide +kernel
theorem dX7_soBits_32 : decode cX7_soBits 32 = .ok (.iload_n 3, 1) := by decide +kernel
theorem dX7_soBits_33 : decode cX7_soBits 33 = .ok (.ishl, 1) := by decide +kernel
theorem dX7_soBits_34 : decode cX7_soBits 34 = .ok (.ior, 1) := by decide +kernel
theorem dX7_soBits_35 : decode cX7_soBits 35 = .ok (.istore_n 2, 1) := by decide +kernel
theorem dX7_soBits_36 : decode cX7_soBits 36 = .ok (.iinc 3 1, 3) := by decide +kernel
theorem dX7_soBits_39 : decode cX7_soBits 39 = .ok (.goto (-35), 3) := by decide +kernel
theorem dX7_soBits_42 : decode cX7_soBits 42 = .ok (.iload_n 2, 1) := by decide +kernel
theorem dX7_soBits_43 : decode cX7_soBits 43 = .ok (.ireturn, 1) := by decide +kernel
theorem dX7_keysIn_0 : decode cX7_keysIn 0 = .ok (.iconst 0, 1) := by decide +kernel
theorem dX7_keysIn_1 : decode cX7_keysIn 1 = .ok (.istore_n 2, 1) := by decide +kernel
theorem dX7_keysIn_2 : decode cX7_keysIn 2 = .ok (.iconst 0, 1) := by decide +kernel
theorem dX7_keysIn_3 : decode cX7_keysIn 3 = .ok (.istore_n 3, 1) := by decide +kernel
theorem dX7_keysIn_4 : decode cX7_keysIn 4 = .ok (.iload_n 3, 1) := by decide +kernel
theorem dX7_keysIn_5 : decode cX7_keysIn 5 = .ok (.aload_n 0, 1) := by decide +kernel
theorem dX7_keysIn_6 : decode cX7_keysIn 6 = .ok (.getfield 59, 3) := by decide +kernel
theorem dX7_keysIn_9 : decode cX7_keysIn 9 = .ok (.aload_n 0, 1) := by decide +kernel
theorem dX7_keysIn_10 : decode cX7_keysIn 10 = .ok (.getfield 218, 3) := by decide +kernel
theorem dX7_keysIn_13 : decode cX7_keysIn 13 = .ok (.iaload, 1) := by decide +kernel
theorem dX7_keysIn_14 : decode cX7_keysIn 14 = .ok (.if_icmp .ge 25, 3) := by decide +kernel
theorem dX7_keysIn_17 : decode cX7_keysIn 17 = .ok (.aload_n 0, 1) := by decide +kernel
theorem dX7_keysIn_18 : decode cX7_keysIn 18 = .ok (.getfield 110, 3) := by decide +kernel
theorem dX7_keysIn_21 : decode cX7_keysIn 21 = .ok (.bipush 72, 2) := by decide +kernel
theorem dX7_keysIn_23 : decode cX7_keysIn 23 = .ok (.iload_n 3, 1) := by decide +kernel
theorem dX7_keysIn_24 : decode cX7_keysIn 24 = .ok (.iadd, 1) := by decide +kernel
theorem dX7_keysIn_25 : decode cX7_keysIn 25 = .ok (.iaload, 1) := by decide +kernel
theorem dX7_keysIn_26 : decode cX7_keysIn 26 = .ok (.iload_n 1, 1) := by decide +kernel
theorem dX7_keysIn_27 : decode cX7_keysIn 27 = .ok (.if_icmp .ne 6, 3) := by decide +kernel
theorem dX7_keysIn_30 : decode cX7_keysIn 30 = .ok (.iinc 2 1, 3) := by decide +kernel
theorem dX7_keysIn_33 : decode cX7_keysIn 33 = .ok (.iinc 3 1, 3) := by decide +kernel
theorem dX7_keysIn_36 : decode cX7_keysIn 36 = .ok (.goto (-32), 3) := by decide +kernel
theorem dX7_keysIn_39 : decode cX7_keysIn 39 = .ok (.iload_n 2, 1) := by decide +kernel
theorem dX7_keysIn_40 : decode cX7_keysIn 40 = .ok (.ireturn, 1) := by decide +kernel
theorem dX7_hasSpare_0 : decode cX7_hasSpare 0 = .ok (.iconst 0, 1) := by decide +kernel
theorem dX7_hasSpare_1 : decode cX7_hasSpare 1 = .ok (.istore_n 2, 1) := by decide +kernel
theorem dX7_hasSpare_2 : decode cX7_hasSpare 2 = .ok (.iload_n 2, 1) := by decide +kernel
theorem dX7_hasSpare_3 : decode cX7_hasSpare 3 = .ok (.aload_n 0, 1) := by decide +kernel
theorem dX7_hasSpare_4 : decode cX7_hasSpare 4 = .ok (.getfield 59, 3) := by decide +kernel
theorem dX7_hasSpare_7 : decode cX7_hasSpare 7 = .ok (.aload_n 0, 1) := by decide +kernel
theorem dX7_hasSpare_8 : decode cX7_hasSpare 8 = .ok (.getfield 218, 3) := by decide +kernel
theorem dX7_hasSpare_11 : decode cX7_hasSpare 11 = .ok (.iaload, 1) := by decide +kernel
theorem dX7_hasSpare_12 : decode cX7_hasSpare 12 = .ok (.if_icmp .ge 42, 3) := by decide +kernel
theorem dX7_hasSpare_15 : decode cX7_hasSpare 15 = .ok (.aload_n 0, 1) := by decide +kernel
theorem dX7_hasSpare_16 : decode cX7_hasSpare 16 = .ok (.getfield 110, 3) := by decide +kernel
theorem dX7_hasSpare_19 : decode cX7_hasSpare 19 = .ok (.bipush 72, 2) := by decide +kernel
theorem dX7_hasSpare_21 : decode cX7_hasSpare 21 = .ok (.iload_n 2, 1) := by decide +kernel
theorem dX7_hasSpare_22 : decode cX7_hasSpare 22 = .ok (.iadd, 1) := by decide +kernel
theorem dX7_hasSpare_23 : decode cX7_hasSpare 23 = .ok (.iaload, 1) := by decide +kernel
theorem dX7_hasSpare_24 : decode cX7_hasSpare 24 = .ok (.iload_n 1, 1) := by decide +kernel
theorem dX7_hasSpare_25 : decode cX7_hasSpare 25 = .ok (.if_icmp .ne 23, 3) := by decide +kernel
theorem dX7_hasSpare_28 : decode cX7_hasSpare 28 = .ok (.aload_n 0, 1) := by decide +kernel
theorem dX7_hasSpare_29 : decode cX7_hasSpare 29 = .ok (.getfield 62, 3) := by decide +kernel
theorem dX7_hasSpare_32 : decode cX7_hasSpare 32 = .ok (.bipush 6, 2) := by decide +kernel
theorem dX7_hasSpare_34 : decode cX7_hasSpare 34 = .ok (.aload_n 0, 1) := by decide +kernel
theorem dX7_hasSpare_35 : decode cX7_hasSpare 35 = .ok (.getfield 218, 3) := by decide +kernel
theorem dX7_hasSpare_38 : decode cX7_hasSpare 38 = .ok (.imul, 1) := by decide +kernel
theorem dX7_hasSpare_39 : decode cX7_hasSpare 39 = .ok (.iload_n 2, 1) := by decide +kernel
theorem dX7_hasSpare_40 : decode cX7_hasSpare 40 = .ok (.iadd, 1) := by decide +kernel
theorem dX7_hasSpare_41 : decode cX7_hasSpare 41 = .ok (.iaload, 1) := by decide +kernel
theorem dX7_hasSpare_42 : decode cX7_hasSpare 42 = .ok (.iload_n 1, 1) := by decide +kernel
theorem dX7_hasSpare_43 : decode cX7_hasSpare 43 = .ok (.if_icmp .ne 5, 3) := by decide +kernel
theorem dX7_hasSpare_46 : decode cX7_hasSpare 46 = .ok (.iconst 1, 1) := by decide +kernel
theorem dX7_hasSpare_47 : decode cX7_hasSpare 47 = .ok (.ireturn, 1) := by decide +kernel
theorem dX7_hasSpare_48 : decode cX7_hasSpare 48 = .ok (.iinc 2 1, 3) := by decide +kernel
theorem dX7_hasSpare_51 : decode cX7_hasSpare 51 = .ok (.goto (-49), 3) := by decide +kernel
theorem dX7_hasSpare_54 : decode cX7_hasSpare 54 = .ok (.iconst 0, 1) := by decide +kernel
theorem dX7_hasSpare_55 : decode cX7_hasSpare 55 = .ok (.ireturn, 1) := by decide +kernel
theorem dX7_looks_0 : decode cX7_looks 0 = .ok (.iconst 0, 1) := by decide +kernel
theorem dX7_looks_1 : decode cX7_looks 1 = .ok (.istore_n 3, 1) := by decide +kernel
theorem dX7_looks_2 : decode cX7_looks 2 = .ok (.iload_n 3, 1) := by decide +kernel
theorem dX7_looks_3 : decode cX7_looks 3 = .ok (.bipush 9, 2) := by decide +kernel
theorem dX7_looks_5 : decode cX7_looks 5 = .ok (.if_icmp .ge 16, 3) := by decide +kernel
theorem dX7_looks_8 : decode cX7_looks 8 = .ok (.aload_n 0, 1) := by decide +kernel
theorem dX7_looks_9 : decode cX7_looks 9 = .ok (.getfield 101, 3) := by decide +kernel
theorem dX7_looks_12 : decode cX7_looks 12 = .ok (.iload_n 3, 1) := by decide +kernel
theorem dX7_looks_13 : decode cX7_looks 13 = .ok (.iconst 0, 1) := by decide +kernel
theorem dX7_looks_14 : decode cX7_looks 14 = .ok (.iastore, 1) := by decide +kernel
theorem dX7_looks_15 : decode cX7_looks 15 = .ok (.iinc 3 1, 3) := by decide +kernel
theorem dX7_looks_18 : decode cX7_looks 18 = .ok (.goto (-16), 3) := by decide +kernel
theorem dX7_looks_21 : decode cX7_looks 21 = .ok (.aload_n 0, 1) := by decide +kernel
theorem dX7_looks_22 : decode cX7_looks 22 = .ok (.getfield 101, 3) := by decide +kernel
theorem dX7_looks_25 : decode cX7_looks 25 = .ok (.iconst 0, 1) := by decide +kernel
theorem dX7_looks_26 : decode cX7_looks 26 = .ok (.aload_n 0, 1) := by decide +kernel
theorem dX7_looks_27 : decode cX7_looks 27 = .ok (.getfield 110, 3) := by decide +kernel
theorem dX7_looks_30 : decode cX7_looks 30 = .ok (.bipush 84, 2) := by decide +kernel
theorem dX7_looks_32 : decode cX7_looks 32 = .ok (.iaload, 1) := by decide +kernel
theorem dX7_looks_33 : decode cX7_looks 33 = .ok (.bipush 24, 2) := by decide +kernel
theorem dX7_looks_35 : decode cX7_looks 35 = .ok (.irem, 1) := by decide +kernel
theorem dX7_looks_36 : decode cX7_looks 36 = .ok (.iastore, 1) := by decide +kernel
theorem dX7_looks_37 : decode cX7_looks 37 = .ok (.aload_n 0, 1) := by decide +kernel
theorem dX7_looks_38 : decode cX7_looks 38 = .ok (.getfield 101, 3) := by decide +kernel
theorem dX7_looks_41 : decode cX7_looks 41 = .ok (.iconst 1, 1) := by decide +kernel
theorem dX7_looks_42 : decode cX7_looks 42 = .ok (.aload_n 0, 1) := by decide +kernel
theorem dX7_looks_43 : decode cX7_looks 43 = .ok (.getfield 110, 3) := by decide +kernel
theorem dX7_looks_46 : decode cX7_looks 46 = .ok (.bipush 84, 2) := by decide +kernel
theorem dX7_looks_48 : decode cX7_looks 48 = .ok (.iaload, 1) := by decide +kernel
theorem dX7_looks_49 : decode cX7_looks 49 = .ok (.bipush 24, 2) := by decide +kernel
theorem dX7_looks_51 : decode cX7_looks 51 = .ok (.idiv, 1) := by decide +kernel
theorem dX7_looks_52 : decode cX7_looks 52 = .ok (.iastore, 1) := by decide +kernel
theorem dX7_looks_53 : decode cX7_looks 53 = .ok (.aload_n 0, 1) := by decide +kernel
theorem dX7_looks_54 : decode cX7_looks 54 = .ok (.getfield 101, 3) := by decide +kernel
theorem dX7_looks_57 : decode cX7_looks 57 = .ok (.iconst 3, 1) := by decide +kernel
theorem dX7_looks_58 : decode cX7_looks 58 = .ok (.iload_n 1, 1) := by decide +kernel
theorem dX7_looks_59 : decode cX7_looks 59 = .ok (.iastore, 1) := by decide +kernel
theorem dX7_looks_60 : decode cX7_looks 60 = .ok (.aload_n 0, 1) := by decide +kernel
theorem dX7_looks_61 : decode cX7_looks 61 = .ok (.getfield 101, 3) := by decide +kernel
theorem dX7_looks_64 : decode cX7_looks 64 = .ok (.iconst 5, 1) := by decide +kernel
theorem dX7_looks_65 : decode cX7_looks 65 = .ok (.iload_n 2, 1) := by decide +kernel
theorem dX7_looks_66 : decode cX7_looks 66 = .ok (.iastore, 1) := by decide +kernel
theorem dX7_looks_67 : decode cX7_looks 67 = .ok (.aload_n 0, 1) := by decide +kernel
theorem dX7_looks_68 : decode cX7_looks 68 = .ok (.getfield 101, 3) := by decide +kernel
theorem dX7_looks_71 : decode cX7_looks 71 = .ok (.bipush 6, 2) := by decide +kernel
theorem dX7_looks_73 : decode cX7_looks 73 = .ok (.aload_n 0, 1) := by decide +kernel
theorem dX7_looks_74 : decode cX7_looks 74 = .ok (.iconst 0, 1) := by decide +kernel
theorem dX7_looks_75 : decode cX7_looks 75 = .ok (.invokevirtual 312, 3) := by decide +kernel
theorem dX7_looks_78 : decode cX7_looks 78 = .ok (.invokestatic 315, 3) := by decide +kernel
theorem dX7_looks_81 : decode cX7_looks 81 = .ok (.iastore, 1) := by decide +kernel
theorem dX7_looks_82 : decode cX7_looks 82 = .ok (.aload_n 0, 1) := by decide +kernel
theorem dX7_looks_83 : decode cX7_looks 83 = .ok (.getfield 101, 3) := by decide +kernel
theorem dX7_looks_86 : decode cX7_looks 86 = .ok (.bipush 7, 2) := by decide +kernel
theorem dX7_looks_88 : decode cX7_looks 88 = .ok (.aload_n 0, 1) := by decide +kernel
theorem dX7_looks_89 : decode cX7_looks 89 = .ok (.iconst 2, 1) := by decide +kernel
theorem dX7_looks_90 : decode cX7_looks 90 = .ok (.invokevirtual 312, 3) := by decide +kernel
theorem dX7_looks_93 : decode cX7_looks 93 = .ok (.invokestatic 315, 3) := by decide +kernel
theorem dX7_looks_96 : decode cX7_looks 96 = .ok (.iastore, 1) := by decide +kernel
theorem dX7_looks_97 : decode cX7_looks 97 = .ok (.return_, 1) := by decide +kernel
theorem dX7_lawTells_0 : decode cX7_lawTells 0 = .ok (.iconst 4, 1) := by decide +kernel
theorem dX7_lawTells_1 : decode cX7_lawTells 1 = .ok (.aload_n 0, 1) := by decide +kernel
theorem dX7_lawTells_2 : decode cX7_lawTells 2 = .ok (.getfield 218, 3) := by decide +kernel
theorem dX7_lawTells_5 : decode cX7_lawTells 5 = .ok (.imul, 1) := by decide +kernel
theorem dX7_lawTells_6 : decode cX7_lawTells 6 = .ok (.iload_n 1, 1) := by decide +kernel
theorem dX7_lawTells_7 : decode cX7_lawTells 7 = .ok (.iadd, 1) := by decide +kernel
theorem dX7_lawTells_8 : decode cX7_lawTells 8 = .ok (.istore_n 3, 1) := by decide +kernel
theorem dX7_lawTells_9 : decode cX7_lawTells 9 = .ok (.aload_n 0, 1) := by decide +kernel
theorem dX7_lawTells_10 : decode cX7_lawTells 10 = .ok (.getfield 71, 3) := by decide +kernel
theorem dX7_lawTells_13 : decode cX7_lawTells 13 = .ok (.iload_n 3, 1) := by decide +kernel
theorem dX7_lawTells_14 : decode cX7_lawTells 14 = .ok (.iaload, 1) := by decide +kernel
theorem dX7_lawTells_15 : decode cX7_lawTells 15 = .ok (.aload_n 0, 1) := by decide +kernel
theorem dX7_lawTells_16 : decode cX7_lawTells 16 = .ok (.getfield 74, 3) := by decide +kernel
theorem dX7_lawTells_19 : decode cX7_lawTells 19 = .ok (.iload_n 3, 1) := by decide +kernel
theorem dX7_lawTells_20 : decode cX7_lawTells 20 = .ok (.iaload, 1) := by decide +kernel
theorem dX7_lawTells_21 : decode cX7_lawTells 21 = .ok (.if_icmp .ne 5, 3) := by decide +kernel
theorem dX7_lawTells_24 : decode cX7_lawTells 24 = .ok (.iload_n 2, 1) := by decide +kernel
theorem dX7_lawTells_25 : decode cX7_lawTells 25 = .ok (.ireturn, 1) := by decide +kernel
theorem dX7_lawTells_26 : decode cX7_lawTells 26 = .ok (.aload_n 0, 1) := by decide +kernel
theorem dX7_lawTells_27 : decode cX7_lawTells 27 = .ok (.iconst 0, 1) := by decide +kernel
theorem dX7_lawTells_28 : decode cX7_lawTells 28 = .ok (.putfield 288, 3) := by decide +kernel
theorem dX7_lawTells_31 : decode cX7_lawTells 31 = .ok (.aload_n 0, 1) := by decide +kernel
theorem dX7_lawTells_32 : decode cX7_lawTells 32 = .ok (.getfield 71, 3) := by decide +kernel
theorem dX7_lawTells_35 : decode cX7_lawTells 35 = .ok (.iload_n 3, 1) := by decide +kernel
theorem dX7_lawTells_36 : decode cX7_lawTells 36 = .ok (.iaload, 1) := by decide +kernel
theorem dX7_lawTells_37 : decode cX7_lawTells 37 = .ok (.istore 4, 2) := by decide +kernel
theorem dX7_lawTells_39 : decode cX7_lawTells 39 = .ok (.iload 4, 2) := by decide +kernel
theorem dX7_lawTells_41 : decode cX7_lawTells 41 = .ok (.aload_n 0, 1) := by decide +kernel
theorem dX7_lawTells_42 : decode cX7_lawTells 42 = .ok (.getfield 74, 3) := by decide +kernel
theorem dX7_lawTells_45 : decode cX7_lawTells 45 = .ok (.iload_n 3, 1) := by decide +kernel
theorem dX7_lawTells_46 : decode cX7_lawTells 46 = .ok (.iaload, 1) := by decide +kernel
theorem dX7_lawTells_47 : decode cX7_lawTells 47 = .ok (.if_icmp .ge 112, 3) := by decide +kernel
theorem dX7_lawTells_50 : decode cX7_lawTells 50 = .ok (.aload_n 0, 1) := by decide +kernel
theorem dX7_lawTells_51 : decode cX7_lawTells 51 = .ok (.getfield 77, 3) := by decide +kernel
theorem dX7_lawTells_54 : decode cX7_lawTells 54 = .ok (.iload 4, 2) := by decide +kernel
theorem dX7_lawTells_56 : decode cX7_lawTells 56 = .ok (.baload, 1) := by decide +kernel
theorem dX7_lawTells_57 : decode cX7_lawTells 57 = .ok (.ifCond .eq 62, 3) := by decide +kernel
theorem dX7_lawTells_60 : decode cX7_lawTells 60 = .ok (.aload_n 0, 1) := by decide +kernel
theorem dX7_lawTells_61 : decode cX7_lawTells 61 = .ok (.aload_n 0, 1) := by decide +kernel
theorem dX7_lawTells_62 : decode cX7_lawTells 62 = .ok (.getfield 80, 3) := by decide +kernel
theorem dX7_lawTells_65 : decode cX7_lawTells 65 = .ok (.iload 4, 2) := by decide +kernel
theorem dX7_lawTells_67 : decode cX7_lawTells 67 = .ok (.iaload, 1) := by decide +kernel
theorem dX7_lawTells_68 : decode cX7_lawTells 68 = .ok (.aload_n 0, 1) := by decide +kernel
theorem dX7_lawTells_69 : decode cX7_lawTells 69 = .ok (.getfield 83, 3) := by decide +kernel
theorem dX7_lawTells_72 : decode cX7_lawTells 72 = .ok (.iload 4, 2) := by decide +kernel
theorem dX7_lawTells_74 : decode cX7_lawTells 74 = .ok (.iaload, 1) := by decide +kernel
theorem dX7_lawTells_75 : decode cX7_lawTells 75 = .ok (.invokevirtual 318, 3) := by decide +kernel
theorem dX7_lawTells_78 : decode cX7_lawTells 78 = .ok (.istore 5, 2) := by decide +kernel
