theorem dX12_advance_183 : decode cX12_advance 183 = .ok (.aload_n 0, 1) := by decide +kernel
theorem dX12_advance_184 : decode cX12_advance 184 = .ok (.getfield 114, 3) := by decide +kernel
theorem dX12_advance_187 : decode cX12_advance 187 = .ok (.aload_n 0, 1) := by decide +kernel
theorem dX12_advance_188 : decode cX12_advance 188 = .ok (.getfield 117, 3) := by decide +kernel
theorem dX12_advance_191 : decode cX12_advance 191 = .ok (.isub, 1) := by decide +kernel
theorem dX12_advance_192 : decode cX12_advance 192 = .ok (.putfield 136, 3) := by decide +kernel
theorem dX12_advance_195 : decode cX12_advance 195 = .ok (.goto 135, 3) := by decide +kernel
theorem dX12_advance_198 : decode cX12_advance 198 = .ok (.iload_n 1, 1) := by decide +kernel
theorem dX12_advance_199 : decode cX12_advance 199 = .ok (.invokestatic 139, 3) := by decide +kernel
theorem dX12_advance_202 : decode cX12_advance 202 = .ok (.ifCond .eq 96, 3) := by decide +kernel
theorem dX12_advance_205 : decode cX12_advance 205 = .ok (.aload_n 0, 1) := by decide +kernel
theorem dX12_advance_206 : decode cX12_advance 206 = .ok (.iconst 0, 1) := by decide +kernel
theorem dX12_advance_207 : decode cX12_advance 207 = .ok (.putfield 142, 3) := by decide +kernel
theorem dX12_advance_210 : decode cX12_advance 210 = .ok (.aload_n 0, 1) := by decide +kernel
theorem dX12_advance_211 : decode cX12_advance 211 = .ok (.aload_n 0, 1) := by decide +kernel
theorem dX12_advance_212 : decode cX12_advance 212 = .ok (.getfield 114, 3) := by decide +kernel
theorem dX12_advance_215 : decode cX12_advance 215 = .ok (.invokevirtual 120, 3) := by decide +kernel
theorem dX12_advance_218 : decode cX12_advance 218 = .ok (.invokestatic 139, 3) := by decide +kernel
theorem dX12_advance_221 : decode cX12_advance 221 = .ok (.ifCond .eq 52, 3) := by decide +kernel
theorem dX12_advance_224 : decode cX12_advance 224 = .ok (.aload_n 0, 1) := by decide +kernel
theorem dX12_advance_225 : decode cX12_advance 225 = .ok (.getfield 114, 3) := by decide +kernel
theorem dX12_advance_228 : decode cX12_advance 228 = .ok (.aload_n 0, 1) := by decide +kernel
theorem dX12_advance_229 : decode cX12_advance 229 = .ok (.getfield 117, 3) := by decide +kernel
theorem dX12_advance_232 : decode cX12_advance 232 = .ok (.isub, 1) := by decide +kernel
theorem dX12_advance_233 : decode cX12_advance 233 = .ok (.iconst 4, 1) := by decide +kernel
theorem dX12_advance_234 : decode cX12_advance 234 = .ok (.if_icmp .ge 26, 3) := by decide +kernel
theorem dX12_advance_237 : decode cX12_advance 237 = .ok (.aload_n 0, 1) := by decide +kernel
theorem dX12_advance_238 : decode cX12_advance 238 = .ok (.bipush 10, 2) := by decide +kernel
theorem dX12_advance_240 : decode cX12_advance 240 = .ok (.aload_n 0, 1) := by decide +kernel
theorem dX12_advance_241 : decode cX12_advance 241 = .ok (.getfield 142, 3) := by decide +kernel
theorem dX12_advance_244 : decode cX12_advance 244 = .ok (.imul, 1) := by decide +kernel
theorem dX12_advance_245 : decode cX12_advance 245 = .ok (.aload_n 0, 1) := by decide +kernel
theorem dX12_advance_246 : decode cX12_advance 246 = .ok (.aload_n 0, 1) := by decide +kernel
theorem dX12_advance_247 : decode cX12_advance 247 = .ok (.getfield 114, 3) := by decide +kernel
theorem dX12_advance_250 : decode cX12_advance 250 = .ok (.invokevirtual 120, 3) := by decide +kernel
theorem dX12_advance_253 : decode cX12_advance 253 = .ok (.iadd, 1) := by decide +kernel
theorem dX12_advance_254 : decode cX12_advance 254 = .ok (.bipush 48, 2) := by decide +kernel
theorem dX12_advance_256 : decode cX12_advance 256 = .ok (.isub, 1) := by decide +kernel
theorem dX12_advance_257 : decode cX12_advance 257 = .ok (.putfield 142, 3) := by decide +kernel
theorem dX12_advance_260 : decode cX12_advance 260 = .ok (.aload_n 0, 1) := by decide +kernel
theorem dX12_advance_261 : decode cX12_advance 261 = .ok (.dup, 1) := by decide +kernel
theorem dX12_advance_262 : decode cX12_advance 262 = .ok (.getfield 114, 3) := by decide +kernel
theorem dX12_advance_265 : decode cX12_advance 265 = .ok (.iconst 1, 1) := by decide +kernel
theorem dX12_advance_266 : decode cX12_advance 266 = .ok (.iadd, 1) := by decide +kernel
theorem dX12_advance_267 : decode cX12_advance 267 = .ok (.putfield 114, 3) := by decide +kernel
theorem dX12_advance_270 : decode cX12_advance 270 = .ok (.goto (-60), 3) := by decide +kernel
theorem dX12_advance_273 : decode cX12_advance 273 = .ok (.aload_n 0, 1) := by decide +kernel
theorem dX12_advance_274 : decode cX12_advance 274 = .ok (.aload_n 0, 1) := by decide +kernel
theorem dX12_advance_275 : decode cX12_advance 275 = .ok (.getfield 114, 3) := by decide +kernel
theorem dX12_advance_278 : decode cX12_advance 278 = .ok (.aload_n 0, 1) := by decide +kernel
theorem dX12_advance_279 : decode cX12_advance 279 = .ok (.getfield 117, 3) := by decide +kernel
theorem dX12_advance_282 : decode cX12_advance 282 = .ok (.isub, 1) := by decide +kernel
theorem dX12_advance_283 : decode cX12_advance 283 = .ok (.iconst 4, 1) := by decide +kernel
theorem dX12_advance_284 : decode cX12_advance 284 = .ok (.if_icmp .le 7, 3) := by decide +kernel
theorem dX12_advance_287 : decode cX12_advance 287 = .ok (.iconst 4, 1) := by decide +kernel
theorem dX12_advance_288 : decode cX12_advance 288 = .ok (.goto 4, 3) := by decide +kernel
theorem dX12_advance_291 : decode cX12_advance 291 = .ok (.iconst 2, 1) := by decide +kernel
theorem dX12_advance_292 : decode cX12_advance 292 = .ok (.putfield 123, 3) := by decide +kernel
theorem dX12_advance_295 : decode cX12_advance 295 = .ok (.goto 35, 3) := by decide +kernel
theorem dX12_advance_298 : decode cX12_advance 298 = .ok (.aload_n 0, 1) := by decide +kernel
theorem dX12_advance_299 : decode cX12_advance 299 = .ok (.aload_n 0, 1) := by decide +kernel
theorem dX12_advance_300 : decode cX12_advance 300 = .ok (.getfield 117, 3) := by decide +kernel
theorem dX12_advance_303 : decode cX12_advance 303 = .ok (.iconst 1, 1) := by decide +kernel
theorem dX12_advance_304 : decode cX12_advance 304 = .ok (.iadd, 1) := by decide +kernel
theorem dX12_advance_305 : decode cX12_advance 305 = .ok (.putfield 114, 3) := by decide +kernel
theorem dX12_advance_308 : decode cX12_advance 308 = .ok (.aload_n 0, 1) := by decide +kernel
theorem dX12_advance_309 : decode cX12_advance 309 = .ok (.iload_n 1, 1) := by decide +kernel
theorem dX12_advance_310 : decode cX12_advance 310 = .ok (.putfield 142, 3) := by decide +kernel
theorem dX12_advance_313 : decode cX12_advance 313 = .ok (.aload_n 0, 1) := by decide +kernel
theorem dX12_advance_314 : decode cX12_advance 314 = .ok (.aload_n 0, 1) := by decide +kernel
theorem dX12_advance_315 : decode cX12_advance 315 = .ok (.iload_n 1, 1) := by decide +kernel
theorem dX12_advance_316 : decode cX12_advance 316 = .ok (.invokevirtual 145, 3) := by decide +kernel
theorem dX12_advance_319 : decode cX12_advance 319 = .ok (.ifCond .eq 7, 3) := by decide +kernel
theorem dX12_advance_322 : decode cX12_advance 322 = .ok (.iconst 3, 1) := by decide +kernel
theorem dX12_advance_323 : decode cX12_advance 323 = .ok (.goto 4, 3) := by decide +kernel
theorem dX12_advance_326 : decode cX12_advance 326 = .ok (.iconst 4, 1) := by decide +kernel
theorem dX12_advance_327 : decode cX12_advance 327 = .ok (.putfield 123, 3) := by decide +kernel
theorem dX12_advance_330 : decode cX12_advance 330 = .ok (.return_, 1) := by decide +kernel
theorem dX12_isSign_0 : decode cX12_isSign 0 = .ok (.aload_n 0, 1) := by decide +kernel
theorem dX12_isSign_1 : decode cX12_isSign 1 = .ok (.getfield 123, 3) := by decide +kernel
theorem dX12_isSign_4 : decode cX12_isSign 4 = .ok (.iconst 3, 1) := by decide +kernel
theorem dX12_isSign_5 : decode cX12_isSign 5 = .ok (.if_icmp .ne 15, 3) := by decide +kernel
theorem dX12_isSign_8 : decode cX12_isSign 8 = .ok (.aload_n 0, 1) := by decide +kernel
theorem dX12_isSign_9 : decode cX12_isSign 9 = .ok (.getfield 142, 3) := by decide +kernel
theorem dX12_isSign_12 : decode cX12_isSign 12 = .ok (.iload_n 1, 1) := by decide +kernel
theorem dX12_isSign_13 : decode cX12_isSign 13 = .ok (.if_icmp .ne 7, 3) := by decide +kernel
theorem dX12_isSign_16 : decode cX12_isSign 16 = .ok (.iconst 1, 1) := by decide +kernel
theorem dX12_isSign_17 : decode cX12_isSign 17 = .ok (.goto 4, 3) := by decide +kernel
theorem dX12_isSign_20 : decode cX12_isSign 20 = .ok (.iconst 0, 1) := by decide +kernel
theorem dX12_isSign_21 : decode cX12_isSign 21 = .ok (.ireturn, 1) := by decide +kernel
theorem dX12_spelled_0 : decode cX12_spelled 0 = .ok (.iload_n 0, 1) := by decide +kernel
theorem dX12_spelled_1 : decode cX12_spelled 1 = .ok (.i2l, 1) := by decide +kernel
theorem dX12_spelled_2 : decode cX12_spelled 2 = .ok (.ldc2_w 134, 3) := by decide +kernel
theorem dX12_spelled_5 : decode cX12_spelled 5 = .ok (.lsub, 1) := by decide +kernel
theorem dX12_spelled_6 : decode cX12_spelled 6 = .ok (.ldc2_w 132, 3) := by decide +kernel
theorem dX12_spelled_9 : decode cX12_spelled 9 = .ok (.lmul, 1) := by decide +kernel
theorem dX12_spelled_10 : decode cX12_spelled 10 = .ok (.iload_n 1, 1) := by decide +kernel
theorem dX12_spelled_11 : decode cX12_spelled 11 = .ok (.i2l, 1) := by decide +kernel
theorem dX12_spelled_12 : decode cX12_spelled 12 = .ok (.ladd, 1) := by decide +kernel
theorem dX12_spelled_13 : decode cX12_spelled 13 = .ok (.ldc2_w 134, 3) := by decide +kernel
theorem dX12_spelled_16 : decode cX12_spelled 16 = .ok (.lsub, 1) := by decide +kernel
theorem dX12_spelled_17 : decode cX12_spelled 17 = .ok (.lstore 6, 2) := by decide +kernel
theorem dX12_spelled_19 : decode cX12_spelled 19 = .ok (.iload_n 2, 1) := by decide +kernel
theorem dX12_spelled_20 : decode cX12_spelled 20 = .ok (.ifCond .le 19, 3) := by decide +kernel
theorem dX12_spelled_23 : decode cX12_spelled 23 = .ok (.lload 6, 2) := by decide +kernel
theorem dX12_spelled_25 : decode cX12_spelled 25 = .ok (.ldc2_w 132, 3) := by decide +kernel
theorem dX12_spelled_28 : decode cX12_spelled 28 = .ok (.lmul, 1) := by decide +kernel
theorem dX12_spelled_29 : decode cX12_spelled 29 = .ok (.iload_n 2, 1) := by decide +kernel
theorem dX12_spelled_30 : decode cX12_spelled 30 = .ok (.i2l, 1) := by decide +kernel
theorem dX12_spelled_31 : decode cX12_spelled 31 = .ok (.ladd, 1) := by decide +kernel
theorem dX12_spelled_32 : decode cX12_spelled 32 = .ok (.ldc2_w 134, 3) := by decide +kernel
theorem dX12_spelled_35 : decode cX12_spelled 35 = .ok (.lsub, 1) := by decide +kernel
theorem dX12_spelled_36 : decode cX12_spelled 36 = .ok (.goto 5, 3) := by decide +kernel
theorem dX12_spelled_39 : decode cX12_spelled 39 = .ok (.lload 6, 2) := by decide +kernel
theorem dX12_spelled_41 : decode cX12_spelled 41 = .ok (.lstore 6, 2) := by decide +kernel
theorem dX12_spelled_43 : decode cX12_spelled 43 = .ok (.iload_n 3, 1) := by decide +kernel
theorem dX12_spelled_44 : decode cX12_spelled 44 = .ok (.ifCond .le 19, 3) := by decide +kernel
theorem dX12_spelled_47 : decode cX12_spelled 47 = .ok (.lload 6, 2) := by decide +kernel
theorem dX12_spelled_49 : decode cX12_spelled 49 = .ok (.ldc2_w 132, 3) := by decide +kernel
theorem dX12_spelled_52 : decode cX12_spelled 52 = .ok (.lmul, 1) := by decide +kernel
theorem dX12_spelled_53 : decode cX12_spelled 53 = .ok (.iload_n 3, 1) := by decide +kernel
theorem dX12_spelled_54 : decode cX12_spelled 54 = .ok (.i2l, 1) := by decide +kernel
theorem dX12_spelled_55 : decode cX12_spelled 55 = .ok (.ladd, 1) := by decide +kernel
theorem dX12_spelled_56 : decode cX12_spelled 56 = .ok (.ldc2_w 134, 3) := by decide +kernel
theorem dX12_spelled_59 : decode cX12_spelled 59 = .ok (.lsub, 1) := by decide +kernel
theorem dX12_spelled_60 : decode cX12_spelled 60 = .ok (.goto 5, 3) := by decide +kernel
theorem dX12_spelled_63 : decode cX12_spelled 63 = .ok (.lload 6, 2) := by decide +kernel
theorem dX12_spelled_65 : decode cX12_spelled 65 = .ok (.lstore 6, 2) := by decide +kernel
theorem dX12_spelled_67 : decode cX12_spelled 67 = .ok (.iload 4, 2) := by decide +kernel
theorem dX12_spelled_69 : decode cX12_spelled 69 = .ok (.ifCond .le 20, 3) := by decide +kernel
theorem dX12_spelled_72 : decode cX12_spelled 72 = .ok (.lload 6, 2) := by decide +kernel
theorem dX12_spelled_74 : decode cX12_spelled 74 = .ok (.ldc2_w 132, 3) := by decide +kernel
theorem dX12_spelled_77 : decode cX12_spelled 77 = .ok (.lmul, 1) := by decide +kernel
theorem dX12_spelled_78 : decode cX12_spelled 78 = .ok (.iload 4, 2) := by decide +kernel
theorem dX12_spelled_80 : decode cX12_spelled 80 = .ok (.i2l, 1) := by decide +kernel
theorem dX12_spelled_81 : decode cX12_spelled 81 = .ok (.ladd, 1) := by decide +kernel
theorem dX12_spelled_82 : decode cX12_spelled 82 = .ok (.ldc2_w 134, 3) := by decide +kernel
theorem dX12_spelled_85 : decode cX12_spelled 85 = .ok (.lsub, 1) := by decide +kernel
theorem dX12_spelled_86 : decode cX12_spelled 86 = .ok (.goto 5, 3) := by decide +kernel
theorem dX12_spelled_89 : decode cX12_spelled 89 = .ok (.lload 6, 2) := by decide +kernel
theorem dX12_spelled_91 : decode cX12_spelled 91 = .ok (.lstore 6, 2) := by decide +kernel
theorem dX12_spelled_93 : decode cX12_spelled 93 = .ok (.iload 5, 2) := by decide +kernel
theorem dX12_spelled_95 : decode cX12_spelled 95 = .ok (.ifCond .le 20, 3) := by decide +kernel
theorem dX12_spelled_98 : decode cX12_spelled 98 = .ok (.lload 6, 2) := by decide +kernel
theorem dX12_spelled_100 : decode cX12_spelled 100 = .ok (.ldc2_w 132, 3) := by decide +kernel
theorem dX12_spelled_103 : decode cX12_spelled 103 = .ok (.lmul, 1) := by decide +kernel
theorem dX12_spelled_104 : decode cX12_spelled 104 = .ok (.iload 5, 2) := by decide +kernel
theorem dX12_spelled_106 : decode cX12_spelled 106 = .ok (.i2l, 1) := by decide +kernel
theorem dX12_spelled_107 : decode cX12_spelled 107 = .ok (.ladd, 1) := by decide +kernel
theorem dX12_spelled_108 : decode cX12_spelled 108 = .ok (.ldc2_w 134, 3) := by decide +kernel
theorem dX12_spelled_111 : decode cX12_spelled 111 = .ok (.lsub, 1) := by decide +kernel
theorem dX12_spelled_112 : decode cX12_spelled 112 = .ok (.goto 5, 3) := by decide +kernel
theorem dX12_spelled_115 : decode cX12_spelled 115 = .ok (.lload 6, 2) := by decide +kernel
theorem dX12_spelled_117 : decode cX12_spelled 117 = .ok (.lreturn, 1) := by decide +kernel
theorem dX12_isWord_0 : decode cX12_isWord 0 = .ok (.aload_n 0, 1) := by decide +kernel
theorem dX12_isWord_1 : decode cX12_isWord 1 = .ok (.getfield 123, 3) := by decide +kernel
theorem dX12_isWord_4 : decode cX12_isWord 4 = .ok (.iconst 1, 1) := by decide +kernel
theorem dX12_isWord_5 : decode cX12_isWord 5 = .ok (.if_icmp .ne 16, 3) := by decide +kernel
theorem dX12_isWord_8 : decode cX12_isWord 8 = .ok (.aload_n 0, 1) := by decide +kernel
theorem dX12_isWord_9 : decode cX12_isWord 9 = .ok (.getfield 129, 3) := by decide +kernel
theorem dX12_isWord_12 : decode cX12_isWord 12 = .ok (.lload_n 1, 1) := by decide +kernel
theorem dX12_isWord_13 : decode cX12_isWord 13 = .ok (.lcmp, 1) := by decide +kernel
theorem dX12_isWord_14 : decode cX12_isWord 14 = .ok (.ifCond .ne 7, 3) := by decide +kernel
theorem dX12_isWord_17 : decode cX12_isWord 17 = .ok (.iconst 1, 1) := by decide +kernel
theorem dX12_isWord_18 : decode cX12_isWord 18 = .ok (.goto 4, 3) := by decide +kernel
theorem dX12_isWord_21 : decode cX12_isWord 21 = .ok (.iconst 0, 1) := by decide +kernel
theorem dX12_isWord_22 : decode cX12_isWord 22 = .ok (.ireturn, 1) := by decide +kernel
theorem dX12_isWide_0 : decode cX12_isWide 0 = .ok (.aload_n 0, 1) := by decide +kernel
theorem dX12_isWide_1 : decode cX12_isWide 1 = .ok (.bipush 119, 2) := by decide +kernel
theorem dX12_isWide_3 : decode cX12_isWide 3 = .ok (.bipush 105, 2) := by decide +kernel
theorem dX12_isWide_5 : decode cX12_isWide 5 = .ok (.bipush 100, 2) := by decide +kernel
theorem dX12_isWide_7 : decode cX12_isWide 7 = .ok (.bipush 101, 2) := by decide +kernel
theorem dX12_isWide_9 : decode cX12_isWide 9 = .ok (.iconst 0, 1) := by decide +kernel
theorem dX12_isWide_10 : decode cX12_isWide 10 = .ok (.iconst 0, 1) := by decide +kernel
theorem dX12_isWide_11 : decode cX12_isWide 11 = .ok (.invokestatic 148, 3) := by decide +kernel
theorem dX12_isWide_14 : decode cX12_isWide 14 = .ok (.invokevirtual 152, 3) := by decide +kernel
theorem dX12_isWide_17 : decode cX12_isWide 17 = .ok (.ireturn, 1) := by decide +kernel
theorem dX12_isTap_0 : decode cX12_isTap 0 = .ok (.aload_n 0, 1) := by decide +kernel
theorem dX12_isTap_1 : decode cX12_isTap 1 = .ok (.bipush 116, 2) := by decide +kernel
theorem dX12_isTap_3 : decode cX12_isTap 3 = .ok (.bipush 97, 2) := by decide +kernel
theorem dX12_isTap_5 : decode cX12_isTap 5 = .ok (.bipush 112, 2) := by decide +kernel
theorem dX12_isTap_7 : decode cX12_isTap 7 = .ok (.iconst 0, 1) := by decide +kernel
theorem dX12_isTap_8 : decode cX12_isTap 8 = .ok (.iconst 0, 1) := by decide +kernel
theorem dX12_isTap_9 : decode cX12_isTap 9 = .ok (.iconst 0, 1) := by decide +kernel
theorem dX12_isTap_10 : decode cX12_isTap 10 = .ok (.invokestatic 148, 3) := by decide +kernel
theorem dX12_isTap_13 : decode cX12_isTap 13 = .ok (.invokevirtual 152, 3) := by decide +kernel
theorem dX12_isTap_16 : decode cX12_isTap 16 = .ok (.ireturn, 1) := by decide +kernel
theorem dX12_isOdds_0 : decode cX12_isOdds 0 = .ok (.aload_n 0, 1) := by decide +kernel
theorem dX12_isOdds_1 : decode cX12_isOdds 1 = .ok (.bipush 111, 2) := by decide +kernel
theorem dX12_isOdds_3 : decode cX12_isOdds 3 = .ok (.bipush 100, 2) := by decide +kernel
theorem dX12_isOdds_5 : decode cX12_isOdds 5 = .ok (.bipush 100, 2) := by decide +kernel
theorem dX12_isOdds_7 : decode cX12_isOdds 7 = .ok (.bipush 115, 2) := by decide +kernel
theorem dX12_isOdds_9 : decode cX12_isOdds 9 = .ok (.iconst 0, 1) := by decide +kernel
theorem dX12_isOdds_10 : decode cX12_isOdds 10 = .ok (.iconst 0, 1) := by decide +kernel
theorem dX12_isOdds_11 : decode cX12_isOdds 11 = .ok (.invokestatic 148, 3) := by decide +kernel
theorem dX12_isOdds_14 : decode cX12_isOdds 14 = .ok (.invokevirtual 152, 3) := by decide +kernel
theorem dX12_isOdds_17 : decode cX12_isOdds 17 = .ok (.ireturn, 1) := by decide +kernel
theorem dX12_isAccount_0 : decode cX12_isAccount 0 = .ok (.aload_n 0, 1) := by decide +kernel
theorem dX12_isAccount_1 : decode cX12_isAccount 1 = .ok (.bipush 97, 2) := by decide +kernel
theorem dX12_isAccount_3 : decode cX12_isAccount 3 = .ok (.bipush 99, 2) := by decide +kernel
theorem dX12_isAccount_5 : decode cX12_isAccount 5 = .ok (.bipush 99, 2) := by decide +kernel
theorem dX12_isAccount_7 : decode cX12_isAccount 7 = .ok (.bipush 111, 2) := by decide +kernel
theorem dX12_isAccount_9 : decode cX12_isAccount 9 = .ok (.bipush 117, 2) := by decide +kernel
theorem dX12_isAccount_11 : decode cX12_isAccount 11 = .ok (.bipush 110, 2) := by decide +kernel
theorem dX12_isAccount_13 : decode cX12_isAccount 13 = .ok (.invokestatic 148, 3) := by decide +kernel
theorem dX12_isAccount_16 : decode cX12_isAccount 16 = .ok (.ldc2_w 132, 3) := by decide +kernel
theorem dX12_isAccount_19 : decode cX12_isAccount 19 = .ok (.lmul, 1) := by decide +kernel
theorem dX12_isAccount_20 : decode cX12_isAccount 20 = .ok (.ldc2_w 156, 3) := by decide +kernel
theorem dX12_isAccount_23 : decode cX12_isAccount 23 = .ok (.ladd, 1) := by decide +kernel
theorem dX12_isAccount_24 : decode cX12_isAccount 24 = .ok (.invokevirtual 152, 3) := by decide +kernel
theorem dX12_isAccount_27 : decode cX12_isAccount 27 = .ok (.ireturn, 1) := by decide +kernel
theorem dX12_isLaw_0 : decode cX12_isLaw 0 = .ok (.aload_n 0, 1) := by decide +kernel
theorem dX12_isLaw_1 : decode cX12_isLaw 1 = .ok (.bipush 108, 2) := by decide +kernel
theorem dX12_isLaw_3 : decode cX12_isLaw 3 = .ok (.bipush 97, 2) := by decide +kernel
theorem dX12_isLaw_5 : decode cX12_isLaw 5 = .ok (.bipush 119, 2) := by decide +kernel
theorem dX12_isLaw_7 : decode cX12_isLaw 7 = .ok (.iconst 0, 1) := by decide +kernel
theorem dX12_isLaw_8 : decode cX12_isLaw 8 = .ok (.iconst 0, 1) := by decide +kernel
theorem dX12_isLaw_9 : decode cX12_isLaw 9 = .ok (.iconst 0, 1) := by decide +kernel
theorem dX12_isLaw_10 : decode cX12_isLaw 10 = .ok (.invokestatic 148, 3) := by decide +kernel
theorem dX12_isLaw_13 : decode cX12_isLaw 13 = .ok (.invokevirtual 152, 3) := by decide +kernel
theorem dX12_isLaw_16 : decode cX12_isLaw 16 = .ok (.ireturn, 1) := by decide +kernel
theorem dX12_isBecomes_0 : decode cX12_isBecomes 0 = .ok (.aload_n 0, 1) := by decide +kernel
theorem dX12_isBecomes_1 : decode cX12_isBecomes 1 = .ok (.bipush 98, 2) := by decide +kernel
theorem dX12_isBecomes_3 : decode cX12_isBecomes 3 = .ok (.bipush 101, 2) := by decide +kernel
theorem dX12_isBecomes_5 : decode cX12_isBecomes 5 = .ok (.bipush 99, 2) := by decide +kernel
theorem dX12_isBecomes_7 : decode cX12_isBecomes 7 = .ok (.bipush 111, 2) := by decide +kernel
theorem dX12_isBecomes_9 : decode cX12_isBecomes 9 = .ok (.bipush 109, 2) := by decide +kernel
theorem dX12_isBecomes_11 : decode cX12_isBecomes 11 = .ok (.bipush 101, 2) := by decide +kernel
theorem dX12_isBecomes_13 : decode cX12_isBecomes 13 = .ok (.invokestatic 148, 3) := by decide +kernel
theorem dX12_isBecomes_16 : decode cX12_isBecomes 16 = .ok (.ldc2_w 132, 3) := by decide +kernel
theorem dX12_isBecomes_19 : decode cX12_isBecomes 19 = .ok (.lmul, 1) := by decide +kernel
theorem dX12_isBecomes_20 : decode cX12_isBecomes 20 = .ok (.ldc2_w 158, 3) := by decide +kernel
theorem dX12_isBecomes_23 : decode cX12_isBecomes 23 = .ok (.ladd, 1) := by decide +kernel
theorem dX12_isBecomes_24 : decode cX12_isBecomes 24 = .ok (.invokevirtual 152, 3) := by decide +kernel
theorem dX12_isBecomes_27 : decode cX12_isBecomes 27 = .ok (.ireturn, 1) := by decide +kernel
theorem dX12_isWatch_0 : decode cX12_isWatch 0 = .ok (.aload_n 0, 1) := by decide +kernel
theorem dX12_isWatch_1 : decode cX12_isWatch 1 = .ok (.bipush 119, 2) := by decide +kernel
theorem dX12_isWatch_3 : decode cX12_isWatch 3 = .ok (.bipush 97, 2) := by decide +kernel
theorem dX12_isWatch_5 : decode cX12_isWatch 5 = .ok (.bipush 116, 2) := by decide +kernel
theorem dX12_isWatch_7 : decode cX12_isWatch 7 = .ok (.bipush 99, 2) := by decide +kernel
theorem dX12_isWatch_9 : decode cX12_isWatch 9 = .ok (.bipush 104, 2) := by decide +kernel
theorem dX12_isWatch_11 : decode cX12_isWatch 11 = .ok (.iconst 0, 1) := by decide +kernel
theorem dX12_isWatch_12 : decode cX12_isWatch 12 = .ok (.invokestatic 148, 3) := by decide +kernel
theorem dX12_isWatch_15 : decode cX12_isWatch 15 = .ok (.invokevirtual 152, 3) := by decide +kernel
theorem dX12_isWatch_18 : decode cX12_isWatch 18 = .ok (.ireturn, 1) := by decide +kernel
theorem dX12_kindWord_0 : decode cX12_kindWord 0 = .ok (.aload_n 0, 1) := by decide +kernel
theorem dX12_kindWord_1 : decode cX12_kindWord 1 = .ok (.bipush 100, 2) := by decide +kernel
theorem dX12_kindWord_3 : decode cX12_kindWord 3 = .ok (.bipush 101, 2) := by decide +kernel
theorem dX12_kindWord_5 : decode cX12_kindWord 5 = .ok (.bipush 98, 2) := by decide +kernel
theorem dX12_kindWord_7 : decode cX12_kindWord 7 = .ok (.bipush 105, 2) := by decide +kernel
theorem dX12_kindWord_9 : decode cX12_kindWord 9 = .ok (.bipush 116, 2) := by decide +kernel
theorem dX12_kindWord_11 : decode cX12_kindWord 11 = .ok (.iconst 0, 1) := by decide +kernel
theorem dX12_kindWord_12 : decode cX12_kindWord 12 = .ok (.invokestatic 148, 3) := by decide +kernel
theorem dX12_kindWord_15 : decode cX12_kindWord 15 = .ok (.invokevirtual 152, 3) := by decide +kernel
theorem dX12_kindWord_18 : decode cX12_kindWord 18 = .ok (.ifCond .eq 5, 3) := by decide +kernel
theorem dX12_kindWord_21 : decode cX12_kindWord 21 = .ok (.iconst 0, 1) := by decide +kernel
theorem dX12_kindWord_22 : decode cX12_kindWord 22 = .ok (.ireturn, 1) := by decide +kernel
theorem dX12_kindWord_23 : decode cX12_kindWord 23 = .ok (.aload_n 0, 1) := by decide +kernel
theorem dX12_kindWord_24 : decode cX12_kindWord 24 = .ok (.bipush 99, 2) := by decide +kernel
theorem dX12_kindWord_26 : decode cX12_kindWord 26 = .ok (.bipush 114, 2) := by decide +kernel
theorem dX12_kindWord_28 : decode cX12_kindWord 28 = .ok (.bipush 101, 2) := by decide +kernel
theorem dX12_kindWord_30 : decode cX12_kindWord 30 = .ok (.bipush 100, 2) := by decide +kernel
theorem dX12_kindWord_32 : decode cX12_kindWord 32 = .ok (.bipush 105, 2) := by decide +kernel
theorem dX12_kindWord_34 : decode cX12_kindWord 34 = .ok (.bipush 116, 2) := by decide +kernel
theorem dX12_kindWord_36 : decode cX12_kindWord 36 = .ok (.invokestatic 148, 3) := by decide +kernel
theorem dX12_kindWord_39 : decode cX12_kindWord 39 = .ok (.invokevirtual 152, 3) := by decide +kernel
theorem dX12_kindWord_42 : decode cX12_kindWord 42 = .ok (.ifCond .eq 7, 3) := by decide +kernel
theorem dX12_kindWord_45 : decode cX12_kindWord 45 = .ok (.iconst 1, 1) := by decide +kernel
theorem dX12_kindWord_46 : decode cX12_kindWord 46 = .ok (.goto 4, 3) := by decide +kernel
theorem dX12_kindWord_49 : decode cX12_kindWord 49 = .ok (.iconst (-1), 1) := by decide +kernel
theorem dX12_kindWord_50 : decode cX12_kindWord 50 = .ok (.ireturn, 1) := by decide +kernel
theorem dX12_placeWord_0 : decode cX12_placeWord 0 = .ok (.aload_n 0, 1) := by decide +kernel
theorem dX12_placeWord_1 : decode cX12_placeWord 1 = .ok (.bipush 108, 2) := by decide +kernel
theorem dX12_placeWord_3 : decode cX12_placeWord 3 = .ok (.bipush 101, 2) := by decide +kernel
theorem dX12_placeWord_5 : decode cX12_placeWord 5 = .ok (.bipush 102, 2) := by decide +kernel
theorem dX12_placeWord_7 : decode cX12_placeWord 7 = .ok (.bipush 116, 2) := by decide +kernel
theorem dX12_placeWord_9 : decode cX12_placeWord 9 = .ok (.iconst 0, 1) := by decide +kernel
theorem dX12_placeWord_10 : decode cX12_placeWord 10 = .ok (.iconst 0, 1) := by decide +kernel
theorem dX12_placeWord_11 : decode cX12_placeWord 11 = .ok (.invokestatic 148, 3) := by decide +kernel
theorem dX12_placeWord_14 : decode cX12_placeWord 14 = .ok (.invokevirtual 152, 3) := by decide +kernel
theorem dX12_placeWord_17 : decode cX12_placeWord 17 = .ok (.ifCond .eq 5, 3) := by decide +kernel
theorem dX12_placeWord_20 : decode cX12_placeWord 20 = .ok (.iconst 1, 1) := by decide +kernel
theorem dX12_placeWord_21 : decode cX12_placeWord 21 = .ok (.ireturn, 1) := by decide +kernel
theorem dX12_placeWord_22 : decode cX12_placeWord 22 = .ok (.aload_n 0, 1) := by decide +kernel
theorem dX12_placeWord_23 : decode cX12_placeWord 23 = .ok (.bipush 114, 2) := by decide +kernel
theorem dX12_placeWord_25 : decode cX12_placeWord 25 = .ok (.bipush 105, 2) := by decide +kernel
theorem dX12_placeWord_27 : decode cX12_placeWord 27 = .ok (.bipush 103, 2) := by decide +kernel
theorem dX12_placeWord_29 : decode cX12_placeWord 29 = .ok (.bipush 104, 2) := by decide +kernel
theorem dX12_placeWord_31 : decode cX12_placeWord 31 = .ok (.bipush 116, 2) := by decide +kernel
theorem dX12_placeWord_33 : decode cX12_placeWord 33 = .ok (.iconst 0, 1) := by decide +kernel
theorem dX12_placeWord_34 : decode cX12_placeWord 34 = .ok (.invokestatic 148, 3) := by decide +kernel
theorem dX12_placeWord_37 : decode cX12_placeWord 37 = .ok (.invokevirtual 152, 3) := by decide +kernel
theorem dX12_placeWord_40 : decode cX12_placeWord 40 = .ok (.ifCond .eq 5, 3) := by decide +kernel
theorem dX12_placeWord_43 : decode cX12_placeWord 43 = .ok (.iconst 2, 1) := by decide +kernel
theorem dX12_placeWord_44 : decode cX12_placeWord 44 = .ok (.ireturn, 1) := by decide +kernel
theorem dX12_placeWord_45 : decode cX12_placeWord 45 = .ok (.aload_n 0, 1) := by decide +kernel
theorem dX12_placeWord_46 : decode cX12_placeWord 46 = .ok (.bipush 97, 2) := by decide +kernel
theorem dX12_placeWord_48 : decode cX12_placeWord 48 = .ok (.bipush 98, 2) := by decide +kernel
theorem dX12_placeWord_50 : decode cX12_placeWord 50 = .ok (.bipush 111, 2) := by decide +kernel
theorem dX12_placeWord_52 : decode cX12_placeWord 52 = .ok (.bipush 118, 2) := by decide +kernel
theorem dX12_placeWord_54 : decode cX12_placeWord 54 = .ok (.bipush 101, 2) := by decide +kernel
theorem dX12_placeWord_56 : decode cX12_placeWord 56 = .ok (.iconst 0, 1) := by decide +kernel
theorem dX12_placeWord_57 : decode cX12_placeWord 57 = .ok (.invokestatic 148, 3) := by decide +kernel
theorem dX12_placeWord_60 : decode cX12_placeWord 60 = .ok (.invokevirtual 152, 3) := by decide +kernel
theorem dX12_placeWord_63 : decode cX12_placeWord 63 = .ok (.ifCond .eq 5, 3) := by decide +kernel
theorem dX12_placeWord_66 : decode cX12_placeWord 66 = .ok (.iconst 3, 1) := by decide +kernel
theorem dX12_placeWord_67 : decode cX12_placeWord 67 = .ok (.ireturn, 1) := by decide +kernel
theorem dX12_placeWord_68 : decode cX12_placeWord 68 = .ok (.aload_n 0, 1) := by decide +kernel
theorem dX12_placeWord_69 : decode cX12_placeWord 69 = .ok (.bipush 98, 2) := by decide +kernel
theorem dX12_placeWord_71 : decode cX12_placeWord 71 = .ok (.bipush 101, 2) := by decide +kernel
theorem dX12_placeWord_73 : decode cX12_placeWord 73 = .ok (.bipush 108, 2) := by decide +kernel
theorem dX12_placeWord_75 : decode cX12_placeWord 75 = .ok (.bipush 111, 2) := by decide +kernel
theorem dX12_placeWord_77 : decode cX12_placeWord 77 = .ok (.bipush 119, 2) := by decide +kernel
theorem dX12_placeWord_79 : decode cX12_placeWord 79 = .ok (.iconst 0, 1) := by decide +kernel
theorem dX12_placeWord_80 : decode cX12_placeWord 80 = .ok (.invokestatic 148, 3) := by decide +kernel
theorem dX12_placeWord_83 : decode cX12_placeWord 83 = .ok (.invokevirtual 152, 3) := by decide +kernel
theorem dX12_placeWord_86 : decode cX12_placeWord 86 = .ok (.ifCond .eq 7, 3) := by decide +kernel
theorem dX12_placeWord_89 : decode cX12_placeWord 89 = .ok (.iconst 4, 1) := by decide +kernel
theorem dX12_placeWord_90 : decode cX12_placeWord 90 = .ok (.goto 4, 3) := by decide +kernel
theorem dX12_placeWord_93 : decode cX12_placeWord 93 = .ok (.iconst (-1), 1) := by decide +kernel
theorem dX12_placeWord_94 : decode cX12_placeWord 94 = .ok (.ireturn, 1) := by decide +kernel
theorem dX12_wayWord_0 : decode cX12_wayWord 0 = .ok (.aload_n 0, 1) := by decide +kernel
theorem dX12_wayWord_1 : decode cX12_wayWord 1 = .ok (.bipush 117, 2) := by decide +kernel
theorem dX12_wayWord_3 : decode cX12_wayWord 3 = .ok (.bipush 112, 2) := by decide +kernel
theorem dX12_wayWord_5 : decode cX12_wayWord 5 = .ok (.iconst 0, 1) := by decide +kernel
theorem dX12_wayWord_6 : decode cX12_wayWord 6 = .ok (.iconst 0, 1) := by decide +kernel
theorem dX12_wayWord_7 : decode cX12_wayWord 7 = .ok (.iconst 0, 1) := by decide +kernel
theorem dX12_wayWord_8 : decode cX12_wayWord 8 = .ok (.iconst 0, 1) := by decide +kernel
theorem dX12_wayWord_9 : decode cX12_wayWord 9 = .ok (.invokestatic 148, 3) := by decide +kernel
theorem dX12_wayWord_12 : decode cX12_wayWord 12 = .ok (.invokevirtual 152, 3) := by decide +kernel
theorem dX12_wayWord_15 : decode cX12_wayWord 15 = .ok (.ifCond .eq 5, 3) := by decide +kernel
theorem dX12_wayWord_18 : decode cX12_wayWord 18 = .ok (.iconst 0, 1) := by decide +kernel
theorem dX12_wayWord_19 : decode cX12_wayWord 19 = .ok (.ireturn, 1) := by decide +kernel
theorem dX12_wayWord_20 : decode cX12_wayWord 20 = .ok (.aload_n 0, 1) := by decide +kernel
theorem dX12_wayWord_21 : decode cX12_wayWord 21 = .ok (.bipush 100, 2) := by decide +kernel
theorem dX12_wayWord_23 : decode cX12_wayWord 23 = .ok (.bipush 111, 2) := by decide +kernel
theorem dX12_wayWord_25 : decode cX12_wayWord 25 = .ok (.bipush 119, 2) := by decide +kernel
theorem dX12_wayWord_27 : decode cX12_wayWord 27 = .ok (.bipush 110, 2) := by decide +kernel
theorem dX12_wayWord_29 : decode cX12_wayWord 29 = .ok (.iconst 0, 1) := by decide +kernel
theorem dX12_wayWord_30 : decode cX12_wayWord 30 = .ok (.iconst 0, 1) := by decide +kernel
theorem dX12_wayWord_31 : decode cX12_wayWord 31 = .ok (.invokestatic 148, 3) := by decide +kernel
theorem dX12_wayWord_34 : decode cX12_wayWord 34 = .ok (.invokevirtual 152, 3) := by decide +kernel
theorem dX12_wayWord_37 : decode cX12_wayWord 37 = .ok (.ifCond .eq 5, 3) := by decide +kernel
theorem dX12_wayWord_40 : decode cX12_wayWord 40 = .ok (.iconst 1, 1) := by decide +kernel
theorem dX12_wayWord_41 : decode cX12_wayWord 41 = .ok (.ireturn, 1) := by decide +kernel
theorem dX12_wayWord_42 : decode cX12_wayWord 42 = .ok (.aload_n 0, 1) := by decide +kernel
theorem dX12_wayWord_43 : decode cX12_wayWord 43 = .ok (.invokevirtual 160, 3) := by decide +kernel
theorem dX12_wayWord_46 : decode cX12_wayWord 46 = .ok (.iconst 1, 1) := by decide +kernel
theorem dX12_wayWord_47 : decode cX12_wayWord 47 = .ok (.if_icmp .eq 11, 3) := by decide +kernel
theorem dX12_wayWord_50 : decode cX12_wayWord 50 = .ok (.aload_n 0, 1) := by decide +kernel
theorem dX12_wayWord_51 : decode cX12_wayWord 51 = .ok (.invokevirtual 160, 3) := by decide +kernel
theorem dX12_wayWord_54 : decode cX12_wayWord 54 = .ok (.iconst 2, 1) := by decide +kernel
theorem dX12_wayWord_55 : decode cX12_wayWord 55 = .ok (.if_icmp .ne 10, 3) := by decide +kernel
theorem dX12_wayWord_58 : decode cX12_wayWord 58 = .ok (.aload_n 0, 1) := by decide +kernel
theorem dX12_wayWord_59 : decode cX12_wayWord 59 = .ok (.invokevirtual 160, 3) := by decide +kernel
theorem dX12_wayWord_62 : decode cX12_wayWord 62 = .ok (.iconst 1, 1) := by decide +kernel
theorem dX12_wayWord_63 : decode cX12_wayWord 63 = .ok (.iadd, 1) := by decide +kernel
theorem dX12_wayWord_64 : decode cX12_wayWord 64 = .ok (.ireturn, 1) := by decide +kernel
theorem dX12_wayWord_65 : decode cX12_wayWord 65 = .ok (.aload_n 0, 1) := by decide +kernel
theorem dX12_wayWord_66 : decode cX12_wayWord 66 = .ok (.bipush 115, 2) := by decide +kernel
theorem dX12_wayWord_68 : decode cX12_wayWord 68 = .ok (.bipush 116, 2) := by decide +kernel
theorem dX12_wayWord_70 : decode cX12_wayWord 70 = .ok (.bipush 97, 2) := by decide +kernel
theorem dX12_wayWord_72 : decode cX12_wayWord 72 = .ok (.bipush 121, 2) := by decide +kernel
theorem dX12_wayWord_74 : decode cX12_wayWord 74 = .ok (.iconst 0, 1) := by decide +kernel
theorem dX12_wayWord_75 : decode cX12_wayWord 75 = .ok (.iconst 0, 1) := by decide +kernel
theorem dX12_wayWord_76 : decode cX12_wayWord 76 = .ok (.invokestatic 148, 3) := by decide +kernel
theorem dX12_wayWord_79 : decode cX12_wayWord 79 = .ok (.invokevirtual 152, 3) := by decide +kernel
theorem dX12_wayWord_82 : decode cX12_wayWord 82 = .ok (.ifCond .eq 7, 3) := by decide +kernel
theorem dX12_wayWord_85 : decode cX12_wayWord 85 = .ok (.iconst 4, 1) := by decide +kernel
theorem dX12_wayWord_86 : decode cX12_wayWord 86 = .ok (.goto 4, 3) := by decide +kernel
theorem dX12_wayWord_89 : decode cX12_wayWord 89 = .ok (.iconst (-1), 1) := by decide +kernel
theorem dX12_wayWord_90 : decode cX12_wayWord 90 = .ok (.ireturn, 1) := by decide +kernel
theorem dX12_orderWord_0 : decode cX12_orderWord 0 = .ok (.aload_n 0, 1) := by decide +kernel
theorem dX12_orderWord_1 : decode cX12_orderWord 1 = .ok (.bipush 115, 2) := by decide +kernel
theorem dX12_orderWord_3 : decode cX12_orderWord 3 = .ok (.bipush 116, 2) := by decide +kernel
theorem dX12_orderWord_5 : decode cX12_orderWord 5 = .ok (.bipush 101, 2) := by decide +kernel
theorem dX12_orderWord_7 : decode cX12_orderWord 7 = .ok (.bipush 112, 2) := by decide +kernel
theorem dX12_orderWord_9 : decode cX12_orderWord 9 = .ok (.iconst 0, 1) := by decide +kernel
theorem dX12_orderWord_10 : decode cX12_orderWord 10 = .ok (.iconst 0, 1) := by decide +kernel
theorem dX12_orderWord_11 : decode cX12_orderWord 11 = .ok (.invokestatic 148, 3) := by decide +kernel
theorem dX12_orderWord_14 : decode cX12_orderWord 14 = .ok (.invokevirtual 152, 3) := by decide +kernel
theorem dX12_orderWord_17 : decode cX12_orderWord 17 = .ok (.ifCond .eq 5, 3) := by decide +kernel
theorem dX12_orderWord_20 : decode cX12_orderWord 20 = .ok (.iconst 0, 1) := by decide +kernel
theorem dX12_orderWord_21 : decode cX12_orderWord 21 = .ok (.ireturn, 1) := by decide +kernel
theorem dX12_orderWord_22 : decode cX12_orderWord 22 = .ok (.aload_n 0, 1) := by decide +kernel
theorem dX12_orderWord_23 : decode cX12_orderWord 23 = .ok (.bipush 100, 2) := by decide +kernel
theorem dX12_orderWord_25 : decode cX12_orderWord 25 = .ok (.bipush 111, 2) := by decide +kernel
theorem dX12_orderWord_27 : decode cX12_orderWord 27 = .ok (.bipush 122, 2) := by decide +kernel
theorem dX12_orderWord_29 : decode cX12_orderWord 29 = .ok (.bipush 101, 2) := by decide +kernel
theorem dX12_orderWord_31 : decode cX12_orderWord 31 = .ok (.iconst 0, 1) := by decide +kernel
theorem dX12_orderWord_32 : decode cX12_orderWord 32 = .ok (.iconst 0, 1) := by decide +kernel
theorem dX12_orderWord_33 : decode cX12_orderWord 33 = .ok (.invokestatic 148, 3) := by decide +kernel
theorem dX12_orderWord_36 : decode cX12_orderWord 36 = .ok (.invokevirtual 152, 3) := by decide +kernel
theorem dX12_orderWord_39 : decode cX12_orderWord 39 = .ok (.ifCond .eq 5, 3) := by decide +kernel
theorem dX12_orderWord_42 : decode cX12_orderWord 42 = .ok (.iconst 1, 1) := by decide +kernel
theorem dX12_orderWord_43 : decode cX12_orderWord 43 = .ok (.ireturn, 1) := by decide +kernel
theorem dX12_orderWord_44 : decode cX12_orderWord 44 = .ok (.aload_n 0, 1) := by decide +kernel
theorem dX12_orderWord_45 : decode cX12_orderWord 45 = .ok (.bipush 109, 2) := by decide +kernel
theorem dX12_orderWord_47 : decode cX12_orderWord 47 = .ok (.bipush 101, 2) := by decide +kernel
theorem dX12_orderWord_49 : decode cX12_orderWord 49 = .ok (.bipush 110, 2) := by decide +kernel
theorem dX12_orderWord_51 : decode cX12_orderWord 51 = .ok (.bipush 100, 2) := by decide +kernel
theorem dX12_orderWord_53 : decode cX12_orderWord 53 = .ok (.iconst 0, 1) := by decide +kernel
theorem dX12_orderWord_54 : decode cX12_orderWord 54 = .ok (.iconst 0, 1) := by decide +kernel
theorem dX12_orderWord_55 : decode cX12_orderWord 55 = .ok (.invokestatic 148, 3) := by decide +kernel
theorem dX12_orderWord_58 : decode cX12_orderWord 58 = .ok (.invokevirtual 152, 3) := by decide +kernel
theorem dX12_orderWord_61 : decode cX12_orderWord 61 = .ok (.ifCond .eq 5, 3) := by decide +kernel
theorem dX12_orderWord_64 : decode cX12_orderWord 64 = .ok (.iconst 2, 1) := by decide +kernel
theorem dX12_orderWord_65 : decode cX12_orderWord 65 = .ok (.ireturn, 1) := by decide +kernel
theorem dX12_orderWord_66 : decode cX12_orderWord 66 = .ok (.aload_n 0, 1) := by decide +kernel
theorem dX12_orderWord_67 : decode cX12_orderWord 67 = .ok (.bipush 115, 2) := by decide +kernel
theorem dX12_orderWord_69 : decode cX12_orderWord 69 = .ok (.bipush 116, 2) := by decide +kernel
theorem dX12_orderWord_71 : decode cX12_orderWord 71 = .ok (.bipush 101, 2) := by decide +kernel
theorem dX12_orderWord_73 : decode cX12_orderWord 73 = .ok (.bipush 97, 2) := by decide +kernel
theorem dX12_orderWord_75 : decode cX12_orderWord 75 = .ok (.bipush 108, 2) := by decide +kernel
theorem dX12_orderWord_77 : decode cX12_orderWord 77 = .ok (.iconst 0, 1) := by decide +kernel
theorem dX12_orderWord_78 : decode cX12_orderWord 78 = .ok (.invokestatic 148, 3) := by decide +kernel
theorem dX12_orderWord_81 : decode cX12_orderWord 81 = .ok (.invokevirtual 152, 3) := by decide +kernel
theorem dX12_orderWord_84 : decode cX12_orderWord 84 = .ok (.ifCond .eq 5, 3) := by decide +kernel
theorem dX12_orderWord_87 : decode cX12_orderWord 87 = .ok (.iconst 3, 1) := by decide +kernel
theorem dX12_orderWord_88 : decode cX12_orderWord 88 = .ok (.ireturn, 1) := by decide +kernel
theorem dX12_orderWord_89 : decode cX12_orderWord 89 = .ok (.aload_n 0, 1) := by decide +kernel
theorem dX12_orderWord_90 : decode cX12_orderWord 90 = .ok (.bipush 97, 2) := by decide +kernel
theorem dX12_orderWord_92 : decode cX12_orderWord 92 = .ok (.bipush 110, 2) := by decide +kernel
theorem dX12_orderWord_94 : decode cX12_orderWord 94 = .ok (.bipush 121, 2) := by decide +kernel
theorem dX12_orderWord_96 : decode cX12_orderWord 96 = .ok (.iconst 0, 1) := by decide +kernel
theorem dX12_orderWord_97 : decode cX12_orderWord 97 = .ok (.iconst 0, 1) := by decide +kernel
theorem dX12_orderWord_98 : decode cX12_orderWord 98 = .ok (.iconst 0, 1) := by decide +kernel
theorem dX12_orderWord_99 : decode cX12_orderWord 99 = .ok (.invokestatic 148, 3) := by decide +kernel
theorem dX12_orderWord_102 : decode cX12_orderWord 102 = .ok (.invokevirtual 152, 3) := by decide +kernel
theorem dX12_orderWord_105 : decode cX12_orderWord 105 = .ok (.ifCond .eq 5, 3) := by decide +kernel
theorem dX12_orderWord_108 : decode cX12_orderWord 108 = .ok (.iconst 4, 1) := by decide +kernel
theorem dX12_orderWord_109 : decode cX12_orderWord 109 = .ok (.ireturn, 1) := by decide +kernel
theorem dX12_orderWord_110 : decode cX12_orderWord 110 = .ok (.aload_n 0, 1) := by decide +kernel
theorem dX12_orderWord_111 : decode cX12_orderWord 111 = .ok (.bipush 119, 2) := by decide +kernel
theorem dX12_orderWord_113 : decode cX12_orderWord 113 = .ok (.bipush 104, 2) := by decide +kernel
theorem dX12_orderWord_115 : decode cX12_orderWord 115 = .ok (.bipush 101, 2) := by decide +kernel
theorem dX12_orderWord_117 : decode cX12_orderWord 117 = .ok (.bipush 110, 2) := by decide +kernel
theorem dX12_orderWord_119 : decode cX12_orderWord 119 = .ok (.iconst 0, 1) := by decide +kernel
theorem dX12_orderWord_120 : decode cX12_orderWord 120 = .ok (.iconst 0, 1) := by decide +kernel
theorem dX12_orderWord_121 : decode cX12_orderWord 121 = .ok (.invokestatic 148, 3) := by decide +kernel
theorem dX12_orderWord_124 : decode cX12_orderWord 124 = .ok (.invokevirtual 152, 3) := by decide +kernel
theorem dX12_orderWord_127 : decode cX12_orderWord 127 = .ok (.ifCond .eq 5, 3) := by decide +kernel
theorem dX12_orderWord_130 : decode cX12_orderWord 130 = .ok (.iconst 5, 1) := by decide +kernel
theorem dX12_orderWord_131 : decode cX12_orderWord 131 = .ok (.ireturn, 1) := by decide +kernel
theorem dX12_orderWord_132 : decode cX12_orderWord 132 = .ok (.aload_n 0, 1) := by decide +kernel
theorem dX12_orderWord_133 : decode cX12_orderWord 133 = .ok (.bipush 108, 2) := by decide +kernel
theorem dX12_orderWord_135 : decode cX12_orderWord 135 = .ok (.bipush 111, 2) := by decide +kernel
theorem dX12_orderWord_137 : decode cX12_orderWord 137 = .ok (.bipush 111, 2) := by decide +kernel
theorem dX12_orderWord_139 : decode cX12_orderWord 139 = .ok (.bipush 112, 2) := by decide +kernel
theorem dX12_orderWord_141 : decode cX12_orderWord 141 = .ok (.iconst 0, 1) := by decide +kernel
theorem dX12_orderWord_142 : decode cX12_orderWord 142 = .ok (.iconst 0, 1) := by decide +kernel
theorem dX12_orderWord_143 : decode cX12_orderWord 143 = .ok (.invokestatic 148, 3) := by decide +kernel
theorem dX12_orderWord_146 : decode cX12_orderWord 146 = .ok (.invokevirtual 152, 3) := by decide +kernel
theorem dX12_orderWord_149 : decode cX12_orderWord 149 = .ok (.ifCond .eq 6, 3) := by decide +kernel
theorem dX12_orderWord_152 : decode cX12_orderWord 152 = .ok (.bipush 6, 2) := by decide +kernel
theorem dX12_orderWord_154 : decode cX12_orderWord 154 = .ok (.ireturn, 1) := by decide +kernel
theorem dX12_orderWord_155 : decode cX12_orderWord 155 = .ok (.aload_n 0, 1) := by decide +kernel
theorem dX12_orderWord_156 : decode cX12_orderWord 156 = .ok (.bipush 115, 2) := by decide +kernel
theorem dX12_orderWord_158 : decode cX12_orderWord 158 = .ok (.bipush 116, 2) := by decide +kernel
theorem dX12_orderWord_160 : decode cX12_orderWord 160 = .ok (.bipush 111, 2) := by decide +kernel
theorem dX12_orderWord_162 : decode cX12_orderWord 162 = .ok (.bipush 112, 2) := by decide +kernel
theorem dX12_orderWord_164 : decode cX12_orderWord 164 = .ok (.iconst 0, 1) := by decide +kernel
theorem dX12_orderWord_165 : decode cX12_orderWord 165 = .ok (.iconst 0, 1) := by decide +kernel
theorem dX12_orderWord_166 : decode cX12_orderWord 166 = .ok (.invokestatic 148, 3) := by decide +kernel
theorem dX12_orderWord_169 : decode cX12_orderWord 169 = .ok (.invokevirtual 152, 3) := by decide +kernel
theorem dX12_orderWord_172 : decode cX12_orderWord 172 = .ok (.ifCond .eq 8, 3) := by decide +kernel
theorem dX12_orderWord_175 : decode cX12_orderWord 175 = .ok (.bipush 7, 2) := by decide +kernel
theorem dX12_orderWord_177 : decode cX12_orderWord 177 = .ok (.goto 4, 3) := by decide +kernel
theorem dX12_orderWord_180 : decode cX12_orderWord 180 = .ok (.iconst (-1), 1) := by decide +kernel
theorem dX12_orderWord_181 : decode cX12_orderWord 181 = .ok (.ireturn, 1) := by decide +kernel
theorem dX12_testWord_0 : decode cX12_testWord 0 = .ok (.aload_n 0, 1) := by decide +kernel
theorem dX12_testWord_1 : decode cX12_testWord 1 = .ok (.bipush 119, 2) := by decide +kernel
theorem dX12_testWord_3 : decode cX12_testWord 3 = .ok (.bipush 114, 2) := by decide +kernel
theorem dX12_testWord_5 : decode cX12_testWord 5 = .ok (.bipush 111, 2) := by decide +kernel
theorem dX12_testWord_7 : decode cX12_testWord 7 = .ok (.bipush 110, 2) := by decide +kernel
theorem dX12_testWord_9 : decode cX12_testWord 9 = .ok (.bipush 103, 2) := by decide +kernel
theorem dX12_testWord_11 : decode cX12_testWord 11 = .ok (.iconst 0, 1) := by decide +kernel
theorem dX12_testWord_12 : decode cX12_testWord 12 = .ok (.invokestatic 148, 3) := by decide +kernel
theorem dX12_testWord_15 : decode cX12_testWord 15 = .ok (.invokevirtual 152, 3) := by decide +kernel
theorem dX12_testWord_18 : decode cX12_testWord 18 = .ok (.ifCond .eq 5, 3) := by decide +kernel
theorem dX12_testWord_21 : decode cX12_testWord 21 = .ok (.iconst 0, 1) := by decide +kernel
theorem dX12_testWord_22 : decode cX12_testWord 22 = .ok (.ireturn, 1) := by decide +kernel
theorem dX12_testWord_23 : decode cX12_testWord 23 = .ok (.aload_n 0, 1) := by decide +kernel
theorem dX12_testWord_24 : decode cX12_testWord 24 = .ok (.bipush 100, 2) := by decide +kernel
theorem dX12_testWord_26 : decode cX12_testWord 26 = .ok (.bipush 105, 2) := by decide +kernel
theorem dX12_testWord_28 : decode cX12_testWord 28 = .ok (.bipush 103, 2) := by decide +kernel
theorem dX12_testWord_30 : decode cX12_testWord 30 = .ok (.bipush 105, 2) := by decide +kernel
theorem dX12_testWord_32 : decode cX12_testWord 32 = .ok (.bipush 116, 2) := by decide +kernel
theorem dX12_testWord_34 : decode cX12_testWord 34 = .ok (.iconst 0, 1) := by decide +kernel
theorem dX12_testWord_35 : decode cX12_testWord 35 = .ok (.invokestatic 148, 3) := by decide +kernel
theorem dX12_testWord_38 : decode cX12_testWord 38 = .ok (.invokevirtual 152, 3) := by decide +kernel
theorem dX12_testWord_41 : decode cX12_testWord 41 = .ok (.ifCond .eq 5, 3) := by decide +kernel
theorem dX12_testWord_44 : decode cX12_testWord 44 = .ok (.iconst 1, 1) := by decide +kernel
theorem dX12_testWord_45 : decode cX12_testWord 45 = .ok (.ireturn, 1) := by decide +kernel
theorem dX12_testWord_46 : decode cX12_testWord 46 = .ok (.aload_n 0, 1) := by decide +kernel
theorem dX12_testWord_47 : decode cX12_testWord 47 = .ok (.bipush 101, 2) := by decide +kernel
theorem dX12_testWord_49 : decode cX12_testWord 49 = .ok (.bipush 118, 2) := by decide +kernel
theorem dX12_testWord_51 : decode cX12_testWord 51 = .ok (.bipush 101, 2) := by decide +kernel
theorem dX12_testWord_53 : decode cX12_testWord 53 = .ok (.bipush 110, 2) := by decide +kernel
theorem dX12_testWord_55 : decode cX12_testWord 55 = .ok (.iconst 0, 1) := by decide +kernel
theorem dX12_testWord_56 : decode cX12_testWord 56 = .ok (.iconst 0, 1) := by decide +kernel
theorem dX12_testWord_57 : decode cX12_testWord 57 = .ok (.invokestatic 148, 3) := by decide +kernel
theorem dX12_testWord_60 : decode cX12_testWord 60 = .ok (.invokevirtual 152, 3) := by decide +kernel
theorem dX12_testWord_63 : decode cX12_testWord 63 = .ok (.ifCond .eq 7, 3) := by decide +kernel
theorem dX12_testWord_66 : decode cX12_testWord 66 = .ok (.iconst 2, 1) := by decide +kernel
theorem dX12_testWord_67 : decode cX12_testWord 67 = .ok (.goto 4, 3) := by decide +kernel
theorem dX12_testWord_70 : decode cX12_testWord 70 = .ok (.iconst (-1), 1) := by decide +kernel
theorem dX12_testWord_71 : decode cX12_testWord 71 = .ok (.ireturn, 1) := by decide +kernel
theorem dX12_isEnd_0 : decode cX12_isEnd 0 = .ok (.aload_n 0, 1) := by decide +kernel
theorem dX12_isEnd_1 : decode cX12_isEnd 1 = .ok (.bipush 101, 2) := by decide +kernel
theorem dX12_isEnd_3 : decode cX12_isEnd 3 = .ok (.bipush 110, 2) := by decide +kernel
theorem dX12_isEnd_5 : decode cX12_isEnd 5 = .ok (.bipush 100, 2) := by decide +kernel
theorem dX12_isEnd_7 : decode cX12_isEnd 7 = .ok (.iconst 0, 1) := by decide +kernel
theorem dX12_isEnd_8 : decode cX12_isEnd 8 = .ok (.iconst 0, 1) := by decide +kernel
theorem dX12_isEnd_9 : decode cX12_isEnd 9 = .ok (.iconst 0, 1) := by decide +kernel
theorem dX12_isEnd_10 : decode cX12_isEnd 10 = .ok (.invokestatic 148, 3) := by decide +kernel
theorem dX12_isEnd_13 : decode cX12_isEnd 13 = .ok (.invokevirtual 152, 3) := by decide +kernel
theorem dX12_isEnd_16 : decode cX12_isEnd 16 = .ok (.ireturn, 1) := by decide +kernel
theorem dX12_isKept_0 : decode cX12_isKept 0 = .ok (.aload_n 0, 1) := by decide +kernel
theorem dX12_isKept_1 : decode cX12_isKept 1 = .ok (.invokevirtual 164, 3) := by decide +kernel
theorem dX12_isKept_4 : decode cX12_isKept 4 = .ok (.ifCond .ne 45, 3) := by decide +kernel
theorem dX12_isKept_7 : decode cX12_isKept 7 = .ok (.aload_n 0, 1) := by decide +kernel
theorem dX12_isKept_8 : decode cX12_isKept 8 = .ok (.invokevirtual 168, 3) := by decide +kernel
theorem dX12_isKept_11 : decode cX12_isKept 11 = .ok (.ifCond .ne 38, 3) := by decide +kernel
theorem dX12_isKept_14 : decode cX12_isKept 14 = .ok (.aload_n 0, 1) := by decide +kernel
theorem dX12_isKept_15 : decode cX12_isKept 15 = .ok (.invokevirtual 171, 3) := by decide +kernel
theorem dX12_isKept_18 : decode cX12_isKept 18 = .ok (.ifCond .ne 31, 3) := by decide +kernel
theorem dX12_isKept_21 : decode cX12_isKept 21 = .ok (.aload_n 0, 1) := by decide +kernel
theorem dX12_isKept_22 : decode cX12_isKept 22 = .ok (.invokevirtual 174, 3) := by decide +kernel
theorem dX12_isKept_25 : decode cX12_isKept 25 = .ok (.ifCond .ne 24, 3) := by decide +kernel
theorem dX12_isKept_28 : decode cX12_isKept 28 = .ok (.aload_n 0, 1) := by decide +kernel
theorem dX12_isKept_29 : decode cX12_isKept 29 = .ok (.invokevirtual 177, 3) := by decide +kernel
theorem dX12_isKept_32 : decode cX12_isKept 32 = .ok (.ifCond .ne 17, 3) := by decide +kernel
theorem dX12_isKept_35 : decode cX12_isKept 35 = .ok (.aload_n 0, 1) := by decide +kernel
theorem dX12_isKept_36 : decode cX12_isKept 36 = .ok (.invokevirtual 180, 3) := by decide +kernel
theorem dX12_isKept_39 : decode cX12_isKept 39 = .ok (.ifCond .ne 10, 3) := by decide +kernel
theorem dX12_isKept_42 : decode cX12_isKept 42 = .ok (.aload_n 0, 1) := by decide +kernel
theorem dX12_isKept_43 : decode cX12_isKept 43 = .ok (.invokevirtual 183, 3) := by decide +kernel
theorem dX12_isKept_46 : decode cX12_isKept 46 = .ok (.ifCond .eq 5, 3) := by decide +kernel
theorem dX12_isKept_49 : decode cX12_isKept 49 = .ok (.iconst 1, 1) := by decide +kernel
theorem dX12_isKept_50 : decode cX12_isKept 50 = .ok (.ireturn, 1) := by decide +kernel
theorem dX12_isKept_51 : decode cX12_isKept 51 = .ok (.aload_n 0, 1) := by decide +kernel
theorem dX12_isKept_52 : decode cX12_isKept 52 = .ok (.invokevirtual 186, 3) := by decide +kernel
theorem dX12_isKept_55 : decode cX12_isKept 55 = .ok (.ifCond .ge 17, 3) := by decide +kernel
theorem dX12_isKept_58 : decode cX12_isKept 58 = .ok (.aload_n 0, 1) := by decide +kernel
theorem dX12_isKept_59 : decode cX12_isKept 59 = .ok (.invokevirtual 160, 3) := by decide +kernel
theorem dX12_isKept_62 : decode cX12_isKept 62 = .ok (.ifCond .ge 10, 3) := by decide +kernel
theorem dX12_isKept_65 : decode cX12_isKept 65 = .ok (.aload_n 0, 1) := by decide +kernel
theorem dX12_isKept_66 : decode cX12_isKept 66 = .ok (.invokevirtual 189, 3) := by decide +kernel
theorem dX12_isKept_69 : decode cX12_isKept 69 = .ok (.ifCond .lt 5, 3) := by decide +kernel
theorem dX12_isKept_72 : decode cX12_isKept 72 = .ok (.iconst 1, 1) := by decide +kernel
theorem dX12_isKept_73 : decode cX12_isKept 73 = .ok (.ireturn, 1) := by decide +kernel
theorem dX12_isKept_74 : decode cX12_isKept 74 = .ok (.aload_n 0, 1) := by decide +kernel
theorem dX12_isKept_75 : decode cX12_isKept 75 = .ok (.invokevirtual 192, 3) := by decide +kernel
theorem dX12_isKept_78 : decode cX12_isKept 78 = .ok (.ifCond .ge 17, 3) := by decide +kernel
theorem dX12_isKept_81 : decode cX12_isKept 81 = .ok (.aload_n 0, 1) := by decide +kernel
theorem dX12_isKept_82 : decode cX12_isKept 82 = .ok (.invokevirtual 195, 3) := by decide +kernel
theorem dX12_isKept_85 : decode cX12_isKept 85 = .ok (.ifCond .ge 10, 3) := by decide +kernel
theorem dX12_isKept_88 : decode cX12_isKept 88 = .ok (.aload_n 0, 1) := by decide +kernel
theorem dX12_isKept_89 : decode cX12_isKept 89 = .ok (.invokevirtual 198, 3) := by decide +kernel
theorem dX12_isKept_92 : decode cX12_isKept 92 = .ok (.ifCond .eq 7, 3) := by decide +kernel
theorem dX12_isKept_95 : decode cX12_isKept 95 = .ok (.iconst 1, 1) := by decide +kernel
theorem dX12_isKept_96 : decode cX12_isKept 96 = .ok (.goto 4, 3) := by decide +kernel
theorem dX12_isKept_99 : decode cX12_isKept 99 = .ok (.iconst 0, 1) := by decide +kernel
theorem dX12_isKept_100 : decode cX12_isKept 100 = .ok (.ireturn, 1) := by decide +kernel
theorem dX12_isName_0 : decode cX12_isName 0 = .ok (.aload_n 0, 1) := by decide +kernel
theorem dX12_isName_1 : decode cX12_isName 1 = .ok (.getfield 123, 3) := by decide +kernel
theorem dX12_isName_4 : decode cX12_isName 4 = .ok (.iconst 1, 1) := by decide +kernel
theorem dX12_isName_5 : decode cX12_isName 5 = .ok (.if_icmp .ne 23, 3) := by decide +kernel
theorem dX12_isName_8 : decode cX12_isName 8 = .ok (.aload_n 0, 1) := by decide +kernel
theorem dX12_isName_9 : decode cX12_isName 9 = .ok (.getfield 136, 3) := by decide +kernel
theorem dX12_isName_12 : decode cX12_isName 12 = .ok (.bipush 8, 2) := by decide +kernel
theorem dX12_isName_14 : decode cX12_isName 14 = .ok (.if_icmp .gt 14, 3) := by decide +kernel
theorem dX12_isName_17 : decode cX12_isName 17 = .ok (.aload_n 0, 1) := by decide +kernel
theorem dX12_isName_18 : decode cX12_isName 18 = .ok (.invokevirtual 201, 3) := by decide +kernel
theorem dX12_isName_21 : decode cX12_isName 21 = .ok (.ifCond .ne 7, 3) := by decide +kernel
theorem dX12_isName_24 : decode cX12_isName 24 = .ok (.iconst 1, 1) := by decide +kernel
theorem dX12_isName_25 : decode cX12_isName 25 = .ok (.goto 4, 3) := by decide +kernel
theorem dX12_isName_28 : decode cX12_isName 28 = .ok (.iconst 0, 1) := by decide +kernel
theorem dX12_isName_29 : decode cX12_isName 29 = .ok (.ireturn, 1) := by decide +kernel
theorem dX12_fail_0 : decode cX12_fail 0 = .ok (.aload_n 0, 1) := by decide +kernel
theorem dX12_fail_1 : decode cX12_fail 1 = .ok (.getfield 204, 3) := by decide +kernel
theorem dX12_fail_4 : decode cX12_fail 4 = .ok (.ifCond .le 4, 3) := by decide +kernel
theorem dX12_fail_7 : decode cX12_fail 7 = .ok (.return_, 1) := by decide +kernel
theorem dX12_fail_8 : decode cX12_fail 8 = .ok (.aload_n 0, 1) := by decide +kernel
theorem dX12_fail_9 : decode cX12_fail 9 = .ok (.iload_n 1, 1) := by decide +kernel
theorem dX12_fail_10 : decode cX12_fail 10 = .ok (.putfield 204, 3) := by decide +kernel
theorem dX12_fail_13 : decode cX12_fail 13 = .ok (.aload_n 0, 1) := by decide +kernel
theorem dX12_fail_14 : decode cX12_fail 14 = .ok (.iload_n 2, 1) := by decide +kernel
theorem dX12_fail_15 : decode cX12_fail 15 = .ok (.putfield 207, 3) := by decide +kernel
theorem dX12_fail_18 : decode cX12_fail 18 = .ok (.return_, 1) := by decide +kernel
theorem dX12_amiss_0 : decode cX12_amiss 0 = .ok (.aload_n 0, 1) := by decide +kernel
theorem dX12_amiss_1 : decode cX12_amiss 1 = .ok (.aload_n 0, 1) := by decide +kernel
theorem dX12_amiss_2 : decode cX12_amiss 2 = .ok (.getfield 123, 3) := by decide +kernel
theorem dX12_amiss_5 : decode cX12_amiss 5 = .ok (.iconst 4, 1) := by decide +kernel
theorem dX12_amiss_6 : decode cX12_amiss 6 = .ok (.if_icmp .ne 7, 3) := by decide +kernel
theorem dX12_amiss_9 : decode cX12_amiss 9 = .ok (.iconst 1, 1) := by decide +kernel
theorem dX12_amiss_10 : decode cX12_amiss 10 = .ok (.goto 4, 3) := by decide +kernel
theorem dX12_amiss_13 : decode cX12_amiss 13 = .ok (.iconst 2, 1) := by decide +kernel
theorem dX12_amiss_14 : decode cX12_amiss 14 = .ok (.aload_n 0, 1) := by decide +kernel
theorem dX12_amiss_15 : decode cX12_amiss 15 = .ok (.getfield 117, 3) := by decide +kernel
theorem dX12_amiss_18 : decode cX12_amiss 18 = .ok (.invokevirtual 210, 3) := by decide +kernel
theorem dX12_amiss_21 : decode cX12_amiss 21 = .ok (.return_, 1) := by decide +kernel
theorem dX12_must_0 : decode cX12_must 0 = .ok (.aload_n 0, 1) := by decide +kernel
theorem dX12_must_1 : decode cX12_must 1 = .ok (.getfield 204, 3) := by decide +kernel
theorem dX12_must_4 : decode cX12_must 4 = .ok (.ifCond .le 4, 3) := by decide +kernel
theorem dX12_must_7 : decode cX12_must 7 = .ok (.return_, 1) := by decide +kernel
theorem dX12_must_8 : decode cX12_must 8 = .ok (.iload_n 1, 1) := by decide +kernel
theorem dX12_must_9 : decode cX12_must 9 = .ok (.ifCond .eq 10, 3) := by decide +kernel
theorem dX12_must_12 : decode cX12_must 12 = .ok (.aload_n 0, 1) := by decide +kernel
theorem dX12_must_13 : decode cX12_must 13 = .ok (.invokevirtual 214, 3) := by decide +kernel
theorem dX12_must_16 : decode cX12_must 16 = .ok (.goto 7, 3) := by decide +kernel
theorem dX12_must_19 : decode cX12_must 19 = .ok (.aload_n 0, 1) := by decide +kernel
theorem dX12_must_20 : decode cX12_must 20 = .ok (.invokevirtual 217, 3) := by decide +kernel
theorem dX12_must_23 : decode cX12_must 23 = .ok (.return_, 1) := by decide +kernel
theorem dX12_count_0 : decode cX12_count 0 = .ok (.aload_n 0, 1) := by decide +kernel
theorem dX12_count_1 : decode cX12_count 1 = .ok (.getfield 204, 3) := by decide +kernel
theorem dX12_count_4 : decode cX12_count 4 = .ok (.ifCond .ne 15, 3) := by decide +kernel
theorem dX12_count_7 : decode cX12_count 7 = .ok (.aload_n 0, 1) := by decide +kernel
theorem dX12_count_8 : decode cX12_count 8 = .ok (.getfield 123, 3) := by decide +kernel
theorem dX12_count_11 : decode cX12_count 11 = .ok (.iconst 2, 1) := by decide +kernel
theorem dX12_count_12 : decode cX12_count 12 = .ok (.if_icmp .eq 7, 3) := by decide +kernel
theorem dX12_count_15 : decode cX12_count 15 = .ok (.aload_n 0, 1) := by decide +kernel
theorem dX12_count_16 : decode cX12_count 16 = .ok (.invokevirtual 217, 3) := by decide +kernel
theorem dX12_count_19 : decode cX12_count 19 = .ok (.aload_n 0, 1) := by decide +kernel
theorem dX12_count_20 : decode cX12_count 20 = .ok (.getfield 204, 3) := by decide +kernel
theorem dX12_count_23 : decode cX12_count 23 = .ok (.ifCond .ne 27, 3) := by decide +kernel
theorem dX12_count_26 : decode cX12_count 26 = .ok (.aload_n 0, 1) := by decide +kernel
theorem dX12_count_27 : decode cX12_count 27 = .ok (.getfield 142, 3) := by decide +kernel
theorem dX12_count_30 : decode cX12_count 30 = .ok (.i2l, 1) := by decide +kernel
theorem dX12_count_31 : decode cX12_count 31 = .ok (.iload_n 1, 1) := by decide +kernel
theorem dX12_count_32 : decode cX12_count 32 = .ok (.i2l, 1) := by decide +kernel
theorem dX12_count_33 : decode cX12_count 33 = .ok (.iload_n 2, 1) := by decide +kernel
theorem dX12_count_34 : decode cX12_count 34 = .ok (.i2l, 1) := by decide +kernel
theorem dX12_count_35 : decode cX12_count 35 = .ok (.invokestatic 107, 3) := by decide +kernel
theorem dX12_count_38 : decode cX12_count 38 = .ok (.ifCond .ne 12, 3) := by decide +kernel
theorem dX12_count_41 : decode cX12_count 41 = .ok (.aload_n 0, 1) := by decide +kernel
theorem dX12_count_42 : decode cX12_count 42 = .ok (.iconst 4, 1) := by decide +kernel
theorem dX12_count_43 : decode cX12_count 43 = .ok (.aload_n 0, 1) := by decide +kernel
theorem dX12_count_44 : decode cX12_count 44 = .ok (.getfield 117, 3) := by decide +kernel
theorem dX12_count_47 : decode cX12_count 47 = .ok (.invokevirtual 210, 3) := by decide +kernel
theorem dX12_count_50 : decode cX12_count 50 = .ok (.aload_n 0, 1) := by decide +kernel
theorem dX12_count_51 : decode cX12_count 51 = .ok (.getfield 204, 3) := by decide +kernel
theorem dX12_count_54 : decode cX12_count 54 = .ok (.ifCond .le 5, 3) := by decide +kernel
theorem dX12_count_57 : decode cX12_count 57 = .ok (.iconst 0, 1) := by decide +kernel
theorem dX12_count_58 : decode cX12_count 58 = .ok (.ireturn, 1) := by decide +kernel
theorem dX12_count_59 : decode cX12_count 59 = .ok (.aload_n 0, 1) := by decide +kernel
theorem dX12_count_60 : decode cX12_count 60 = .ok (.getfield 142, 3) := by decide +kernel
theorem dX12_count_63 : decode cX12_count 63 = .ok (.istore_n 3, 1) := by decide +kernel
theorem dX12_count_64 : decode cX12_count 64 = .ok (.aload_n 0, 1) := by decide +kernel
theorem dX12_count_65 : decode cX12_count 65 = .ok (.invokevirtual 214, 3) := by decide +kernel
theorem dX12_count_68 : decode cX12_count 68 = .ok (.iload_n 3, 1) := by decide +kernel
theorem dX12_count_69 : decode cX12_count 69 = .ok (.ireturn, 1) := by decide +kernel
theorem dX12_feed_0 : decode cX12_feed 0 = .ok (.aload_n 0, 1) := by decide +kernel
theorem dX12_feed_1 : decode cX12_feed 1 = .ok (.iconst 0, 1) := by decide +kernel
theorem dX12_feed_2 : decode cX12_feed 2 = .ok (.putfield 72, 3) := by decide +kernel
theorem dX12_feed_5 : decode cX12_feed 5 = .ok (.aload_n 0, 1) := by decide +kernel
theorem dX12_feed_6 : decode cX12_feed 6 = .ok (.getfield 220, 3) := by decide +kernel
theorem dX12_feed_9 : decode cX12_feed 9 = .ok (.bipush 20, 2) := by decide +kernel
theorem dX12_feed_11 : decode cX12_feed 11 = .ok (.iadd, 1) := by decide +kernel
theorem dX12_feed_12 : decode cX12_feed 12 = .ok (.sipush 900, 3) := by decide +kernel
theorem dX12_feed_15 : decode cX12_feed 15 = .ok (.if_icmp .le 5, 3) := by decide +kernel
theorem dX12_feed_18 : decode cX12_feed 18 = .ok (.iconst (-1), 1) := by decide +kernel
theorem dX12_feed_19 : decode cX12_feed 19 = .ok (.ireturn, 1) := by decide +kernel
theorem dX12_feed_20 : decode cX12_feed 20 = .ok (.aload_n 0, 1) := by decide +kernel
theorem dX12_feed_21 : decode cX12_feed 21 = .ok (.iload_n 1, 1) := by decide +kernel
theorem dX12_feed_22 : decode cX12_feed 22 = .ok (.invokevirtual 223, 3) := by decide +kernel
theorem dX12_feed_25 : decode cX12_feed 25 = .ok (.aload_n 0, 1) := by decide +kernel
theorem dX12_feed_26 : decode cX12_feed 26 = .ok (.iload_n 2, 1) := by decide +kernel
theorem dX12_feed_27 : decode cX12_feed 27 = .ok (.invokevirtual 223, 3) := by decide +kernel
theorem dX12_feed_30 : decode cX12_feed 30 = .ok (.aload_n 0, 1) := by decide +kernel
theorem dX12_feed_31 : decode cX12_feed 31 = .ok (.iload_n 3, 1) := by decide +kernel
theorem dX12_feed_32 : decode cX12_feed 32 = .ok (.invokevirtual 223, 3) := by decide +kernel
theorem dX12_feed_35 : decode cX12_feed 35 = .ok (.aload_n 0, 1) := by decide +kernel
theorem dX12_feed_36 : decode cX12_feed 36 = .ok (.iload 4, 2) := by decide +kernel
theorem dX12_feed_38 : decode cX12_feed 38 = .ok (.invokevirtual 223, 3) := by decide +kernel
theorem dX12_feed_41 : decode cX12_feed 41 = .ok (.aload_n 0, 1) := by decide +kernel
theorem dX12_feed_42 : decode cX12_feed 42 = .ok (.iload 5, 2) := by decide +kernel
theorem dX12_feed_44 : decode cX12_feed 44 = .ok (.invokevirtual 223, 3) := by decide +kernel
theorem dX12_feed_47 : decode cX12_feed 47 = .ok (.aload_n 0, 1) := by decide +kernel
theorem dX12_feed_48 : decode cX12_feed 48 = .ok (.getfield 220, 3) := by decide +kernel
theorem dX12_feed_51 : decode cX12_feed 51 = .ok (.ireturn, 1) := by decide +kernel
theorem dX12_lay_0 : decode cX12_lay 0 = .ok (.iconst 3, 1) := by decide +kernel
theorem dX12_lay_1 : decode cX12_lay 1 = .ok (.istore_n 2, 1) := by decide +kernel
theorem dX12_lay_2 : decode cX12_lay 2 = .ok (.iload_n 2, 1) := by decide +kernel
theorem dX12_lay_3 : decode cX12_lay 3 = .ok (.ifCond .lt 35, 3) := by decide +kernel
theorem dX12_lay_6 : decode cX12_lay 6 = .ok (.aload_n 0, 1) := by decide +kernel
theorem dX12_lay_7 : decode cX12_lay 7 = .ok (.getfield 24, 3) := by decide +kernel
theorem dX12_lay_10 : decode cX12_lay 10 = .ok (.aload_n 0, 1) := by decide +kernel
theorem dX12_lay_11 : decode cX12_lay 11 = .ok (.getfield 220, 3) := by decide +kernel
theorem dX12_lay_14 : decode cX12_lay 14 = .ok (.iload_n 1, 1) := by decide +kernel
theorem dX12_lay_15 : decode cX12_lay 15 = .ok (.bipush 8, 2) := by decide +kernel
theorem dX12_lay_17 : decode cX12_lay 17 = .ok (.iload_n 2, 1) := by decide +kernel
theorem dX12_lay_18 : decode cX12_lay 18 = .ok (.imul, 1) := by decide +kernel
theorem dX12_lay_19 : decode cX12_lay 19 = .ok (.ishr, 1) := by decide +kernel
theorem dX12_lay_20 : decode cX12_lay 20 = .ok (.i2b, 1) := by decide +kernel
theorem dX12_lay_21 : decode cX12_lay 21 = .ok (.bastore, 1) := by decide +kernel
theorem dX12_lay_22 : decode cX12_lay 22 = .ok (.aload_n 0, 1) := by decide +kernel
theorem dX12_lay_23 : decode cX12_lay 23 = .ok (.dup, 1) := by decide +kernel
theorem dX12_lay_24 : decode cX12_lay 24 = .ok (.getfield 220, 3) := by decide +kernel
theorem dX12_lay_27 : decode cX12_lay 27 = .ok (.iconst 1, 1) := by decide +kernel
theorem dX12_lay_28 : decode cX12_lay 28 = .ok (.iadd, 1) := by decide +kernel
theorem dX12_lay_29 : decode cX12_lay 29 = .ok (.putfield 220, 3) := by decide +kernel
theorem dX12_lay_32 : decode cX12_lay 32 = .ok (.iinc 2 (-1), 3) := by decide +kernel
theorem dX12_lay_35 : decode cX12_lay 35 = .ok (.goto (-33), 3) := by decide +kernel
theorem dX12_lay_38 : decode cX12_lay 38 = .ok (.return_, 1) := by decide +kernel
theorem dX12_starts_0 : decode cX12_starts 0 = .ok (.iload_n 1, 1) := by decide +kernel
theorem dX12_starts_1 : decode cX12_starts 1 = .ok (.ifCond .lt 16, 3) := by decide +kernel
theorem dX12_starts_4 : decode cX12_starts 4 = .ok (.iload_n 1, 1) := by decide +kernel
theorem dX12_starts_5 : decode cX12_starts 5 = .ok (.aload_n 0, 1) := by decide +kernel
theorem dX12_starts_6 : decode cX12_starts 6 = .ok (.getfield 220, 3) := by decide +kernel
theorem dX12_starts_9 : decode cX12_starts 9 = .ok (.if_icmp .gt 8, 3) := by decide +kernel
theorem dX12_starts_12 : decode cX12_starts 12 = .ok (.iload_n 1, 1) := by decide +kernel
theorem dX12_starts_13 : decode cX12_starts 13 = .ok (.iload_n 2, 1) := by decide +kernel
theorem dX12_starts_14 : decode cX12_starts 14 = .ok (.if_icmp .le 9, 3) := by decide +kernel
theorem dX12_starts_17 : decode cX12_starts 17 = .ok (.aload_n 0, 1) := by decide +kernel
theorem dX12_starts_18 : decode cX12_starts 18 = .ok (.iconst 5, 1) := by decide +kernel
theorem dX12_starts_19 : decode cX12_starts 19 = .ok (.invokevirtual 87, 3) := by decide +kernel
theorem dX12_starts_22 : decode cX12_starts 22 = .ok (.ireturn, 1) := by decide +kernel
theorem dX12_starts_23 : decode cX12_starts 23 = .ok (.aload_n 0, 1) := by decide +kernel
theorem dX12_starts_24 : decode cX12_starts 24 = .ok (.iload_n 1, 1) := by decide +kernel
theorem dX12_starts_25 : decode cX12_starts 25 = .ok (.putfield 111, 3) := by decide +kernel
theorem dX12_starts_28 : decode cX12_starts 28 = .ok (.aload_n 0, 1) := by decide +kernel
theorem dX12_starts_29 : decode cX12_starts 29 = .ok (.iconst 0, 1) := by decide +kernel
theorem dX12_starts_30 : decode cX12_starts 30 = .ok (.putfield 220, 3) := by decide +kernel
theorem dX12_starts_33 : decode cX12_starts 33 = .ok (.aload_n 0, 1) := by decide +kernel
theorem dX12_starts_34 : decode cX12_starts 34 = .ok (.iconst 0, 1) := by decide +kernel
theorem dX12_starts_35 : decode cX12_starts 35 = .ok (.putfield 114, 3) := by decide +kernel
theorem dX12_starts_38 : decode cX12_starts 38 = .ok (.aload_n 0, 1) := by decide +kernel
theorem dX12_starts_39 : decode cX12_starts 39 = .ok (.iconst 0, 1) := by decide +kernel
theorem dX12_starts_40 : decode cX12_starts 40 = .ok (.putfield 204, 3) := by decide +kernel
theorem dX12_starts_43 : decode cX12_starts 43 = .ok (.aload_n 0, 1) := by decide +kernel
theorem dX12_starts_44 : decode cX12_starts 44 = .ok (.invokevirtual 214, 3) := by decide +kernel
theorem dX12_starts_47 : decode cX12_starts 47 = .ok (.iconst 1, 1) := by decide +kernel
theorem dX12_starts_48 : decode cX12_starts 48 = .ok (.ireturn, 1) := by decide +kernel
theorem dX12_isWell_0 : decode cX12_isWell 0 = .ok (.aload_n 0, 1) := by decide +kernel
theorem dX12_isWell_1 : decode cX12_isWell 1 = .ok (.aload_n 0, 1) := by decide +kernel
theorem dX12_isWell_2 : decode cX12_isWell 2 = .ok (.getfield 204, 3) := by decide +kernel
theorem dX12_isWell_5 : decode cX12_isWell 5 = .ok (.putfield 28, 3) := by decide +kernel
theorem dX12_isWell_8 : decode cX12_isWell 8 = .ok (.aload_n 0, 1) := by decide +kernel
theorem dX12_isWell_9 : decode cX12_isWell 9 = .ok (.aload_n 0, 1) := by decide +kernel
theorem dX12_isWell_10 : decode cX12_isWell 10 = .ok (.getfield 204, 3) := by decide +kernel
theorem dX12_isWell_13 : decode cX12_isWell 13 = .ok (.ifCond .ne 7, 3) := by decide +kernel
theorem dX12_isWell_16 : decode cX12_isWell 16 = .ok (.iconst (-1), 1) := by decide +kernel
theorem dX12_isWell_17 : decode cX12_isWell 17 = .ok (.goto 7, 3) := by decide +kernel
theorem dX12_isWell_20 : decode cX12_isWell 20 = .ok (.aload_n 0, 1) := by decide +kernel
theorem dX12_isWell_21 : decode cX12_isWell 21 = .ok (.getfield 207, 3) := by decide +kernel
theorem dX12_isWell_24 : decode cX12_isWell 24 = .ok (.putfield 32, 3) := by decide +kernel
theorem dX12_isWell_27 : decode cX12_isWell 27 = .ok (.aload_n 0, 1) := by decide +kernel
theorem dX12_isWell_28 : decode cX12_isWell 28 = .ok (.getfield 204, 3) := by decide +kernel
theorem dX12_isWell_31 : decode cX12_isWell 31 = .ok (.ifCond .eq 12, 3) := by decide +kernel
theorem dX12_isWell_34 : decode cX12_isWell 34 = .ok (.aload_n 0, 1) := by decide +kernel
theorem dX12_isWell_35 : decode cX12_isWell 35 = .ok (.bipush 10, 2) := by decide +kernel
theorem dX12_isWell_37 : decode cX12_isWell 37 = .ok (.invokevirtual 87, 3) := by decide +kernel
theorem dX12_isWell_40 : decode cX12_isWell 40 = .ok (.ifCond .eq 7, 3) := by decide +kernel
theorem dX12_isWell_43 : decode cX12_isWell 43 = .ok (.iconst 1, 1) := by decide +kernel
theorem dX12_isWell_44 : decode cX12_isWell 44 = .ok (.goto 4, 3) := by decide +kernel
theorem dX12_isWell_47 : decode cX12_isWell 47 = .ok (.iconst 0, 1) := by decide +kernel
theorem dX12_isWell_48 : decode cX12_isWell 48 = .ok (.ireturn, 1) := by decide +kernel
theorem dX12_fault_0 : decode cX12_fault 0 = .ok (.aload_n 0, 1) := by decide +kernel
theorem dX12_fault_1 : decode cX12_fault 1 = .ok (.iconst 0, 1) := by decide +kernel
theorem dX12_fault_2 : decode cX12_fault 2 = .ok (.putfield 72, 3) := by decide +kernel
theorem dX12_fault_5 : decode cX12_fault 5 = .ok (.iload_n 1, 1) := by decide +kernel
theorem dX12_fault_6 : decode cX12_fault 6 = .ok (.ifCond .ne 10, 3) := by decide +kernel
theorem dX12_fault_9 : decode cX12_fault 9 = .ok (.aload_n 0, 1) := by decide +kernel
theorem dX12_fault_10 : decode cX12_fault 10 = .ok (.getfield 28, 3) := by decide +kernel
theorem dX12_fault_13 : decode cX12_fault 13 = .ok (.goto 16, 3) := by decide +kernel
theorem dX12_fault_16 : decode cX12_fault 16 = .ok (.iload_n 1, 1) := by decide +kernel
theorem dX12_fault_17 : decode cX12_fault 17 = .ok (.iconst 1, 1) := by decide +kernel
theorem dX12_fault_18 : decode cX12_fault 18 = .ok (.if_icmp .ne 10, 3) := by decide +kernel
theorem dX12_fault_21 : decode cX12_fault 21 = .ok (.aload_n 0, 1) := by decide +kernel
theorem dX12_fault_22 : decode cX12_fault 22 = .ok (.getfield 32, 3) := by decide +kernel
theorem dX12_fault_25 : decode cX12_fault 25 = .ok (.goto 4, 3) := by decide +kernel
theorem dX12_fault_28 : decode cX12_fault 28 = .ok (.iconst (-1), 1) := by decide +kernel
theorem dX12_fault_29 : decode cX12_fault 29 = .ok (.ireturn, 1) := by decide +kernel
theorem dX12_empties_0 : decode cX12_empties 0 = .ok (.sipush 400, 3) := by decide +kernel
theorem dX12_empties_3 : decode cX12_empties 3 = .ok (.iload_n 1, 1) := by decide +kernel
theorem dX12_empties_4 : decode cX12_empties 4 = .ok (.imul, 1) := by decide +kernel
theorem dX12_empties_5 : decode cX12_empties 5 = .ok (.istore_n 2, 1) := by decide +kernel
theorem dX12_empties_6 : decode cX12_empties 6 = .ok (.iconst 0, 1) := by decide +kernel
theorem dX12_empties_7 : decode cX12_empties 7 = .ok (.istore_n 3, 1) := by decide +kernel
theorem dX12_empties_8 : decode cX12_empties 8 = .ok (.iload_n 3, 1) := by decide +kernel
theorem dX12_empties_9 : decode cX12_empties 9 = .ok (.sipush 400, 3) := by decide +kernel
theorem dX12_empties_12 : decode cX12_empties 12 = .ok (.if_icmp .ge 18, 3) := by decide +kernel
theorem dX12_empties_15 : decode cX12_empties 15 = .ok (.aload_n 0, 1) := by decide +kernel
theorem dX12_empties_16 : decode cX12_empties 16 = .ok (.getfield 35, 3) := by decide +kernel
theorem dX12_empties_19 : decode cX12_empties 19 = .ok (.iload_n 2, 1) := by decide +kernel
theorem dX12_empties_20 : decode cX12_empties 20 = .ok (.iload_n 3, 1) := by decide +kernel
theorem dX12_empties_21 : decode cX12_empties 21 = .ok (.iadd, 1) := by decide +kernel
theorem dX12_empties_22 : decode cX12_empties 22 = .ok (.iconst 0, 1) := by decide +kernel
theorem dX12_empties_23 : decode cX12_empties 23 = .ok (.iastore, 1) := by decide +kernel
theorem dX12_empties_24 : decode cX12_empties 24 = .ok (.iinc 3 1, 3) := by decide +kernel
theorem dX12_empties_27 : decode cX12_empties 27 = .ok (.goto (-19), 3) := by decide +kernel
theorem dX12_empties_30 : decode cX12_empties 30 = .ok (.aload_n 0, 1) := by decide +kernel
theorem dX12_empties_31 : decode cX12_empties 31 = .ok (.getfield 35, 3) := by decide +kernel
theorem dX12_empties_34 : decode cX12_empties 34 = .ok (.iload_n 2, 1) := by decide +kernel
theorem dX12_empties_35 : decode cX12_empties 35 = .ok (.iconst 2, 1) := by decide +kernel
theorem dX12_empties_36 : decode cX12_empties 36 = .ok (.iadd, 1) := by decide +kernel
theorem dX12_empties_37 : decode cX12_empties 37 = .ok (.iconst 3, 1) := by decide +kernel
theorem dX12_empties_38 : decode cX12_empties 38 = .ok (.iastore, 1) := by decide +kernel
theorem dX12_empties_39 : decode cX12_empties 39 = .ok (.aload_n 0, 1) := by decide +kernel
theorem dX12_empties_40 : decode cX12_empties 40 = .ok (.getfield 35, 3) := by decide +kernel
theorem dX12_empties_43 : decode cX12_empties 43 = .ok (.iload_n 2, 1) := by decide +kernel
theorem dX12_empties_44 : decode cX12_empties 44 = .ok (.iconst 3, 1) := by decide +kernel
theorem dX12_empties_45 : decode cX12_empties 45 = .ok (.iadd, 1) := by decide +kernel
theorem dX12_empties_46 : decode cX12_empties 46 = .ok (.iconst 2, 1) := by decide +kernel
theorem dX12_empties_47 : decode cX12_empties 47 = .ok (.iastore, 1) := by decide +kernel
theorem dX12_empties_48 : decode cX12_empties 48 = .ok (.aload_n 0, 1) := by decide +kernel
theorem dX12_empties_49 : decode cX12_empties 49 = .ok (.getfield 35, 3) := by decide +kernel
theorem dX12_empties_52 : decode cX12_empties 52 = .ok (.iload_n 2, 1) := by decide +kernel
theorem dX12_empties_53 : decode cX12_empties 53 = .ok (.iconst 4, 1) := by decide +kernel
theorem dX12_empties_54 : decode cX12_empties 54 = .ok (.iadd, 1) := by decide +kernel
theorem dX12_empties_55 : decode cX12_empties 55 = .ok (.iconst 2, 1) := by decide +kernel
theorem dX12_empties_56 : decode cX12_empties 56 = .ok (.iastore, 1) := by decide +kernel
theorem dX12_empties_57 : decode cX12_empties 57 = .ok (.return_, 1) := by decide +kernel
theorem dX12_named_0 : decode cX12_named 0 = .ok (.iconst 0, 1) := by decide +kernel
theorem dX12_named_1 : decode cX12_named 1 = .ok (.istore_n 2, 1) := by decide +kernel
theorem dX12_named_2 : decode cX12_named 2 = .ok (.iload_n 2, 1) := by decide +kernel
theorem dX12_named_3 : decode cX12_named 3 = .ok (.aload_n 0, 1) := by decide +kernel
theorem dX12_named_4 : decode cX12_named 4 = .ok (.getfield 35, 3) := by decide +kernel
theorem dX12_named_7 : decode cX12_named 7 = .ok (.sipush 400, 3) := by decide +kernel
theorem dX12_named_10 : decode cX12_named 10 = .ok (.iload_n 1, 1) := by decide +kernel
theorem dX12_named_11 : decode cX12_named 11 = .ok (.imul, 1) := by decide +kernel
theorem dX12_named_12 : decode cX12_named 12 = .ok (.iaload, 1) := by decide +kernel
theorem dX12_named_13 : decode cX12_named 13 = .ok (.if_icmp .ge 29, 3) := by decide +kernel
theorem dX12_named_16 : decode cX12_named 16 = .ok (.aload_n 0, 1) := by decide +kernel
theorem dX12_named_17 : decode cX12_named 17 = .ok (.getfield 44, 3) := by decide +kernel
theorem dX12_named_20 : decode cX12_named 20 = .ok (.iconst 5, 1) := by decide +kernel
theorem dX12_named_21 : decode cX12_named 21 = .ok (.iload_n 1, 1) := by decide +kernel
theorem dX12_named_22 : decode cX12_named 22 = .ok (.imul, 1) := by decide +kernel
theorem dX12_named_23 : decode cX12_named 23 = .ok (.iload_n 2, 1) := by decide +kernel
theorem dX12_named_24 : decode cX12_named 24 = .ok (.iadd, 1) := by decide +kernel
theorem dX12_named_25 : decode cX12_named 25 = .ok (.laload, 1) := by decide +kernel
theorem dX12_named_26 : decode cX12_named 26 = .ok (.aload_n 0, 1) := by decide +kernel
theorem dX12_named_27 : decode cX12_named 27 = .ok (.getfield 129, 3) := by decide +kernel
theorem dX12_named_30 : decode cX12_named 30 = .ok (.lcmp, 1) := by decide +kernel
theorem dX12_named_31 : decode cX12_named 31 = .ok (.ifCond .ne 5, 3) := by decide +kernel
theorem dX12_named_34 : decode cX12_named 34 = .ok (.iload_n 2, 1) := by decide +kernel
theorem dX12_named_35 : decode cX12_named 35 = .ok (.ireturn, 1) := by decide +kernel
theorem dX12_named_36 : decode cX12_named 36 = .ok (.iinc 2 1, 3) := by decide +kernel
theorem dX12_named_39 : decode cX12_named 39 = .ok (.goto (-37), 3) := by decide +kernel
theorem dX12_named_42 : decode cX12_named 42 = .ok (.iconst (-1), 1) := by decide +kernel
theorem dX12_named_43 : decode cX12_named 43 = .ok (.ireturn, 1) := by decide +kernel
theorem dX12_readTold_0 : decode cX12_readTold 0 = .ok (.aload_n 0, 1) := by decide +kernel
theorem dX12_readTold_1 : decode cX12_readTold 1 = .ok (.getfield 204, 3) := by decide +kernel
theorem dX12_readTold_4 : decode cX12_readTold 4 = .ok (.ifCond .ne 14, 3) := by decide +kernel
theorem dX12_readTold_7 : decode cX12_readTold 7 = .ok (.aload_n 0, 1) := by decide +kernel
theorem dX12_readTold_8 : decode cX12_readTold 8 = .ok (.invokevirtual 226, 3) := by decide +kernel
theorem dX12_readTold_11 : decode cX12_readTold 11 = .ok (.ifCond .ne 7, 3) := by decide +kernel
theorem dX12_readTold_14 : decode cX12_readTold 14 = .ok (.aload_n 0, 1) := by decide +kernel
theorem dX12_readTold_15 : decode cX12_readTold 15 = .ok (.invokevirtual 217, 3) := by decide +kernel
theorem dX12_readTold_18 : decode cX12_readTold 18 = .ok (.aload_n 0, 1) := by decide +kernel
theorem dX12_readTold_19 : decode cX12_readTold 19 = .ok (.getfield 204, 3) := by decide +kernel
theorem dX12_readTold_22 : decode cX12_readTold 22 = .ok (.ifCond .le 5, 3) := by decide +kernel
theorem dX12_readTold_25 : decode cX12_readTold 25 = .ok (.iconst 0, 1) := by decide +kernel
theorem dX12_readTold_26 : decode cX12_readTold 26 = .ok (.ireturn, 1) := by decide +kernel
theorem dX12_readTold_27 : decode cX12_readTold 27 = .ok (.aload_n 0, 1) := by decide +kernel
theorem dX12_readTold_28 : decode cX12_readTold 28 = .ok (.iload_n 1, 1) := by decide +kernel
theorem dX12_readTold_29 : decode cX12_readTold 29 = .ok (.invokevirtual 229, 3) := by decide +kernel
theorem dX12_readTold_32 : decode cX12_readTold 32 = .ok (.istore_n 2, 1) := by decide +kernel
theorem dX12_readTold_33 : decode cX12_readTold 33 = .ok (.iload_n 2, 1) := by decide +kernel
theorem dX12_readTold_34 : decode cX12_readTold 34 = .ok (.ifCond .ge 12, 3) := by decide +kernel
theorem dX12_readTold_37 : decode cX12_readTold 37 = .ok (.aload_n 0, 1) := by decide +kernel
theorem dX12_readTold_38 : decode cX12_readTold 38 = .ok (.iconst 3, 1) := by decide +kernel
theorem dX12_readTold_39 : decode cX12_readTold 39 = .ok (.aload_n 0, 1) := by decide +kernel
theorem dX12_readTold_40 : decode cX12_readTold 40 = .ok (.getfield 117, 3) := by decide +kernel
theorem dX12_readTold_43 : decode cX12_readTold 43 = .ok (.invokevirtual 210, 3) := by decide +kernel
theorem dX12_readTold_46 : decode cX12_readTold 46 = .ok (.aload_n 0, 1) := by decide +kernel
theorem dX12_readTold_47 : decode cX12_readTold 47 = .ok (.iconst 1, 1) := by decide +kernel
theorem dX12_readTold_48 : decode cX12_readTold 48 = .ok (.invokevirtual 232, 3) := by decide +kernel
theorem dX12_readTold_51 : decode cX12_readTold 51 = .ok (.iconst 0, 1) := by decide +kernel
theorem dX12_readTold_52 : decode cX12_readTold 52 = .ok (.iload_n 2, 1) := by decide +kernel
theorem dX12_readTold_53 : decode cX12_readTold 53 = .ok (.invokestatic 236, 3) := by decide +kernel
theorem dX12_readTold_56 : decode cX12_readTold 56 = .ok (.ireturn, 1) := by decide +kernel
theorem dX12_readOnce_0 : decode cX12_readOnce 0 = .ok (.aload_n 0, 1) := by decide +kernel
theorem dX12_readOnce_1 : decode cX12_readOnce 1 = .ok (.getfield 239, 3) := by decide +kernel
theorem dX12_readOnce_4 : decode cX12_readOnce 4 = .ok (.iload_n 1, 1) := by decide +kernel
theorem dX12_readOnce_5 : decode cX12_readOnce 5 = .ok (.invokestatic 242, 3) := by decide +kernel
theorem dX12_readOnce_8 : decode cX12_readOnce 8 = .ok (.ifCond .ne 19, 3) := by decide +kernel
theorem dX12_readOnce_11 : decode cX12_readOnce 11 = .ok (.iload_n 1, 1) := by decide +kernel
theorem dX12_readOnce_12 : decode cX12_readOnce 12 = .ok (.iconst 2, 1) := by decide +kernel
theorem dX12_readOnce_13 : decode cX12_readOnce 13 = .ok (.if_icmp .ne 23, 3) := by decide +kernel
theorem dX12_readOnce_16 : decode cX12_readOnce 16 = .ok (.aload_n 0, 1) := by decide +kernel
theorem dX12_readOnce_17 : decode cX12_readOnce 17 = .ok (.getfield 35, 3) := by decide +kernel
theorem dX12_readOnce_20 : decode cX12_readOnce 20 = .ok (.sipush 1600, 3) := by decide +kernel
theorem dX12_readOnce_23 : decode cX12_readOnce 23 = .ok (.iaload, 1) := by decide +kernel
theorem dX12_readOnce_24 : decode cX12_readOnce 24 = .ok (.ifCond .le 12, 3) := by decide +kernel
theorem dX12_readOnce_27 : decode cX12_readOnce 27 = .ok (.aload_n 0, 1) := by decide +kernel
theorem dX12_readOnce_28 : decode cX12_readOnce 28 = .ok (.iconst 5, 1) := by decide +kernel
theorem dX12_readOnce_29 : decode cX12_readOnce 29 = .ok (.aload_n 0, 1) := by decide +kernel
theorem dX12_readOnce_30 : decode cX12_readOnce 30 = .ok (.getfield 117, 3) := by decide +kernel
theorem dX12_readOnce_33 : decode cX12_readOnce 33 = .ok (.invokevirtual 210, 3) := by decide +kernel
theorem dX12_readOnce_36 : decode cX12_readOnce 36 = .ok (.aload_n 0, 1) := by decide +kernel
theorem dX12_readOnce_37 : decode cX12_readOnce 37 = .ok (.getfield 204, 3) := by decide +kernel
theorem dX12_readOnce_40 : decode cX12_readOnce 40 = .ok (.ifCond .le 4, 3) := by decide +kernel
theorem dX12_readOnce_43 : decode cX12_readOnce 43 = .ok (.return_, 1) := by decide +kernel
theorem dX12_readOnce_44 : decode cX12_readOnce 44 = .ok (.aload_n 0, 1) := by decide +kernel
theorem dX12_readOnce_45 : decode cX12_readOnce 45 = .ok (.dup, 1) := by decide +kernel
theorem dX12_readOnce_46 : decode cX12_readOnce 46 = .ok (.getfield 239, 3) := by decide +kernel
theorem dX12_readOnce_49 : decode cX12_readOnce 49 = .ok (.iconst 1, 1) := by decide +kernel
theorem dX12_readOnce_50 : decode cX12_readOnce 50 = .ok (.iload_n 1, 1) := by decide +kernel
theorem dX12_readOnce_51 : decode cX12_readOnce 51 = .ok (.ishl, 1) := by decide +kernel
theorem dX12_readOnce_52 : decode cX12_readOnce 52 = .ok (.ior, 1) := by decide +kernel
theorem dX12_readOnce_53 : decode cX12_readOnce 53 = .ok (.putfield 239, 3) := by decide +kernel
theorem dX12_readOnce_56 : decode cX12_readOnce 56 = .ok (.aload_n 0, 1) := by decide +kernel
theorem dX12_readOnce_57 : decode cX12_readOnce 57 = .ok (.invokevirtual 214, 3) := by decide +kernel
theorem dX12_readOnce_60 : decode cX12_readOnce 60 = .ok (.aload_n 0, 1) := by decide +kernel
theorem dX12_readOnce_61 : decode cX12_readOnce 61 = .ok (.getfield 35, 3) := by decide +kernel
theorem dX12_readOnce_64 : decode cX12_readOnce 64 = .ok (.sipush 1600, 3) := by decide +kernel
theorem dX12_readOnce_67 : decode cX12_readOnce 67 = .ok (.iload_n 1, 1) := by decide +kernel
theorem dX12_readOnce_68 : decode cX12_readOnce 68 = .ok (.iadd, 1) := by decide +kernel
theorem dX12_readOnce_69 : decode cX12_readOnce 69 = .ok (.aload_n 0, 1) := by decide +kernel
theorem dX12_readOnce_70 : decode cX12_readOnce 70 = .ok (.iload_n 2, 1) := by decide +kernel
theorem dX12_readOnce_71 : decode cX12_readOnce 71 = .ok (.iload_n 3, 1) := by decide +kernel
theorem dX12_readOnce_72 : decode cX12_readOnce 72 = .ok (.invokevirtual 246, 3) := by decide +kernel
theorem dX12_readOnce_75 : decode cX12_readOnce 75 = .ok (.iastore, 1) := by decide +kernel
theorem dX12_readOnce_76 : decode cX12_readOnce 76 = .ok (.return_, 1) := by decide +kernel
theorem dX12_readAccount_0 : decode cX12_readAccount 0 = .ok (.aload_n 0, 1) := by decide +kernel
theorem dX12_readAccount_1 : decode cX12_readAccount 1 = .ok (.getfield 35, 3) := by decide +kernel
theorem dX12_readAccount_4 : decode cX12_readAccount 4 = .ok (.sipush 1600, 3) := by decide +kernel
theorem dX12_readAccount_7 : decode cX12_readAccount 7 = .ok (.iaload, 1) := by decide +kernel
theorem dX12_readAccount_8 : decode cX12_readAccount 8 = .ok (.istore_n 1, 1) := by decide +kernel
theorem dX12_readAccount_9 : decode cX12_readAccount 9 = .ok (.iload_n 1, 1) := by decide +kernel
theorem dX12_readAccount_10 : decode cX12_readAccount 10 = .ok (.iconst 5, 1) := by decide +kernel
theorem dX12_readAccount_11 : decode cX12_readAccount 11 = .ok (.if_icmp .ne 13, 3) := by decide +kernel
theorem dX12_readAccount_14 : decode cX12_readAccount 14 = .ok (.aload_n 0, 1) := by decide +kernel
theorem dX12_readAccount_15 : decode cX12_readAccount 15 = .ok (.bipush 6, 2) := by decide +kernel
theorem dX12_readAccount_17 : decode cX12_readAccount 17 = .ok (.aload_n 0, 1) := by decide +kernel
theorem dX12_readAccount_18 : decode cX12_readAccount 18 = .ok (.getfield 117, 3) := by decide +kernel
theorem dX12_readAccount_21 : decode cX12_readAccount 21 = .ok (.invokevirtual 210, 3) := by decide +kernel
theorem dX12_readAccount_24 : decode cX12_readAccount 24 = .ok (.aload_n 0, 1) := by decide +kernel
theorem dX12_readAccount_25 : decode cX12_readAccount 25 = .ok (.getfield 204, 3) := by decide +kernel
theorem dX12_readAccount_28 : decode cX12_readAccount 28 = .ok (.ifCond .le 4, 3) := by decide +kernel
theorem dX12_readAccount_31 : decode cX12_readAccount 31 = .ok (.return_, 1) := by decide +kernel
theorem dX12_readAccount_32 : decode cX12_readAccount 32 = .ok (.aload_n 0, 1) := by decide +kernel
theorem dX12_readAccount_33 : decode cX12_readAccount 33 = .ok (.invokevirtual 214, 3) := by decide +kernel
theorem dX12_readAccount_36 : decode cX12_readAccount 36 = .ok (.aload_n 0, 1) := by decide +kernel
theorem dX12_readAccount_37 : decode cX12_readAccount 37 = .ok (.invokevirtual 226, 3) := by decide +kernel
theorem dX12_readAccount_40 : decode cX12_readAccount 40 = .ok (.ifCond .ne 7, 3) := by decide +kernel
theorem dX12_readAccount_43 : decode cX12_readAccount 43 = .ok (.aload_n 0, 1) := by decide +kernel
theorem dX12_readAccount_44 : decode cX12_readAccount 44 = .ok (.invokevirtual 217, 3) := by decide +kernel
theorem dX12_readAccount_47 : decode cX12_readAccount 47 = .ok (.aload_n 0, 1) := by decide +kernel
theorem dX12_readAccount_48 : decode cX12_readAccount 48 = .ok (.getfield 204, 3) := by decide +kernel
theorem dX12_readAccount_51 : decode cX12_readAccount 51 = .ok (.ifCond .ne 20, 3) := by decide +kernel
theorem dX12_readAccount_54 : decode cX12_readAccount 54 = .ok (.aload_n 0, 1) := by decide +kernel
theorem dX12_readAccount_55 : decode cX12_readAccount 55 = .ok (.iconst 4, 1) := by decide +kernel
theorem dX12_readAccount_56 : decode cX12_readAccount 56 = .ok (.invokevirtual 229, 3) := by decide +kernel
theorem dX12_readAccount_59 : decode cX12_readAccount 59 = .ok (.ifCond .lt 12, 3) := by decide +kernel
theorem dX12_readAccount_62 : decode cX12_readAccount 62 = .ok (.aload_n 0, 1) := by decide +kernel
theorem dX12_readAccount_63 : decode cX12_readAccount 63 = .ok (.iconst 3, 1) := by decide +kernel
theorem dX12_readAccount_64 : decode cX12_readAccount 64 = .ok (.aload_n 0, 1) := by decide +kernel
theorem dX12_readAccount_65 : decode cX12_readAccount 65 = .ok (.getfield 117, 3) := by decide +kernel
theorem dX12_readAccount_68 : decode cX12_readAccount 68 = .ok (.invokevirtual 210, 3) := by decide +kernel
theorem dX12_readAccount_71 : decode cX12_readAccount 71 = .ok (.aload_n 0, 1) := by decide +kernel
theorem dX12_readAccount_72 : decode cX12_readAccount 72 = .ok (.getfield 204, 3) := by decide +kernel
theorem dX12_readAccount_75 : decode cX12_readAccount 75 = .ok (.ifCond .le 4, 3) := by decide +kernel
theorem dX12_readAccount_78 : decode cX12_readAccount 78 = .ok (.return_, 1) := by decide +kernel
theorem dX12_readAccount_79 : decode cX12_readAccount 79 = .ok (.aload_n 0, 1) := by decide +kernel
theorem dX12_readAccount_80 : decode cX12_readAccount 80 = .ok (.getfield 44, 3) := by decide +kernel
theorem dX12_readAccount_83 : decode cX12_readAccount 83 = .ok (.bipush 20, 2) := by decide +kernel
theorem dX12_readAccount_85 : decode cX12_readAccount 85 = .ok (.iload_n 1, 1) := by decide +kernel
theorem dX12_readAccount_86 : decode cX12_readAccount 86 = .ok (.iadd, 1) := by decide +kernel
theorem dX12_readAccount_87 : decode cX12_readAccount 87 = .ok (.aload_n 0, 1) := by decide +kernel
theorem dX12_readAccount_88 : decode cX12_readAccount 88 = .ok (.getfield 129, 3) := by decide +kernel
theorem dX12_readAccount_91 : decode cX12_readAccount 91 = .ok (.lastore, 1) := by decide +kernel
theorem dX12_readAccount_92 : decode cX12_readAccount 92 = .ok (.aload_n 0, 1) := by decide +kernel
theorem dX12_readAccount_93 : decode cX12_readAccount 93 = .ok (.invokevirtual 214, 3) := by decide +kernel
theorem dX12_readAccount_96 : decode cX12_readAccount 96 = .ok (.aload_n 0, 1) := by decide +kernel
theorem dX12_readAccount_97 : decode cX12_readAccount 97 = .ok (.invokevirtual 186, 3) := by decide +kernel
theorem dX12_readAccount_100 : decode cX12_readAccount 100 = .ok (.istore_n 2, 1) := by decide +kernel
theorem dX12_readAccount_101 : decode cX12_readAccount 101 = .ok (.aload_n 0, 1) := by decide +kernel
theorem dX12_readAccount_102 : decode cX12_readAccount 102 = .ok (.iload_n 2, 1) := by decide +kernel
theorem dX12_readAccount_103 : decode cX12_readAccount 103 = .ok (.ifCond .lt 7, 3) := by decide +kernel
theorem dX12_readAccount_106 : decode cX12_readAccount 106 = .ok (.iconst 1, 1) := by decide +kernel
theorem dX12_readAccount_107 : decode cX12_readAccount 107 = .ok (.goto 4, 3) := by decide +kernel
theorem dX12_readAccount_110 : decode cX12_readAccount 110 = .ok (.iconst 0, 1) := by decide +kernel
theorem dX12_readAccount_111 : decode cX12_readAccount 111 = .ok (.invokevirtual 232, 3) := by decide +kernel
theorem dX12_readAccount_114 : decode cX12_readAccount 114 = .ok (.aload_n 0, 1) := by decide +kernel
theorem dX12_readAccount_115 : decode cX12_readAccount 115 = .ok (.getfield 35, 3) := by decide +kernel
theorem dX12_readAccount_118 : decode cX12_readAccount 118 = .ok (.sipush 1602, 3) := by decide +kernel
theorem dX12_readAccount_121 : decode cX12_readAccount 121 = .ok (.iaload, 1) := by decide +kernel
theorem dX12_readAccount_122 : decode cX12_readAccount 122 = .ok (.istore_n 3, 1) := by decide +kernel
theorem dX12_readAccount_123 : decode cX12_readAccount 123 = .ok (.iconst 0, 1) := by decide +kernel
theorem dX12_readAccount_124 : decode cX12_readAccount 124 = .ok (.istore 4, 2) := by decide +kernel
theorem dX12_readAccount_126 : decode cX12_readAccount 126 = .ok (.aload_n 0, 1) := by decide +kernel
theorem dX12_readAccount_127 : decode cX12_readAccount 127 = .ok (.getfield 204, 3) := by decide +kernel
theorem dX12_readAccount_130 : decode cX12_readAccount 130 = .ok (.ifCond .ne 95, 3) := by decide +kernel
theorem dX12_readAccount_133 : decode cX12_readAccount 133 = .ok (.aload_n 0, 1) := by decide +kernel
theorem dX12_readAccount_134 : decode cX12_readAccount 134 = .ok (.getfield 123, 3) := by decide +kernel
theorem dX12_readAccount_137 : decode cX12_readAccount 137 = .ok (.iconst 2, 1) := by decide +kernel
theorem dX12_readAccount_138 : decode cX12_readAccount 138 = .ok (.if_icmp .ne 87, 3) := by decide +kernel
theorem dX12_readAccount_141 : decode cX12_readAccount 141 = .ok (.aload_n 0, 1) := by decide +kernel
theorem dX12_readAccount_142 : decode cX12_readAccount 142 = .ok (.getfield 142, 3) := by decide +kernel
theorem dX12_readAccount_145 : decode cX12_readAccount 145 = .ok (.i2l, 1) := by decide +kernel
theorem dX12_readAccount_146 : decode cX12_readAccount 146 = .ok (.lconst 0, 1) := by decide +kernel
theorem dX12_readAccount_147 : decode cX12_readAccount 147 = .ok (.ldc2_w 249, 3) := by decide +kernel
theorem dX12_readAccount_150 : decode cX12_readAccount 150 = .ok (.invokestatic 107, 3) := by decide +kernel
theorem dX12_readAccount_153 : decode cX12_readAccount 153 = .ok (.ifCond .ne 12, 3) := by decide +kernel
theorem dX12_readAccount_156 : decode cX12_readAccount 156 = .ok (.aload_n 0, 1) := by decide +kernel
theorem dX12_readAccount_157 : decode cX12_readAccount 157 = .ok (.iconst 4, 1) := by decide +kernel
theorem dX12_readAccount_158 : decode cX12_readAccount 158 = .ok (.aload_n 0, 1) := by decide +kernel
theorem dX12_readAccount_159 : decode cX12_readAccount 159 = .ok (.getfield 117, 3) := by decide +kernel
theorem dX12_readAccount_162 : decode cX12_readAccount 162 = .ok (.invokevirtual 210, 3) := by decide +kernel
theorem dX12_readAccount_165 : decode cX12_readAccount 165 = .ok (.aload_n 0, 1) := by decide +kernel
theorem dX12_readAccount_166 : decode cX12_readAccount 166 = .ok (.getfield 204, 3) := by decide +kernel
theorem dX12_readAccount_169 : decode cX12_readAccount 169 = .ok (.ifCond .ne 19, 3) := by decide +kernel
theorem dX12_readAccount_172 : decode cX12_readAccount 172 = .ok (.iload 4, 2) := by decide +kernel
theorem dX12_readAccount_174 : decode cX12_readAccount 174 = .ok (.iload_n 3, 1) := by decide +kernel
theorem dX12_readAccount_175 : decode cX12_readAccount 175 = .ok (.if_icmp .ne 13, 3) := by decide +kernel
theorem dX12_readAccount_178 : decode cX12_readAccount 178 = .ok (.aload_n 0, 1) := by decide +kernel
theorem dX12_readAccount_179 : decode cX12_readAccount 179 = .ok (.bipush 6, 2) := by decide +kernel
theorem dX12_readAccount_181 : decode cX12_readAccount 181 = .ok (.aload_n 0, 1) := by decide +kernel
theorem dX12_readAccount_182 : decode cX12_readAccount 182 = .ok (.getfield 117, 3) := by decide +kernel
theorem dX12_readAccount_185 : decode cX12_readAccount 185 = .ok (.invokevirtual 210, 3) := by decide +kernel
theorem dX12_readAccount_188 : decode cX12_readAccount 188 = .ok (.aload_n 0, 1) := by decide +kernel
theorem dX12_readAccount_189 : decode cX12_readAccount 189 = .ok (.getfield 204, 3) := by decide +kernel
theorem dX12_readAccount_192 : decode cX12_readAccount 192 = .ok (.ifCond .le 4, 3) := by decide +kernel
theorem dX12_readAccount_195 : decode cX12_readAccount 195 = .ok (.return_, 1) := by decide +kernel
theorem dX12_readAccount_196 : decode cX12_readAccount 196 = .ok (.aload_n 0, 1) := by decide +kernel
theorem dX12_readAccount_197 : decode cX12_readAccount 197 = .ok (.getfield 35, 3) := by decide +kernel
theorem dX12_readAccount_200 : decode cX12_readAccount 200 = .ok (.sipush 1613, 3) := by decide +kernel
theorem dX12_readAccount_203 : decode cX12_readAccount 203 = .ok (.iload_n 3, 1) := by decide +kernel
theorem dX12_readAccount_204 : decode cX12_readAccount 204 = .ok (.iload_n 1, 1) := by decide +kernel
theorem dX12_readAccount_205 : decode cX12_readAccount 205 = .ok (.imul, 1) := by decide +kernel
theorem dX12_readAccount_206 : decode cX12_readAccount 206 = .ok (.iadd, 1) := by decide +kernel
theorem dX12_readAccount_207 : decode cX12_readAccount 207 = .ok (.iload 4, 2) := by decide +kernel
theorem dX12_readAccount_209 : decode cX12_readAccount 209 = .ok (.iadd, 1) := by decide +kernel
theorem dX12_readAccount_210 : decode cX12_readAccount 210 = .ok (.aload_n 0, 1) := by decide +kernel
theorem dX12_readAccount_211 : decode cX12_readAccount 211 = .ok (.getfield 142, 3) := by decide +kernel
theorem dX12_readAccount_214 : decode cX12_readAccount 214 = .ok (.iastore, 1) := by decide +kernel
theorem dX12_readAccount_215 : decode cX12_readAccount 215 = .ok (.aload_n 0, 1) := by decide +kernel
theorem dX12_readAccount_216 : decode cX12_readAccount 216 = .ok (.invokevirtual 214, 3) := by decide +kernel
theorem dX12_readAccount_219 : decode cX12_readAccount 219 = .ok (.iinc 4 1, 3) := by decide +kernel
theorem dX12_readAccount_222 : decode cX12_readAccount 222 = .ok (.goto (-96), 3) := by decide +kernel
theorem dX12_readAccount_225 : decode cX12_readAccount 225 = .ok (.aload_n 0, 1) := by decide +kernel
theorem dX12_readAccount_226 : decode cX12_readAccount 226 = .ok (.getfield 204, 3) := by decide +kernel
theorem dX12_readAccount_229 : decode cX12_readAccount 229 = .ok (.ifCond .le 4, 3) := by decide +kernel
theorem dX12_readAccount_232 : decode cX12_readAccount 232 = .ok (.return_, 1) := by decide +kernel
theorem dX12_readAccount_233 : decode cX12_readAccount 233 = .ok (.aload_n 0, 1) := by decide +kernel
theorem dX12_readAccount_234 : decode cX12_readAccount 234 = .ok (.getfield 35, 3) := by decide +kernel
theorem dX12_readAccount_237 : decode cX12_readAccount 237 = .ok (.sipush 1608, 3) := by decide +kernel
theorem dX12_readAccount_240 : decode cX12_readAccount 240 = .ok (.iload_n 1, 1) := by decide +kernel
theorem dX12_readAccount_241 : decode cX12_readAccount 241 = .ok (.iadd, 1) := by decide +kernel
theorem dX12_readAccount_242 : decode cX12_readAccount 242 = .ok (.iload_n 2, 1) := by decide +kernel
theorem dX12_readAccount_243 : decode cX12_readAccount 243 = .ok (.iastore, 1) := by decide +kernel
theorem dX12_readAccount_244 : decode cX12_readAccount 244 = .ok (.aload_n 0, 1) := by decide +kernel
theorem dX12_readAccount_245 : decode cX12_readAccount 245 = .ok (.getfield 35, 3) := by decide +kernel
theorem dX12_readAccount_248 : decode cX12_readAccount 248 = .ok (.sipush 1600, 3) := by decide +kernel
theorem dX12_readAccount_251 : decode cX12_readAccount 251 = .ok (.dup2, 1) := by decide +kernel
theorem dX12_readAccount_252 : decode cX12_readAccount 252 = .ok (.iaload, 1) := by decide +kernel
theorem dX12_readAccount_253 : decode cX12_readAccount 253 = .ok (.iconst 1, 1) := by decide +kernel
theorem dX12_readAccount_254 : decode cX12_readAccount 254 = .ok (.iadd, 1) := by decide +kernel
theorem dX12_readAccount_255 : decode cX12_readAccount 255 = .ok (.iastore, 1) := by decide +kernel
theorem dX12_readAccount_256 : decode cX12_readAccount 256 = .ok (.return_, 1) := by decide +kernel
theorem dX12_readLaw_0 : decode cX12_readLaw 0 = .ok (.aload_n 0, 1) := by decide +kernel
theorem dX12_readLaw_1 : decode cX12_readLaw 1 = .ok (.getfield 35, 3) := by decide +kernel
theorem dX12_readLaw_4 : decode cX12_readLaw 4 = .ok (.sipush 1601, 3) := by decide +kernel
theorem dX12_readLaw_7 : decode cX12_readLaw 7 = .ok (.iaload, 1) := by decide +kernel
theorem dX12_readLaw_8 : decode cX12_readLaw 8 = .ok (.istore_n 1, 1) := by decide +kernel
theorem dX12_readLaw_9 : decode cX12_readLaw 9 = .ok (.iload_n 1, 1) := by decide +kernel
theorem dX12_readLaw_10 : decode cX12_readLaw 10 = .ok (.bipush 10, 2) := by decide +kernel
theorem dX12_readLaw_12 : decode cX12_readLaw 12 = .ok (.if_icmp .ne 13, 3) := by decide +kernel
theorem dX12_readLaw_15 : decode cX12_readLaw 15 = .ok (.aload_n 0, 1) := by decide +kernel
theorem dX12_readLaw_16 : decode cX12_readLaw 16 = .ok (.bipush 6, 2) := by decide +kernel
theorem dX12_readLaw_18 : decode cX12_readLaw 18 = .ok (.aload_n 0, 1) := by decide +kernel
theorem dX12_readLaw_19 : decode cX12_readLaw 19 = .ok (.getfield 117, 3) := by decide +kernel
theorem dX12_readLaw_22 : decode cX12_readLaw 22 = .ok (.invokevirtual 210, 3) := by decide +kernel
theorem dX12_readLaw_25 : decode cX12_readLaw 25 = .ok (.aload_n 0, 1) := by decide +kernel
theorem dX12_readLaw_26 : decode cX12_readLaw 26 = .ok (.getfield 204, 3) := by decide +kernel
theorem dX12_readLaw_29 : decode cX12_readLaw 29 = .ok (.ifCond .le 4, 3) := by decide +kernel
theorem dX12_readLaw_32 : decode cX12_readLaw 32 = .ok (.return_, 1) := by decide +kernel
theorem dX12_readLaw_33 : decode cX12_readLaw 33 = .ok (.aload_n 0, 1) := by decide +kernel
theorem dX12_readLaw_34 : decode cX12_readLaw 34 = .ok (.invokevirtual 214, 3) := by decide +kernel
theorem dX12_readLaw_37 : decode cX12_readLaw 37 = .ok (.aload_n 0, 1) := by decide +kernel
theorem dX12_readLaw_38 : decode cX12_readLaw 38 = .ok (.iconst 0, 1) := by decide +kernel
theorem dX12_readLaw_39 : decode cX12_readLaw 39 = .ok (.bipush 9, 2) := by decide +kernel
theorem dX12_readLaw_41 : decode cX12_readLaw 41 = .ok (.invokevirtual 246, 3) := by decide +kernel
theorem dX12_readLaw_44 : decode cX12_readLaw 44 = .ok (.istore_n 2, 1) := by decide +kernel
theorem dX12_readLaw_45 : decode cX12_readLaw 45 = .ok (.aload_n 0, 1) := by decide +kernel
theorem dX12_readLaw_46 : decode cX12_readLaw 46 = .ok (.aload_n 0, 1) := by decide +kernel
theorem dX12_readLaw_47 : decode cX12_readLaw 47 = .ok (.invokevirtual 180, 3) := by decide +kernel
theorem dX12_readLaw_50 : decode cX12_readLaw 50 = .ok (.invokevirtual 232, 3) := by decide +kernel
theorem dX12_readLaw_53 : decode cX12_readLaw 53 = .ok (.aload_n 0, 1) := by decide +kernel
theorem dX12_readLaw_54 : decode cX12_readLaw 54 = .ok (.iconst 0, 1) := by decide +kernel
theorem dX12_readLaw_55 : decode cX12_readLaw 55 = .ok (.bipush 9, 2) := by decide +kernel
theorem dX12_readLaw_57 : decode cX12_readLaw 57 = .ok (.invokevirtual 246, 3) := by decide +kernel
theorem dX12_readLaw_60 : decode cX12_readLaw 60 = .ok (.istore_n 3, 1) := by decide +kernel
theorem dX12_readLaw_61 : decode cX12_readLaw 61 = .ok (.aload_n 0, 1) := by decide +kernel
theorem dX12_readLaw_62 : decode cX12_readLaw 62 = .ok (.getfield 204, 3) := by decide +kernel
theorem dX12_readLaw_65 : decode cX12_readLaw 65 = .ok (.ifCond .ne 17, 3) := by decide +kernel
theorem dX12_readLaw_68 : decode cX12_readLaw 68 = .ok (.aload_n 0, 1) := by decide +kernel
theorem dX12_readLaw_69 : decode cX12_readLaw 69 = .ok (.invokevirtual 160, 3) := by decide +kernel
theorem dX12_readLaw_72 : decode cX12_readLaw 72 = .ok (.ifCond .le 10, 3) := by decide +kernel
theorem dX12_readLaw_75 : decode cX12_readLaw 75 = .ok (.aload_n 0, 1) := by decide +kernel
theorem dX12_readLaw_76 : decode cX12_readLaw 76 = .ok (.invokevirtual 160, 3) := by decide +kernel
theorem dX12_readLaw_79 : decode cX12_readLaw 79 = .ok (.goto 4, 3) := by decide +kernel
theorem dX12_readLaw_82 : decode cX12_readLaw 82 = .ok (.iconst 0, 1) := by decide +kernel
theorem dX12_readLaw_83 : decode cX12_readLaw 83 = .ok (.istore 4, 2) := by decide +kernel
theorem dX12_readLaw_85 : decode cX12_readLaw 85 = .ok (.iload 4, 2) := by decide +kernel
theorem dX12_readLaw_87 : decode cX12_readLaw 87 = .ok (.ifCond .le 7, 3) := by decide +kernel
theorem dX12_readLaw_90 : decode cX12_readLaw 90 = .ok (.aload_n 0, 1) := by decide +kernel
theorem dX12_readLaw_91 : decode cX12_readLaw 91 = .ok (.invokevirtual 214, 3) := by decide +kernel
theorem dX12_readLaw_94 : decode cX12_readLaw 94 = .ok (.iload 4, 2) := by decide +kernel
theorem dX12_readLaw_96 : decode cX12_readLaw 96 = .ok (.ifCond .le 13, 3) := by decide +kernel
theorem dX12_readLaw_99 : decode cX12_readLaw 99 = .ok (.aload_n 0, 1) := by decide +kernel
theorem dX12_readLaw_100 : decode cX12_readLaw 100 = .ok (.iconst 0, 1) := by decide +kernel
theorem dX12_readLaw_101 : decode cX12_readLaw 101 = .ok (.bipush 9, 2) := by decide +kernel
theorem dX12_readLaw_103 : decode cX12_readLaw 103 = .ok (.invokevirtual 246, 3) := by decide +kernel
theorem dX12_readLaw_106 : decode cX12_readLaw 106 = .ok (.goto 4, 3) := by decide +kernel
theorem dX12_readLaw_109 : decode cX12_readLaw 109 = .ok (.iconst 0, 1) := by decide +kernel
theorem dX12_readLaw_110 : decode cX12_readLaw 110 = .ok (.istore 5, 2) := by decide +kernel
theorem dX12_readLaw_112 : decode cX12_readLaw 112 = .ok (.aload_n 0, 1) := by decide +kernel
theorem dX12_readLaw_113 : decode cX12_readLaw 113 = .ok (.getfield 204, 3) := by decide +kernel
theorem dX12_readLaw_116 : decode cX12_readLaw 116 = .ok (.ifCond .ne 15, 3) := by decide +kernel
theorem dX12_readLaw_119 : decode cX12_readLaw 119 = .ok (.aload_n 0, 1) := by decide +kernel
theorem dX12_readLaw_120 : decode cX12_readLaw 120 = .ok (.iconst 4, 1) := by decide +kernel
theorem dX12_readLaw_121 : decode cX12_readLaw 121 = .ok (.iload_n 1, 1) := by decide +kernel
theorem dX12_readLaw_122 : decode cX12_readLaw 122 = .ok (.iload_n 2, 1) := by decide +kernel
theorem dX12_readLaw_123 : decode cX12_readLaw 123 = .ok (.iload_n 3, 1) := by decide +kernel
theorem dX12_readLaw_124 : decode cX12_readLaw 124 = .ok (.iload 4, 2) := by decide +kernel
theorem dX12_readLaw_126 : decode cX12_readLaw 126 = .ok (.iload 5, 2) := by decide +kernel
theorem dX12_readLaw_128 : decode cX12_readLaw 128 = .ok (.invokevirtual 251, 3) := by decide +kernel
theorem dX12_readLaw_131 : decode cX12_readLaw 131 = .ok (.return_, 1) := by decide +kernel
theorem dX12_lays_0 : decode cX12_lays 0 = .ok (.sipush 400, 3) := by decide +kernel
theorem dX12_lays_3 : decode cX12_lays 3 = .ok (.iload_n 1, 1) := by decide +kernel
theorem dX12_lays_4 : decode cX12_lays 4 = .ok (.imul, 1) := by decide +kernel
theorem dX12_lays_5 : decode cX12_lays 5 = .ok (.istore 7, 2) := by decide +kernel
theorem dX12_lays_7 : decode cX12_lays 7 = .ok (.aload_n 0, 1) := by decide +kernel
theorem dX12_lays_8 : decode cX12_lays 8 = .ok (.getfield 35, 3) := by decide +kernel
theorem dX12_lays_11 : decode cX12_lays 11 = .ok (.iload 7, 2) := by decide +kernel
theorem dX12_lays_13 : decode cX12_lays 13 = .ok (.bipush 88, 2) := by decide +kernel
theorem dX12_lays_15 : decode cX12_lays 15 = .ok (.iadd, 1) := by decide +kernel
theorem dX12_lays_16 : decode cX12_lays 16 = .ok (.iload_n 2, 1) := by decide +kernel
theorem dX12_lays_17 : decode cX12_lays 17 = .ok (.iadd, 1) := by decide +kernel
theorem dX12_lays_18 : decode cX12_lays 18 = .ok (.iload_n 3, 1) := by decide +kernel
theorem dX12_lays_19 : decode cX12_lays 19 = .ok (.iastore, 1) := by decide +kernel
theorem dX12_lays_20 : decode cX12_lays 20 = .ok (.aload_n 0, 1) := by decide +kernel
theorem dX12_lays_21 : decode cX12_lays 21 = .ok (.getfield 35, 3) := by decide +kernel
theorem dX12_lays_24 : decode cX12_lays 24 = .ok (.iload 7, 2) := by decide +kernel
theorem dX12_lays_26 : decode cX12_lays 26 = .ok (.bipush 98, 2) := by decide +kernel
theorem dX12_lays_28 : decode cX12_lays 28 = .ok (.iadd, 1) := by decide +kernel
theorem dX12_lays_29 : decode cX12_lays 29 = .ok (.iload_n 2, 1) := by decide +kernel
theorem dX12_lays_30 : decode cX12_lays 30 = .ok (.iadd, 1) := by decide +kernel
theorem dX12_lays_31 : decode cX12_lays 31 = .ok (.iload 4, 2) := by decide +kernel
theorem dX12_lays_33 : decode cX12_lays 33 = .ok (.iastore, 1) := by decide +kernel
theorem dX12_lays_34 : decode cX12_lays 34 = .ok (.aload_n 0, 1) := by decide +kernel
theorem dX12_lays_35 : decode cX12_lays 35 = .ok (.getfield 35, 3) := by decide +kernel
theorem dX12_lays_38 : decode cX12_lays 38 = .ok (.iload 7, 2) := by decide +kernel
theorem dX12_lays_40 : decode cX12_lays 40 = .ok (.bipush 108, 2) := by decide +kernel
theorem dX12_lays_42 : decode cX12_lays 42 = .ok (.iadd, 1) := by decide +kernel
theorem dX12_lays_43 : decode cX12_lays 43 = .ok (.iload_n 2, 1) := by decide +kernel
theorem dX12_lays_44 : decode cX12_lays 44 = .ok (.iadd, 1) := by decide +kernel
theorem dX12_lays_45 : decode cX12_lays 45 = .ok (.iload 5, 2) := by decide +kernel
theorem dX12_lays_47 : decode cX12_lays 47 = .ok (.iastore, 1) := by decide +kernel
theorem dX12_lays_48 : decode cX12_lays 48 = .ok (.aload_n 0, 1) := by decide +kernel
theorem dX12_lays_49 : decode cX12_lays 49 = .ok (.getfield 35, 3) := by decide +kernel
theorem dX12_lays_52 : decode cX12_lays 52 = .ok (.iload 7, 2) := by decide +kernel
theorem dX12_lays_54 : decode cX12_lays 54 = .ok (.bipush 118, 2) := by decide +kernel
theorem dX12_lays_56 : decode cX12_lays 56 = .ok (.iadd, 1) := by decide +kernel
theorem dX12_lays_57 : decode cX12_lays 57 = .ok (.iload_n 2, 1) := by decide +kernel
theorem dX12_lays_58 : decode cX12_lays 58 = .ok (.iadd, 1) := by decide +kernel
theorem dX12_lays_59 : decode cX12_lays 59 = .ok (.iload 6, 2) := by decide +kernel
theorem dX12_lays_61 : decode cX12_lays 61 = .ok (.iastore, 1) := by decide +kernel
theorem dX12_lays_62 : decode cX12_lays 62 = .ok (.aload_n 0, 1) := by decide +kernel
theorem dX12_lays_63 : decode cX12_lays 63 = .ok (.getfield 35, 3) := by decide +kernel
theorem dX12_lays_66 : decode cX12_lays 66 = .ok (.iload 7, 2) := by decide +kernel
theorem dX12_lays_68 : decode cX12_lays 68 = .ok (.iconst 1, 1) := by decide +kernel
theorem dX12_lays_69 : decode cX12_lays 69 = .ok (.iadd, 1) := by decide +kernel
theorem dX12_lays_70 : decode cX12_lays 70 = .ok (.iload_n 2, 1) := by decide +kernel
theorem dX12_lays_71 : decode cX12_lays 71 = .ok (.iconst 1, 1) := by decide +kernel
theorem dX12_lays_72 : decode cX12_lays 72 = .ok (.iadd, 1) := by decide +kernel
theorem dX12_lays_73 : decode cX12_lays 73 = .ok (.iastore, 1) := by decide +kernel
theorem dX12_lays_74 : decode cX12_lays 74 = .ok (.return_, 1) := by decide +kernel
theorem dX12_readWatch_0 : decode cX12_readWatch 0 = .ok (.aload_n 0, 1) := by decide +kernel
theorem dX12_readWatch_1 : decode cX12_readWatch 1 = .ok (.getfield 239, 3) := by decide +kernel
theorem dX12_readWatch_4 : decode cX12_readWatch 4 = .ok (.bipush 7, 2) := by decide +kernel
theorem dX12_readWatch_6 : decode cX12_readWatch 6 = .ok (.invokestatic 242, 3) := by decide +kernel
theorem dX12_readWatch_9 : decode cX12_readWatch 9 = .ok (.ifCond .eq 12, 3) := by decide +kernel
theorem dX12_readWatch_12 : decode cX12_readWatch 12 = .ok (.aload_n 0, 1) := by decide +kernel
theorem dX12_readWatch_13 : decode cX12_readWatch 13 = .ok (.iconst 5, 1) := by decide +kernel
theorem dX12_readWatch_14 : decode cX12_readWatch 14 = .ok (.aload_n 0, 1) := by decide +kernel
theorem dX12_readWatch_15 : decode cX12_readWatch 15 = .ok (.getfield 117, 3) := by decide +kernel
theorem dX12_readWatch_18 : decode cX12_readWatch 18 = .ok (.invokevirtual 210, 3) := by decide +kernel
theorem dX12_readWatch_21 : decode cX12_readWatch 21 = .ok (.aload_n 0, 1) := by decide +kernel
theorem dX12_readWatch_22 : decode cX12_readWatch 22 = .ok (.getfield 204, 3) := by decide +kernel
theorem dX12_readWatch_25 : decode cX12_readWatch 25 = .ok (.ifCond .le 4, 3) := by decide +kernel
theorem dX12_readWatch_28 : decode cX12_readWatch 28 = .ok (.return_, 1) := by decide +kernel
theorem dX12_readWatch_29 : decode cX12_readWatch 29 = .ok (.aload_n 0, 1) := by decide +kernel
theorem dX12_readWatch_30 : decode cX12_readWatch 30 = .ok (.dup, 1) := by decide +kernel
theorem dX12_readWatch_31 : decode cX12_readWatch 31 = .ok (.getfield 239, 3) := by decide +kernel
theorem dX12_readWatch_34 : decode cX12_readWatch 34 = .ok (.sipush 128, 3) := by decide +kernel
theorem dX12_readWatch_37 : decode cX12_readWatch 37 = .ok (.ior, 1) := by decide +kernel
theorem dX12_readWatch_38 : decode cX12_readWatch 38 = .ok (.putfield 239, 3) := by decide +kernel
theorem dX12_readWatch_41 : decode cX12_readWatch 41 = .ok (.aload_n 0, 1) := by decide +kernel
theorem dX12_readWatch_42 : decode cX12_readWatch 42 = .ok (.invokevirtual 214, 3) := by decide +kernel
theorem dX12_readWatch_45 : decode cX12_readWatch 45 = .ok (.aload_n 0, 1) := by decide +kernel
theorem dX12_readWatch_46 : decode cX12_readWatch 46 = .ok (.iconst 4, 1) := by decide +kernel
theorem dX12_readWatch_47 : decode cX12_readWatch 47 = .ok (.invokevirtual 255, 3) := by decide +kernel
theorem dX12_readWatch_50 : decode cX12_readWatch 50 = .ok (.istore_n 1, 1) := by decide +kernel
theorem dX12_readWatch_51 : decode cX12_readWatch 51 = .ok (.aload_n 0, 1) := by decide +kernel
theorem dX12_readWatch_52 : decode cX12_readWatch 52 = .ok (.iconst 0, 1) := by decide +kernel
theorem dX12_readWatch_53 : decode cX12_readWatch 53 = .ok (.aload_n 0, 1) := by decide +kernel
theorem dX12_readWatch_54 : decode cX12_readWatch 54 = .ok (.getfield 35, 3) := by decide +kernel
theorem dX12_readWatch_57 : decode cX12_readWatch 57 = .ok (.sipush 1602, 3) := by decide +kernel
theorem dX12_readWatch_60 : decode cX12_readWatch 60 = .ok (.iaload, 1) := by decide +kernel
theorem dX12_readWatch_61 : decode cX12_readWatch 61 = .ok (.iconst 1, 1) := by decide +kernel
theorem dX12_readWatch_62 : decode cX12_readWatch 62 = .ok (.isub, 1) := by decide +kernel
theorem dX12_readWatch_63 : decode cX12_readWatch 63 = .ok (.invokevirtual 246, 3) := by decide +kernel
theorem dX12_readWatch_66 : decode cX12_readWatch 66 = .ok (.istore_n 2, 1) := by decide +kernel
theorem dX12_readWatch_67 : decode cX12_readWatch 67 = .ok (.aload_n 0, 1) := by decide +kernel
theorem dX12_readWatch_68 : decode cX12_readWatch 68 = .ok (.getfield 204, 3) := by decide +kernel
theorem dX12_readWatch_71 : decode cX12_readWatch 71 = .ok (.ifCond .ne 23, 3) := by decide +kernel
theorem dX12_readWatch_74 : decode cX12_readWatch 74 = .ok (.aload_n 0, 1) := by decide +kernel
theorem dX12_readWatch_75 : decode cX12_readWatch 75 = .ok (.getfield 35, 3) := by decide +kernel
theorem dX12_readWatch_78 : decode cX12_readWatch 78 = .ok (.sipush 1607, 3) := by decide +kernel
theorem dX12_readWatch_81 : decode cX12_readWatch 81 = .ok (.aload_n 0, 1) := by decide +kernel
theorem dX12_readWatch_82 : decode cX12_readWatch 82 = .ok (.getfield 35, 3) := by decide +kernel
theorem dX12_readWatch_85 : decode cX12_readWatch 85 = .ok (.sipush 1602, 3) := by decide +kernel
theorem dX12_readWatch_88 : decode cX12_readWatch 88 = .ok (.iaload, 1) := by decide +kernel
theorem dX12_readWatch_89 : decode cX12_readWatch 89 = .ok (.iload_n 1, 1) := by decide +kernel
theorem dX12_readWatch_90 : decode cX12_readWatch 90 = .ok (.imul, 1) := by decide +kernel
theorem dX12_readWatch_91 : decode cX12_readWatch 91 = .ok (.iload_n 2, 1) := by decide +kernel
theorem dX12_readWatch_92 : decode cX12_readWatch 92 = .ok (.iadd, 1) := by decide +kernel
theorem dX12_readWatch_93 : decode cX12_readWatch 93 = .ok (.iastore, 1) := by decide +kernel
theorem dX12_readWatch_94 : decode cX12_readWatch 94 = .ok (.return_, 1) := by decide +kernel
theorem dX12_readPart_0 : decode cX12_readPart 0 = .ok (.aload_n 0, 1) := by decide +kernel
theorem dX12_readPart_1 : decode cX12_readPart 1 = .ok (.invokevirtual 164, 3) := by decide +kernel
theorem dX12_readPart_4 : decode cX12_readPart 4 = .ok (.ifCond .eq 13, 3) := by decide +kernel
theorem dX12_readPart_7 : decode cX12_readPart 7 = .ok (.aload_n 0, 1) := by decide +kernel
theorem dX12_readPart_8 : decode cX12_readPart 8 = .ok (.iconst 2, 1) := by decide +kernel
theorem dX12_readPart_9 : decode cX12_readPart 9 = .ok (.iconst 1, 1) := by decide +kernel
theorem dX12_readPart_10 : decode cX12_readPart 10 = .ok (.iconst 5, 1) := by decide +kernel
theorem dX12_readPart_11 : decode cX12_readPart 11 = .ok (.invokevirtual 258, 3) := by decide +kernel
theorem dX12_readPart_14 : decode cX12_readPart 14 = .ok (.goto 85, 3) := by decide +kernel
theorem dX12_readPart_17 : decode cX12_readPart 17 = .ok (.aload_n 0, 1) := by decide +kernel
theorem dX12_readPart_18 : decode cX12_readPart 18 = .ok (.invokevirtual 168, 3) := by decide +kernel
theorem dX12_readPart_21 : decode cX12_readPart 21 = .ok (.ifCond .eq 14, 3) := by decide +kernel
theorem dX12_readPart_24 : decode cX12_readPart 24 = .ok (.aload_n 0, 1) := by decide +kernel
theorem dX12_readPart_25 : decode cX12_readPart 25 = .ok (.iconst 3, 1) := by decide +kernel
theorem dX12_readPart_26 : decode cX12_readPart 26 = .ok (.iconst 1, 1) := by decide +kernel
theorem dX12_readPart_27 : decode cX12_readPart 27 = .ok (.bipush 9, 2) := by decide +kernel
theorem dX12_readPart_29 : decode cX12_readPart 29 = .ok (.invokevirtual 258, 3) := by decide +kernel
theorem dX12_readPart_32 : decode cX12_readPart 32 = .ok (.goto 67, 3) := by decide +kernel
theorem dX12_readPart_35 : decode cX12_readPart 35 = .ok (.aload_n 0, 1) := by decide +kernel
theorem dX12_readPart_36 : decode cX12_readPart 36 = .ok (.invokevirtual 171, 3) := by decide +kernel
theorem dX12_readPart_39 : decode cX12_readPart 39 = .ok (.ifCond .eq 14, 3) := by decide +kernel
theorem dX12_readPart_42 : decode cX12_readPart 42 = .ok (.aload_n 0, 1) := by decide +kernel
theorem dX12_readPart_43 : decode cX12_readPart 43 = .ok (.iconst 4, 1) := by decide +kernel
theorem dX12_readPart_44 : decode cX12_readPart 44 = .ok (.iconst 0, 1) := by decide +kernel
theorem dX12_readPart_45 : decode cX12_readPart 45 = .ok (.bipush 16, 2) := by decide +kernel
theorem dX12_readPart_47 : decode cX12_readPart 47 = .ok (.invokevirtual 258, 3) := by decide +kernel
theorem dX12_readPart_50 : decode cX12_readPart 50 = .ok (.goto 49, 3) := by decide +kernel
theorem dX12_readPart_53 : decode cX12_readPart 53 = .ok (.aload_n 0, 1) := by decide +kernel
theorem dX12_readPart_54 : decode cX12_readPart 54 = .ok (.invokevirtual 174, 3) := by decide +kernel
theorem dX12_readPart_57 : decode cX12_readPart 57 = .ok (.ifCond .eq 10, 3) := by decide +kernel
theorem dX12_readPart_60 : decode cX12_readPart 60 = .ok (.aload_n 0, 1) := by decide +kernel
theorem dX12_readPart_61 : decode cX12_readPart 61 = .ok (.invokevirtual 262, 3) := by decide +kernel
theorem dX12_readPart_64 : decode cX12_readPart 64 = .ok (.goto 35, 3) := by decide +kernel
theorem dX12_readPart_67 : decode cX12_readPart 67 = .ok (.aload_n 0, 1) := by decide +kernel
theorem dX12_readPart_68 : decode cX12_readPart 68 = .ok (.invokevirtual 177, 3) := by decide +kernel
theorem dX12_readPart_71 : decode cX12_readPart 71 = .ok (.ifCond .eq 10, 3) := by decide +kernel
theorem dX12_readPart_74 : decode cX12_readPart 74 = .ok (.aload_n 0, 1) := by decide +kernel
theorem dX12_readPart_75 : decode cX12_readPart 75 = .ok (.invokevirtual 265, 3) := by decide +kernel
theorem dX12_readPart_78 : decode cX12_readPart 78 = .ok (.goto 21, 3) := by decide +kernel
theorem dX12_readPart_81 : decode cX12_readPart 81 = .ok (.aload_n 0, 1) := by decide +kernel
theorem dX12_readPart_82 : decode cX12_readPart 82 = .ok (.invokevirtual 183, 3) := by decide +kernel
theorem dX12_readPart_85 : decode cX12_readPart 85 = .ok (.ifCond .eq 10, 3) := by decide +kernel
theorem dX12_readPart_88 : decode cX12_readPart 88 = .ok (.aload_n 0, 1) := by decide +kernel
theorem dX12_readPart_89 : decode cX12_readPart 89 = .ok (.invokevirtual 268, 3) := by decide +kernel
theorem dX12_readPart_92 : decode cX12_readPart 92 = .ok (.goto 7, 3) := by decide +kernel
theorem dX12_readPart_95 : decode cX12_readPart 95 = .ok (.aload_n 0, 1) := by decide +kernel
theorem dX12_readPart_96 : decode cX12_readPart 96 = .ok (.invokevirtual 217, 3) := by decide +kernel
theorem dX12_readPart_99 : decode cX12_readPart 99 = .ok (.return_, 1) := by decide +kernel
theorem dX12_book_0 : decode cX12_book 0 = .ok (.aload_n 0, 1) := by decide +kernel
theorem dX12_book_1 : decode cX12_book 1 = .ok (.iconst 0, 1) := by decide +kernel
theorem dX12_book_2 : decode cX12_book 2 = .ok (.putfield 72, 3) := by decide +kernel
theorem dX12_book_5 : decode cX12_book 5 = .ok (.aload_n 0, 1) := by decide +kernel
theorem dX12_book_6 : decode cX12_book 6 = .ok (.iconst 0, 1) := by decide +kernel
theorem dX12_book_7 : decode cX12_book 7 = .ok (.putfield 75, 3) := by decide +kernel
theorem dX12_book_10 : decode cX12_book 10 = .ok (.aload_n 0, 1) := by decide +kernel
theorem dX12_book_11 : decode cX12_book 11 = .ok (.iload_n 1, 1) := by decide +kernel
theorem dX12_book_12 : decode cX12_book 12 = .ok (.sipush 900, 3) := by decide +kernel
theorem dX12_book_15 : decode cX12_book 15 = .ok (.invokevirtual 271, 3) := by decide +kernel
theorem dX12_book_18 : decode cX12_book 18 = .ok (.ifCond .ne 5, 3) := by decide +kernel
theorem dX12_book_21 : decode cX12_book 21 = .ok (.iconst (-1), 1) := by decide +kernel
theorem dX12_book_22 : decode cX12_book 22 = .ok (.ireturn, 1) := by decide +kernel
theorem dX12_book_23 : decode cX12_book 23 = .ok (.aload_n 0, 1) := by decide +kernel
theorem dX12_book_24 : decode cX12_book 24 = .ok (.iconst 4, 1) := by decide +kernel
theorem dX12_book_25 : decode cX12_book 25 = .ok (.invokevirtual 68, 3) := by decide +kernel
theorem dX12_book_28 : decode cX12_book 28 = .ok (.aload_n 0, 1) := by decide +kernel
theorem dX12_book_29 : decode cX12_book 29 = .ok (.iconst 0, 1) := by decide +kernel
theorem dX12_book_30 : decode cX12_book 30 = .ok (.putfield 239, 3) := by decide +kernel
theorem dX12_book_33 : decode cX12_book 33 = .ok (.aload_n 0, 1) := by decide +kernel
theorem dX12_book_34 : decode cX12_book 34 = .ok (.getfield 204, 3) := by decide +kernel
theorem dX12_book_37 : decode cX12_book 37 = .ok (.ifCond .ne 27, 3) := by decide +kernel
theorem dX12_book_40 : decode cX12_book 40 = .ok (.aload_n 0, 1) := by decide +kernel
theorem dX12_book_41 : decode cX12_book 41 = .ok (.getfield 123, 3) := by decide +kernel
theorem dX12_book_44 : decode cX12_book 44 = .ok (.ifCond .eq 20, 3) := by decide +kernel
theorem dX12_book_47 : decode cX12_book 47 = .ok (.aload_n 0, 1) := by decide +kernel
theorem dX12_book_48 : decode cX12_book 48 = .ok (.invokevirtual 274, 3) := by decide +kernel
theorem dX12_book_51 : decode cX12_book 51 = .ok (.aload_n 0, 1) := by decide +kernel
theorem dX12_book_52 : decode cX12_book 52 = .ok (.aload_n 0, 1) := by decide +kernel
theorem dX12_book_53 : decode cX12_book 53 = .ok (.bipush 59, 2) := by decide +kernel
theorem dX12_book_55 : decode cX12_book 55 = .ok (.invokevirtual 277, 3) := by decide +kernel
theorem dX12_book_58 : decode cX12_book 58 = .ok (.invokevirtual 232, 3) := by decide +kernel
theorem dX12_book_61 : decode cX12_book 61 = .ok (.goto (-28), 3) := by decide +kernel
theorem dX12_book_64 : decode cX12_book 64 = .ok (.aload_n 0, 1) := by decide +kernel
theorem dX12_book_65 : decode cX12_book 65 = .ok (.invokevirtual 280, 3) := by decide +kernel
theorem dX12_book_68 : decode cX12_book 68 = .ok (.ifCond .ne 5, 3) := by decide +kernel
theorem dX12_book_71 : decode cX12_book 71 = .ok (.iconst (-1), 1) := by decide +kernel
theorem dX12_book_72 : decode cX12_book 72 = .ok (.ireturn, 1) := by decide +kernel
theorem dX12_book_73 : decode cX12_book 73 = .ok (.iconst 0, 1) := by decide +kernel
theorem dX12_book_74 : decode cX12_book 74 = .ok (.istore_n 2, 1) := by decide +kernel
theorem dX12_book_75 : decode cX12_book 75 = .ok (.iload_n 2, 1) := by decide +kernel
theorem dX12_book_76 : decode cX12_book 76 = .ok (.bipush 25, 2) := by decide +kernel
theorem dX12_book_78 : decode cX12_book 78 = .ok (.if_icmp .ge 29, 3) := by decide +kernel
theorem dX12_book_81 : decode cX12_book 81 = .ok (.aload_n 0, 1) := by decide +kernel
theorem dX12_book_82 : decode cX12_book 82 = .ok (.getfield 35, 3) := by decide +kernel
theorem dX12_book_85 : decode cX12_book 85 = .ok (.sipush 1638, 3) := by decide +kernel
theorem dX12_book_88 : decode cX12_book 88 = .ok (.iload_n 2, 1) := by decide +kernel
theorem dX12_book_89 : decode cX12_book 89 = .ok (.iadd, 1) := by decide +kernel
theorem dX12_book_90 : decode cX12_book 90 = .ok (.aload_n 0, 1) := by decide +kernel
theorem dX12_book_91 : decode cX12_book 91 = .ok (.getfield 35, 3) := by decide +kernel
theorem dX12_book_94 : decode cX12_book 94 = .ok (.sipush 1613, 3) := by decide +kernel
theorem dX12_book_97 : decode cX12_book 97 = .ok (.iload_n 2, 1) := by decide +kernel
theorem dX12_book_98 : decode cX12_book 98 = .ok (.iadd, 1) := by decide +kernel
theorem dX12_book_99 : decode cX12_book 99 = .ok (.iaload, 1) := by decide +kernel
theorem dX12_book_100 : decode cX12_book 100 = .ok (.iastore, 1) := by decide +kernel
theorem dX12_book_101 : decode cX12_book 101 = .ok (.iinc 2 1, 3) := by decide +kernel
theorem dX12_book_104 : decode cX12_book 104 = .ok (.goto (-29), 3) := by decide +kernel
theorem dX12_book_107 : decode cX12_book 107 = .ok (.aload_n 0, 1) := by decide +kernel
theorem dX12_book_108 : decode cX12_book 108 = .ok (.iconst 4, 1) := by decide +kernel
theorem dX12_book_109 : decode cX12_book 109 = .ok (.iconst 0, 1) := by decide +kernel
theorem dX12_book_110 : decode cX12_book 110 = .ok (.invokevirtual 283, 3) := by decide +kernel
theorem dX12_book_113 : decode cX12_book 113 = .ok (.aload_n 0, 1) := by decide +kernel
theorem dX12_book_114 : decode cX12_book 114 = .ok (.getfield 35, 3) := by decide +kernel
theorem dX12_book_117 : decode cX12_book 117 = .ok (.iconst 0, 1) := by decide +kernel
theorem dX12_book_118 : decode cX12_book 118 = .ok (.iaload, 1) := by decide +kernel
theorem dX12_book_119 : decode cX12_book 119 = .ok (.ireturn, 1) := by decide +kernel
theorem dX12_readCell_0 : decode cX12_readCell 0 = .ok (.aload_n 0, 1) := by decide +kernel
theorem dX12_readCell_1 : decode cX12_readCell 1 = .ok (.iconst 0, 1) := by decide +kernel
theorem dX12_readCell_2 : decode cX12_readCell 2 = .ok (.invokevirtual 255, 3) := by decide +kernel
theorem dX12_readCell_5 : decode cX12_readCell 5 = .ok (.istore_n 1, 1) := by decide +kernel
theorem dX12_readCell_6 : decode cX12_readCell 6 = .ok (.aload_n 0, 1) := by decide +kernel
theorem dX12_readCell_7 : decode cX12_readCell 7 = .ok (.getfield 35, 3) := by decide +kernel
theorem dX12_readCell_10 : decode cX12_readCell 10 = .ok (.iconst 2, 1) := by decide +kernel
theorem dX12_readCell_11 : decode cX12_readCell 11 = .ok (.iaload, 1) := by decide +kernel
theorem dX12_readCell_12 : decode cX12_readCell 12 = .ok (.iload_n 1, 1) := by decide +kernel
theorem dX12_readCell_13 : decode cX12_readCell 13 = .ok (.imul, 1) := by decide +kernel
theorem dX12_readCell_14 : decode cX12_readCell 14 = .ok (.aload_n 0, 1) := by decide +kernel
theorem dX12_readCell_15 : decode cX12_readCell 15 = .ok (.iconst 0, 1) := by decide +kernel
theorem dX12_readCell_16 : decode cX12_readCell 16 = .ok (.aload_n 0, 1) := by decide +kernel
theorem dX12_readCell_17 : decode cX12_readCell 17 = .ok (.getfield 35, 3) := by decide +kernel
theorem dX12_readCell_20 : decode cX12_readCell 20 = .ok (.iconst 2, 1) := by decide +kernel
theorem dX12_readCell_21 : decode cX12_readCell 21 = .ok (.iaload, 1) := by decide +kernel
theorem dX12_readCell_22 : decode cX12_readCell 22 = .ok (.iconst 1, 1) := by decide +kernel
theorem dX12_readCell_23 : decode cX12_readCell 23 = .ok (.isub, 1) := by decide +kernel
theorem dX12_readCell_24 : decode cX12_readCell 24 = .ok (.invokevirtual 246, 3) := by decide +kernel
theorem dX12_readCell_27 : decode cX12_readCell 27 = .ok (.iadd, 1) := by decide +kernel
theorem dX12_readCell_28 : decode cX12_readCell 28 = .ok (.ireturn, 1) := by decide +kernel
theorem dX12_readTest_0 : decode cX12_readTest 0 = .ok (.aload_n 0, 1) := by decide +kernel
theorem dX12_readTest_1 : decode cX12_readTest 1 = .ok (.invokevirtual 195, 3) := by decide +kernel
theorem dX12_readTest_4 : decode cX12_readTest 4 = .ok (.istore_n 2, 1) := by decide +kernel
theorem dX12_readTest_5 : decode cX12_readTest 5 = .ok (.aload_n 0, 1) := by decide +kernel
theorem dX12_readTest_6 : decode cX12_readTest 6 = .ok (.iload_n 2, 1) := by decide +kernel
theorem dX12_readTest_7 : decode cX12_readTest 7 = .ok (.ifCond .lt 7, 3) := by decide +kernel
theorem dX12_readTest_10 : decode cX12_readTest 10 = .ok (.iconst 1, 1) := by decide +kernel
theorem dX12_readTest_11 : decode cX12_readTest 11 = .ok (.goto 4, 3) := by decide +kernel
theorem dX12_readTest_14 : decode cX12_readTest 14 = .ok (.iconst 0, 1) := by decide +kernel
theorem dX12_readTest_15 : decode cX12_readTest 15 = .ok (.invokevirtual 232, 3) := by decide +kernel
theorem dX12_readTest_18 : decode cX12_readTest 18 = .ok (.aload_n 0, 1) := by decide +kernel
theorem dX12_readTest_19 : decode cX12_readTest 19 = .ok (.getfield 35, 3) := by decide +kernel
theorem dX12_readTest_22 : decode cX12_readTest 22 = .ok (.iload_n 1, 1) := by decide +kernel
theorem dX12_readTest_23 : decode cX12_readTest 23 = .ok (.iconst 5, 1) := by decide +kernel
theorem dX12_readTest_24 : decode cX12_readTest 24 = .ok (.iadd, 1) := by decide +kernel
theorem dX12_readTest_25 : decode cX12_readTest 25 = .ok (.iload_n 2, 1) := by decide +kernel
theorem dX12_readTest_26 : decode cX12_readTest 26 = .ok (.iastore, 1) := by decide +kernel
theorem dX12_readTest_27 : decode cX12_readTest 27 = .ok (.aload_n 0, 1) := by decide +kernel
theorem dX12_readTest_28 : decode cX12_readTest 28 = .ok (.getfield 204, 3) := by decide +kernel
theorem dX12_readTest_31 : decode cX12_readTest 31 = .ok (.ifCond .gt 8, 3) := by decide +kernel
theorem dX12_readTest_34 : decode cX12_readTest 34 = .ok (.iload_n 2, 1) := by decide +kernel
theorem dX12_readTest_35 : decode cX12_readTest 35 = .ok (.iconst 2, 1) := by decide +kernel
theorem dX12_readTest_36 : decode cX12_readTest 36 = .ok (.if_icmp .ne 4, 3) := by decide +kernel
theorem dX12_readTest_39 : decode cX12_readTest 39 = .ok (.return_, 1) := by decide +kernel
theorem dX12_readTest_40 : decode cX12_readTest 40 = .ok (.iload_n 2, 1) := by decide +kernel
theorem dX12_readTest_41 : decode cX12_readTest 41 = .ok (.iconst 1, 1) := by decide +kernel
theorem dX12_readTest_42 : decode cX12_readTest 42 = .ok (.if_icmp .ne 15, 3) := by decide +kernel
theorem dX12_readTest_45 : decode cX12_readTest 45 = .ok (.aload_n 0, 1) := by decide +kernel
theorem dX12_readTest_46 : decode cX12_readTest 46 = .ok (.getfield 35, 3) := by decide +kernel
theorem dX12_readTest_49 : decode cX12_readTest 49 = .ok (.iload_n 1, 1) := by decide +kernel
theorem dX12_readTest_50 : decode cX12_readTest 50 = .ok (.iconst 1, 1) := by decide +kernel
theorem dX12_readTest_51 : decode cX12_readTest 51 = .ok (.iadd, 1) := by decide +kernel
theorem dX12_readTest_52 : decode cX12_readTest 52 = .ok (.aload_n 0, 1) := by decide +kernel
theorem dX12_readTest_53 : decode cX12_readTest 53 = .ok (.invokevirtual 286, 3) := by decide +kernel
theorem dX12_readTest_56 : decode cX12_readTest 56 = .ok (.iastore, 1) := by decide +kernel
theorem dX12_readTest_57 : decode cX12_readTest 57 = .ok (.aload_n 0, 1) := by decide +kernel
theorem dX12_readTest_58 : decode cX12_readTest 58 = .ok (.getfield 204, 3) := by decide +kernel
theorem dX12_readTest_61 : decode cX12_readTest 61 = .ok (.ifCond .le 4, 3) := by decide +kernel
theorem dX12_readTest_64 : decode cX12_readTest 64 = .ok (.return_, 1) := by decide +kernel
theorem dX12_readTest_65 : decode cX12_readTest 65 = .ok (.aload_n 0, 1) := by decide +kernel
theorem dX12_readTest_66 : decode cX12_readTest 66 = .ok (.getfield 35, 3) := by decide +kernel
theorem dX12_readTest_69 : decode cX12_readTest 69 = .ok (.iload_n 1, 1) := by decide +kernel
theorem dX12_readTest_70 : decode cX12_readTest 70 = .ok (.bipush 7, 2) := by decide +kernel
theorem dX12_readTest_72 : decode cX12_readTest 72 = .ok (.iadd, 1) := by decide +kernel
theorem dX12_readTest_73 : decode cX12_readTest 73 = .ok (.aload_n 0, 1) := by decide +kernel
theorem dX12_readTest_74 : decode cX12_readTest 74 = .ok (.getfield 123, 3) := by decide +kernel
theorem dX12_readTest_77 : decode cX12_readTest 77 = .ok (.iconst 3, 1) := by decide +kernel
theorem dX12_readTest_78 : decode cX12_readTest 78 = .ok (.if_icmp .ne 10, 3) := by decide +kernel
theorem dX12_readTest_81 : decode cX12_readTest 81 = .ok (.aload_n 0, 1) := by decide +kernel
theorem dX12_readTest_82 : decode cX12_readTest 82 = .ok (.getfield 142, 3) := by decide +kernel
theorem dX12_readTest_85 : decode cX12_readTest 85 = .ok (.goto 4, 3) := by decide +kernel
theorem dX12_readTest_88 : decode cX12_readTest 88 = .ok (.iconst 0, 1) := by decide +kernel
theorem dX12_readTest_89 : decode cX12_readTest 89 = .ok (.iastore, 1) := by decide +kernel
theorem dX12_readTest_90 : decode cX12_readTest 90 = .ok (.aload_n 0, 1) := by decide +kernel
theorem dX12_readTest_91 : decode cX12_readTest 91 = .ok (.aload_n 0, 1) := by decide +kernel
theorem dX12_readTest_92 : decode cX12_readTest 92 = .ok (.bipush 60, 2) := by decide +kernel
theorem dX12_readTest_94 : decode cX12_readTest 94 = .ok (.invokevirtual 277, 3) := by decide +kernel
theorem dX12_readTest_97 : decode cX12_readTest 97 = .ok (.ifCond .ne 21, 3) := by decide +kernel
theorem dX12_readTest_100 : decode cX12_readTest 100 = .ok (.aload_n 0, 1) := by decide +kernel
theorem dX12_readTest_101 : decode cX12_readTest 101 = .ok (.bipush 62, 2) := by decide +kernel
theorem dX12_readTest_103 : decode cX12_readTest 103 = .ok (.invokevirtual 277, 3) := by decide +kernel
theorem dX12_readTest_106 : decode cX12_readTest 106 = .ok (.ifCond .ne 12, 3) := by decide +kernel
theorem dX12_readTest_109 : decode cX12_readTest 109 = .ok (.aload_n 0, 1) := by decide +kernel
theorem dX12_readTest_110 : decode cX12_readTest 110 = .ok (.bipush 61, 2) := by decide +kernel
theorem dX12_readTest_112 : decode cX12_readTest 112 = .ok (.invokevirtual 277, 3) := by decide +kernel
theorem dX12_readTest_115 : decode cX12_readTest 115 = .ok (.ifCond .eq 7, 3) := by decide +kernel
theorem dX12_readTest_118 : decode cX12_readTest 118 = .ok (.iconst 1, 1) := by decide +kernel
theorem dX12_readTest_119 : decode cX12_readTest 119 = .ok (.goto 4, 3) := by decide +kernel
theorem dX12_readTest_122 : decode cX12_readTest 122 = .ok (.iconst 0, 1) := by decide +kernel
theorem dX12_readTest_123 : decode cX12_readTest 123 = .ok (.invokevirtual 232, 3) := by decide +kernel
theorem dX12_readTest_126 : decode cX12_readTest 126 = .ok (.aload_n 0, 1) := by decide +kernel
theorem dX12_readTest_127 : decode cX12_readTest 127 = .ok (.getfield 35, 3) := by decide +kernel
theorem dX12_readTest_130 : decode cX12_readTest 130 = .ok (.iload_n 1, 1) := by decide +kernel
theorem dX12_readTest_131 : decode cX12_readTest 131 = .ok (.bipush 6, 2) := by decide +kernel
theorem dX12_readTest_133 : decode cX12_readTest 133 = .ok (.iadd, 1) := by decide +kernel
theorem dX12_readTest_134 : decode cX12_readTest 134 = .ok (.aload_n 0, 1) := by decide +kernel
theorem dX12_readTest_135 : decode cX12_readTest 135 = .ok (.iconst 0, 1) := by decide +kernel
theorem dX12_readTest_136 : decode cX12_readTest 136 = .ok (.iload_n 2, 1) := by decide +kernel
theorem dX12_readTest_137 : decode cX12_readTest 137 = .ok (.ifCond .ne 8, 3) := by decide +kernel
theorem dX12_readTest_140 : decode cX12_readTest 140 = .ok (.bipush 99, 2) := by decide +kernel
theorem dX12_readTest_142 : decode cX12_readTest 142 = .ok (.goto 5, 3) := by decide +kernel
theorem dX12_readTest_145 : decode cX12_readTest 145 = .ok (.bipush 9, 2) := by decide +kernel
theorem dX12_readTest_147 : decode cX12_readTest 147 = .ok (.invokevirtual 246, 3) := by decide +kernel
theorem dX12_readTest_150 : decode cX12_readTest 150 = .ok (.iastore, 1) := by decide +kernel
theorem dX12_readTest_151 : decode cX12_readTest 151 = .ok (.return_, 1) := by decide +kernel
theorem dX12_readRest_0 : decode cX12_readRest 0 = .ok (.aload_n 0, 1) := by decide +kernel
theorem dX12_readRest_1 : decode cX12_readRest 1 = .ok (.getfield 35, 3) := by decide +kernel
theorem dX12_readRest_4 : decode cX12_readRest 4 = .ok (.iload_n 1, 1) := by decide +kernel
theorem dX12_readRest_5 : decode cX12_readRest 5 = .ok (.iaload, 1) := by decide +kernel
theorem dX12_readRest_6 : decode cX12_readRest 6 = .ok (.istore_n 2, 1) := by decide +kernel
theorem dX12_readRest_7 : decode cX12_readRest 7 = .ok (.iload_n 2, 1) := by decide +kernel
theorem dX12_readRest_8 : decode cX12_readRest 8 = .ok (.ifCond .ne 34, 3) := by decide +kernel
theorem dX12_readRest_11 : decode cX12_readRest 11 = .ok (.aload_n 0, 1) := by decide +kernel
theorem dX12_readRest_12 : decode cX12_readRest 12 = .ok (.getfield 35, 3) := by decide +kernel
theorem dX12_readRest_15 : decode cX12_readRest 15 = .ok (.iload_n 1, 1) := by decide +kernel
theorem dX12_readRest_16 : decode cX12_readRest 16 = .ok (.iconst 1, 1) := by decide +kernel
theorem dX12_readRest_17 : decode cX12_readRest 17 = .ok (.iadd, 1) := by decide +kernel
theorem dX12_readRest_18 : decode cX12_readRest 18 = .ok (.aload_n 0, 1) := by decide +kernel
theorem dX12_readRest_19 : decode cX12_readRest 19 = .ok (.invokevirtual 189, 3) := by decide +kernel
theorem dX12_readRest_22 : decode cX12_readRest 22 = .ok (.iastore, 1) := by decide +kernel
theorem dX12_readRest_23 : decode cX12_readRest 23 = .ok (.aload_n 0, 1) := by decide +kernel
theorem dX12_readRest_24 : decode cX12_readRest 24 = .ok (.aload_n 0, 1) := by decide +kernel
theorem dX12_readRest_25 : decode cX12_readRest 25 = .ok (.invokevirtual 189, 3) := by decide +kernel
theorem dX12_readRest_28 : decode cX12_readRest 28 = .ok (.ifCond .lt 7, 3) := by decide +kernel
theorem dX12_readRest_31 : decode cX12_readRest 31 = .ok (.iconst 1, 1) := by decide +kernel
theorem dX12_readRest_32 : decode cX12_readRest 32 = .ok (.goto 4, 3) := by decide +kernel
theorem dX12_readRest_35 : decode cX12_readRest 35 = .ok (.iconst 0, 1) := by decide +kernel
theorem dX12_readRest_36 : decode cX12_readRest 36 = .ok (.invokevirtual 232, 3) := by decide +kernel
theorem dX12_readRest_39 : decode cX12_readRest 39 = .ok (.goto 85, 3) := by decide +kernel
theorem dX12_readRest_42 : decode cX12_readRest 42 = .ok (.iload_n 2, 1) := by decide +kernel
theorem dX12_readRest_43 : decode cX12_readRest 43 = .ok (.iconst 1, 1) := by decide +kernel
theorem dX12_readRest_44 : decode cX12_readRest 44 = .ok (.if_icmp .ne 21, 3) := by decide +kernel
theorem dX12_readRest_47 : decode cX12_readRest 47 = .ok (.aload_n 0, 1) := by decide +kernel
theorem dX12_readRest_48 : decode cX12_readRest 48 = .ok (.getfield 35, 3) := by decide +kernel
theorem dX12_readRest_51 : decode cX12_readRest 51 = .ok (.iload_n 1, 1) := by decide +kernel
theorem dX12_readRest_52 : decode cX12_readRest 52 = .ok (.iconst 1, 1) := by decide +kernel
theorem dX12_readRest_53 : decode cX12_readRest 53 = .ok (.iadd, 1) := by decide +kernel
theorem dX12_readRest_54 : decode cX12_readRest 54 = .ok (.aload_n 0, 1) := by decide +kernel
theorem dX12_readRest_55 : decode cX12_readRest 55 = .ok (.iconst 1, 1) := by decide +kernel
theorem dX12_readRest_56 : decode cX12_readRest 56 = .ok (.bipush 24, 2) := by decide +kernel
theorem dX12_readRest_58 : decode cX12_readRest 58 = .ok (.invokevirtual 246, 3) := by decide +kernel
theorem dX12_readRest_61 : decode cX12_readRest 61 = .ok (.iastore, 1) := by decide +kernel
theorem dX12_readRest_62 : decode cX12_readRest 62 = .ok (.goto 62, 3) := by decide +kernel
theorem dX12_readRest_65 : decode cX12_readRest 65 = .ok (.iload_n 2, 1) := by decide +kernel
theorem dX12_readRest_66 : decode cX12_readRest 66 = .ok (.bipush 6, 2) := by decide +kernel
theorem dX12_readRest_68 : decode cX12_readRest 68 = .ok (.if_icmp .ne 21, 3) := by decide +kernel
theorem dX12_readRest_71 : decode cX12_readRest 71 = .ok (.aload_n 0, 1) := by decide +kernel
theorem dX12_readRest_72 : decode cX12_readRest 72 = .ok (.getfield 35, 3) := by decide +kernel
theorem dX12_readRest_75 : decode cX12_readRest 75 = .ok (.iload_n 1, 1) := by decide +kernel
theorem dX12_readRest_76 : decode cX12_readRest 76 = .ok (.iconst 1, 1) := by decide +kernel
theorem dX12_readRest_77 : decode cX12_readRest 77 = .ok (.iadd, 1) := by decide +kernel
theorem dX12_readRest_78 : decode cX12_readRest 78 = .ok (.aload_n 0, 1) := by decide +kernel
theorem dX12_readRest_79 : decode cX12_readRest 79 = .ok (.iconst 1, 1) := by decide +kernel
theorem dX12_readRest_80 : decode cX12_readRest 80 = .ok (.bipush 99, 2) := by decide +kernel
theorem dX12_readRest_82 : decode cX12_readRest 82 = .ok (.invokevirtual 246, 3) := by decide +kernel
theorem dX12_readRest_85 : decode cX12_readRest 85 = .ok (.iastore, 1) := by decide +kernel
theorem dX12_readRest_86 : decode cX12_readRest 86 = .ok (.goto 38, 3) := by decide +kernel
theorem dX12_readRest_89 : decode cX12_readRest 89 = .ok (.iload_n 2, 1) := by decide +kernel
theorem dX12_readRest_90 : decode cX12_readRest 90 = .ok (.iconst 5, 1) := by decide +kernel
theorem dX12_readRest_91 : decode cX12_readRest 91 = .ok (.if_icmp .ne 11, 3) := by decide +kernel
theorem dX12_readRest_94 : decode cX12_readRest 94 = .ok (.aload_n 0, 1) := by decide +kernel
theorem dX12_readRest_95 : decode cX12_readRest 95 = .ok (.iload_n 1, 1) := by decide +kernel
theorem dX12_readRest_96 : decode cX12_readRest 96 = .ok (.invokevirtual 289, 3) := by decide +kernel
theorem dX12_readRest_99 : decode cX12_readRest 99 = .ok (.goto 25, 3) := by decide +kernel
theorem dX12_readRest_102 : decode cX12_readRest 102 = .ok (.iload_n 2, 1) := by decide +kernel
theorem dX12_readRest_103 : decode cX12_readRest 103 = .ok (.iconst 2, 1) := by decide +kernel
theorem dX12_readRest_104 : decode cX12_readRest 104 = .ok (.if_icmp .eq 8, 3) := by decide +kernel
theorem dX12_readRest_107 : decode cX12_readRest 107 = .ok (.iload_n 2, 1) := by decide +kernel
theorem dX12_readRest_108 : decode cX12_readRest 108 = .ok (.iconst 3, 1) := by decide +kernel
theorem dX12_readRest_109 : decode cX12_readRest 109 = .ok (.if_icmp .ne 15, 3) := by decide +kernel
theorem dX12_readRest_112 : decode cX12_readRest 112 = .ok (.aload_n 0, 1) := by decide +kernel
theorem dX12_readRest_113 : decode cX12_readRest 113 = .ok (.getfield 35, 3) := by decide +kernel
theorem dX12_readRest_116 : decode cX12_readRest 116 = .ok (.iload_n 1, 1) := by decide +kernel
theorem dX12_readRest_117 : decode cX12_readRest 117 = .ok (.iconst 1, 1) := by decide +kernel
theorem dX12_readRest_118 : decode cX12_readRest 118 = .ok (.iadd, 1) := by decide +kernel
theorem dX12_readRest_119 : decode cX12_readRest 119 = .ok (.aload_n 0, 1) := by decide +kernel
theorem dX12_readRest_120 : decode cX12_readRest 120 = .ok (.invokevirtual 286, 3) := by decide +kernel
theorem dX12_readRest_123 : decode cX12_readRest 123 = .ok (.iastore, 1) := by decide +kernel
theorem dX12_readRest_124 : decode cX12_readRest 124 = .ok (.return_, 1) := by decide +kernel
theorem dX12_readStep_0 : decode cX12_readStep 0 = .ok (.aload_n 0, 1) := by decide +kernel
theorem dX12_readStep_1 : decode cX12_readStep 1 = .ok (.invokevirtual 192, 3) := by decide +kernel
theorem dX12_readStep_4 : decode cX12_readStep 4 = .ok (.istore_n 2, 1) := by decide +kernel
theorem dX12_readStep_5 : decode cX12_readStep 5 = .ok (.iload_n 2, 1) := by decide +kernel
theorem dX12_readStep_6 : decode cX12_readStep 6 = .ok (.iconst 5, 1) := by decide +kernel
theorem dX12_readStep_7 : decode cX12_readStep 7 = .ok (.if_icmp .eq 9, 3) := by decide +kernel
theorem dX12_readStep_10 : decode cX12_readStep 10 = .ok (.iload_n 2, 1) := by decide +kernel
theorem dX12_readStep_11 : decode cX12_readStep 11 = .ok (.bipush 6, 2) := by decide +kernel
theorem dX12_readStep_13 : decode cX12_readStep 13 = .ok (.if_icmp .ne 7, 3) := by decide +kernel
theorem dX12_readStep_16 : decode cX12_readStep 16 = .ok (.iconst 1, 1) := by decide +kernel
theorem dX12_readStep_17 : decode cX12_readStep 17 = .ok (.goto 4, 3) := by decide +kernel
theorem dX12_readStep_20 : decode cX12_readStep 20 = .ok (.iconst 0, 1) := by decide +kernel
theorem dX12_readStep_21 : decode cX12_readStep 21 = .ok (.istore_n 3, 1) := by decide +kernel
theorem dX12_readStep_22 : decode cX12_readStep 22 = .ok (.iload_n 2, 1) := by decide +kernel
theorem dX12_readStep_23 : decode cX12_readStep 23 = .ok (.ifCond .ge 7, 3) := by decide +kernel
theorem dX12_readStep_26 : decode cX12_readStep 26 = .ok (.aload_n 0, 1) := by decide +kernel
theorem dX12_readStep_27 : decode cX12_readStep 27 = .ok (.invokevirtual 217, 3) := by decide +kernel
theorem dX12_readStep_30 : decode cX12_readStep 30 = .ok (.aload_n 0, 1) := by decide +kernel
theorem dX12_readStep_31 : decode cX12_readStep 31 = .ok (.getfield 204, 3) := by decide +kernel
theorem dX12_readStep_34 : decode cX12_readStep 34 = .ok (.ifCond .ne 22, 3) := by decide +kernel
theorem dX12_readStep_37 : decode cX12_readStep 37 = .ok (.aload_n 0, 1) := by decide +kernel
theorem dX12_readStep_38 : decode cX12_readStep 38 = .ok (.getfield 292, 3) := by decide +kernel
theorem dX12_readStep_41 : decode cX12_readStep 41 = .ok (.bipush 30, 2) := by decide +kernel
theorem dX12_readStep_43 : decode cX12_readStep 43 = .ok (.if_icmp .ne 13, 3) := by decide +kernel
theorem dX12_readStep_46 : decode cX12_readStep 46 = .ok (.aload_n 0, 1) := by decide +kernel
theorem dX12_readStep_47 : decode cX12_readStep 47 = .ok (.bipush 6, 2) := by decide +kernel
theorem dX12_readStep_49 : decode cX12_readStep 49 = .ok (.aload_n 0, 1) := by decide +kernel
theorem dX12_readStep_50 : decode cX12_readStep 50 = .ok (.getfield 117, 3) := by decide +kernel
theorem dX12_readStep_53 : decode cX12_readStep 53 = .ok (.invokevirtual 210, 3) := by decide +kernel
theorem dX12_readStep_56 : decode cX12_readStep 56 = .ok (.aload_n 0, 1) := by decide +kernel
theorem dX12_readStep_57 : decode cX12_readStep 57 = .ok (.getfield 204, 3) := by decide +kernel
theorem dX12_readStep_60 : decode cX12_readStep 60 = .ok (.ifCond .ne 22, 3) := by decide +kernel
theorem dX12_readStep_63 : decode cX12_readStep 63 = .ok (.iload_n 3, 1) := by decide +kernel
theorem dX12_readStep_64 : decode cX12_readStep 64 = .ok (.ifCond .eq 18, 3) := by decide +kernel
theorem dX12_readStep_67 : decode cX12_readStep 67 = .ok (.iload_n 1, 1) := by decide +kernel
theorem dX12_readStep_68 : decode cX12_readStep 68 = .ok (.iconst 3, 1) := by decide +kernel
theorem dX12_readStep_69 : decode cX12_readStep 69 = .ok (.if_icmp .ne 13, 3) := by decide +kernel
theorem dX12_readStep_72 : decode cX12_readStep 72 = .ok (.aload_n 0, 1) := by decide +kernel
theorem dX12_readStep_73 : decode cX12_readStep 73 = .ok (.bipush 7, 2) := by decide +kernel
theorem dX12_readStep_75 : decode cX12_readStep 75 = .ok (.aload_n 0, 1) := by decide +kernel
theorem dX12_readStep_76 : decode cX12_readStep 76 = .ok (.getfield 117, 3) := by decide +kernel
theorem dX12_readStep_79 : decode cX12_readStep 79 = .ok (.invokevirtual 210, 3) := by decide +kernel
theorem dX12_readStep_82 : decode cX12_readStep 82 = .ok (.aload_n 0, 1) := by decide +kernel
theorem dX12_readStep_83 : decode cX12_readStep 83 = .ok (.getfield 204, 3) := by decide +kernel
theorem dX12_readStep_86 : decode cX12_readStep 86 = .ok (.ifCond .le 4, 3) := by decide +kernel
theorem dX12_readStep_89 : decode cX12_readStep 89 = .ok (.return_, 1) := by decide +kernel
theorem dX12_readStep_90 : decode cX12_readStep 90 = .ok (.sipush 1730, 3) := by decide +kernel
theorem dX12_readStep_93 : decode cX12_readStep 93 = .ok (.bipush 9, 2) := by decide +kernel
theorem dX12_readStep_95 : decode cX12_readStep 95 = .ok (.aload_n 0, 1) := by decide +kernel
theorem dX12_readStep_96 : decode cX12_readStep 96 = .ok (.getfield 292, 3) := by decide +kernel
theorem dX12_readStep_99 : decode cX12_readStep 99 = .ok (.imul, 1) := by decide +kernel
theorem dX12_readStep_100 : decode cX12_readStep 100 = .ok (.iadd, 1) := by decide +kernel
theorem dX12_readStep_101 : decode cX12_readStep 101 = .ok (.istore 4, 2) := by decide +kernel
theorem dX12_readStep_103 : decode cX12_readStep 103 = .ok (.aload_n 0, 1) := by decide +kernel
theorem dX12_readStep_104 : decode cX12_readStep 104 = .ok (.dup, 1) := by decide +kernel
theorem dX12_readStep_105 : decode cX12_readStep 105 = .ok (.getfield 292, 3) := by decide +kernel
theorem dX12_readStep_108 : decode cX12_readStep 108 = .ok (.iconst 1, 1) := by decide +kernel
theorem dX12_readStep_109 : decode cX12_readStep 109 = .ok (.iadd, 1) := by decide +kernel
theorem dX12_readStep_110 : decode cX12_readStep 110 = .ok (.putfield 292, 3) := by decide +kernel
theorem dX12_readStep_113 : decode cX12_readStep 113 = .ok (.aload_n 0, 1) := by decide +kernel
theorem dX12_readStep_114 : decode cX12_readStep 114 = .ok (.invokevirtual 214, 3) := by decide +kernel
theorem dX12_readStep_117 : decode cX12_readStep 117 = .ok (.aload_n 0, 1) := by decide +kernel
theorem dX12_readStep_118 : decode cX12_readStep 118 = .ok (.getfield 35, 3) := by decide +kernel
theorem dX12_readStep_121 : decode cX12_readStep 121 = .ok (.iload 4, 2) := by decide +kernel
theorem dX12_readStep_123 : decode cX12_readStep 123 = .ok (.iload_n 2, 1) := by decide +kernel
theorem dX12_readStep_124 : decode cX12_readStep 124 = .ok (.iastore, 1) := by decide +kernel
theorem dX12_readStep_125 : decode cX12_readStep 125 = .ok (.aload_n 0, 1) := by decide +kernel
theorem dX12_readStep_126 : decode cX12_readStep 126 = .ok (.iload 4, 2) := by decide +kernel
theorem dX12_readStep_128 : decode cX12_readStep 128 = .ok (.invokevirtual 295, 3) := by decide +kernel
theorem dX12_readStep_131 : decode cX12_readStep 131 = .ok (.aload_n 0, 1) := by decide +kernel
theorem dX12_readStep_132 : decode cX12_readStep 132 = .ok (.aload_n 0, 1) := by decide +kernel
theorem dX12_readStep_133 : decode cX12_readStep 133 = .ok (.bipush 59, 2) := by decide +kernel
theorem dX12_readStep_135 : decode cX12_readStep 135 = .ok (.invokevirtual 277, 3) := by decide +kernel
theorem dX12_readStep_138 : decode cX12_readStep 138 = .ok (.invokevirtual 232, 3) := by decide +kernel
theorem dX12_readStep_141 : decode cX12_readStep 141 = .ok (.iload_n 3, 1) := by decide +kernel
theorem dX12_readStep_142 : decode cX12_readStep 142 = .ok (.ifCond .eq 27, 3) := by decide +kernel
theorem dX12_readStep_145 : decode cX12_readStep 145 = .ok (.aload_n 0, 1) := by decide +kernel
theorem dX12_readStep_146 : decode cX12_readStep 146 = .ok (.getfield 204, 3) := by decide +kernel
theorem dX12_readStep_149 : decode cX12_readStep 149 = .ok (.ifCond .ne 20, 3) := by decide +kernel
theorem dX12_readStep_152 : decode cX12_readStep 152 = .ok (.aload_n 0, 1) := by decide +kernel
theorem dX12_readStep_153 : decode cX12_readStep 153 = .ok (.invokevirtual 198, 3) := by decide +kernel
theorem dX12_readStep_156 : decode cX12_readStep 156 = .ok (.ifCond .ne 13, 3) := by decide +kernel
theorem dX12_readStep_159 : decode cX12_readStep 159 = .ok (.aload_n 0, 1) := by decide +kernel
theorem dX12_readStep_160 : decode cX12_readStep 160 = .ok (.iload_n 1, 1) := by decide +kernel
theorem dX12_readStep_161 : decode cX12_readStep 161 = .ok (.iconst 1, 1) := by decide +kernel
theorem dX12_readStep_162 : decode cX12_readStep 162 = .ok (.iadd, 1) := by decide +kernel
theorem dX12_readStep_163 : decode cX12_readStep 163 = .ok (.invokevirtual 298, 3) := by decide +kernel
theorem dX12_readStep_166 : decode cX12_readStep 166 = .ok (.goto (-25), 3) := by decide +kernel
theorem dX12_readStep_169 : decode cX12_readStep 169 = .ok (.iload_n 3, 1) := by decide +kernel
theorem dX12_readStep_170 : decode cX12_readStep 170 = .ok (.ifCond .eq 21, 3) := by decide +kernel
theorem dX12_readStep_173 : decode cX12_readStep 173 = .ok (.aload_n 0, 1) := by decide +kernel
theorem dX12_readStep_174 : decode cX12_readStep 174 = .ok (.aload_n 0, 1) := by decide +kernel
theorem dX12_readStep_175 : decode cX12_readStep 175 = .ok (.invokevirtual 198, 3) := by decide +kernel
theorem dX12_readStep_178 : decode cX12_readStep 178 = .ok (.invokevirtual 232, 3) := by decide +kernel
theorem dX12_readStep_181 : decode cX12_readStep 181 = .ok (.aload_n 0, 1) := by decide +kernel
theorem dX12_readStep_182 : decode cX12_readStep 182 = .ok (.aload_n 0, 1) := by decide +kernel
theorem dX12_readStep_183 : decode cX12_readStep 183 = .ok (.bipush 59, 2) := by decide +kernel
theorem dX12_readStep_185 : decode cX12_readStep 185 = .ok (.invokevirtual 277, 3) := by decide +kernel
theorem dX12_readStep_188 : decode cX12_readStep 188 = .ok (.invokevirtual 232, 3) := by decide +kernel
theorem dX12_readStep_191 : decode cX12_readStep 191 = .ok (.aload_n 0, 1) := by decide +kernel
theorem dX12_readStep_192 : decode cX12_readStep 192 = .ok (.getfield 35, 3) := by decide +kernel
theorem dX12_readStep_195 : decode cX12_readStep 195 = .ok (.iload 4, 2) := by decide +kernel
theorem dX12_readStep_197 : decode cX12_readStep 197 = .ok (.bipush 8, 2) := by decide +kernel
theorem dX12_readStep_199 : decode cX12_readStep 199 = .ok (.iadd, 1) := by decide +kernel
theorem dX12_readStep_200 : decode cX12_readStep 200 = .ok (.aload_n 0, 1) := by decide +kernel
theorem dX12_readStep_201 : decode cX12_readStep 201 = .ok (.getfield 292, 3) := by decide +kernel
theorem dX12_readStep_204 : decode cX12_readStep 204 = .ok (.iastore, 1) := by decide +kernel
theorem dX12_readStep_205 : decode cX12_readStep 205 = .ok (.return_, 1) := by decide +kernel
theorem dX12_nights_0 : decode cX12_nights 0 = .ok (.aload_n 0, 1) := by decide +kernel
theorem dX12_nights_1 : decode cX12_nights 1 = .ok (.iconst 0, 1) := by decide +kernel
theorem dX12_nights_2 : decode cX12_nights 2 = .ok (.putfield 72, 3) := by decide +kernel
theorem dX12_nights_5 : decode cX12_nights 5 = .ok (.aload_n 0, 1) := by decide +kernel
theorem dX12_nights_6 : decode cX12_nights 6 = .ok (.iconst 0, 1) := by decide +kernel
theorem dX12_nights_7 : decode cX12_nights 7 = .ok (.putfield 75, 3) := by decide +kernel
theorem dX12_nights_10 : decode cX12_nights 10 = .ok (.aload_n 0, 1) := by decide +kernel
theorem dX12_nights_11 : decode cX12_nights 11 = .ok (.iload_n 1, 1) := by decide +kernel
theorem dX12_nights_12 : decode cX12_nights 12 = .ok (.sipush 300, 3) := by decide +kernel
theorem dX12_nights_15 : decode cX12_nights 15 = .ok (.invokevirtual 271, 3) := by decide +kernel
theorem dX12_nights_18 : decode cX12_nights 18 = .ok (.ifCond .ne 5, 3) := by decide +kernel
theorem dX12_nights_21 : decode cX12_nights 21 = .ok (.iconst (-1), 1) := by decide +kernel
theorem dX12_nights_22 : decode cX12_nights 22 = .ok (.ireturn, 1) := by decide +kernel
theorem dX12_nights_23 : decode cX12_nights 23 = .ok (.aload_n 0, 1) := by decide +kernel
theorem dX12_nights_24 : decode cX12_nights 24 = .ok (.iconst 0, 1) := by decide +kernel
theorem dX12_nights_25 : decode cX12_nights 25 = .ok (.putfield 292, 3) := by decide +kernel
theorem dX12_nights_28 : decode cX12_nights 28 = .ok (.aload_n 0, 1) := by decide +kernel
theorem dX12_nights_29 : decode cX12_nights 29 = .ok (.getfield 204, 3) := by decide +kernel
theorem dX12_nights_32 : decode cX12_nights 32 = .ok (.ifCond .ne 18, 3) := by decide +kernel
theorem dX12_nights_35 : decode cX12_nights 35 = .ok (.aload_n 0, 1) := by decide +kernel
theorem dX12_nights_36 : decode cX12_nights 36 = .ok (.getfield 123, 3) := by decide +kernel
theorem dX12_nights_39 : decode cX12_nights 39 = .ok (.ifCond .eq 11, 3) := by decide +kernel
theorem dX12_nights_42 : decode cX12_nights 42 = .ok (.aload_n 0, 1) := by decide +kernel
theorem dX12_nights_43 : decode cX12_nights 43 = .ok (.iconst 0, 1) := by decide +kernel
theorem dX12_nights_44 : decode cX12_nights 44 = .ok (.invokevirtual 298, 3) := by decide +kernel
theorem dX12_nights_47 : decode cX12_nights 47 = .ok (.goto (-19), 3) := by decide +kernel
theorem dX12_nights_50 : decode cX12_nights 50 = .ok (.aload_n 0, 1) := by decide +kernel
theorem dX12_nights_51 : decode cX12_nights 51 = .ok (.invokevirtual 280, 3) := by decide +kernel
theorem dX12_nights_54 : decode cX12_nights 54 = .ok (.ifCond .ne 5, 3) := by decide +kernel
theorem dX12_nights_57 : decode cX12_nights 57 = .ok (.iconst (-1), 1) := by decide +kernel
theorem dX12_nights_58 : decode cX12_nights 58 = .ok (.ireturn, 1) := by decide +kernel
theorem dX12_nights_59 : decode cX12_nights 59 = .ok (.aload_n 0, 1) := by decide +kernel
theorem dX12_nights_60 : decode cX12_nights 60 = .ok (.getfield 35, 3) := by decide +kernel
theorem dX12_nights_63 : decode cX12_nights 63 = .ok (.sipush 128, 3) := by decide +kernel
theorem dX12_nights_66 : decode cX12_nights 66 = .ok (.iconst 1, 1) := by decide +kernel
theorem dX12_nights_67 : decode cX12_nights 67 = .ok (.iastore, 1) := by decide +kernel
theorem dX12_nights_68 : decode cX12_nights 68 = .ok (.aload_n 0, 1) := by decide +kernel
theorem dX12_nights_69 : decode cX12_nights 69 = .ok (.getfield 35, 3) := by decide +kernel
theorem dX12_nights_72 : decode cX12_nights 72 = .ok (.sipush 129, 3) := by decide +kernel
theorem dX12_nights_75 : decode cX12_nights 75 = .ok (.aload_n 0, 1) := by decide +kernel
theorem dX12_nights_76 : decode cX12_nights 76 = .ok (.getfield 292, 3) := by decide +kernel
theorem dX12_nights_79 : decode cX12_nights 79 = .ok (.iastore, 1) := by decide +kernel
theorem dX12_nights_80 : decode cX12_nights 80 = .ok (.iconst 0, 1) := by decide +kernel
theorem dX12_nights_81 : decode cX12_nights 81 = .ok (.istore_n 2, 1) := by decide +kernel
theorem dX12_nights_82 : decode cX12_nights 82 = .ok (.iload_n 2, 1) := by decide +kernel
theorem dX12_nights_83 : decode cX12_nights 83 = .ok (.bipush 9, 2) := by decide +kernel
theorem dX12_nights_85 : decode cX12_nights 85 = .ok (.aload_n 0, 1) := by decide +kernel
theorem dX12_nights_86 : decode cX12_nights 86 = .ok (.getfield 292, 3) := by decide +kernel
theorem dX12_nights_89 : decode cX12_nights 89 = .ok (.imul, 1) := by decide +kernel
theorem dX12_nights_90 : decode cX12_nights 90 = .ok (.if_icmp .ge 29, 3) := by decide +kernel
theorem dX12_nights_93 : decode cX12_nights 93 = .ok (.aload_n 0, 1) := by decide +kernel
theorem dX12_nights_94 : decode cX12_nights 94 = .ok (.getfield 35, 3) := by decide +kernel
theorem dX12_nights_97 : decode cX12_nights 97 = .ok (.sipush 130, 3) := by decide +kernel
theorem dX12_nights_100 : decode cX12_nights 100 = .ok (.iload_n 2, 1) := by decide +kernel
theorem dX12_nights_101 : decode cX12_nights 101 = .ok (.iadd, 1) := by decide +kernel
theorem dX12_nights_102 : decode cX12_nights 102 = .ok (.aload_n 0, 1) := by decide +kernel
theorem dX12_nights_103 : decode cX12_nights 103 = .ok (.getfield 35, 3) := by decide +kernel
theorem dX12_nights_106 : decode cX12_nights 106 = .ok (.sipush 1730, 3) := by decide +kernel
theorem dX12_nights_109 : decode cX12_nights 109 = .ok (.iload_n 2, 1) := by decide +kernel
theorem dX12_nights_110 : decode cX12_nights 110 = .ok (.iadd, 1) := by decide +kernel
theorem dX12_nights_111 : decode cX12_nights 111 = .ok (.iaload, 1) := by decide +kernel
theorem dX12_nights_112 : decode cX12_nights 112 = .ok (.iastore, 1) := by decide +kernel
theorem dX12_nights_113 : decode cX12_nights 113 = .ok (.iinc 2 1, 3) := by decide +kernel
theorem dX12_nights_116 : decode cX12_nights 116 = .ok (.goto (-34), 3) := by decide +kernel
theorem dX12_nights_119 : decode cX12_nights 119 = .ok (.aload_n 0, 1) := by decide +kernel
theorem dX12_nights_120 : decode cX12_nights 120 = .ok (.getfield 292, 3) := by decide +kernel
theorem dX12_nights_123 : decode cX12_nights 123 = .ok (.ireturn, 1) := by decide +kernel
theorem dX12_cells_0 : decode cX12_cells 0 = .ok (.aload_n 0, 1) := by decide +kernel
theorem dX12_cells_1 : decode cX12_cells 1 = .ok (.getfield 35, 3) := by decide +kernel
theorem dX12_cells_4 : decode cX12_cells 4 = .ok (.iconst 0, 1) := by decide +kernel
theorem dX12_cells_5 : decode cX12_cells 5 = .ok (.iaload, 1) := by decide +kernel
theorem dX12_cells_6 : decode cX12_cells 6 = .ok (.aload_n 0, 1) := by decide +kernel
theorem dX12_cells_7 : decode cX12_cells 7 = .ok (.getfield 35, 3) := by decide +kernel
theorem dX12_cells_10 : decode cX12_cells 10 = .ok (.iconst 2, 1) := by decide +kernel
theorem dX12_cells_11 : decode cX12_cells 11 = .ok (.iaload, 1) := by decide +kernel
theorem dX12_cells_12 : decode cX12_cells 12 = .ok (.imul, 1) := by decide +kernel
theorem dX12_cells_13 : decode cX12_cells 13 = .ok (.ireturn, 1) := by decide +kernel
theorem dX12_isCellAt_0 : decode cX12_isCellAt 0 = .ok (.iload_n 1, 1) := by decide +kernel
theorem dX12_isCellAt_1 : decode cX12_isCellAt 1 = .ok (.i2l, 1) := by decide +kernel
theorem dX12_isCellAt_2 : decode cX12_isCellAt 2 = .ok (.lconst 0, 1) := by decide +kernel
theorem dX12_isCellAt_3 : decode cX12_isCellAt 3 = .ok (.aload_n 0, 1) := by decide +kernel
theorem dX12_isCellAt_4 : decode cX12_isCellAt 4 = .ok (.invokevirtual 301, 3) := by decide +kernel
theorem dX12_isCellAt_7 : decode cX12_isCellAt 7 = .ok (.iconst 1, 1) := by decide +kernel
theorem dX12_isCellAt_8 : decode cX12_isCellAt 8 = .ok (.isub, 1) := by decide +kernel
theorem dX12_isCellAt_9 : decode cX12_isCellAt 9 = .ok (.i2l, 1) := by decide +kernel
theorem dX12_isCellAt_10 : decode cX12_isCellAt 10 = .ok (.invokestatic 107, 3) := by decide +kernel
theorem dX12_isCellAt_13 : decode cX12_isCellAt 13 = .ok (.ireturn, 1) := by decide +kernel
theorem dX12_isAccountAt_0 : decode cX12_isAccountAt 0 = .ok (.iload_n 1, 1) := by decide +kernel
theorem dX12_isAccountAt_1 : decode cX12_isAccountAt 1 = .ok (.i2l, 1) := by decide +kernel
theorem dX12_isAccountAt_2 : decode cX12_isAccountAt 2 = .ok (.lconst 0, 1) := by decide +kernel
theorem dX12_isAccountAt_3 : decode cX12_isAccountAt 3 = .ok (.aload_n 0, 1) := by decide +kernel
theorem dX12_isAccountAt_4 : decode cX12_isAccountAt 4 = .ok (.getfield 35, 3) := by decide +kernel
theorem dX12_isAccountAt_7 : decode cX12_isAccountAt 7 = .ok (.iconst 0, 1) := by decide +kernel
theorem dX12_isAccountAt_8 : decode cX12_isAccountAt 8 = .ok (.iaload, 1) := by decide +kernel
theorem dX12_isAccountAt_9 : decode cX12_isAccountAt 9 = .ok (.iconst 1, 1) := by decide +kernel
theorem dX12_isAccountAt_10 : decode cX12_isAccountAt 10 = .ok (.isub, 1) := by decide +kernel
theorem dX12_isAccountAt_11 : decode cX12_isAccountAt 11 = .ok (.i2l, 1) := by decide +kernel
theorem dX12_isAccountAt_12 : decode cX12_isAccountAt 12 = .ok (.invokestatic 107, 3) := by decide +kernel
theorem dX12_isAccountAt_15 : decode cX12_isAccountAt 15 = .ok (.ireturn, 1) := by decide +kernel
theorem dX12_isLawAt_0 : decode cX12_isLawAt 0 = .ok (.iload_n 1, 1) := by decide +kernel
theorem dX12_isLawAt_1 : decode cX12_isLawAt 1 = .ok (.i2l, 1) := by decide +kernel
theorem dX12_isLawAt_2 : decode cX12_isLawAt 2 = .ok (.lconst 0, 1) := by decide +kernel
theorem dX12_isLawAt_3 : decode cX12_isLawAt 3 = .ok (.aload_n 0, 1) := by decide +kernel
theorem dX12_isLawAt_4 : decode cX12_isLawAt 4 = .ok (.getfield 35, 3) := by decide +kernel
theorem dX12_isLawAt_7 : decode cX12_isLawAt 7 = .ok (.iconst 1, 1) := by decide +kernel
theorem dX12_isLawAt_8 : decode cX12_isLawAt 8 = .ok (.iaload, 1) := by decide +kernel
theorem dX12_isLawAt_9 : decode cX12_isLawAt 9 = .ok (.iconst 1, 1) := by decide +kernel
theorem dX12_isLawAt_10 : decode cX12_isLawAt 10 = .ok (.isub, 1) := by decide +kernel
theorem dX12_isLawAt_11 : decode cX12_isLawAt 11 = .ok (.i2l, 1) := by decide +kernel
theorem dX12_isLawAt_12 : decode cX12_isLawAt 12 = .ok (.invokestatic 107, 3) := by decide +kernel
theorem dX12_isLawAt_15 : decode cX12_isLawAt 15 = .ok (.ireturn, 1) := by decide +kernel
theorem dX12_isWrong_0 : decode cX12_isWrong 0 = .ok (.aload_n 0, 1) := by decide +kernel
theorem dX12_isWrong_1 : decode cX12_isWrong 1 = .ok (.getfield 35, 3) := by decide +kernel
theorem dX12_isWrong_4 : decode cX12_isWrong 4 = .ok (.bipush 13, 2) := by decide +kernel
theorem dX12_isWrong_6 : decode cX12_isWrong 6 = .ok (.iload_n 1, 1) := by decide +kernel
theorem dX12_isWrong_7 : decode cX12_isWrong 7 = .ok (.iadd, 1) := by decide +kernel
theorem dX12_isWrong_8 : decode cX12_isWrong 8 = .ok (.iaload, 1) := by decide +kernel
theorem dX12_isWrong_9 : decode cX12_isWrong 9 = .ok (.aload_n 0, 1) := by decide +kernel
theorem dX12_isWrong_10 : decode cX12_isWrong 10 = .ok (.getfield 35, 3) := by decide +kernel
theorem dX12_isWrong_13 : decode cX12_isWrong 13 = .ok (.bipush 38, 2) := by decide +kernel
theorem dX12_isWrong_15 : decode cX12_isWrong 15 = .ok (.iload_n 1, 1) := by decide +kernel
theorem dX12_isWrong_16 : decode cX12_isWrong 16 = .ok (.iadd, 1) := by decide +kernel
theorem dX12_isWrong_17 : decode cX12_isWrong 17 = .ok (.iaload, 1) := by decide +kernel
theorem dX12_isWrong_18 : decode cX12_isWrong 18 = .ok (.if_icmp .eq 7, 3) := by decide +kernel
theorem dX12_isWrong_21 : decode cX12_isWrong 21 = .ok (.iconst 1, 1) := by decide +kernel
theorem dX12_isWrong_22 : decode cX12_isWrong 22 = .ok (.goto 4, 3) := by decide +kernel
theorem dX12_isWrong_25 : decode cX12_isWrong 25 = .ok (.iconst 0, 1) := by decide +kernel
theorem dX12_isWrong_26 : decode cX12_isWrong 26 = .ok (.ireturn, 1) := by decide +kernel
theorem dX12_wrongOf_0 : decode cX12_wrongOf 0 = .ok (.iconst 0, 1) := by decide +kernel
theorem dX12_wrongOf_1 : decode cX12_wrongOf 1 = .ok (.istore_n 2, 1) := by decide +kernel
theorem dX12_wrongOf_2 : decode cX12_wrongOf 2 = .ok (.iconst 0, 1) := by decide +kernel
theorem dX12_wrongOf_3 : decode cX12_wrongOf 3 = .ok (.istore_n 3, 1) := by decide +kernel
theorem dX12_wrongOf_4 : decode cX12_wrongOf 4 = .ok (.iload_n 3, 1) := by decide +kernel
theorem dX12_wrongOf_5 : decode cX12_wrongOf 5 = .ok (.aload_n 0, 1) := by decide +kernel
theorem dX12_wrongOf_6 : decode cX12_wrongOf 6 = .ok (.invokevirtual 301, 3) := by decide +kernel
theorem dX12_wrongOf_9 : decode cX12_wrongOf 9 = .ok (.if_icmp .ge 33, 3) := by decide +kernel
theorem dX12_wrongOf_12 : decode cX12_wrongOf 12 = .ok (.iload_n 2, 1) := by decide +kernel
theorem dX12_wrongOf_13 : decode cX12_wrongOf 13 = .ok (.iload_n 1, 1) := by decide +kernel
theorem dX12_wrongOf_14 : decode cX12_wrongOf 14 = .ok (.iload_n 3, 1) := by decide +kernel
theorem dX12_wrongOf_15 : decode cX12_wrongOf 15 = .ok (.invokestatic 242, 3) := by decide +kernel
theorem dX12_wrongOf_18 : decode cX12_wrongOf 18 = .ok (.ifCond .eq 15, 3) := by decide +kernel
theorem dX12_wrongOf_21 : decode cX12_wrongOf 21 = .ok (.aload_n 0, 1) := by decide +kernel
theorem dX12_wrongOf_22 : decode cX12_wrongOf 22 = .ok (.iload_n 3, 1) := by decide +kernel
theorem dX12_wrongOf_23 : decode cX12_wrongOf 23 = .ok (.invokevirtual 304, 3) := by decide +kernel
theorem dX12_wrongOf_26 : decode cX12_wrongOf 26 = .ok (.ifCond .eq 7, 3) := by decide +kernel
theorem dX12_wrongOf_29 : decode cX12_wrongOf 29 = .ok (.iconst 1, 1) := by decide +kernel
theorem dX12_wrongOf_30 : decode cX12_wrongOf 30 = .ok (.goto 4, 3) := by decide +kernel
theorem dX12_wrongOf_33 : decode cX12_wrongOf 33 = .ok (.iconst 0, 1) := by decide +kernel
theorem dX12_wrongOf_34 : decode cX12_wrongOf 34 = .ok (.iadd, 1) := by decide +kernel
theorem dX12_wrongOf_35 : decode cX12_wrongOf 35 = .ok (.istore_n 2, 1) := by decide +kernel
theorem dX12_wrongOf_36 : decode cX12_wrongOf 36 = .ok (.iinc 3 1, 3) := by decide +kernel
theorem dX12_wrongOf_39 : decode cX12_wrongOf 39 = .ok (.goto (-35), 3) := by decide +kernel
theorem dX12_wrongOf_42 : decode cX12_wrongOf 42 = .ok (.iload_n 2, 1) := by decide +kernel
theorem dX12_wrongOf_43 : decode cX12_wrongOf 43 = .ok (.ireturn, 1) := by decide +kernel
theorem dX12_allWrong_0 : decode cX12_allWrong 0 = .ok (.aload_n 0, 1) := by decide +kernel
theorem dX12_allWrong_1 : decode cX12_allWrong 1 = .ok (.iconst (-1), 1) := by decide +kernel
theorem dX12_allWrong_2 : decode cX12_allWrong 2 = .ok (.invokevirtual 307, 3) := by decide +kernel
theorem dX12_allWrong_5 : decode cX12_allWrong 5 = .ok (.ireturn, 1) := by decide +kernel
theorem dX12_tappedSet_0 : decode cX12_tappedSet 0 = .ok (.iconst 0, 1) := by decide +kernel
theorem dX12_tappedSet_1 : decode cX12_tappedSet 1 = .ok (.istore_n 1, 1) := by decide +kernel
theorem dX12_tappedSet_2 : decode cX12_tappedSet 2 = .ok (.iconst 0, 1) := by decide +kernel
theorem dX12_tappedSet_3 : decode cX12_tappedSet 3 = .ok (.istore_n 2, 1) := by decide +kernel
theorem dX12_tappedSet_4 : decode cX12_tappedSet 4 = .ok (.iload_n 2, 1) := by decide +kernel
theorem dX12_tappedSet_5 : decode cX12_tappedSet 5 = .ok (.aload_n 0, 1) := by decide +kernel
theorem dX12_tappedSet_6 : decode cX12_tappedSet 6 = .ok (.invokevirtual 301, 3) := by decide +kernel
theorem dX12_tappedSet_9 : decode cX12_tappedSet 9 = .ok (.if_icmp .ge 31, 3) := by decide +kernel
theorem dX12_tappedSet_12 : decode cX12_tappedSet 12 = .ok (.iload_n 1, 1) := by decide +kernel
theorem dX12_tappedSet_13 : decode cX12_tappedSet 13 = .ok (.aload_n 0, 1) := by decide +kernel
theorem dX12_tappedSet_14 : decode cX12_tappedSet 14 = .ok (.getfield 35, 3) := by decide +kernel
theorem dX12_tappedSet_17 : decode cX12_tappedSet 17 = .ok (.bipush 63, 2) := by decide +kernel
theorem dX12_tappedSet_19 : decode cX12_tappedSet 19 = .ok (.iload_n 2, 1) := by decide +kernel
theorem dX12_tappedSet_20 : decode cX12_tappedSet 20 = .ok (.iadd, 1) := by decide +kernel
theorem dX12_tappedSet_21 : decode cX12_tappedSet 21 = .ok (.iaload, 1) := by decide +kernel
theorem dX12_tappedSet_22 : decode cX12_tappedSet 22 = .ok (.ifCond .le 9, 3) := by decide +kernel
theorem dX12_tappedSet_25 : decode cX12_tappedSet 25 = .ok (.iconst 1, 1) := by decide +kernel
theorem dX12_tappedSet_26 : decode cX12_tappedSet 26 = .ok (.iload_n 2, 1) := by decide +kernel
theorem dX12_tappedSet_27 : decode cX12_tappedSet 27 = .ok (.ishl, 1) := by decide +kernel
theorem dX12_tappedSet_28 : decode cX12_tappedSet 28 = .ok (.goto 4, 3) := by decide +kernel
theorem dX12_tappedSet_31 : decode cX12_tappedSet 31 = .ok (.iconst 0, 1) := by decide +kernel
theorem dX12_tappedSet_32 : decode cX12_tappedSet 32 = .ok (.ior, 1) := by decide +kernel
theorem dX12_tappedSet_33 : decode cX12_tappedSet 33 = .ok (.istore_n 1, 1) := by decide +kernel
theorem dX12_tappedSet_34 : decode cX12_tappedSet 34 = .ok (.iinc 2 1, 3) := by decide +kernel
theorem dX12_tappedSet_37 : decode cX12_tappedSet 37 = .ok (.goto (-33), 3) := by decide +kernel
theorem dX12_tappedSet_40 : decode cX12_tappedSet 40 = .ok (.iload_n 1, 1) := by decide +kernel
theorem dX12_tappedSet_41 : decode cX12_tappedSet 41 = .ok (.ireturn, 1) := by decide +kernel
theorem dX12_sumOf_0 : decode cX12_sumOf 0 = .ok (.iconst 0, 1) := by decide +kernel
theorem dX12_sumOf_1 : decode cX12_sumOf 1 = .ok (.istore_n 3, 1) := by decide +kernel
theorem dX12_sumOf_2 : decode cX12_sumOf 2 = .ok (.iconst 0, 1) := by decide +kernel
theorem dX12_sumOf_3 : decode cX12_sumOf 3 = .ok (.istore 4, 2) := by decide +kernel
theorem dX12_sumOf_5 : decode cX12_sumOf 5 = .ok (.iload 4, 2) := by decide +kernel
theorem dX12_sumOf_7 : decode cX12_sumOf 7 = .ok (.aload_n 0, 1) := by decide +kernel
theorem dX12_sumOf_8 : decode cX12_sumOf 8 = .ok (.getfield 35, 3) := by decide +kernel
theorem dX12_sumOf_11 : decode cX12_sumOf 11 = .ok (.iconst 2, 1) := by decide +kernel
theorem dX12_sumOf_12 : decode cX12_sumOf 12 = .ok (.iaload, 1) := by decide +kernel
theorem dX12_sumOf_13 : decode cX12_sumOf 13 = .ok (.if_icmp .ge 33, 3) := by decide +kernel
theorem dX12_sumOf_16 : decode cX12_sumOf 16 = .ok (.bipush 10, 2) := by decide +kernel
theorem dX12_sumOf_18 : decode cX12_sumOf 18 = .ok (.iload_n 3, 1) := by decide +kernel
theorem dX12_sumOf_19 : decode cX12_sumOf 19 = .ok (.imul, 1) := by decide +kernel
theorem dX12_sumOf_20 : decode cX12_sumOf 20 = .ok (.aload_n 0, 1) := by decide +kernel
theorem dX12_sumOf_21 : decode cX12_sumOf 21 = .ok (.getfield 35, 3) := by decide +kernel
theorem dX12_sumOf_24 : decode cX12_sumOf 24 = .ok (.iload_n 1, 1) := by decide +kernel
theorem dX12_sumOf_25 : decode cX12_sumOf 25 = .ok (.aload_n 0, 1) := by decide +kernel
theorem dX12_sumOf_26 : decode cX12_sumOf 26 = .ok (.getfield 35, 3) := by decide +kernel
theorem dX12_sumOf_29 : decode cX12_sumOf 29 = .ok (.iconst 2, 1) := by decide +kernel
theorem dX12_sumOf_30 : decode cX12_sumOf 30 = .ok (.iaload, 1) := by decide +kernel
theorem dX12_sumOf_31 : decode cX12_sumOf 31 = .ok (.iload_n 2, 1) := by decide +kernel
theorem dX12_sumOf_32 : decode cX12_sumOf 32 = .ok (.imul, 1) := by decide +kernel
theorem dX12_sumOf_33 : decode cX12_sumOf 33 = .ok (.iadd, 1) := by decide +kernel
theorem dX12_sumOf_34 : decode cX12_sumOf 34 = .ok (.iload 4, 2) := by decide +kernel
theorem dX12_sumOf_36 : decode cX12_sumOf 36 = .ok (.iadd, 1) := by decide +kernel
theorem dX12_sumOf_37 : decode cX12_sumOf 37 = .ok (.iaload, 1) := by decide +kernel
theorem dX12_sumOf_38 : decode cX12_sumOf 38 = .ok (.iadd, 1) := by decide +kernel
theorem dX12_sumOf_39 : decode cX12_sumOf 39 = .ok (.istore_n 3, 1) := by decide +kernel
theorem dX12_sumOf_40 : decode cX12_sumOf 40 = .ok (.iinc 4 1, 3) := by decide +kernel
theorem dX12_sumOf_43 : decode cX12_sumOf 43 = .ok (.goto (-38), 3) := by decide +kernel
theorem dX12_sumOf_46 : decode cX12_sumOf 46 = .ok (.iload_n 3, 1) := by decide +kernel
theorem dX12_sumOf_47 : decode cX12_sumOf 47 = .ok (.ireturn, 1) := by decide +kernel
theorem dX12_balanced_0 : decode cX12_balanced 0 = .ok (.iconst 0, 1) := by decide +kernel
theorem dX12_balanced_1 : decode cX12_balanced 1 = .ok (.istore_n 1, 1) := by decide +kernel
theorem dX12_balanced_2 : decode cX12_balanced 2 = .ok (.iconst 0, 1) := by decide +kernel
theorem dX12_balanced_3 : decode cX12_balanced 3 = .ok (.istore_n 2, 1) := by decide +kernel
theorem dX12_balanced_4 : decode cX12_balanced 4 = .ok (.iload_n 2, 1) := by decide +kernel
theorem dX12_balanced_5 : decode cX12_balanced 5 = .ok (.aload_n 0, 1) := by decide +kernel
theorem dX12_balanced_6 : decode cX12_balanced 6 = .ok (.getfield 35, 3) := by decide +kernel
theorem dX12_balanced_9 : decode cX12_balanced 9 = .ok (.iconst 0, 1) := by decide +kernel
theorem dX12_balanced_10 : decode cX12_balanced 10 = .ok (.iaload, 1) := by decide +kernel
theorem dX12_balanced_11 : decode cX12_balanced 11 = .ok (.if_icmp .ge 42, 3) := by decide +kernel
theorem dX12_balanced_14 : decode cX12_balanced 14 = .ok (.iload_n 1, 1) := by decide +kernel
theorem dX12_balanced_15 : decode cX12_balanced 15 = .ok (.aload_n 0, 1) := by decide +kernel
theorem dX12_balanced_16 : decode cX12_balanced 16 = .ok (.getfield 35, 3) := by decide +kernel
theorem dX12_balanced_19 : decode cX12_balanced 19 = .ok (.bipush 8, 2) := by decide +kernel
theorem dX12_balanced_21 : decode cX12_balanced 21 = .ok (.iload_n 2, 1) := by decide +kernel
theorem dX12_balanced_22 : decode cX12_balanced 22 = .ok (.iadd, 1) := by decide +kernel
theorem dX12_balanced_23 : decode cX12_balanced 23 = .ok (.iaload, 1) := by decide +kernel
theorem dX12_balanced_24 : decode cX12_balanced 24 = .ok (.ifCond .ne 13, 3) := by decide +kernel
theorem dX12_balanced_27 : decode cX12_balanced 27 = .ok (.aload_n 0, 1) := by decide +kernel
theorem dX12_balanced_28 : decode cX12_balanced 28 = .ok (.bipush 13, 2) := by decide +kernel
theorem dX12_balanced_30 : decode cX12_balanced 30 = .ok (.iload_n 2, 1) := by decide +kernel
theorem dX12_balanced_31 : decode cX12_balanced 31 = .ok (.invokevirtual 310, 3) := by decide +kernel
theorem dX12_balanced_34 : decode cX12_balanced 34 = .ok (.goto 11, 3) := by decide +kernel
theorem dX12_balanced_37 : decode cX12_balanced 37 = .ok (.aload_n 0, 1) := by decide +kernel
theorem dX12_balanced_38 : decode cX12_balanced 38 = .ok (.bipush 13, 2) := by decide +kernel
theorem dX12_balanced_40 : decode cX12_balanced 40 = .ok (.iload_n 2, 1) := by decide +kernel
theorem dX12_balanced_41 : decode cX12_balanced 41 = .ok (.invokevirtual 310, 3) := by decide +kernel
theorem dX12_balanced_44 : decode cX12_balanced 44 = .ok (.ineg, 1) := by decide +kernel
theorem dX12_balanced_45 : decode cX12_balanced 45 = .ok (.iadd, 1) := by decide +kernel
theorem dX12_balanced_46 : decode cX12_balanced 46 = .ok (.istore_n 1, 1) := by decide +kernel
theorem dX12_balanced_47 : decode cX12_balanced 47 = .ok (.iinc 2 1, 3) := by decide +kernel
theorem dX12_balanced_50 : decode cX12_balanced 50 = .ok (.goto (-46), 3) := by decide +kernel
theorem dX12_balanced_53 : decode cX12_balanced 53 = .ok (.iload_n 1, 1) := by decide +kernel
theorem dX12_balanced_54 : decode cX12_balanced 54 = .ok (.ireturn, 1) := by decide +kernel
theorem dX12_isEven_0 : decode cX12_isEven 0 = .ok (.aload_n 0, 1) := by decide +kernel
theorem dX12_isEven_1 : decode cX12_isEven 1 = .ok (.invokevirtual 313, 3) := by decide +kernel
theorem dX12_isEven_4 : decode cX12_isEven 4 = .ok (.ifCond .ne 7, 3) := by decide +kernel
theorem dX12_isEven_7 : decode cX12_isEven 7 = .ok (.iconst 1, 1) := by decide +kernel
theorem dX12_isEven_8 : decode cX12_isEven 8 = .ok (.goto 4, 3) := by decide +kernel
theorem dX12_isEven_11 : decode cX12_isEven 11 = .ok (.iconst 0, 1) := by decide +kernel
theorem dX12_isEven_12 : decode cX12_isEven 12 = .ok (.ireturn, 1) := by decide +kernel
theorem dX12_many_0 : decode cX12_many 0 = .ok (.aload_n 0, 1) := by decide +kernel
theorem dX12_many_1 : decode cX12_many 1 = .ok (.iconst 0, 1) := by decide +kernel
theorem dX12_many_2 : decode cX12_many 2 = .ok (.putfield 72, 3) := by decide +kernel
theorem dX12_many_5 : decode cX12_many 5 = .ok (.aload_n 0, 1) := by decide +kernel
theorem dX12_many_6 : decode cX12_many 6 = .ok (.iconst 0, 1) := by decide +kernel
theorem dX12_many_7 : decode cX12_many 7 = .ok (.putfield 75, 3) := by decide +kernel
theorem dX12_many_10 : decode cX12_many 10 = .ok (.iload_n 1, 1) := by decide +kernel
theorem dX12_many_11 : decode cX12_many 11 = .ok (.i2l, 1) := by decide +kernel
theorem dX12_many_12 : decode cX12_many 12 = .ok (.lconst 0, 1) := by decide +kernel
theorem dX12_many_13 : decode cX12_many 13 = .ok (.ldc2_w 316, 3) := by decide +kernel
theorem dX12_many_16 : decode cX12_many 16 = .ok (.invokestatic 107, 3) := by decide +kernel
theorem dX12_many_19 : decode cX12_many 19 = .ok (.ifCond .ne 9, 3) := by decide +kernel
theorem dX12_many_22 : decode cX12_many 22 = .ok (.aload_n 0, 1) := by decide +kernel
theorem dX12_many_23 : decode cX12_many 23 = .ok (.iconst 5, 1) := by decide +kernel
theorem dX12_many_24 : decode cX12_many 24 = .ok (.invokevirtual 318, 3) := by decide +kernel
theorem dX12_many_27 : decode cX12_many 27 = .ok (.ireturn, 1) := by decide +kernel
theorem dX12_many_28 : decode cX12_many 28 = .ok (.iload_n 1, 1) := by decide +kernel
theorem dX12_many_29 : decode cX12_many 29 = .ok (.bipush 6, 2) := by decide +kernel
theorem dX12_many_31 : decode cX12_many 31 = .ok (.if_icmp .ge 10, 3) := by decide +kernel
theorem dX12_many_34 : decode cX12_many 34 = .ok (.aload_n 0, 1) := by decide +kernel
theorem dX12_many_35 : decode cX12_many 35 = .ok (.getfield 35, 3) := by decide +kernel
theorem dX12_many_38 : decode cX12_many 38 = .ok (.iload_n 1, 1) := by decide +kernel
theorem dX12_many_39 : decode cX12_many 39 = .ok (.iaload, 1) := by decide +kernel
theorem dX12_many_40 : decode cX12_many 40 = .ok (.ireturn, 1) := by decide +kernel
theorem dX12_many_41 : decode cX12_many 41 = .ok (.iload_n 1, 1) := by decide +kernel
theorem dX12_many_42 : decode cX12_many 42 = .ok (.bipush 6, 2) := by decide +kernel
theorem dX12_many_44 : decode cX12_many 44 = .ok (.if_icmp .ne 8, 3) := by decide +kernel
theorem dX12_many_47 : decode cX12_many 47 = .ok (.aload_n 0, 1) := by decide +kernel
theorem dX12_many_48 : decode cX12_many 48 = .ok (.invokevirtual 301, 3) := by decide +kernel
theorem dX12_many_51 : decode cX12_many 51 = .ok (.ireturn, 1) := by decide +kernel
theorem dX12_many_52 : decode cX12_many 52 = .ok (.iload_n 1, 1) := by decide +kernel
theorem dX12_many_53 : decode cX12_many 53 = .ok (.bipush 7, 2) := by decide +kernel
theorem dX12_many_55 : decode cX12_many 55 = .ok (.if_icmp .ne 10, 3) := by decide +kernel
theorem dX12_many_58 : decode cX12_many 58 = .ok (.aload_n 0, 1) := by decide +kernel
theorem dX12_many_59 : decode cX12_many 59 = .ok (.invokevirtual 321, 3) := by decide +kernel
theorem dX12_many_62 : decode cX12_many 62 = .ok (.goto 44, 3) := by decide +kernel
theorem dX12_many_65 : decode cX12_many 65 = .ok (.iload_n 1, 1) := by decide +kernel
theorem dX12_many_66 : decode cX12_many 66 = .ok (.bipush 8, 2) := by decide +kernel
theorem dX12_many_68 : decode cX12_many 68 = .ok (.if_icmp .ne 10, 3) := by decide +kernel
theorem dX12_many_71 : decode cX12_many 71 = .ok (.aload_n 0, 1) := by decide +kernel
theorem dX12_many_72 : decode cX12_many 72 = .ok (.invokevirtual 324, 3) := by decide +kernel
theorem dX12_many_75 : decode cX12_many 75 = .ok (.goto 31, 3) := by decide +kernel
theorem dX12_many_78 : decode cX12_many 78 = .ok (.iload_n 1, 1) := by decide +kernel
theorem dX12_many_79 : decode cX12_many 79 = .ok (.bipush 9, 2) := by decide +kernel
theorem dX12_many_81 : decode cX12_many 81 = .ok (.if_icmp .ne 13, 3) := by decide +kernel
theorem dX12_many_84 : decode cX12_many 84 = .ok (.aload_n 0, 1) := by decide +kernel
theorem dX12_many_85 : decode cX12_many 85 = .ok (.getfield 35, 3) := by decide +kernel
theorem dX12_many_88 : decode cX12_many 88 = .ok (.bipush 6, 2) := by decide +kernel
theorem dX12_many_90 : decode cX12_many 90 = .ok (.iaload, 1) := by decide +kernel
theorem dX12_many_91 : decode cX12_many 91 = .ok (.goto 15, 3) := by decide +kernel
theorem dX12_many_94 : decode cX12_many 94 = .ok (.aload_n 0, 1) := by decide +kernel
theorem dX12_many_95 : decode cX12_many 95 = .ok (.invokevirtual 327, 3) := by decide +kernel
theorem dX12_many_98 : decode cX12_many 98 = .ok (.ifCond .eq 7, 3) := by decide +kernel
theorem dX12_many_101 : decode cX12_many 101 = .ok (.iconst 1, 1) := by decide +kernel
theorem dX12_many_102 : decode cX12_many 102 = .ok (.goto 4, 3) := by decide +kernel
theorem dX12_many_105 : decode cX12_many 105 = .ok (.iconst 0, 1) := by decide +kernel
theorem dX12_many_106 : decode cX12_many 106 = .ok (.ireturn, 1) := by decide +kernel
theorem dX12_cell_0 : decode cX12_cell 0 = .ok (.aload_n 0, 1) := by decide +kernel
theorem dX12_cell_1 : decode cX12_cell 1 = .ok (.iconst 0, 1) := by decide +kernel
theorem dX12_cell_2 : decode cX12_cell 2 = .ok (.putfield 72, 3) := by decide +kernel
theorem dX12_cell_5 : decode cX12_cell 5 = .ok (.aload_n 0, 1) := by decide +kernel
theorem dX12_cell_6 : decode cX12_cell 6 = .ok (.iconst 0, 1) := by decide +kernel
theorem dX12_cell_7 : decode cX12_cell 7 = .ok (.putfield 75, 3) := by decide +kernel
theorem dX12_cell_10 : decode cX12_cell 10 = .ok (.aload_n 0, 1) := by decide +kernel
theorem dX12_cell_11 : decode cX12_cell 11 = .ok (.iload_n 1, 1) := by decide +kernel
theorem dX12_cell_12 : decode cX12_cell 12 = .ok (.invokevirtual 330, 3) := by decide +kernel
theorem dX12_cell_15 : decode cX12_cell 15 = .ok (.ifCond .ne 9, 3) := by decide +kernel
theorem dX12_cell_18 : decode cX12_cell 18 = .ok (.aload_n 0, 1) := by decide +kernel
theorem dX12_cell_19 : decode cX12_cell 19 = .ok (.iconst 2, 1) := by decide +kernel
theorem dX12_cell_20 : decode cX12_cell 20 = .ok (.invokevirtual 318, 3) := by decide +kernel
theorem dX12_cell_23 : decode cX12_cell 23 = .ok (.ireturn, 1) := by decide +kernel
theorem dX12_cell_24 : decode cX12_cell 24 = .ok (.iload_n 2, 1) := by decide +kernel
theorem dX12_cell_25 : decode cX12_cell 25 = .ok (.i2l, 1) := by decide +kernel
theorem dX12_cell_26 : decode cX12_cell 26 = .ok (.lconst 0, 1) := by decide +kernel
theorem dX12_cell_27 : decode cX12_cell 27 = .ok (.ldc2_w 105, 3) := by decide +kernel
theorem dX12_cell_30 : decode cX12_cell 30 = .ok (.invokestatic 107, 3) := by decide +kernel
theorem dX12_cell_33 : decode cX12_cell 33 = .ok (.ifCond .ne 9, 3) := by decide +kernel
theorem dX12_cell_36 : decode cX12_cell 36 = .ok (.aload_n 0, 1) := by decide +kernel
theorem dX12_cell_37 : decode cX12_cell 37 = .ok (.iconst 5, 1) := by decide +kernel
theorem dX12_cell_38 : decode cX12_cell 38 = .ok (.invokevirtual 318, 3) := by decide +kernel
theorem dX12_cell_41 : decode cX12_cell 41 = .ok (.ireturn, 1) := by decide +kernel
theorem dX12_cell_42 : decode cX12_cell 42 = .ok (.iload_n 2, 1) := by decide +kernel
theorem dX12_cell_43 : decode cX12_cell 43 = .ok (.iconst 3, 1) := by decide +kernel
theorem dX12_cell_44 : decode cX12_cell 44 = .ok (.if_icmp .ge 20, 3) := by decide +kernel
theorem dX12_cell_47 : decode cX12_cell 47 = .ok (.aload_n 0, 1) := by decide +kernel
theorem dX12_cell_48 : decode cX12_cell 48 = .ok (.getfield 35, 3) := by decide +kernel
theorem dX12_cell_51 : decode cX12_cell 51 = .ok (.bipush 13, 2) := by decide +kernel
theorem dX12_cell_53 : decode cX12_cell 53 = .ok (.bipush 25, 2) := by decide +kernel
theorem dX12_cell_55 : decode cX12_cell 55 = .ok (.iload_n 2, 1) := by decide +kernel
theorem dX12_cell_56 : decode cX12_cell 56 = .ok (.imul, 1) := by decide +kernel
theorem dX12_cell_57 : decode cX12_cell 57 = .ok (.iadd, 1) := by decide +kernel
theorem dX12_cell_58 : decode cX12_cell 58 = .ok (.iload_n 1, 1) := by decide +kernel
theorem dX12_cell_59 : decode cX12_cell 59 = .ok (.iadd, 1) := by decide +kernel
theorem dX12_cell_60 : decode cX12_cell 60 = .ok (.iaload, 1) := by decide +kernel
theorem dX12_cell_61 : decode cX12_cell 61 = .ok (.goto 16, 3) := by decide +kernel
theorem dX12_cell_64 : decode cX12_cell 64 = .ok (.aload_n 0, 1) := by decide +kernel
theorem dX12_cell_65 : decode cX12_cell 65 = .ok (.iload_n 1, 1) := by decide +kernel
theorem dX12_cell_66 : decode cX12_cell 66 = .ok (.invokevirtual 304, 3) := by decide +kernel
theorem dX12_cell_69 : decode cX12_cell 69 = .ok (.ifCond .eq 7, 3) := by decide +kernel
theorem dX12_cell_72 : decode cX12_cell 72 = .ok (.iconst 1, 1) := by decide +kernel
theorem dX12_cell_73 : decode cX12_cell 73 = .ok (.goto 4, 3) := by decide +kernel
theorem dX12_cell_76 : decode cX12_cell 76 = .ok (.iconst 0, 1) := by decide +kernel
theorem dX12_cell_77 : decode cX12_cell 77 = .ok (.ireturn, 1) := by decide +kernel
theorem dX12_watch_0 : decode cX12_watch 0 = .ok (.aload_n 0, 1) := by decide +kernel
theorem dX12_watch_1 : decode cX12_watch 1 = .ok (.iconst 0, 1) := by decide +kernel
theorem dX12_watch_2 : decode cX12_watch 2 = .ok (.putfield 72, 3) := by decide +kernel
theorem dX12_watch_5 : decode cX12_watch 5 = .ok (.aload_n 0, 1) := by decide +kernel
theorem dX12_watch_6 : decode cX12_watch 6 = .ok (.iconst 0, 1) := by decide +kernel
theorem dX12_watch_7 : decode cX12_watch 7 = .ok (.putfield 75, 3) := by decide +kernel
theorem dX12_watch_10 : decode cX12_watch 10 = .ok (.aload_n 0, 1) := by decide +kernel
theorem dX12_watch_11 : decode cX12_watch 11 = .ok (.getfield 35, 3) := by decide +kernel
theorem dX12_watch_14 : decode cX12_watch 14 = .ok (.iconst 0, 1) := by decide +kernel
theorem dX12_watch_15 : decode cX12_watch 15 = .ok (.iaload, 1) := by decide +kernel
theorem dX12_watch_16 : decode cX12_watch 16 = .ok (.ifCond .ne 12, 3) := by decide +kernel
theorem dX12_watch_19 : decode cX12_watch 19 = .ok (.aload_n 0, 1) := by decide +kernel
theorem dX12_watch_20 : decode cX12_watch 20 = .ok (.bipush 8, 2) := by decide +kernel
theorem dX12_watch_22 : decode cX12_watch 22 = .ok (.invokevirtual 318, 3) := by decide +kernel
theorem dX12_watch_25 : decode cX12_watch 25 = .ok (.goto 10, 3) := by decide +kernel
theorem dX12_watch_28 : decode cX12_watch 28 = .ok (.aload_n 0, 1) := by decide +kernel
theorem dX12_watch_29 : decode cX12_watch 29 = .ok (.getfield 35, 3) := by decide +kernel
theorem dX12_watch_32 : decode cX12_watch 32 = .ok (.bipush 7, 2) := by decide +kernel
theorem dX12_watch_34 : decode cX12_watch 34 = .ok (.iaload, 1) := by decide +kernel
theorem dX12_watch_35 : decode cX12_watch 35 = .ok (.ireturn, 1) := by decide +kernel
theorem dX12_together_0 : decode cX12_together 0 = .ok (.iconst 0, 1) := by decide +kernel
theorem dX12_together_1 : decode cX12_together 1 = .ok (.istore 5, 2) := by decide +kernel
theorem dX12_together_3 : decode cX12_together 3 = .ok (.iconst 0, 1) := by decide +kernel
theorem dX12_together_4 : decode cX12_together 4 = .ok (.istore 6, 2) := by decide +kernel
theorem dX12_together_6 : decode cX12_together 6 = .ok (.iload 6, 2) := by decide +kernel
theorem dX12_together_8 : decode cX12_together 8 = .ok (.iload_n 3, 1) := by decide +kernel
theorem dX12_together_9 : decode cX12_together 9 = .ok (.if_icmp .ge 28, 3) := by decide +kernel
theorem dX12_together_12 : decode cX12_together 12 = .ok (.iload 5, 2) := by decide +kernel
theorem dX12_together_14 : decode cX12_together 14 = .ok (.aload_n 0, 1) := by decide +kernel
theorem dX12_together_15 : decode cX12_together 15 = .ok (.getfield 35, 3) := by decide +kernel
theorem dX12_together_18 : decode cX12_together 18 = .ok (.iload_n 1, 1) := by decide +kernel
theorem dX12_together_19 : decode cX12_together 19 = .ok (.iload_n 2, 1) := by decide +kernel
theorem dX12_together_20 : decode cX12_together 20 = .ok (.iadd, 1) := by decide +kernel
theorem dX12_together_21 : decode cX12_together 21 = .ok (.iload 4, 2) := by decide +kernel
theorem dX12_together_23 : decode cX12_together 23 = .ok (.iload 6, 2) := by decide +kernel
theorem dX12_together_25 : decode cX12_together 25 = .ok (.imul, 1) := by decide +kernel
theorem dX12_together_26 : decode cX12_together 26 = .ok (.iadd, 1) := by decide +kernel
theorem dX12_together_27 : decode cX12_together 27 = .ok (.iaload, 1) := by decide +kernel
theorem dX12_together_28 : decode cX12_together 28 = .ok (.iadd, 1) := by decide +kernel
theorem dX12_together_29 : decode cX12_together 29 = .ok (.istore 5, 2) := by decide +kernel
theorem dX12_together_31 : decode cX12_together 31 = .ok (.iinc 6 1, 3) := by decide +kernel
theorem dX12_together_34 : decode cX12_together 34 = .ok (.goto (-28), 3) := by decide +kernel
theorem dX12_together_37 : decode cX12_together 37 = .ok (.iload 5, 2) := by decide +kernel
theorem dX12_together_39 : decode cX12_together 39 = .ok (.ireturn, 1) := by decide +kernel
theorem dX12_account_0 : decode cX12_account 0 = .ok (.aload_n 0, 1) := by decide +kernel
theorem dX12_account_1 : decode cX12_account 1 = .ok (.iconst 0, 1) := by decide +kernel
theorem dX12_account_2 : decode cX12_account 2 = .ok (.putfield 72, 3) := by decide +kernel
theorem dX12_account_5 : decode cX12_account 5 = .ok (.aload_n 0, 1) := by decide +kernel
theorem dX12_account_6 : decode cX12_account 6 = .ok (.iconst 0, 1) := by decide +kernel
theorem dX12_account_7 : decode cX12_account 7 = .ok (.putfield 75, 3) := by decide +kernel
theorem dX12_account_10 : decode cX12_account 10 = .ok (.aload_n 0, 1) := by decide +kernel
theorem dX12_account_11 : decode cX12_account 11 = .ok (.iload_n 1, 1) := by decide +kernel
theorem dX12_account_12 : decode cX12_account 12 = .ok (.invokevirtual 333, 3) := by decide +kernel
theorem dX12_account_15 : decode cX12_account 15 = .ok (.ifCond .ne 9, 3) := by decide +kernel
theorem dX12_account_18 : decode cX12_account 18 = .ok (.aload_n 0, 1) := by decide +kernel
theorem dX12_account_19 : decode cX12_account 19 = .ok (.iconst 2, 1) := by decide +kernel
theorem dX12_account_20 : decode cX12_account 20 = .ok (.invokevirtual 318, 3) := by decide +kernel
theorem dX12_account_23 : decode cX12_account 23 = .ok (.ireturn, 1) := by decide +kernel
theorem dX12_account_24 : decode cX12_account 24 = .ok (.iload_n 2, 1) := by decide +kernel
theorem dX12_account_25 : decode cX12_account 25 = .ok (.i2l, 1) := by decide +kernel
theorem dX12_account_26 : decode cX12_account 26 = .ok (.lconst 0, 1) := by decide +kernel
theorem dX12_account_27 : decode cX12_account 27 = .ok (.ldc2_w 105, 3) := by decide +kernel
theorem dX12_account_30 : decode cX12_account 30 = .ok (.invokestatic 107, 3) := by decide +kernel
theorem dX12_account_33 : decode cX12_account 33 = .ok (.ifCond .ne 9, 3) := by decide +kernel
theorem dX12_account_36 : decode cX12_account 36 = .ok (.aload_n 0, 1) := by decide +kernel
theorem dX12_account_37 : decode cX12_account 37 = .ok (.iconst 5, 1) := by decide +kernel
theorem dX12_account_38 : decode cX12_account 38 = .ok (.invokevirtual 318, 3) := by decide +kernel
theorem dX12_account_41 : decode cX12_account 41 = .ok (.ireturn, 1) := by decide +kernel
theorem dX12_account_42 : decode cX12_account 42 = .ok (.iload_n 2, 1) := by decide +kernel
theorem dX12_account_43 : decode cX12_account 43 = .ok (.ifCond .ne 15, 3) := by decide +kernel
theorem dX12_account_46 : decode cX12_account 46 = .ok (.aload_n 0, 1) := by decide +kernel
theorem dX12_account_47 : decode cX12_account 47 = .ok (.getfield 35, 3) := by decide +kernel
theorem dX12_account_50 : decode cX12_account 50 = .ok (.bipush 8, 2) := by decide +kernel
theorem dX12_account_52 : decode cX12_account 52 = .ok (.iload_n 1, 1) := by decide +kernel
theorem dX12_account_53 : decode cX12_account 53 = .ok (.iadd, 1) := by decide +kernel
theorem dX12_account_54 : decode cX12_account 54 = .ok (.iaload, 1) := by decide +kernel
theorem dX12_account_55 : decode cX12_account 55 = .ok (.goto 49, 3) := by decide +kernel
theorem dX12_account_58 : decode cX12_account 58 = .ok (.iload_n 2, 1) := by decide +kernel
theorem dX12_account_59 : decode cX12_account 59 = .ok (.iconst 3, 1) := by decide +kernel
theorem dX12_account_60 : decode cX12_account 60 = .ok (.if_icmp .ne 27, 3) := by decide +kernel
theorem dX12_account_63 : decode cX12_account 63 = .ok (.aload_n 0, 1) := by decide +kernel
theorem dX12_account_64 : decode cX12_account 64 = .ok (.bipush 13, 2) := by decide +kernel
theorem dX12_account_66 : decode cX12_account 66 = .ok (.aload_n 0, 1) := by decide +kernel
theorem dX12_account_67 : decode cX12_account 67 = .ok (.getfield 35, 3) := by decide +kernel
theorem dX12_account_70 : decode cX12_account 70 = .ok (.iconst 2, 1) := by decide +kernel
theorem dX12_account_71 : decode cX12_account 71 = .ok (.iaload, 1) := by decide +kernel
theorem dX12_account_72 : decode cX12_account 72 = .ok (.iload_n 1, 1) := by decide +kernel
theorem dX12_account_73 : decode cX12_account 73 = .ok (.imul, 1) := by decide +kernel
theorem dX12_account_74 : decode cX12_account 74 = .ok (.aload_n 0, 1) := by decide +kernel
theorem dX12_account_75 : decode cX12_account 75 = .ok (.getfield 35, 3) := by decide +kernel
theorem dX12_account_78 : decode cX12_account 78 = .ok (.iconst 2, 1) := by decide +kernel
theorem dX12_account_79 : decode cX12_account 79 = .ok (.iaload, 1) := by decide +kernel
theorem dX12_account_80 : decode cX12_account 80 = .ok (.iconst 1, 1) := by decide +kernel
theorem dX12_account_81 : decode cX12_account 81 = .ok (.invokevirtual 336, 3) := by decide +kernel
theorem dX12_account_84 : decode cX12_account 84 = .ok (.goto 20, 3) := by decide +kernel
theorem dX12_account_87 : decode cX12_account 87 = .ok (.aload_n 0, 1) := by decide +kernel
theorem dX12_account_88 : decode cX12_account 88 = .ok (.iload_n 2, 1) := by decide +kernel
theorem dX12_account_89 : decode cX12_account 89 = .ok (.iconst 1, 1) := by decide +kernel
theorem dX12_account_90 : decode cX12_account 90 = .ok (.if_icmp .ne 8, 3) := by decide +kernel
theorem dX12_account_93 : decode cX12_account 93 = .ok (.bipush 13, 2) := by decide +kernel
theorem dX12_account_95 : decode cX12_account 95 = .ok (.goto 5, 3) := by decide +kernel
theorem dX12_account_98 : decode cX12_account 98 = .ok (.bipush 38, 2) := by decide +kernel
theorem dX12_account_100 : decode cX12_account 100 = .ok (.iload_n 1, 1) := by decide +kernel
theorem dX12_account_101 : decode cX12_account 101 = .ok (.invokevirtual 310, 3) := by decide +kernel
theorem dX12_account_104 : decode cX12_account 104 = .ok (.ireturn, 1) := by decide +kernel
theorem dX12_law_0 : decode cX12_law 0 = .ok (.aload_n 0, 1) := by decide +kernel
theorem dX12_law_1 : decode cX12_law 1 = .ok (.iconst 0, 1) := by decide +kernel
theorem dX12_law_2 : decode cX12_law 2 = .ok (.putfield 72, 3) := by decide +kernel
theorem dX12_law_5 : decode cX12_law 5 = .ok (.aload_n 0, 1) := by decide +kernel
theorem dX12_law_6 : decode cX12_law 6 = .ok (.iconst 0, 1) := by decide +kernel
theorem dX12_law_7 : decode cX12_law 7 = .ok (.putfield 75, 3) := by decide +kernel
theorem dX12_law_10 : decode cX12_law 10 = .ok (.aload_n 0, 1) := by decide +kernel
theorem dX12_law_11 : decode cX12_law 11 = .ok (.iload_n 1, 1) := by decide +kernel
theorem dX12_law_12 : decode cX12_law 12 = .ok (.invokevirtual 340, 3) := by decide +kernel
theorem dX12_law_15 : decode cX12_law 15 = .ok (.ifCond .ne 9, 3) := by decide +kernel
theorem dX12_law_18 : decode cX12_law 18 = .ok (.aload_n 0, 1) := by decide +kernel
theorem dX12_law_19 : decode cX12_law 19 = .ok (.iconst 2, 1) := by decide +kernel
theorem dX12_law_20 : decode cX12_law 20 = .ok (.invokevirtual 318, 3) := by decide +kernel
theorem dX12_law_23 : decode cX12_law 23 = .ok (.ireturn, 1) := by decide +kernel
theorem dX12_law_24 : decode cX12_law 24 = .ok (.iload_n 2, 1) := by decide +kernel
theorem dX12_law_25 : decode cX12_law 25 = .ok (.i2l, 1) := by decide +kernel
theorem dX12_law_26 : decode cX12_law 26 = .ok (.lconst 0, 1) := by decide +kernel
theorem dX12_law_27 : decode cX12_law 27 = .ok (.ldc2_w 105, 3) := by decide +kernel
theorem dX12_law_30 : decode cX12_law 30 = .ok (.invokestatic 107, 3) := by decide +kernel
theorem dX12_law_33 : decode cX12_law 33 = .ok (.ifCond .eq 20, 3) := by decide +kernel
theorem dX12_law_36 : decode cX12_law 36 = .ok (.aload_n 0, 1) := by decide +kernel
theorem dX12_law_37 : decode cX12_law 37 = .ok (.getfield 35, 3) := by decide +kernel
theorem dX12_law_40 : decode cX12_law 40 = .ok (.bipush 88, 2) := by decide +kernel
theorem dX12_law_42 : decode cX12_law 42 = .ok (.bipush 10, 2) := by decide +kernel
theorem dX12_law_44 : decode cX12_law 44 = .ok (.iload_n 2, 1) := by decide +kernel
theorem dX12_law_45 : decode cX12_law 45 = .ok (.imul, 1) := by decide +kernel
theorem dX12_law_46 : decode cX12_law 46 = .ok (.iadd, 1) := by decide +kernel
theorem dX12_law_47 : decode cX12_law 47 = .ok (.iload_n 1, 1) := by decide +kernel
theorem dX12_law_48 : decode cX12_law 48 = .ok (.iadd, 1) := by decide +kernel
theorem dX12_law_49 : decode cX12_law 49 = .ok (.iaload, 1) := by decide +kernel
theorem dX12_law_50 : decode cX12_law 50 = .ok (.goto 8, 3) := by decide +kernel
theorem dX12_law_53 : decode cX12_law 53 = .ok (.aload_n 0, 1) := by decide +kernel
theorem dX12_law_54 : decode cX12_law 54 = .ok (.iconst 5, 1) := by decide +kernel
theorem dX12_law_55 : decode cX12_law 55 = .ok (.invokevirtual 318, 3) := by decide +kernel
theorem dX12_law_58 : decode cX12_law 58 = .ok (.ireturn, 1) := by decide +kernel
theorem dX12_balance_0 : decode cX12_balance 0 = .ok (.aload_n 0, 1) := by decide +kernel
theorem dX12_balance_1 : decode cX12_balance 1 = .ok (.iconst 0, 1) := by decide +kernel
theorem dX12_balance_2 : decode cX12_balance 2 = .ok (.putfield 72, 3) := by decide +kernel
theorem dX12_balance_5 : decode cX12_balance 5 = .ok (.aload_n 0, 1) := by decide +kernel
theorem dX12_balance_6 : decode cX12_balance 6 = .ok (.iconst 0, 1) := by decide +kernel
theorem dX12_balance_7 : decode cX12_balance 7 = .ok (.putfield 75, 3) := by decide +kernel
theorem dX12_balance_10 : decode cX12_balance 10 = .ok (.aload_n 0, 1) := by decide +kernel
theorem dX12_balance_11 : decode cX12_balance 11 = .ok (.invokevirtual 313, 3) := by decide +kernel
theorem dX12_balance_14 : decode cX12_balance 14 = .ok (.ireturn, 1) := by decide +kernel
theorem dX12_copyDigits_0 : decode cX12_copyDigits 0 = .ok (.aload_n 0, 1) := by decide +kernel
theorem dX12_copyDigits_1 : decode cX12_copyDigits 1 = .ok (.iconst 0, 1) := by decide +kernel
theorem dX12_copyDigits_2 : decode cX12_copyDigits 2 = .ok (.putfield 72, 3) := by decide +kernel
theorem dX12_copyDigits_5 : decode cX12_copyDigits 5 = .ok (.aload_n 0, 1) := by decide +kernel
theorem dX12_copyDigits_6 : decode cX12_copyDigits 6 = .ok (.iconst 0, 1) := by decide +kernel
theorem dX12_copyDigits_7 : decode cX12_copyDigits 7 = .ok (.putfield 75, 3) := by decide +kernel
theorem dX12_copyDigits_10 : decode cX12_copyDigits 10 = .ok (.aload_n 0, 1) := by decide +kernel
theorem dX12_copyDigits_11 : decode cX12_copyDigits 11 = .ok (.iload_n 1, 1) := by decide +kernel
theorem dX12_copyDigits_12 : decode cX12_copyDigits 12 = .ok (.invokevirtual 343, 3) := by decide +kernel
theorem dX12_copyDigits_15 : decode cX12_copyDigits 15 = .ok (.ifCond .ne 9, 3) := by decide +kernel
theorem dX12_copyDigits_18 : decode cX12_copyDigits 18 = .ok (.aload_n 0, 1) := by decide +kernel
theorem dX12_copyDigits_19 : decode cX12_copyDigits 19 = .ok (.iconst 1, 1) := by decide +kernel
theorem dX12_copyDigits_20 : decode cX12_copyDigits 20 = .ok (.invokevirtual 318, 3) := by decide +kernel
theorem dX12_copyDigits_23 : decode cX12_copyDigits 23 = .ok (.ireturn, 1) := by decide +kernel
theorem dX12_copyDigits_24 : decode cX12_copyDigits 24 = .ok (.aload_n 0, 1) := by decide +kernel
theorem dX12_copyDigits_25 : decode cX12_copyDigits 25 = .ok (.getfield 17, 3) := by decide +kernel
theorem dX12_copyDigits_28 : decode cX12_copyDigits 28 = .ok (.iload_n 1, 1) := by decide +kernel
theorem dX12_copyDigits_29 : decode cX12_copyDigits 29 = .ok (.iaload, 1) := by decide +kernel
theorem dX12_copyDigits_30 : decode cX12_copyDigits 30 = .ok (.ifCond .ge 9, 3) := by decide +kernel
theorem dX12_copyDigits_33 : decode cX12_copyDigits 33 = .ok (.aload_n 0, 1) := by decide +kernel
theorem dX12_copyDigits_34 : decode cX12_copyDigits 34 = .ok (.iconst 3, 1) := by decide +kernel
theorem dX12_copyDigits_35 : decode cX12_copyDigits 35 = .ok (.invokevirtual 318, 3) := by decide +kernel
theorem dX12_copyDigits_38 : decode cX12_copyDigits 38 = .ok (.ireturn, 1) := by decide +kernel
theorem dX12_copyDigits_39 : decode cX12_copyDigits 39 = .ok (.aload_n 0, 1) := by decide +kernel
theorem dX12_copyDigits_40 : decode cX12_copyDigits 40 = .ok (.getfield 17, 3) := by decide +kernel
theorem dX12_copyDigits_43 : decode cX12_copyDigits 43 = .ok (.iload_n 1, 1) := by decide +kernel
theorem dX12_copyDigits_44 : decode cX12_copyDigits 44 = .ok (.iaload, 1) := by decide +kernel
theorem dX12_copyDigits_45 : decode cX12_copyDigits 45 = .ok (.aload_n 0, 1) := by decide +kernel
theorem dX12_copyDigits_46 : decode cX12_copyDigits 46 = .ok (.invokevirtual 301, 3) := by decide +kernel
theorem dX12_copyDigits_49 : decode cX12_copyDigits 49 = .ok (.if_icmp .ge 9, 3) := by decide +kernel
theorem dX12_copyDigits_52 : decode cX12_copyDigits 52 = .ok (.aload_n 0, 1) := by decide +kernel
theorem dX12_copyDigits_53 : decode cX12_copyDigits 53 = .ok (.iconst 4, 1) := by decide +kernel
theorem dX12_copyDigits_54 : decode cX12_copyDigits 54 = .ok (.invokevirtual 318, 3) := by decide +kernel
theorem dX12_copyDigits_57 : decode cX12_copyDigits 57 = .ok (.ireturn, 1) := by decide +kernel
theorem dX12_copyDigits_58 : decode cX12_copyDigits 58 = .ok (.iconst 0, 1) := by decide +kernel
theorem dX12_copyDigits_59 : decode cX12_copyDigits 59 = .ok (.istore_n 2, 1) := by decide +kernel
theorem dX12_copyDigits_60 : decode cX12_copyDigits 60 = .ok (.iload_n 2, 1) := by decide +kernel
theorem dX12_copyDigits_61 : decode cX12_copyDigits 61 = .ok (.aload_n 0, 1) := by decide +kernel
theorem dX12_copyDigits_62 : decode cX12_copyDigits 62 = .ok (.invokevirtual 301, 3) := by decide +kernel
theorem dX12_copyDigits_65 : decode cX12_copyDigits 65 = .ok (.if_icmp .ge 26, 3) := by decide +kernel
