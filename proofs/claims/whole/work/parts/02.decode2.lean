theorem dX11_init_193 : decode cX11_init 193 = .ok (.bipush 40, 2) := by decide +kernel
theorem dX11_init_195 : decode cX11_init 195 = .ok (.newarray .int, 2) := by decide +kernel
theorem dX11_init_197 : decode cX11_init 197 = .ok (.putfield 84, 3) := by decide +kernel
theorem dX11_init_200 : decode cX11_init 200 = .ok (.aload_n 0, 1) := by decide +kernel
theorem dX11_init_201 : decode cX11_init 201 = .ok (.bipush 40, 2) := by decide +kernel
theorem dX11_init_203 : decode cX11_init 203 = .ok (.newarray .int, 2) := by decide +kernel
theorem dX11_init_205 : decode cX11_init 205 = .ok (.putfield 87, 3) := by decide +kernel
theorem dX11_init_208 : decode cX11_init 208 = .ok (.aload_n 0, 1) := by decide +kernel
theorem dX11_init_209 : decode cX11_init 209 = .ok (.bipush 8, 2) := by decide +kernel
theorem dX11_init_211 : decode cX11_init 211 = .ok (.newarray .int, 2) := by decide +kernel
theorem dX11_init_213 : decode cX11_init 213 = .ok (.putfield 90, 3) := by decide +kernel
theorem dX11_init_216 : decode cX11_init 216 = .ok (.aload_n 0, 1) := by decide +kernel
theorem dX11_init_217 : decode cX11_init 217 = .ok (.bipush 16, 2) := by decide +kernel
theorem dX11_init_219 : decode cX11_init 219 = .ok (.newarray .int, 2) := by decide +kernel
theorem dX11_init_221 : decode cX11_init 221 = .ok (.putfield 93, 3) := by decide +kernel
theorem dX11_init_224 : decode cX11_init 224 = .ok (.aload_n 0, 1) := by decide +kernel
theorem dX11_init_225 : decode cX11_init 225 = .ok (.bipush 16, 2) := by decide +kernel
theorem dX11_init_227 : decode cX11_init 227 = .ok (.newarray .int, 2) := by decide +kernel
theorem dX11_init_229 : decode cX11_init 229 = .ok (.putfield 96, 3) := by decide +kernel
theorem dX11_init_232 : decode cX11_init 232 = .ok (.aload_n 0, 1) := by decide +kernel
theorem dX11_init_233 : decode cX11_init 233 = .ok (.bipush 16, 2) := by decide +kernel
theorem dX11_init_235 : decode cX11_init 235 = .ok (.newarray .int, 2) := by decide +kernel
theorem dX11_init_237 : decode cX11_init 237 = .ok (.putfield 99, 3) := by decide +kernel
theorem dX11_init_240 : decode cX11_init 240 = .ok (.aload_n 0, 1) := by decide +kernel
theorem dX11_init_241 : decode cX11_init 241 = .ok (.bipush 16, 2) := by decide +kernel
theorem dX11_init_243 : decode cX11_init 243 = .ok (.newarray .int, 2) := by decide +kernel
theorem dX11_init_245 : decode cX11_init 245 = .ok (.putfield 102, 3) := by decide +kernel
theorem dX11_init_248 : decode cX11_init 248 = .ok (.aload_n 0, 1) := by decide +kernel
theorem dX11_init_249 : decode cX11_init 249 = .ok (.bipush 16, 2) := by decide +kernel
theorem dX11_init_251 : decode cX11_init 251 = .ok (.newarray .int, 2) := by decide +kernel
theorem dX11_init_253 : decode cX11_init 253 = .ok (.putfield 105, 3) := by decide +kernel
theorem dX11_init_256 : decode cX11_init 256 = .ok (.aload_n 0, 1) := by decide +kernel
theorem dX11_init_257 : decode cX11_init 257 = .ok (.bipush 16, 2) := by decide +kernel
theorem dX11_init_259 : decode cX11_init 259 = .ok (.newarray .int, 2) := by decide +kernel
theorem dX11_init_261 : decode cX11_init 261 = .ok (.putfield 108, 3) := by decide +kernel
theorem dX11_init_264 : decode cX11_init 264 = .ok (.aload_n 0, 1) := by decide +kernel
theorem dX11_init_265 : decode cX11_init 265 = .ok (.sipush 1024, 3) := by decide +kernel
theorem dX11_init_268 : decode cX11_init 268 = .ok (.newarray .int, 2) := by decide +kernel
theorem dX11_init_270 : decode cX11_init 270 = .ok (.putfield 111, 3) := by decide +kernel
theorem dX11_init_273 : decode cX11_init 273 = .ok (.aload_n 0, 1) := by decide +kernel
theorem dX11_init_274 : decode cX11_init 274 = .ok (.bipush 8, 2) := by decide +kernel
theorem dX11_init_276 : decode cX11_init 276 = .ok (.newarray .int, 2) := by decide +kernel
theorem dX11_init_278 : decode cX11_init 278 = .ok (.putfield 114, 3) := by decide +kernel
theorem dX11_init_281 : decode cX11_init 281 = .ok (.aload_n 0, 1) := by decide +kernel
theorem dX11_init_282 : decode cX11_init 282 = .ok (.bipush 8, 2) := by decide +kernel
theorem dX11_init_284 : decode cX11_init 284 = .ok (.newarray .int, 2) := by decide +kernel
theorem dX11_init_286 : decode cX11_init 286 = .ok (.putfield 117, 3) := by decide +kernel
theorem dX11_init_289 : decode cX11_init 289 = .ok (.aload_n 0, 1) := by decide +kernel
theorem dX11_init_290 : decode cX11_init 290 = .ok (.iconst 4, 1) := by decide +kernel
theorem dX11_init_291 : decode cX11_init 291 = .ok (.newarray .int, 2) := by decide +kernel
theorem dX11_init_293 : decode cX11_init 293 = .ok (.putfield 120, 3) := by decide +kernel
theorem dX11_init_296 : decode cX11_init 296 = .ok (.iconst 0, 1) := by decide +kernel
theorem dX11_init_297 : decode cX11_init 297 = .ok (.istore_n 1, 1) := by decide +kernel
theorem dX11_init_298 : decode cX11_init 298 = .ok (.iload_n 1, 1) := by decide +kernel
theorem dX11_init_299 : decode cX11_init 299 = .ok (.bipush 7, 2) := by decide +kernel
theorem dX11_init_301 : decode cX11_init 301 = .ok (.if_icmp .ge 23, 3) := by decide +kernel
theorem dX11_init_304 : decode cX11_init 304 = .ok (.aload_n 0, 1) := by decide +kernel
theorem dX11_init_305 : decode cX11_init 305 = .ok (.getfield 17, 3) := by decide +kernel
theorem dX11_init_308 : decode cX11_init 308 = .ok (.iload_n 1, 1) := by decide +kernel
theorem dX11_init_309 : decode cX11_init 309 = .ok (.iconst (-1), 1) := by decide +kernel
theorem dX11_init_310 : decode cX11_init 310 = .ok (.iastore, 1) := by decide +kernel
theorem dX11_init_311 : decode cX11_init 311 = .ok (.aload_n 0, 1) := by decide +kernel
theorem dX11_init_312 : decode cX11_init 312 = .ok (.getfield 21, 3) := by decide +kernel
theorem dX11_init_315 : decode cX11_init 315 = .ok (.iload_n 1, 1) := by decide +kernel
theorem dX11_init_316 : decode cX11_init 316 = .ok (.iconst (-1), 1) := by decide +kernel
theorem dX11_init_317 : decode cX11_init 317 = .ok (.iastore, 1) := by decide +kernel
theorem dX11_init_318 : decode cX11_init 318 = .ok (.iinc 1 1, 3) := by decide +kernel
theorem dX11_init_321 : decode cX11_init 321 = .ok (.goto (-23), 3) := by decide +kernel
theorem dX11_init_324 : decode cX11_init 324 = .ok (.return_, 1) := by decide +kernel
theorem dX11_lies_0 : decode cX11_lies 0 = .ok (.iload_n 0, 1) := by decide +kernel
theorem dX11_lies_1 : decode cX11_lies 1 = .ok (.iload_n 1, 1) := by decide +kernel
theorem dX11_lies_2 : decode cX11_lies 2 = .ok (.if_icmp .lt 12, 3) := by decide +kernel
theorem dX11_lies_5 : decode cX11_lies 5 = .ok (.iload_n 0, 1) := by decide +kernel
theorem dX11_lies_6 : decode cX11_lies 6 = .ok (.iload_n 2, 1) := by decide +kernel
theorem dX11_lies_7 : decode cX11_lies 7 = .ok (.if_icmp .gt 7, 3) := by decide +kernel
theorem dX11_lies_10 : decode cX11_lies 10 = .ok (.iconst 1, 1) := by decide +kernel
theorem dX11_lies_11 : decode cX11_lies 11 = .ok (.goto 4, 3) := by decide +kernel
theorem dX11_lies_14 : decode cX11_lies 14 = .ok (.iconst 0, 1) := by decide +kernel
theorem dX11_lies_15 : decode cX11_lies 15 = .ok (.ireturn, 1) := by decide +kernel
theorem dX11_push_0 : decode cX11_push 0 = .ok (.bipush 24, 2) := by decide +kernel
theorem dX11_push_2 : decode cX11_push 2 = .ok (.istore_n 2, 1) := by decide +kernel
theorem dX11_push_3 : decode cX11_push 3 = .ok (.iload_n 2, 1) := by decide +kernel
theorem dX11_push_4 : decode cX11_push 4 = .ok (.ifCond .lt 32, 3) := by decide +kernel
theorem dX11_push_7 : decode cX11_push 7 = .ok (.aload_n 0, 1) := by decide +kernel
theorem dX11_push_8 : decode cX11_push 8 = .ok (.getfield 7, 3) := by decide +kernel
theorem dX11_push_11 : decode cX11_push 11 = .ok (.aload_n 0, 1) := by decide +kernel
theorem dX11_push_12 : decode cX11_push 12 = .ok (.getfield 123, 3) := by decide +kernel
theorem dX11_push_15 : decode cX11_push 15 = .ok (.iload_n 1, 1) := by decide +kernel
theorem dX11_push_16 : decode cX11_push 16 = .ok (.iload_n 2, 1) := by decide +kernel
theorem dX11_push_17 : decode cX11_push 17 = .ok (.ishr, 1) := by decide +kernel
theorem dX11_push_18 : decode cX11_push 18 = .ok (.i2b, 1) := by decide +kernel
theorem dX11_push_19 : decode cX11_push 19 = .ok (.bastore, 1) := by decide +kernel
theorem dX11_push_20 : decode cX11_push 20 = .ok (.aload_n 0, 1) := by decide +kernel
theorem dX11_push_21 : decode cX11_push 21 = .ok (.dup, 1) := by decide +kernel
theorem dX11_push_22 : decode cX11_push 22 = .ok (.getfield 123, 3) := by decide +kernel
theorem dX11_push_25 : decode cX11_push 25 = .ok (.iconst 1, 1) := by decide +kernel
theorem dX11_push_26 : decode cX11_push 26 = .ok (.iadd, 1) := by decide +kernel
theorem dX11_push_27 : decode cX11_push 27 = .ok (.putfield 123, 3) := by decide +kernel
theorem dX11_push_30 : decode cX11_push 30 = .ok (.iinc 2 (-8), 3) := by decide +kernel
theorem dX11_push_33 : decode cX11_push 33 = .ok (.goto (-30), 3) := by decide +kernel
theorem dX11_push_36 : decode cX11_push 36 = .ok (.return_, 1) := by decide +kernel
theorem dX11_feed_0 : decode cX11_feed 0 = .ok (.aload_n 0, 1) := by decide +kernel
theorem dX11_feed_1 : decode cX11_feed 1 = .ok (.getfield 123, 3) := by decide +kernel
theorem dX11_feed_4 : decode cX11_feed 4 = .ok (.bipush 20, 2) := by decide +kernel
theorem dX11_feed_6 : decode cX11_feed 6 = .ok (.iadd, 1) := by decide +kernel
theorem dX11_feed_7 : decode cX11_feed 7 = .ok (.bipush 40, 2) := by decide +kernel
theorem dX11_feed_9 : decode cX11_feed 9 = .ok (.if_icmp .le 5, 3) := by decide +kernel
theorem dX11_feed_12 : decode cX11_feed 12 = .ok (.iconst (-1), 1) := by decide +kernel
theorem dX11_feed_13 : decode cX11_feed 13 = .ok (.ireturn, 1) := by decide +kernel
theorem dX11_feed_14 : decode cX11_feed 14 = .ok (.aload_n 0, 1) := by decide +kernel
theorem dX11_feed_15 : decode cX11_feed 15 = .ok (.iload_n 1, 1) := by decide +kernel
theorem dX11_feed_16 : decode cX11_feed 16 = .ok (.invokevirtual 127, 3) := by decide +kernel
theorem dX11_feed_19 : decode cX11_feed 19 = .ok (.aload_n 0, 1) := by decide +kernel
theorem dX11_feed_20 : decode cX11_feed 20 = .ok (.iload_n 2, 1) := by decide +kernel
theorem dX11_feed_21 : decode cX11_feed 21 = .ok (.invokevirtual 127, 3) := by decide +kernel
theorem dX11_feed_24 : decode cX11_feed 24 = .ok (.aload_n 0, 1) := by decide +kernel
theorem dX11_feed_25 : decode cX11_feed 25 = .ok (.iload_n 3, 1) := by decide +kernel
theorem dX11_feed_26 : decode cX11_feed 26 = .ok (.invokevirtual 127, 3) := by decide +kernel
theorem dX11_feed_29 : decode cX11_feed 29 = .ok (.aload_n 0, 1) := by decide +kernel
theorem dX11_feed_30 : decode cX11_feed 30 = .ok (.iload 4, 2) := by decide +kernel
theorem dX11_feed_32 : decode cX11_feed 32 = .ok (.invokevirtual 127, 3) := by decide +kernel
theorem dX11_feed_35 : decode cX11_feed 35 = .ok (.aload_n 0, 1) := by decide +kernel
theorem dX11_feed_36 : decode cX11_feed 36 = .ok (.iload 5, 2) := by decide +kernel
theorem dX11_feed_38 : decode cX11_feed 38 = .ok (.invokevirtual 127, 3) := by decide +kernel
theorem dX11_feed_41 : decode cX11_feed 41 = .ok (.aload_n 0, 1) := by decide +kernel
theorem dX11_feed_42 : decode cX11_feed 42 = .ok (.getfield 123, 3) := by decide +kernel
theorem dX11_feed_45 : decode cX11_feed 45 = .ok (.ireturn, 1) := by decide +kernel
theorem dX11_at_0 : decode cX11_at 0 = .ok (.iload_n 1, 1) := by decide +kernel
theorem dX11_at_1 : decode cX11_at 1 = .ok (.iload_n 2, 1) := by decide +kernel
theorem dX11_at_2 : decode cX11_at 2 = .ok (.if_icmp .ge 16, 3) := by decide +kernel
theorem dX11_at_5 : decode cX11_at 5 = .ok (.aload_n 0, 1) := by decide +kernel
theorem dX11_at_6 : decode cX11_at 6 = .ok (.getfield 7, 3) := by decide +kernel
theorem dX11_at_9 : decode cX11_at 9 = .ok (.iload_n 1, 1) := by decide +kernel
theorem dX11_at_10 : decode cX11_at 10 = .ok (.baload, 1) := by decide +kernel
theorem dX11_at_11 : decode cX11_at 11 = .ok (.sipush 255, 3) := by decide +kernel
theorem dX11_at_14 : decode cX11_at 14 = .ok (.iand, 1) := by decide +kernel
theorem dX11_at_15 : decode cX11_at 15 = .ok (.goto 4, 3) := by decide +kernel
theorem dX11_at_18 : decode cX11_at 18 = .ok (.iconst 0, 1) := by decide +kernel
theorem dX11_at_19 : decode cX11_at 19 = .ok (.ireturn, 1) := by decide +kernel
theorem dX11_reads_0 : decode cX11_reads 0 = .ok (.aload_n 0, 1) := by decide +kernel
theorem dX11_reads_1 : decode cX11_reads 1 = .ok (.iconst (-1), 1) := by decide +kernel
theorem dX11_reads_2 : decode cX11_reads 2 = .ok (.putfield 131, 3) := by decide +kernel
theorem dX11_reads_5 : decode cX11_reads 5 = .ok (.aload_n 0, 1) := by decide +kernel
theorem dX11_reads_6 : decode cX11_reads 6 = .ok (.iconst (-1), 1) := by decide +kernel
theorem dX11_reads_7 : decode cX11_reads 7 = .ok (.putfield 134, 3) := by decide +kernel
theorem dX11_reads_10 : decode cX11_reads 10 = .ok (.iconst 0, 1) := by decide +kernel
theorem dX11_reads_11 : decode cX11_reads 11 = .ok (.istore_n 2, 1) := by decide +kernel
theorem dX11_reads_12 : decode cX11_reads 12 = .ok (.iconst 0, 1) := by decide +kernel
theorem dX11_reads_13 : decode cX11_reads 13 = .ok (.istore_n 3, 1) := by decide +kernel
theorem dX11_reads_14 : decode cX11_reads 14 = .ok (.iload_n 3, 1) := by decide +kernel
theorem dX11_reads_15 : decode cX11_reads 15 = .ok (.iload_n 1, 1) := by decide +kernel
theorem dX11_reads_16 : decode cX11_reads 16 = .ok (.if_icmp .gt 192, 3) := by decide +kernel
theorem dX11_reads_19 : decode cX11_reads 19 = .ok (.aload_n 0, 1) := by decide +kernel
theorem dX11_reads_20 : decode cX11_reads 20 = .ok (.iload_n 2, 1) := by decide +kernel
theorem dX11_reads_21 : decode cX11_reads 21 = .ok (.iload_n 1, 1) := by decide +kernel
theorem dX11_reads_22 : decode cX11_reads 22 = .ok (.invokevirtual 137, 3) := by decide +kernel
theorem dX11_reads_25 : decode cX11_reads 25 = .ok (.istore 4, 2) := by decide +kernel
theorem dX11_reads_27 : decode cX11_reads 27 = .ok (.iload 4, 2) := by decide +kernel
theorem dX11_reads_29 : decode cX11_reads 29 = .ok (.bipush 100, 2) := by decide +kernel
theorem dX11_reads_31 : decode cX11_reads 31 = .ok (.if_icmp .eq 15, 3) := by decide +kernel
theorem dX11_reads_34 : decode cX11_reads 34 = .ok (.iload 4, 2) := by decide +kernel
theorem dX11_reads_36 : decode cX11_reads 36 = .ok (.bipush 114, 2) := by decide +kernel
theorem dX11_reads_38 : decode cX11_reads 38 = .ok (.if_icmp .eq 8, 3) := by decide +kernel
theorem dX11_reads_41 : decode cX11_reads 41 = .ok (.bipush 100, 2) := by decide +kernel
theorem dX11_reads_43 : decode cX11_reads 43 = .ok (.iload_n 2, 1) := by decide +kernel
theorem dX11_reads_44 : decode cX11_reads 44 = .ok (.iadd, 1) := by decide +kernel
theorem dX11_reads_45 : decode cX11_reads 45 = .ok (.ireturn, 1) := by decide +kernel
theorem dX11_reads_46 : decode cX11_reads 46 = .ok (.iinc 2 1, 3) := by decide +kernel
theorem dX11_reads_49 : decode cX11_reads 49 = .ok (.aload_n 0, 1) := by decide +kernel
theorem dX11_reads_50 : decode cX11_reads 50 = .ok (.iload_n 2, 1) := by decide +kernel
theorem dX11_reads_51 : decode cX11_reads 51 = .ok (.iload_n 1, 1) := by decide +kernel
theorem dX11_reads_52 : decode cX11_reads 52 = .ok (.invokevirtual 137, 3) := by decide +kernel
theorem dX11_reads_55 : decode cX11_reads 55 = .ok (.bipush 48, 2) := by decide +kernel
theorem dX11_reads_57 : decode cX11_reads 57 = .ok (.bipush 57, 2) := by decide +kernel
theorem dX11_reads_59 : decode cX11_reads 59 = .ok (.invokestatic 141, 3) := by decide +kernel
theorem dX11_reads_62 : decode cX11_reads 62 = .ok (.ifCond .ne 9, 3) := by decide +kernel
theorem dX11_reads_65 : decode cX11_reads 65 = .ok (.sipush 200, 3) := by decide +kernel
theorem dX11_reads_68 : decode cX11_reads 68 = .ok (.iload_n 2, 1) := by decide +kernel
theorem dX11_reads_69 : decode cX11_reads 69 = .ok (.iadd, 1) := by decide +kernel
theorem dX11_reads_70 : decode cX11_reads 70 = .ok (.ireturn, 1) := by decide +kernel
theorem dX11_reads_71 : decode cX11_reads 71 = .ok (.iload_n 2, 1) := by decide +kernel
theorem dX11_reads_72 : decode cX11_reads 72 = .ok (.istore 5, 2) := by decide +kernel
theorem dX11_reads_74 : decode cX11_reads 74 = .ok (.iconst 0, 1) := by decide +kernel
theorem dX11_reads_75 : decode cX11_reads 75 = .ok (.istore 6, 2) := by decide +kernel
theorem dX11_reads_77 : decode cX11_reads 77 = .ok (.aload_n 0, 1) := by decide +kernel
theorem dX11_reads_78 : decode cX11_reads 78 = .ok (.iload_n 2, 1) := by decide +kernel
theorem dX11_reads_79 : decode cX11_reads 79 = .ok (.iload_n 1, 1) := by decide +kernel
theorem dX11_reads_80 : decode cX11_reads 80 = .ok (.invokevirtual 137, 3) := by decide +kernel
theorem dX11_reads_83 : decode cX11_reads 83 = .ok (.bipush 48, 2) := by decide +kernel
theorem dX11_reads_85 : decode cX11_reads 85 = .ok (.bipush 57, 2) := by decide +kernel
theorem dX11_reads_87 : decode cX11_reads 87 = .ok (.invokestatic 141, 3) := by decide +kernel
theorem dX11_reads_90 : decode cX11_reads 90 = .ok (.ifCond .eq 34, 3) := by decide +kernel
theorem dX11_reads_93 : decode cX11_reads 93 = .ok (.iload_n 2, 1) := by decide +kernel
theorem dX11_reads_94 : decode cX11_reads 94 = .ok (.iload 5, 2) := by decide +kernel
theorem dX11_reads_96 : decode cX11_reads 96 = .ok (.iconst 5, 1) := by decide +kernel
theorem dX11_reads_97 : decode cX11_reads 97 = .ok (.iadd, 1) := by decide +kernel
theorem dX11_reads_98 : decode cX11_reads 98 = .ok (.if_icmp .ge 26, 3) := by decide +kernel
theorem dX11_reads_101 : decode cX11_reads 101 = .ok (.bipush 10, 2) := by decide +kernel
theorem dX11_reads_103 : decode cX11_reads 103 = .ok (.iload 6, 2) := by decide +kernel
theorem dX11_reads_105 : decode cX11_reads 105 = .ok (.imul, 1) := by decide +kernel
theorem dX11_reads_106 : decode cX11_reads 106 = .ok (.aload_n 0, 1) := by decide +kernel
theorem dX11_reads_107 : decode cX11_reads 107 = .ok (.iload_n 2, 1) := by decide +kernel
theorem dX11_reads_108 : decode cX11_reads 108 = .ok (.iload_n 1, 1) := by decide +kernel
theorem dX11_reads_109 : decode cX11_reads 109 = .ok (.invokevirtual 137, 3) := by decide +kernel
theorem dX11_reads_112 : decode cX11_reads 112 = .ok (.iadd, 1) := by decide +kernel
theorem dX11_reads_113 : decode cX11_reads 113 = .ok (.bipush 48, 2) := by decide +kernel
theorem dX11_reads_115 : decode cX11_reads 115 = .ok (.isub, 1) := by decide +kernel
theorem dX11_reads_116 : decode cX11_reads 116 = .ok (.istore 6, 2) := by decide +kernel
theorem dX11_reads_118 : decode cX11_reads 118 = .ok (.iinc 2 1, 3) := by decide +kernel
theorem dX11_reads_121 : decode cX11_reads 121 = .ok (.goto (-44), 3) := by decide +kernel
theorem dX11_reads_124 : decode cX11_reads 124 = .ok (.iload_n 2, 1) := by decide +kernel
theorem dX11_reads_125 : decode cX11_reads 125 = .ok (.iload 5, 2) := by decide +kernel
theorem dX11_reads_127 : decode cX11_reads 127 = .ok (.iconst 5, 1) := by decide +kernel
theorem dX11_reads_128 : decode cX11_reads 128 = .ok (.iadd, 1) := by decide +kernel
theorem dX11_reads_129 : decode cX11_reads 129 = .ok (.if_icmp .eq 17, 3) := by decide +kernel
theorem dX11_reads_132 : decode cX11_reads 132 = .ok (.iload 4, 2) := by decide +kernel
theorem dX11_reads_134 : decode cX11_reads 134 = .ok (.bipush 100, 2) := by decide +kernel
theorem dX11_reads_136 : decode cX11_reads 136 = .ok (.if_icmp .ne 17, 3) := by decide +kernel
theorem dX11_reads_139 : decode cX11_reads 139 = .ok (.iload 6, 2) := by decide +kernel
theorem dX11_reads_141 : decode cX11_reads 141 = .ok (.bipush 60, 2) := by decide +kernel
theorem dX11_reads_143 : decode cX11_reads 143 = .ok (.if_icmp .ge 10, 3) := by decide +kernel
theorem dX11_reads_146 : decode cX11_reads 146 = .ok (.sipush 300, 3) := by decide +kernel
theorem dX11_reads_149 : decode cX11_reads 149 = .ok (.iload 5, 2) := by decide +kernel
theorem dX11_reads_151 : decode cX11_reads 151 = .ok (.iadd, 1) := by decide +kernel
theorem dX11_reads_152 : decode cX11_reads 152 = .ok (.ireturn, 1) := by decide +kernel
theorem dX11_reads_153 : decode cX11_reads 153 = .ok (.iload 4, 2) := by decide +kernel
theorem dX11_reads_155 : decode cX11_reads 155 = .ok (.bipush 100, 2) := by decide +kernel
theorem dX11_reads_157 : decode cX11_reads 157 = .ok (.if_icmp .ne 12, 3) := by decide +kernel
theorem dX11_reads_160 : decode cX11_reads 160 = .ok (.aload_n 0, 1) := by decide +kernel
theorem dX11_reads_161 : decode cX11_reads 161 = .ok (.iload 6, 2) := by decide +kernel
theorem dX11_reads_163 : decode cX11_reads 163 = .ok (.putfield 131, 3) := by decide +kernel
theorem dX11_reads_166 : decode cX11_reads 166 = .ok (.goto 9, 3) := by decide +kernel
theorem dX11_reads_169 : decode cX11_reads 169 = .ok (.aload_n 0, 1) := by decide +kernel
theorem dX11_reads_170 : decode cX11_reads 170 = .ok (.iload 6, 2) := by decide +kernel
theorem dX11_reads_172 : decode cX11_reads 172 = .ok (.putfield 134, 3) := by decide +kernel
theorem dX11_reads_175 : decode cX11_reads 175 = .ok (.iload_n 2, 1) := by decide +kernel
theorem dX11_reads_176 : decode cX11_reads 176 = .ok (.iload_n 1, 1) := by decide +kernel
theorem dX11_reads_177 : decode cX11_reads 177 = .ok (.if_icmp .ne 5, 3) := by decide +kernel
theorem dX11_reads_180 : decode cX11_reads 180 = .ok (.iconst 0, 1) := by decide +kernel
theorem dX11_reads_181 : decode cX11_reads 181 = .ok (.ireturn, 1) := by decide +kernel
theorem dX11_reads_182 : decode cX11_reads 182 = .ok (.aload_n 0, 1) := by decide +kernel
theorem dX11_reads_183 : decode cX11_reads 183 = .ok (.iload_n 2, 1) := by decide +kernel
theorem dX11_reads_184 : decode cX11_reads 184 = .ok (.iload_n 1, 1) := by decide +kernel
theorem dX11_reads_185 : decode cX11_reads 185 = .ok (.invokevirtual 137, 3) := by decide +kernel
theorem dX11_reads_188 : decode cX11_reads 188 = .ok (.bipush 59, 2) := by decide +kernel
theorem dX11_reads_190 : decode cX11_reads 190 = .ok (.if_icmp .eq 9, 3) := by decide +kernel
theorem dX11_reads_193 : decode cX11_reads 193 = .ok (.sipush 400, 3) := by decide +kernel
theorem dX11_reads_196 : decode cX11_reads 196 = .ok (.iload_n 2, 1) := by decide +kernel
theorem dX11_reads_197 : decode cX11_reads 197 = .ok (.iadd, 1) := by decide +kernel
theorem dX11_reads_198 : decode cX11_reads 198 = .ok (.ireturn, 1) := by decide +kernel
theorem dX11_reads_199 : decode cX11_reads 199 = .ok (.iinc 2 1, 3) := by decide +kernel
theorem dX11_reads_202 : decode cX11_reads 202 = .ok (.iinc 3 1, 3) := by decide +kernel
theorem dX11_reads_205 : decode cX11_reads 205 = .ok (.goto (-191), 3) := by decide +kernel
theorem dX11_reads_208 : decode cX11_reads 208 = .ok (.bipush 100, 2) := by decide +kernel
theorem dX11_reads_210 : decode cX11_reads 210 = .ok (.iload_n 2, 1) := by decide +kernel
theorem dX11_reads_211 : decode cX11_reads 211 = .ok (.iadd, 1) := by decide +kernel
theorem dX11_reads_212 : decode cX11_reads 212 = .ok (.ireturn, 1) := by decide +kernel
theorem dX11_law_0 : decode cX11_law 0 = .ok (.iload_n 1, 1) := by decide +kernel
theorem dX11_law_1 : decode cX11_law 1 = .ok (.iconst 0, 1) := by decide +kernel
theorem dX11_law_2 : decode cX11_law 2 = .ok (.bipush 6, 2) := by decide +kernel
theorem dX11_law_4 : decode cX11_law 4 = .ok (.invokestatic 141, 3) := by decide +kernel
theorem dX11_law_7 : decode cX11_law 7 = .ok (.ifCond .eq 15, 3) := by decide +kernel
theorem dX11_law_10 : decode cX11_law 10 = .ok (.iload_n 2, 1) := by decide +kernel
theorem dX11_law_11 : decode cX11_law 11 = .ok (.ifCond .lt 11, 3) := by decide +kernel
theorem dX11_law_14 : decode cX11_law 14 = .ok (.iload_n 2, 1) := by decide +kernel
theorem dX11_law_15 : decode cX11_law 15 = .ok (.aload_n 0, 1) := by decide +kernel
theorem dX11_law_16 : decode cX11_law 16 = .ok (.getfield 123, 3) := by decide +kernel
theorem dX11_law_19 : decode cX11_law 19 = .ok (.if_icmp .le 5, 3) := by decide +kernel
theorem dX11_law_22 : decode cX11_law 22 = .ok (.iconst (-1), 1) := by decide +kernel
theorem dX11_law_23 : decode cX11_law 23 = .ok (.ireturn, 1) := by decide +kernel
theorem dX11_law_24 : decode cX11_law 24 = .ok (.aload_n 0, 1) := by decide +kernel
theorem dX11_law_25 : decode cX11_law 25 = .ok (.iconst 0, 1) := by decide +kernel
theorem dX11_law_26 : decode cX11_law 26 = .ok (.putfield 123, 3) := by decide +kernel
theorem dX11_law_29 : decode cX11_law 29 = .ok (.aload_n 0, 1) := by decide +kernel
theorem dX11_law_30 : decode cX11_law 30 = .ok (.iload_n 2, 1) := by decide +kernel
theorem dX11_law_31 : decode cX11_law 31 = .ok (.invokevirtual 145, 3) := by decide +kernel
theorem dX11_law_34 : decode cX11_law 34 = .ok (.istore_n 3, 1) := by decide +kernel
theorem dX11_law_35 : decode cX11_law 35 = .ok (.iload_n 3, 1) := by decide +kernel
theorem dX11_law_36 : decode cX11_law 36 = .ok (.ifCond .le 5, 3) := by decide +kernel
theorem dX11_law_39 : decode cX11_law 39 = .ok (.iload_n 3, 1) := by decide +kernel
theorem dX11_law_40 : decode cX11_law 40 = .ok (.ireturn, 1) := by decide +kernel
theorem dX11_law_41 : decode cX11_law 41 = .ok (.aload_n 0, 1) := by decide +kernel
theorem dX11_law_42 : decode cX11_law 42 = .ok (.getfield 13, 3) := by decide +kernel
theorem dX11_law_45 : decode cX11_law 45 = .ok (.iload_n 1, 1) := by decide +kernel
theorem dX11_law_46 : decode cX11_law 46 = .ok (.iconst 1, 1) := by decide +kernel
theorem dX11_law_47 : decode cX11_law 47 = .ok (.bastore, 1) := by decide +kernel
theorem dX11_law_48 : decode cX11_law 48 = .ok (.aload_n 0, 1) := by decide +kernel
theorem dX11_law_49 : decode cX11_law 49 = .ok (.getfield 17, 3) := by decide +kernel
theorem dX11_law_52 : decode cX11_law 52 = .ok (.iload_n 1, 1) := by decide +kernel
theorem dX11_law_53 : decode cX11_law 53 = .ok (.aload_n 0, 1) := by decide +kernel
theorem dX11_law_54 : decode cX11_law 54 = .ok (.getfield 131, 3) := by decide +kernel
theorem dX11_law_57 : decode cX11_law 57 = .ok (.iastore, 1) := by decide +kernel
theorem dX11_law_58 : decode cX11_law 58 = .ok (.aload_n 0, 1) := by decide +kernel
theorem dX11_law_59 : decode cX11_law 59 = .ok (.getfield 21, 3) := by decide +kernel
theorem dX11_law_62 : decode cX11_law 62 = .ok (.iload_n 1, 1) := by decide +kernel
theorem dX11_law_63 : decode cX11_law 63 = .ok (.aload_n 0, 1) := by decide +kernel
theorem dX11_law_64 : decode cX11_law 64 = .ok (.getfield 134, 3) := by decide +kernel
theorem dX11_law_67 : decode cX11_law 67 = .ok (.iastore, 1) := by decide +kernel
theorem dX11_law_68 : decode cX11_law 68 = .ok (.iconst 0, 1) := by decide +kernel
theorem dX11_law_69 : decode cX11_law 69 = .ok (.ireturn, 1) := by decide +kernel
theorem dX11_dutyOn_0 : decode cX11_dutyOn 0 = .ok (.sipush 840, 3) := by decide +kernel
theorem dX11_dutyOn_3 : decode cX11_dutyOn 3 = .ok (.istore_n 2, 1) := by decide +kernel
theorem dX11_dutyOn_4 : decode cX11_dutyOn 4 = .ok (.iconst 0, 1) := by decide +kernel
theorem dX11_dutyOn_5 : decode cX11_dutyOn 5 = .ok (.istore_n 3, 1) := by decide +kernel
theorem dX11_dutyOn_6 : decode cX11_dutyOn 6 = .ok (.iload_n 3, 1) := by decide +kernel
theorem dX11_dutyOn_7 : decode cX11_dutyOn 7 = .ok (.iload_n 1, 1) := by decide +kernel
theorem dX11_dutyOn_8 : decode cX11_dutyOn 8 = .ok (.if_icmp .gt 39, 3) := by decide +kernel
theorem dX11_dutyOn_11 : decode cX11_dutyOn 11 = .ok (.aload_n 0, 1) := by decide +kernel
theorem dX11_dutyOn_12 : decode cX11_dutyOn 12 = .ok (.getfield 13, 3) := by decide +kernel
theorem dX11_dutyOn_15 : decode cX11_dutyOn 15 = .ok (.iload_n 3, 1) := by decide +kernel
theorem dX11_dutyOn_16 : decode cX11_dutyOn 16 = .ok (.baload, 1) := by decide +kernel
theorem dX11_dutyOn_17 : decode cX11_dutyOn 17 = .ok (.ifCond .eq 22, 3) := by decide +kernel
theorem dX11_dutyOn_20 : decode cX11_dutyOn 20 = .ok (.aload_n 0, 1) := by decide +kernel
theorem dX11_dutyOn_21 : decode cX11_dutyOn 21 = .ok (.getfield 17, 3) := by decide +kernel
theorem dX11_dutyOn_24 : decode cX11_dutyOn 24 = .ok (.iload_n 3, 1) := by decide +kernel
theorem dX11_dutyOn_25 : decode cX11_dutyOn 25 = .ok (.iaload, 1) := by decide +kernel
theorem dX11_dutyOn_26 : decode cX11_dutyOn 26 = .ok (.iconst (-1), 1) := by decide +kernel
theorem dX11_dutyOn_27 : decode cX11_dutyOn 27 = .ok (.if_icmp .eq 12, 3) := by decide +kernel
theorem dX11_dutyOn_30 : decode cX11_dutyOn 30 = .ok (.aload_n 0, 1) := by decide +kernel
theorem dX11_dutyOn_31 : decode cX11_dutyOn 31 = .ok (.getfield 17, 3) := by decide +kernel
theorem dX11_dutyOn_34 : decode cX11_dutyOn 34 = .ok (.iload_n 3, 1) := by decide +kernel
theorem dX11_dutyOn_35 : decode cX11_dutyOn 35 = .ok (.iaload, 1) := by decide +kernel
theorem dX11_dutyOn_36 : decode cX11_dutyOn 36 = .ok (.goto 4, 3) := by decide +kernel
theorem dX11_dutyOn_39 : decode cX11_dutyOn 39 = .ok (.iload_n 2, 1) := by decide +kernel
theorem dX11_dutyOn_40 : decode cX11_dutyOn 40 = .ok (.istore_n 2, 1) := by decide +kernel
theorem dX11_dutyOn_41 : decode cX11_dutyOn 41 = .ok (.iinc 3 1, 3) := by decide +kernel
theorem dX11_dutyOn_44 : decode cX11_dutyOn 44 = .ok (.goto (-38), 3) := by decide +kernel
theorem dX11_dutyOn_47 : decode cX11_dutyOn 47 = .ok (.iload_n 2, 1) := by decide +kernel
theorem dX11_dutyOn_48 : decode cX11_dutyOn 48 = .ok (.ireturn, 1) := by decide +kernel
theorem dX11_restOn_0 : decode cX11_restOn 0 = .ok (.sipush 600, 3) := by decide +kernel
theorem dX11_restOn_3 : decode cX11_restOn 3 = .ok (.istore_n 2, 1) := by decide +kernel
theorem dX11_restOn_4 : decode cX11_restOn 4 = .ok (.iconst 0, 1) := by decide +kernel
theorem dX11_restOn_5 : decode cX11_restOn 5 = .ok (.istore_n 3, 1) := by decide +kernel
theorem dX11_restOn_6 : decode cX11_restOn 6 = .ok (.iload_n 3, 1) := by decide +kernel
theorem dX11_restOn_7 : decode cX11_restOn 7 = .ok (.iload_n 1, 1) := by decide +kernel
theorem dX11_restOn_8 : decode cX11_restOn 8 = .ok (.if_icmp .gt 39, 3) := by decide +kernel
theorem dX11_restOn_11 : decode cX11_restOn 11 = .ok (.aload_n 0, 1) := by decide +kernel
theorem dX11_restOn_12 : decode cX11_restOn 12 = .ok (.getfield 13, 3) := by decide +kernel
theorem dX11_restOn_15 : decode cX11_restOn 15 = .ok (.iload_n 3, 1) := by decide +kernel
theorem dX11_restOn_16 : decode cX11_restOn 16 = .ok (.baload, 1) := by decide +kernel
theorem dX11_restOn_17 : decode cX11_restOn 17 = .ok (.ifCond .eq 22, 3) := by decide +kernel
theorem dX11_restOn_20 : decode cX11_restOn 20 = .ok (.aload_n 0, 1) := by decide +kernel
theorem dX11_restOn_21 : decode cX11_restOn 21 = .ok (.getfield 21, 3) := by decide +kernel
theorem dX11_restOn_24 : decode cX11_restOn 24 = .ok (.iload_n 3, 1) := by decide +kernel
theorem dX11_restOn_25 : decode cX11_restOn 25 = .ok (.iaload, 1) := by decide +kernel
theorem dX11_restOn_26 : decode cX11_restOn 26 = .ok (.iconst (-1), 1) := by decide +kernel
theorem dX11_restOn_27 : decode cX11_restOn 27 = .ok (.if_icmp .eq 12, 3) := by decide +kernel
theorem dX11_restOn_30 : decode cX11_restOn 30 = .ok (.aload_n 0, 1) := by decide +kernel
theorem dX11_restOn_31 : decode cX11_restOn 31 = .ok (.getfield 21, 3) := by decide +kernel
theorem dX11_restOn_34 : decode cX11_restOn 34 = .ok (.iload_n 3, 1) := by decide +kernel
theorem dX11_restOn_35 : decode cX11_restOn 35 = .ok (.iaload, 1) := by decide +kernel
theorem dX11_restOn_36 : decode cX11_restOn 36 = .ok (.goto 4, 3) := by decide +kernel
theorem dX11_restOn_39 : decode cX11_restOn 39 = .ok (.iload_n 2, 1) := by decide +kernel
theorem dX11_restOn_40 : decode cX11_restOn 40 = .ok (.istore_n 2, 1) := by decide +kernel
theorem dX11_restOn_41 : decode cX11_restOn 41 = .ok (.iinc 3 1, 3) := by decide +kernel
theorem dX11_restOn_44 : decode cX11_restOn 44 = .ok (.goto (-38), 3) := by decide +kernel
theorem dX11_restOn_47 : decode cX11_restOn 47 = .ok (.iload_n 2, 1) := by decide +kernel
theorem dX11_restOn_48 : decode cX11_restOn 48 = .ok (.ireturn, 1) := by decide +kernel
theorem dX11_rule_0 : decode cX11_rule 0 = .ok (.iload_n 1, 1) := by decide +kernel
theorem dX11_rule_1 : decode cX11_rule 1 = .ok (.iconst 0, 1) := by decide +kernel
theorem dX11_rule_2 : decode cX11_rule 2 = .ok (.bipush 6, 2) := by decide +kernel
theorem dX11_rule_4 : decode cX11_rule 4 = .ok (.invokestatic 141, 3) := by decide +kernel
theorem dX11_rule_7 : decode cX11_rule 7 = .ok (.ifCond .ne 7, 3) := by decide +kernel
theorem dX11_rule_10 : decode cX11_rule 10 = .ok (.iconst (-1), 1) := by decide +kernel
theorem dX11_rule_11 : decode cX11_rule 11 = .ok (.goto 29, 3) := by decide +kernel
theorem dX11_rule_14 : decode cX11_rule 14 = .ok (.iload_n 2, 1) := by decide +kernel
theorem dX11_rule_15 : decode cX11_rule 15 = .ok (.ifCond .ne 11, 3) := by decide +kernel
theorem dX11_rule_18 : decode cX11_rule 18 = .ok (.aload_n 0, 1) := by decide +kernel
theorem dX11_rule_19 : decode cX11_rule 19 = .ok (.iload_n 1, 1) := by decide +kernel
theorem dX11_rule_20 : decode cX11_rule 20 = .ok (.invokevirtual 149, 3) := by decide +kernel
theorem dX11_rule_23 : decode cX11_rule 23 = .ok (.goto 17, 3) := by decide +kernel
theorem dX11_rule_26 : decode cX11_rule 26 = .ok (.iload_n 2, 1) := by decide +kernel
theorem dX11_rule_27 : decode cX11_rule 27 = .ok (.iconst 1, 1) := by decide +kernel
theorem dX11_rule_28 : decode cX11_rule 28 = .ok (.if_icmp .ne 11, 3) := by decide +kernel
theorem dX11_rule_31 : decode cX11_rule 31 = .ok (.aload_n 0, 1) := by decide +kernel
theorem dX11_rule_32 : decode cX11_rule 32 = .ok (.iload_n 1, 1) := by decide +kernel
theorem dX11_rule_33 : decode cX11_rule 33 = .ok (.invokevirtual 152, 3) := by decide +kernel
theorem dX11_rule_36 : decode cX11_rule 36 = .ok (.goto 4, 3) := by decide +kernel
theorem dX11_rule_39 : decode cX11_rule 39 = .ok (.iconst (-1), 1) := by decide +kernel
theorem dX11_rule_40 : decode cX11_rule 40 = .ok (.ireturn, 1) := by decide +kernel
theorem dX11_minutes_0 : decode cX11_minutes 0 = .ok (.aload_n 0, 1) := by decide +kernel
theorem dX11_minutes_1 : decode cX11_minutes 1 = .ok (.getfield 24, 3) := by decide +kernel
theorem dX11_minutes_4 : decode cX11_minutes 4 = .ok (.bipush 8, 2) := by decide +kernel
theorem dX11_minutes_6 : decode cX11_minutes 6 = .ok (.iload_n 1, 1) := by decide +kernel
theorem dX11_minutes_7 : decode cX11_minutes 7 = .ok (.imul, 1) := by decide +kernel
theorem dX11_minutes_8 : decode cX11_minutes 8 = .ok (.iload_n 2, 1) := by decide +kernel
theorem dX11_minutes_9 : decode cX11_minutes 9 = .ok (.iadd, 1) := by decide +kernel
theorem dX11_minutes_10 : decode cX11_minutes 10 = .ok (.iaload, 1) := by decide +kernel
theorem dX11_minutes_11 : decode cX11_minutes 11 = .ok (.ireturn, 1) := by decide +kernel
theorem dX11_areTwo_0 : decode cX11_areTwo 0 = .ok (.iload_n 0, 1) := by decide +kernel
theorem dX11_areTwo_1 : decode cX11_areTwo 1 = .ok (.iconst 0, 1) := by decide +kernel
theorem dX11_areTwo_2 : decode cX11_areTwo 2 = .ok (.bipush 7, 2) := by decide +kernel
theorem dX11_areTwo_4 : decode cX11_areTwo 4 = .ok (.invokestatic 141, 3) := by decide +kernel
theorem dX11_areTwo_7 : decode cX11_areTwo 7 = .ok (.ifCond .eq 22, 3) := by decide +kernel
theorem dX11_areTwo_10 : decode cX11_areTwo 10 = .ok (.iload_n 1, 1) := by decide +kernel
theorem dX11_areTwo_11 : decode cX11_areTwo 11 = .ok (.iconst 0, 1) := by decide +kernel
theorem dX11_areTwo_12 : decode cX11_areTwo 12 = .ok (.bipush 7, 2) := by decide +kernel
theorem dX11_areTwo_14 : decode cX11_areTwo 14 = .ok (.invokestatic 141, 3) := by decide +kernel
theorem dX11_areTwo_17 : decode cX11_areTwo 17 = .ok (.ifCond .eq 12, 3) := by decide +kernel
theorem dX11_areTwo_20 : decode cX11_areTwo 20 = .ok (.iload_n 0, 1) := by decide +kernel
theorem dX11_areTwo_21 : decode cX11_areTwo 21 = .ok (.iload_n 1, 1) := by decide +kernel
theorem dX11_areTwo_22 : decode cX11_areTwo 22 = .ok (.if_icmp .eq 7, 3) := by decide +kernel
theorem dX11_areTwo_25 : decode cX11_areTwo 25 = .ok (.iconst 1, 1) := by decide +kernel
theorem dX11_areTwo_26 : decode cX11_areTwo 26 = .ok (.goto 4, 3) := by decide +kernel
theorem dX11_areTwo_29 : decode cX11_areTwo 29 = .ok (.iconst 0, 1) := by decide +kernel
theorem dX11_areTwo_30 : decode cX11_areTwo 30 = .ok (.ireturn, 1) := by decide +kernel
theorem dX11_way_0 : decode cX11_way 0 = .ok (.iload_n 1, 1) := by decide +kernel
theorem dX11_way_1 : decode cX11_way 1 = .ok (.iload_n 2, 1) := by decide +kernel
theorem dX11_way_2 : decode cX11_way 2 = .ok (.invokestatic 155, 3) := by decide +kernel
theorem dX11_way_5 : decode cX11_way 5 = .ok (.ifCond .eq 19, 3) := by decide +kernel
theorem dX11_way_8 : decode cX11_way 8 = .ok (.iload_n 3, 1) := by decide +kernel
theorem dX11_way_9 : decode cX11_way 9 = .ok (.ifCond .eq 17, 3) := by decide +kernel
theorem dX11_way_12 : decode cX11_way 12 = .ok (.iload_n 3, 1) := by decide +kernel
theorem dX11_way_13 : decode cX11_way 13 = .ok (.bipush 10, 2) := by decide +kernel
theorem dX11_way_15 : decode cX11_way 15 = .ok (.sipush 600, 3) := by decide +kernel
theorem dX11_way_18 : decode cX11_way 18 = .ok (.invokestatic 141, 3) := by decide +kernel
theorem dX11_way_21 : decode cX11_way 21 = .ok (.ifCond .ne 5, 3) := by decide +kernel
theorem dX11_way_24 : decode cX11_way 24 = .ok (.iconst 0, 1) := by decide +kernel
theorem dX11_way_25 : decode cX11_way 25 = .ok (.ireturn, 1) := by decide +kernel
theorem dX11_way_26 : decode cX11_way 26 = .ok (.iconst 0, 1) := by decide +kernel
theorem dX11_way_27 : decode cX11_way 27 = .ok (.istore 4, 2) := by decide +kernel
theorem dX11_way_29 : decode cX11_way 29 = .ok (.iload 4, 2) := by decide +kernel
theorem dX11_way_31 : decode cX11_way 31 = .ok (.aload_n 0, 1) := by decide +kernel
theorem dX11_way_32 : decode cX11_way 32 = .ok (.getfield 159, 3) := by decide +kernel
theorem dX11_way_35 : decode cX11_way 35 = .ok (.if_icmp .ge 69, 3) := by decide +kernel
theorem dX11_way_38 : decode cX11_way 38 = .ok (.iload_n 3, 1) := by decide +kernel
theorem dX11_way_39 : decode cX11_way 39 = .ok (.ifCond .ne 65, 3) := by decide +kernel
theorem dX11_way_42 : decode cX11_way 42 = .ok (.aload_n 0, 1) := by decide +kernel
theorem dX11_way_43 : decode cX11_way 43 = .ok (.getfield 51, 3) := by decide +kernel
theorem dX11_way_46 : decode cX11_way 46 = .ok (.iload 4, 2) := by decide +kernel
theorem dX11_way_48 : decode cX11_way 48 = .ok (.baload, 1) := by decide +kernel
theorem dX11_way_49 : decode cX11_way 49 = .ok (.ifCond .ne 49, 3) := by decide +kernel
theorem dX11_way_52 : decode cX11_way 52 = .ok (.aload_n 0, 1) := by decide +kernel
theorem dX11_way_53 : decode cX11_way 53 = .ok (.getfield 39, 3) := by decide +kernel
theorem dX11_way_56 : decode cX11_way 56 = .ok (.iload 4, 2) := by decide +kernel
theorem dX11_way_58 : decode cX11_way 58 = .ok (.iaload, 1) := by decide +kernel
theorem dX11_way_59 : decode cX11_way 59 = .ok (.iload_n 1, 1) := by decide +kernel
theorem dX11_way_60 : decode cX11_way 60 = .ok (.if_icmp .ne 14, 3) := by decide +kernel
theorem dX11_way_63 : decode cX11_way 63 = .ok (.aload_n 0, 1) := by decide +kernel
theorem dX11_way_64 : decode cX11_way 64 = .ok (.getfield 42, 3) := by decide +kernel
theorem dX11_way_67 : decode cX11_way 67 = .ok (.iload 4, 2) := by decide +kernel
theorem dX11_way_69 : decode cX11_way 69 = .ok (.iaload, 1) := by decide +kernel
theorem dX11_way_70 : decode cX11_way 70 = .ok (.iload_n 2, 1) := by decide +kernel
theorem dX11_way_71 : decode cX11_way 71 = .ok (.if_icmp .eq 25, 3) := by decide +kernel
theorem dX11_way_74 : decode cX11_way 74 = .ok (.aload_n 0, 1) := by decide +kernel
theorem dX11_way_75 : decode cX11_way 75 = .ok (.getfield 39, 3) := by decide +kernel
theorem dX11_way_78 : decode cX11_way 78 = .ok (.iload 4, 2) := by decide +kernel
theorem dX11_way_80 : decode cX11_way 80 = .ok (.iaload, 1) := by decide +kernel
theorem dX11_way_81 : decode cX11_way 81 = .ok (.iload_n 2, 1) := by decide +kernel
theorem dX11_way_82 : decode cX11_way 82 = .ok (.if_icmp .ne 16, 3) := by decide +kernel
theorem dX11_way_85 : decode cX11_way 85 = .ok (.aload_n 0, 1) := by decide +kernel
theorem dX11_way_86 : decode cX11_way 86 = .ok (.getfield 42, 3) := by decide +kernel
theorem dX11_way_89 : decode cX11_way 89 = .ok (.iload 4, 2) := by decide +kernel
theorem dX11_way_91 : decode cX11_way 91 = .ok (.iaload, 1) := by decide +kernel
theorem dX11_way_92 : decode cX11_way 92 = .ok (.iload_n 1, 1) := by decide +kernel
theorem dX11_way_93 : decode cX11_way 93 = .ok (.if_icmp .ne 5, 3) := by decide +kernel
theorem dX11_way_96 : decode cX11_way 96 = .ok (.iconst 0, 1) := by decide +kernel
theorem dX11_way_97 : decode cX11_way 97 = .ok (.ireturn, 1) := by decide +kernel
theorem dX11_way_98 : decode cX11_way 98 = .ok (.iinc 4 1, 3) := by decide +kernel
theorem dX11_way_101 : decode cX11_way 101 = .ok (.goto (-72), 3) := by decide +kernel
theorem dX11_way_104 : decode cX11_way 104 = .ok (.aload_n 0, 1) := by decide +kernel
theorem dX11_way_105 : decode cX11_way 105 = .ok (.getfield 24, 3) := by decide +kernel
theorem dX11_way_108 : decode cX11_way 108 = .ok (.bipush 8, 2) := by decide +kernel
theorem dX11_way_110 : decode cX11_way 110 = .ok (.iload_n 1, 1) := by decide +kernel
theorem dX11_way_111 : decode cX11_way 111 = .ok (.imul, 1) := by decide +kernel
theorem dX11_way_112 : decode cX11_way 112 = .ok (.iload_n 2, 1) := by decide +kernel
theorem dX11_way_113 : decode cX11_way 113 = .ok (.iadd, 1) := by decide +kernel
theorem dX11_way_114 : decode cX11_way 114 = .ok (.iload_n 3, 1) := by decide +kernel
theorem dX11_way_115 : decode cX11_way 115 = .ok (.iastore, 1) := by decide +kernel
theorem dX11_way_116 : decode cX11_way 116 = .ok (.aload_n 0, 1) := by decide +kernel
theorem dX11_way_117 : decode cX11_way 117 = .ok (.getfield 24, 3) := by decide +kernel
theorem dX11_way_120 : decode cX11_way 120 = .ok (.bipush 8, 2) := by decide +kernel
theorem dX11_way_122 : decode cX11_way 122 = .ok (.iload_n 2, 1) := by decide +kernel
theorem dX11_way_123 : decode cX11_way 123 = .ok (.imul, 1) := by decide +kernel
theorem dX11_way_124 : decode cX11_way 124 = .ok (.iload_n 1, 1) := by decide +kernel
theorem dX11_way_125 : decode cX11_way 125 = .ok (.iadd, 1) := by decide +kernel
theorem dX11_way_126 : decode cX11_way 126 = .ok (.iload_n 3, 1) := by decide +kernel
theorem dX11_way_127 : decode cX11_way 127 = .ok (.iastore, 1) := by decide +kernel
theorem dX11_way_128 : decode cX11_way 128 = .ok (.iconst 1, 1) := by decide +kernel
theorem dX11_way_129 : decode cX11_way 129 = .ok (.ireturn, 1) := by decide +kernel
theorem dX11_plane_0 : decode cX11_plane 0 = .ok (.aload_n 0, 1) := by decide +kernel
theorem dX11_plane_1 : decode cX11_plane 1 = .ok (.getfield 162, 3) := by decide +kernel
theorem dX11_plane_4 : decode cX11_plane 4 = .ok (.iconst 4, 1) := by decide +kernel
theorem dX11_plane_5 : decode cX11_plane 5 = .ok (.if_icmp .eq 46, 3) := by decide +kernel
theorem dX11_plane_8 : decode cX11_plane 8 = .ok (.iload_n 1, 1) := by decide +kernel
theorem dX11_plane_9 : decode cX11_plane 9 = .ok (.iconst 0, 1) := by decide +kernel
theorem dX11_plane_10 : decode cX11_plane 10 = .ok (.bipush 7, 2) := by decide +kernel
theorem dX11_plane_12 : decode cX11_plane 12 = .ok (.invokestatic 141, 3) := by decide +kernel
theorem dX11_plane_15 : decode cX11_plane 15 = .ok (.ifCond .eq 36, 3) := by decide +kernel
theorem dX11_plane_18 : decode cX11_plane 18 = .ok (.iload_n 2, 1) := by decide +kernel
theorem dX11_plane_19 : decode cX11_plane 19 = .ok (.iconst 1, 1) := by decide +kernel
theorem dX11_plane_20 : decode cX11_plane 20 = .ok (.bipush 30, 2) := by decide +kernel
theorem dX11_plane_22 : decode cX11_plane 22 = .ok (.invokestatic 141, 3) := by decide +kernel
theorem dX11_plane_25 : decode cX11_plane 25 = .ok (.ifCond .eq 26, 3) := by decide +kernel
theorem dX11_plane_28 : decode cX11_plane 28 = .ok (.iload_n 3, 1) := by decide +kernel
theorem dX11_plane_29 : decode cX11_plane 29 = .ok (.iconst 0, 1) := by decide +kernel
theorem dX11_plane_30 : decode cX11_plane 30 = .ok (.sipush 180, 3) := by decide +kernel
theorem dX11_plane_33 : decode cX11_plane 33 = .ok (.invokestatic 141, 3) := by decide +kernel
theorem dX11_plane_36 : decode cX11_plane 36 = .ok (.ifCond .eq 15, 3) := by decide +kernel
theorem dX11_plane_39 : decode cX11_plane 39 = .ok (.iload 4, 2) := by decide +kernel
theorem dX11_plane_41 : decode cX11_plane 41 = .ok (.iconst 1, 1) := by decide +kernel
theorem dX11_plane_42 : decode cX11_plane 42 = .ok (.sipush 1000, 3) := by decide +kernel
theorem dX11_plane_45 : decode cX11_plane 45 = .ok (.invokestatic 141, 3) := by decide +kernel
theorem dX11_plane_48 : decode cX11_plane 48 = .ok (.ifCond .ne 5, 3) := by decide +kernel
theorem dX11_plane_51 : decode cX11_plane 51 = .ok (.iconst (-1), 1) := by decide +kernel
theorem dX11_plane_52 : decode cX11_plane 52 = .ok (.ireturn, 1) := by decide +kernel
theorem dX11_plane_53 : decode cX11_plane 53 = .ok (.aload_n 0, 1) := by decide +kernel
theorem dX11_plane_54 : decode cX11_plane 54 = .ok (.getfield 27, 3) := by decide +kernel
theorem dX11_plane_57 : decode cX11_plane 57 = .ok (.aload_n 0, 1) := by decide +kernel
theorem dX11_plane_58 : decode cX11_plane 58 = .ok (.getfield 162, 3) := by decide +kernel
theorem dX11_plane_61 : decode cX11_plane 61 = .ok (.iload_n 1, 1) := by decide +kernel
theorem dX11_plane_62 : decode cX11_plane 62 = .ok (.iastore, 1) := by decide +kernel
theorem dX11_plane_63 : decode cX11_plane 63 = .ok (.aload_n 0, 1) := by decide +kernel
theorem dX11_plane_64 : decode cX11_plane 64 = .ok (.getfield 30, 3) := by decide +kernel
theorem dX11_plane_67 : decode cX11_plane 67 = .ok (.aload_n 0, 1) := by decide +kernel
theorem dX11_plane_68 : decode cX11_plane 68 = .ok (.getfield 162, 3) := by decide +kernel
theorem dX11_plane_71 : decode cX11_plane 71 = .ok (.iload_n 2, 1) := by decide +kernel
theorem dX11_plane_72 : decode cX11_plane 72 = .ok (.iastore, 1) := by decide +kernel
theorem dX11_plane_73 : decode cX11_plane 73 = .ok (.aload_n 0, 1) := by decide +kernel
theorem dX11_plane_74 : decode cX11_plane 74 = .ok (.getfield 33, 3) := by decide +kernel
theorem dX11_plane_77 : decode cX11_plane 77 = .ok (.aload_n 0, 1) := by decide +kernel
theorem dX11_plane_78 : decode cX11_plane 78 = .ok (.getfield 162, 3) := by decide +kernel
theorem dX11_plane_81 : decode cX11_plane 81 = .ok (.iload_n 3, 1) := by decide +kernel
theorem dX11_plane_82 : decode cX11_plane 82 = .ok (.iastore, 1) := by decide +kernel
theorem dX11_plane_83 : decode cX11_plane 83 = .ok (.aload_n 0, 1) := by decide +kernel
theorem dX11_plane_84 : decode cX11_plane 84 = .ok (.getfield 36, 3) := by decide +kernel
theorem dX11_plane_87 : decode cX11_plane 87 = .ok (.aload_n 0, 1) := by decide +kernel
theorem dX11_plane_88 : decode cX11_plane 88 = .ok (.getfield 162, 3) := by decide +kernel
theorem dX11_plane_91 : decode cX11_plane 91 = .ok (.iload 4, 2) := by decide +kernel
theorem dX11_plane_93 : decode cX11_plane 93 = .ok (.iastore, 1) := by decide +kernel
theorem dX11_plane_94 : decode cX11_plane 94 = .ok (.aload_n 0, 1) := by decide +kernel
theorem dX11_plane_95 : decode cX11_plane 95 = .ok (.dup, 1) := by decide +kernel
theorem dX11_plane_96 : decode cX11_plane 96 = .ok (.getfield 162, 3) := by decide +kernel
theorem dX11_plane_99 : decode cX11_plane 99 = .ok (.iconst 1, 1) := by decide +kernel
theorem dX11_plane_100 : decode cX11_plane 100 = .ok (.iadd, 1) := by decide +kernel
theorem dX11_plane_101 : decode cX11_plane 101 = .ok (.putfield 162, 3) := by decide +kernel
theorem dX11_plane_104 : decode cX11_plane 104 = .ok (.aload_n 0, 1) := by decide +kernel
theorem dX11_plane_105 : decode cX11_plane 105 = .ok (.getfield 162, 3) := by decide +kernel
theorem dX11_plane_108 : decode cX11_plane 108 = .ok (.iconst 1, 1) := by decide +kernel
theorem dX11_plane_109 : decode cX11_plane 109 = .ok (.isub, 1) := by decide +kernel
theorem dX11_plane_110 : decode cX11_plane 110 = .ok (.ireturn, 1) := by decide +kernel
theorem dX11_there_0 : decode cX11_there 0 = .ok (.iconst 0, 1) := by decide +kernel
theorem dX11_there_1 : decode cX11_there 1 = .ok (.istore_n 1, 1) := by decide +kernel
theorem dX11_there_2 : decode cX11_there 2 = .ok (.iconst 0, 1) := by decide +kernel
theorem dX11_there_3 : decode cX11_there 3 = .ok (.istore_n 2, 1) := by decide +kernel
theorem dX11_there_4 : decode cX11_there 4 = .ok (.iload_n 2, 1) := by decide +kernel
theorem dX11_there_5 : decode cX11_there 5 = .ok (.aload_n 0, 1) := by decide +kernel
theorem dX11_there_6 : decode cX11_there 6 = .ok (.getfield 159, 3) := by decide +kernel
theorem dX11_there_9 : decode cX11_there 9 = .ok (.if_icmp .ge 26, 3) := by decide +kernel
theorem dX11_there_12 : decode cX11_there 12 = .ok (.iload_n 1, 1) := by decide +kernel
theorem dX11_there_13 : decode cX11_there 13 = .ok (.aload_n 0, 1) := by decide +kernel
theorem dX11_there_14 : decode cX11_there 14 = .ok (.getfield 51, 3) := by decide +kernel
theorem dX11_there_17 : decode cX11_there 17 = .ok (.iload_n 2, 1) := by decide +kernel
theorem dX11_there_18 : decode cX11_there 18 = .ok (.baload, 1) := by decide +kernel
theorem dX11_there_19 : decode cX11_there 19 = .ok (.ifCond .eq 7, 3) := by decide +kernel
theorem dX11_there_22 : decode cX11_there 22 = .ok (.iconst 0, 1) := by decide +kernel
theorem dX11_there_23 : decode cX11_there 23 = .ok (.goto 4, 3) := by decide +kernel
theorem dX11_there_26 : decode cX11_there 26 = .ok (.iconst 1, 1) := by decide +kernel
theorem dX11_there_27 : decode cX11_there 27 = .ok (.iadd, 1) := by decide +kernel
theorem dX11_there_28 : decode cX11_there 28 = .ok (.istore_n 1, 1) := by decide +kernel
theorem dX11_there_29 : decode cX11_there 29 = .ok (.iinc 2 1, 3) := by decide +kernel
theorem dX11_there_32 : decode cX11_there 32 = .ok (.goto (-28), 3) := by decide +kernel
theorem dX11_there_35 : decode cX11_there 35 = .ok (.iload_n 1, 1) := by decide +kernel
theorem dX11_there_36 : decode cX11_there 36 = .ok (.ireturn, 1) := by decide +kernel
theorem dX11_flight_0 : decode cX11_flight 0 = .ok (.iload_n 1, 1) := by decide +kernel
theorem dX11_flight_1 : decode cX11_flight 1 = .ok (.iload_n 2, 1) := by decide +kernel
theorem dX11_flight_2 : decode cX11_flight 2 = .ok (.invokestatic 155, 3) := by decide +kernel
theorem dX11_flight_5 : decode cX11_flight 5 = .ok (.ifCond .eq 52, 3) := by decide +kernel
theorem dX11_flight_8 : decode cX11_flight 8 = .ok (.aload_n 0, 1) := by decide +kernel
theorem dX11_flight_9 : decode cX11_flight 9 = .ok (.iload_n 1, 1) := by decide +kernel
theorem dX11_flight_10 : decode cX11_flight 10 = .ok (.iload_n 2, 1) := by decide +kernel
theorem dX11_flight_11 : decode cX11_flight 11 = .ok (.invokevirtual 165, 3) := by decide +kernel
theorem dX11_flight_14 : decode cX11_flight 14 = .ok (.ifCond .eq 43, 3) := by decide +kernel
theorem dX11_flight_17 : decode cX11_flight 17 = .ok (.iload_n 3, 1) := by decide +kernel
theorem dX11_flight_18 : decode cX11_flight 18 = .ok (.iconst 0, 1) := by decide +kernel
theorem dX11_flight_19 : decode cX11_flight 19 = .ok (.sipush 10079, 3) := by decide +kernel
theorem dX11_flight_22 : decode cX11_flight 22 = .ok (.invokestatic 141, 3) := by decide +kernel
theorem dX11_flight_25 : decode cX11_flight 25 = .ok (.ifCond .eq 32, 3) := by decide +kernel
theorem dX11_flight_28 : decode cX11_flight 28 = .ok (.iload 4, 2) := by decide +kernel
theorem dX11_flight_30 : decode cX11_flight 30 = .ok (.iconst 1, 1) := by decide +kernel
theorem dX11_flight_31 : decode cX11_flight 31 = .ok (.bipush 30, 2) := by decide +kernel
theorem dX11_flight_33 : decode cX11_flight 33 = .ok (.invokestatic 141, 3) := by decide +kernel
theorem dX11_flight_36 : decode cX11_flight 36 = .ok (.ifCond .eq 21, 3) := by decide +kernel
theorem dX11_flight_39 : decode cX11_flight 39 = .ok (.aload_n 0, 1) := by decide +kernel
theorem dX11_flight_40 : decode cX11_flight 40 = .ok (.getfield 159, 3) := by decide +kernel
theorem dX11_flight_43 : decode cX11_flight 43 = .ok (.bipush 20, 2) := by decide +kernel
theorem dX11_flight_45 : decode cX11_flight 45 = .ok (.if_icmp .eq 12, 3) := by decide +kernel
theorem dX11_flight_48 : decode cX11_flight 48 = .ok (.aload_n 0, 1) := by decide +kernel
theorem dX11_flight_49 : decode cX11_flight 49 = .ok (.invokevirtual 168, 3) := by decide +kernel
theorem dX11_flight_52 : decode cX11_flight 52 = .ok (.bipush 8, 2) := by decide +kernel
theorem dX11_flight_54 : decode cX11_flight 54 = .ok (.if_icmp .ne 5, 3) := by decide +kernel
theorem dX11_flight_57 : decode cX11_flight 57 = .ok (.iconst (-1), 1) := by decide +kernel
theorem dX11_flight_58 : decode cX11_flight 58 = .ok (.ireturn, 1) := by decide +kernel
theorem dX11_flight_59 : decode cX11_flight 59 = .ok (.aload_n 0, 1) := by decide +kernel
theorem dX11_flight_60 : decode cX11_flight 60 = .ok (.getfield 39, 3) := by decide +kernel
theorem dX11_flight_63 : decode cX11_flight 63 = .ok (.aload_n 0, 1) := by decide +kernel
theorem dX11_flight_64 : decode cX11_flight 64 = .ok (.getfield 159, 3) := by decide +kernel
theorem dX11_flight_67 : decode cX11_flight 67 = .ok (.iload_n 1, 1) := by decide +kernel
theorem dX11_flight_68 : decode cX11_flight 68 = .ok (.iastore, 1) := by decide +kernel
theorem dX11_flight_69 : decode cX11_flight 69 = .ok (.aload_n 0, 1) := by decide +kernel
theorem dX11_flight_70 : decode cX11_flight 70 = .ok (.getfield 42, 3) := by decide +kernel
theorem dX11_flight_73 : decode cX11_flight 73 = .ok (.aload_n 0, 1) := by decide +kernel
theorem dX11_flight_74 : decode cX11_flight 74 = .ok (.getfield 159, 3) := by decide +kernel
theorem dX11_flight_77 : decode cX11_flight 77 = .ok (.iload_n 2, 1) := by decide +kernel
theorem dX11_flight_78 : decode cX11_flight 78 = .ok (.iastore, 1) := by decide +kernel
theorem dX11_flight_79 : decode cX11_flight 79 = .ok (.aload_n 0, 1) := by decide +kernel
theorem dX11_flight_80 : decode cX11_flight 80 = .ok (.getfield 45, 3) := by decide +kernel
theorem dX11_flight_83 : decode cX11_flight 83 = .ok (.aload_n 0, 1) := by decide +kernel
theorem dX11_flight_84 : decode cX11_flight 84 = .ok (.getfield 159, 3) := by decide +kernel
theorem dX11_flight_87 : decode cX11_flight 87 = .ok (.iload_n 3, 1) := by decide +kernel
theorem dX11_flight_88 : decode cX11_flight 88 = .ok (.iastore, 1) := by decide +kernel
theorem dX11_flight_89 : decode cX11_flight 89 = .ok (.aload_n 0, 1) := by decide +kernel
theorem dX11_flight_90 : decode cX11_flight 90 = .ok (.getfield 48, 3) := by decide +kernel
theorem dX11_flight_93 : decode cX11_flight 93 = .ok (.aload_n 0, 1) := by decide +kernel
theorem dX11_flight_94 : decode cX11_flight 94 = .ok (.getfield 159, 3) := by decide +kernel
theorem dX11_flight_97 : decode cX11_flight 97 = .ok (.iload 4, 2) := by decide +kernel
theorem dX11_flight_99 : decode cX11_flight 99 = .ok (.iastore, 1) := by decide +kernel
theorem dX11_flight_100 : decode cX11_flight 100 = .ok (.aload_n 0, 1) := by decide +kernel
theorem dX11_flight_101 : decode cX11_flight 101 = .ok (.getfield 54, 3) := by decide +kernel
theorem dX11_flight_104 : decode cX11_flight 104 = .ok (.aload_n 0, 1) := by decide +kernel
theorem dX11_flight_105 : decode cX11_flight 105 = .ok (.getfield 159, 3) := by decide +kernel
theorem dX11_flight_108 : decode cX11_flight 108 = .ok (.iconst (-1), 1) := by decide +kernel
theorem dX11_flight_109 : decode cX11_flight 109 = .ok (.iastore, 1) := by decide +kernel
theorem dX11_flight_110 : decode cX11_flight 110 = .ok (.aload_n 0, 1) := by decide +kernel
theorem dX11_flight_111 : decode cX11_flight 111 = .ok (.dup, 1) := by decide +kernel
theorem dX11_flight_112 : decode cX11_flight 112 = .ok (.getfield 159, 3) := by decide +kernel
theorem dX11_flight_115 : decode cX11_flight 115 = .ok (.iconst 1, 1) := by decide +kernel
theorem dX11_flight_116 : decode cX11_flight 116 = .ok (.iadd, 1) := by decide +kernel
theorem dX11_flight_117 : decode cX11_flight 117 = .ok (.putfield 159, 3) := by decide +kernel
theorem dX11_flight_120 : decode cX11_flight 120 = .ok (.aload_n 0, 1) := by decide +kernel
theorem dX11_flight_121 : decode cX11_flight 121 = .ok (.getfield 159, 3) := by decide +kernel
theorem dX11_flight_124 : decode cX11_flight 124 = .ok (.iconst 1, 1) := by decide +kernel
theorem dX11_flight_125 : decode cX11_flight 125 = .ok (.isub, 1) := by decide +kernel
theorem dX11_flight_126 : decode cX11_flight 126 = .ok (.ireturn, 1) := by decide +kernel
theorem dX11_isFlight_0 : decode cX11_isFlight 0 = .ok (.iload_n 1, 1) := by decide +kernel
theorem dX11_isFlight_1 : decode cX11_isFlight 1 = .ok (.iconst 0, 1) := by decide +kernel
theorem dX11_isFlight_2 : decode cX11_isFlight 2 = .ok (.aload_n 0, 1) := by decide +kernel
theorem dX11_isFlight_3 : decode cX11_isFlight 3 = .ok (.getfield 159, 3) := by decide +kernel
theorem dX11_isFlight_6 : decode cX11_isFlight 6 = .ok (.iconst 1, 1) := by decide +kernel
theorem dX11_isFlight_7 : decode cX11_isFlight 7 = .ok (.isub, 1) := by decide +kernel
theorem dX11_isFlight_8 : decode cX11_isFlight 8 = .ok (.invokestatic 141, 3) := by decide +kernel
theorem dX11_isFlight_11 : decode cX11_isFlight 11 = .ok (.ireturn, 1) := by decide +kernel
theorem dX11_cancel_0 : decode cX11_cancel 0 = .ok (.aload_n 0, 1) := by decide +kernel
theorem dX11_cancel_1 : decode cX11_cancel 1 = .ok (.iload_n 1, 1) := by decide +kernel
theorem dX11_cancel_2 : decode cX11_cancel 2 = .ok (.invokevirtual 172, 3) := by decide +kernel
theorem dX11_cancel_5 : decode cX11_cancel 5 = .ok (.ifCond .eq 12, 3) := by decide +kernel
theorem dX11_cancel_8 : decode cX11_cancel 8 = .ok (.aload_n 0, 1) := by decide +kernel
theorem dX11_cancel_9 : decode cX11_cancel 9 = .ok (.getfield 51, 3) := by decide +kernel
theorem dX11_cancel_12 : decode cX11_cancel 12 = .ok (.iload_n 1, 1) := by decide +kernel
theorem dX11_cancel_13 : decode cX11_cancel 13 = .ok (.baload, 1) := by decide +kernel
theorem dX11_cancel_14 : decode cX11_cancel 14 = .ok (.ifCond .eq 5, 3) := by decide +kernel
theorem dX11_cancel_17 : decode cX11_cancel 17 = .ok (.iconst 0, 1) := by decide +kernel
theorem dX11_cancel_18 : decode cX11_cancel 18 = .ok (.ireturn, 1) := by decide +kernel
theorem dX11_cancel_19 : decode cX11_cancel 19 = .ok (.aload_n 0, 1) := by decide +kernel
theorem dX11_cancel_20 : decode cX11_cancel 20 = .ok (.getfield 51, 3) := by decide +kernel
theorem dX11_cancel_23 : decode cX11_cancel 23 = .ok (.iload_n 1, 1) := by decide +kernel
theorem dX11_cancel_24 : decode cX11_cancel 24 = .ok (.iconst 1, 1) := by decide +kernel
theorem dX11_cancel_25 : decode cX11_cancel 25 = .ok (.bastore, 1) := by decide +kernel
theorem dX11_cancel_26 : decode cX11_cancel 26 = .ok (.aload_n 0, 1) := by decide +kernel
theorem dX11_cancel_27 : decode cX11_cancel 27 = .ok (.getfield 54, 3) := by decide +kernel
theorem dX11_cancel_30 : decode cX11_cancel 30 = .ok (.iload_n 1, 1) := by decide +kernel
theorem dX11_cancel_31 : decode cX11_cancel 31 = .ok (.iconst (-1), 1) := by decide +kernel
theorem dX11_cancel_32 : decode cX11_cancel 32 = .ok (.iastore, 1) := by decide +kernel
theorem dX11_cancel_33 : decode cX11_cancel 33 = .ok (.aload_n 0, 1) := by decide +kernel
theorem dX11_cancel_34 : decode cX11_cancel 34 = .ok (.invokevirtual 176, 3) := by decide +kernel
theorem dX11_cancel_37 : decode cX11_cancel 37 = .ok (.iconst 1, 1) := by decide +kernel
theorem dX11_cancel_38 : decode cX11_cancel 38 = .ok (.ireturn, 1) := by decide +kernel
theorem dX11_storm_0 : decode cX11_storm 0 = .ok (.aload_n 0, 1) := by decide +kernel
theorem dX11_storm_1 : decode cX11_storm 1 = .ok (.getfield 179, 3) := by decide +kernel
theorem dX11_storm_4 : decode cX11_storm 4 = .ok (.bipush 20, 2) := by decide +kernel
theorem dX11_storm_6 : decode cX11_storm 6 = .ok (.if_icmp .eq 37, 3) := by decide +kernel
theorem dX11_storm_9 : decode cX11_storm 9 = .ok (.iload_n 1, 1) := by decide +kernel
theorem dX11_storm_10 : decode cX11_storm 10 = .ok (.iconst 0, 1) := by decide +kernel
theorem dX11_storm_11 : decode cX11_storm 11 = .ok (.bipush 7, 2) := by decide +kernel
theorem dX11_storm_13 : decode cX11_storm 13 = .ok (.invokestatic 141, 3) := by decide +kernel
theorem dX11_storm_16 : decode cX11_storm 16 = .ok (.ifCond .eq 27, 3) := by decide +kernel
theorem dX11_storm_19 : decode cX11_storm 19 = .ok (.iload_n 2, 1) := by decide +kernel
theorem dX11_storm_20 : decode cX11_storm 20 = .ok (.iconst 0, 1) := by decide +kernel
theorem dX11_storm_21 : decode cX11_storm 21 = .ok (.sipush 10079, 3) := by decide +kernel
theorem dX11_storm_24 : decode cX11_storm 24 = .ok (.invokestatic 141, 3) := by decide +kernel
theorem dX11_storm_27 : decode cX11_storm 27 = .ok (.ifCond .eq 16, 3) := by decide +kernel
theorem dX11_storm_30 : decode cX11_storm 30 = .ok (.iload_n 3, 1) := by decide +kernel
theorem dX11_storm_31 : decode cX11_storm 31 = .ok (.iload_n 2, 1) := by decide +kernel
theorem dX11_storm_32 : decode cX11_storm 32 = .ok (.iconst 1, 1) := by decide +kernel
theorem dX11_storm_33 : decode cX11_storm 33 = .ok (.iadd, 1) := by decide +kernel
theorem dX11_storm_34 : decode cX11_storm 34 = .ok (.sipush 10080, 3) := by decide +kernel
theorem dX11_storm_37 : decode cX11_storm 37 = .ok (.invokestatic 141, 3) := by decide +kernel
theorem dX11_storm_40 : decode cX11_storm 40 = .ok (.ifCond .ne 5, 3) := by decide +kernel
theorem dX11_storm_43 : decode cX11_storm 43 = .ok (.iconst (-1), 1) := by decide +kernel
theorem dX11_storm_44 : decode cX11_storm 44 = .ok (.ireturn, 1) := by decide +kernel
theorem dX11_storm_45 : decode cX11_storm 45 = .ok (.aload_n 0, 1) := by decide +kernel
theorem dX11_storm_46 : decode cX11_storm 46 = .ok (.getfield 57, 3) := by decide +kernel
theorem dX11_storm_49 : decode cX11_storm 49 = .ok (.aload_n 0, 1) := by decide +kernel
theorem dX11_storm_50 : decode cX11_storm 50 = .ok (.getfield 179, 3) := by decide +kernel
theorem dX11_storm_53 : decode cX11_storm 53 = .ok (.iload_n 1, 1) := by decide +kernel
theorem dX11_storm_54 : decode cX11_storm 54 = .ok (.iastore, 1) := by decide +kernel
theorem dX11_storm_55 : decode cX11_storm 55 = .ok (.aload_n 0, 1) := by decide +kernel
theorem dX11_storm_56 : decode cX11_storm 56 = .ok (.getfield 60, 3) := by decide +kernel
theorem dX11_storm_59 : decode cX11_storm 59 = .ok (.aload_n 0, 1) := by decide +kernel
theorem dX11_storm_60 : decode cX11_storm 60 = .ok (.getfield 179, 3) := by decide +kernel
theorem dX11_storm_63 : decode cX11_storm 63 = .ok (.iload_n 2, 1) := by decide +kernel
theorem dX11_storm_64 : decode cX11_storm 64 = .ok (.iastore, 1) := by decide +kernel
theorem dX11_storm_65 : decode cX11_storm 65 = .ok (.aload_n 0, 1) := by decide +kernel
theorem dX11_storm_66 : decode cX11_storm 66 = .ok (.getfield 63, 3) := by decide +kernel
theorem dX11_storm_69 : decode cX11_storm 69 = .ok (.aload_n 0, 1) := by decide +kernel
theorem dX11_storm_70 : decode cX11_storm 70 = .ok (.getfield 179, 3) := by decide +kernel
theorem dX11_storm_73 : decode cX11_storm 73 = .ok (.iload_n 3, 1) := by decide +kernel
theorem dX11_storm_74 : decode cX11_storm 74 = .ok (.iastore, 1) := by decide +kernel
theorem dX11_storm_75 : decode cX11_storm 75 = .ok (.aload_n 0, 1) := by decide +kernel
theorem dX11_storm_76 : decode cX11_storm 76 = .ok (.dup, 1) := by decide +kernel
theorem dX11_storm_77 : decode cX11_storm 77 = .ok (.getfield 179, 3) := by decide +kernel
theorem dX11_storm_80 : decode cX11_storm 80 = .ok (.iconst 1, 1) := by decide +kernel
theorem dX11_storm_81 : decode cX11_storm 81 = .ok (.iadd, 1) := by decide +kernel
theorem dX11_storm_82 : decode cX11_storm 82 = .ok (.putfield 179, 3) := by decide +kernel
theorem dX11_storm_85 : decode cX11_storm 85 = .ok (.aload_n 0, 1) := by decide +kernel
theorem dX11_storm_86 : decode cX11_storm 86 = .ok (.getfield 179, 3) := by decide +kernel
theorem dX11_storm_89 : decode cX11_storm 89 = .ok (.iconst 1, 1) := by decide +kernel
theorem dX11_storm_90 : decode cX11_storm 90 = .ok (.isub, 1) := by decide +kernel
theorem dX11_storm_91 : decode cX11_storm 91 = .ok (.ireturn, 1) := by decide +kernel
theorem dX11_clock_0 : decode cX11_clock 0 = .ok (.iload_n 1, 1) := by decide +kernel
theorem dX11_clock_1 : decode cX11_clock 1 = .ok (.aload_n 0, 1) := by decide +kernel
theorem dX11_clock_2 : decode cX11_clock 2 = .ok (.getfield 182, 3) := by decide +kernel
theorem dX11_clock_5 : decode cX11_clock 5 = .ok (.sipush 10079, 3) := by decide +kernel
theorem dX11_clock_8 : decode cX11_clock 8 = .ok (.invokestatic 141, 3) := by decide +kernel
theorem dX11_clock_11 : decode cX11_clock 11 = .ok (.ifCond .ne 5, 3) := by decide +kernel
theorem dX11_clock_14 : decode cX11_clock 14 = .ok (.iconst 0, 1) := by decide +kernel
theorem dX11_clock_15 : decode cX11_clock 15 = .ok (.ireturn, 1) := by decide +kernel
theorem dX11_clock_16 : decode cX11_clock 16 = .ok (.aload_n 0, 1) := by decide +kernel
theorem dX11_clock_17 : decode cX11_clock 17 = .ok (.iload_n 1, 1) := by decide +kernel
theorem dX11_clock_18 : decode cX11_clock 18 = .ok (.putfield 182, 3) := by decide +kernel
theorem dX11_clock_21 : decode cX11_clock 21 = .ok (.iconst 0, 1) := by decide +kernel
theorem dX11_clock_22 : decode cX11_clock 22 = .ok (.istore_n 2, 1) := by decide +kernel
theorem dX11_clock_23 : decode cX11_clock 23 = .ok (.iload_n 2, 1) := by decide +kernel
theorem dX11_clock_24 : decode cX11_clock 24 = .ok (.aload_n 0, 1) := by decide +kernel
theorem dX11_clock_25 : decode cX11_clock 25 = .ok (.getfield 185, 3) := by decide +kernel
theorem dX11_clock_28 : decode cX11_clock 28 = .ok (.if_icmp .ge 38, 3) := by decide +kernel
theorem dX11_clock_31 : decode cX11_clock 31 = .ok (.aload_n 0, 1) := by decide +kernel
theorem dX11_clock_32 : decode cX11_clock 32 = .ok (.getfield 66, 3) := by decide +kernel
theorem dX11_clock_35 : decode cX11_clock 35 = .ok (.iload_n 2, 1) := by decide +kernel
theorem dX11_clock_36 : decode cX11_clock 36 = .ok (.iaload, 1) := by decide +kernel
theorem dX11_clock_37 : decode cX11_clock 37 = .ok (.ifCond .ne 23, 3) := by decide +kernel
theorem dX11_clock_40 : decode cX11_clock 40 = .ok (.aload_n 0, 1) := by decide +kernel
theorem dX11_clock_41 : decode cX11_clock 41 = .ok (.getfield 72, 3) := by decide +kernel
theorem dX11_clock_44 : decode cX11_clock 44 = .ok (.iload_n 2, 1) := by decide +kernel
theorem dX11_clock_45 : decode cX11_clock 45 = .ok (.iaload, 1) := by decide +kernel
theorem dX11_clock_46 : decode cX11_clock 46 = .ok (.aload_n 0, 1) := by decide +kernel
theorem dX11_clock_47 : decode cX11_clock 47 = .ok (.getfield 182, 3) := by decide +kernel
theorem dX11_clock_50 : decode cX11_clock 50 = .ok (.if_icmp .ge 10, 3) := by decide +kernel
theorem dX11_clock_53 : decode cX11_clock 53 = .ok (.aload_n 0, 1) := by decide +kernel
theorem dX11_clock_54 : decode cX11_clock 54 = .ok (.getfield 66, 3) := by decide +kernel
theorem dX11_clock_57 : decode cX11_clock 57 = .ok (.iload_n 2, 1) := by decide +kernel
theorem dX11_clock_58 : decode cX11_clock 58 = .ok (.iconst 2, 1) := by decide +kernel
theorem dX11_clock_59 : decode cX11_clock 59 = .ok (.iastore, 1) := by decide +kernel
theorem dX11_clock_60 : decode cX11_clock 60 = .ok (.iinc 2 1, 3) := by decide +kernel
theorem dX11_clock_63 : decode cX11_clock 63 = .ok (.goto (-40), 3) := by decide +kernel
theorem dX11_clock_66 : decode cX11_clock 66 = .ok (.iconst 1, 1) := by decide +kernel
theorem dX11_clock_67 : decode cX11_clock 67 = .ok (.ireturn, 1) := by decide +kernel
theorem dX11_orders_0 : decode cX11_orders 0 = .ok (.aload_n 0, 1) := by decide +kernel
theorem dX11_orders_1 : decode cX11_orders 1 = .ok (.iconst 0, 1) := by decide +kernel
theorem dX11_orders_2 : decode cX11_orders 2 = .ok (.putfield 188, 3) := by decide +kernel
theorem dX11_orders_5 : decode cX11_orders 5 = .ok (.iconst 0, 1) := by decide +kernel
theorem dX11_orders_6 : decode cX11_orders 6 = .ok (.istore_n 1, 1) := by decide +kernel
theorem dX11_orders_7 : decode cX11_orders 7 = .ok (.iload_n 1, 1) := by decide +kernel
theorem dX11_orders_8 : decode cX11_orders 8 = .ok (.aload_n 0, 1) := by decide +kernel
theorem dX11_orders_9 : decode cX11_orders 9 = .ok (.getfield 159, 3) := by decide +kernel
theorem dX11_orders_12 : decode cX11_orders 12 = .ok (.if_icmp .ge 89, 3) := by decide +kernel
theorem dX11_orders_15 : decode cX11_orders 15 = .ok (.aload_n 0, 1) := by decide +kernel
theorem dX11_orders_16 : decode cX11_orders 16 = .ok (.getfield 51, 3) := by decide +kernel
theorem dX11_orders_19 : decode cX11_orders 19 = .ok (.iload_n 1, 1) := by decide +kernel
theorem dX11_orders_20 : decode cX11_orders 20 = .ok (.baload, 1) := by decide +kernel
theorem dX11_orders_21 : decode cX11_orders 21 = .ok (.ifCond .eq 6, 3) := by decide +kernel
theorem dX11_orders_24 : decode cX11_orders 24 = .ok (.goto 71, 3) := by decide +kernel
theorem dX11_orders_27 : decode cX11_orders 27 = .ok (.aload_n 0, 1) := by decide +kernel
theorem dX11_orders_28 : decode cX11_orders 28 = .ok (.getfield 188, 3) := by decide +kernel
theorem dX11_orders_31 : decode cX11_orders 31 = .ok (.istore_n 2, 1) := by decide +kernel
theorem dX11_orders_32 : decode cX11_orders 32 = .ok (.iload_n 2, 1) := by decide +kernel
theorem dX11_orders_33 : decode cX11_orders 33 = .ok (.ifCond .le 45, 3) := by decide +kernel
theorem dX11_orders_36 : decode cX11_orders 36 = .ok (.aload_n 0, 1) := by decide +kernel
theorem dX11_orders_37 : decode cX11_orders 37 = .ok (.getfield 45, 3) := by decide +kernel
theorem dX11_orders_40 : decode cX11_orders 40 = .ok (.aload_n 0, 1) := by decide +kernel
theorem dX11_orders_41 : decode cX11_orders 41 = .ok (.getfield 90, 3) := by decide +kernel
theorem dX11_orders_44 : decode cX11_orders 44 = .ok (.iload_n 2, 1) := by decide +kernel
theorem dX11_orders_45 : decode cX11_orders 45 = .ok (.iconst 1, 1) := by decide +kernel
theorem dX11_orders_46 : decode cX11_orders 46 = .ok (.isub, 1) := by decide +kernel
theorem dX11_orders_47 : decode cX11_orders 47 = .ok (.iaload, 1) := by decide +kernel
theorem dX11_orders_48 : decode cX11_orders 48 = .ok (.iaload, 1) := by decide +kernel
theorem dX11_orders_49 : decode cX11_orders 49 = .ok (.aload_n 0, 1) := by decide +kernel
theorem dX11_orders_50 : decode cX11_orders 50 = .ok (.getfield 45, 3) := by decide +kernel
theorem dX11_orders_53 : decode cX11_orders 53 = .ok (.iload_n 1, 1) := by decide +kernel
theorem dX11_orders_54 : decode cX11_orders 54 = .ok (.iaload, 1) := by decide +kernel
theorem dX11_orders_55 : decode cX11_orders 55 = .ok (.if_icmp .le 23, 3) := by decide +kernel
theorem dX11_orders_58 : decode cX11_orders 58 = .ok (.aload_n 0, 1) := by decide +kernel
theorem dX11_orders_59 : decode cX11_orders 59 = .ok (.getfield 90, 3) := by decide +kernel
theorem dX11_orders_62 : decode cX11_orders 62 = .ok (.iload_n 2, 1) := by decide +kernel
theorem dX11_orders_63 : decode cX11_orders 63 = .ok (.aload_n 0, 1) := by decide +kernel
theorem dX11_orders_64 : decode cX11_orders 64 = .ok (.getfield 90, 3) := by decide +kernel
theorem dX11_orders_67 : decode cX11_orders 67 = .ok (.iload_n 2, 1) := by decide +kernel
theorem dX11_orders_68 : decode cX11_orders 68 = .ok (.iconst 1, 1) := by decide +kernel
theorem dX11_orders_69 : decode cX11_orders 69 = .ok (.isub, 1) := by decide +kernel
theorem dX11_orders_70 : decode cX11_orders 70 = .ok (.iaload, 1) := by decide +kernel
theorem dX11_orders_71 : decode cX11_orders 71 = .ok (.iastore, 1) := by decide +kernel
theorem dX11_orders_72 : decode cX11_orders 72 = .ok (.iinc 2 (-1), 3) := by decide +kernel
theorem dX11_orders_75 : decode cX11_orders 75 = .ok (.goto (-43), 3) := by decide +kernel
theorem dX11_orders_78 : decode cX11_orders 78 = .ok (.aload_n 0, 1) := by decide +kernel
theorem dX11_orders_79 : decode cX11_orders 79 = .ok (.getfield 90, 3) := by decide +kernel
theorem dX11_orders_82 : decode cX11_orders 82 = .ok (.iload_n 2, 1) := by decide +kernel
theorem dX11_orders_83 : decode cX11_orders 83 = .ok (.iload_n 1, 1) := by decide +kernel
theorem dX11_orders_84 : decode cX11_orders 84 = .ok (.iastore, 1) := by decide +kernel
theorem dX11_orders_85 : decode cX11_orders 85 = .ok (.aload_n 0, 1) := by decide +kernel
theorem dX11_orders_86 : decode cX11_orders 86 = .ok (.dup, 1) := by decide +kernel
theorem dX11_orders_87 : decode cX11_orders 87 = .ok (.getfield 188, 3) := by decide +kernel
theorem dX11_orders_90 : decode cX11_orders 90 = .ok (.iconst 1, 1) := by decide +kernel
theorem dX11_orders_91 : decode cX11_orders 91 = .ok (.iadd, 1) := by decide +kernel
theorem dX11_orders_92 : decode cX11_orders 92 = .ok (.putfield 188, 3) := by decide +kernel
theorem dX11_orders_95 : decode cX11_orders 95 = .ok (.iinc 1 1, 3) := by decide +kernel
theorem dX11_orders_98 : decode cX11_orders 98 = .ok (.goto (-91), 3) := by decide +kernel
theorem dX11_orders_101 : decode cX11_orders 101 = .ok (.return_, 1) := by decide +kernel
theorem dX11_adds_0 : decode cX11_adds 0 = .ok (.aload_n 0, 1) := by decide +kernel
theorem dX11_adds_1 : decode cX11_adds 1 = .ok (.getfield 93, 3) := by decide +kernel
theorem dX11_adds_4 : decode cX11_adds 4 = .ok (.aload_n 0, 1) := by decide +kernel
theorem dX11_adds_5 : decode cX11_adds 5 = .ok (.getfield 191, 3) := by decide +kernel
theorem dX11_adds_8 : decode cX11_adds 8 = .ok (.iload_n 1, 1) := by decide +kernel
theorem dX11_adds_9 : decode cX11_adds 9 = .ok (.iastore, 1) := by decide +kernel
theorem dX11_adds_10 : decode cX11_adds 10 = .ok (.aload_n 0, 1) := by decide +kernel
theorem dX11_adds_11 : decode cX11_adds 11 = .ok (.getfield 96, 3) := by decide +kernel
theorem dX11_adds_14 : decode cX11_adds 14 = .ok (.aload_n 0, 1) := by decide +kernel
theorem dX11_adds_15 : decode cX11_adds 15 = .ok (.getfield 191, 3) := by decide +kernel
theorem dX11_adds_18 : decode cX11_adds 18 = .ok (.iload_n 2, 1) := by decide +kernel
theorem dX11_adds_19 : decode cX11_adds 19 = .ok (.iastore, 1) := by decide +kernel
theorem dX11_adds_20 : decode cX11_adds 20 = .ok (.aload_n 0, 1) := by decide +kernel
theorem dX11_adds_21 : decode cX11_adds 21 = .ok (.getfield 99, 3) := by decide +kernel
theorem dX11_adds_24 : decode cX11_adds 24 = .ok (.aload_n 0, 1) := by decide +kernel
theorem dX11_adds_25 : decode cX11_adds 25 = .ok (.getfield 191, 3) := by decide +kernel
theorem dX11_adds_28 : decode cX11_adds 28 = .ok (.iload_n 3, 1) := by decide +kernel
theorem dX11_adds_29 : decode cX11_adds 29 = .ok (.iastore, 1) := by decide +kernel
theorem dX11_adds_30 : decode cX11_adds 30 = .ok (.aload_n 0, 1) := by decide +kernel
theorem dX11_adds_31 : decode cX11_adds 31 = .ok (.getfield 102, 3) := by decide +kernel
theorem dX11_adds_34 : decode cX11_adds 34 = .ok (.aload_n 0, 1) := by decide +kernel
theorem dX11_adds_35 : decode cX11_adds 35 = .ok (.getfield 191, 3) := by decide +kernel
theorem dX11_adds_38 : decode cX11_adds 38 = .ok (.iload 4, 2) := by decide +kernel
theorem dX11_adds_40 : decode cX11_adds 40 = .ok (.iastore, 1) := by decide +kernel
theorem dX11_adds_41 : decode cX11_adds 41 = .ok (.aload_n 0, 1) := by decide +kernel
theorem dX11_adds_42 : decode cX11_adds 42 = .ok (.getfield 105, 3) := by decide +kernel
theorem dX11_adds_45 : decode cX11_adds 45 = .ok (.aload_n 0, 1) := by decide +kernel
theorem dX11_adds_46 : decode cX11_adds 46 = .ok (.getfield 191, 3) := by decide +kernel
theorem dX11_adds_49 : decode cX11_adds 49 = .ok (.iload 5, 2) := by decide +kernel
theorem dX11_adds_51 : decode cX11_adds 51 = .ok (.iastore, 1) := by decide +kernel
theorem dX11_adds_52 : decode cX11_adds 52 = .ok (.aload_n 0, 1) := by decide +kernel
theorem dX11_adds_53 : decode cX11_adds 53 = .ok (.getfield 108, 3) := by decide +kernel
theorem dX11_adds_56 : decode cX11_adds 56 = .ok (.aload_n 0, 1) := by decide +kernel
theorem dX11_adds_57 : decode cX11_adds 57 = .ok (.getfield 191, 3) := by decide +kernel
theorem dX11_adds_60 : decode cX11_adds 60 = .ok (.iload 6, 2) := by decide +kernel
theorem dX11_adds_62 : decode cX11_adds 62 = .ok (.iastore, 1) := by decide +kernel
theorem dX11_adds_63 : decode cX11_adds 63 = .ok (.aload_n 0, 1) := by decide +kernel
theorem dX11_adds_64 : decode cX11_adds 64 = .ok (.dup, 1) := by decide +kernel
theorem dX11_adds_65 : decode cX11_adds 65 = .ok (.getfield 191, 3) := by decide +kernel
theorem dX11_adds_68 : decode cX11_adds 68 = .ok (.iconst 1, 1) := by decide +kernel
theorem dX11_adds_69 : decode cX11_adds 69 = .ok (.iadd, 1) := by decide +kernel
theorem dX11_adds_70 : decode cX11_adds 70 = .ok (.putfield 191, 3) := by decide +kernel
theorem dX11_adds_73 : decode cX11_adds 73 = .ok (.return_, 1) := by decide +kernel
theorem dX11_chains_0 : decode cX11_chains 0 = .ok (.aload_n 0, 1) := by decide +kernel
theorem dX11_chains_1 : decode cX11_chains 1 = .ok (.iconst 0, 1) := by decide +kernel
theorem dX11_chains_2 : decode cX11_chains 2 = .ok (.putfield 191, 3) := by decide +kernel
theorem dX11_chains_5 : decode cX11_chains 5 = .ok (.aload_n 0, 1) := by decide +kernel
theorem dX11_chains_6 : decode cX11_chains 6 = .ok (.getfield 27, 3) := by decide +kernel
theorem dX11_chains_9 : decode cX11_chains 9 = .ok (.iload_n 1, 1) := by decide +kernel
theorem dX11_chains_10 : decode cX11_chains 10 = .ok (.iaload, 1) := by decide +kernel
theorem dX11_chains_11 : decode cX11_chains 11 = .ok (.istore_n 3, 1) := by decide +kernel
theorem dX11_chains_12 : decode cX11_chains 12 = .ok (.iconst 0, 1) := by decide +kernel
theorem dX11_chains_13 : decode cX11_chains 13 = .ok (.istore 4, 2) := by decide +kernel
theorem dX11_chains_15 : decode cX11_chains 15 = .ok (.iload 4, 2) := by decide +kernel
theorem dX11_chains_17 : decode cX11_chains 17 = .ok (.aload_n 0, 1) := by decide +kernel
theorem dX11_chains_18 : decode cX11_chains 18 = .ok (.getfield 188, 3) := by decide +kernel
theorem dX11_chains_21 : decode cX11_chains 21 = .ok (.if_icmp .ge 152, 3) := by decide +kernel
theorem dX11_chains_24 : decode cX11_chains 24 = .ok (.iload_n 2, 1) := by decide +kernel
theorem dX11_chains_25 : decode cX11_chains 25 = .ok (.iload 4, 2) := by decide +kernel
theorem dX11_chains_27 : decode cX11_chains 27 = .ok (.ishr, 1) := by decide +kernel
theorem dX11_chains_28 : decode cX11_chains 28 = .ok (.iconst 1, 1) := by decide +kernel
theorem dX11_chains_29 : decode cX11_chains 29 = .ok (.iand, 1) := by decide +kernel
theorem dX11_chains_30 : decode cX11_chains 30 = .ok (.ifCond .ne 6, 3) := by decide +kernel
theorem dX11_chains_33 : decode cX11_chains 33 = .ok (.goto 134, 3) := by decide +kernel
theorem dX11_chains_36 : decode cX11_chains 36 = .ok (.aload_n 0, 1) := by decide +kernel
theorem dX11_chains_37 : decode cX11_chains 37 = .ok (.getfield 90, 3) := by decide +kernel
theorem dX11_chains_40 : decode cX11_chains 40 = .ok (.iload 4, 2) := by decide +kernel
theorem dX11_chains_42 : decode cX11_chains 42 = .ok (.iaload, 1) := by decide +kernel
theorem dX11_chains_43 : decode cX11_chains 43 = .ok (.istore 5, 2) := by decide +kernel
theorem dX11_chains_45 : decode cX11_chains 45 = .ok (.aload_n 0, 1) := by decide +kernel
theorem dX11_chains_46 : decode cX11_chains 46 = .ok (.getfield 45, 3) := by decide +kernel
theorem dX11_chains_49 : decode cX11_chains 49 = .ok (.iload 5, 2) := by decide +kernel
theorem dX11_chains_51 : decode cX11_chains 51 = .ok (.iaload, 1) := by decide +kernel
theorem dX11_chains_52 : decode cX11_chains 52 = .ok (.aload_n 0, 1) := by decide +kernel
theorem dX11_chains_53 : decode cX11_chains 53 = .ok (.getfield 33, 3) := by decide +kernel
theorem dX11_chains_56 : decode cX11_chains 56 = .ok (.iload_n 1, 1) := by decide +kernel
theorem dX11_chains_57 : decode cX11_chains 57 = .ok (.iaload, 1) := by decide +kernel
theorem dX11_chains_58 : decode cX11_chains 58 = .ok (.isub, 1) := by decide +kernel
theorem dX11_chains_59 : decode cX11_chains 59 = .ok (.istore 6, 2) := by decide +kernel
theorem dX11_chains_61 : decode cX11_chains 61 = .ok (.iload_n 3, 1) := by decide +kernel
theorem dX11_chains_62 : decode cX11_chains 62 = .ok (.aload_n 0, 1) := by decide +kernel
theorem dX11_chains_63 : decode cX11_chains 63 = .ok (.getfield 39, 3) := by decide +kernel
theorem dX11_chains_66 : decode cX11_chains 66 = .ok (.iload 5, 2) := by decide +kernel
theorem dX11_chains_68 : decode cX11_chains 68 = .ok (.iaload, 1) := by decide +kernel
theorem dX11_chains_69 : decode cX11_chains 69 = .ok (.if_icmp .eq 35, 3) := by decide +kernel
theorem dX11_chains_72 : decode cX11_chains 72 = .ok (.aload_n 0, 1) := by decide +kernel
theorem dX11_chains_73 : decode cX11_chains 73 = .ok (.iconst (-1), 1) := by decide +kernel
theorem dX11_chains_74 : decode cX11_chains 74 = .ok (.iload_n 3, 1) := by decide +kernel
theorem dX11_chains_75 : decode cX11_chains 75 = .ok (.aload_n 0, 1) := by decide +kernel
theorem dX11_chains_76 : decode cX11_chains 76 = .ok (.getfield 39, 3) := by decide +kernel
theorem dX11_chains_79 : decode cX11_chains 79 = .ok (.iload 5, 2) := by decide +kernel
theorem dX11_chains_81 : decode cX11_chains 81 = .ok (.iaload, 1) := by decide +kernel
theorem dX11_chains_82 : decode cX11_chains 82 = .ok (.iload 6, 2) := by decide +kernel
theorem dX11_chains_84 : decode cX11_chains 84 = .ok (.aload_n 0, 1) := by decide +kernel
theorem dX11_chains_85 : decode cX11_chains 85 = .ok (.iload_n 3, 1) := by decide +kernel
theorem dX11_chains_86 : decode cX11_chains 86 = .ok (.aload_n 0, 1) := by decide +kernel
theorem dX11_chains_87 : decode cX11_chains 87 = .ok (.getfield 39, 3) := by decide +kernel
theorem dX11_chains_90 : decode cX11_chains 90 = .ok (.iload 5, 2) := by decide +kernel
theorem dX11_chains_92 : decode cX11_chains 92 = .ok (.iaload, 1) := by decide +kernel
theorem dX11_chains_93 : decode cX11_chains 93 = .ok (.invokevirtual 165, 3) := by decide +kernel
theorem dX11_chains_96 : decode cX11_chains 96 = .ok (.isub, 1) := by decide +kernel
theorem dX11_chains_97 : decode cX11_chains 97 = .ok (.iload 6, 2) := by decide +kernel
theorem dX11_chains_99 : decode cX11_chains 99 = .ok (.iload 5, 2) := by decide +kernel
theorem dX11_chains_101 : decode cX11_chains 101 = .ok (.invokevirtual 194, 3) := by decide +kernel
theorem dX11_chains_104 : decode cX11_chains 104 = .ok (.aload_n 0, 1) := by decide +kernel
theorem dX11_chains_105 : decode cX11_chains 105 = .ok (.iload 5, 2) := by decide +kernel
theorem dX11_chains_107 : decode cX11_chains 107 = .ok (.aload_n 0, 1) := by decide +kernel
theorem dX11_chains_108 : decode cX11_chains 108 = .ok (.getfield 39, 3) := by decide +kernel
theorem dX11_chains_111 : decode cX11_chains 111 = .ok (.iload 5, 2) := by decide +kernel
theorem dX11_chains_113 : decode cX11_chains 113 = .ok (.iaload, 1) := by decide +kernel
theorem dX11_chains_114 : decode cX11_chains 114 = .ok (.aload_n 0, 1) := by decide +kernel
theorem dX11_chains_115 : decode cX11_chains 115 = .ok (.getfield 42, 3) := by decide +kernel
theorem dX11_chains_118 : decode cX11_chains 118 = .ok (.iload 5, 2) := by decide +kernel
theorem dX11_chains_120 : decode cX11_chains 120 = .ok (.iaload, 1) := by decide +kernel
theorem dX11_chains_121 : decode cX11_chains 121 = .ok (.aload_n 0, 1) := by decide +kernel
theorem dX11_chains_122 : decode cX11_chains 122 = .ok (.getfield 45, 3) := by decide +kernel
theorem dX11_chains_125 : decode cX11_chains 125 = .ok (.iload 5, 2) := by decide +kernel
theorem dX11_chains_127 : decode cX11_chains 127 = .ok (.iaload, 1) := by decide +kernel
theorem dX11_chains_128 : decode cX11_chains 128 = .ok (.aload_n 0, 1) := by decide +kernel
theorem dX11_chains_129 : decode cX11_chains 129 = .ok (.getfield 45, 3) := by decide +kernel
theorem dX11_chains_132 : decode cX11_chains 132 = .ok (.iload 5, 2) := by decide +kernel
theorem dX11_chains_134 : decode cX11_chains 134 = .ok (.iaload, 1) := by decide +kernel
theorem dX11_chains_135 : decode cX11_chains 135 = .ok (.aload_n 0, 1) := by decide +kernel
theorem dX11_chains_136 : decode cX11_chains 136 = .ok (.aload_n 0, 1) := by decide +kernel
theorem dX11_chains_137 : decode cX11_chains 137 = .ok (.getfield 39, 3) := by decide +kernel
theorem dX11_chains_140 : decode cX11_chains 140 = .ok (.iload 5, 2) := by decide +kernel
theorem dX11_chains_142 : decode cX11_chains 142 = .ok (.iaload, 1) := by decide +kernel
theorem dX11_chains_143 : decode cX11_chains 143 = .ok (.aload_n 0, 1) := by decide +kernel
theorem dX11_chains_144 : decode cX11_chains 144 = .ok (.getfield 42, 3) := by decide +kernel
theorem dX11_chains_147 : decode cX11_chains 147 = .ok (.iload 5, 2) := by decide +kernel
theorem dX11_chains_149 : decode cX11_chains 149 = .ok (.iaload, 1) := by decide +kernel
theorem dX11_chains_150 : decode cX11_chains 150 = .ok (.invokevirtual 165, 3) := by decide +kernel
theorem dX11_chains_153 : decode cX11_chains 153 = .ok (.iadd, 1) := by decide +kernel
theorem dX11_chains_154 : decode cX11_chains 154 = .ok (.iload 5, 2) := by decide +kernel
theorem dX11_chains_156 : decode cX11_chains 156 = .ok (.invokevirtual 194, 3) := by decide +kernel
theorem dX11_chains_159 : decode cX11_chains 159 = .ok (.aload_n 0, 1) := by decide +kernel
theorem dX11_chains_160 : decode cX11_chains 160 = .ok (.getfield 42, 3) := by decide +kernel
theorem dX11_chains_163 : decode cX11_chains 163 = .ok (.iload 5, 2) := by decide +kernel
theorem dX11_chains_165 : decode cX11_chains 165 = .ok (.iaload, 1) := by decide +kernel
theorem dX11_chains_166 : decode cX11_chains 166 = .ok (.istore_n 3, 1) := by decide +kernel
theorem dX11_chains_167 : decode cX11_chains 167 = .ok (.iinc 4 1, 3) := by decide +kernel
theorem dX11_chains_170 : decode cX11_chains 170 = .ok (.goto (-155), 3) := by decide +kernel
theorem dX11_chains_173 : decode cX11_chains 173 = .ok (.return_, 1) := by decide +kernel
theorem dX11_isStorm_0 : decode cX11_isStorm 0 = .ok (.iconst 0, 1) := by decide +kernel
theorem dX11_isStorm_1 : decode cX11_isStorm 1 = .ok (.istore_n 3, 1) := by decide +kernel
theorem dX11_isStorm_2 : decode cX11_isStorm 2 = .ok (.iload_n 3, 1) := by decide +kernel
theorem dX11_isStorm_3 : decode cX11_isStorm 3 = .ok (.aload_n 0, 1) := by decide +kernel
theorem dX11_isStorm_4 : decode cX11_isStorm 4 = .ok (.getfield 179, 3) := by decide +kernel
theorem dX11_isStorm_7 : decode cX11_isStorm 7 = .ok (.if_icmp .ge 42, 3) := by decide +kernel
theorem dX11_isStorm_10 : decode cX11_isStorm 10 = .ok (.aload_n 0, 1) := by decide +kernel
theorem dX11_isStorm_11 : decode cX11_isStorm 11 = .ok (.getfield 57, 3) := by decide +kernel
theorem dX11_isStorm_14 : decode cX11_isStorm 14 = .ok (.iload_n 3, 1) := by decide +kernel
theorem dX11_isStorm_15 : decode cX11_isStorm 15 = .ok (.iaload, 1) := by decide +kernel
theorem dX11_isStorm_16 : decode cX11_isStorm 16 = .ok (.iload_n 1, 1) := by decide +kernel
theorem dX11_isStorm_17 : decode cX11_isStorm 17 = .ok (.if_icmp .ne 26, 3) := by decide +kernel
theorem dX11_isStorm_20 : decode cX11_isStorm 20 = .ok (.iload_n 2, 1) := by decide +kernel
theorem dX11_isStorm_21 : decode cX11_isStorm 21 = .ok (.aload_n 0, 1) := by decide +kernel
theorem dX11_isStorm_22 : decode cX11_isStorm 22 = .ok (.getfield 60, 3) := by decide +kernel
theorem dX11_isStorm_25 : decode cX11_isStorm 25 = .ok (.iload_n 3, 1) := by decide +kernel
theorem dX11_isStorm_26 : decode cX11_isStorm 26 = .ok (.iaload, 1) := by decide +kernel
theorem dX11_isStorm_27 : decode cX11_isStorm 27 = .ok (.aload_n 0, 1) := by decide +kernel
theorem dX11_isStorm_28 : decode cX11_isStorm 28 = .ok (.getfield 63, 3) := by decide +kernel
theorem dX11_isStorm_31 : decode cX11_isStorm 31 = .ok (.iload_n 3, 1) := by decide +kernel
theorem dX11_isStorm_32 : decode cX11_isStorm 32 = .ok (.iaload, 1) := by decide +kernel
theorem dX11_isStorm_33 : decode cX11_isStorm 33 = .ok (.iconst 1, 1) := by decide +kernel
theorem dX11_isStorm_34 : decode cX11_isStorm 34 = .ok (.isub, 1) := by decide +kernel
theorem dX11_isStorm_35 : decode cX11_isStorm 35 = .ok (.invokestatic 141, 3) := by decide +kernel
theorem dX11_isStorm_38 : decode cX11_isStorm 38 = .ok (.ifCond .eq 5, 3) := by decide +kernel
theorem dX11_isStorm_41 : decode cX11_isStorm 41 = .ok (.iconst 1, 1) := by decide +kernel
theorem dX11_isStorm_42 : decode cX11_isStorm 42 = .ok (.ireturn, 1) := by decide +kernel
theorem dX11_isStorm_43 : decode cX11_isStorm 43 = .ok (.iinc 3 1, 3) := by decide +kernel
theorem dX11_isStorm_46 : decode cX11_isStorm 46 = .ok (.goto (-44), 3) := by decide +kernel
theorem dX11_isStorm_49 : decode cX11_isStorm 49 = .ok (.iconst 0, 1) := by decide +kernel
theorem dX11_isStorm_50 : decode cX11_isStorm 50 = .ok (.ireturn, 1) := by decide +kernel
theorem dX11_holds_0 : decode cX11_holds 0 = .ok (.iconst 0, 1) := by decide +kernel
theorem dX11_holds_1 : decode cX11_holds 1 = .ok (.istore_n 2, 1) := by decide +kernel
theorem dX11_holds_2 : decode cX11_holds 2 = .ok (.iconst 0, 1) := by decide +kernel
theorem dX11_holds_3 : decode cX11_holds 3 = .ok (.istore_n 3, 1) := by decide +kernel
theorem dX11_holds_4 : decode cX11_holds 4 = .ok (.iload_n 3, 1) := by decide +kernel
theorem dX11_holds_5 : decode cX11_holds 5 = .ok (.aload_n 0, 1) := by decide +kernel
theorem dX11_holds_6 : decode cX11_holds 6 = .ok (.getfield 191, 3) := by decide +kernel
theorem dX11_holds_9 : decode cX11_holds 9 = .ok (.if_icmp .ge 223, 3) := by decide +kernel
theorem dX11_holds_12 : decode cX11_holds 12 = .ok (.aload_n 0, 1) := by decide +kernel
theorem dX11_holds_13 : decode cX11_holds 13 = .ok (.aload_n 0, 1) := by decide +kernel
theorem dX11_holds_14 : decode cX11_holds 14 = .ok (.getfield 96, 3) := by decide +kernel
theorem dX11_holds_17 : decode cX11_holds 17 = .ok (.iload_n 3, 1) := by decide +kernel
theorem dX11_holds_18 : decode cX11_holds 18 = .ok (.iaload, 1) := by decide +kernel
theorem dX11_holds_19 : decode cX11_holds 19 = .ok (.aload_n 0, 1) := by decide +kernel
theorem dX11_holds_20 : decode cX11_holds 20 = .ok (.getfield 99, 3) := by decide +kernel
theorem dX11_holds_23 : decode cX11_holds 23 = .ok (.iload_n 3, 1) := by decide +kernel
theorem dX11_holds_24 : decode cX11_holds 24 = .ok (.iaload, 1) := by decide +kernel
theorem dX11_holds_25 : decode cX11_holds 25 = .ok (.invokevirtual 165, 3) := by decide +kernel
theorem dX11_holds_28 : decode cX11_holds 28 = .ok (.ifCond .eq 24, 3) := by decide +kernel
theorem dX11_holds_31 : decode cX11_holds 31 = .ok (.aload_n 0, 1) := by decide +kernel
theorem dX11_holds_32 : decode cX11_holds 32 = .ok (.getfield 102, 3) := by decide +kernel
theorem dX11_holds_35 : decode cX11_holds 35 = .ok (.iload_n 3, 1) := by decide +kernel
theorem dX11_holds_36 : decode cX11_holds 36 = .ok (.iaload, 1) := by decide +kernel
theorem dX11_holds_37 : decode cX11_holds 37 = .ok (.ifCond .lt 15, 3) := by decide +kernel
theorem dX11_holds_40 : decode cX11_holds 40 = .ok (.aload_n 0, 1) := by decide +kernel
theorem dX11_holds_41 : decode cX11_holds 41 = .ok (.getfield 105, 3) := by decide +kernel
theorem dX11_holds_44 : decode cX11_holds 44 = .ok (.iload_n 3, 1) := by decide +kernel
theorem dX11_holds_45 : decode cX11_holds 45 = .ok (.iaload, 1) := by decide +kernel
theorem dX11_holds_46 : decode cX11_holds 46 = .ok (.sipush 10080, 3) := by decide +kernel
theorem dX11_holds_49 : decode cX11_holds 49 = .ok (.if_icmp .lt 5, 3) := by decide +kernel
theorem dX11_holds_52 : decode cX11_holds 52 = .ok (.iconst 0, 1) := by decide +kernel
theorem dX11_holds_53 : decode cX11_holds 53 = .ok (.ireturn, 1) := by decide +kernel
theorem dX11_holds_54 : decode cX11_holds 54 = .ok (.aload_n 0, 1) := by decide +kernel
theorem dX11_holds_55 : decode cX11_holds 55 = .ok (.getfield 93, 3) := by decide +kernel
theorem dX11_holds_58 : decode cX11_holds 58 = .ok (.iload_n 3, 1) := by decide +kernel
theorem dX11_holds_59 : decode cX11_holds 59 = .ok (.iaload, 1) := by decide +kernel
theorem dX11_holds_60 : decode cX11_holds 60 = .ok (.iconst (-1), 1) := by decide +kernel
theorem dX11_holds_61 : decode cX11_holds 61 = .ok (.if_icmp .eq 25, 3) := by decide +kernel
theorem dX11_holds_64 : decode cX11_holds 64 = .ok (.aload_n 0, 1) := by decide +kernel
theorem dX11_holds_65 : decode cX11_holds 65 = .ok (.getfield 48, 3) := by decide +kernel
theorem dX11_holds_68 : decode cX11_holds 68 = .ok (.aload_n 0, 1) := by decide +kernel
theorem dX11_holds_69 : decode cX11_holds 69 = .ok (.getfield 93, 3) := by decide +kernel
theorem dX11_holds_72 : decode cX11_holds 72 = .ok (.iload_n 3, 1) := by decide +kernel
theorem dX11_holds_73 : decode cX11_holds 73 = .ok (.iaload, 1) := by decide +kernel
theorem dX11_holds_74 : decode cX11_holds 74 = .ok (.iaload, 1) := by decide +kernel
theorem dX11_holds_75 : decode cX11_holds 75 = .ok (.aload_n 0, 1) := by decide +kernel
theorem dX11_holds_76 : decode cX11_holds 76 = .ok (.getfield 30, 3) := by decide +kernel
theorem dX11_holds_79 : decode cX11_holds 79 = .ok (.iload_n 1, 1) := by decide +kernel
theorem dX11_holds_80 : decode cX11_holds 80 = .ok (.iaload, 1) := by decide +kernel
theorem dX11_holds_81 : decode cX11_holds 81 = .ok (.if_icmp .le 5, 3) := by decide +kernel
theorem dX11_holds_84 : decode cX11_holds 84 = .ok (.iconst 0, 1) := by decide +kernel
theorem dX11_holds_85 : decode cX11_holds 85 = .ok (.ireturn, 1) := by decide +kernel
theorem dX11_holds_86 : decode cX11_holds 86 = .ok (.iload_n 3, 1) := by decide +kernel
theorem dX11_holds_87 : decode cX11_holds 87 = .ok (.ifCond .le 29, 3) := by decide +kernel
theorem dX11_holds_90 : decode cX11_holds 90 = .ok (.aload_n 0, 1) := by decide +kernel
theorem dX11_holds_91 : decode cX11_holds 91 = .ok (.getfield 102, 3) := by decide +kernel
theorem dX11_holds_94 : decode cX11_holds 94 = .ok (.iload_n 3, 1) := by decide +kernel
theorem dX11_holds_95 : decode cX11_holds 95 = .ok (.iaload, 1) := by decide +kernel
theorem dX11_holds_96 : decode cX11_holds 96 = .ok (.aload_n 0, 1) := by decide +kernel
theorem dX11_holds_97 : decode cX11_holds 97 = .ok (.getfield 105, 3) := by decide +kernel
theorem dX11_holds_100 : decode cX11_holds 100 = .ok (.iload_n 3, 1) := by decide +kernel
theorem dX11_holds_101 : decode cX11_holds 101 = .ok (.iconst 1, 1) := by decide +kernel
theorem dX11_holds_102 : decode cX11_holds 102 = .ok (.isub, 1) := by decide +kernel
theorem dX11_holds_103 : decode cX11_holds 103 = .ok (.iaload, 1) := by decide +kernel
theorem dX11_holds_104 : decode cX11_holds 104 = .ok (.aload_n 0, 1) := by decide +kernel
theorem dX11_holds_105 : decode cX11_holds 105 = .ok (.getfield 33, 3) := by decide +kernel
theorem dX11_holds_108 : decode cX11_holds 108 = .ok (.iload_n 1, 1) := by decide +kernel
theorem dX11_holds_109 : decode cX11_holds 109 = .ok (.iaload, 1) := by decide +kernel
theorem dX11_holds_110 : decode cX11_holds 110 = .ok (.iadd, 1) := by decide +kernel
theorem dX11_holds_111 : decode cX11_holds 111 = .ok (.if_icmp .ge 5, 3) := by decide +kernel
theorem dX11_holds_114 : decode cX11_holds 114 = .ok (.iconst 0, 1) := by decide +kernel
theorem dX11_holds_115 : decode cX11_holds 115 = .ok (.ireturn, 1) := by decide +kernel
theorem dX11_holds_116 : decode cX11_holds 116 = .ok (.aload_n 0, 1) := by decide +kernel
theorem dX11_holds_117 : decode cX11_holds 117 = .ok (.aload_n 0, 1) := by decide +kernel
theorem dX11_holds_118 : decode cX11_holds 118 = .ok (.getfield 96, 3) := by decide +kernel
theorem dX11_holds_121 : decode cX11_holds 121 = .ok (.iload_n 3, 1) := by decide +kernel
theorem dX11_holds_122 : decode cX11_holds 122 = .ok (.iaload, 1) := by decide +kernel
theorem dX11_holds_123 : decode cX11_holds 123 = .ok (.aload_n 0, 1) := by decide +kernel
theorem dX11_holds_124 : decode cX11_holds 124 = .ok (.getfield 102, 3) := by decide +kernel
theorem dX11_holds_127 : decode cX11_holds 127 = .ok (.iload_n 3, 1) := by decide +kernel
theorem dX11_holds_128 : decode cX11_holds 128 = .ok (.iaload, 1) := by decide +kernel
theorem dX11_holds_129 : decode cX11_holds 129 = .ok (.invokevirtual 198, 3) := by decide +kernel
theorem dX11_holds_132 : decode cX11_holds 132 = .ok (.ifCond .ne 22, 3) := by decide +kernel
theorem dX11_holds_135 : decode cX11_holds 135 = .ok (.aload_n 0, 1) := by decide +kernel
theorem dX11_holds_136 : decode cX11_holds 136 = .ok (.aload_n 0, 1) := by decide +kernel
theorem dX11_holds_137 : decode cX11_holds 137 = .ok (.getfield 99, 3) := by decide +kernel
theorem dX11_holds_140 : decode cX11_holds 140 = .ok (.iload_n 3, 1) := by decide +kernel
theorem dX11_holds_141 : decode cX11_holds 141 = .ok (.iaload, 1) := by decide +kernel
theorem dX11_holds_142 : decode cX11_holds 142 = .ok (.aload_n 0, 1) := by decide +kernel
theorem dX11_holds_143 : decode cX11_holds 143 = .ok (.getfield 105, 3) := by decide +kernel
theorem dX11_holds_146 : decode cX11_holds 146 = .ok (.iload_n 3, 1) := by decide +kernel
theorem dX11_holds_147 : decode cX11_holds 147 = .ok (.iaload, 1) := by decide +kernel
theorem dX11_holds_148 : decode cX11_holds 148 = .ok (.invokevirtual 198, 3) := by decide +kernel
theorem dX11_holds_151 : decode cX11_holds 151 = .ok (.ifCond .eq 5, 3) := by decide +kernel
theorem dX11_holds_154 : decode cX11_holds 154 = .ok (.iconst 0, 1) := by decide +kernel
theorem dX11_holds_155 : decode cX11_holds 155 = .ok (.ireturn, 1) := by decide +kernel
theorem dX11_holds_156 : decode cX11_holds 156 = .ok (.iload_n 3, 1) := by decide +kernel
theorem dX11_holds_157 : decode cX11_holds 157 = .ok (.ifCond .le 37, 3) := by decide +kernel
theorem dX11_holds_160 : decode cX11_holds 160 = .ok (.aload_n 0, 1) := by decide +kernel
theorem dX11_holds_161 : decode cX11_holds 161 = .ok (.getfield 102, 3) := by decide +kernel
theorem dX11_holds_164 : decode cX11_holds 164 = .ok (.iload_n 3, 1) := by decide +kernel
theorem dX11_holds_165 : decode cX11_holds 165 = .ok (.iaload, 1) := by decide +kernel
theorem dX11_holds_166 : decode cX11_holds 166 = .ok (.aload_n 0, 1) := by decide +kernel
theorem dX11_holds_167 : decode cX11_holds 167 = .ok (.getfield 105, 3) := by decide +kernel
theorem dX11_holds_170 : decode cX11_holds 170 = .ok (.iload_n 3, 1) := by decide +kernel
theorem dX11_holds_171 : decode cX11_holds 171 = .ok (.iconst 1, 1) := by decide +kernel
theorem dX11_holds_172 : decode cX11_holds 172 = .ok (.isub, 1) := by decide +kernel
theorem dX11_holds_173 : decode cX11_holds 173 = .ok (.iaload, 1) := by decide +kernel
theorem dX11_holds_174 : decode cX11_holds 174 = .ok (.isub, 1) := by decide +kernel
theorem dX11_holds_175 : decode cX11_holds 175 = .ok (.aload_n 0, 1) := by decide +kernel
theorem dX11_holds_176 : decode cX11_holds 176 = .ok (.aload_n 0, 1) := by decide +kernel
theorem dX11_holds_177 : decode cX11_holds 177 = .ok (.getfield 102, 3) := by decide +kernel
theorem dX11_holds_180 : decode cX11_holds 180 = .ok (.iload_n 2, 1) := by decide +kernel
theorem dX11_holds_181 : decode cX11_holds 181 = .ok (.iaload, 1) := by decide +kernel
theorem dX11_holds_182 : decode cX11_holds 182 = .ok (.sipush 1440, 3) := by decide +kernel
theorem dX11_holds_185 : decode cX11_holds 185 = .ok (.idiv, 1) := by decide +kernel
theorem dX11_holds_186 : decode cX11_holds 186 = .ok (.invokevirtual 152, 3) := by decide +kernel
theorem dX11_holds_189 : decode cX11_holds 189 = .ok (.if_icmp .lt 5, 3) := by decide +kernel
theorem dX11_holds_192 : decode cX11_holds 192 = .ok (.iload_n 3, 1) := by decide +kernel
theorem dX11_holds_193 : decode cX11_holds 193 = .ok (.istore_n 2, 1) := by decide +kernel
theorem dX11_holds_194 : decode cX11_holds 194 = .ok (.aload_n 0, 1) := by decide +kernel
theorem dX11_holds_195 : decode cX11_holds 195 = .ok (.getfield 105, 3) := by decide +kernel
theorem dX11_holds_198 : decode cX11_holds 198 = .ok (.iload_n 3, 1) := by decide +kernel
theorem dX11_holds_199 : decode cX11_holds 199 = .ok (.iaload, 1) := by decide +kernel
theorem dX11_holds_200 : decode cX11_holds 200 = .ok (.aload_n 0, 1) := by decide +kernel
theorem dX11_holds_201 : decode cX11_holds 201 = .ok (.getfield 102, 3) := by decide +kernel
theorem dX11_holds_204 : decode cX11_holds 204 = .ok (.iload_n 2, 1) := by decide +kernel
theorem dX11_holds_205 : decode cX11_holds 205 = .ok (.iaload, 1) := by decide +kernel
theorem dX11_holds_206 : decode cX11_holds 206 = .ok (.isub, 1) := by decide +kernel
theorem dX11_holds_207 : decode cX11_holds 207 = .ok (.aload_n 0, 1) := by decide +kernel
theorem dX11_holds_208 : decode cX11_holds 208 = .ok (.aload_n 0, 1) := by decide +kernel
theorem dX11_holds_209 : decode cX11_holds 209 = .ok (.getfield 102, 3) := by decide +kernel
theorem dX11_holds_212 : decode cX11_holds 212 = .ok (.iload_n 2, 1) := by decide +kernel
theorem dX11_holds_213 : decode cX11_holds 213 = .ok (.iaload, 1) := by decide +kernel
theorem dX11_holds_214 : decode cX11_holds 214 = .ok (.sipush 1440, 3) := by decide +kernel
theorem dX11_holds_217 : decode cX11_holds 217 = .ok (.idiv, 1) := by decide +kernel
theorem dX11_holds_218 : decode cX11_holds 218 = .ok (.invokevirtual 149, 3) := by decide +kernel
theorem dX11_holds_221 : decode cX11_holds 221 = .ok (.if_icmp .le 5, 3) := by decide +kernel
theorem dX11_holds_224 : decode cX11_holds 224 = .ok (.iconst 0, 1) := by decide +kernel
theorem dX11_holds_225 : decode cX11_holds 225 = .ok (.ireturn, 1) := by decide +kernel
theorem dX11_holds_226 : decode cX11_holds 226 = .ok (.iinc 3 1, 3) := by decide +kernel
theorem dX11_holds_229 : decode cX11_holds 229 = .ok (.goto (-225), 3) := by decide +kernel
theorem dX11_holds_232 : decode cX11_holds 232 = .ok (.iconst 1, 1) := by decide +kernel
theorem dX11_holds_233 : decode cX11_holds 233 = .ok (.ireturn, 1) := by decide +kernel
theorem dX11_emptyMinutes_0 : decode cX11_emptyMinutes 0 = .ok (.iconst 0, 1) := by decide +kernel
theorem dX11_emptyMinutes_1 : decode cX11_emptyMinutes 1 = .ok (.istore_n 1, 1) := by decide +kernel
theorem dX11_emptyMinutes_2 : decode cX11_emptyMinutes 2 = .ok (.iconst 0, 1) := by decide +kernel
theorem dX11_emptyMinutes_3 : decode cX11_emptyMinutes 3 = .ok (.istore_n 2, 1) := by decide +kernel
theorem dX11_emptyMinutes_4 : decode cX11_emptyMinutes 4 = .ok (.iload_n 2, 1) := by decide +kernel
theorem dX11_emptyMinutes_5 : decode cX11_emptyMinutes 5 = .ok (.aload_n 0, 1) := by decide +kernel
theorem dX11_emptyMinutes_6 : decode cX11_emptyMinutes 6 = .ok (.getfield 191, 3) := by decide +kernel
theorem dX11_emptyMinutes_9 : decode cX11_emptyMinutes 9 = .ok (.if_icmp .ge 42, 3) := by decide +kernel
theorem dX11_emptyMinutes_12 : decode cX11_emptyMinutes 12 = .ok (.iload_n 1, 1) := by decide +kernel
theorem dX11_emptyMinutes_13 : decode cX11_emptyMinutes 13 = .ok (.aload_n 0, 1) := by decide +kernel
theorem dX11_emptyMinutes_14 : decode cX11_emptyMinutes 14 = .ok (.getfield 93, 3) := by decide +kernel
theorem dX11_emptyMinutes_17 : decode cX11_emptyMinutes 17 = .ok (.iload_n 2, 1) := by decide +kernel
theorem dX11_emptyMinutes_18 : decode cX11_emptyMinutes 18 = .ok (.iaload, 1) := by decide +kernel
theorem dX11_emptyMinutes_19 : decode cX11_emptyMinutes 19 = .ok (.iconst (-1), 1) := by decide +kernel
theorem dX11_emptyMinutes_20 : decode cX11_emptyMinutes 20 = .ok (.if_icmp .ne 22, 3) := by decide +kernel
theorem dX11_emptyMinutes_23 : decode cX11_emptyMinutes 23 = .ok (.aload_n 0, 1) := by decide +kernel
theorem dX11_emptyMinutes_24 : decode cX11_emptyMinutes 24 = .ok (.aload_n 0, 1) := by decide +kernel
theorem dX11_emptyMinutes_25 : decode cX11_emptyMinutes 25 = .ok (.getfield 96, 3) := by decide +kernel
theorem dX11_emptyMinutes_28 : decode cX11_emptyMinutes 28 = .ok (.iload_n 2, 1) := by decide +kernel
theorem dX11_emptyMinutes_29 : decode cX11_emptyMinutes 29 = .ok (.iaload, 1) := by decide +kernel
theorem dX11_emptyMinutes_30 : decode cX11_emptyMinutes 30 = .ok (.aload_n 0, 1) := by decide +kernel
theorem dX11_emptyMinutes_31 : decode cX11_emptyMinutes 31 = .ok (.getfield 99, 3) := by decide +kernel
theorem dX11_emptyMinutes_34 : decode cX11_emptyMinutes 34 = .ok (.iload_n 2, 1) := by decide +kernel
theorem dX11_emptyMinutes_35 : decode cX11_emptyMinutes 35 = .ok (.iaload, 1) := by decide +kernel
theorem dX11_emptyMinutes_36 : decode cX11_emptyMinutes 36 = .ok (.invokevirtual 165, 3) := by decide +kernel
theorem dX11_emptyMinutes_39 : decode cX11_emptyMinutes 39 = .ok (.goto 4, 3) := by decide +kernel
theorem dX11_emptyMinutes_42 : decode cX11_emptyMinutes 42 = .ok (.iconst 0, 1) := by decide +kernel
theorem dX11_emptyMinutes_43 : decode cX11_emptyMinutes 43 = .ok (.iadd, 1) := by decide +kernel
theorem dX11_emptyMinutes_44 : decode cX11_emptyMinutes 44 = .ok (.istore_n 1, 1) := by decide +kernel
theorem dX11_emptyMinutes_45 : decode cX11_emptyMinutes 45 = .ok (.iinc 2 1, 3) := by decide +kernel
theorem dX11_emptyMinutes_48 : decode cX11_emptyMinutes 48 = .ok (.goto (-44), 3) := by decide +kernel
theorem dX11_emptyMinutes_51 : decode cX11_emptyMinutes 51 = .ok (.iload_n 1, 1) := by decide +kernel
theorem dX11_emptyMinutes_52 : decode cX11_emptyMinutes 52 = .ok (.ireturn, 1) := by decide +kernel
theorem dX11_works_0 : decode cX11_works 0 = .ok (.aload_n 0, 1) := by decide +kernel
theorem dX11_works_1 : decode cX11_works 1 = .ok (.invokevirtual 201, 3) := by decide +kernel
theorem dX11_works_4 : decode cX11_works 4 = .ok (.iconst 0, 1) := by decide +kernel
theorem dX11_works_5 : decode cX11_works 5 = .ok (.istore_n 1, 1) := by decide +kernel
theorem dX11_works_6 : decode cX11_works 6 = .ok (.iload_n 1, 1) := by decide +kernel
theorem dX11_works_7 : decode cX11_works 7 = .ok (.aload_n 0, 1) := by decide +kernel
theorem dX11_works_8 : decode cX11_works 8 = .ok (.getfield 162, 3) := by decide +kernel
theorem dX11_works_11 : decode cX11_works 11 = .ok (.if_icmp .ge 61, 3) := by decide +kernel
theorem dX11_works_14 : decode cX11_works 14 = .ok (.iconst 0, 1) := by decide +kernel
theorem dX11_works_15 : decode cX11_works 15 = .ok (.istore_n 2, 1) := by decide +kernel
theorem dX11_works_16 : decode cX11_works 16 = .ok (.iload_n 2, 1) := by decide +kernel
theorem dX11_works_17 : decode cX11_works 17 = .ok (.iconst 1, 1) := by decide +kernel
theorem dX11_works_18 : decode cX11_works 18 = .ok (.aload_n 0, 1) := by decide +kernel
theorem dX11_works_19 : decode cX11_works 19 = .ok (.getfield 188, 3) := by decide +kernel
theorem dX11_works_22 : decode cX11_works 22 = .ok (.ishl, 1) := by decide +kernel
theorem dX11_works_23 : decode cX11_works 23 = .ok (.if_icmp .ge 43, 3) := by decide +kernel
theorem dX11_works_26 : decode cX11_works 26 = .ok (.aload_n 0, 1) := by decide +kernel
theorem dX11_works_27 : decode cX11_works 27 = .ok (.iload_n 1, 1) := by decide +kernel
theorem dX11_works_28 : decode cX11_works 28 = .ok (.iload_n 2, 1) := by decide +kernel
theorem dX11_works_29 : decode cX11_works 29 = .ok (.invokevirtual 204, 3) := by decide +kernel
theorem dX11_works_32 : decode cX11_works 32 = .ok (.aload_n 0, 1) := by decide +kernel
theorem dX11_works_33 : decode cX11_works 33 = .ok (.getfield 111, 3) := by decide +kernel
theorem dX11_works_36 : decode cX11_works 36 = .ok (.sipush 256, 3) := by decide +kernel
theorem dX11_works_39 : decode cX11_works 39 = .ok (.iload_n 1, 1) := by decide +kernel
theorem dX11_works_40 : decode cX11_works 40 = .ok (.imul, 1) := by decide +kernel
theorem dX11_works_41 : decode cX11_works 41 = .ok (.iload_n 2, 1) := by decide +kernel
theorem dX11_works_42 : decode cX11_works 42 = .ok (.iadd, 1) := by decide +kernel
theorem dX11_works_43 : decode cX11_works 43 = .ok (.aload_n 0, 1) := by decide +kernel
theorem dX11_works_44 : decode cX11_works 44 = .ok (.iload_n 1, 1) := by decide +kernel
theorem dX11_works_45 : decode cX11_works 45 = .ok (.invokevirtual 208, 3) := by decide +kernel
theorem dX11_works_48 : decode cX11_works 48 = .ok (.ifCond .eq 10, 3) := by decide +kernel
theorem dX11_works_51 : decode cX11_works 51 = .ok (.aload_n 0, 1) := by decide +kernel
theorem dX11_works_52 : decode cX11_works 52 = .ok (.invokevirtual 211, 3) := by decide +kernel
theorem dX11_works_55 : decode cX11_works 55 = .ok (.goto 4, 3) := by decide +kernel
theorem dX11_works_58 : decode cX11_works 58 = .ok (.iconst (-1), 1) := by decide +kernel
theorem dX11_works_59 : decode cX11_works 59 = .ok (.iastore, 1) := by decide +kernel
theorem dX11_works_60 : decode cX11_works 60 = .ok (.iinc 2 1, 3) := by decide +kernel
theorem dX11_works_63 : decode cX11_works 63 = .ok (.goto (-47), 3) := by decide +kernel
theorem dX11_works_66 : decode cX11_works 66 = .ok (.iinc 1 1, 3) := by decide +kernel
theorem dX11_works_69 : decode cX11_works 69 = .ok (.goto (-63), 3) := by decide +kernel
theorem dX11_works_72 : decode cX11_works 72 = .ok (.return_, 1) := by decide +kernel
theorem dX11_isMoved_0 : decode cX11_isMoved 0 = .ok (.aload_n 0, 1) := by decide +kernel
theorem dX11_isMoved_1 : decode cX11_isMoved 1 = .ok (.getfield 54, 3) := by decide +kernel
theorem dX11_isMoved_4 : decode cX11_isMoved 4 = .ok (.aload_n 0, 1) := by decide +kernel
theorem dX11_isMoved_5 : decode cX11_isMoved 5 = .ok (.getfield 90, 3) := by decide +kernel
theorem dX11_isMoved_8 : decode cX11_isMoved 8 = .ok (.iload_n 1, 1) := by decide +kernel
theorem dX11_isMoved_9 : decode cX11_isMoved 9 = .ok (.iaload, 1) := by decide +kernel
theorem dX11_isMoved_10 : decode cX11_isMoved 10 = .ok (.iaload, 1) := by decide +kernel
theorem dX11_isMoved_11 : decode cX11_isMoved 11 = .ok (.iconst (-1), 1) := by decide +kernel
theorem dX11_isMoved_12 : decode cX11_isMoved 12 = .ok (.if_icmp .eq 44, 3) := by decide +kernel
theorem dX11_isMoved_15 : decode cX11_isMoved 15 = .ok (.aload_n 0, 1) := by decide +kernel
theorem dX11_isMoved_16 : decode cX11_isMoved 16 = .ok (.getfield 54, 3) := by decide +kernel
theorem dX11_isMoved_19 : decode cX11_isMoved 19 = .ok (.aload_n 0, 1) := by decide +kernel
theorem dX11_isMoved_20 : decode cX11_isMoved 20 = .ok (.getfield 90, 3) := by decide +kernel
theorem dX11_isMoved_23 : decode cX11_isMoved 23 = .ok (.iload_n 1, 1) := by decide +kernel
theorem dX11_isMoved_24 : decode cX11_isMoved 24 = .ok (.iaload, 1) := by decide +kernel
theorem dX11_isMoved_25 : decode cX11_isMoved 25 = .ok (.iaload, 1) := by decide +kernel
theorem dX11_isMoved_26 : decode cX11_isMoved 26 = .ok (.aload_n 0, 1) := by decide +kernel
theorem dX11_isMoved_27 : decode cX11_isMoved 27 = .ok (.getfield 114, 3) := by decide +kernel
theorem dX11_isMoved_30 : decode cX11_isMoved 30 = .ok (.iload_n 1, 1) := by decide +kernel
theorem dX11_isMoved_31 : decode cX11_isMoved 31 = .ok (.iaload, 1) := by decide +kernel
theorem dX11_isMoved_32 : decode cX11_isMoved 32 = .ok (.aload_n 0, 1) := by decide +kernel
theorem dX11_isMoved_33 : decode cX11_isMoved 33 = .ok (.getfield 162, 3) := by decide +kernel
theorem dX11_isMoved_36 : decode cX11_isMoved 36 = .ok (.if_icmp .ne 7, 3) := by decide +kernel
theorem dX11_isMoved_39 : decode cX11_isMoved 39 = .ok (.iconst (-1), 1) := by decide +kernel
theorem dX11_isMoved_40 : decode cX11_isMoved 40 = .ok (.goto 9, 3) := by decide +kernel
theorem dX11_isMoved_43 : decode cX11_isMoved 43 = .ok (.aload_n 0, 1) := by decide +kernel
theorem dX11_isMoved_44 : decode cX11_isMoved 44 = .ok (.getfield 114, 3) := by decide +kernel
theorem dX11_isMoved_47 : decode cX11_isMoved 47 = .ok (.iload_n 1, 1) := by decide +kernel
theorem dX11_isMoved_48 : decode cX11_isMoved 48 = .ok (.iaload, 1) := by decide +kernel
theorem dX11_isMoved_49 : decode cX11_isMoved 49 = .ok (.if_icmp .eq 7, 3) := by decide +kernel
theorem dX11_isMoved_52 : decode cX11_isMoved 52 = .ok (.iconst 1, 1) := by decide +kernel
theorem dX11_isMoved_53 : decode cX11_isMoved 53 = .ok (.goto 4, 3) := by decide +kernel
theorem dX11_isMoved_56 : decode cX11_isMoved 56 = .ok (.iconst 0, 1) := by decide +kernel
theorem dX11_isMoved_57 : decode cX11_isMoved 57 = .ok (.ireturn, 1) := by decide +kernel
theorem dX11_finds_0 : decode cX11_finds 0 = .ok (.aload_n 0, 1) := by decide +kernel
theorem dX11_finds_1 : decode cX11_finds 1 = .ok (.invokevirtual 214, 3) := by decide +kernel
theorem dX11_finds_4 : decode cX11_finds 4 = .ok (.iconst 1, 1) := by decide +kernel
theorem dX11_finds_5 : decode cX11_finds 5 = .ok (.istore_n 2, 1) := by decide +kernel
theorem dX11_finds_6 : decode cX11_finds 6 = .ok (.iconst 0, 1) := by decide +kernel
theorem dX11_finds_7 : decode cX11_finds 7 = .ok (.istore_n 3, 1) := by decide +kernel
theorem dX11_finds_8 : decode cX11_finds 8 = .ok (.iload_n 3, 1) := by decide +kernel
theorem dX11_finds_9 : decode cX11_finds 9 = .ok (.aload_n 0, 1) := by decide +kernel
theorem dX11_finds_10 : decode cX11_finds 10 = .ok (.getfield 188, 3) := by decide +kernel
theorem dX11_finds_13 : decode cX11_finds 13 = .ok (.if_icmp .ge 18, 3) := by decide +kernel
theorem dX11_finds_16 : decode cX11_finds 16 = .ok (.iload_n 2, 1) := by decide +kernel
theorem dX11_finds_17 : decode cX11_finds 17 = .ok (.aload_n 0, 1) := by decide +kernel
theorem dX11_finds_18 : decode cX11_finds 18 = .ok (.getfield 162, 3) := by decide +kernel
theorem dX11_finds_21 : decode cX11_finds 21 = .ok (.iconst 1, 1) := by decide +kernel
theorem dX11_finds_22 : decode cX11_finds 22 = .ok (.iadd, 1) := by decide +kernel
theorem dX11_finds_23 : decode cX11_finds 23 = .ok (.imul, 1) := by decide +kernel
theorem dX11_finds_24 : decode cX11_finds 24 = .ok (.istore_n 2, 1) := by decide +kernel
theorem dX11_finds_25 : decode cX11_finds 25 = .ok (.iinc 3 1, 3) := by decide +kernel
theorem dX11_finds_28 : decode cX11_finds 28 = .ok (.goto (-20), 3) := by decide +kernel
theorem dX11_finds_31 : decode cX11_finds 31 = .ok (.iconst (-1), 1) := by decide +kernel
theorem dX11_finds_32 : decode cX11_finds 32 = .ok (.istore_n 3, 1) := by decide +kernel
theorem dX11_finds_33 : decode cX11_finds 33 = .ok (.iconst 0, 1) := by decide +kernel
theorem dX11_finds_34 : decode cX11_finds 34 = .ok (.istore 4, 2) := by decide +kernel
theorem dX11_finds_36 : decode cX11_finds 36 = .ok (.iconst 0, 1) := by decide +kernel
theorem dX11_finds_37 : decode cX11_finds 37 = .ok (.istore 5, 2) := by decide +kernel
theorem dX11_finds_39 : decode cX11_finds 39 = .ok (.iconst 0, 1) := by decide +kernel
theorem dX11_finds_40 : decode cX11_finds 40 = .ok (.istore 6, 2) := by decide +kernel
theorem dX11_finds_42 : decode cX11_finds 42 = .ok (.iload 6, 2) := by decide +kernel
theorem dX11_finds_44 : decode cX11_finds 44 = .ok (.iload_n 2, 1) := by decide +kernel
theorem dX11_finds_45 : decode cX11_finds 45 = .ok (.if_icmp .ge 321, 3) := by decide +kernel
theorem dX11_finds_48 : decode cX11_finds 48 = .ok (.iload 6, 2) := by decide +kernel
theorem dX11_finds_50 : decode cX11_finds 50 = .ok (.istore 7, 2) := by decide +kernel
theorem dX11_finds_52 : decode cX11_finds 52 = .ok (.iconst 0, 1) := by decide +kernel
theorem dX11_finds_53 : decode cX11_finds 53 = .ok (.istore 8, 2) := by decide +kernel
theorem dX11_finds_55 : decode cX11_finds 55 = .ok (.iconst 0, 1) := by decide +kernel
theorem dX11_finds_56 : decode cX11_finds 56 = .ok (.istore 9, 2) := by decide +kernel
theorem dX11_finds_58 : decode cX11_finds 58 = .ok (.iconst 0, 1) := by decide +kernel
theorem dX11_finds_59 : decode cX11_finds 59 = .ok (.istore 10, 2) := by decide +kernel
theorem dX11_finds_61 : decode cX11_finds 61 = .ok (.iconst 0, 1) := by decide +kernel
theorem dX11_finds_62 : decode cX11_finds 62 = .ok (.istore 11, 2) := by decide +kernel
theorem dX11_finds_64 : decode cX11_finds 64 = .ok (.iload 11, 2) := by decide +kernel
theorem dX11_finds_66 : decode cX11_finds 66 = .ok (.aload_n 0, 1) := by decide +kernel
theorem dX11_finds_67 : decode cX11_finds 67 = .ok (.getfield 162, 3) := by decide +kernel
theorem dX11_finds_70 : decode cX11_finds 70 = .ok (.if_icmp .ge 17, 3) := by decide +kernel
theorem dX11_finds_73 : decode cX11_finds 73 = .ok (.aload_n 0, 1) := by decide +kernel
theorem dX11_finds_74 : decode cX11_finds 74 = .ok (.getfield 120, 3) := by decide +kernel
theorem dX11_finds_77 : decode cX11_finds 77 = .ok (.iload 11, 2) := by decide +kernel
theorem dX11_finds_79 : decode cX11_finds 79 = .ok (.iconst 0, 1) := by decide +kernel
theorem dX11_finds_80 : decode cX11_finds 80 = .ok (.iastore, 1) := by decide +kernel
theorem dX11_finds_81 : decode cX11_finds 81 = .ok (.iinc 11 1, 3) := by decide +kernel
theorem dX11_finds_84 : decode cX11_finds 84 = .ok (.goto (-20), 3) := by decide +kernel
theorem dX11_finds_87 : decode cX11_finds 87 = .ok (.aload_n 0, 1) := by decide +kernel
theorem dX11_finds_88 : decode cX11_finds 88 = .ok (.getfield 188, 3) := by decide +kernel
theorem dX11_finds_91 : decode cX11_finds 91 = .ok (.iconst 1, 1) := by decide +kernel
theorem dX11_finds_92 : decode cX11_finds 92 = .ok (.isub, 1) := by decide +kernel
theorem dX11_finds_93 : decode cX11_finds 93 = .ok (.istore 11, 2) := by decide +kernel
theorem dX11_finds_95 : decode cX11_finds 95 = .ok (.iload 11, 2) := by decide +kernel
theorem dX11_finds_97 : decode cX11_finds 97 = .ok (.ifCond .lt 112, 3) := by decide +kernel
theorem dX11_finds_100 : decode cX11_finds 100 = .ok (.aload_n 0, 1) := by decide +kernel
theorem dX11_finds_101 : decode cX11_finds 101 = .ok (.getfield 114, 3) := by decide +kernel
theorem dX11_finds_104 : decode cX11_finds 104 = .ok (.iload 11, 2) := by decide +kernel
theorem dX11_finds_106 : decode cX11_finds 106 = .ok (.iload 7, 2) := by decide +kernel
theorem dX11_finds_108 : decode cX11_finds 108 = .ok (.aload_n 0, 1) := by decide +kernel
theorem dX11_finds_109 : decode cX11_finds 109 = .ok (.getfield 162, 3) := by decide +kernel
theorem dX11_finds_112 : decode cX11_finds 112 = .ok (.iconst 1, 1) := by decide +kernel
theorem dX11_finds_113 : decode cX11_finds 113 = .ok (.iadd, 1) := by decide +kernel
theorem dX11_finds_114 : decode cX11_finds 114 = .ok (.irem, 1) := by decide +kernel
theorem dX11_finds_115 : decode cX11_finds 115 = .ok (.iastore, 1) := by decide +kernel
theorem dX11_finds_116 : decode cX11_finds 116 = .ok (.iload 7, 2) := by decide +kernel
theorem dX11_finds_118 : decode cX11_finds 118 = .ok (.aload_n 0, 1) := by decide +kernel
theorem dX11_finds_119 : decode cX11_finds 119 = .ok (.getfield 162, 3) := by decide +kernel
theorem dX11_finds_122 : decode cX11_finds 122 = .ok (.iconst 1, 1) := by decide +kernel
theorem dX11_finds_123 : decode cX11_finds 123 = .ok (.iadd, 1) := by decide +kernel
theorem dX11_finds_124 : decode cX11_finds 124 = .ok (.idiv, 1) := by decide +kernel
theorem dX11_finds_125 : decode cX11_finds 125 = .ok (.istore 7, 2) := by decide +kernel
theorem dX11_finds_127 : decode cX11_finds 127 = .ok (.aload_n 0, 1) := by decide +kernel
theorem dX11_finds_128 : decode cX11_finds 128 = .ok (.getfield 114, 3) := by decide +kernel
theorem dX11_finds_131 : decode cX11_finds 131 = .ok (.iload 11, 2) := by decide +kernel
theorem dX11_finds_133 : decode cX11_finds 133 = .ok (.iaload, 1) := by decide +kernel
theorem dX11_finds_134 : decode cX11_finds 134 = .ok (.aload_n 0, 1) := by decide +kernel
theorem dX11_finds_135 : decode cX11_finds 135 = .ok (.getfield 162, 3) := by decide +kernel
theorem dX11_finds_138 : decode cX11_finds 138 = .ok (.if_icmp .ge 22, 3) := by decide +kernel
theorem dX11_finds_141 : decode cX11_finds 141 = .ok (.aload_n 0, 1) := by decide +kernel
theorem dX11_finds_142 : decode cX11_finds 142 = .ok (.getfield 120, 3) := by decide +kernel
theorem dX11_finds_145 : decode cX11_finds 145 = .ok (.aload_n 0, 1) := by decide +kernel
theorem dX11_finds_146 : decode cX11_finds 146 = .ok (.getfield 114, 3) := by decide +kernel
theorem dX11_finds_149 : decode cX11_finds 149 = .ok (.iload 11, 2) := by decide +kernel
theorem dX11_finds_151 : decode cX11_finds 151 = .ok (.iaload, 1) := by decide +kernel
theorem dX11_finds_152 : decode cX11_finds 152 = .ok (.dup2, 1) := by decide +kernel
theorem dX11_finds_153 : decode cX11_finds 153 = .ok (.iaload, 1) := by decide +kernel
theorem dX11_finds_154 : decode cX11_finds 154 = .ok (.iconst 1, 1) := by decide +kernel
theorem dX11_finds_155 : decode cX11_finds 155 = .ok (.iload 11, 2) := by decide +kernel
theorem dX11_finds_157 : decode cX11_finds 157 = .ok (.ishl, 1) := by decide +kernel
theorem dX11_finds_158 : decode cX11_finds 158 = .ok (.ior, 1) := by decide +kernel
theorem dX11_finds_159 : decode cX11_finds 159 = .ok (.iastore, 1) := by decide +kernel
theorem dX11_finds_160 : decode cX11_finds 160 = .ok (.iload 8, 2) := by decide +kernel
theorem dX11_finds_162 : decode cX11_finds 162 = .ok (.aload_n 0, 1) := by decide +kernel
theorem dX11_finds_163 : decode cX11_finds 163 = .ok (.getfield 114, 3) := by decide +kernel
theorem dX11_finds_166 : decode cX11_finds 166 = .ok (.iload 11, 2) := by decide +kernel
theorem dX11_finds_168 : decode cX11_finds 168 = .ok (.iaload, 1) := by decide +kernel
theorem dX11_finds_169 : decode cX11_finds 169 = .ok (.aload_n 0, 1) := by decide +kernel
theorem dX11_finds_170 : decode cX11_finds 170 = .ok (.getfield 162, 3) := by decide +kernel
theorem dX11_finds_173 : decode cX11_finds 173 = .ok (.if_icmp .ge 7, 3) := by decide +kernel
theorem dX11_finds_176 : decode cX11_finds 176 = .ok (.iconst 1, 1) := by decide +kernel
theorem dX11_finds_177 : decode cX11_finds 177 = .ok (.goto 4, 3) := by decide +kernel
theorem dX11_finds_180 : decode cX11_finds 180 = .ok (.iconst 0, 1) := by decide +kernel
theorem dX11_finds_181 : decode cX11_finds 181 = .ok (.iadd, 1) := by decide +kernel
theorem dX11_finds_182 : decode cX11_finds 182 = .ok (.istore 8, 2) := by decide +kernel
theorem dX11_finds_184 : decode cX11_finds 184 = .ok (.iload 9, 2) := by decide +kernel
theorem dX11_finds_186 : decode cX11_finds 186 = .ok (.iload_n 1, 1) := by decide +kernel
theorem dX11_finds_187 : decode cX11_finds 187 = .ok (.ifCond .eq 12, 3) := by decide +kernel
theorem dX11_finds_190 : decode cX11_finds 190 = .ok (.aload_n 0, 1) := by decide +kernel
theorem dX11_finds_191 : decode cX11_finds 191 = .ok (.iload 11, 2) := by decide +kernel
theorem dX11_finds_193 : decode cX11_finds 193 = .ok (.invokevirtual 217, 3) := by decide +kernel
theorem dX11_finds_196 : decode cX11_finds 196 = .ok (.goto 4, 3) := by decide +kernel
theorem dX11_finds_199 : decode cX11_finds 199 = .ok (.iconst 0, 1) := by decide +kernel
theorem dX11_finds_200 : decode cX11_finds 200 = .ok (.iadd, 1) := by decide +kernel
theorem dX11_finds_201 : decode cX11_finds 201 = .ok (.istore 9, 2) := by decide +kernel
theorem dX11_finds_203 : decode cX11_finds 203 = .ok (.iinc 11 (-1), 3) := by decide +kernel
theorem dX11_finds_206 : decode cX11_finds 206 = .ok (.goto (-111), 3) := by decide +kernel
theorem dX11_finds_209 : decode cX11_finds 209 = .ok (.iconst 1, 1) := by decide +kernel
theorem dX11_finds_210 : decode cX11_finds 210 = .ok (.istore 11, 2) := by decide +kernel
theorem dX11_finds_212 : decode cX11_finds 212 = .ok (.iconst 0, 1) := by decide +kernel
theorem dX11_finds_213 : decode cX11_finds 213 = .ok (.istore 12, 2) := by decide +kernel
theorem dX11_finds_215 : decode cX11_finds 215 = .ok (.iload 12, 2) := by decide +kernel
theorem dX11_finds_217 : decode cX11_finds 217 = .ok (.aload_n 0, 1) := by decide +kernel
theorem dX11_finds_218 : decode cX11_finds 218 = .ok (.getfield 162, 3) := by decide +kernel
theorem dX11_finds_221 : decode cX11_finds 221 = .ok (.if_icmp .ge 55, 3) := by decide +kernel
theorem dX11_finds_224 : decode cX11_finds 224 = .ok (.aload_n 0, 1) := by decide +kernel
theorem dX11_finds_225 : decode cX11_finds 225 = .ok (.getfield 111, 3) := by decide +kernel
theorem dX11_finds_228 : decode cX11_finds 228 = .ok (.sipush 256, 3) := by decide +kernel
theorem dX11_finds_231 : decode cX11_finds 231 = .ok (.iload 12, 2) := by decide +kernel
theorem dX11_finds_233 : decode cX11_finds 233 = .ok (.imul, 1) := by decide +kernel
theorem dX11_finds_234 : decode cX11_finds 234 = .ok (.aload_n 0, 1) := by decide +kernel
theorem dX11_finds_235 : decode cX11_finds 235 = .ok (.getfield 120, 3) := by decide +kernel
theorem dX11_finds_238 : decode cX11_finds 238 = .ok (.iload 12, 2) := by decide +kernel
theorem dX11_finds_240 : decode cX11_finds 240 = .ok (.iaload, 1) := by decide +kernel
theorem dX11_finds_241 : decode cX11_finds 241 = .ok (.iadd, 1) := by decide +kernel
theorem dX11_finds_242 : decode cX11_finds 242 = .ok (.iaload, 1) := by decide +kernel
theorem dX11_finds_243 : decode cX11_finds 243 = .ok (.istore 13, 2) := by decide +kernel
theorem dX11_finds_245 : decode cX11_finds 245 = .ok (.iload 11, 2) := by decide +kernel
theorem dX11_finds_247 : decode cX11_finds 247 = .ok (.ifCond .eq 13, 3) := by decide +kernel
theorem dX11_finds_250 : decode cX11_finds 250 = .ok (.iload 13, 2) := by decide +kernel
theorem dX11_finds_252 : decode cX11_finds 252 = .ok (.iconst (-1), 1) := by decide +kernel
theorem dX11_finds_253 : decode cX11_finds 253 = .ok (.if_icmp .eq 7, 3) := by decide +kernel
theorem dX11_finds_256 : decode cX11_finds 256 = .ok (.iconst 1, 1) := by decide +kernel
theorem dX11_finds_257 : decode cX11_finds 257 = .ok (.goto 4, 3) := by decide +kernel
theorem dX11_finds_260 : decode cX11_finds 260 = .ok (.iconst 0, 1) := by decide +kernel
theorem dX11_finds_261 : decode cX11_finds 261 = .ok (.istore 11, 2) := by decide +kernel
theorem dX11_finds_263 : decode cX11_finds 263 = .ok (.iload 10, 2) := by decide +kernel
theorem dX11_finds_265 : decode cX11_finds 265 = .ok (.iload 13, 2) := by decide +kernel
theorem dX11_finds_267 : decode cX11_finds 267 = .ok (.iadd, 1) := by decide +kernel
theorem dX11_finds_268 : decode cX11_finds 268 = .ok (.istore 10, 2) := by decide +kernel
theorem dX11_finds_270 : decode cX11_finds 270 = .ok (.iinc 12 1, 3) := by decide +kernel
theorem dX11_finds_273 : decode cX11_finds 273 = .ok (.goto (-58), 3) := by decide +kernel
theorem dX11_finds_276 : decode cX11_finds 276 = .ok (.iload 11, 2) := by decide +kernel
theorem dX11_finds_278 : decode cX11_finds 278 = .ok (.ifCond .eq 82, 3) := by decide +kernel
theorem dX11_finds_281 : decode cX11_finds 281 = .ok (.iload 8, 2) := by decide +kernel
theorem dX11_finds_283 : decode cX11_finds 283 = .ok (.iload_n 3, 1) := by decide +kernel
theorem dX11_finds_284 : decode cX11_finds 284 = .ok (.if_icmp .lt 76, 3) := by decide +kernel
theorem dX11_finds_287 : decode cX11_finds 287 = .ok (.iload 8, 2) := by decide +kernel
theorem dX11_finds_289 : decode cX11_finds 289 = .ok (.iload_n 3, 1) := by decide +kernel
theorem dX11_finds_290 : decode cX11_finds 290 = .ok (.if_icmp .ne 27, 3) := by decide +kernel
theorem dX11_finds_293 : decode cX11_finds 293 = .ok (.iload 9, 2) := by decide +kernel
theorem dX11_finds_295 : decode cX11_finds 295 = .ok (.iload 4, 2) := by decide +kernel
theorem dX11_finds_297 : decode cX11_finds 297 = .ok (.if_icmp .gt 63, 3) := by decide +kernel
theorem dX11_finds_300 : decode cX11_finds 300 = .ok (.iload 9, 2) := by decide +kernel
theorem dX11_finds_302 : decode cX11_finds 302 = .ok (.iload 4, 2) := by decide +kernel
theorem dX11_finds_304 : decode cX11_finds 304 = .ok (.if_icmp .ne 13, 3) := by decide +kernel
theorem dX11_finds_307 : decode cX11_finds 307 = .ok (.iload 10, 2) := by decide +kernel
theorem dX11_finds_309 : decode cX11_finds 309 = .ok (.iload 5, 2) := by decide +kernel
theorem dX11_finds_311 : decode cX11_finds 311 = .ok (.if_icmp .lt 6, 3) := by decide +kernel
theorem dX11_finds_314 : decode cX11_finds 314 = .ok (.goto 46, 3) := by decide +kernel
theorem dX11_finds_317 : decode cX11_finds 317 = .ok (.iload 8, 2) := by decide +kernel
theorem dX11_finds_319 : decode cX11_finds 319 = .ok (.istore_n 3, 1) := by decide +kernel
theorem dX11_finds_320 : decode cX11_finds 320 = .ok (.iload 9, 2) := by decide +kernel
theorem dX11_finds_322 : decode cX11_finds 322 = .ok (.istore 4, 2) := by decide +kernel
theorem dX11_finds_324 : decode cX11_finds 324 = .ok (.iload 10, 2) := by decide +kernel
theorem dX11_finds_326 : decode cX11_finds 326 = .ok (.istore 5, 2) := by decide +kernel
theorem dX11_finds_328 : decode cX11_finds 328 = .ok (.iconst 0, 1) := by decide +kernel
theorem dX11_finds_329 : decode cX11_finds 329 = .ok (.istore 12, 2) := by decide +kernel
theorem dX11_finds_331 : decode cX11_finds 331 = .ok (.iload 12, 2) := by decide +kernel
theorem dX11_finds_333 : decode cX11_finds 333 = .ok (.aload_n 0, 1) := by decide +kernel
theorem dX11_finds_334 : decode cX11_finds 334 = .ok (.getfield 188, 3) := by decide +kernel
theorem dX11_finds_337 : decode cX11_finds 337 = .ok (.if_icmp .ge 23, 3) := by decide +kernel
theorem dX11_finds_340 : decode cX11_finds 340 = .ok (.aload_n 0, 1) := by decide +kernel
theorem dX11_finds_341 : decode cX11_finds 341 = .ok (.getfield 117, 3) := by decide +kernel
theorem dX11_finds_344 : decode cX11_finds 344 = .ok (.iload 12, 2) := by decide +kernel
theorem dX11_finds_346 : decode cX11_finds 346 = .ok (.aload_n 0, 1) := by decide +kernel
theorem dX11_finds_347 : decode cX11_finds 347 = .ok (.getfield 114, 3) := by decide +kernel
theorem dX11_finds_350 : decode cX11_finds 350 = .ok (.iload 12, 2) := by decide +kernel
theorem dX11_finds_352 : decode cX11_finds 352 = .ok (.iaload, 1) := by decide +kernel
theorem dX11_finds_353 : decode cX11_finds 353 = .ok (.iastore, 1) := by decide +kernel
theorem dX11_finds_354 : decode cX11_finds 354 = .ok (.iinc 12 1, 3) := by decide +kernel
theorem dX11_finds_357 : decode cX11_finds 357 = .ok (.goto (-26), 3) := by decide +kernel
theorem dX11_finds_360 : decode cX11_finds 360 = .ok (.iinc 6 1, 3) := by decide +kernel
theorem dX11_finds_363 : decode cX11_finds 363 = .ok (.goto (-321), 3) := by decide +kernel
theorem dX11_finds_366 : decode cX11_finds 366 = .ok (.iconst 0, 1) := by decide +kernel
theorem dX11_finds_367 : decode cX11_finds 367 = .ok (.istore 6, 2) := by decide +kernel
theorem dX11_finds_369 : decode cX11_finds 369 = .ok (.iconst 0, 1) := by decide +kernel
theorem dX11_finds_370 : decode cX11_finds 370 = .ok (.istore 7, 2) := by decide +kernel
theorem dX11_finds_372 : decode cX11_finds 372 = .ok (.iload 7, 2) := by decide +kernel
theorem dX11_finds_374 : decode cX11_finds 374 = .ok (.aload_n 0, 1) := by decide +kernel
theorem dX11_finds_375 : decode cX11_finds 375 = .ok (.getfield 188, 3) := by decide +kernel
theorem dX11_finds_378 : decode cX11_finds 378 = .ok (.if_icmp .ge 93, 3) := by decide +kernel
theorem dX11_finds_381 : decode cX11_finds 381 = .ok (.aload_n 0, 1) := by decide +kernel
theorem dX11_finds_382 : decode cX11_finds 382 = .ok (.getfield 117, 3) := by decide +kernel
theorem dX11_finds_385 : decode cX11_finds 385 = .ok (.iload 7, 2) := by decide +kernel
theorem dX11_finds_387 : decode cX11_finds 387 = .ok (.iaload, 1) := by decide +kernel
theorem dX11_finds_388 : decode cX11_finds 388 = .ok (.aload_n 0, 1) := by decide +kernel
theorem dX11_finds_389 : decode cX11_finds 389 = .ok (.getfield 162, 3) := by decide +kernel
theorem dX11_finds_392 : decode cX11_finds 392 = .ok (.if_icmp .ne 7, 3) := by decide +kernel
theorem dX11_finds_395 : decode cX11_finds 395 = .ok (.iconst (-1), 1) := by decide +kernel
theorem dX11_finds_396 : decode cX11_finds 396 = .ok (.goto 10, 3) := by decide +kernel
theorem dX11_finds_399 : decode cX11_finds 399 = .ok (.aload_n 0, 1) := by decide +kernel
theorem dX11_finds_400 : decode cX11_finds 400 = .ok (.getfield 117, 3) := by decide +kernel
theorem dX11_finds_403 : decode cX11_finds 403 = .ok (.iload 7, 2) := by decide +kernel
theorem dX11_finds_405 : decode cX11_finds 405 = .ok (.iaload, 1) := by decide +kernel
theorem dX11_finds_406 : decode cX11_finds 406 = .ok (.istore 8, 2) := by decide +kernel
theorem dX11_finds_408 : decode cX11_finds 408 = .ok (.iload 6, 2) := by decide +kernel
theorem dX11_finds_410 : decode cX11_finds 410 = .ok (.aload_n 0, 1) := by decide +kernel
theorem dX11_finds_411 : decode cX11_finds 411 = .ok (.getfield 54, 3) := by decide +kernel
theorem dX11_finds_414 : decode cX11_finds 414 = .ok (.aload_n 0, 1) := by decide +kernel
theorem dX11_finds_415 : decode cX11_finds 415 = .ok (.getfield 90, 3) := by decide +kernel
theorem dX11_finds_418 : decode cX11_finds 418 = .ok (.iload 7, 2) := by decide +kernel
theorem dX11_finds_420 : decode cX11_finds 420 = .ok (.iaload, 1) := by decide +kernel
theorem dX11_finds_421 : decode cX11_finds 421 = .ok (.iaload, 1) := by decide +kernel
theorem dX11_finds_422 : decode cX11_finds 422 = .ok (.iconst (-1), 1) := by decide +kernel
theorem dX11_finds_423 : decode cX11_finds 423 = .ok (.if_icmp .eq 24, 3) := by decide +kernel
theorem dX11_finds_426 : decode cX11_finds 426 = .ok (.aload_n 0, 1) := by decide +kernel
theorem dX11_finds_427 : decode cX11_finds 427 = .ok (.getfield 54, 3) := by decide +kernel
theorem dX11_finds_430 : decode cX11_finds 430 = .ok (.aload_n 0, 1) := by decide +kernel
theorem dX11_finds_431 : decode cX11_finds 431 = .ok (.getfield 90, 3) := by decide +kernel
theorem dX11_finds_434 : decode cX11_finds 434 = .ok (.iload 7, 2) := by decide +kernel
theorem dX11_finds_436 : decode cX11_finds 436 = .ok (.iaload, 1) := by decide +kernel
theorem dX11_finds_437 : decode cX11_finds 437 = .ok (.iaload, 1) := by decide +kernel
theorem dX11_finds_438 : decode cX11_finds 438 = .ok (.iload 8, 2) := by decide +kernel
theorem dX11_finds_440 : decode cX11_finds 440 = .ok (.if_icmp .eq 7, 3) := by decide +kernel
theorem dX11_finds_443 : decode cX11_finds 443 = .ok (.iconst 1, 1) := by decide +kernel
theorem dX11_finds_444 : decode cX11_finds 444 = .ok (.goto 4, 3) := by decide +kernel
theorem dX11_finds_447 : decode cX11_finds 447 = .ok (.iconst 0, 1) := by decide +kernel
theorem dX11_finds_448 : decode cX11_finds 448 = .ok (.iadd, 1) := by decide +kernel
theorem dX11_finds_449 : decode cX11_finds 449 = .ok (.istore 6, 2) := by decide +kernel
theorem dX11_finds_451 : decode cX11_finds 451 = .ok (.aload_n 0, 1) := by decide +kernel
theorem dX11_finds_452 : decode cX11_finds 452 = .ok (.getfield 54, 3) := by decide +kernel
theorem dX11_finds_455 : decode cX11_finds 455 = .ok (.aload_n 0, 1) := by decide +kernel
theorem dX11_finds_456 : decode cX11_finds 456 = .ok (.getfield 90, 3) := by decide +kernel
theorem dX11_finds_459 : decode cX11_finds 459 = .ok (.iload 7, 2) := by decide +kernel
theorem dX11_finds_461 : decode cX11_finds 461 = .ok (.iaload, 1) := by decide +kernel
theorem dX11_finds_462 : decode cX11_finds 462 = .ok (.iload 8, 2) := by decide +kernel
theorem dX11_finds_464 : decode cX11_finds 464 = .ok (.iastore, 1) := by decide +kernel
theorem dX11_finds_465 : decode cX11_finds 465 = .ok (.iinc 7 1, 3) := by decide +kernel
theorem dX11_finds_468 : decode cX11_finds 468 = .ok (.goto (-96), 3) := by decide +kernel
theorem dX11_finds_471 : decode cX11_finds 471 = .ok (.aload_n 0, 1) := by decide +kernel
theorem dX11_finds_472 : decode cX11_finds 472 = .ok (.invokevirtual 176, 3) := by decide +kernel
theorem dX11_finds_475 : decode cX11_finds 475 = .ok (.iload 6, 2) := by decide +kernel
theorem dX11_finds_477 : decode cX11_finds 477 = .ok (.ireturn, 1) := by decide +kernel
