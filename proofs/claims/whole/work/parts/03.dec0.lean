theorem dX0_init_0 : decode cX0_init 0 = .ok (.aload_n 0, 1) := by decide +kernel
theorem dX0_init_1 : decode cX0_init 1 = .ok (.iload_n 1, 1) := by decide +kernel
theorem dX0_init_2 : decode cX0_init 2 = .ok (.iconst 1, 1) := by decide +kernel
theorem dX0_init_3 : decode cX0_init 3 = .ok (.invokespecial 3, 3) := by decide +kernel
theorem dX0_init_6 : decode cX0_init 6 = .ok (.aload_n 0, 1) := by decide +kernel
theorem dX0_init_7 : decode cX0_init 7 = .ok (.new 9, 3) := by decide +kernel
theorem dX0_init_10 : decode cX0_init 10 = .ok (.dup, 1) := by decide +kernel
theorem dX0_init_11 : decode cX0_init 11 = .ok (.invokespecial 11, 3) := by decide +kernel
theorem dX0_init_14 : decode cX0_init 14 = .ok (.putfield 14, 3) := by decide +kernel
theorem dX0_init_17 : decode cX0_init 17 = .ok (.aload_n 0, 1) := by decide +kernel
theorem dX0_init_18 : decode cX0_init 18 = .ok (.iload_n 2, 1) := by decide +kernel
theorem dX0_init_19 : decode cX0_init 19 = .ok (.putfield 20, 3) := by decide +kernel
theorem dX0_init_22 : decode cX0_init 22 = .ok (.aload_n 0, 1) := by decide +kernel
theorem dX0_init_23 : decode cX0_init 23 = .ok (.iload_n 3, 1) := by decide +kernel
theorem dX0_init_24 : decode cX0_init 24 = .ok (.putfield 24, 3) := by decide +kernel
theorem dX0_init_27 : decode cX0_init 27 = .ok (.aload_n 0, 1) := by decide +kernel
theorem dX0_init_28 : decode cX0_init 28 = .ok (.iload 4, 2) := by decide +kernel
theorem dX0_init_30 : decode cX0_init 30 = .ok (.putfield 27, 3) := by decide +kernel
theorem dX0_init_33 : decode cX0_init 33 = .ok (.aload_n 0, 1) := by decide +kernel
theorem dX0_init_34 : decode cX0_init 34 = .ok (.iload 5, 2) := by decide +kernel
theorem dX0_init_36 : decode cX0_init 36 = .ok (.putfield 30, 3) := by decide +kernel
theorem dX0_init_39 : decode cX0_init 39 = .ok (.aload_n 0, 1) := by decide +kernel
theorem dX0_init_40 : decode cX0_init 40 = .ok (.iload 6, 2) := by decide +kernel
theorem dX0_init_42 : decode cX0_init 42 = .ok (.putfield 33, 3) := by decide +kernel
theorem dX0_init_45 : decode cX0_init 45 = .ok (.return_, 1) := by decide +kernel
theorem dX0_isAsTold_0 : decode cX0_isAsTold 0 = .ok (.iload_n 0, 1) := by decide +kernel
theorem dX0_isAsTold_1 : decode cX0_isAsTold 1 = .ok (.ifCond .lt 76, 3) := by decide +kernel
theorem dX0_isAsTold_4 : decode cX0_isAsTold 4 = .ok (.iload_n 0, 1) := by decide +kernel
theorem dX0_isAsTold_5 : decode cX0_isAsTold 5 = .ok (.bipush 17, 2) := by decide +kernel
theorem dX0_isAsTold_7 : decode cX0_isAsTold 7 = .ok (.if_icmp .gt 70, 3) := by decide +kernel
theorem dX0_isAsTold_10 : decode cX0_isAsTold 10 = .ok (.getstatic 36, 3) := by decide +kernel
theorem dX0_isAsTold_13 : decode cX0_isAsTold 13 = .ok (.iconst 4, 1) := by decide +kernel
theorem dX0_isAsTold_14 : decode cX0_isAsTold 14 = .ok (.iload_n 0, 1) := by decide +kernel
theorem dX0_isAsTold_15 : decode cX0_isAsTold 15 = .ok (.imul, 1) := by decide +kernel
theorem dX0_isAsTold_16 : decode cX0_isAsTold 16 = .ok (.iaload, 1) := by decide +kernel
theorem dX0_isAsTold_17 : decode cX0_isAsTold 17 = .ok (.iload_n 1, 1) := by decide +kernel
theorem dX0_isAsTold_18 : decode cX0_isAsTold 18 = .ok (.invokestatic 40, 3) := by decide +kernel
theorem dX0_isAsTold_21 : decode cX0_isAsTold 21 = .ok (.ifCond .eq 56, 3) := by decide +kernel
theorem dX0_isAsTold_24 : decode cX0_isAsTold 24 = .ok (.getstatic 36, 3) := by decide +kernel
theorem dX0_isAsTold_27 : decode cX0_isAsTold 27 = .ok (.iconst 4, 1) := by decide +kernel
theorem dX0_isAsTold_28 : decode cX0_isAsTold 28 = .ok (.iload_n 0, 1) := by decide +kernel
theorem dX0_isAsTold_29 : decode cX0_isAsTold 29 = .ok (.imul, 1) := by decide +kernel
theorem dX0_isAsTold_30 : decode cX0_isAsTold 30 = .ok (.iconst 1, 1) := by decide +kernel
theorem dX0_isAsTold_31 : decode cX0_isAsTold 31 = .ok (.iadd, 1) := by decide +kernel
theorem dX0_isAsTold_32 : decode cX0_isAsTold 32 = .ok (.iaload, 1) := by decide +kernel
theorem dX0_isAsTold_33 : decode cX0_isAsTold 33 = .ok (.iload_n 2, 1) := by decide +kernel
theorem dX0_isAsTold_34 : decode cX0_isAsTold 34 = .ok (.invokestatic 40, 3) := by decide +kernel
theorem dX0_isAsTold_37 : decode cX0_isAsTold 37 = .ok (.ifCond .eq 40, 3) := by decide +kernel
theorem dX0_isAsTold_40 : decode cX0_isAsTold 40 = .ok (.getstatic 36, 3) := by decide +kernel
theorem dX0_isAsTold_43 : decode cX0_isAsTold 43 = .ok (.iconst 4, 1) := by decide +kernel
theorem dX0_isAsTold_44 : decode cX0_isAsTold 44 = .ok (.iload_n 0, 1) := by decide +kernel
theorem dX0_isAsTold_45 : decode cX0_isAsTold 45 = .ok (.imul, 1) := by decide +kernel
theorem dX0_isAsTold_46 : decode cX0_isAsTold 46 = .ok (.iconst 2, 1) := by decide +kernel
theorem dX0_isAsTold_47 : decode cX0_isAsTold 47 = .ok (.iadd, 1) := by decide +kernel
theorem dX0_isAsTold_48 : decode cX0_isAsTold 48 = .ok (.iaload, 1) := by decide +kernel
theorem dX0_isAsTold_49 : decode cX0_isAsTold 49 = .ok (.iload_n 3, 1) := by decide +kernel
theorem dX0_isAsTold_50 : decode cX0_isAsTold 50 = .ok (.invokestatic 40, 3) := by decide +kernel
theorem dX0_isAsTold_53 : decode cX0_isAsTold 53 = .ok (.ifCond .eq 24, 3) := by decide +kernel
theorem dX0_isAsTold_56 : decode cX0_isAsTold 56 = .ok (.getstatic 36, 3) := by decide +kernel
theorem dX0_isAsTold_59 : decode cX0_isAsTold 59 = .ok (.iconst 4, 1) := by decide +kernel
theorem dX0_isAsTold_60 : decode cX0_isAsTold 60 = .ok (.iload_n 0, 1) := by decide +kernel
theorem dX0_isAsTold_61 : decode cX0_isAsTold 61 = .ok (.imul, 1) := by decide +kernel
theorem dX0_isAsTold_62 : decode cX0_isAsTold 62 = .ok (.iconst 3, 1) := by decide +kernel
theorem dX0_isAsTold_63 : decode cX0_isAsTold 63 = .ok (.iadd, 1) := by decide +kernel
theorem dX0_isAsTold_64 : decode cX0_isAsTold 64 = .ok (.iaload, 1) := by decide +kernel
theorem dX0_isAsTold_65 : decode cX0_isAsTold 65 = .ok (.iload 4, 2) := by decide +kernel
theorem dX0_isAsTold_67 : decode cX0_isAsTold 67 = .ok (.invokestatic 40, 3) := by decide +kernel
theorem dX0_isAsTold_70 : decode cX0_isAsTold 70 = .ok (.ifCond .eq 7, 3) := by decide +kernel
theorem dX0_isAsTold_73 : decode cX0_isAsTold 73 = .ok (.iconst 1, 1) := by decide +kernel
theorem dX0_isAsTold_74 : decode cX0_isAsTold 74 = .ok (.goto 4, 3) := by decide +kernel
theorem dX0_isAsTold_77 : decode cX0_isAsTold 77 = .ok (.iconst 0, 1) := by decide +kernel
theorem dX0_isAsTold_78 : decode cX0_isAsTold 78 = .ok (.ireturn, 1) := by decide +kernel
theorem dX0_fits_0 : decode cX0_fits 0 = .ok (.iload_n 0, 1) := by decide +kernel
theorem dX0_fits_1 : decode cX0_fits 1 = .ok (.iconst (-1), 1) := by decide +kernel
theorem dX0_fits_2 : decode cX0_fits 2 = .ok (.if_icmp .eq 21, 3) := by decide +kernel
theorem dX0_fits_5 : decode cX0_fits 5 = .ok (.iload_n 1, 1) := by decide +kernel
theorem dX0_fits_6 : decode cX0_fits 6 = .ok (.ifCond .lt 21, 3) := by decide +kernel
theorem dX0_fits_9 : decode cX0_fits 9 = .ok (.iload_n 1, 1) := by decide +kernel
theorem dX0_fits_10 : decode cX0_fits 10 = .ok (.bipush 12, 2) := by decide +kernel
theorem dX0_fits_12 : decode cX0_fits 12 = .ok (.if_icmp .ge 15, 3) := by decide +kernel
theorem dX0_fits_15 : decode cX0_fits 15 = .ok (.iload_n 0, 1) := by decide +kernel
theorem dX0_fits_16 : decode cX0_fits 16 = .ok (.iload_n 1, 1) := by decide +kernel
theorem dX0_fits_17 : decode cX0_fits 17 = .ok (.ishr, 1) := by decide +kernel
theorem dX0_fits_18 : decode cX0_fits 18 = .ok (.iconst 1, 1) := by decide +kernel
theorem dX0_fits_19 : decode cX0_fits 19 = .ok (.iand, 1) := by decide +kernel
theorem dX0_fits_20 : decode cX0_fits 20 = .ok (.ifCond .eq 7, 3) := by decide +kernel
theorem dX0_fits_23 : decode cX0_fits 23 = .ok (.iconst 1, 1) := by decide +kernel
theorem dX0_fits_24 : decode cX0_fits 24 = .ok (.goto 4, 3) := by decide +kernel
theorem dX0_fits_27 : decode cX0_fits 27 = .ok (.iconst 0, 1) := by decide +kernel
theorem dX0_fits_28 : decode cX0_fits 28 = .ok (.ireturn, 1) := by decide +kernel
theorem dX0_done_0 : decode cX0_done 0 = .ok (.aload_n 1, 1) := by decide +kernel
theorem dX0_done_1 : decode cX0_done 1 = .ok (.dup, 1) := by decide +kernel
theorem dX0_done_2 : decode cX0_done 2 = .ok (.getfield 44, 3) := by decide +kernel
theorem dX0_done_5 : decode cX0_done 5 = .ok (.iconst 1, 1) := by decide +kernel
theorem dX0_done_6 : decode cX0_done 6 = .ok (.iadd, 1) := by decide +kernel
theorem dX0_done_7 : decode cX0_done 7 = .ok (.putfield 44, 3) := by decide +kernel
theorem dX0_done_10 : decode cX0_done 10 = .ok (.aload_n 1, 1) := by decide +kernel
theorem dX0_done_11 : decode cX0_done 11 = .ok (.aload_n 0, 1) := by decide +kernel
theorem dX0_done_12 : decode cX0_done 12 = .ok (.getfield 20, 3) := by decide +kernel
theorem dX0_done_15 : decode cX0_done 15 = .ok (.aload_n 0, 1) := by decide +kernel
theorem dX0_done_16 : decode cX0_done 16 = .ok (.getfield 24, 3) := by decide +kernel
theorem dX0_done_19 : decode cX0_done 19 = .ok (.aload_n 0, 1) := by decide +kernel
theorem dX0_done_20 : decode cX0_done 20 = .ok (.getfield 27, 3) := by decide +kernel
theorem dX0_done_23 : decode cX0_done 23 = .ok (.aload_n 0, 1) := by decide +kernel
theorem dX0_done_24 : decode cX0_done 24 = .ok (.getfield 30, 3) := by decide +kernel
theorem dX0_done_27 : decode cX0_done 27 = .ok (.aload_n 0, 1) := by decide +kernel
theorem dX0_done_28 : decode cX0_done 28 = .ok (.getfield 33, 3) := by decide +kernel
theorem dX0_done_31 : decode cX0_done 31 = .ok (.invokevirtual 49, 3) := by decide +kernel
theorem dX0_done_34 : decode cX0_done 34 = .ok (.istore_n 2, 1) := by decide +kernel
theorem dX0_done_35 : decode cX0_done 35 = .ok (.iload_n 2, 1) := by decide +kernel
theorem dX0_done_36 : decode cX0_done 36 = .ok (.ifCond .eq 21, 3) := by decide +kernel
theorem dX0_done_39 : decode cX0_done 39 = .ok (.aload_n 1, 1) := by decide +kernel
theorem dX0_done_40 : decode cX0_done 40 = .ok (.dup, 1) := by decide +kernel
theorem dX0_done_41 : decode cX0_done 41 = .ok (.getfield 53, 3) := by decide +kernel
theorem dX0_done_44 : decode cX0_done 44 = .ok (.iconst 1, 1) := by decide +kernel
theorem dX0_done_45 : decode cX0_done 45 = .ok (.iadd, 1) := by decide +kernel
theorem dX0_done_46 : decode cX0_done 46 = .ok (.putfield 53, 3) := by decide +kernel
theorem dX0_done_49 : decode cX0_done 49 = .ok (.aload_n 1, 1) := by decide +kernel
theorem dX0_done_50 : decode cX0_done 50 = .ok (.aload_n 0, 1) := by decide +kernel
theorem dX0_done_51 : decode cX0_done 51 = .ok (.getfield 56, 3) := by decide +kernel
theorem dX0_done_54 : decode cX0_done 54 = .ok (.putfield 59, 3) := by decide +kernel
theorem dX0_done_57 : decode cX0_done 57 = .ok (.iload_n 2, 1) := by decide +kernel
theorem dX0_done_58 : decode cX0_done 58 = .ok (.ireturn, 1) := by decide +kernel
theorem dX0_findWays_0 : decode cX0_findWays 0 = .ok (.aload_n 0, 1) := by decide +kernel
theorem dX0_findWays_1 : decode cX0_findWays 1 = .ok (.getfield 14, 3) := by decide +kernel
theorem dX0_findWays_4 : decode cX0_findWays 4 = .ok (.aload_n 1, 1) := by decide +kernel
theorem dX0_findWays_5 : decode cX0_findWays 5 = .ok (.invokevirtual 62, 3) := by decide +kernel
theorem dX0_findWays_8 : decode cX0_findWays 8 = .ok (.aload_n 0, 1) := by decide +kernel
theorem dX0_findWays_9 : decode cX0_findWays 9 = .ok (.getfield 20, 3) := by decide +kernel
theorem dX0_findWays_12 : decode cX0_findWays 12 = .ok (.tableswitch 336 0 17 #[88, 114, 144, 167, 192, 199, 219, 239, 246, 253, 268, 289, 302, 336, 336, 309, 318, 327], 88) := by decide +kernel
theorem dX0_findWays_100 : decode cX0_findWays 100 = .ok (.aload_n 0, 1) := by decide +kernel
theorem dX0_findWays_101 : decode cX0_findWays 101 = .ok (.aload_n 0, 1) := by decide +kernel
theorem dX0_findWays_102 : decode cX0_findWays 102 = .ok (.getfield 30, 3) := by decide +kernel
theorem dX0_findWays_105 : decode cX0_findWays 105 = .ok (.ifCond .ge 7, 3) := by decide +kernel
theorem dX0_findWays_108 : decode cX0_findWays 108 = .ok (.iconst 1, 1) := by decide +kernel
theorem dX0_findWays_109 : decode cX0_findWays 109 = .ok (.goto 4, 3) := by decide +kernel
theorem dX0_findWays_112 : decode cX0_findWays 112 = .ok (.iconst 0, 1) := by decide +kernel
theorem dX0_findWays_113 : decode cX0_findWays 113 = .ok (.aload_n 0, 1) := by decide +kernel
theorem dX0_findWays_114 : decode cX0_findWays 114 = .ok (.getfield 27, 3) := by decide +kernel
theorem dX0_findWays_117 : decode cX0_findWays 117 = .ok (.invokestatic 66, 3) := by decide +kernel
theorem dX0_findWays_120 : decode cX0_findWays 120 = .ok (.invokevirtual 72, 3) := by decide +kernel
theorem dX0_findWays_123 : decode cX0_findWays 123 = .ok (.goto 225, 3) := by decide +kernel
theorem dX0_findWays_126 : decode cX0_findWays 126 = .ok (.aload_n 0, 1) := by decide +kernel
theorem dX0_findWays_127 : decode cX0_findWays 127 = .ok (.aload_n 0, 1) := by decide +kernel
theorem dX0_findWays_128 : decode cX0_findWays 128 = .ok (.getfield 27, 3) := by decide +kernel
theorem dX0_findWays_131 : decode cX0_findWays 131 = .ok (.ifCond .lt 10, 3) := by decide +kernel
theorem dX0_findWays_134 : decode cX0_findWays 134 = .ok (.aload_n 0, 1) := by decide +kernel
theorem dX0_findWays_135 : decode cX0_findWays 135 = .ok (.getfield 30, 3) := by decide +kernel
theorem dX0_findWays_138 : decode cX0_findWays 138 = .ok (.ifCond .ge 7, 3) := by decide +kernel
theorem dX0_findWays_141 : decode cX0_findWays 141 = .ok (.iconst 1, 1) := by decide +kernel
theorem dX0_findWays_142 : decode cX0_findWays 142 = .ok (.goto 4, 3) := by decide +kernel
theorem dX0_findWays_145 : decode cX0_findWays 145 = .ok (.iconst 0, 1) := by decide +kernel
theorem dX0_findWays_146 : decode cX0_findWays 146 = .ok (.iconst 5, 1) := by decide +kernel
theorem dX0_findWays_147 : decode cX0_findWays 147 = .ok (.invokestatic 66, 3) := by decide +kernel
theorem dX0_findWays_150 : decode cX0_findWays 150 = .ok (.invokevirtual 72, 3) := by decide +kernel
theorem dX0_findWays_153 : decode cX0_findWays 153 = .ok (.goto 195, 3) := by decide +kernel
theorem dX0_findWays_156 : decode cX0_findWays 156 = .ok (.aload_n 0, 1) := by decide +kernel
theorem dX0_findWays_157 : decode cX0_findWays 157 = .ok (.aload_n 0, 1) := by decide +kernel
theorem dX0_findWays_158 : decode cX0_findWays 158 = .ok (.getfield 27, 3) := by decide +kernel
theorem dX0_findWays_161 : decode cX0_findWays 161 = .ok (.ifCond .ge 7, 3) := by decide +kernel
theorem dX0_findWays_164 : decode cX0_findWays 164 = .ok (.iconst 1, 1) := by decide +kernel
theorem dX0_findWays_165 : decode cX0_findWays 165 = .ok (.goto 4, 3) := by decide +kernel
theorem dX0_findWays_168 : decode cX0_findWays 168 = .ok (.iconst 0, 1) := by decide +kernel
theorem dX0_findWays_169 : decode cX0_findWays 169 = .ok (.iconst 5, 1) := by decide +kernel
theorem dX0_findWays_170 : decode cX0_findWays 170 = .ok (.invokestatic 66, 3) := by decide +kernel
theorem dX0_findWays_173 : decode cX0_findWays 173 = .ok (.invokevirtual 72, 3) := by decide +kernel
theorem dX0_findWays_176 : decode cX0_findWays 176 = .ok (.goto 172, 3) := by decide +kernel
theorem dX0_findWays_179 : decode cX0_findWays 179 = .ok (.aload_n 0, 1) := by decide +kernel
theorem dX0_findWays_180 : decode cX0_findWays 180 = .ok (.iconst 0, 1) := by decide +kernel
theorem dX0_findWays_181 : decode cX0_findWays 181 = .ok (.aload_n 0, 1) := by decide +kernel
theorem dX0_findWays_182 : decode cX0_findWays 182 = .ok (.getfield 27, 3) := by decide +kernel
theorem dX0_findWays_185 : decode cX0_findWays 185 = .ok (.ifCond .ne 8, 3) := by decide +kernel
theorem dX0_findWays_188 : decode cX0_findWays 188 = .ok (.bipush 8, 2) := by decide +kernel
theorem dX0_findWays_190 : decode cX0_findWays 190 = .ok (.goto 5, 3) := by decide +kernel
theorem dX0_findWays_193 : decode cX0_findWays 193 = .ok (.bipush 9, 2) := by decide +kernel
theorem dX0_findWays_195 : decode cX0_findWays 195 = .ok (.invokestatic 66, 3) := by decide +kernel
theorem dX0_findWays_198 : decode cX0_findWays 198 = .ok (.invokevirtual 72, 3) := by decide +kernel
theorem dX0_findWays_201 : decode cX0_findWays 201 = .ok (.goto 147, 3) := by decide +kernel
theorem dX0_findWays_204 : decode cX0_findWays 204 = .ok (.aload_n 0, 1) := by decide +kernel
theorem dX0_findWays_205 : decode cX0_findWays 205 = .ok (.invokevirtual 76, 3) := by decide +kernel
theorem dX0_findWays_208 : decode cX0_findWays 208 = .ok (.goto 140, 3) := by decide +kernel
theorem dX0_findWays_211 : decode cX0_findWays 211 = .ok (.aload_n 0, 1) := by decide +kernel
theorem dX0_findWays_212 : decode cX0_findWays 212 = .ok (.aload_n 0, 1) := by decide +kernel
theorem dX0_findWays_213 : decode cX0_findWays 213 = .ok (.getfield 27, 3) := by decide +kernel
theorem dX0_findWays_216 : decode cX0_findWays 216 = .ok (.aload_n 0, 1) := by decide +kernel
theorem dX0_findWays_217 : decode cX0_findWays 217 = .ok (.getfield 30, 3) := by decide +kernel
theorem dX0_findWays_220 : decode cX0_findWays 220 = .ok (.invokevirtual 79, 3) := by decide +kernel
theorem dX0_findWays_223 : decode cX0_findWays 223 = .ok (.aload_n 0, 1) := by decide +kernel
theorem dX0_findWays_224 : decode cX0_findWays 224 = .ok (.iconst 3, 1) := by decide +kernel
theorem dX0_findWays_225 : decode cX0_findWays 225 = .ok (.invokevirtual 82, 3) := by decide +kernel
theorem dX0_findWays_228 : decode cX0_findWays 228 = .ok (.goto 120, 3) := by decide +kernel
theorem dX0_findWays_231 : decode cX0_findWays 231 = .ok (.aload_n 0, 1) := by decide +kernel
theorem dX0_findWays_232 : decode cX0_findWays 232 = .ok (.aload_n 0, 1) := by decide +kernel
theorem dX0_findWays_233 : decode cX0_findWays 233 = .ok (.getfield 24, 3) := by decide +kernel
theorem dX0_findWays_236 : decode cX0_findWays 236 = .ok (.aload_n 0, 1) := by decide +kernel
theorem dX0_findWays_237 : decode cX0_findWays 237 = .ok (.getfield 27, 3) := by decide +kernel
theorem dX0_findWays_240 : decode cX0_findWays 240 = .ok (.invokevirtual 79, 3) := by decide +kernel
theorem dX0_findWays_243 : decode cX0_findWays 243 = .ok (.aload_n 0, 1) := by decide +kernel
theorem dX0_findWays_244 : decode cX0_findWays 244 = .ok (.iconst 3, 1) := by decide +kernel
theorem dX0_findWays_245 : decode cX0_findWays 245 = .ok (.invokevirtual 82, 3) := by decide +kernel
theorem dX0_findWays_248 : decode cX0_findWays 248 = .ok (.goto 100, 3) := by decide +kernel
theorem dX0_findWays_251 : decode cX0_findWays 251 = .ok (.aload_n 0, 1) := by decide +kernel
theorem dX0_findWays_252 : decode cX0_findWays 252 = .ok (.invokevirtual 86, 3) := by decide +kernel
theorem dX0_findWays_255 : decode cX0_findWays 255 = .ok (.goto 93, 3) := by decide +kernel
theorem dX0_findWays_258 : decode cX0_findWays 258 = .ok (.aload_n 0, 1) := by decide +kernel
theorem dX0_findWays_259 : decode cX0_findWays 259 = .ok (.invokevirtual 89, 3) := by decide +kernel
theorem dX0_findWays_262 : decode cX0_findWays 262 = .ok (.goto 86, 3) := by decide +kernel
theorem dX0_findWays_265 : decode cX0_findWays 265 = .ok (.aload_n 0, 1) := by decide +kernel
theorem dX0_findWays_266 : decode cX0_findWays 266 = .ok (.aload_n 0, 1) := by decide +kernel
theorem dX0_findWays_267 : decode cX0_findWays 267 = .ok (.getfield 27, 3) := by decide +kernel
theorem dX0_findWays_270 : decode cX0_findWays 270 = .ok (.aload_n 0, 1) := by decide +kernel
theorem dX0_findWays_271 : decode cX0_findWays 271 = .ok (.getfield 30, 3) := by decide +kernel
theorem dX0_findWays_274 : decode cX0_findWays 274 = .ok (.invokevirtual 79, 3) := by decide +kernel
theorem dX0_findWays_277 : decode cX0_findWays 277 = .ok (.goto 71, 3) := by decide +kernel
theorem dX0_findWays_280 : decode cX0_findWays 280 = .ok (.aload_n 0, 1) := by decide +kernel
theorem dX0_findWays_281 : decode cX0_findWays 281 = .ok (.aload_n 0, 1) := by decide +kernel
theorem dX0_findWays_282 : decode cX0_findWays 282 = .ok (.getfield 27, 3) := by decide +kernel
theorem dX0_findWays_285 : decode cX0_findWays 285 = .ok (.iconst 1, 1) := by decide +kernel
theorem dX0_findWays_286 : decode cX0_findWays 286 = .ok (.invokevirtual 79, 3) := by decide +kernel
theorem dX0_findWays_289 : decode cX0_findWays 289 = .ok (.aload_n 0, 1) := by decide +kernel
theorem dX0_findWays_290 : decode cX0_findWays 290 = .ok (.iconst 0, 1) := by decide +kernel
theorem dX0_findWays_291 : decode cX0_findWays 291 = .ok (.iconst 1, 1) := by decide +kernel
theorem dX0_findWays_292 : decode cX0_findWays 292 = .ok (.invokestatic 66, 3) := by decide +kernel
theorem dX0_findWays_295 : decode cX0_findWays 295 = .ok (.invokevirtual 72, 3) := by decide +kernel
theorem dX0_findWays_298 : decode cX0_findWays 298 = .ok (.goto 50, 3) := by decide +kernel
theorem dX0_findWays_301 : decode cX0_findWays 301 = .ok (.aload_n 0, 1) := by decide +kernel
theorem dX0_findWays_302 : decode cX0_findWays 302 = .ok (.aload_n 0, 1) := by decide +kernel
theorem dX0_findWays_303 : decode cX0_findWays 303 = .ok (.getfield 27, 3) := by decide +kernel
theorem dX0_findWays_306 : decode cX0_findWays 306 = .ok (.bipush 8, 2) := by decide +kernel
theorem dX0_findWays_308 : decode cX0_findWays 308 = .ok (.invokevirtual 79, 3) := by decide +kernel
theorem dX0_findWays_311 : decode cX0_findWays 311 = .ok (.goto 37, 3) := by decide +kernel
theorem dX0_findWays_314 : decode cX0_findWays 314 = .ok (.aload_n 0, 1) := by decide +kernel
theorem dX0_findWays_315 : decode cX0_findWays 315 = .ok (.invokevirtual 92, 3) := by decide +kernel
theorem dX0_findWays_318 : decode cX0_findWays 318 = .ok (.goto 30, 3) := by decide +kernel
theorem dX0_findWays_321 : decode cX0_findWays 321 = .ok (.aload_n 0, 1) := by decide +kernel
theorem dX0_findWays_322 : decode cX0_findWays 322 = .ok (.bipush 6, 2) := by decide +kernel
theorem dX0_findWays_324 : decode cX0_findWays 324 = .ok (.invokevirtual 82, 3) := by decide +kernel
theorem dX0_findWays_327 : decode cX0_findWays 327 = .ok (.goto 21, 3) := by decide +kernel
theorem dX0_findWays_330 : decode cX0_findWays 330 = .ok (.aload_n 0, 1) := by decide +kernel
theorem dX0_findWays_331 : decode cX0_findWays 331 = .ok (.bipush 6, 2) := by decide +kernel
theorem dX0_findWays_333 : decode cX0_findWays 333 = .ok (.invokevirtual 82, 3) := by decide +kernel
theorem dX0_findWays_336 : decode cX0_findWays 336 = .ok (.goto 12, 3) := by decide +kernel
theorem dX0_findWays_339 : decode cX0_findWays 339 = .ok (.aload_n 0, 1) := by decide +kernel
theorem dX0_findWays_340 : decode cX0_findWays 340 = .ok (.bipush 7, 2) := by decide +kernel
theorem dX0_findWays_342 : decode cX0_findWays 342 = .ok (.invokevirtual 95, 3) := by decide +kernel
theorem dX0_findWays_345 : decode cX0_findWays 345 = .ok (.goto 3, 3) := by decide +kernel
theorem dX0_findWays_348 : decode cX0_findWays 348 = .ok (.aload_n 0, 1) := by decide +kernel
theorem dX0_findWays_349 : decode cX0_findWays 349 = .ok (.getfield 98, 3) := by decide +kernel
theorem dX0_findWays_352 : decode cX0_findWays 352 = .ok (.iconst 0, 1) := by decide +kernel
theorem dX0_findWays_353 : decode cX0_findWays 353 = .ok (.invokevirtual 104, 3) := by decide +kernel
theorem dX0_findWays_356 : decode cX0_findWays 356 = .ok (.aload_n 0, 1) := by decide +kernel
theorem dX0_findWays_357 : decode cX0_findWays 357 = .ok (.getfield 14, 3) := by decide +kernel
theorem dX0_findWays_360 : decode cX0_findWays 360 = .ok (.invokevirtual 108, 3) := by decide +kernel
theorem dX0_findWays_363 : decode cX0_findWays 363 = .ok (.return_, 1) := by decide +kernel
theorem dX0_mayFail_0 : decode cX0_mayFail 0 = .ok (.aload_n 0, 1) := by decide +kernel
theorem dX0_mayFail_1 : decode cX0_mayFail 1 = .ok (.getfield 98, 3) := by decide +kernel
theorem dX0_mayFail_4 : decode cX0_mayFail 4 = .ok (.iload_n 1, 1) := by decide +kernel
theorem dX0_mayFail_5 : decode cX0_mayFail 5 = .ok (.invokevirtual 104, 3) := by decide +kernel
theorem dX0_mayFail_8 : decode cX0_mayFail 8 = .ok (.aload_n 0, 1) := by decide +kernel
theorem dX0_mayFail_9 : decode cX0_mayFail 9 = .ok (.getfield 14, 3) := by decide +kernel
theorem dX0_mayFail_12 : decode cX0_mayFail 12 = .ok (.invokevirtual 108, 3) := by decide +kernel
theorem dX0_mayFail_15 : decode cX0_mayFail 15 = .ok (.return_, 1) := by decide +kernel
theorem dX0_mustFail_0 : decode cX0_mustFail 0 = .ok (.aload_n 0, 1) := by decide +kernel
theorem dX0_mustFail_1 : decode cX0_mustFail 1 = .ok (.iload_n 1, 1) := by decide +kernel
theorem dX0_mustFail_2 : decode cX0_mustFail 2 = .ok (.invokevirtual 82, 3) := by decide +kernel
theorem dX0_mustFail_5 : decode cX0_mustFail 5 = .ok (.aload_n 0, 1) := by decide +kernel
theorem dX0_mustFail_6 : decode cX0_mustFail 6 = .ok (.getfield 14, 3) := by decide +kernel
theorem dX0_mustFail_9 : decode cX0_mustFail 9 = .ok (.invokevirtual 111, 3) := by decide +kernel
theorem dX0_mustFail_12 : decode cX0_mustFail 12 = .ok (.return_, 1) := by decide +kernel
theorem dX0_failFor_0 : decode cX0_failFor 0 = .ok (.aload_n 0, 1) := by decide +kernel
theorem dX0_failFor_1 : decode cX0_failFor 1 = .ok (.getfield 14, 3) := by decide +kernel
theorem dX0_failFor_4 : decode cX0_failFor 4 = .ok (.iload_n 2, 1) := by decide +kernel
theorem dX0_failFor_5 : decode cX0_failFor 5 = .ok (.invokevirtual 114, 3) := by decide +kernel
theorem dX0_failFor_8 : decode cX0_failFor 8 = .ok (.iload_n 3, 1) := by decide +kernel
theorem dX0_failFor_9 : decode cX0_failFor 9 = .ok (.iand, 1) := by decide +kernel
theorem dX0_failFor_10 : decode cX0_failFor 10 = .ok (.istore 4, 2) := by decide +kernel
theorem dX0_failFor_12 : decode cX0_failFor 12 = .ok (.iload 4, 2) := by decide +kernel
theorem dX0_failFor_14 : decode cX0_failFor 14 = .ok (.ifCond .eq 33, 3) := by decide +kernel
theorem dX0_failFor_17 : decode cX0_failFor 17 = .ok (.aload_n 0, 1) := by decide +kernel
theorem dX0_failFor_18 : decode cX0_failFor 18 = .ok (.getfield 98, 3) := by decide +kernel
theorem dX0_failFor_21 : decode cX0_failFor 21 = .ok (.iload_n 1, 1) := by decide +kernel
theorem dX0_failFor_22 : decode cX0_failFor 22 = .ok (.invokevirtual 104, 3) := by decide +kernel
theorem dX0_failFor_25 : decode cX0_failFor 25 = .ok (.aload_n 0, 1) := by decide +kernel
theorem dX0_failFor_26 : decode cX0_failFor 26 = .ok (.getfield 14, 3) := by decide +kernel
theorem dX0_failFor_29 : decode cX0_failFor 29 = .ok (.iload_n 2, 1) := by decide +kernel
theorem dX0_failFor_30 : decode cX0_failFor 30 = .ok (.iload 4, 2) := by decide +kernel
theorem dX0_failFor_32 : decode cX0_failFor 32 = .ok (.invokevirtual 117, 3) := by decide +kernel
theorem dX0_failFor_35 : decode cX0_failFor 35 = .ok (.aload_n 0, 1) := by decide +kernel
theorem dX0_failFor_36 : decode cX0_failFor 36 = .ok (.getfield 14, 3) := by decide +kernel
theorem dX0_failFor_39 : decode cX0_failFor 39 = .ok (.iload_n 2, 1) := by decide +kernel
theorem dX0_failFor_40 : decode cX0_failFor 40 = .ok (.iload 4, 2) := by decide +kernel
theorem dX0_failFor_42 : decode cX0_failFor 42 = .ok (.iconst (-1), 1) := by decide +kernel
theorem dX0_failFor_43 : decode cX0_failFor 43 = .ok (.ixor, 1) := by decide +kernel
theorem dX0_failFor_44 : decode cX0_failFor 44 = .ok (.invokevirtual 121, 3) := by decide +kernel
theorem dX0_failFor_47 : decode cX0_failFor 47 = .ok (.return_, 1) := by decide +kernel
theorem dX0_makeAnew_0 : decode cX0_makeAnew 0 = .ok (.aload_n 0, 1) := by decide +kernel
theorem dX0_makeAnew_1 : decode cX0_makeAnew 1 = .ok (.getfield 14, 3) := by decide +kernel
theorem dX0_makeAnew_4 : decode cX0_makeAnew 4 = .ok (.invokevirtual 124, 3) := by decide +kernel
theorem dX0_makeAnew_7 : decode cX0_makeAnew 7 = .ok (.ifCond .eq 15, 3) := by decide +kernel
theorem dX0_makeAnew_10 : decode cX0_makeAnew 10 = .ok (.aload_n 0, 1) := by decide +kernel
theorem dX0_makeAnew_11 : decode cX0_makeAnew 11 = .ok (.getfield 14, 3) := by decide +kernel
theorem dX0_makeAnew_14 : decode cX0_makeAnew 14 = .ok (.aload_n 0, 1) := by decide +kernel
theorem dX0_makeAnew_15 : decode cX0_makeAnew 15 = .ok (.getfield 24, 3) := by decide +kernel
theorem dX0_makeAnew_18 : decode cX0_makeAnew 18 = .ok (.iload_n 1, 1) := by decide +kernel
theorem dX0_makeAnew_19 : decode cX0_makeAnew 19 = .ok (.invokevirtual 128, 3) := by decide +kernel
theorem dX0_makeAnew_22 : decode cX0_makeAnew 22 = .ok (.return_, 1) := by decide +kernel
theorem dX0_askAs_0 : decode cX0_askAs 0 = .ok (.aload_n 0, 1) := by decide +kernel
theorem dX0_askAs_1 : decode cX0_askAs 1 = .ok (.iconst 2, 1) := by decide +kernel
theorem dX0_askAs_2 : decode cX0_askAs 2 = .ok (.iload_n 1, 1) := by decide +kernel
theorem dX0_askAs_3 : decode cX0_askAs 3 = .ok (.iload_n 2, 1) := by decide +kernel
theorem dX0_askAs_4 : decode cX0_askAs 4 = .ok (.invokestatic 131, 3) := by decide +kernel
theorem dX0_askAs_7 : decode cX0_askAs 7 = .ok (.iconst 1, 1) := by decide +kernel
theorem dX0_askAs_8 : decode cX0_askAs 8 = .ok (.ior, 1) := by decide +kernel
theorem dX0_askAs_9 : decode cX0_askAs 9 = .ok (.iconst (-1), 1) := by decide +kernel
theorem dX0_askAs_10 : decode cX0_askAs 10 = .ok (.ixor, 1) := by decide +kernel
theorem dX0_askAs_11 : decode cX0_askAs 11 = .ok (.invokevirtual 134, 3) := by decide +kernel
theorem dX0_askAs_14 : decode cX0_askAs 14 = .ok (.return_, 1) := by decide +kernel
theorem dX0_askSomething_0 : decode cX0_askSomething 0 = .ok (.aload_n 0, 1) := by decide +kernel
theorem dX0_askSomething_1 : decode cX0_askSomething 1 = .ok (.iconst 2, 1) := by decide +kernel
theorem dX0_askSomething_2 : decode cX0_askSomething 2 = .ok (.iload_n 1, 1) := by decide +kernel
theorem dX0_askSomething_3 : decode cX0_askSomething 3 = .ok (.iload_n 2, 1) := by decide +kernel
theorem dX0_askSomething_4 : decode cX0_askSomething 4 = .ok (.invokestatic 131, 3) := by decide +kernel
theorem dX0_askSomething_7 : decode cX0_askSomething 7 = .ok (.iconst 1, 1) := by decide +kernel
theorem dX0_askSomething_8 : decode cX0_askSomething 8 = .ok (.ior, 1) := by decide +kernel
theorem dX0_askSomething_9 : decode cX0_askSomething 9 = .ok (.iconst (-1), 1) := by decide +kernel
theorem dX0_askSomething_10 : decode cX0_askSomething 10 = .ok (.ixor, 1) := by decide +kernel
theorem dX0_askSomething_11 : decode cX0_askSomething 11 = .ok (.invokevirtual 134, 3) := by decide +kernel
theorem dX0_askSomething_14 : decode cX0_askSomething 14 = .ok (.aload_n 0, 1) := by decide +kernel
theorem dX0_askSomething_15 : decode cX0_askSomething 15 = .ok (.iconst 1, 1) := by decide +kernel
theorem dX0_askSomething_16 : decode cX0_askSomething 16 = .ok (.iload_n 1, 1) := by decide +kernel
theorem dX0_askSomething_17 : decode cX0_askSomething 17 = .ok (.iconst 1, 1) := by decide +kernel
theorem dX0_askSomething_18 : decode cX0_askSomething 18 = .ok (.invokevirtual 134, 3) := by decide +kernel
theorem dX0_askSomething_21 : decode cX0_askSomething 21 = .ok (.return_, 1) := by decide +kernel
theorem dX0_askNew_0 : decode cX0_askNew 0 = .ok (.iload_n 1, 1) := by decide +kernel
theorem dX0_askNew_1 : decode cX0_askNew 1 = .ok (.ifCond .eq 8, 3) := by decide +kernel
theorem dX0_askNew_4 : decode cX0_askNew 4 = .ok (.aload_n 0, 1) := by decide +kernel
theorem dX0_askNew_5 : decode cX0_askNew 5 = .ok (.iconst 4, 1) := by decide +kernel
theorem dX0_askNew_6 : decode cX0_askNew 6 = .ok (.invokevirtual 95, 3) := by decide +kernel
theorem dX0_askNew_9 : decode cX0_askNew 9 = .ok (.aload_n 0, 1) := by decide +kernel
theorem dX0_askNew_10 : decode cX0_askNew 10 = .ok (.bipush 8, 2) := by decide +kernel
theorem dX0_askNew_12 : decode cX0_askNew 12 = .ok (.invokevirtual 82, 3) := by decide +kernel
theorem dX0_askNew_15 : decode cX0_askNew 15 = .ok (.aload_n 0, 1) := by decide +kernel
theorem dX0_askNew_16 : decode cX0_askNew 16 = .ok (.iload_n 2, 1) := by decide +kernel
theorem dX0_askNew_17 : decode cX0_askNew 17 = .ok (.invokevirtual 138, 3) := by decide +kernel
theorem dX0_askNew_20 : decode cX0_askNew 20 = .ok (.return_, 1) := by decide +kernel
theorem dX0_askMove_0 : decode cX0_askMove 0 = .ok (.aload_n 0, 1) := by decide +kernel
theorem dX0_askMove_1 : decode cX0_askMove 1 = .ok (.getfield 30, 3) := by decide +kernel
theorem dX0_askMove_4 : decode cX0_askMove 4 = .ok (.ifCond .eq 15, 3) := by decide +kernel
theorem dX0_askMove_7 : decode cX0_askMove 7 = .ok (.aload_n 0, 1) := by decide +kernel
theorem dX0_askMove_8 : decode cX0_askMove 8 = .ok (.aload_n 0, 1) := by decide +kernel
theorem dX0_askMove_9 : decode cX0_askMove 9 = .ok (.getfield 27, 3) := by decide +kernel
theorem dX0_askMove_12 : decode cX0_askMove 12 = .ok (.aload_n 0, 1) := by decide +kernel
theorem dX0_askMove_13 : decode cX0_askMove 13 = .ok (.getfield 30, 3) := by decide +kernel
theorem dX0_askMove_16 : decode cX0_askMove 16 = .ok (.invokevirtual 141, 3) := by decide +kernel
theorem dX0_askMove_19 : decode cX0_askMove 19 = .ok (.aload_n 0, 1) := by decide +kernel
theorem dX0_askMove_20 : decode cX0_askMove 20 = .ok (.aload_n 0, 1) := by decide +kernel
theorem dX0_askMove_21 : decode cX0_askMove 21 = .ok (.getfield 14, 3) := by decide +kernel
theorem dX0_askMove_24 : decode cX0_askMove 24 = .ok (.aload_n 0, 1) := by decide +kernel
theorem dX0_askMove_25 : decode cX0_askMove 25 = .ok (.getfield 27, 3) := by decide +kernel
theorem dX0_askMove_28 : decode cX0_askMove 28 = .ok (.invokevirtual 114, 3) := by decide +kernel
theorem dX0_askMove_31 : decode cX0_askMove 31 = .ok (.invokevirtual 138, 3) := by decide +kernel
theorem dX0_askMove_34 : decode cX0_askMove 34 = .ok (.return_, 1) := by decide +kernel
theorem dX0_askTake_0 : decode cX0_askTake 0 = .ok (.aload_n 0, 1) := by decide +kernel
theorem dX0_askTake_1 : decode cX0_askTake 1 = .ok (.aload_n 0, 1) := by decide +kernel
theorem dX0_askTake_2 : decode cX0_askTake 2 = .ok (.getfield 27, 3) := by decide +kernel
theorem dX0_askTake_5 : decode cX0_askTake 5 = .ok (.aload_n 0, 1) := by decide +kernel
theorem dX0_askTake_6 : decode cX0_askTake 6 = .ok (.getfield 30, 3) := by decide +kernel
theorem dX0_askTake_9 : decode cX0_askTake 9 = .ok (.invokevirtual 79, 3) := by decide +kernel
theorem dX0_askTake_12 : decode cX0_askTake 12 = .ok (.aload_n 0, 1) := by decide +kernel
theorem dX0_askTake_13 : decode cX0_askTake 13 = .ok (.iconst 3, 1) := by decide +kernel
theorem dX0_askTake_14 : decode cX0_askTake 14 = .ok (.invokevirtual 82, 3) := by decide +kernel
theorem dX0_askTake_17 : decode cX0_askTake 17 = .ok (.iconst 1, 1) := by decide +kernel
theorem dX0_askTake_18 : decode cX0_askTake 18 = .ok (.istore_n 1, 1) := by decide +kernel
theorem dX0_askTake_19 : decode cX0_askTake 19 = .ok (.aload_n 0, 1) := by decide +kernel
theorem dX0_askTake_20 : decode cX0_askTake 20 = .ok (.getfield 30, 3) := by decide +kernel
theorem dX0_askTake_23 : decode cX0_askTake 23 = .ok (.iconst 5, 1) := by decide +kernel
theorem dX0_askTake_24 : decode cX0_askTake 24 = .ok (.if_icmp .ne 13, 3) := by decide +kernel
theorem dX0_askTake_27 : decode cX0_askTake 27 = .ok (.iload_n 1, 1) := by decide +kernel
theorem dX0_askTake_28 : decode cX0_askTake 28 = .ok (.iconst 1, 1) := by decide +kernel
theorem dX0_askTake_29 : decode cX0_askTake 29 = .ok (.invokestatic 66, 3) := by decide +kernel
theorem dX0_askTake_32 : decode cX0_askTake 32 = .ok (.ior, 1) := by decide +kernel
theorem dX0_askTake_33 : decode cX0_askTake 33 = .ok (.istore_n 1, 1) := by decide +kernel
theorem dX0_askTake_34 : decode cX0_askTake 34 = .ok (.goto 35, 3) := by decide +kernel
theorem dX0_askTake_37 : decode cX0_askTake 37 = .ok (.iload_n 1, 1) := by decide +kernel
theorem dX0_askTake_38 : decode cX0_askTake 38 = .ok (.bipush 9, 2) := by decide +kernel
theorem dX0_askTake_40 : decode cX0_askTake 40 = .ok (.invokestatic 66, 3) := by decide +kernel
theorem dX0_askTake_43 : decode cX0_askTake 43 = .ok (.ior, 1) := by decide +kernel
theorem dX0_askTake_44 : decode cX0_askTake 44 = .ok (.istore_n 1, 1) := by decide +kernel
theorem dX0_askTake_45 : decode cX0_askTake 45 = .ok (.aload_n 0, 1) := by decide +kernel
theorem dX0_askTake_46 : decode cX0_askTake 46 = .ok (.getfield 14, 3) := by decide +kernel
theorem dX0_askTake_49 : decode cX0_askTake 49 = .ok (.aload_n 0, 1) := by decide +kernel
theorem dX0_askTake_50 : decode cX0_askTake 50 = .ok (.getfield 27, 3) := by decide +kernel
theorem dX0_askTake_53 : decode cX0_askTake 53 = .ok (.bipush 6, 2) := by decide +kernel
theorem dX0_askTake_55 : decode cX0_askTake 55 = .ok (.invokevirtual 144, 3) := by decide +kernel
theorem dX0_askTake_58 : decode cX0_askTake 58 = .ok (.ifCond .eq 11, 3) := by decide +kernel
theorem dX0_askTake_61 : decode cX0_askTake 61 = .ok (.iload_n 1, 1) := by decide +kernel
theorem dX0_askTake_62 : decode cX0_askTake 62 = .ok (.bipush 8, 2) := by decide +kernel
theorem dX0_askTake_64 : decode cX0_askTake 64 = .ok (.invokestatic 66, 3) := by decide +kernel
theorem dX0_askTake_67 : decode cX0_askTake 67 = .ok (.ior, 1) := by decide +kernel
theorem dX0_askTake_68 : decode cX0_askTake 68 = .ok (.istore_n 1, 1) := by decide +kernel
theorem dX0_askTake_69 : decode cX0_askTake 69 = .ok (.aload_n 0, 1) := by decide +kernel
theorem dX0_askTake_70 : decode cX0_askTake 70 = .ok (.iload_n 1, 1) := by decide +kernel
theorem dX0_askTake_71 : decode cX0_askTake 71 = .ok (.invokevirtual 138, 3) := by decide +kernel
theorem dX0_askTake_74 : decode cX0_askTake 74 = .ok (.return_, 1) := by decide +kernel
theorem dX0_askLay_0 : decode cX0_askLay 0 = .ok (.aload_n 0, 1) := by decide +kernel
theorem dX0_askLay_1 : decode cX0_askLay 1 = .ok (.aload_n 0, 1) := by decide +kernel
theorem dX0_askLay_2 : decode cX0_askLay 2 = .ok (.getfield 24, 3) := by decide +kernel
theorem dX0_askLay_5 : decode cX0_askLay 5 = .ok (.aload_n 0, 1) := by decide +kernel
theorem dX0_askLay_6 : decode cX0_askLay 6 = .ok (.getfield 27, 3) := by decide +kernel
theorem dX0_askLay_9 : decode cX0_askLay 9 = .ok (.invokevirtual 141, 3) := by decide +kernel
theorem dX0_askLay_12 : decode cX0_askLay 12 = .ok (.aload_n 0, 1) := by decide +kernel
theorem dX0_askLay_13 : decode cX0_askLay 13 = .ok (.aload_n 0, 1) := by decide +kernel
theorem dX0_askLay_14 : decode cX0_askLay 14 = .ok (.getfield 33, 3) := by decide +kernel
theorem dX0_askLay_17 : decode cX0_askLay 17 = .ok (.aload_n 0, 1) := by decide +kernel
theorem dX0_askLay_18 : decode cX0_askLay 18 = .ok (.getfield 27, 3) := by decide +kernel
theorem dX0_askLay_21 : decode cX0_askLay 21 = .ok (.invokestatic 147, 3) := by decide +kernel
theorem dX0_askLay_24 : decode cX0_askLay 24 = .ok (.invokevirtual 141, 3) := by decide +kernel
theorem dX0_askLay_27 : decode cX0_askLay 27 = .ok (.aload_n 0, 1) := by decide +kernel
theorem dX0_askLay_28 : decode cX0_askLay 28 = .ok (.iconst 1, 1) := by decide +kernel
theorem dX0_askLay_29 : decode cX0_askLay 29 = .ok (.aload_n 0, 1) := by decide +kernel
theorem dX0_askLay_30 : decode cX0_askLay 30 = .ok (.getfield 24, 3) := by decide +kernel
theorem dX0_askLay_33 : decode cX0_askLay 33 = .ok (.iconst 1, 1) := by decide +kernel
theorem dX0_askLay_34 : decode cX0_askLay 34 = .ok (.invokevirtual 134, 3) := by decide +kernel
theorem dX0_askLay_37 : decode cX0_askLay 37 = .ok (.aload_n 0, 1) := by decide +kernel
theorem dX0_askLay_38 : decode cX0_askLay 38 = .ok (.iconst 3, 1) := by decide +kernel
theorem dX0_askLay_39 : decode cX0_askLay 39 = .ok (.invokevirtual 82, 3) := by decide +kernel
theorem dX0_askLay_42 : decode cX0_askLay 42 = .ok (.aload_n 0, 1) := by decide +kernel
theorem dX0_askLay_43 : decode cX0_askLay 43 = .ok (.getfield 14, 3) := by decide +kernel
theorem dX0_askLay_46 : decode cX0_askLay 46 = .ok (.aload_n 0, 1) := by decide +kernel
theorem dX0_askLay_47 : decode cX0_askLay 47 = .ok (.getfield 24, 3) := by decide +kernel
theorem dX0_askLay_50 : decode cX0_askLay 50 = .ok (.bipush 7, 2) := by decide +kernel
theorem dX0_askLay_52 : decode cX0_askLay 52 = .ok (.invokevirtual 144, 3) := by decide +kernel
theorem dX0_askLay_55 : decode cX0_askLay 55 = .ok (.ifCond .eq 28, 3) := by decide +kernel
theorem dX0_askLay_58 : decode cX0_askLay 58 = .ok (.aload_n 0, 1) := by decide +kernel
theorem dX0_askLay_59 : decode cX0_askLay 59 = .ok (.getfield 14, 3) := by decide +kernel
theorem dX0_askLay_62 : decode cX0_askLay 62 = .ok (.aload_n 0, 1) := by decide +kernel
theorem dX0_askLay_63 : decode cX0_askLay 63 = .ok (.getfield 33, 3) := by decide +kernel
theorem dX0_askLay_66 : decode cX0_askLay 66 = .ok (.bipush 8, 2) := by decide +kernel
theorem dX0_askLay_68 : decode cX0_askLay 68 = .ok (.invokevirtual 144, 3) := by decide +kernel
theorem dX0_askLay_71 : decode cX0_askLay 71 = .ok (.ifCond .eq 12, 3) := by decide +kernel
theorem dX0_askLay_74 : decode cX0_askLay 74 = .ok (.aload_n 0, 1) := by decide +kernel
theorem dX0_askLay_75 : decode cX0_askLay 75 = .ok (.iconst 5, 1) := by decide +kernel
theorem dX0_askLay_76 : decode cX0_askLay 76 = .ok (.invokevirtual 82, 3) := by decide +kernel
theorem dX0_askLay_79 : decode cX0_askLay 79 = .ok (.aload_n 0, 1) := by decide +kernel
theorem dX0_askLay_80 : decode cX0_askLay 80 = .ok (.invokevirtual 150, 3) := by decide +kernel
theorem dX0_askLay_83 : decode cX0_askLay 83 = .ok (.return_, 1) := by decide +kernel
theorem dX0_keepWhatLays_0 : decode cX0_keepWhatLays 0 = .ok (.bipush 7, 2) := by decide +kernel
theorem dX0_keepWhatLays_2 : decode cX0_keepWhatLays 2 = .ok (.invokestatic 66, 3) := by decide +kernel
theorem dX0_keepWhatLays_5 : decode cX0_keepWhatLays 5 = .ok (.istore_n 1, 1) := by decide +kernel
theorem dX0_keepWhatLays_6 : decode cX0_keepWhatLays 6 = .ok (.bipush 8, 2) := by decide +kernel
theorem dX0_keepWhatLays_8 : decode cX0_keepWhatLays 8 = .ok (.invokestatic 66, 3) := by decide +kernel
theorem dX0_keepWhatLays_11 : decode cX0_keepWhatLays 11 = .ok (.istore_n 2, 1) := by decide +kernel
theorem dX0_keepWhatLays_12 : decode cX0_keepWhatLays 12 = .ok (.aload_n 0, 1) := by decide +kernel
theorem dX0_keepWhatLays_13 : decode cX0_keepWhatLays 13 = .ok (.getfield 14, 3) := by decide +kernel
theorem dX0_keepWhatLays_16 : decode cX0_keepWhatLays 16 = .ok (.aload_n 0, 1) := by decide +kernel
theorem dX0_keepWhatLays_17 : decode cX0_keepWhatLays 17 = .ok (.getfield 24, 3) := by decide +kernel
theorem dX0_keepWhatLays_20 : decode cX0_keepWhatLays 20 = .ok (.invokevirtual 114, 3) := by decide +kernel
theorem dX0_keepWhatLays_23 : decode cX0_keepWhatLays 23 = .ok (.iload_n 1, 1) := by decide +kernel
theorem dX0_keepWhatLays_24 : decode cX0_keepWhatLays 24 = .ok (.if_icmp .ne 7, 3) := by decide +kernel
theorem dX0_keepWhatLays_27 : decode cX0_keepWhatLays 27 = .ok (.iconst 1, 1) := by decide +kernel
theorem dX0_keepWhatLays_28 : decode cX0_keepWhatLays 28 = .ok (.goto 4, 3) := by decide +kernel
theorem dX0_keepWhatLays_31 : decode cX0_keepWhatLays 31 = .ok (.iconst 0, 1) := by decide +kernel
theorem dX0_keepWhatLays_32 : decode cX0_keepWhatLays 32 = .ok (.istore_n 3, 1) := by decide +kernel
theorem dX0_keepWhatLays_33 : decode cX0_keepWhatLays 33 = .ok (.aload_n 0, 1) := by decide +kernel
theorem dX0_keepWhatLays_34 : decode cX0_keepWhatLays 34 = .ok (.getfield 14, 3) := by decide +kernel
theorem dX0_keepWhatLays_37 : decode cX0_keepWhatLays 37 = .ok (.aload_n 0, 1) := by decide +kernel
theorem dX0_keepWhatLays_38 : decode cX0_keepWhatLays 38 = .ok (.getfield 33, 3) := by decide +kernel
theorem dX0_keepWhatLays_41 : decode cX0_keepWhatLays 41 = .ok (.invokevirtual 114, 3) := by decide +kernel
theorem dX0_keepWhatLays_44 : decode cX0_keepWhatLays 44 = .ok (.iload_n 2, 1) := by decide +kernel
theorem dX0_keepWhatLays_45 : decode cX0_keepWhatLays 45 = .ok (.if_icmp .ne 7, 3) := by decide +kernel
theorem dX0_keepWhatLays_48 : decode cX0_keepWhatLays 48 = .ok (.iconst 1, 1) := by decide +kernel
theorem dX0_keepWhatLays_49 : decode cX0_keepWhatLays 49 = .ok (.goto 4, 3) := by decide +kernel
theorem dX0_keepWhatLays_52 : decode cX0_keepWhatLays 52 = .ok (.iconst 0, 1) := by decide +kernel
theorem dX0_keepWhatLays_53 : decode cX0_keepWhatLays 53 = .ok (.istore 4, 2) := by decide +kernel
theorem dX0_keepWhatLays_55 : decode cX0_keepWhatLays 55 = .ok (.iload 4, 2) := by decide +kernel
theorem dX0_keepWhatLays_57 : decode cX0_keepWhatLays 57 = .ok (.ifCond .eq 17, 3) := by decide +kernel
theorem dX0_keepWhatLays_60 : decode cX0_keepWhatLays 60 = .ok (.aload_n 0, 1) := by decide +kernel
theorem dX0_keepWhatLays_61 : decode cX0_keepWhatLays 61 = .ok (.getfield 14, 3) := by decide +kernel
theorem dX0_keepWhatLays_64 : decode cX0_keepWhatLays 64 = .ok (.aload_n 0, 1) := by decide +kernel
theorem dX0_keepWhatLays_65 : decode cX0_keepWhatLays 65 = .ok (.getfield 24, 3) := by decide +kernel
theorem dX0_keepWhatLays_68 : decode cX0_keepWhatLays 68 = .ok (.iload_n 1, 1) := by decide +kernel
theorem dX0_keepWhatLays_69 : decode cX0_keepWhatLays 69 = .ok (.iconst (-1), 1) := by decide +kernel
theorem dX0_keepWhatLays_70 : decode cX0_keepWhatLays 70 = .ok (.ixor, 1) := by decide +kernel
theorem dX0_keepWhatLays_71 : decode cX0_keepWhatLays 71 = .ok (.invokevirtual 121, 3) := by decide +kernel
theorem dX0_keepWhatLays_74 : decode cX0_keepWhatLays 74 = .ok (.iload_n 3, 1) := by decide +kernel
theorem dX0_keepWhatLays_75 : decode cX0_keepWhatLays 75 = .ok (.ifCond .eq 17, 3) := by decide +kernel
theorem dX0_keepWhatLays_78 : decode cX0_keepWhatLays 78 = .ok (.aload_n 0, 1) := by decide +kernel
theorem dX0_keepWhatLays_79 : decode cX0_keepWhatLays 79 = .ok (.getfield 14, 3) := by decide +kernel
theorem dX0_keepWhatLays_82 : decode cX0_keepWhatLays 82 = .ok (.aload_n 0, 1) := by decide +kernel
theorem dX0_keepWhatLays_83 : decode cX0_keepWhatLays 83 = .ok (.getfield 33, 3) := by decide +kernel
theorem dX0_keepWhatLays_86 : decode cX0_keepWhatLays 86 = .ok (.iload_n 2, 1) := by decide +kernel
theorem dX0_keepWhatLays_87 : decode cX0_keepWhatLays 87 = .ok (.iconst (-1), 1) := by decide +kernel
theorem dX0_keepWhatLays_88 : decode cX0_keepWhatLays 88 = .ok (.ixor, 1) := by decide +kernel
theorem dX0_keepWhatLays_89 : decode cX0_keepWhatLays 89 = .ok (.invokevirtual 121, 3) := by decide +kernel
theorem dX0_keepWhatLays_92 : decode cX0_keepWhatLays 92 = .ok (.return_, 1) := by decide +kernel
theorem dX0_askCopy_0 : decode cX0_askCopy 0 = .ok (.aload_n 0, 1) := by decide +kernel
theorem dX0_askCopy_1 : decode cX0_askCopy 1 = .ok (.getfield 14, 3) := by decide +kernel
theorem dX0_askCopy_4 : decode cX0_askCopy 4 = .ok (.aload_n 0, 1) := by decide +kernel
theorem dX0_askCopy_5 : decode cX0_askCopy 5 = .ok (.getfield 24, 3) := by decide +kernel
theorem dX0_askCopy_8 : decode cX0_askCopy 8 = .ok (.iconst 0, 1) := by decide +kernel
theorem dX0_askCopy_9 : decode cX0_askCopy 9 = .ok (.invokevirtual 144, 3) := by decide +kernel
theorem dX0_askCopy_12 : decode cX0_askCopy 12 = .ok (.ifCond .ne 18, 3) := by decide +kernel
theorem dX0_askCopy_15 : decode cX0_askCopy 15 = .ok (.aload_n 0, 1) := by decide +kernel
theorem dX0_askCopy_16 : decode cX0_askCopy 16 = .ok (.getfield 14, 3) := by decide +kernel
theorem dX0_askCopy_19 : decode cX0_askCopy 19 = .ok (.aload_n 0, 1) := by decide +kernel
theorem dX0_askCopy_20 : decode cX0_askCopy 20 = .ok (.getfield 30, 3) := by decide +kernel
theorem dX0_askCopy_23 : decode cX0_askCopy 23 = .ok (.iconst 0, 1) := by decide +kernel
theorem dX0_askCopy_24 : decode cX0_askCopy 24 = .ok (.invokevirtual 144, 3) := by decide +kernel
theorem dX0_askCopy_27 : decode cX0_askCopy 27 = .ok (.ifCond .eq 34, 3) := by decide +kernel
theorem dX0_askCopy_30 : decode cX0_askCopy 30 = .ok (.aload_n 0, 1) := by decide +kernel
theorem dX0_askCopy_31 : decode cX0_askCopy 31 = .ok (.iconst 1, 1) := by decide +kernel
theorem dX0_askCopy_32 : decode cX0_askCopy 32 = .ok (.invokevirtual 82, 3) := by decide +kernel
theorem dX0_askCopy_35 : decode cX0_askCopy 35 = .ok (.aload_n 0, 1) := by decide +kernel
theorem dX0_askCopy_36 : decode cX0_askCopy 36 = .ok (.getfield 14, 3) := by decide +kernel
theorem dX0_askCopy_39 : decode cX0_askCopy 39 = .ok (.aload_n 0, 1) := by decide +kernel
theorem dX0_askCopy_40 : decode cX0_askCopy 40 = .ok (.getfield 24, 3) := by decide +kernel
theorem dX0_askCopy_43 : decode cX0_askCopy 43 = .ok (.bipush (-2), 2) := by decide +kernel
theorem dX0_askCopy_45 : decode cX0_askCopy 45 = .ok (.invokevirtual 121, 3) := by decide +kernel
theorem dX0_askCopy_48 : decode cX0_askCopy 48 = .ok (.aload_n 0, 1) := by decide +kernel
theorem dX0_askCopy_49 : decode cX0_askCopy 49 = .ok (.getfield 14, 3) := by decide +kernel
theorem dX0_askCopy_52 : decode cX0_askCopy 52 = .ok (.aload_n 0, 1) := by decide +kernel
theorem dX0_askCopy_53 : decode cX0_askCopy 53 = .ok (.getfield 30, 3) := by decide +kernel
theorem dX0_askCopy_56 : decode cX0_askCopy 56 = .ok (.bipush (-2), 2) := by decide +kernel
theorem dX0_askCopy_58 : decode cX0_askCopy 58 = .ok (.invokevirtual 121, 3) := by decide +kernel
theorem dX0_askCopy_61 : decode cX0_askCopy 61 = .ok (.aload_n 0, 1) := by decide +kernel
theorem dX0_askCopy_62 : decode cX0_askCopy 62 = .ok (.getfield 14, 3) := by decide +kernel
theorem dX0_askCopy_65 : decode cX0_askCopy 65 = .ok (.aload_n 0, 1) := by decide +kernel
theorem dX0_askCopy_66 : decode cX0_askCopy 66 = .ok (.getfield 24, 3) := by decide +kernel
theorem dX0_askCopy_69 : decode cX0_askCopy 69 = .ok (.invokevirtual 114, 3) := by decide +kernel
theorem dX0_askCopy_72 : decode cX0_askCopy 72 = .ok (.istore_n 1, 1) := by decide +kernel
theorem dX0_askCopy_73 : decode cX0_askCopy 73 = .ok (.aload_n 0, 1) := by decide +kernel
theorem dX0_askCopy_74 : decode cX0_askCopy 74 = .ok (.getfield 14, 3) := by decide +kernel
theorem dX0_askCopy_77 : decode cX0_askCopy 77 = .ok (.aload_n 0, 1) := by decide +kernel
theorem dX0_askCopy_78 : decode cX0_askCopy 78 = .ok (.getfield 30, 3) := by decide +kernel
theorem dX0_askCopy_81 : decode cX0_askCopy 81 = .ok (.invokevirtual 114, 3) := by decide +kernel
theorem dX0_askCopy_84 : decode cX0_askCopy 84 = .ok (.istore_n 2, 1) := by decide +kernel
theorem dX0_askCopy_85 : decode cX0_askCopy 85 = .ok (.iload_n 1, 1) := by decide +kernel
theorem dX0_askCopy_86 : decode cX0_askCopy 86 = .ok (.iload_n 2, 1) := by decide +kernel
theorem dX0_askCopy_87 : decode cX0_askCopy 87 = .ok (.invokestatic 153, 3) := by decide +kernel
theorem dX0_askCopy_90 : decode cX0_askCopy 90 = .ok (.ifCond .eq 8, 3) := by decide +kernel
theorem dX0_askCopy_93 : decode cX0_askCopy 93 = .ok (.aload_n 0, 1) := by decide +kernel
theorem dX0_askCopy_94 : decode cX0_askCopy 94 = .ok (.iconst 5, 1) := by decide +kernel
theorem dX0_askCopy_95 : decode cX0_askCopy 95 = .ok (.invokevirtual 82, 3) := by decide +kernel
theorem dX0_askCopy_98 : decode cX0_askCopy 98 = .ok (.aload_n 0, 1) := by decide +kernel
theorem dX0_askCopy_99 : decode cX0_askCopy 99 = .ok (.getfield 14, 3) := by decide +kernel
theorem dX0_askCopy_102 : decode cX0_askCopy 102 = .ok (.aload_n 0, 1) := by decide +kernel
theorem dX0_askCopy_103 : decode cX0_askCopy 103 = .ok (.getfield 24, 3) := by decide +kernel
theorem dX0_askCopy_106 : decode cX0_askCopy 106 = .ok (.iload_n 1, 1) := by decide +kernel
theorem dX0_askCopy_107 : decode cX0_askCopy 107 = .ok (.iload_n 2, 1) := by decide +kernel
theorem dX0_askCopy_108 : decode cX0_askCopy 108 = .ok (.invokestatic 156, 3) := by decide +kernel
theorem dX0_askCopy_111 : decode cX0_askCopy 111 = .ok (.invokevirtual 121, 3) := by decide +kernel
theorem dX0_askCopy_114 : decode cX0_askCopy 114 = .ok (.aload_n 0, 1) := by decide +kernel
theorem dX0_askCopy_115 : decode cX0_askCopy 115 = .ok (.getfield 14, 3) := by decide +kernel
theorem dX0_askCopy_118 : decode cX0_askCopy 118 = .ok (.aload_n 0, 1) := by decide +kernel
theorem dX0_askCopy_119 : decode cX0_askCopy 119 = .ok (.getfield 30, 3) := by decide +kernel
theorem dX0_askCopy_122 : decode cX0_askCopy 122 = .ok (.iload_n 2, 1) := by decide +kernel
theorem dX0_askCopy_123 : decode cX0_askCopy 123 = .ok (.iload_n 1, 1) := by decide +kernel
theorem dX0_askCopy_124 : decode cX0_askCopy 124 = .ok (.invokestatic 156, 3) := by decide +kernel
theorem dX0_askCopy_127 : decode cX0_askCopy 127 = .ok (.invokevirtual 121, 3) := by decide +kernel
theorem dX0_askCopy_130 : decode cX0_askCopy 130 = .ok (.aload_n 0, 1) := by decide +kernel
theorem dX0_askCopy_131 : decode cX0_askCopy 131 = .ok (.iconst 3, 1) := by decide +kernel
theorem dX0_askCopy_132 : decode cX0_askCopy 132 = .ok (.invokevirtual 82, 3) := by decide +kernel
theorem dX0_askCopy_135 : decode cX0_askCopy 135 = .ok (.return_, 1) := by decide +kernel
theorem dX1_init_0 : decode cX1_init 0 = .ok (.aload_n 0, 1) := by decide +kernel
theorem dX1_init_1 : decode cX1_init 1 = .ok (.iload_n 1, 1) := by decide +kernel
theorem dX1_init_2 : decode cX1_init 2 = .ok (.iload_n 2, 1) := by decide +kernel
theorem dX1_init_3 : decode cX1_init 3 = .ok (.invokespecial 1, 3) := by decide +kernel
theorem dX1_init_6 : decode cX1_init 6 = .ok (.aload_n 0, 1) := by decide +kernel
theorem dX1_init_7 : decode cX1_init 7 = .ok (.new 7, 3) := by decide +kernel
theorem dX1_init_10 : decode cX1_init 10 = .ok (.dup, 1) := by decide +kernel
theorem dX1_init_11 : decode cX1_init 11 = .ok (.invokespecial 9, 3) := by decide +kernel
theorem dX1_init_14 : decode cX1_init 14 = .ok (.putfield 12, 3) := by decide +kernel
theorem dX1_init_17 : decode cX1_init 17 = .ok (.aload_n 0, 1) := by decide +kernel
theorem dX1_init_18 : decode cX1_init 18 = .ok (.aload_n 3, 1) := by decide +kernel
theorem dX1_init_19 : decode cX1_init 19 = .ok (.putfield 18, 3) := by decide +kernel
theorem dX1_init_22 : decode cX1_init 22 = .ok (.aload_n 0, 1) := by decide +kernel
theorem dX1_init_23 : decode cX1_init 23 = .ok (.aload 4, 2) := by decide +kernel
theorem dX1_init_25 : decode cX1_init 25 = .ok (.putfield 22, 3) := by decide +kernel
theorem dX1_init_28 : decode cX1_init 28 = .ok (.return_, 1) := by decide +kernel
theorem dX1_done_0 : decode cX1_done 0 = .ok (.aload_n 0, 1) := by decide +kernel
theorem dX1_done_1 : decode cX1_done 1 = .ok (.getfield 18, 3) := by decide +kernel
theorem dX1_done_4 : decode cX1_done 4 = .ok (.aload_n 1, 1) := by decide +kernel
theorem dX1_done_5 : decode cX1_done 5 = .ok (.invokevirtual 25, 3) := by decide +kernel
theorem dX1_done_8 : decode cX1_done 8 = .ok (.istore_n 2, 1) := by decide +kernel
theorem dX1_done_9 : decode cX1_done 9 = .ok (.iload_n 2, 1) := by decide +kernel
theorem dX1_done_10 : decode cX1_done 10 = .ok (.ifCond .ne 14, 3) := by decide +kernel
theorem dX1_done_13 : decode cX1_done 13 = .ok (.aload_n 0, 1) := by decide +kernel
theorem dX1_done_14 : decode cX1_done 14 = .ok (.getfield 22, 3) := by decide +kernel
theorem dX1_done_17 : decode cX1_done 17 = .ok (.aload_n 1, 1) := by decide +kernel
theorem dX1_done_18 : decode cX1_done 18 = .ok (.invokevirtual 25, 3) := by decide +kernel
theorem dX1_done_21 : decode cX1_done 21 = .ok (.goto 4, 3) := by decide +kernel
theorem dX1_done_24 : decode cX1_done 24 = .ok (.iload_n 2, 1) := by decide +kernel
theorem dX1_done_25 : decode cX1_done 25 = .ok (.ireturn, 1) := by decide +kernel
theorem dX1_findWays_0 : decode cX1_findWays 0 = .ok (.aload_n 0, 1) := by decide +kernel
theorem dX1_findWays_1 : decode cX1_findWays 1 = .ok (.getfield 18, 3) := by decide +kernel
theorem dX1_findWays_4 : decode cX1_findWays 4 = .ok (.aload_n 1, 1) := by decide +kernel
theorem dX1_findWays_5 : decode cX1_findWays 5 = .ok (.invokevirtual 29, 3) := by decide +kernel
theorem dX1_findWays_8 : decode cX1_findWays 8 = .ok (.aload_n 0, 1) := by decide +kernel
theorem dX1_findWays_9 : decode cX1_findWays 9 = .ok (.getfield 33, 3) := by decide +kernel
theorem dX1_findWays_12 : decode cX1_findWays 12 = .ok (.aload_n 0, 1) := by decide +kernel
theorem dX1_findWays_13 : decode cX1_findWays 13 = .ok (.getfield 18, 3) := by decide +kernel
theorem dX1_findWays_16 : decode cX1_findWays 16 = .ok (.getfield 37, 3) := by decide +kernel
theorem dX1_findWays_19 : decode cX1_findWays 19 = .ok (.invokevirtual 38, 3) := by decide +kernel
theorem dX1_findWays_22 : decode cX1_findWays 22 = .ok (.aload_n 0, 1) := by decide +kernel
theorem dX1_findWays_23 : decode cX1_findWays 23 = .ok (.getfield 12, 3) := by decide +kernel
theorem dX1_findWays_26 : decode cX1_findWays 26 = .ok (.aload_n 0, 1) := by decide +kernel
theorem dX1_findWays_27 : decode cX1_findWays 27 = .ok (.getfield 18, 3) := by decide +kernel
theorem dX1_findWays_30 : decode cX1_findWays 30 = .ok (.getfield 37, 3) := by decide +kernel
theorem dX1_findWays_33 : decode cX1_findWays 33 = .ok (.iconst 0, 1) := by decide +kernel
theorem dX1_findWays_34 : decode cX1_findWays 34 = .ok (.invokevirtual 44, 3) := by decide +kernel
theorem dX1_findWays_37 : decode cX1_findWays 37 = .ok (.invokevirtual 48, 3) := by decide +kernel
theorem dX1_findWays_40 : decode cX1_findWays 40 = .ok (.aload_n 0, 1) := by decide +kernel
theorem dX1_findWays_41 : decode cX1_findWays 41 = .ok (.getfield 12, 3) := by decide +kernel
theorem dX1_findWays_44 : decode cX1_findWays 44 = .ok (.invokevirtual 51, 3) := by decide +kernel
theorem dX1_findWays_47 : decode cX1_findWays 47 = .ok (.ifCond .eq 28, 3) := by decide +kernel
theorem dX1_findWays_50 : decode cX1_findWays 50 = .ok (.aload_n 0, 1) := by decide +kernel
theorem dX1_findWays_51 : decode cX1_findWays 51 = .ok (.getfield 22, 3) := by decide +kernel
theorem dX1_findWays_54 : decode cX1_findWays 54 = .ok (.aload_n 0, 1) := by decide +kernel
theorem dX1_findWays_55 : decode cX1_findWays 55 = .ok (.getfield 12, 3) := by decide +kernel
theorem dX1_findWays_58 : decode cX1_findWays 58 = .ok (.invokevirtual 29, 3) := by decide +kernel
theorem dX1_findWays_61 : decode cX1_findWays 61 = .ok (.aload_n 0, 1) := by decide +kernel
theorem dX1_findWays_62 : decode cX1_findWays 62 = .ok (.getfield 33, 3) := by decide +kernel
theorem dX1_findWays_65 : decode cX1_findWays 65 = .ok (.aload_n 0, 1) := by decide +kernel
theorem dX1_findWays_66 : decode cX1_findWays 66 = .ok (.getfield 22, 3) := by decide +kernel
theorem dX1_findWays_69 : decode cX1_findWays 69 = .ok (.getfield 37, 3) := by decide +kernel
theorem dX1_findWays_72 : decode cX1_findWays 72 = .ok (.invokevirtual 55, 3) := by decide +kernel
theorem dX1_findWays_75 : decode cX1_findWays 75 = .ok (.return_, 1) := by decide +kernel
theorem dX2_init_0 : decode cX2_init 0 = .ok (.aload_n 0, 1) := by decide +kernel
theorem dX2_init_1 : decode cX2_init 1 = .ok (.iload_n 1, 1) := by decide +kernel
theorem dX2_init_2 : decode cX2_init 2 = .ok (.iload_n 2, 1) := by decide +kernel
theorem dX2_init_3 : decode cX2_init 3 = .ok (.invokespecial 1, 3) := by decide +kernel
theorem dX2_init_6 : decode cX2_init 6 = .ok (.aload_n 0, 1) := by decide +kernel
theorem dX2_init_7 : decode cX2_init 7 = .ok (.new 7, 3) := by decide +kernel
theorem dX2_init_10 : decode cX2_init 10 = .ok (.dup, 1) := by decide +kernel
theorem dX2_init_11 : decode cX2_init 11 = .ok (.invokespecial 9, 3) := by decide +kernel
theorem dX2_init_14 : decode cX2_init 14 = .ok (.putfield 12, 3) := by decide +kernel
theorem dX2_init_17 : decode cX2_init 17 = .ok (.aload_n 0, 1) := by decide +kernel
theorem dX2_init_18 : decode cX2_init 18 = .ok (.iload_n 3, 1) := by decide +kernel
theorem dX2_init_19 : decode cX2_init 19 = .ok (.putfield 18, 3) := by decide +kernel
theorem dX2_init_22 : decode cX2_init 22 = .ok (.aload_n 0, 1) := by decide +kernel
theorem dX2_init_23 : decode cX2_init 23 = .ok (.iload 4, 2) := by decide +kernel
theorem dX2_init_25 : decode cX2_init 25 = .ok (.putfield 22, 3) := by decide +kernel
theorem dX2_init_28 : decode cX2_init 28 = .ok (.aload_n 0, 1) := by decide +kernel
theorem dX2_init_29 : decode cX2_init 29 = .ok (.aload 5, 2) := by decide +kernel
theorem dX2_init_31 : decode cX2_init 31 = .ok (.putfield 25, 3) := by decide +kernel
theorem dX2_init_34 : decode cX2_init 34 = .ok (.aload_n 0, 1) := by decide +kernel
theorem dX2_init_35 : decode cX2_init 35 = .ok (.aload 6, 2) := by decide +kernel
theorem dX2_init_37 : decode cX2_init 37 = .ok (.putfield 29, 3) := by decide +kernel
theorem dX2_init_40 : decode cX2_init 40 = .ok (.return_, 1) := by decide +kernel
theorem dX2_done_0 : decode cX2_done 0 = .ok (.aload_n 1, 1) := by decide +kernel
theorem dX2_done_1 : decode cX2_done 1 = .ok (.aload_n 0, 1) := by decide +kernel
theorem dX2_done_2 : decode cX2_done 2 = .ok (.getfield 18, 3) := by decide +kernel
theorem dX2_done_5 : decode cX2_done 5 = .ok (.aload_n 0, 1) := by decide +kernel
theorem dX2_done_6 : decode cX2_done 6 = .ok (.getfield 22, 3) := by decide +kernel
theorem dX2_done_9 : decode cX2_done 9 = .ok (.invokevirtual 32, 3) := by decide +kernel
theorem dX2_done_12 : decode cX2_done 12 = .ok (.ifCond .eq 14, 3) := by decide +kernel
theorem dX2_done_15 : decode cX2_done 15 = .ok (.aload_n 0, 1) := by decide +kernel
theorem dX2_done_16 : decode cX2_done 16 = .ok (.getfield 25, 3) := by decide +kernel
theorem dX2_done_19 : decode cX2_done 19 = .ok (.aload_n 1, 1) := by decide +kernel
theorem dX2_done_20 : decode cX2_done 20 = .ok (.invokevirtual 38, 3) := by decide +kernel
theorem dX2_done_23 : decode cX2_done 23 = .ok (.goto 11, 3) := by decide +kernel
theorem dX2_done_26 : decode cX2_done 26 = .ok (.aload_n 0, 1) := by decide +kernel
theorem dX2_done_27 : decode cX2_done 27 = .ok (.getfield 29, 3) := by decide +kernel
theorem dX2_done_30 : decode cX2_done 30 = .ok (.aload_n 1, 1) := by decide +kernel
theorem dX2_done_31 : decode cX2_done 31 = .ok (.invokevirtual 38, 3) := by decide +kernel
theorem dX2_done_34 : decode cX2_done 34 = .ok (.ireturn, 1) := by decide +kernel
theorem dX2_findWays_0 : decode cX2_findWays 0 = .ok (.aload_n 0, 1) := by decide +kernel
theorem dX2_findWays_1 : decode cX2_findWays 1 = .ok (.aload_n 0, 1) := by decide +kernel
theorem dX2_findWays_2 : decode cX2_findWays 2 = .ok (.getfield 25, 3) := by decide +kernel
theorem dX2_findWays_5 : decode cX2_findWays 5 = .ok (.aload_n 1, 1) := by decide +kernel
theorem dX2_findWays_6 : decode cX2_findWays 6 = .ok (.aload_n 0, 1) := by decide +kernel
theorem dX2_findWays_7 : decode cX2_findWays 7 = .ok (.getfield 22, 3) := by decide +kernel
theorem dX2_findWays_10 : decode cX2_findWays 10 = .ok (.invokestatic 42, 3) := by decide +kernel
theorem dX2_findWays_13 : decode cX2_findWays 13 = .ok (.invokevirtual 48, 3) := by decide +kernel
theorem dX2_findWays_16 : decode cX2_findWays 16 = .ok (.aload_n 0, 1) := by decide +kernel
theorem dX2_findWays_17 : decode cX2_findWays 17 = .ok (.aload_n 0, 1) := by decide +kernel
theorem dX2_findWays_18 : decode cX2_findWays 18 = .ok (.getfield 29, 3) := by decide +kernel
theorem dX2_findWays_21 : decode cX2_findWays 21 = .ok (.aload_n 1, 1) := by decide +kernel
theorem dX2_findWays_22 : decode cX2_findWays 22 = .ok (.aload_n 0, 1) := by decide +kernel
theorem dX2_findWays_23 : decode cX2_findWays 23 = .ok (.getfield 22, 3) := by decide +kernel
theorem dX2_findWays_26 : decode cX2_findWays 26 = .ok (.invokestatic 42, 3) := by decide +kernel
theorem dX2_findWays_29 : decode cX2_findWays 29 = .ok (.iconst (-1), 1) := by decide +kernel
theorem dX2_findWays_30 : decode cX2_findWays 30 = .ok (.ixor, 1) := by decide +kernel
theorem dX2_findWays_31 : decode cX2_findWays 31 = .ok (.invokevirtual 48, 3) := by decide +kernel
theorem dX2_findWays_34 : decode cX2_findWays 34 = .ok (.return_, 1) := by decide +kernel
theorem dX2_choose_0 : decode cX2_choose 0 = .ok (.aload_n 0, 1) := by decide +kernel
theorem dX2_choose_1 : decode cX2_choose 1 = .ok (.getfield 12, 3) := by decide +kernel
theorem dX2_choose_4 : decode cX2_choose 4 = .ok (.aload_n 2, 1) := by decide +kernel
theorem dX2_choose_5 : decode cX2_choose 5 = .ok (.invokevirtual 52, 3) := by decide +kernel
theorem dX2_choose_8 : decode cX2_choose 8 = .ok (.aload_n 0, 1) := by decide +kernel
theorem dX2_choose_9 : decode cX2_choose 9 = .ok (.getfield 12, 3) := by decide +kernel
theorem dX2_choose_12 : decode cX2_choose 12 = .ok (.aload_n 0, 1) := by decide +kernel
theorem dX2_choose_13 : decode cX2_choose 13 = .ok (.getfield 18, 3) := by decide +kernel
theorem dX2_choose_16 : decode cX2_choose 16 = .ok (.iload_n 3, 1) := by decide +kernel
theorem dX2_choose_17 : decode cX2_choose 17 = .ok (.invokevirtual 56, 3) := by decide +kernel
theorem dX2_choose_20 : decode cX2_choose 20 = .ok (.aload_n 0, 1) := by decide +kernel
theorem dX2_choose_21 : decode cX2_choose 21 = .ok (.getfield 12, 3) := by decide +kernel
theorem dX2_choose_24 : decode cX2_choose 24 = .ok (.invokevirtual 59, 3) := by decide +kernel
theorem dX2_choose_27 : decode cX2_choose 27 = .ok (.ifCond .eq 22, 3) := by decide +kernel
theorem dX2_choose_30 : decode cX2_choose 30 = .ok (.aload_n 1, 1) := by decide +kernel
theorem dX2_choose_31 : decode cX2_choose 31 = .ok (.aload_n 0, 1) := by decide +kernel
theorem dX2_choose_32 : decode cX2_choose 32 = .ok (.getfield 12, 3) := by decide +kernel
theorem dX2_choose_35 : decode cX2_choose 35 = .ok (.invokevirtual 63, 3) := by decide +kernel
theorem dX2_choose_38 : decode cX2_choose 38 = .ok (.aload_n 0, 1) := by decide +kernel
theorem dX2_choose_39 : decode cX2_choose 39 = .ok (.getfield 66, 3) := by decide +kernel
theorem dX2_choose_42 : decode cX2_choose 42 = .ok (.aload_n 1, 1) := by decide +kernel
theorem dX2_choose_43 : decode cX2_choose 43 = .ok (.getfield 70, 3) := by decide +kernel
theorem dX2_choose_46 : decode cX2_choose 46 = .ok (.invokevirtual 71, 3) := by decide +kernel
theorem dX2_choose_49 : decode cX2_choose 49 = .ok (.return_, 1) := by decide +kernel
theorem dX3_init_0 : decode cX3_init 0 = .ok (.aload_n 0, 1) := by decide +kernel
theorem dX3_init_1 : decode cX3_init 1 = .ok (.iload_n 1, 1) := by decide +kernel
theorem dX3_init_2 : decode cX3_init 2 = .ok (.iload_n 2, 1) := by decide +kernel
theorem dX3_init_3 : decode cX3_init 3 = .ok (.invokespecial 3, 3) := by decide +kernel
theorem dX3_init_6 : decode cX3_init 6 = .ok (.aload_n 0, 1) := by decide +kernel
theorem dX3_init_7 : decode cX3_init 7 = .ok (.new 9, 3) := by decide +kernel
theorem dX3_init_10 : decode cX3_init 10 = .ok (.dup, 1) := by decide +kernel
theorem dX3_init_11 : decode cX3_init 11 = .ok (.invokespecial 11, 3) := by decide +kernel
theorem dX3_init_14 : decode cX3_init 14 = .ok (.putfield 14, 3) := by decide +kernel
theorem dX3_init_17 : decode cX3_init 17 = .ok (.aload_n 0, 1) := by decide +kernel
theorem dX3_init_18 : decode cX3_init 18 = .ok (.new 20, 3) := by decide +kernel
theorem dX3_init_21 : decode cX3_init 21 = .ok (.dup, 1) := by decide +kernel
theorem dX3_init_22 : decode cX3_init 22 = .ok (.invokespecial 22, 3) := by decide +kernel
theorem dX3_init_25 : decode cX3_init 25 = .ok (.putfield 23, 3) := by decide +kernel
theorem dX3_init_28 : decode cX3_init 28 = .ok (.aload_n 0, 1) := by decide +kernel
theorem dX3_init_29 : decode cX3_init 29 = .ok (.aload_n 3, 1) := by decide +kernel
theorem dX3_init_30 : decode cX3_init 30 = .ok (.putfield 27, 3) := by decide +kernel
theorem dX3_init_33 : decode cX3_init 33 = .ok (.aload_n 0, 1) := by decide +kernel
theorem dX3_init_34 : decode cX3_init 34 = .ok (.iload 4, 2) := by decide +kernel
theorem dX3_init_36 : decode cX3_init 36 = .ok (.putfield 31, 3) := by decide +kernel
theorem dX3_init_39 : decode cX3_init 39 = .ok (.aload_n 0, 1) := by decide +kernel
theorem dX3_init_40 : decode cX3_init 40 = .ok (.aload 5, 2) := by decide +kernel
theorem dX3_init_42 : decode cX3_init 42 = .ok (.putfield 35, 3) := by decide +kernel
theorem dX3_init_45 : decode cX3_init 45 = .ok (.aload_n 0, 1) := by decide +kernel
theorem dX3_init_46 : decode cX3_init 46 = .ok (.aload 6, 2) := by decide +kernel
theorem dX3_init_48 : decode cX3_init 48 = .ok (.putfield 38, 3) := by decide +kernel
theorem dX3_init_51 : decode cX3_init 51 = .ok (.return_, 1) := by decide +kernel
theorem dX3_takes_0 : decode cX3_takes 0 = .ok (.aload_n 0, 1) := by decide +kernel
theorem dX3_takes_1 : decode cX3_takes 1 = .ok (.getfield 31, 3) := by decide +kernel
theorem dX3_takes_4 : decode cX3_takes 4 = .ok (.iload_n 1, 1) := by decide +kernel
theorem dX3_takes_5 : decode cX3_takes 5 = .ok (.ishr, 1) := by decide +kernel
theorem dX3_takes_6 : decode cX3_takes 6 = .ok (.iconst 1, 1) := by decide +kernel
theorem dX3_takes_7 : decode cX3_takes 7 = .ok (.iand, 1) := by decide +kernel
theorem dX3_takes_8 : decode cX3_takes 8 = .ok (.ifCond .eq 7, 3) := by decide +kernel
theorem dX3_takes_11 : decode cX3_takes 11 = .ok (.iconst 1, 1) := by decide +kernel
theorem dX3_takes_12 : decode cX3_takes 12 = .ok (.goto 4, 3) := by decide +kernel
theorem dX3_takes_15 : decode cX3_takes 15 = .ok (.iconst 0, 1) := by decide +kernel
theorem dX3_takes_16 : decode cX3_takes 16 = .ok (.ireturn, 1) := by decide +kernel
theorem dX3_done_0 : decode cX3_done 0 = .ok (.aload_n 0, 1) := by decide +kernel
theorem dX3_done_1 : decode cX3_done 1 = .ok (.getfield 27, 3) := by decide +kernel
theorem dX3_done_4 : decode cX3_done 4 = .ok (.aload_n 1, 1) := by decide +kernel
theorem dX3_done_5 : decode cX3_done 5 = .ok (.invokevirtual 41, 3) := by decide +kernel
theorem dX3_done_8 : decode cX3_done 8 = .ok (.istore_n 2, 1) := by decide +kernel
theorem dX3_done_9 : decode cX3_done 9 = .ok (.iload_n 2, 1) := by decide +kernel
theorem dX3_done_10 : decode cX3_done 10 = .ok (.ifCond .eq 31, 3) := by decide +kernel
theorem dX3_done_13 : decode cX3_done 13 = .ok (.aload_n 0, 1) := by decide +kernel
theorem dX3_done_14 : decode cX3_done 14 = .ok (.iload_n 2, 1) := by decide +kernel
theorem dX3_done_15 : decode cX3_done 15 = .ok (.invokevirtual 45, 3) := by decide +kernel
theorem dX3_done_18 : decode cX3_done 18 = .ok (.ifCond .eq 23, 3) := by decide +kernel
theorem dX3_done_21 : decode cX3_done 21 = .ok (.aload_n 0, 1) := by decide +kernel
theorem dX3_done_22 : decode cX3_done 22 = .ok (.getfield 35, 3) := by decide +kernel
theorem dX3_done_25 : decode cX3_done 25 = .ok (.ifnonnull 7, 3) := by decide +kernel
theorem dX3_done_28 : decode cX3_done 28 = .ok (.iconst 0, 1) := by decide +kernel
theorem dX3_done_29 : decode cX3_done 29 = .ok (.goto 11, 3) := by decide +kernel
theorem dX3_done_32 : decode cX3_done 32 = .ok (.aload_n 0, 1) := by decide +kernel
theorem dX3_done_33 : decode cX3_done 33 = .ok (.getfield 35, 3) := by decide +kernel
theorem dX3_done_36 : decode cX3_done 36 = .ok (.aload_n 1, 1) := by decide +kernel
theorem dX3_done_37 : decode cX3_done 37 = .ok (.invokevirtual 41, 3) := by decide +kernel
theorem dX3_done_40 : decode cX3_done 40 = .ok (.istore_n 2, 1) := by decide +kernel
theorem dX3_done_41 : decode cX3_done 41 = .ok (.aload_n 0, 1) := by decide +kernel
theorem dX3_done_42 : decode cX3_done 42 = .ok (.getfield 38, 3) := by decide +kernel
theorem dX3_done_45 : decode cX3_done 45 = .ok (.ifnonnull 5, 3) := by decide +kernel
theorem dX3_done_48 : decode cX3_done 48 = .ok (.iload_n 2, 1) := by decide +kernel
theorem dX3_done_49 : decode cX3_done 49 = .ok (.ireturn, 1) := by decide +kernel
theorem dX3_done_50 : decode cX3_done 50 = .ok (.aload_n 1, 1) := by decide +kernel
theorem dX3_done_51 : decode cX3_done 51 = .ok (.dup, 1) := by decide +kernel
theorem dX3_done_52 : decode cX3_done 52 = .ok (.getfield 49, 3) := by decide +kernel
theorem dX3_done_55 : decode cX3_done 55 = .ok (.iconst 1, 1) := by decide +kernel
theorem dX3_done_56 : decode cX3_done 56 = .ok (.iadd, 1) := by decide +kernel
theorem dX3_done_57 : decode cX3_done 57 = .ok (.putfield 49, 3) := by decide +kernel
theorem dX3_done_60 : decode cX3_done 60 = .ok (.aload_n 0, 1) := by decide +kernel
theorem dX3_done_61 : decode cX3_done 61 = .ok (.getfield 38, 3) := by decide +kernel
theorem dX3_done_64 : decode cX3_done 64 = .ok (.aload_n 1, 1) := by decide +kernel
theorem dX3_done_65 : decode cX3_done 65 = .ok (.invokevirtual 41, 3) := by decide +kernel
theorem dX3_done_68 : decode cX3_done 68 = .ok (.istore_n 3, 1) := by decide +kernel
theorem dX3_done_69 : decode cX3_done 69 = .ok (.iload_n 3, 1) := by decide +kernel
theorem dX3_done_70 : decode cX3_done 70 = .ok (.ifCond .ne 5, 3) := by decide +kernel
theorem dX3_done_73 : decode cX3_done 73 = .ok (.iload_n 2, 1) := by decide +kernel
theorem dX3_done_74 : decode cX3_done 74 = .ok (.ireturn, 1) := by decide +kernel
theorem dX3_done_75 : decode cX3_done 75 = .ok (.iload_n 2, 1) := by decide +kernel
theorem dX3_done_76 : decode cX3_done 76 = .ok (.ifCond .eq 13, 3) := by decide +kernel
theorem dX3_done_79 : decode cX3_done 79 = .ok (.aload_n 1, 1) := by decide +kernel
theorem dX3_done_80 : decode cX3_done 80 = .ok (.dup, 1) := by decide +kernel
theorem dX3_done_81 : decode cX3_done 81 = .ok (.getfield 54, 3) := by decide +kernel
theorem dX3_done_84 : decode cX3_done 84 = .ok (.iconst 1, 1) := by decide +kernel
theorem dX3_done_85 : decode cX3_done 85 = .ok (.iadd, 1) := by decide +kernel
theorem dX3_done_86 : decode cX3_done 86 = .ok (.putfield 54, 3) := by decide +kernel
theorem dX3_done_89 : decode cX3_done 89 = .ok (.iload_n 3, 1) := by decide +kernel
theorem dX3_done_90 : decode cX3_done 90 = .ok (.ireturn, 1) := by decide +kernel
theorem dX3_findWays_0 : decode cX3_findWays 0 = .ok (.aload_n 0, 1) := by decide +kernel
theorem dX3_findWays_1 : decode cX3_findWays 1 = .ok (.getfield 27, 3) := by decide +kernel
theorem dX3_findWays_4 : decode cX3_findWays 4 = .ok (.aload_n 1, 1) := by decide +kernel
theorem dX3_findWays_5 : decode cX3_findWays 5 = .ok (.invokevirtual 57, 3) := by decide +kernel
theorem dX3_findWays_8 : decode cX3_findWays 8 = .ok (.aload_n 0, 1) := by decide +kernel
theorem dX3_findWays_9 : decode cX3_findWays 9 = .ok (.dup, 1) := by decide +kernel
theorem dX3_findWays_10 : decode cX3_findWays 10 = .ok (.getfield 61, 3) := by decide +kernel
theorem dX3_findWays_13 : decode cX3_findWays 13 = .ok (.aload_n 0, 1) := by decide +kernel
theorem dX3_findWays_14 : decode cX3_findWays 14 = .ok (.getfield 27, 3) := by decide +kernel
theorem dX3_findWays_17 : decode cX3_findWays 17 = .ok (.getfield 64, 3) := by decide +kernel
theorem dX3_findWays_20 : decode cX3_findWays 20 = .ok (.invokevirtual 67, 3) := by decide +kernel
theorem dX3_findWays_23 : decode cX3_findWays 23 = .ok (.ior, 1) := by decide +kernel
theorem dX3_findWays_24 : decode cX3_findWays 24 = .ok (.putfield 61, 3) := by decide +kernel
theorem dX3_findWays_27 : decode cX3_findWays 27 = .ok (.aload_n 0, 1) := by decide +kernel
theorem dX3_findWays_28 : decode cX3_findWays 28 = .ok (.invokevirtual 71, 3) := by decide +kernel
theorem dX3_findWays_31 : decode cX3_findWays 31 = .ok (.aload_n 0, 1) := by decide +kernel
theorem dX3_findWays_32 : decode cX3_findWays 32 = .ok (.getfield 14, 3) := by decide +kernel
theorem dX3_findWays_35 : decode cX3_findWays 35 = .ok (.invokevirtual 74, 3) := by decide +kernel
theorem dX3_findWays_38 : decode cX3_findWays 38 = .ok (.ifCond .eq 38, 3) := by decide +kernel
theorem dX3_findWays_41 : decode cX3_findWays 41 = .ok (.aload_n 0, 1) := by decide +kernel
theorem dX3_findWays_42 : decode cX3_findWays 42 = .ok (.getfield 35, 3) := by decide +kernel
theorem dX3_findWays_45 : decode cX3_findWays 45 = .ok (.ifnull 31, 3) := by decide +kernel
theorem dX3_findWays_48 : decode cX3_findWays 48 = .ok (.aload_n 0, 1) := by decide +kernel
theorem dX3_findWays_49 : decode cX3_findWays 49 = .ok (.getfield 35, 3) := by decide +kernel
theorem dX3_findWays_52 : decode cX3_findWays 52 = .ok (.aload_n 0, 1) := by decide +kernel
theorem dX3_findWays_53 : decode cX3_findWays 53 = .ok (.getfield 14, 3) := by decide +kernel
theorem dX3_findWays_56 : decode cX3_findWays 56 = .ok (.invokevirtual 57, 3) := by decide +kernel
theorem dX3_findWays_59 : decode cX3_findWays 59 = .ok (.aload_n 0, 1) := by decide +kernel
theorem dX3_findWays_60 : decode cX3_findWays 60 = .ok (.getfield 23, 3) := by decide +kernel
theorem dX3_findWays_63 : decode cX3_findWays 63 = .ok (.aload_n 0, 1) := by decide +kernel
theorem dX3_findWays_64 : decode cX3_findWays 64 = .ok (.getfield 35, 3) := by decide +kernel
theorem dX3_findWays_67 : decode cX3_findWays 67 = .ok (.getfield 64, 3) := by decide +kernel
theorem dX3_findWays_70 : decode cX3_findWays 70 = .ok (.invokevirtual 78, 3) := by decide +kernel
theorem dX3_findWays_73 : decode cX3_findWays 73 = .ok (.goto 18, 3) := by decide +kernel
theorem dX3_findWays_76 : decode cX3_findWays 76 = .ok (.aload_n 0, 1) := by decide +kernel
theorem dX3_findWays_77 : decode cX3_findWays 77 = .ok (.getfield 23, 3) := by decide +kernel
theorem dX3_findWays_80 : decode cX3_findWays 80 = .ok (.iconst 0, 1) := by decide +kernel
theorem dX3_findWays_81 : decode cX3_findWays 81 = .ok (.invokevirtual 82, 3) := by decide +kernel
theorem dX3_findWays_84 : decode cX3_findWays 84 = .ok (.aload_n 0, 1) := by decide +kernel
theorem dX3_findWays_85 : decode cX3_findWays 85 = .ok (.getfield 14, 3) := by decide +kernel
theorem dX3_findWays_88 : decode cX3_findWays 88 = .ok (.invokevirtual 86, 3) := by decide +kernel
theorem dX3_findWays_91 : decode cX3_findWays 91 = .ok (.aload_n 0, 1) := by decide +kernel
theorem dX3_findWays_92 : decode cX3_findWays 92 = .ok (.getfield 38, 3) := by decide +kernel
theorem dX3_findWays_95 : decode cX3_findWays 95 = .ok (.ifnonnull 17, 3) := by decide +kernel
theorem dX3_findWays_98 : decode cX3_findWays 98 = .ok (.aload_n 0, 1) := by decide +kernel
theorem dX3_findWays_99 : decode cX3_findWays 99 = .ok (.getfield 88, 3) := by decide +kernel
theorem dX3_findWays_102 : decode cX3_findWays 102 = .ok (.aload_n 0, 1) := by decide +kernel
theorem dX3_findWays_103 : decode cX3_findWays 103 = .ok (.getfield 23, 3) := by decide +kernel
theorem dX3_findWays_106 : decode cX3_findWays 106 = .ok (.invokevirtual 78, 3) := by decide +kernel
theorem dX3_findWays_109 : decode cX3_findWays 109 = .ok (.goto 11, 3) := by decide +kernel
theorem dX3_findWays_112 : decode cX3_findWays 112 = .ok (.aload_n 0, 1) := by decide +kernel
theorem dX3_findWays_113 : decode cX3_findWays 113 = .ok (.aload_n 0, 1) := by decide +kernel
theorem dX3_findWays_114 : decode cX3_findWays 114 = .ok (.getfield 38, 3) := by decide +kernel
theorem dX3_findWays_117 : decode cX3_findWays 117 = .ok (.invokevirtual 89, 3) := by decide +kernel
theorem dX3_findWays_120 : decode cX3_findWays 120 = .ok (.return_, 1) := by decide +kernel
theorem dX3_sortBodysWays_0 : decode cX3_sortBodysWays 0 = .ok (.aload_n 0, 1) := by decide +kernel
theorem dX3_sortBodysWays_1 : decode cX3_sortBodysWays 1 = .ok (.getfield 23, 3) := by decide +kernel
theorem dX3_sortBodysWays_4 : decode cX3_sortBodysWays 4 = .ok (.invokevirtual 93, 3) := by decide +kernel
theorem dX3_sortBodysWays_7 : decode cX3_sortBodysWays 7 = .ok (.aload_n 0, 1) := by decide +kernel
theorem dX3_sortBodysWays_8 : decode cX3_sortBodysWays 8 = .ok (.getfield 14, 3) := by decide +kernel
theorem dX3_sortBodysWays_11 : decode cX3_sortBodysWays 11 = .ok (.invokevirtual 96, 3) := by decide +kernel
theorem dX3_sortBodysWays_14 : decode cX3_sortBodysWays 14 = .ok (.iconst 0, 1) := by decide +kernel
theorem dX3_sortBodysWays_15 : decode cX3_sortBodysWays 15 = .ok (.istore_n 1, 1) := by decide +kernel
theorem dX3_sortBodysWays_16 : decode cX3_sortBodysWays 16 = .ok (.iload_n 1, 1) := by decide +kernel
theorem dX3_sortBodysWays_17 : decode cX3_sortBodysWays 17 = .ok (.bipush 8, 2) := by decide +kernel
theorem dX3_sortBodysWays_19 : decode cX3_sortBodysWays 19 = .ok (.if_icmp .gt 48, 3) := by decide +kernel
theorem dX3_sortBodysWays_22 : decode cX3_sortBodysWays 22 = .ok (.aload_n 0, 1) := by decide +kernel
theorem dX3_sortBodysWays_23 : decode cX3_sortBodysWays 23 = .ok (.iload_n 1, 1) := by decide +kernel
theorem dX3_sortBodysWays_24 : decode cX3_sortBodysWays 24 = .ok (.invokevirtual 45, 3) := by decide +kernel
theorem dX3_sortBodysWays_27 : decode cX3_sortBodysWays 27 = .ok (.ifCond .eq 10, 3) := by decide +kernel
theorem dX3_sortBodysWays_30 : decode cX3_sortBodysWays 30 = .ok (.aload_n 0, 1) := by decide +kernel
theorem dX3_sortBodysWays_31 : decode cX3_sortBodysWays 31 = .ok (.getfield 14, 3) := by decide +kernel
theorem dX3_sortBodysWays_34 : decode cX3_sortBodysWays 34 = .ok (.goto 11, 3) := by decide +kernel
theorem dX3_sortBodysWays_37 : decode cX3_sortBodysWays 37 = .ok (.aload_n 0, 1) := by decide +kernel
theorem dX3_sortBodysWays_38 : decode cX3_sortBodysWays 38 = .ok (.getfield 23, 3) := by decide +kernel
theorem dX3_sortBodysWays_41 : decode cX3_sortBodysWays 41 = .ok (.iload_n 1, 1) := by decide +kernel
theorem dX3_sortBodysWays_42 : decode cX3_sortBodysWays 42 = .ok (.invokevirtual 82, 3) := by decide +kernel
theorem dX3_sortBodysWays_45 : decode cX3_sortBodysWays 45 = .ok (.astore_n 2, 1) := by decide +kernel
theorem dX3_sortBodysWays_46 : decode cX3_sortBodysWays 46 = .ok (.aload_n 2, 1) := by decide +kernel
theorem dX3_sortBodysWays_47 : decode cX3_sortBodysWays 47 = .ok (.aload_n 0, 1) := by decide +kernel
theorem dX3_sortBodysWays_48 : decode cX3_sortBodysWays 48 = .ok (.getfield 27, 3) := by decide +kernel
theorem dX3_sortBodysWays_51 : decode cX3_sortBodysWays 51 = .ok (.getfield 64, 3) := by decide +kernel
theorem dX3_sortBodysWays_54 : decode cX3_sortBodysWays 54 = .ok (.iload_n 1, 1) := by decide +kernel
theorem dX3_sortBodysWays_55 : decode cX3_sortBodysWays 55 = .ok (.invokevirtual 82, 3) := by decide +kernel
theorem dX3_sortBodysWays_58 : decode cX3_sortBodysWays 58 = .ok (.invokevirtual 86, 3) := by decide +kernel
theorem dX3_sortBodysWays_61 : decode cX3_sortBodysWays 61 = .ok (.iinc 1 1, 3) := by decide +kernel
theorem dX3_sortBodysWays_64 : decode cX3_sortBodysWays 64 = .ok (.goto (-48), 3) := by decide +kernel
theorem dX3_sortBodysWays_67 : decode cX3_sortBodysWays 67 = .ok (.return_, 1) := by decide +kernel
theorem dX3_goOnThroughLast_0 : decode cX3_goOnThroughLast 0 = .ok (.iconst 0, 1) := by decide +kernel
theorem dX3_goOnThroughLast_1 : decode cX3_goOnThroughLast 1 = .ok (.istore_n 2, 1) := by decide +kernel
theorem dX3_goOnThroughLast_2 : decode cX3_goOnThroughLast 2 = .ok (.iload_n 2, 1) := by decide +kernel
theorem dX3_goOnThroughLast_3 : decode cX3_goOnThroughLast 3 = .ok (.bipush 8, 2) := by decide +kernel
theorem dX3_goOnThroughLast_5 : decode cX3_goOnThroughLast 5 = .ok (.if_icmp .gt 95, 3) := by decide +kernel
theorem dX3_goOnThroughLast_8 : decode cX3_goOnThroughLast 8 = .ok (.aload_n 0, 1) := by decide +kernel
theorem dX3_goOnThroughLast_9 : decode cX3_goOnThroughLast 9 = .ok (.getfield 23, 3) := by decide +kernel
theorem dX3_goOnThroughLast_12 : decode cX3_goOnThroughLast 12 = .ok (.iload_n 2, 1) := by decide +kernel
theorem dX3_goOnThroughLast_13 : decode cX3_goOnThroughLast 13 = .ok (.invokevirtual 82, 3) := by decide +kernel
theorem dX3_goOnThroughLast_16 : decode cX3_goOnThroughLast 16 = .ok (.invokevirtual 74, 3) := by decide +kernel
theorem dX3_goOnThroughLast_19 : decode cX3_goOnThroughLast 19 = .ok (.ifCond .eq 75, 3) := by decide +kernel
theorem dX3_goOnThroughLast_22 : decode cX3_goOnThroughLast 22 = .ok (.aload_n 1, 1) := by decide +kernel
theorem dX3_goOnThroughLast_23 : decode cX3_goOnThroughLast 23 = .ok (.aload_n 0, 1) := by decide +kernel
theorem dX3_goOnThroughLast_24 : decode cX3_goOnThroughLast 24 = .ok (.getfield 23, 3) := by decide +kernel
theorem dX3_goOnThroughLast_27 : decode cX3_goOnThroughLast 27 = .ok (.iload_n 2, 1) := by decide +kernel
theorem dX3_goOnThroughLast_28 : decode cX3_goOnThroughLast 28 = .ok (.invokevirtual 82, 3) := by decide +kernel
theorem dX3_goOnThroughLast_31 : decode cX3_goOnThroughLast 31 = .ok (.invokevirtual 57, 3) := by decide +kernel
theorem dX3_goOnThroughLast_34 : decode cX3_goOnThroughLast 34 = .ok (.aload_n 0, 1) := by decide +kernel
theorem dX3_goOnThroughLast_35 : decode cX3_goOnThroughLast 35 = .ok (.getfield 88, 3) := by decide +kernel
theorem dX3_goOnThroughLast_38 : decode cX3_goOnThroughLast 38 = .ok (.iload_n 2, 1) := by decide +kernel
theorem dX3_goOnThroughLast_39 : decode cX3_goOnThroughLast 39 = .ok (.invokevirtual 82, 3) := by decide +kernel
theorem dX3_goOnThroughLast_42 : decode cX3_goOnThroughLast 42 = .ok (.aload_n 1, 1) := by decide +kernel
theorem dX3_goOnThroughLast_43 : decode cX3_goOnThroughLast 43 = .ok (.getfield 64, 3) := by decide +kernel
theorem dX3_goOnThroughLast_46 : decode cX3_goOnThroughLast 46 = .ok (.iconst 0, 1) := by decide +kernel
theorem dX3_goOnThroughLast_47 : decode cX3_goOnThroughLast 47 = .ok (.invokevirtual 82, 3) := by decide +kernel
theorem dX3_goOnThroughLast_50 : decode cX3_goOnThroughLast 50 = .ok (.invokevirtual 86, 3) := by decide +kernel
theorem dX3_goOnThroughLast_53 : decode cX3_goOnThroughLast 53 = .ok (.aload_n 0, 1) := by decide +kernel
theorem dX3_goOnThroughLast_54 : decode cX3_goOnThroughLast 54 = .ok (.getfield 88, 3) := by decide +kernel
theorem dX3_goOnThroughLast_57 : decode cX3_goOnThroughLast 57 = .ok (.aload_n 1, 1) := by decide +kernel
theorem dX3_goOnThroughLast_58 : decode cX3_goOnThroughLast 58 = .ok (.getfield 64, 3) := by decide +kernel
theorem dX3_goOnThroughLast_61 : decode cX3_goOnThroughLast 61 = .ok (.invokevirtual 97, 3) := by decide +kernel
theorem dX3_goOnThroughLast_64 : decode cX3_goOnThroughLast 64 = .ok (.aload_n 1, 1) := by decide +kernel
theorem dX3_goOnThroughLast_65 : decode cX3_goOnThroughLast 65 = .ok (.getfield 64, 3) := by decide +kernel
theorem dX3_goOnThroughLast_68 : decode cX3_goOnThroughLast 68 = .ok (.invokevirtual 67, 3) := by decide +kernel
theorem dX3_goOnThroughLast_71 : decode cX3_goOnThroughLast 71 = .ok (.sipush 510, 3) := by decide +kernel
theorem dX3_goOnThroughLast_74 : decode cX3_goOnThroughLast 74 = .ok (.iand, 1) := by decide +kernel
theorem dX3_goOnThroughLast_75 : decode cX3_goOnThroughLast 75 = .ok (.ifCond .eq 19, 3) := by decide +kernel
theorem dX3_goOnThroughLast_78 : decode cX3_goOnThroughLast 78 = .ok (.aload_n 0, 1) := by decide +kernel
theorem dX3_goOnThroughLast_79 : decode cX3_goOnThroughLast 79 = .ok (.dup, 1) := by decide +kernel
theorem dX3_goOnThroughLast_80 : decode cX3_goOnThroughLast 80 = .ok (.getfield 100, 3) := by decide +kernel
theorem dX3_goOnThroughLast_83 : decode cX3_goOnThroughLast 83 = .ok (.iconst 1, 1) := by decide +kernel
theorem dX3_goOnThroughLast_84 : decode cX3_goOnThroughLast 84 = .ok (.iload_n 2, 1) := by decide +kernel
theorem dX3_goOnThroughLast_85 : decode cX3_goOnThroughLast 85 = .ok (.ishl, 1) := by decide +kernel
theorem dX3_goOnThroughLast_86 : decode cX3_goOnThroughLast 86 = .ok (.sipush 510, 3) := by decide +kernel
theorem dX3_goOnThroughLast_89 : decode cX3_goOnThroughLast 89 = .ok (.iand, 1) := by decide +kernel
theorem dX3_goOnThroughLast_90 : decode cX3_goOnThroughLast 90 = .ok (.ior, 1) := by decide +kernel
theorem dX3_goOnThroughLast_91 : decode cX3_goOnThroughLast 91 = .ok (.putfield 100, 3) := by decide +kernel
theorem dX3_goOnThroughLast_94 : decode cX3_goOnThroughLast 94 = .ok (.iinc 2 1, 3) := by decide +kernel
theorem dX3_goOnThroughLast_97 : decode cX3_goOnThroughLast 97 = .ok (.goto (-95), 3) := by decide +kernel
theorem dX3_goOnThroughLast_100 : decode cX3_goOnThroughLast 100 = .ok (.return_, 1) := by decide +kernel
theorem dX3_vainFailures_0 : decode cX3_vainFailures 0 = .ok (.aload_n 0, 1) := by decide +kernel
theorem dX3_vainFailures_1 : decode cX3_vainFailures 1 = .ok (.invokevirtual 103, 3) := by decide +kernel
theorem dX3_vainFailures_4 : decode cX3_vainFailures 4 = .ok (.ifCond .eq 17, 3) := by decide +kernel
theorem dX3_vainFailures_7 : decode cX3_vainFailures 7 = .ok (.aload_n 0, 1) := by decide +kernel
theorem dX3_vainFailures_8 : decode cX3_vainFailures 8 = .ok (.getfield 31, 3) := by decide +kernel
theorem dX3_vainFailures_11 : decode cX3_vainFailures 11 = .ok (.aload_n 0, 1) := by decide +kernel
theorem dX3_vainFailures_12 : decode cX3_vainFailures 12 = .ok (.getfield 61, 3) := by decide +kernel
theorem dX3_vainFailures_15 : decode cX3_vainFailures 15 = .ok (.iconst (-1), 1) := by decide +kernel
theorem dX3_vainFailures_16 : decode cX3_vainFailures 16 = .ok (.ixor, 1) := by decide +kernel
theorem dX3_vainFailures_17 : decode cX3_vainFailures 17 = .ok (.iand, 1) := by decide +kernel
theorem dX3_vainFailures_18 : decode cX3_vainFailures 18 = .ok (.goto 4, 3) := by decide +kernel
theorem dX3_vainFailures_21 : decode cX3_vainFailures 21 = .ok (.iconst 0, 1) := by decide +kernel
theorem dX3_vainFailures_22 : decode cX3_vainFailures 22 = .ok (.ireturn, 1) := by decide +kernel
theorem dX3_forgetReport_0 : decode cX3_forgetReport 0 = .ok (.aload_n 0, 1) := by decide +kernel
theorem dX3_forgetReport_1 : decode cX3_forgetReport 1 = .ok (.invokespecial 106, 3) := by decide +kernel
theorem dX3_forgetReport_4 : decode cX3_forgetReport 4 = .ok (.aload_n 0, 1) := by decide +kernel
theorem dX3_forgetReport_5 : decode cX3_forgetReport 5 = .ok (.iconst 0, 1) := by decide +kernel
theorem dX3_forgetReport_6 : decode cX3_forgetReport 6 = .ok (.putfield 61, 3) := by decide +kernel
theorem dX3_forgetReport_9 : decode cX3_forgetReport 9 = .ok (.aload_n 0, 1) := by decide +kernel
theorem dX3_forgetReport_10 : decode cX3_forgetReport 10 = .ok (.iconst 0, 1) := by decide +kernel
theorem dX3_forgetReport_11 : decode cX3_forgetReport 11 = .ok (.putfield 100, 3) := by decide +kernel
theorem dX3_forgetReport_14 : decode cX3_forgetReport 14 = .ok (.return_, 1) := by decide +kernel
theorem dX4_setOf_0 : decode cX4_setOf 0 = .ok (.iconst 1, 1) := by decide +kernel
theorem dX4_setOf_1 : decode cX4_setOf 1 = .ok (.iload_n 0, 1) := by decide +kernel
theorem dX4_setOf_2 : decode cX4_setOf 2 = .ok (.ishl, 1) := by decide +kernel
theorem dX4_setOf_3 : decode cX4_setOf 3 = .ok (.ireturn, 1) := by decide +kernel
theorem dX4_has_0 : decode cX4_has 0 = .ok (.iload_n 0, 1) := by decide +kernel
theorem dX4_has_1 : decode cX4_has 1 = .ok (.iload_n 1, 1) := by decide +kernel
theorem dX4_has_2 : decode cX4_has 2 = .ok (.ishr, 1) := by decide +kernel
theorem dX4_has_3 : decode cX4_has 3 = .ok (.iconst 1, 1) := by decide +kernel
theorem dX4_has_4 : decode cX4_has 4 = .ok (.iand, 1) := by decide +kernel
theorem dX4_has_5 : decode cX4_has 5 = .ok (.ifCond .eq 7, 3) := by decide +kernel
theorem dX4_has_8 : decode cX4_has 8 = .ok (.iconst 1, 1) := by decide +kernel
theorem dX4_has_9 : decode cX4_has 9 = .ok (.goto 4, 3) := by decide +kernel
theorem dX4_has_12 : decode cX4_has 12 = .ok (.iconst 0, 1) := by decide +kernel
theorem dX4_has_13 : decode cX4_has 13 = .ok (.ireturn, 1) := by decide +kernel
theorem dX4_thoseThatAre_0 : decode cX4_thoseThatAre 0 = .ok (.iload_n 0, 1) := by decide +kernel
theorem dX4_thoseThatAre_1 : decode cX4_thoseThatAre 1 = .ok (.ifCond .lt 19, 3) := by decide +kernel
theorem dX4_thoseThatAre_4 : decode cX4_thoseThatAre 4 = .ok (.iload_n 0, 1) := by decide +kernel
theorem dX4_thoseThatAre_5 : decode cX4_thoseThatAre 5 = .ok (.getstatic 7, 3) := by decide +kernel
theorem dX4_thoseThatAre_8 : decode cX4_thoseThatAre 8 = .ok (.arraylength, 1) := by decide +kernel
theorem dX4_thoseThatAre_9 : decode cX4_thoseThatAre 9 = .ok (.if_icmp .ge 11, 3) := by decide +kernel
theorem dX4_thoseThatAre_12 : decode cX4_thoseThatAre 12 = .ok (.getstatic 7, 3) := by decide +kernel
theorem dX4_thoseThatAre_15 : decode cX4_thoseThatAre 15 = .ok (.iload_n 0, 1) := by decide +kernel
theorem dX4_thoseThatAre_16 : decode cX4_thoseThatAre 16 = .ok (.iaload, 1) := by decide +kernel
theorem dX4_thoseThatAre_17 : decode cX4_thoseThatAre 17 = .ok (.goto 4, 3) := by decide +kernel
theorem dX4_thoseThatAre_20 : decode cX4_thoseThatAre 20 = .ok (.iconst 0, 1) := by decide +kernel
theorem dX4_thoseThatAre_21 : decode cX4_thoseThatAre 21 = .ok (.ireturn, 1) := by decide +kernel
theorem dX4_thoseThatMeet_0 : decode cX4_thoseThatMeet 0 = .ok (.iload_n 0, 1) := by decide +kernel
theorem dX4_thoseThatMeet_1 : decode cX4_thoseThatMeet 1 = .ok (.ifCond .lt 19, 3) := by decide +kernel
theorem dX4_thoseThatMeet_4 : decode cX4_thoseThatMeet 4 = .ok (.iload_n 0, 1) := by decide +kernel
theorem dX4_thoseThatMeet_5 : decode cX4_thoseThatMeet 5 = .ok (.getstatic 13, 3) := by decide +kernel
theorem dX4_thoseThatMeet_8 : decode cX4_thoseThatMeet 8 = .ok (.arraylength, 1) := by decide +kernel
theorem dX4_thoseThatMeet_9 : decode cX4_thoseThatMeet 9 = .ok (.if_icmp .ge 11, 3) := by decide +kernel
theorem dX4_thoseThatMeet_12 : decode cX4_thoseThatMeet 12 = .ok (.getstatic 13, 3) := by decide +kernel
theorem dX4_thoseThatMeet_15 : decode cX4_thoseThatMeet 15 = .ok (.iload_n 0, 1) := by decide +kernel
theorem dX4_thoseThatMeet_16 : decode cX4_thoseThatMeet 16 = .ok (.iaload, 1) := by decide +kernel
theorem dX4_thoseThatMeet_17 : decode cX4_thoseThatMeet 17 = .ok (.goto 4, 3) := by decide +kernel
theorem dX4_thoseThatMeet_20 : decode cX4_thoseThatMeet 20 = .ok (.iconst 0, 1) := by decide +kernel
theorem dX4_thoseThatMeet_21 : decode cX4_thoseThatMeet 21 = .ok (.ireturn, 1) := by decide +kernel
theorem dX4_thoseThatTakeAllOf_0 : decode cX4_thoseThatTakeAllOf 0 = .ok (.iload_n 0, 1) := by decide +kernel
theorem dX4_thoseThatTakeAllOf_1 : decode cX4_thoseThatTakeAllOf 1 = .ok (.ifCond .lt 19, 3) := by decide +kernel
theorem dX4_thoseThatTakeAllOf_4 : decode cX4_thoseThatTakeAllOf 4 = .ok (.iload_n 0, 1) := by decide +kernel
theorem dX4_thoseThatTakeAllOf_5 : decode cX4_thoseThatTakeAllOf 5 = .ok (.getstatic 16, 3) := by decide +kernel
theorem dX4_thoseThatTakeAllOf_8 : decode cX4_thoseThatTakeAllOf 8 = .ok (.arraylength, 1) := by decide +kernel
theorem dX4_thoseThatTakeAllOf_9 : decode cX4_thoseThatTakeAllOf 9 = .ok (.if_icmp .ge 11, 3) := by decide +kernel
theorem dX4_thoseThatTakeAllOf_12 : decode cX4_thoseThatTakeAllOf 12 = .ok (.getstatic 16, 3) := by decide +kernel
theorem dX4_thoseThatTakeAllOf_15 : decode cX4_thoseThatTakeAllOf 15 = .ok (.iload_n 0, 1) := by decide +kernel
theorem dX4_thoseThatTakeAllOf_16 : decode cX4_thoseThatTakeAllOf 16 = .ok (.iaload, 1) := by decide +kernel
theorem dX4_thoseThatTakeAllOf_17 : decode cX4_thoseThatTakeAllOf 17 = .ok (.goto 4, 3) := by decide +kernel
theorem dX4_thoseThatTakeAllOf_20 : decode cX4_thoseThatTakeAllOf 20 = .ok (.iconst 0, 1) := by decide +kernel
theorem dX4_thoseThatTakeAllOf_21 : decode cX4_thoseThatTakeAllOf 21 = .ok (.ireturn, 1) := by decide +kernel
theorem dX4_ofItems_0 : decode cX4_ofItems 0 = .ok (.iload_n 0, 1) := by decide +kernel
theorem dX4_ofItems_1 : decode cX4_ofItems 1 = .ok (.ifCond .lt 19, 3) := by decide +kernel
theorem dX4_ofItems_4 : decode cX4_ofItems 4 = .ok (.iload_n 0, 1) := by decide +kernel
theorem dX4_ofItems_5 : decode cX4_ofItems 5 = .ok (.getstatic 19, 3) := by decide +kernel
theorem dX4_ofItems_8 : decode cX4_ofItems 8 = .ok (.arraylength, 1) := by decide +kernel
theorem dX4_ofItems_9 : decode cX4_ofItems 9 = .ok (.if_icmp .ge 11, 3) := by decide +kernel
theorem dX4_ofItems_12 : decode cX4_ofItems 12 = .ok (.getstatic 19, 3) := by decide +kernel
theorem dX4_ofItems_15 : decode cX4_ofItems 15 = .ok (.iload_n 0, 1) := by decide +kernel
theorem dX4_ofItems_16 : decode cX4_ofItems 16 = .ok (.iaload, 1) := by decide +kernel
theorem dX4_ofItems_17 : decode cX4_ofItems 17 = .ok (.goto 4, 3) := by decide +kernel
theorem dX4_ofItems_20 : decode cX4_ofItems 20 = .ok (.iconst 0, 1) := by decide +kernel
theorem dX4_ofItems_21 : decode cX4_ofItems 21 = .ok (.ireturn, 1) := by decide +kernel
theorem dX4_isRow_0 : decode cX4_isRow 0 = .ok (.iload_n 0, 1) := by decide +kernel
theorem dX4_isRow_1 : decode cX4_isRow 1 = .ok (.ifCond .le 13, 3) := by decide +kernel
theorem dX4_isRow_4 : decode cX4_isRow 4 = .ok (.iload_n 0, 1) := by decide +kernel
theorem dX4_isRow_5 : decode cX4_isRow 5 = .ok (.bipush 7, 2) := by decide +kernel
theorem dX4_isRow_7 : decode cX4_isRow 7 = .ok (.if_icmp .gt 7, 3) := by decide +kernel
theorem dX4_isRow_10 : decode cX4_isRow 10 = .ok (.iconst 1, 1) := by decide +kernel
theorem dX4_isRow_11 : decode cX4_isRow 11 = .ok (.goto 4, 3) := by decide +kernel
theorem dX4_isRow_14 : decode cX4_isRow 14 = .ok (.iconst 0, 1) := by decide +kernel
theorem dX4_isRow_15 : decode cX4_isRow 15 = .ok (.ireturn, 1) := by decide +kernel
theorem dX4_meeting_0 : decode cX4_meeting 0 = .ok (.iconst 0, 1) := by decide +kernel
theorem dX4_meeting_1 : decode cX4_meeting 1 = .ok (.istore_n 2, 1) := by decide +kernel
theorem dX4_meeting_2 : decode cX4_meeting 2 = .ok (.iconst 0, 1) := by decide +kernel
theorem dX4_meeting_3 : decode cX4_meeting 3 = .ok (.istore_n 3, 1) := by decide +kernel
theorem dX4_meeting_4 : decode cX4_meeting 4 = .ok (.iload_n 3, 1) := by decide +kernel
theorem dX4_meeting_5 : decode cX4_meeting 5 = .ok (.bipush 9, 2) := by decide +kernel
theorem dX4_meeting_7 : decode cX4_meeting 7 = .ok (.if_icmp .gt 33, 3) := by decide +kernel
theorem dX4_meeting_10 : decode cX4_meeting 10 = .ok (.iload_n 0, 1) := by decide +kernel
theorem dX4_meeting_11 : decode cX4_meeting 11 = .ok (.iload_n 3, 1) := by decide +kernel
theorem dX4_meeting_12 : decode cX4_meeting 12 = .ok (.invokestatic 22, 3) := by decide +kernel
theorem dX4_meeting_15 : decode cX4_meeting 15 = .ok (.ifCond .eq 19, 3) := by decide +kernel
theorem dX4_meeting_18 : decode cX4_meeting 18 = .ok (.iload_n 3, 1) := by decide +kernel
theorem dX4_meeting_19 : decode cX4_meeting 19 = .ok (.invokestatic 26, 3) := by decide +kernel
theorem dX4_meeting_22 : decode cX4_meeting 22 = .ok (.iload_n 1, 1) := by decide +kernel
theorem dX4_meeting_23 : decode cX4_meeting 23 = .ok (.iand, 1) := by decide +kernel
theorem dX4_meeting_24 : decode cX4_meeting 24 = .ok (.ifCond .eq 10, 3) := by decide +kernel
theorem dX4_meeting_27 : decode cX4_meeting 27 = .ok (.iload_n 2, 1) := by decide +kernel
theorem dX4_meeting_28 : decode cX4_meeting 28 = .ok (.iload_n 3, 1) := by decide +kernel
theorem dX4_meeting_29 : decode cX4_meeting 29 = .ok (.invokestatic 30, 3) := by decide +kernel
theorem dX4_meeting_32 : decode cX4_meeting 32 = .ok (.ior, 1) := by decide +kernel
theorem dX4_meeting_33 : decode cX4_meeting 33 = .ok (.istore_n 2, 1) := by decide +kernel
theorem dX4_meeting_34 : decode cX4_meeting 34 = .ok (.iinc 3 1, 3) := by decide +kernel
theorem dX4_meeting_37 : decode cX4_meeting 37 = .ok (.goto (-33), 3) := by decide +kernel
theorem dX4_meeting_40 : decode cX4_meeting 40 = .ok (.iload_n 2, 1) := by decide +kernel
theorem dX4_meeting_41 : decode cX4_meeting 41 = .ok (.ireturn, 1) := by decide +kernel
theorem dX4_copyMayFailByStore_0 : decode cX4_copyMayFailByStore 0 = .ok (.iconst 0, 1) := by decide +kernel
theorem dX4_copyMayFailByStore_1 : decode cX4_copyMayFailByStore 1 = .ok (.istore_n 2, 1) := by decide +kernel
theorem dX4_copyMayFailByStore_2 : decode cX4_copyMayFailByStore 2 = .ok (.iload_n 2, 1) := by decide +kernel
theorem dX4_copyMayFailByStore_3 : decode cX4_copyMayFailByStore 3 = .ok (.bipush 9, 2) := by decide +kernel
theorem dX4_copyMayFailByStore_5 : decode cX4_copyMayFailByStore 5 = .ok (.if_icmp .gt 30, 3) := by decide +kernel
theorem dX4_copyMayFailByStore_8 : decode cX4_copyMayFailByStore 8 = .ok (.iload_n 0, 1) := by decide +kernel
theorem dX4_copyMayFailByStore_9 : decode cX4_copyMayFailByStore 9 = .ok (.iload_n 2, 1) := by decide +kernel
theorem dX4_copyMayFailByStore_10 : decode cX4_copyMayFailByStore 10 = .ok (.invokestatic 22, 3) := by decide +kernel
theorem dX4_copyMayFailByStore_13 : decode cX4_copyMayFailByStore 13 = .ok (.ifCond .eq 16, 3) := by decide +kernel
theorem dX4_copyMayFailByStore_16 : decode cX4_copyMayFailByStore 16 = .ok (.iload_n 1, 1) := by decide +kernel
theorem dX4_copyMayFailByStore_17 : decode cX4_copyMayFailByStore 17 = .ok (.iload_n 2, 1) := by decide +kernel
theorem dX4_copyMayFailByStore_18 : decode cX4_copyMayFailByStore 18 = .ok (.invokestatic 33, 3) := by decide +kernel
theorem dX4_copyMayFailByStore_21 : decode cX4_copyMayFailByStore 21 = .ok (.iconst (-1), 1) := by decide +kernel
theorem dX4_copyMayFailByStore_22 : decode cX4_copyMayFailByStore 22 = .ok (.ixor, 1) := by decide +kernel
theorem dX4_copyMayFailByStore_23 : decode cX4_copyMayFailByStore 23 = .ok (.iand, 1) := by decide +kernel
theorem dX4_copyMayFailByStore_24 : decode cX4_copyMayFailByStore 24 = .ok (.ifCond .eq 5, 3) := by decide +kernel
theorem dX4_copyMayFailByStore_27 : decode cX4_copyMayFailByStore 27 = .ok (.iconst 1, 1) := by decide +kernel
theorem dX4_copyMayFailByStore_28 : decode cX4_copyMayFailByStore 28 = .ok (.ireturn, 1) := by decide +kernel
theorem dX4_copyMayFailByStore_29 : decode cX4_copyMayFailByStore 29 = .ok (.iinc 2 1, 3) := by decide +kernel
theorem dX4_copyMayFailByStore_32 : decode cX4_copyMayFailByStore 32 = .ok (.goto (-30), 3) := by decide +kernel
theorem dX4_copyMayFailByStore_35 : decode cX4_copyMayFailByStore 35 = .ok (.iconst 0, 1) := by decide +kernel
theorem dX4_copyMayFailByStore_36 : decode cX4_copyMayFailByStore 36 = .ok (.ireturn, 1) := by decide +kernel
theorem dX5_init_0 : decode cX5_init 0 = .ok (.aload_n 0, 1) := by decide +kernel
theorem dX5_init_1 : decode cX5_init 1 = .ok (.invokespecial 3, 3) := by decide +kernel
theorem dX5_init_4 : decode cX5_init 4 = .ok (.aload_n 0, 1) := by decide +kernel
theorem dX5_init_5 : decode cX5_init 5 = .ok (.new 9, 3) := by decide +kernel
theorem dX5_init_8 : decode cX5_init 8 = .ok (.dup, 1) := by decide +kernel
theorem dX5_init_9 : decode cX5_init 9 = .ok (.invokespecial 11, 3) := by decide +kernel
theorem dX5_init_12 : decode cX5_init 12 = .ok (.putfield 12, 3) := by decide +kernel
theorem dX5_init_15 : decode cX5_init 15 = .ok (.aload_n 0, 1) := by decide +kernel
theorem dX5_init_16 : decode cX5_init 16 = .ok (.bipush 12, 2) := by decide +kernel
theorem dX5_init_18 : decode cX5_init 18 = .ok (.newarray .int, 2) := by decide +kernel
theorem dX5_init_20 : decode cX5_init 20 = .ok (.putfield 18, 3) := by decide +kernel
theorem dX5_init_23 : decode cX5_init 23 = .ok (.aload_n 0, 1) := by decide +kernel
theorem dX5_init_24 : decode cX5_init 24 = .ok (.bipush 8, 2) := by decide +kernel
theorem dX5_init_26 : decode cX5_init 26 = .ok (.newarray .long, 2) := by decide +kernel
theorem dX5_init_28 : decode cX5_init 28 = .ok (.putfield 22, 3) := by decide +kernel
theorem dX5_init_31 : decode cX5_init 31 = .ok (.aload_n 0, 1) := by decide +kernel
theorem dX5_init_32 : decode cX5_init 32 = .ok (.iconst (-1), 1) := by decide +kernel
theorem dX5_init_33 : decode cX5_init 33 = .ok (.putfield 26, 3) := by decide +kernel
theorem dX5_init_36 : decode cX5_init 36 = .ok (.return_, 1) := by decide +kernel
theorem dX5_beginRun_0 : decode cX5_beginRun 0 = .ok (.aload_n 0, 1) := by decide +kernel
theorem dX5_beginRun_1 : decode cX5_beginRun 1 = .ok (.iconst 0, 1) := by decide +kernel
theorem dX5_beginRun_2 : decode cX5_beginRun 2 = .ok (.putfield 30, 3) := by decide +kernel
theorem dX5_beginRun_5 : decode cX5_beginRun 5 = .ok (.aload_n 0, 1) := by decide +kernel
theorem dX5_beginRun_6 : decode cX5_beginRun 6 = .ok (.iconst 0, 1) := by decide +kernel
theorem dX5_beginRun_7 : decode cX5_beginRun 7 = .ok (.putfield 33, 3) := by decide +kernel
theorem dX5_beginRun_10 : decode cX5_beginRun 10 = .ok (.aload_n 0, 1) := by decide +kernel
theorem dX5_beginRun_11 : decode cX5_beginRun 11 = .ok (.iconst 0, 1) := by decide +kernel
theorem dX5_beginRun_12 : decode cX5_beginRun 12 = .ok (.putfield 36, 3) := by decide +kernel
theorem dX5_beginRun_15 : decode cX5_beginRun 15 = .ok (.aload_n 0, 1) := by decide +kernel
theorem dX5_beginRun_16 : decode cX5_beginRun 16 = .ok (.iconst 0, 1) := by decide +kernel
theorem dX5_beginRun_17 : decode cX5_beginRun 17 = .ok (.putfield 39, 3) := by decide +kernel
theorem dX5_beginRun_20 : decode cX5_beginRun 20 = .ok (.aload_n 0, 1) := by decide +kernel
theorem dX5_beginRun_21 : decode cX5_beginRun 21 = .ok (.iconst 0, 1) := by decide +kernel
theorem dX5_beginRun_22 : decode cX5_beginRun 22 = .ok (.putfield 42, 3) := by decide +kernel
theorem dX5_beginRun_25 : decode cX5_beginRun 25 = .ok (.aload_n 0, 1) := by decide +kernel
theorem dX5_beginRun_26 : decode cX5_beginRun 26 = .ok (.iconst (-1), 1) := by decide +kernel
theorem dX5_beginRun_27 : decode cX5_beginRun 27 = .ok (.putfield 26, 3) := by decide +kernel
theorem dX5_beginRun_30 : decode cX5_beginRun 30 = .ok (.return_, 1) := by decide +kernel
theorem dX5_empty_0 : decode cX5_empty 0 = .ok (.aload_n 0, 1) := by decide +kernel
theorem dX5_empty_1 : decode cX5_empty 1 = .ok (.getfield 18, 3) := by decide +kernel
theorem dX5_empty_4 : decode cX5_empty 4 = .ok (.iconst 0, 1) := by decide +kernel
theorem dX5_empty_5 : decode cX5_empty 5 = .ok (.invokestatic 45, 3) := by decide +kernel
theorem dX5_empty_8 : decode cX5_empty 8 = .ok (.aload_n 0, 1) := by decide +kernel
theorem dX5_empty_9 : decode cX5_empty 9 = .ok (.getfield 22, 3) := by decide +kernel
theorem dX5_empty_12 : decode cX5_empty 12 = .ok (.lconst 0, 1) := by decide +kernel
theorem dX5_empty_13 : decode cX5_empty 13 = .ok (.invokestatic 51, 3) := by decide +kernel
theorem dX5_empty_16 : decode cX5_empty 16 = .ok (.aload_n 0, 1) := by decide +kernel
theorem dX5_empty_17 : decode cX5_empty 17 = .ok (.getfield 12, 3) := by decide +kernel
theorem dX5_empty_20 : decode cX5_empty 20 = .ok (.invokevirtual 54, 3) := by decide +kernel
theorem dX5_empty_23 : decode cX5_empty 23 = .ok (.ireturn, 1) := by decide +kernel
theorem dX5_holds_0 : decode cX5_holds 0 = .ok (.iload_n 2, 1) := by decide +kernel
theorem dX5_holds_1 : decode cX5_holds 1 = .ok (.invokestatic 58, 3) := by decide +kernel
theorem dX5_holds_4 : decode cX5_holds 4 = .ok (.aload_n 0, 1) := by decide +kernel
theorem dX5_holds_5 : decode cX5_holds 5 = .ok (.getfield 12, 3) := by decide +kernel
theorem dX5_holds_8 : decode cX5_holds 8 = .ok (.aload_n 0, 1) := by decide +kernel
theorem dX5_holds_9 : decode cX5_holds 9 = .ok (.getfield 18, 3) := by decide +kernel
theorem dX5_holds_12 : decode cX5_holds 12 = .ok (.iload_n 1, 1) := by decide +kernel
theorem dX5_holds_13 : decode cX5_holds 13 = .ok (.iaload, 1) := by decide +kernel
theorem dX5_holds_14 : decode cX5_holds 14 = .ok (.invokevirtual 64, 3) := by decide +kernel
theorem dX5_holds_17 : decode cX5_holds 17 = .ok (.invokestatic 67, 3) := by decide +kernel
theorem dX5_holds_20 : decode cX5_holds 20 = .ok (.ireturn, 1) := by decide +kernel
theorem dX5_perform_0 : decode cX5_perform 0 = .ok (.iload_n 1, 1) := by decide +kernel
theorem dX5_perform_1 : decode cX5_perform 1 = .ok (.tableswitch 265 0 16 #[83, 92, 101, 109, 128, 137, 148, 159, 170, 181, 190, 197, 204, 215, 225, 247, 256], 83) := by decide +kernel
theorem dX5_perform_84 : decode cX5_perform 84 = .ok (.aload_n 0, 1) := by decide +kernel
theorem dX5_perform_85 : decode cX5_perform 85 = .ok (.iload_n 2, 1) := by decide +kernel
theorem dX5_perform_86 : decode cX5_perform 86 = .ok (.iload_n 3, 1) := by decide +kernel
theorem dX5_perform_87 : decode cX5_perform 87 = .ok (.iload 4, 2) := by decide +kernel
theorem dX5_perform_89 : decode cX5_perform 89 = .ok (.invokevirtual 71, 3) := by decide +kernel
theorem dX5_perform_92 : decode cX5_perform 92 = .ok (.ireturn, 1) := by decide +kernel
theorem dX5_perform_93 : decode cX5_perform 93 = .ok (.aload_n 0, 1) := by decide +kernel
theorem dX5_perform_94 : decode cX5_perform 94 = .ok (.iload_n 2, 1) := by decide +kernel
theorem dX5_perform_95 : decode cX5_perform 95 = .ok (.iload_n 3, 1) := by decide +kernel
theorem dX5_perform_96 : decode cX5_perform 96 = .ok (.iload 4, 2) := by decide +kernel
theorem dX5_perform_98 : decode cX5_perform 98 = .ok (.invokevirtual 75, 3) := by decide +kernel
theorem dX5_perform_101 : decode cX5_perform 101 = .ok (.ireturn, 1) := by decide +kernel
theorem dX5_perform_102 : decode cX5_perform 102 = .ok (.aload_n 0, 1) := by decide +kernel
theorem dX5_perform_103 : decode cX5_perform 103 = .ok (.iload_n 2, 1) := by decide +kernel
theorem dX5_perform_104 : decode cX5_perform 104 = .ok (.iconst 5, 1) := by decide +kernel
theorem dX5_perform_105 : decode cX5_perform 105 = .ok (.iload_n 3, 1) := by decide +kernel
theorem dX5_perform_106 : decode cX5_perform 106 = .ok (.invokevirtual 71, 3) := by decide +kernel
theorem dX5_perform_109 : decode cX5_perform 109 = .ok (.ireturn, 1) := by decide +kernel
theorem dX5_perform_110 : decode cX5_perform 110 = .ok (.aload_n 0, 1) := by decide +kernel
theorem dX5_perform_111 : decode cX5_perform 111 = .ok (.iload_n 2, 1) := by decide +kernel
theorem dX5_perform_112 : decode cX5_perform 112 = .ok (.iload_n 3, 1) := by decide +kernel
theorem dX5_perform_113 : decode cX5_perform 113 = .ok (.ifCond .ne 8, 3) := by decide +kernel
theorem dX5_perform_116 : decode cX5_perform 116 = .ok (.bipush 8, 2) := by decide +kernel
theorem dX5_perform_118 : decode cX5_perform 118 = .ok (.goto 5, 3) := by decide +kernel
theorem dX5_perform_121 : decode cX5_perform 121 = .ok (.bipush 9, 2) := by decide +kernel
theorem dX5_perform_123 : decode cX5_perform 123 = .ok (.iload 4, 2) := by decide +kernel
theorem dX5_perform_125 : decode cX5_perform 125 = .ok (.invokevirtual 78, 3) := by decide +kernel
theorem dX5_perform_128 : decode cX5_perform 128 = .ok (.ireturn, 1) := by decide +kernel
theorem dX5_perform_129 : decode cX5_perform 129 = .ok (.aload_n 0, 1) := by decide +kernel
theorem dX5_perform_130 : decode cX5_perform 130 = .ok (.iload_n 2, 1) := by decide +kernel
theorem dX5_perform_131 : decode cX5_perform 131 = .ok (.iload_n 3, 1) := by decide +kernel
theorem dX5_perform_132 : decode cX5_perform 132 = .ok (.iload 4, 2) := by decide +kernel
theorem dX5_perform_134 : decode cX5_perform 134 = .ok (.invokevirtual 81, 3) := by decide +kernel
theorem dX5_perform_137 : decode cX5_perform 137 = .ok (.ireturn, 1) := by decide +kernel
theorem dX5_perform_138 : decode cX5_perform 138 = .ok (.aload_n 0, 1) := by decide +kernel
theorem dX5_perform_139 : decode cX5_perform 139 = .ok (.iload_n 2, 1) := by decide +kernel
theorem dX5_perform_140 : decode cX5_perform 140 = .ok (.iload_n 3, 1) := by decide +kernel
theorem dX5_perform_141 : decode cX5_perform 141 = .ok (.iload 4, 2) := by decide +kernel
theorem dX5_perform_143 : decode cX5_perform 143 = .ok (.iload 5, 2) := by decide +kernel
theorem dX5_perform_145 : decode cX5_perform 145 = .ok (.invokevirtual 84, 3) := by decide +kernel
theorem dX5_perform_148 : decode cX5_perform 148 = .ok (.ireturn, 1) := by decide +kernel
theorem dX5_perform_149 : decode cX5_perform 149 = .ok (.aload_n 0, 1) := by decide +kernel
theorem dX5_perform_150 : decode cX5_perform 150 = .ok (.iload_n 2, 1) := by decide +kernel
theorem dX5_perform_151 : decode cX5_perform 151 = .ok (.iload_n 3, 1) := by decide +kernel
theorem dX5_perform_152 : decode cX5_perform 152 = .ok (.iload 4, 2) := by decide +kernel
theorem dX5_perform_154 : decode cX5_perform 154 = .ok (.iload 5, 2) := by decide +kernel
theorem dX5_perform_156 : decode cX5_perform 156 = .ok (.invokevirtual 88, 3) := by decide +kernel
theorem dX5_perform_159 : decode cX5_perform 159 = .ok (.ireturn, 1) := by decide +kernel
theorem dX5_perform_160 : decode cX5_perform 160 = .ok (.aload_n 0, 1) := by decide +kernel
theorem dX5_perform_161 : decode cX5_perform 161 = .ok (.iload_n 2, 1) := by decide +kernel
theorem dX5_perform_162 : decode cX5_perform 162 = .ok (.iload_n 3, 1) := by decide +kernel
theorem dX5_perform_163 : decode cX5_perform 163 = .ok (.iload 4, 2) := by decide +kernel
theorem dX5_perform_165 : decode cX5_perform 165 = .ok (.iload 5, 2) := by decide +kernel
theorem dX5_perform_167 : decode cX5_perform 167 = .ok (.invokevirtual 91, 3) := by decide +kernel
theorem dX5_perform_170 : decode cX5_perform 170 = .ok (.ireturn, 1) := by decide +kernel
theorem dX5_perform_171 : decode cX5_perform 171 = .ok (.aload_n 0, 1) := by decide +kernel
theorem dX5_perform_172 : decode cX5_perform 172 = .ok (.iload_n 2, 1) := by decide +kernel
theorem dX5_perform_173 : decode cX5_perform 173 = .ok (.iload_n 3, 1) := by decide +kernel
theorem dX5_perform_174 : decode cX5_perform 174 = .ok (.iload 4, 2) := by decide +kernel
theorem dX5_perform_176 : decode cX5_perform 176 = .ok (.iload 5, 2) := by decide +kernel
theorem dX5_perform_178 : decode cX5_perform 178 = .ok (.invokevirtual 94, 3) := by decide +kernel
theorem dX5_perform_181 : decode cX5_perform 181 = .ok (.ireturn, 1) := by decide +kernel
theorem dX5_perform_182 : decode cX5_perform 182 = .ok (.aload_n 0, 1) := by decide +kernel
theorem dX5_perform_183 : decode cX5_perform 183 = .ok (.iload_n 2, 1) := by decide +kernel
theorem dX5_perform_184 : decode cX5_perform 184 = .ok (.iload_n 3, 1) := by decide +kernel
theorem dX5_perform_185 : decode cX5_perform 185 = .ok (.iload 4, 2) := by decide +kernel
theorem dX5_perform_187 : decode cX5_perform 187 = .ok (.invokevirtual 97, 3) := by decide +kernel
theorem dX5_perform_190 : decode cX5_perform 190 = .ok (.ireturn, 1) := by decide +kernel
theorem dX5_perform_191 : decode cX5_perform 191 = .ok (.aload_n 0, 1) := by decide +kernel
theorem dX5_perform_192 : decode cX5_perform 192 = .ok (.iload_n 2, 1) := by decide +kernel
theorem dX5_perform_193 : decode cX5_perform 193 = .ok (.iload_n 3, 1) := by decide +kernel
theorem dX5_perform_194 : decode cX5_perform 194 = .ok (.invokevirtual 100, 3) := by decide +kernel
theorem dX5_perform_197 : decode cX5_perform 197 = .ok (.ireturn, 1) := by decide +kernel
theorem dX5_perform_198 : decode cX5_perform 198 = .ok (.aload_n 0, 1) := by decide +kernel
theorem dX5_perform_199 : decode cX5_perform 199 = .ok (.iload_n 2, 1) := by decide +kernel
theorem dX5_perform_200 : decode cX5_perform 200 = .ok (.iload_n 3, 1) := by decide +kernel
theorem dX5_perform_201 : decode cX5_perform 201 = .ok (.invokevirtual 104, 3) := by decide +kernel
theorem dX5_perform_204 : decode cX5_perform 204 = .ok (.ireturn, 1) := by decide +kernel
theorem dX5_perform_205 : decode cX5_perform 205 = .ok (.aload_n 0, 1) := by decide +kernel
theorem dX5_perform_206 : decode cX5_perform 206 = .ok (.iload_n 2, 1) := by decide +kernel
theorem dX5_perform_207 : decode cX5_perform 207 = .ok (.iload_n 3, 1) := by decide +kernel
theorem dX5_perform_208 : decode cX5_perform 208 = .ok (.iload 4, 2) := by decide +kernel
theorem dX5_perform_210 : decode cX5_perform 210 = .ok (.iload 5, 2) := by decide +kernel
theorem dX5_perform_212 : decode cX5_perform 212 = .ok (.invokevirtual 107, 3) := by decide +kernel
theorem dX5_perform_215 : decode cX5_perform 215 = .ok (.ireturn, 1) := by decide +kernel
theorem dX5_perform_216 : decode cX5_perform 216 = .ok (.aload_n 0, 1) := by decide +kernel
theorem dX5_perform_217 : decode cX5_perform 217 = .ok (.getfield 22, 3) := by decide +kernel
theorem dX5_perform_220 : decode cX5_perform 220 = .ok (.iload_n 2, 1) := by decide +kernel
theorem dX5_perform_221 : decode cX5_perform 221 = .ok (.iload_n 3, 1) := by decide +kernel
theorem dX5_perform_222 : decode cX5_perform 222 = .ok (.i2l, 1) := by decide +kernel
theorem dX5_perform_223 : decode cX5_perform 223 = .ok (.lastore, 1) := by decide +kernel
theorem dX5_perform_224 : decode cX5_perform 224 = .ok (.iconst 0, 1) := by decide +kernel
theorem dX5_perform_225 : decode cX5_perform 225 = .ok (.ireturn, 1) := by decide +kernel
theorem dX5_perform_226 : decode cX5_perform 226 = .ok (.aload_n 0, 1) := by decide +kernel
theorem dX5_perform_227 : decode cX5_perform 227 = .ok (.getfield 22, 3) := by decide +kernel
theorem dX5_perform_230 : decode cX5_perform 230 = .ok (.iload_n 2, 1) := by decide +kernel
theorem dX5_perform_231 : decode cX5_perform 231 = .ok (.aload_n 0, 1) := by decide +kernel
theorem dX5_perform_232 : decode cX5_perform 232 = .ok (.getfield 22, 3) := by decide +kernel
theorem dX5_perform_235 : decode cX5_perform 235 = .ok (.iload_n 3, 1) := by decide +kernel
theorem dX5_perform_236 : decode cX5_perform 236 = .ok (.laload, 1) := by decide +kernel
theorem dX5_perform_237 : decode cX5_perform 237 = .ok (.aload_n 0, 1) := by decide +kernel
theorem dX5_perform_238 : decode cX5_perform 238 = .ok (.getfield 22, 3) := by decide +kernel
theorem dX5_perform_241 : decode cX5_perform 241 = .ok (.iload 4, 2) := by decide +kernel
theorem dX5_perform_243 : decode cX5_perform 243 = .ok (.laload, 1) := by decide +kernel
theorem dX5_perform_244 : decode cX5_perform 244 = .ok (.ladd, 1) := by decide +kernel
theorem dX5_perform_245 : decode cX5_perform 245 = .ok (.lastore, 1) := by decide +kernel
theorem dX5_perform_246 : decode cX5_perform 246 = .ok (.iconst 0, 1) := by decide +kernel
theorem dX5_perform_247 : decode cX5_perform 247 = .ok (.ireturn, 1) := by decide +kernel
theorem dX5_perform_248 : decode cX5_perform 248 = .ok (.aload_n 0, 1) := by decide +kernel
theorem dX5_perform_249 : decode cX5_perform 249 = .ok (.iload_n 2, 1) := by decide +kernel
theorem dX5_perform_250 : decode cX5_perform 250 = .ok (.iload_n 3, 1) := by decide +kernel
theorem dX5_perform_251 : decode cX5_perform 251 = .ok (.iload 4, 2) := by decide +kernel
theorem dX5_perform_253 : decode cX5_perform 253 = .ok (.invokevirtual 110, 3) := by decide +kernel
theorem dX5_perform_256 : decode cX5_perform 256 = .ok (.ireturn, 1) := by decide +kernel
theorem dX5_perform_257 : decode cX5_perform 257 = .ok (.aload_n 0, 1) := by decide +kernel
theorem dX5_perform_258 : decode cX5_perform 258 = .ok (.iload_n 2, 1) := by decide +kernel
theorem dX5_perform_259 : decode cX5_perform 259 = .ok (.iload_n 3, 1) := by decide +kernel
theorem dX5_perform_260 : decode cX5_perform 260 = .ok (.iload 4, 2) := by decide +kernel
theorem dX5_perform_262 : decode cX5_perform 262 = .ok (.invokevirtual 113, 3) := by decide +kernel
theorem dX5_perform_265 : decode cX5_perform 265 = .ok (.ireturn, 1) := by decide +kernel
theorem dX5_perform_266 : decode cX5_perform 266 = .ok (.bipush 7, 2) := by decide +kernel
theorem dX5_perform_268 : decode cX5_perform 268 = .ok (.ireturn, 1) := by decide +kernel
theorem dX5_kindIn_0 : decode cX5_kindIn 0 = .ok (.aload_n 0, 1) := by decide +kernel
theorem dX5_kindIn_1 : decode cX5_kindIn 1 = .ok (.getfield 12, 3) := by decide +kernel
theorem dX5_kindIn_4 : decode cX5_kindIn 4 = .ok (.aload_n 0, 1) := by decide +kernel
theorem dX5_kindIn_5 : decode cX5_kindIn 5 = .ok (.getfield 18, 3) := by decide +kernel
theorem dX5_kindIn_8 : decode cX5_kindIn 8 = .ok (.iload_n 1, 1) := by decide +kernel
theorem dX5_kindIn_9 : decode cX5_kindIn 9 = .ok (.iaload, 1) := by decide +kernel
theorem dX5_kindIn_10 : decode cX5_kindIn 10 = .ok (.invokevirtual 64, 3) := by decide +kernel
theorem dX5_kindIn_13 : decode cX5_kindIn 13 = .ok (.ireturn, 1) := by decide +kernel
theorem dX5_unlessAs_0 : decode cX5_unlessAs 0 = .ok (.aload_n 0, 1) := by decide +kernel
theorem dX5_unlessAs_1 : decode cX5_unlessAs 1 = .ok (.getfield 18, 3) := by decide +kernel
theorem dX5_unlessAs_4 : decode cX5_unlessAs 4 = .ok (.iload_n 1, 1) := by decide +kernel
theorem dX5_unlessAs_5 : decode cX5_unlessAs 5 = .ok (.iaload, 1) := by decide +kernel
theorem dX5_unlessAs_6 : decode cX5_unlessAs 6 = .ok (.ifCond .eq 12, 3) := by decide +kernel
theorem dX5_unlessAs_9 : decode cX5_unlessAs 9 = .ok (.aload_n 0, 1) := by decide +kernel
theorem dX5_unlessAs_10 : decode cX5_unlessAs 10 = .ok (.iload_n 1, 1) := by decide +kernel
theorem dX5_unlessAs_11 : decode cX5_unlessAs 11 = .ok (.iload_n 2, 1) := by decide +kernel
theorem dX5_unlessAs_12 : decode cX5_unlessAs 12 = .ok (.invokevirtual 116, 3) := by decide +kernel
theorem dX5_unlessAs_15 : decode cX5_unlessAs 15 = .ok (.ifCond .eq 7, 3) := by decide +kernel
theorem dX5_unlessAs_18 : decode cX5_unlessAs 18 = .ok (.iconst 0, 1) := by decide +kernel
theorem dX5_unlessAs_19 : decode cX5_unlessAs 19 = .ok (.goto 4, 3) := by decide +kernel
theorem dX5_unlessAs_22 : decode cX5_unlessAs 22 = .ok (.iconst 2, 1) := by decide +kernel
theorem dX5_unlessAs_23 : decode cX5_unlessAs 23 = .ok (.ireturn, 1) := by decide +kernel
theorem dX5_unlessSomething_0 : decode cX5_unlessSomething 0 = .ok (.aload_n 0, 1) := by decide +kernel
theorem dX5_unlessSomething_1 : decode cX5_unlessSomething 1 = .ok (.getfield 18, 3) := by decide +kernel
theorem dX5_unlessSomething_4 : decode cX5_unlessSomething 4 = .ok (.iload_n 1, 1) := by decide +kernel
theorem dX5_unlessSomething_5 : decode cX5_unlessSomething 5 = .ok (.iaload, 1) := by decide +kernel
theorem dX5_unlessSomething_6 : decode cX5_unlessSomething 6 = .ok (.ifCond .ne 5, 3) := by decide +kernel
theorem dX5_unlessSomething_9 : decode cX5_unlessSomething 9 = .ok (.iconst 1, 1) := by decide +kernel
theorem dX5_unlessSomething_10 : decode cX5_unlessSomething 10 = .ok (.ireturn, 1) := by decide +kernel
theorem dX5_unlessSomething_11 : decode cX5_unlessSomething 11 = .ok (.aload_n 0, 1) := by decide +kernel
theorem dX5_unlessSomething_12 : decode cX5_unlessSomething 12 = .ok (.iload_n 1, 1) := by decide +kernel
theorem dX5_unlessSomething_13 : decode cX5_unlessSomething 13 = .ok (.iload_n 2, 1) := by decide +kernel
theorem dX5_unlessSomething_14 : decode cX5_unlessSomething 14 = .ok (.invokevirtual 116, 3) := by decide +kernel
theorem dX5_unlessSomething_17 : decode cX5_unlessSomething 17 = .ok (.ifCond .eq 7, 3) := by decide +kernel
theorem dX5_unlessSomething_20 : decode cX5_unlessSomething 20 = .ok (.iconst 0, 1) := by decide +kernel
theorem dX5_unlessSomething_21 : decode cX5_unlessSomething 21 = .ok (.goto 4, 3) := by decide +kernel
theorem dX5_unlessSomething_24 : decode cX5_unlessSomething 24 = .ok (.iconst 2, 1) := by decide +kernel
theorem dX5_unlessSomething_25 : decode cX5_unlessSomething 25 = .ok (.ireturn, 1) := by decide +kernel
theorem dX5_unlessItem_0 : decode cX5_unlessItem 0 = .ok (.aload_n 0, 1) := by decide +kernel
theorem dX5_unlessItem_1 : decode cX5_unlessItem 1 = .ok (.getfield 18, 3) := by decide +kernel
theorem dX5_unlessItem_4 : decode cX5_unlessItem 4 = .ok (.iload_n 1, 1) := by decide +kernel
theorem dX5_unlessItem_5 : decode cX5_unlessItem 5 = .ok (.iaload, 1) := by decide +kernel
theorem dX5_unlessItem_6 : decode cX5_unlessItem 6 = .ok (.ifCond .ne 5, 3) := by decide +kernel
theorem dX5_unlessItem_9 : decode cX5_unlessItem 9 = .ok (.iconst 1, 1) := by decide +kernel
theorem dX5_unlessItem_10 : decode cX5_unlessItem 10 = .ok (.ireturn, 1) := by decide +kernel
theorem dX5_unlessItem_11 : decode cX5_unlessItem 11 = .ok (.aload_n 0, 1) := by decide +kernel
theorem dX5_unlessItem_12 : decode cX5_unlessItem 12 = .ok (.iload_n 1, 1) := by decide +kernel
theorem dX5_unlessItem_13 : decode cX5_unlessItem 13 = .ok (.iload_n 2, 1) := by decide +kernel
theorem dX5_unlessItem_14 : decode cX5_unlessItem 14 = .ok (.invokevirtual 116, 3) := by decide +kernel
theorem dX5_unlessItem_17 : decode cX5_unlessItem 17 = .ok (.ifCond .ne 5, 3) := by decide +kernel
theorem dX5_unlessItem_20 : decode cX5_unlessItem 20 = .ok (.iconst 2, 1) := by decide +kernel
theorem dX5_unlessItem_21 : decode cX5_unlessItem 21 = .ok (.ireturn, 1) := by decide +kernel
theorem dX5_unlessItem_22 : decode cX5_unlessItem 22 = .ok (.aload_n 0, 1) := by decide +kernel
theorem dX5_unlessItem_23 : decode cX5_unlessItem 23 = .ok (.getfield 12, 3) := by decide +kernel
theorem dX5_unlessItem_26 : decode cX5_unlessItem 26 = .ok (.aload_n 0, 1) := by decide +kernel
theorem dX5_unlessItem_27 : decode cX5_unlessItem 27 = .ok (.getfield 18, 3) := by decide +kernel
theorem dX5_unlessItem_30 : decode cX5_unlessItem 30 = .ok (.iload_n 1, 1) := by decide +kernel
theorem dX5_unlessItem_31 : decode cX5_unlessItem 31 = .ok (.iaload, 1) := by decide +kernel
theorem dX5_unlessItem_32 : decode cX5_unlessItem 32 = .ok (.iload_n 3, 1) := by decide +kernel
theorem dX5_unlessItem_33 : decode cX5_unlessItem 33 = .ok (.invokevirtual 119, 3) := by decide +kernel
theorem dX5_unlessItem_36 : decode cX5_unlessItem 36 = .ok (.ifCond .eq 7, 3) := by decide +kernel
theorem dX5_unlessItem_39 : decode cX5_unlessItem 39 = .ok (.iconst 0, 1) := by decide +kernel
theorem dX5_unlessItem_40 : decode cX5_unlessItem 40 = .ok (.goto 4, 3) := by decide +kernel
theorem dX5_unlessItem_43 : decode cX5_unlessItem 43 = .ok (.iconst 3, 1) := by decide +kernel
theorem dX5_unlessItem_44 : decode cX5_unlessItem 44 = .ok (.ireturn, 1) := by decide +kernel
theorem dX5_make_0 : decode cX5_make 0 = .ok (.iload_n 3, 1) := by decide +kernel
theorem dX5_make_1 : decode cX5_make 1 = .ok (.ifCond .ge 5, 3) := by decide +kernel
theorem dX5_make_4 : decode cX5_make 4 = .ok (.iconst 4, 1) := by decide +kernel
theorem dX5_make_5 : decode cX5_make 5 = .ok (.ireturn, 1) := by decide +kernel
theorem dX5_make_6 : decode cX5_make 6 = .ok (.aload_n 0, 1) := by decide +kernel
theorem dX5_make_7 : decode cX5_make 7 = .ok (.getfield 12, 3) := by decide +kernel
theorem dX5_make_10 : decode cX5_make 10 = .ok (.lconst 1, 1) := by decide +kernel
theorem dX5_make_11 : decode cX5_make 11 = .ok (.iload_n 3, 1) := by decide +kernel
theorem dX5_make_12 : decode cX5_make 12 = .ok (.i2l, 1) := by decide +kernel
theorem dX5_make_13 : decode cX5_make 13 = .ok (.invokevirtual 122, 3) := by decide +kernel
theorem dX5_make_16 : decode cX5_make 16 = .ok (.ifCond .ne 6, 3) := by decide +kernel
theorem dX5_make_19 : decode cX5_make 19 = .ok (.bipush 8, 2) := by decide +kernel
theorem dX5_make_21 : decode cX5_make 21 = .ok (.ireturn, 1) := by decide +kernel
theorem dX5_make_22 : decode cX5_make 22 = .ok (.aload_n 0, 1) := by decide +kernel
theorem dX5_make_23 : decode cX5_make 23 = .ok (.getfield 18, 3) := by decide +kernel
theorem dX5_make_26 : decode cX5_make 26 = .ok (.iload_n 1, 1) := by decide +kernel
theorem dX5_make_27 : decode cX5_make 27 = .ok (.aload_n 0, 1) := by decide +kernel
theorem dX5_make_28 : decode cX5_make 28 = .ok (.getfield 12, 3) := by decide +kernel
theorem dX5_make_31 : decode cX5_make 31 = .ok (.iload_n 2, 1) := by decide +kernel
theorem dX5_make_32 : decode cX5_make 32 = .ok (.iload_n 3, 1) := by decide +kernel
theorem dX5_make_33 : decode cX5_make 33 = .ok (.invokevirtual 126, 3) := by decide +kernel
theorem dX5_make_36 : decode cX5_make 36 = .ok (.iastore, 1) := by decide +kernel
theorem dX5_make_37 : decode cX5_make 37 = .ok (.iconst 0, 1) := by decide +kernel
theorem dX5_make_38 : decode cX5_make 38 = .ok (.ireturn, 1) := by decide +kernel
theorem dX5_makeDeep_0 : decode cX5_makeDeep 0 = .ok (.iload_n 2, 1) := by decide +kernel
theorem dX5_makeDeep_1 : decode cX5_makeDeep 1 = .ok (.ifCond .lt 7, 3) := by decide +kernel
theorem dX5_makeDeep_4 : decode cX5_makeDeep 4 = .ok (.iload_n 3, 1) := by decide +kernel
theorem dX5_makeDeep_5 : decode cX5_makeDeep 5 = .ok (.ifCond .ge 5, 3) := by decide +kernel
theorem dX5_makeDeep_8 : decode cX5_makeDeep 8 = .ok (.iconst 4, 1) := by decide +kernel
theorem dX5_makeDeep_9 : decode cX5_makeDeep 9 = .ok (.ireturn, 1) := by decide +kernel
theorem dX5_makeDeep_10 : decode cX5_makeDeep 10 = .ok (.aload_n 0, 1) := by decide +kernel
theorem dX5_makeDeep_11 : decode cX5_makeDeep 11 = .ok (.getfield 12, 3) := by decide +kernel
theorem dX5_makeDeep_14 : decode cX5_makeDeep 14 = .ok (.lconst 1, 1) := by decide +kernel
theorem dX5_makeDeep_15 : decode cX5_makeDeep 15 = .ok (.iload_n 2, 1) := by decide +kernel
theorem dX5_makeDeep_16 : decode cX5_makeDeep 16 = .ok (.i2l, 1) := by decide +kernel
theorem dX5_makeDeep_17 : decode cX5_makeDeep 17 = .ok (.ladd, 1) := by decide +kernel
theorem dX5_makeDeep_18 : decode cX5_makeDeep 18 = .ok (.iload_n 2, 1) := by decide +kernel
theorem dX5_makeDeep_19 : decode cX5_makeDeep 19 = .ok (.i2l, 1) := by decide +kernel
theorem dX5_makeDeep_20 : decode cX5_makeDeep 20 = .ok (.iload_n 2, 1) := by decide +kernel
theorem dX5_makeDeep_21 : decode cX5_makeDeep 21 = .ok (.i2l, 1) := by decide +kernel
theorem dX5_makeDeep_22 : decode cX5_makeDeep 22 = .ok (.iload_n 3, 1) := by decide +kernel
theorem dX5_makeDeep_23 : decode cX5_makeDeep 23 = .ok (.i2l, 1) := by decide +kernel
theorem dX5_makeDeep_24 : decode cX5_makeDeep 24 = .ok (.lmul, 1) := by decide +kernel
theorem dX5_makeDeep_25 : decode cX5_makeDeep 25 = .ok (.ladd, 1) := by decide +kernel
theorem dX5_makeDeep_26 : decode cX5_makeDeep 26 = .ok (.invokevirtual 122, 3) := by decide +kernel
theorem dX5_makeDeep_29 : decode cX5_makeDeep 29 = .ok (.ifCond .ne 6, 3) := by decide +kernel
theorem dX5_makeDeep_32 : decode cX5_makeDeep 32 = .ok (.bipush 8, 2) := by decide +kernel
theorem dX5_makeDeep_34 : decode cX5_makeDeep 34 = .ok (.ireturn, 1) := by decide +kernel
theorem dX5_makeDeep_35 : decode cX5_makeDeep 35 = .ok (.aload_n 0, 1) := by decide +kernel
theorem dX5_makeDeep_36 : decode cX5_makeDeep 36 = .ok (.getfield 12, 3) := by decide +kernel
theorem dX5_makeDeep_39 : decode cX5_makeDeep 39 = .ok (.iconst 5, 1) := by decide +kernel
theorem dX5_makeDeep_40 : decode cX5_makeDeep 40 = .ok (.iload_n 2, 1) := by decide +kernel
theorem dX5_makeDeep_41 : decode cX5_makeDeep 41 = .ok (.invokevirtual 126, 3) := by decide +kernel
theorem dX5_makeDeep_44 : decode cX5_makeDeep 44 = .ok (.istore 4, 2) := by decide +kernel
theorem dX5_makeDeep_46 : decode cX5_makeDeep 46 = .ok (.iconst 0, 1) := by decide +kernel
theorem dX5_makeDeep_47 : decode cX5_makeDeep 47 = .ok (.istore 5, 2) := by decide +kernel
theorem dX5_makeDeep_49 : decode cX5_makeDeep 49 = .ok (.iload 5, 2) := by decide +kernel
theorem dX5_makeDeep_51 : decode cX5_makeDeep 51 = .ok (.iload_n 2, 1) := by decide +kernel
theorem dX5_makeDeep_52 : decode cX5_makeDeep 52 = .ok (.if_icmp .ge 30, 3) := by decide +kernel
theorem dX5_makeDeep_55 : decode cX5_makeDeep 55 = .ok (.aload_n 0, 1) := by decide +kernel
theorem dX5_makeDeep_56 : decode cX5_makeDeep 56 = .ok (.getfield 12, 3) := by decide +kernel
theorem dX5_makeDeep_59 : decode cX5_makeDeep 59 = .ok (.iload 4, 2) := by decide +kernel
theorem dX5_makeDeep_61 : decode cX5_makeDeep 61 = .ok (.iload 5, 2) := by decide +kernel
theorem dX5_makeDeep_63 : decode cX5_makeDeep 63 = .ok (.aload_n 0, 1) := by decide +kernel
theorem dX5_makeDeep_64 : decode cX5_makeDeep 64 = .ok (.getfield 12, 3) := by decide +kernel
theorem dX5_makeDeep_67 : decode cX5_makeDeep 67 = .ok (.iconst 1, 1) := by decide +kernel
theorem dX5_makeDeep_68 : decode cX5_makeDeep 68 = .ok (.iload_n 3, 1) := by decide +kernel
theorem dX5_makeDeep_69 : decode cX5_makeDeep 69 = .ok (.invokevirtual 126, 3) := by decide +kernel
theorem dX5_makeDeep_72 : decode cX5_makeDeep 72 = .ok (.i2l, 1) := by decide +kernel
theorem dX5_makeDeep_73 : decode cX5_makeDeep 73 = .ok (.invokevirtual 129, 3) := by decide +kernel
theorem dX5_makeDeep_76 : decode cX5_makeDeep 76 = .ok (.iinc 5 1, 3) := by decide +kernel
theorem dX5_makeDeep_79 : decode cX5_makeDeep 79 = .ok (.goto (-30), 3) := by decide +kernel
theorem dX5_makeDeep_82 : decode cX5_makeDeep 82 = .ok (.aload_n 0, 1) := by decide +kernel
theorem dX5_makeDeep_83 : decode cX5_makeDeep 83 = .ok (.getfield 18, 3) := by decide +kernel
theorem dX5_makeDeep_86 : decode cX5_makeDeep 86 = .ok (.iload_n 1, 1) := by decide +kernel
theorem dX5_makeDeep_87 : decode cX5_makeDeep 87 = .ok (.iload 4, 2) := by decide +kernel
theorem dX5_makeDeep_89 : decode cX5_makeDeep 89 = .ok (.iastore, 1) := by decide +kernel
theorem dX5_makeDeep_90 : decode cX5_makeDeep 90 = .ok (.iconst 0, 1) := by decide +kernel
theorem dX5_makeDeep_91 : decode cX5_makeDeep 91 = .ok (.ireturn, 1) := by decide +kernel
theorem dX5_makeFigure_0 : decode cX5_makeFigure 0 = .ok (.aload_n 0, 1) := by decide +kernel
theorem dX5_makeFigure_1 : decode cX5_makeFigure 1 = .ok (.getfield 12, 3) := by decide +kernel
theorem dX5_makeFigure_4 : decode cX5_makeFigure 4 = .ok (.lconst 1, 1) := by decide +kernel
theorem dX5_makeFigure_5 : decode cX5_makeFigure 5 = .ok (.lconst 0, 1) := by decide +kernel
theorem dX5_makeFigure_6 : decode cX5_makeFigure 6 = .ok (.invokevirtual 122, 3) := by decide +kernel
theorem dX5_makeFigure_9 : decode cX5_makeFigure 9 = .ok (.ifCond .ne 6, 3) := by decide +kernel
theorem dX5_makeFigure_12 : decode cX5_makeFigure 12 = .ok (.bipush 8, 2) := by decide +kernel
theorem dX5_makeFigure_14 : decode cX5_makeFigure 14 = .ok (.ireturn, 1) := by decide +kernel
theorem dX5_makeFigure_15 : decode cX5_makeFigure 15 = .ok (.aload_n 0, 1) := by decide +kernel
theorem dX5_makeFigure_16 : decode cX5_makeFigure 16 = .ok (.getfield 18, 3) := by decide +kernel
theorem dX5_makeFigure_19 : decode cX5_makeFigure 19 = .ok (.iload_n 1, 1) := by decide +kernel
theorem dX5_makeFigure_20 : decode cX5_makeFigure 20 = .ok (.aload_n 0, 1) := by decide +kernel
theorem dX5_makeFigure_21 : decode cX5_makeFigure 21 = .ok (.getfield 12, 3) := by decide +kernel
theorem dX5_makeFigure_24 : decode cX5_makeFigure 24 = .ok (.iload_n 2, 1) := by decide +kernel
theorem dX5_makeFigure_25 : decode cX5_makeFigure 25 = .ok (.iload_n 3, 1) := by decide +kernel
theorem dX5_makeFigure_26 : decode cX5_makeFigure 26 = .ok (.invokevirtual 133, 3) := by decide +kernel
theorem dX5_makeFigure_29 : decode cX5_makeFigure 29 = .ok (.iastore, 1) := by decide +kernel
theorem dX5_makeFigure_30 : decode cX5_makeFigure 30 = .ok (.iconst 0, 1) := by decide +kernel
theorem dX5_makeFigure_31 : decode cX5_makeFigure 31 = .ok (.ireturn, 1) := by decide +kernel
theorem dX5_move_0 : decode cX5_move 0 = .ok (.iload_n 3, 1) := by decide +kernel
theorem dX5_move_1 : decode cX5_move 1 = .ok (.ifCond .ne 7, 3) := by decide +kernel
theorem dX5_move_4 : decode cX5_move 4 = .ok (.iconst 0, 1) := by decide +kernel
theorem dX5_move_5 : decode cX5_move 5 = .ok (.goto 9, 3) := by decide +kernel
theorem dX5_move_8 : decode cX5_move 8 = .ok (.aload_n 0, 1) := by decide +kernel
theorem dX5_move_9 : decode cX5_move 9 = .ok (.iload_n 2, 1) := by decide +kernel
theorem dX5_move_10 : decode cX5_move 10 = .ok (.iload_n 3, 1) := by decide +kernel
theorem dX5_move_11 : decode cX5_move 11 = .ok (.invokevirtual 136, 3) := by decide +kernel
theorem dX5_move_14 : decode cX5_move 14 = .ok (.istore 4, 2) := by decide +kernel
theorem dX5_move_16 : decode cX5_move 16 = .ok (.iload 4, 2) := by decide +kernel
theorem dX5_move_18 : decode cX5_move 18 = .ok (.ifCond .ne 15, 3) := by decide +kernel
theorem dX5_move_21 : decode cX5_move 21 = .ok (.aload_n 0, 1) := by decide +kernel
theorem dX5_move_22 : decode cX5_move 22 = .ok (.getfield 18, 3) := by decide +kernel
theorem dX5_move_25 : decode cX5_move 25 = .ok (.iload_n 1, 1) := by decide +kernel
theorem dX5_move_26 : decode cX5_move 26 = .ok (.aload_n 0, 1) := by decide +kernel
theorem dX5_move_27 : decode cX5_move 27 = .ok (.getfield 18, 3) := by decide +kernel
theorem dX5_move_30 : decode cX5_move 30 = .ok (.iload_n 2, 1) := by decide +kernel
theorem dX5_move_31 : decode cX5_move 31 = .ok (.iaload, 1) := by decide +kernel
theorem dX5_move_32 : decode cX5_move 32 = .ok (.iastore, 1) := by decide +kernel
theorem dX5_move_33 : decode cX5_move 33 = .ok (.iload 4, 2) := by decide +kernel
theorem dX5_move_35 : decode cX5_move 35 = .ok (.ireturn, 1) := by decide +kernel
theorem dX5_get_0 : decode cX5_get 0 = .ok (.aload_n 0, 1) := by decide +kernel
theorem dX5_get_1 : decode cX5_get 1 = .ok (.iload_n 2, 1) := by decide +kernel
theorem dX5_get_2 : decode cX5_get 2 = .ok (.iload_n 3, 1) := by decide +kernel
theorem dX5_get_3 : decode cX5_get 3 = .ok (.iload 4, 2) := by decide +kernel
theorem dX5_get_5 : decode cX5_get 5 = .ok (.invokevirtual 139, 3) := by decide +kernel
theorem dX5_get_8 : decode cX5_get 8 = .ok (.istore 5, 2) := by decide +kernel
theorem dX5_get_10 : decode cX5_get 10 = .ok (.iload 5, 2) := by decide +kernel
theorem dX5_get_12 : decode cX5_get 12 = .ok (.ifCond .ne 24, 3) := by decide +kernel
theorem dX5_get_15 : decode cX5_get 15 = .ok (.aload_n 0, 1) := by decide +kernel
theorem dX5_get_16 : decode cX5_get 16 = .ok (.getfield 22, 3) := by decide +kernel
theorem dX5_get_19 : decode cX5_get 19 = .ok (.iload_n 1, 1) := by decide +kernel
theorem dX5_get_20 : decode cX5_get 20 = .ok (.aload_n 0, 1) := by decide +kernel
theorem dX5_get_21 : decode cX5_get 21 = .ok (.getfield 12, 3) := by decide +kernel
theorem dX5_get_24 : decode cX5_get 24 = .ok (.aload_n 0, 1) := by decide +kernel
theorem dX5_get_25 : decode cX5_get 25 = .ok (.getfield 18, 3) := by decide +kernel
theorem dX5_get_28 : decode cX5_get 28 = .ok (.iload_n 2, 1) := by decide +kernel
theorem dX5_get_29 : decode cX5_get 29 = .ok (.iaload, 1) := by decide +kernel
theorem dX5_get_30 : decode cX5_get 30 = .ok (.iload 4, 2) := by decide +kernel
theorem dX5_get_32 : decode cX5_get 32 = .ok (.invokevirtual 142, 3) := by decide +kernel
theorem dX5_get_35 : decode cX5_get 35 = .ok (.lastore, 1) := by decide +kernel
theorem dX5_get_36 : decode cX5_get 36 = .ok (.iload 5, 2) := by decide +kernel
theorem dX5_get_38 : decode cX5_get 38 = .ok (.ireturn, 1) := by decide +kernel
theorem dX5_set_0 : decode cX5_set 0 = .ok (.aload_n 0, 1) := by decide +kernel
theorem dX5_set_1 : decode cX5_set 1 = .ok (.iload_n 1, 1) := by decide +kernel
theorem dX5_set_2 : decode cX5_set 2 = .ok (.iload_n 2, 1) := by decide +kernel
theorem dX5_set_3 : decode cX5_set 3 = .ok (.iload_n 3, 1) := by decide +kernel
theorem dX5_set_4 : decode cX5_set 4 = .ok (.invokevirtual 139, 3) := by decide +kernel
theorem dX5_set_7 : decode cX5_set 7 = .ok (.istore 5, 2) := by decide +kernel
theorem dX5_set_9 : decode cX5_set 9 = .ok (.iload 5, 2) := by decide +kernel
theorem dX5_set_11 : decode cX5_set 11 = .ok (.ifCond .ne 24, 3) := by decide +kernel
theorem dX5_set_14 : decode cX5_set 14 = .ok (.aload_n 0, 1) := by decide +kernel
theorem dX5_set_15 : decode cX5_set 15 = .ok (.getfield 12, 3) := by decide +kernel
theorem dX5_set_18 : decode cX5_set 18 = .ok (.aload_n 0, 1) := by decide +kernel
theorem dX5_set_19 : decode cX5_set 19 = .ok (.getfield 18, 3) := by decide +kernel
theorem dX5_set_22 : decode cX5_set 22 = .ok (.iload_n 1, 1) := by decide +kernel
theorem dX5_set_23 : decode cX5_set 23 = .ok (.iaload, 1) := by decide +kernel
theorem dX5_set_24 : decode cX5_set 24 = .ok (.iload_n 3, 1) := by decide +kernel
theorem dX5_set_25 : decode cX5_set 25 = .ok (.aload_n 0, 1) := by decide +kernel
theorem dX5_set_26 : decode cX5_set 26 = .ok (.getfield 22, 3) := by decide +kernel
theorem dX5_set_29 : decode cX5_set 29 = .ok (.iload 4, 2) := by decide +kernel
theorem dX5_set_31 : decode cX5_set 31 = .ok (.laload, 1) := by decide +kernel
theorem dX5_set_32 : decode cX5_set 32 = .ok (.invokevirtual 129, 3) := by decide +kernel
theorem dX5_set_35 : decode cX5_set 35 = .ok (.iload 5, 2) := by decide +kernel
theorem dX5_set_37 : decode cX5_set 37 = .ok (.ireturn, 1) := by decide +kernel
theorem dX5_take_0 : decode cX5_take 0 = .ok (.aload_n 0, 1) := by decide +kernel
theorem dX5_take_1 : decode cX5_take 1 = .ok (.iload_n 2, 1) := by decide +kernel
theorem dX5_take_2 : decode cX5_take 2 = .ok (.iload_n 3, 1) := by decide +kernel
theorem dX5_take_3 : decode cX5_take 3 = .ok (.iload 4, 2) := by decide +kernel
theorem dX5_take_5 : decode cX5_take 5 = .ok (.invokevirtual 139, 3) := by decide +kernel
theorem dX5_take_8 : decode cX5_take 8 = .ok (.istore 5, 2) := by decide +kernel
theorem dX5_take_10 : decode cX5_take 10 = .ok (.iload 5, 2) := by decide +kernel
theorem dX5_take_12 : decode cX5_take 12 = .ok (.ifCond .ne 25, 3) := by decide +kernel
theorem dX5_take_15 : decode cX5_take 15 = .ok (.aload_n 0, 1) := by decide +kernel
theorem dX5_take_16 : decode cX5_take 16 = .ok (.getfield 18, 3) := by decide +kernel
theorem dX5_take_19 : decode cX5_take 19 = .ok (.iload_n 1, 1) := by decide +kernel
theorem dX5_take_20 : decode cX5_take 20 = .ok (.aload_n 0, 1) := by decide +kernel
theorem dX5_take_21 : decode cX5_take 21 = .ok (.getfield 12, 3) := by decide +kernel
theorem dX5_take_24 : decode cX5_take 24 = .ok (.aload_n 0, 1) := by decide +kernel
theorem dX5_take_25 : decode cX5_take 25 = .ok (.getfield 18, 3) := by decide +kernel
theorem dX5_take_28 : decode cX5_take 28 = .ok (.iload_n 2, 1) := by decide +kernel
theorem dX5_take_29 : decode cX5_take 29 = .ok (.iaload, 1) := by decide +kernel
theorem dX5_take_30 : decode cX5_take 30 = .ok (.iload 4, 2) := by decide +kernel
theorem dX5_take_32 : decode cX5_take 32 = .ok (.invokevirtual 142, 3) := by decide +kernel
theorem dX5_take_35 : decode cX5_take 35 = .ok (.l2i, 1) := by decide +kernel
theorem dX5_take_36 : decode cX5_take 36 = .ok (.iastore, 1) := by decide +kernel
theorem dX5_take_37 : decode cX5_take 37 = .ok (.iload 5, 2) := by decide +kernel
theorem dX5_take_39 : decode cX5_take 39 = .ok (.ireturn, 1) := by decide +kernel
theorem dX5_lay_0 : decode cX5_lay 0 = .ok (.aload_n 0, 1) := by decide +kernel
theorem dX5_lay_1 : decode cX5_lay 1 = .ok (.iload_n 1, 1) := by decide +kernel
theorem dX5_lay_2 : decode cX5_lay 2 = .ok (.iload_n 2, 1) := by decide +kernel
theorem dX5_lay_3 : decode cX5_lay 3 = .ok (.invokevirtual 136, 3) := by decide +kernel
theorem dX5_lay_6 : decode cX5_lay 6 = .ok (.istore 5, 2) := by decide +kernel
theorem dX5_lay_8 : decode cX5_lay 8 = .ok (.iload 5, 2) := by decide +kernel
theorem dX5_lay_10 : decode cX5_lay 10 = .ok (.ifCond .ne 15, 3) := by decide +kernel
theorem dX5_lay_13 : decode cX5_lay 13 = .ok (.aload_n 0, 1) := by decide +kernel
theorem dX5_lay_14 : decode cX5_lay 14 = .ok (.iload 4, 2) := by decide +kernel
theorem dX5_lay_16 : decode cX5_lay 16 = .ok (.iload_n 2, 1) := by decide +kernel
theorem dX5_lay_17 : decode cX5_lay 17 = .ok (.invokestatic 146, 3) := by decide +kernel
theorem dX5_lay_20 : decode cX5_lay 20 = .ok (.invokevirtual 136, 3) := by decide +kernel
theorem dX5_lay_23 : decode cX5_lay 23 = .ok (.istore 5, 2) := by decide +kernel
theorem dX5_lay_25 : decode cX5_lay 25 = .ok (.iload 5, 2) := by decide +kernel
theorem dX5_lay_27 : decode cX5_lay 27 = .ok (.ifCond .ne 12, 3) := by decide +kernel
theorem dX5_lay_30 : decode cX5_lay 30 = .ok (.aload_n 0, 1) := by decide +kernel
theorem dX5_lay_31 : decode cX5_lay 31 = .ok (.iload_n 1, 1) := by decide +kernel
theorem dX5_lay_32 : decode cX5_lay 32 = .ok (.iload_n 2, 1) := by decide +kernel
theorem dX5_lay_33 : decode cX5_lay 33 = .ok (.iload_n 3, 1) := by decide +kernel
theorem dX5_lay_34 : decode cX5_lay 34 = .ok (.invokevirtual 139, 3) := by decide +kernel
theorem dX5_lay_37 : decode cX5_lay 37 = .ok (.istore 5, 2) := by decide +kernel
theorem dX5_lay_39 : decode cX5_lay 39 = .ok (.iload 5, 2) := by decide +kernel
theorem dX5_lay_41 : decode cX5_lay 41 = .ok (.ifCond .ne 27, 3) := by decide +kernel
theorem dX5_lay_44 : decode cX5_lay 44 = .ok (.aload_n 0, 1) := by decide +kernel
theorem dX5_lay_45 : decode cX5_lay 45 = .ok (.iload_n 1, 1) := by decide +kernel
theorem dX5_lay_46 : decode cX5_lay 46 = .ok (.invokevirtual 149, 3) := by decide +kernel
theorem dX5_lay_49 : decode cX5_lay 49 = .ok (.bipush 7, 2) := by decide +kernel
theorem dX5_lay_51 : decode cX5_lay 51 = .ok (.if_icmp .ne 17, 3) := by decide +kernel
theorem dX5_lay_54 : decode cX5_lay 54 = .ok (.aload_n 0, 1) := by decide +kernel
theorem dX5_lay_55 : decode cX5_lay 55 = .ok (.iload 4, 2) := by decide +kernel
theorem dX5_lay_57 : decode cX5_lay 57 = .ok (.invokevirtual 149, 3) := by decide +kernel
theorem dX5_lay_60 : decode cX5_lay 60 = .ok (.bipush 8, 2) := by decide +kernel
theorem dX5_lay_62 : decode cX5_lay 62 = .ok (.if_icmp .ne 6, 3) := by decide +kernel
theorem dX5_lay_65 : decode cX5_lay 65 = .ok (.iconst 5, 1) := by decide +kernel
theorem dX5_lay_66 : decode cX5_lay 66 = .ok (.istore 5, 2) := by decide +kernel
theorem dX5_lay_68 : decode cX5_lay 68 = .ok (.iload 5, 2) := by decide +kernel
theorem dX5_lay_70 : decode cX5_lay 70 = .ok (.ifCond .ne 25, 3) := by decide +kernel
theorem dX5_lay_73 : decode cX5_lay 73 = .ok (.aload_n 0, 1) := by decide +kernel
theorem dX5_lay_74 : decode cX5_lay 74 = .ok (.getfield 12, 3) := by decide +kernel
theorem dX5_lay_77 : decode cX5_lay 77 = .ok (.aload_n 0, 1) := by decide +kernel
theorem dX5_lay_78 : decode cX5_lay 78 = .ok (.getfield 18, 3) := by decide +kernel
theorem dX5_lay_81 : decode cX5_lay 81 = .ok (.iload_n 1, 1) := by decide +kernel
theorem dX5_lay_82 : decode cX5_lay 82 = .ok (.iaload, 1) := by decide +kernel
theorem dX5_lay_83 : decode cX5_lay 83 = .ok (.iload_n 3, 1) := by decide +kernel
theorem dX5_lay_84 : decode cX5_lay 84 = .ok (.aload_n 0, 1) := by decide +kernel
theorem dX5_lay_85 : decode cX5_lay 85 = .ok (.getfield 18, 3) := by decide +kernel
theorem dX5_lay_88 : decode cX5_lay 88 = .ok (.iload 4, 2) := by decide +kernel
theorem dX5_lay_90 : decode cX5_lay 90 = .ok (.iaload, 1) := by decide +kernel
theorem dX5_lay_91 : decode cX5_lay 91 = .ok (.i2l, 1) := by decide +kernel
theorem dX5_lay_92 : decode cX5_lay 92 = .ok (.invokevirtual 129, 3) := by decide +kernel
theorem dX5_lay_95 : decode cX5_lay 95 = .ok (.iload 5, 2) := by decide +kernel
theorem dX5_lay_97 : decode cX5_lay 97 = .ok (.ireturn, 1) := by decide +kernel
theorem dX5_length_0 : decode cX5_length 0 = .ok (.aload_n 0, 1) := by decide +kernel
theorem dX5_length_1 : decode cX5_length 1 = .ok (.iload_n 2, 1) := by decide +kernel
theorem dX5_length_2 : decode cX5_length 2 = .ok (.iload_n 3, 1) := by decide +kernel
theorem dX5_length_3 : decode cX5_length 3 = .ok (.invokevirtual 152, 3) := by decide +kernel
theorem dX5_length_6 : decode cX5_length 6 = .ok (.istore 4, 2) := by decide +kernel
theorem dX5_length_8 : decode cX5_length 8 = .ok (.iload 4, 2) := by decide +kernel
theorem dX5_length_10 : decode cX5_length 10 = .ok (.ifCond .ne 23, 3) := by decide +kernel
theorem dX5_length_13 : decode cX5_length 13 = .ok (.aload_n 0, 1) := by decide +kernel
theorem dX5_length_14 : decode cX5_length 14 = .ok (.getfield 22, 3) := by decide +kernel
theorem dX5_length_17 : decode cX5_length 17 = .ok (.iload_n 1, 1) := by decide +kernel
theorem dX5_length_18 : decode cX5_length 18 = .ok (.aload_n 0, 1) := by decide +kernel
theorem dX5_length_19 : decode cX5_length 19 = .ok (.getfield 12, 3) := by decide +kernel
theorem dX5_length_22 : decode cX5_length 22 = .ok (.aload_n 0, 1) := by decide +kernel
theorem dX5_length_23 : decode cX5_length 23 = .ok (.getfield 18, 3) := by decide +kernel
theorem dX5_length_26 : decode cX5_length 26 = .ok (.iload_n 2, 1) := by decide +kernel
theorem dX5_length_27 : decode cX5_length 27 = .ok (.iaload, 1) := by decide +kernel
theorem dX5_length_28 : decode cX5_length 28 = .ok (.invokevirtual 155, 3) := by decide +kernel
theorem dX5_length_31 : decode cX5_length 31 = .ok (.i2l, 1) := by decide +kernel
theorem dX5_length_32 : decode cX5_length 32 = .ok (.lastore, 1) := by decide +kernel
theorem dX5_length_33 : decode cX5_length 33 = .ok (.iload 4, 2) := by decide +kernel
theorem dX5_length_35 : decode cX5_length 35 = .ok (.ireturn, 1) := by decide +kernel
theorem dX5_cloneRow_0 : decode cX5_cloneRow 0 = .ok (.aload_n 0, 1) := by decide +kernel
theorem dX5_cloneRow_1 : decode cX5_cloneRow 1 = .ok (.iload_n 2, 1) := by decide +kernel
theorem dX5_cloneRow_2 : decode cX5_cloneRow 2 = .ok (.iconst 1, 1) := by decide +kernel
theorem dX5_cloneRow_3 : decode cX5_cloneRow 3 = .ok (.invokevirtual 152, 3) := by decide +kernel
theorem dX5_cloneRow_6 : decode cX5_cloneRow 6 = .ok (.istore_n 3, 1) := by decide +kernel
theorem dX5_cloneRow_7 : decode cX5_cloneRow 7 = .ok (.iload_n 3, 1) := by decide +kernel
theorem dX5_cloneRow_8 : decode cX5_cloneRow 8 = .ok (.ifCond .eq 5, 3) := by decide +kernel
theorem dX5_cloneRow_11 : decode cX5_cloneRow 11 = .ok (.iload_n 3, 1) := by decide +kernel
theorem dX5_cloneRow_12 : decode cX5_cloneRow 12 = .ok (.ireturn, 1) := by decide +kernel
theorem dX5_cloneRow_13 : decode cX5_cloneRow 13 = .ok (.aload_n 0, 1) := by decide +kernel
theorem dX5_cloneRow_14 : decode cX5_cloneRow 14 = .ok (.getfield 18, 3) := by decide +kernel
theorem dX5_cloneRow_17 : decode cX5_cloneRow 17 = .ok (.iload_n 2, 1) := by decide +kernel
theorem dX5_cloneRow_18 : decode cX5_cloneRow 18 = .ok (.iaload, 1) := by decide +kernel
theorem dX5_cloneRow_19 : decode cX5_cloneRow 19 = .ok (.istore 4, 2) := by decide +kernel
theorem dX5_cloneRow_21 : decode cX5_cloneRow 21 = .ok (.aload_n 0, 1) := by decide +kernel
theorem dX5_cloneRow_22 : decode cX5_cloneRow 22 = .ok (.getfield 12, 3) := by decide +kernel
theorem dX5_cloneRow_25 : decode cX5_cloneRow 25 = .ok (.iload 4, 2) := by decide +kernel
theorem dX5_cloneRow_27 : decode cX5_cloneRow 27 = .ok (.invokevirtual 155, 3) := by decide +kernel
theorem dX5_cloneRow_30 : decode cX5_cloneRow 30 = .ok (.istore 5, 2) := by decide +kernel
theorem dX5_cloneRow_32 : decode cX5_cloneRow 32 = .ok (.aload_n 0, 1) := by decide +kernel
theorem dX5_cloneRow_33 : decode cX5_cloneRow 33 = .ok (.iload_n 1, 1) := by decide +kernel
theorem dX5_cloneRow_34 : decode cX5_cloneRow 34 = .ok (.iconst 1, 1) := by decide +kernel
theorem dX5_cloneRow_35 : decode cX5_cloneRow 35 = .ok (.iload 5, 2) := by decide +kernel
theorem dX5_cloneRow_37 : decode cX5_cloneRow 37 = .ok (.invokevirtual 71, 3) := by decide +kernel
theorem dX5_cloneRow_40 : decode cX5_cloneRow 40 = .ok (.istore_n 3, 1) := by decide +kernel
theorem dX5_cloneRow_41 : decode cX5_cloneRow 41 = .ok (.iload_n 3, 1) := by decide +kernel
theorem dX5_cloneRow_42 : decode cX5_cloneRow 42 = .ok (.ifCond .ne 23, 3) := by decide +kernel
theorem dX5_cloneRow_45 : decode cX5_cloneRow 45 = .ok (.aload_n 0, 1) := by decide +kernel
theorem dX5_cloneRow_46 : decode cX5_cloneRow 46 = .ok (.getfield 12, 3) := by decide +kernel
theorem dX5_cloneRow_49 : decode cX5_cloneRow 49 = .ok (.iload 4, 2) := by decide +kernel
theorem dX5_cloneRow_51 : decode cX5_cloneRow 51 = .ok (.iconst 0, 1) := by decide +kernel
theorem dX5_cloneRow_52 : decode cX5_cloneRow 52 = .ok (.aload_n 0, 1) := by decide +kernel
theorem dX5_cloneRow_53 : decode cX5_cloneRow 53 = .ok (.getfield 18, 3) := by decide +kernel
theorem dX5_cloneRow_56 : decode cX5_cloneRow 56 = .ok (.iload_n 1, 1) := by decide +kernel
theorem dX5_cloneRow_57 : decode cX5_cloneRow 57 = .ok (.iaload, 1) := by decide +kernel
theorem dX5_cloneRow_58 : decode cX5_cloneRow 58 = .ok (.iconst 0, 1) := by decide +kernel
theorem dX5_cloneRow_59 : decode cX5_cloneRow 59 = .ok (.iload 5, 2) := by decide +kernel
theorem dX5_cloneRow_61 : decode cX5_cloneRow 61 = .ok (.invokevirtual 158, 3) := by decide +kernel
theorem dX5_cloneRow_64 : decode cX5_cloneRow 64 = .ok (.pop, 1) := by decide +kernel
theorem dX5_cloneRow_65 : decode cX5_cloneRow 65 = .ok (.iload_n 3, 1) := by decide +kernel
theorem dX5_cloneRow_66 : decode cX5_cloneRow 66 = .ok (.ireturn, 1) := by decide +kernel
theorem dX5_tell_0 : decode cX5_tell 0 = .ok (.aload_n 0, 1) := by decide +kernel
theorem dX5_tell_1 : decode cX5_tell 1 = .ok (.iload_n 2, 1) := by decide +kernel
theorem dX5_tell_2 : decode cX5_tell 2 = .ok (.bipush 8, 2) := by decide +kernel
theorem dX5_tell_4 : decode cX5_tell 4 = .ok (.invokevirtual 152, 3) := by decide +kernel
theorem dX5_tell_7 : decode cX5_tell 7 = .ok (.istore_n 3, 1) := by decide +kernel
theorem dX5_tell_8 : decode cX5_tell 8 = .ok (.iload_n 3, 1) := by decide +kernel
theorem dX5_tell_9 : decode cX5_tell 9 = .ok (.ifCond .ne 47, 3) := by decide +kernel
theorem dX5_tell_12 : decode cX5_tell 12 = .ok (.aload_n 0, 1) := by decide +kernel
theorem dX5_tell_13 : decode cX5_tell 13 = .ok (.getfield 12, 3) := by decide +kernel
theorem dX5_tell_16 : decode cX5_tell 16 = .ok (.aload_n 0, 1) := by decide +kernel
theorem dX5_tell_17 : decode cX5_tell 17 = .ok (.getfield 18, 3) := by decide +kernel
theorem dX5_tell_20 : decode cX5_tell 20 = .ok (.iload_n 2, 1) := by decide +kernel
theorem dX5_tell_21 : decode cX5_tell 21 = .ok (.iaload, 1) := by decide +kernel
theorem dX5_tell_22 : decode cX5_tell 22 = .ok (.invokevirtual 155, 3) := by decide +kernel
theorem dX5_tell_25 : decode cX5_tell 25 = .ok (.istore 4, 2) := by decide +kernel
theorem dX5_tell_27 : decode cX5_tell 27 = .ok (.aload_n 0, 1) := by decide +kernel
theorem dX5_tell_28 : decode cX5_tell 28 = .ok (.getfield 22, 3) := by decide +kernel
theorem dX5_tell_31 : decode cX5_tell 31 = .ok (.iload_n 1, 1) := by decide +kernel
theorem dX5_tell_32 : decode cX5_tell 32 = .ok (.aload_n 0, 1) := by decide +kernel
theorem dX5_tell_33 : decode cX5_tell 33 = .ok (.iload_n 2, 1) := by decide +kernel
theorem dX5_tell_34 : decode cX5_tell 34 = .ok (.bipush 9, 2) := by decide +kernel
theorem dX5_tell_36 : decode cX5_tell 36 = .ok (.invokevirtual 116, 3) := by decide +kernel
theorem dX5_tell_39 : decode cX5_tell 39 = .ok (.ifCond .eq 13, 3) := by decide +kernel
theorem dX5_tell_42 : decode cX5_tell 42 = .ok (.iconst 2, 1) := by decide +kernel
theorem dX5_tell_43 : decode cX5_tell 43 = .ok (.iload 4, 2) := by decide +kernel
theorem dX5_tell_45 : decode cX5_tell 45 = .ok (.imul, 1) := by decide +kernel
theorem dX5_tell_46 : decode cX5_tell 46 = .ok (.iconst 1, 1) := by decide +kernel
theorem dX5_tell_47 : decode cX5_tell 47 = .ok (.iadd, 1) := by decide +kernel
theorem dX5_tell_48 : decode cX5_tell 48 = .ok (.i2l, 1) := by decide +kernel
theorem dX5_tell_49 : decode cX5_tell 49 = .ok (.goto 6, 3) := by decide +kernel
theorem dX5_tell_52 : decode cX5_tell 52 = .ok (.iload 4, 2) := by decide +kernel
theorem dX5_tell_54 : decode cX5_tell 54 = .ok (.i2l, 1) := by decide +kernel
theorem dX5_tell_55 : decode cX5_tell 55 = .ok (.lastore, 1) := by decide +kernel
theorem dX5_tell_56 : decode cX5_tell 56 = .ok (.iload_n 3, 1) := by decide +kernel
theorem dX5_tell_57 : decode cX5_tell 57 = .ok (.ireturn, 1) := by decide +kernel
theorem dX5_copy_0 : decode cX5_copy 0 = .ok (.aload_n 0, 1) := by decide +kernel
theorem dX5_copy_1 : decode cX5_copy 1 = .ok (.getfield 18, 3) := by decide +kernel
theorem dX5_copy_4 : decode cX5_copy 4 = .ok (.iload_n 1, 1) := by decide +kernel
theorem dX5_copy_5 : decode cX5_copy 5 = .ok (.iaload, 1) := by decide +kernel
theorem dX5_copy_6 : decode cX5_copy 6 = .ok (.istore 5, 2) := by decide +kernel
theorem dX5_copy_8 : decode cX5_copy 8 = .ok (.aload_n 0, 1) := by decide +kernel
theorem dX5_copy_9 : decode cX5_copy 9 = .ok (.getfield 18, 3) := by decide +kernel
theorem dX5_copy_12 : decode cX5_copy 12 = .ok (.iload_n 3, 1) := by decide +kernel
theorem dX5_copy_13 : decode cX5_copy 13 = .ok (.iaload, 1) := by decide +kernel
theorem dX5_copy_14 : decode cX5_copy 14 = .ok (.istore 6, 2) := by decide +kernel
theorem dX5_copy_16 : decode cX5_copy 16 = .ok (.aload_n 0, 1) := by decide +kernel
theorem dX5_copy_17 : decode cX5_copy 17 = .ok (.getfield 22, 3) := by decide +kernel
theorem dX5_copy_20 : decode cX5_copy 20 = .ok (.bipush 7, 2) := by decide +kernel
theorem dX5_copy_22 : decode cX5_copy 22 = .ok (.laload, 1) := by decide +kernel
theorem dX5_copy_23 : decode cX5_copy 23 = .ok (.l2i, 1) := by decide +kernel
theorem dX5_copy_24 : decode cX5_copy 24 = .ok (.istore 7, 2) := by decide +kernel
theorem dX5_copy_26 : decode cX5_copy 26 = .ok (.iload 5, 2) := by decide +kernel
theorem dX5_copy_28 : decode cX5_copy 28 = .ok (.ifCond .eq 8, 3) := by decide +kernel
theorem dX5_copy_31 : decode cX5_copy 31 = .ok (.iload 6, 2) := by decide +kernel
theorem dX5_copy_33 : decode cX5_copy 33 = .ok (.ifCond .ne 5, 3) := by decide +kernel
theorem dX5_copy_36 : decode cX5_copy 36 = .ok (.iconst 1, 1) := by decide +kernel
theorem dX5_copy_37 : decode cX5_copy 37 = .ok (.ireturn, 1) := by decide +kernel
theorem dX5_copy_38 : decode cX5_copy 38 = .ok (.aload_n 0, 1) := by decide +kernel
theorem dX5_copy_39 : decode cX5_copy 39 = .ok (.iload_n 1, 1) := by decide +kernel
theorem dX5_copy_40 : decode cX5_copy 40 = .ok (.invokevirtual 149, 3) := by decide +kernel
theorem dX5_copy_43 : decode cX5_copy 43 = .ok (.invokestatic 162, 3) := by decide +kernel
theorem dX5_copy_46 : decode cX5_copy 46 = .ok (.aload_n 0, 1) := by decide +kernel
theorem dX5_copy_47 : decode cX5_copy 47 = .ok (.iload_n 3, 1) := by decide +kernel
theorem dX5_copy_48 : decode cX5_copy 48 = .ok (.invokevirtual 149, 3) := by decide +kernel
theorem dX5_copy_51 : decode cX5_copy 51 = .ok (.invokestatic 67, 3) := by decide +kernel
theorem dX5_copy_54 : decode cX5_copy 54 = .ok (.ifCond .ne 5, 3) := by decide +kernel
theorem dX5_copy_57 : decode cX5_copy 57 = .ok (.iconst 5, 1) := by decide +kernel
theorem dX5_copy_58 : decode cX5_copy 58 = .ok (.ireturn, 1) := by decide +kernel
theorem dX5_copy_59 : decode cX5_copy 59 = .ok (.aload_n 0, 1) := by decide +kernel
theorem dX5_copy_60 : decode cX5_copy 60 = .ok (.getfield 12, 3) := by decide +kernel
theorem dX5_copy_63 : decode cX5_copy 63 = .ok (.iload 5, 2) := by decide +kernel
theorem dX5_copy_65 : decode cX5_copy 65 = .ok (.iload_n 2, 1) := by decide +kernel
theorem dX5_copy_66 : decode cX5_copy 66 = .ok (.iload 7, 2) := by decide +kernel
theorem dX5_copy_68 : decode cX5_copy 68 = .ok (.invokevirtual 165, 3) := by decide +kernel
theorem dX5_copy_71 : decode cX5_copy 71 = .ok (.ifCond .eq 19, 3) := by decide +kernel
theorem dX5_copy_74 : decode cX5_copy 74 = .ok (.aload_n 0, 1) := by decide +kernel
theorem dX5_copy_75 : decode cX5_copy 75 = .ok (.getfield 12, 3) := by decide +kernel
theorem dX5_copy_78 : decode cX5_copy 78 = .ok (.iload 6, 2) := by decide +kernel
theorem dX5_copy_80 : decode cX5_copy 80 = .ok (.iload 4, 2) := by decide +kernel
theorem dX5_copy_82 : decode cX5_copy 82 = .ok (.iload 7, 2) := by decide +kernel
theorem dX5_copy_84 : decode cX5_copy 84 = .ok (.invokevirtual 165, 3) := by decide +kernel
theorem dX5_copy_87 : decode cX5_copy 87 = .ok (.ifCond .ne 5, 3) := by decide +kernel
theorem dX5_copy_90 : decode cX5_copy 90 = .ok (.iconst 3, 1) := by decide +kernel
theorem dX5_copy_91 : decode cX5_copy 91 = .ok (.ireturn, 1) := by decide +kernel
theorem dX5_copy_92 : decode cX5_copy 92 = .ok (.aload_n 0, 1) := by decide +kernel
theorem dX5_copy_93 : decode cX5_copy 93 = .ok (.getfield 12, 3) := by decide +kernel
theorem dX5_copy_96 : decode cX5_copy 96 = .ok (.iload 5, 2) := by decide +kernel
theorem dX5_copy_98 : decode cX5_copy 98 = .ok (.iload_n 2, 1) := by decide +kernel
theorem dX5_copy_99 : decode cX5_copy 99 = .ok (.iload 6, 2) := by decide +kernel
theorem dX5_copy_101 : decode cX5_copy 101 = .ok (.iload 4, 2) := by decide +kernel
theorem dX5_copy_103 : decode cX5_copy 103 = .ok (.iload 7, 2) := by decide +kernel
theorem dX5_copy_105 : decode cX5_copy 105 = .ok (.invokevirtual 158, 3) := by decide +kernel
theorem dX5_copy_108 : decode cX5_copy 108 = .ok (.istore 8, 2) := by decide +kernel
theorem dX5_copy_110 : decode cX5_copy 110 = .ok (.aload_n 0, 1) := by decide +kernel
theorem dX5_copy_111 : decode cX5_copy 111 = .ok (.dup, 1) := by decide +kernel
theorem dX5_copy_112 : decode cX5_copy 112 = .ok (.getfield 36, 3) := by decide +kernel
theorem dX5_copy_115 : decode cX5_copy 115 = .ok (.iload 8, 2) := by decide +kernel
theorem dX5_copy_117 : decode cX5_copy 117 = .ok (.iadd, 1) := by decide +kernel
theorem dX5_copy_118 : decode cX5_copy 118 = .ok (.putfield 36, 3) := by decide +kernel
theorem dX5_copy_121 : decode cX5_copy 121 = .ok (.iload 8, 2) := by decide +kernel
theorem dX5_copy_123 : decode cX5_copy 123 = .ok (.iload 7, 2) := by decide +kernel
theorem dX5_copy_125 : decode cX5_copy 125 = .ok (.if_icmp .ne 7, 3) := by decide +kernel
theorem dX5_copy_128 : decode cX5_copy 128 = .ok (.iconst 0, 1) := by decide +kernel
theorem dX5_copy_129 : decode cX5_copy 129 = .ok (.goto 4, 3) := by decide +kernel
theorem dX5_copy_132 : decode cX5_copy 132 = .ok (.iconst 5, 1) := by decide +kernel
theorem dX5_copy_133 : decode cX5_copy 133 = .ok (.ireturn, 1) := by decide +kernel
theorem dX5_divide_0 : decode cX5_divide 0 = .ok (.aload_n 0, 1) := by decide +kernel
theorem dX5_divide_1 : decode cX5_divide 1 = .ok (.getfield 22, 3) := by decide +kernel
theorem dX5_divide_4 : decode cX5_divide 4 = .ok (.iload_n 3, 1) := by decide +kernel
theorem dX5_divide_5 : decode cX5_divide 5 = .ok (.laload, 1) := by decide +kernel
theorem dX5_divide_6 : decode cX5_divide 6 = .ok (.lconst 0, 1) := by decide +kernel
theorem dX5_divide_7 : decode cX5_divide 7 = .ok (.lcmp, 1) := by decide +kernel
theorem dX5_divide_8 : decode cX5_divide 8 = .ok (.ifCond .ne 6, 3) := by decide +kernel
theorem dX5_divide_11 : decode cX5_divide 11 = .ok (.bipush 6, 2) := by decide +kernel
theorem dX5_divide_13 : decode cX5_divide 13 = .ok (.ireturn, 1) := by decide +kernel
theorem dX5_divide_14 : decode cX5_divide 14 = .ok (.aload_n 0, 1) := by decide +kernel
theorem dX5_divide_15 : decode cX5_divide 15 = .ok (.getfield 22, 3) := by decide +kernel
theorem dX5_divide_18 : decode cX5_divide 18 = .ok (.iload_n 1, 1) := by decide +kernel
theorem dX5_divide_19 : decode cX5_divide 19 = .ok (.aload_n 0, 1) := by decide +kernel
theorem dX5_divide_20 : decode cX5_divide 20 = .ok (.getfield 22, 3) := by decide +kernel
theorem dX5_divide_23 : decode cX5_divide 23 = .ok (.iload_n 2, 1) := by decide +kernel
theorem dX5_divide_24 : decode cX5_divide 24 = .ok (.laload, 1) := by decide +kernel
theorem dX5_divide_25 : decode cX5_divide 25 = .ok (.aload_n 0, 1) := by decide +kernel
theorem dX5_divide_26 : decode cX5_divide 26 = .ok (.getfield 22, 3) := by decide +kernel
theorem dX5_divide_29 : decode cX5_divide 29 = .ok (.iload_n 3, 1) := by decide +kernel
theorem dX5_divide_30 : decode cX5_divide 30 = .ok (.laload, 1) := by decide +kernel
theorem dX5_divide_31 : decode cX5_divide 31 = .ok (.ldiv, 1) := by decide +kernel
theorem dX5_divide_32 : decode cX5_divide 32 = .ok (.lastore, 1) := by decide +kernel
theorem dX5_divide_33 : decode cX5_divide 33 = .ok (.iconst 0, 1) := by decide +kernel
theorem dX5_divide_34 : decode cX5_divide 34 = .ok (.ireturn, 1) := by decide +kernel
theorem dX5_rest_0 : decode cX5_rest 0 = .ok (.aload_n 0, 1) := by decide +kernel
theorem dX5_rest_1 : decode cX5_rest 1 = .ok (.getfield 22, 3) := by decide +kernel
theorem dX5_rest_4 : decode cX5_rest 4 = .ok (.iload_n 3, 1) := by decide +kernel
theorem dX5_rest_5 : decode cX5_rest 5 = .ok (.laload, 1) := by decide +kernel
theorem dX5_rest_6 : decode cX5_rest 6 = .ok (.lconst 0, 1) := by decide +kernel
theorem dX5_rest_7 : decode cX5_rest 7 = .ok (.lcmp, 1) := by decide +kernel
theorem dX5_rest_8 : decode cX5_rest 8 = .ok (.ifCond .ne 6, 3) := by decide +kernel
theorem dX5_rest_11 : decode cX5_rest 11 = .ok (.bipush 6, 2) := by decide +kernel
theorem dX5_rest_13 : decode cX5_rest 13 = .ok (.ireturn, 1) := by decide +kernel
theorem dX5_rest_14 : decode cX5_rest 14 = .ok (.aload_n 0, 1) := by decide +kernel
theorem dX5_rest_15 : decode cX5_rest 15 = .ok (.getfield 22, 3) := by decide +kernel
theorem dX5_rest_18 : decode cX5_rest 18 = .ok (.iload_n 1, 1) := by decide +kernel
theorem dX5_rest_19 : decode cX5_rest 19 = .ok (.aload_n 0, 1) := by decide +kernel
theorem dX5_rest_20 : decode cX5_rest 20 = .ok (.getfield 22, 3) := by decide +kernel
theorem dX5_rest_23 : decode cX5_rest 23 = .ok (.iload_n 2, 1) := by decide +kernel
theorem dX5_rest_24 : decode cX5_rest 24 = .ok (.laload, 1) := by decide +kernel
theorem dX5_rest_25 : decode cX5_rest 25 = .ok (.aload_n 0, 1) := by decide +kernel
theorem dX5_rest_26 : decode cX5_rest 26 = .ok (.getfield 22, 3) := by decide +kernel
theorem dX5_rest_29 : decode cX5_rest 29 = .ok (.iload_n 3, 1) := by decide +kernel
theorem dX5_rest_30 : decode cX5_rest 30 = .ok (.laload, 1) := by decide +kernel
theorem dX5_rest_31 : decode cX5_rest 31 = .ok (.lrem, 1) := by decide +kernel
theorem dX5_rest_32 : decode cX5_rest 32 = .ok (.lastore, 1) := by decide +kernel
theorem dX5_rest_33 : decode cX5_rest 33 = .ok (.iconst 0, 1) := by decide +kernel
theorem dX5_rest_34 : decode cX5_rest 34 = .ok (.ireturn, 1) := by decide +kernel
theorem dX6_init_0 : decode cX6_init 0 = .ok (.aload_n 0, 1) := by decide +kernel
theorem dX6_init_1 : decode cX6_init 1 = .ok (.invokespecial 1, 3) := by decide +kernel
theorem dX6_init_4 : decode cX6_init 4 = .ok (.aload_n 0, 1) := by decide +kernel
theorem dX6_init_5 : decode cX6_init 5 = .ok (.new 7, 3) := by decide +kernel
theorem dX6_init_8 : decode cX6_init 8 = .ok (.dup, 1) := by decide +kernel
theorem dX6_init_9 : decode cX6_init 9 = .ok (.invokespecial 9, 3) := by decide +kernel
theorem dX6_init_12 : decode cX6_init 12 = .ok (.putfield 10, 3) := by decide +kernel
theorem dX6_init_15 : decode cX6_init 15 = .ok (.aload_n 0, 1) := by decide +kernel
theorem dX6_init_16 : decode cX6_init 16 = .ok (.new 16, 3) := by decide +kernel
theorem dX6_init_19 : decode cX6_init 19 = .ok (.dup, 1) := by decide +kernel
theorem dX6_init_20 : decode cX6_init 20 = .ok (.invokespecial 18, 3) := by decide +kernel
theorem dX6_init_23 : decode cX6_init 23 = .ok (.putfield 19, 3) := by decide +kernel
theorem dX6_init_26 : decode cX6_init 26 = .ok (.aload_n 0, 1) := by decide +kernel
theorem dX6_init_27 : decode cX6_init 27 = .ok (.iload_n 1, 1) := by decide +kernel
theorem dX6_init_28 : decode cX6_init 28 = .ok (.putfield 23, 3) := by decide +kernel
theorem dX6_init_31 : decode cX6_init 31 = .ok (.aload_n 0, 1) := by decide +kernel
theorem dX6_init_32 : decode cX6_init 32 = .ok (.iload_n 2, 1) := by decide +kernel
theorem dX6_init_33 : decode cX6_init 33 = .ok (.putfield 27, 3) := by decide +kernel
theorem dX6_init_36 : decode cX6_init 36 = .ok (.return_, 1) := by decide +kernel
theorem dX6_goThrough_0 : decode cX6_goThrough 0 = .ok (.aload_n 0, 1) := by decide +kernel
theorem dX6_goThrough_1 : decode cX6_goThrough 1 = .ok (.getfield 10, 3) := by decide +kernel
theorem dX6_goThrough_4 : decode cX6_goThrough 4 = .ok (.aload_n 1, 1) := by decide +kernel
theorem dX6_goThrough_5 : decode cX6_goThrough 5 = .ok (.invokevirtual 30, 3) := by decide +kernel
theorem dX6_goThrough_8 : decode cX6_goThrough 8 = .ok (.aload_n 0, 1) := by decide +kernel
theorem dX6_goThrough_9 : decode cX6_goThrough 9 = .ok (.getfield 19, 3) := by decide +kernel
theorem dX6_goThrough_12 : decode cX6_goThrough 12 = .ok (.invokevirtual 34, 3) := by decide +kernel
theorem dX6_goThrough_15 : decode cX6_goThrough 15 = .ok (.aload_n 0, 1) := by decide +kernel
theorem dX6_goThrough_16 : decode cX6_goThrough 16 = .ok (.aload_n 1, 1) := by decide +kernel
theorem dX6_goThrough_17 : decode cX6_goThrough 17 = .ok (.invokevirtual 37, 3) := by decide +kernel
theorem dX6_goThrough_20 : decode cX6_goThrough 20 = .ok (.aload_n 0, 1) := by decide +kernel
theorem dX6_goThrough_21 : decode cX6_goThrough 21 = .ok (.dup, 1) := by decide +kernel
theorem dX6_goThrough_22 : decode cX6_goThrough 22 = .ok (.getfield 40, 3) := by decide +kernel
theorem dX6_goThrough_25 : decode cX6_goThrough 25 = .ok (.aload_n 0, 1) := by decide +kernel
theorem dX6_goThrough_26 : decode cX6_goThrough 26 = .ok (.getfield 19, 3) := by decide +kernel
theorem dX6_goThrough_29 : decode cX6_goThrough 29 = .ok (.invokevirtual 43, 3) := by decide +kernel
theorem dX6_goThrough_32 : decode cX6_goThrough 32 = .ok (.ior, 1) := by decide +kernel
theorem dX6_goThrough_33 : decode cX6_goThrough 33 = .ok (.putfield 40, 3) := by decide +kernel
theorem dX6_goThrough_36 : decode cX6_goThrough 36 = .ok (.return_, 1) := by decide +kernel
theorem dX6_isReached_0 : decode cX6_isReached 0 = .ok (.aload_n 0, 1) := by decide +kernel
theorem dX6_isReached_1 : decode cX6_isReached 1 = .ok (.getfield 10, 3) := by decide +kernel
theorem dX6_isReached_4 : decode cX6_isReached 4 = .ok (.invokevirtual 47, 3) := by decide +kernel
theorem dX6_isReached_7 : decode cX6_isReached 7 = .ok (.ireturn, 1) := by decide +kernel
theorem dX6_forgetReport_0 : decode cX6_forgetReport 0 = .ok (.aload_n 0, 1) := by decide +kernel
theorem dX6_forgetReport_1 : decode cX6_forgetReport 1 = .ok (.getfield 10, 3) := by decide +kernel
theorem dX6_forgetReport_4 : decode cX6_forgetReport 4 = .ok (.invokevirtual 51, 3) := by decide +kernel
theorem dX6_forgetReport_7 : decode cX6_forgetReport 7 = .ok (.aload_n 0, 1) := by decide +kernel
theorem dX6_forgetReport_8 : decode cX6_forgetReport 8 = .ok (.iconst 0, 1) := by decide +kernel
theorem dX6_forgetReport_9 : decode cX6_forgetReport 9 = .ok (.putfield 40, 3) := by decide +kernel
theorem dX6_forgetReport_12 : decode cX6_forgetReport 12 = .ok (.return_, 1) := by decide +kernel
theorem dX7_init_0 : decode cX7_init 0 = .ok (.aload_n 0, 1) := by decide +kernel
theorem dX7_init_1 : decode cX7_init 1 = .ok (.invokespecial 3, 3) := by decide +kernel
theorem dX7_init_4 : decode cX7_init 4 = .ok (.aload_n 0, 1) := by decide +kernel
theorem dX7_init_5 : decode cX7_init 5 = .ok (.bipush 12, 2) := by decide +kernel
theorem dX7_init_7 : decode cX7_init 7 = .ok (.newarray .int, 2) := by decide +kernel
theorem dX7_init_9 : decode cX7_init 9 = .ok (.putfield 9, 3) := by decide +kernel
theorem dX7_init_12 : decode cX7_init 12 = .ok (.return_, 1) := by decide +kernel
theorem dX7_isThere_0 : decode cX7_isThere 0 = .ok (.aload_n 0, 1) := by decide +kernel
theorem dX7_isThere_1 : decode cX7_isThere 1 = .ok (.getfield 9, 3) := by decide +kernel
theorem dX7_isThere_4 : decode cX7_isThere 4 = .ok (.iconst 0, 1) := by decide +kernel
theorem dX7_isThere_5 : decode cX7_isThere 5 = .ok (.iaload, 1) := by decide +kernel
theorem dX7_isThere_6 : decode cX7_isThere 6 = .ok (.ifCond .eq 7, 3) := by decide +kernel
theorem dX7_isThere_9 : decode cX7_isThere 9 = .ok (.iconst 1, 1) := by decide +kernel
theorem dX7_isThere_10 : decode cX7_isThere 10 = .ok (.goto 4, 3) := by decide +kernel
theorem dX7_isThere_13 : decode cX7_isThere 13 = .ok (.iconst 0, 1) := by decide +kernel
theorem dX7_isThere_14 : decode cX7_isThere 14 = .ok (.ireturn, 1) := by decide +kernel
theorem dX7_of_0 : decode cX7_of 0 = .ok (.aload_n 0, 1) := by decide +kernel
theorem dX7_of_1 : decode cX7_of 1 = .ok (.getfield 9, 3) := by decide +kernel
theorem dX7_of_4 : decode cX7_of 4 = .ok (.iload_n 1, 1) := by decide +kernel
theorem dX7_of_5 : decode cX7_of 5 = .ok (.iaload, 1) := by decide +kernel
theorem dX7_of_6 : decode cX7_of 6 = .ok (.ireturn, 1) := by decide +kernel
theorem dX7_has_0 : decode cX7_has 0 = .ok (.aload_n 0, 1) := by decide +kernel
theorem dX7_has_1 : decode cX7_has 1 = .ok (.getfield 9, 3) := by decide +kernel
theorem dX7_has_4 : decode cX7_has 4 = .ok (.iload_n 1, 1) := by decide +kernel
theorem dX7_has_5 : decode cX7_has 5 = .ok (.iaload, 1) := by decide +kernel
theorem dX7_has_6 : decode cX7_has 6 = .ok (.iload_n 2, 1) := by decide +kernel
theorem dX7_has_7 : decode cX7_has 7 = .ok (.invokestatic 15, 3) := by decide +kernel
theorem dX7_has_10 : decode cX7_has 10 = .ok (.ireturn, 1) := by decide +kernel
theorem dX7_put_0 : decode cX7_put 0 = .ok (.aload_n 0, 1) := by decide +kernel
theorem dX7_put_1 : decode cX7_put 1 = .ok (.getfield 9, 3) := by decide +kernel
theorem dX7_put_4 : decode cX7_put 4 = .ok (.iload_n 1, 1) := by decide +kernel
theorem dX7_put_5 : decode cX7_put 5 = .ok (.iload_n 2, 1) := by decide +kernel
theorem dX7_put_6 : decode cX7_put 6 = .ok (.iastore, 1) := by decide +kernel
theorem dX7_put_7 : decode cX7_put 7 = .ok (.return_, 1) := by decide +kernel
theorem dX7_keep_0 : decode cX7_keep 0 = .ok (.aload_n 0, 1) := by decide +kernel
theorem dX7_keep_1 : decode cX7_keep 1 = .ok (.getfield 9, 3) := by decide +kernel
theorem dX7_keep_4 : decode cX7_keep 4 = .ok (.iload_n 1, 1) := by decide +kernel
theorem dX7_keep_5 : decode cX7_keep 5 = .ok (.dup2, 1) := by decide +kernel
theorem dX7_keep_6 : decode cX7_keep 6 = .ok (.iaload, 1) := by decide +kernel
theorem dX7_keep_7 : decode cX7_keep 7 = .ok (.iload_n 2, 1) := by decide +kernel
theorem dX7_keep_8 : decode cX7_keep 8 = .ok (.iand, 1) := by decide +kernel
theorem dX7_keep_9 : decode cX7_keep 9 = .ok (.iastore, 1) := by decide +kernel
theorem dX7_keep_10 : decode cX7_keep 10 = .ok (.aload_n 0, 1) := by decide +kernel
theorem dX7_keep_11 : decode cX7_keep 11 = .ok (.getfield 9, 3) := by decide +kernel
theorem dX7_keep_14 : decode cX7_keep 14 = .ok (.iload_n 1, 1) := by decide +kernel
theorem dX7_keep_15 : decode cX7_keep 15 = .ok (.iaload, 1) := by decide +kernel
theorem dX7_keep_16 : decode cX7_keep 16 = .ok (.ifCond .ne 11, 3) := by decide +kernel
theorem dX7_keep_19 : decode cX7_keep 19 = .ok (.aload_n 0, 1) := by decide +kernel
theorem dX7_keep_20 : decode cX7_keep 20 = .ok (.getfield 9, 3) := by decide +kernel
theorem dX7_keep_23 : decode cX7_keep 23 = .ok (.iconst 0, 1) := by decide +kernel
theorem dX7_keep_24 : decode cX7_keep 24 = .ok (.invokestatic 21, 3) := by decide +kernel
theorem dX7_keep_27 : decode cX7_keep 27 = .ok (.return_, 1) := by decide +kernel
theorem dX7_erase_0 : decode cX7_erase 0 = .ok (.aload_n 0, 1) := by decide +kernel
theorem dX7_erase_1 : decode cX7_erase 1 = .ok (.getfield 9, 3) := by decide +kernel
theorem dX7_erase_4 : decode cX7_erase 4 = .ok (.iconst 0, 1) := by decide +kernel
theorem dX7_erase_5 : decode cX7_erase 5 = .ok (.invokestatic 21, 3) := by decide +kernel
theorem dX7_erase_8 : decode cX7_erase 8 = .ok (.return_, 1) := by decide +kernel
theorem dX7_become_0 : decode cX7_become 0 = .ok (.aload_n 1, 1) := by decide +kernel
theorem dX7_become_1 : decode cX7_become 1 = .ok (.getfield 9, 3) := by decide +kernel
theorem dX7_become_4 : decode cX7_become 4 = .ok (.iconst 0, 1) := by decide +kernel
theorem dX7_become_5 : decode cX7_become 5 = .ok (.aload_n 0, 1) := by decide +kernel
theorem dX7_become_6 : decode cX7_become 6 = .ok (.getfield 9, 3) := by decide +kernel
theorem dX7_become_9 : decode cX7_become 9 = .ok (.iconst 0, 1) := by decide +kernel
theorem dX7_become_10 : decode cX7_become 10 = .ok (.bipush 12, 2) := by decide +kernel
theorem dX7_become_12 : decode cX7_become 12 = .ok (.invokestatic 27, 3) := by decide +kernel
theorem dX7_become_15 : decode cX7_become 15 = .ok (.return_, 1) := by decide +kernel
theorem dX7_join_0 : decode cX7_join 0 = .ok (.iconst 0, 1) := by decide +kernel
theorem dX7_join_1 : decode cX7_join 1 = .ok (.istore_n 2, 1) := by decide +kernel
theorem dX7_join_2 : decode cX7_join 2 = .ok (.iload_n 2, 1) := by decide +kernel
theorem dX7_join_3 : decode cX7_join 3 = .ok (.bipush 12, 2) := by decide +kernel
theorem dX7_join_5 : decode cX7_join 5 = .ok (.if_icmp .ge 24, 3) := by decide +kernel
theorem dX7_join_8 : decode cX7_join 8 = .ok (.aload_n 0, 1) := by decide +kernel
theorem dX7_join_9 : decode cX7_join 9 = .ok (.getfield 9, 3) := by decide +kernel
theorem dX7_join_12 : decode cX7_join 12 = .ok (.iload_n 2, 1) := by decide +kernel
theorem dX7_join_13 : decode cX7_join 13 = .ok (.dup2, 1) := by decide +kernel
theorem dX7_join_14 : decode cX7_join 14 = .ok (.iaload, 1) := by decide +kernel
theorem dX7_join_15 : decode cX7_join 15 = .ok (.aload_n 1, 1) := by decide +kernel
theorem dX7_join_16 : decode cX7_join 16 = .ok (.getfield 9, 3) := by decide +kernel
theorem dX7_join_19 : decode cX7_join 19 = .ok (.iload_n 2, 1) := by decide +kernel
theorem dX7_join_20 : decode cX7_join 20 = .ok (.iaload, 1) := by decide +kernel
theorem dX7_join_21 : decode cX7_join 21 = .ok (.ior, 1) := by decide +kernel
theorem dX7_join_22 : decode cX7_join 22 = .ok (.iastore, 1) := by decide +kernel
theorem dX7_join_23 : decode cX7_join 23 = .ok (.iinc 2 1, 3) := by decide +kernel
theorem dX7_join_26 : decode cX7_join 26 = .ok (.goto (-24), 3) := by decide +kernel
theorem dX7_join_29 : decode cX7_join 29 = .ok (.return_, 1) := by decide +kernel
theorem dX7_joinWith_0 : decode cX7_joinWith 0 = .ok (.iconst 0, 1) := by decide +kernel
theorem dX7_joinWith_1 : decode cX7_joinWith 1 = .ok (.istore 4, 2) := by decide +kernel
theorem dX7_joinWith_3 : decode cX7_joinWith 3 = .ok (.iload 4, 2) := by decide +kernel
theorem dX7_joinWith_5 : decode cX7_joinWith 5 = .ok (.bipush 12, 2) := by decide +kernel
theorem dX7_joinWith_7 : decode cX7_joinWith 7 = .ok (.if_icmp .ge 36, 3) := by decide +kernel
theorem dX7_joinWith_10 : decode cX7_joinWith 10 = .ok (.aload_n 0, 1) := by decide +kernel
theorem dX7_joinWith_11 : decode cX7_joinWith 11 = .ok (.getfield 9, 3) := by decide +kernel
theorem dX7_joinWith_14 : decode cX7_joinWith 14 = .ok (.iload 4, 2) := by decide +kernel
theorem dX7_joinWith_16 : decode cX7_joinWith 16 = .ok (.dup2, 1) := by decide +kernel
theorem dX7_joinWith_17 : decode cX7_joinWith 17 = .ok (.iaload, 1) := by decide +kernel
theorem dX7_joinWith_18 : decode cX7_joinWith 18 = .ok (.iload 4, 2) := by decide +kernel
theorem dX7_joinWith_20 : decode cX7_joinWith 20 = .ok (.iload_n 2, 1) := by decide +kernel
theorem dX7_joinWith_21 : decode cX7_joinWith 21 = .ok (.if_icmp .ne 7, 3) := by decide +kernel
theorem dX7_joinWith_24 : decode cX7_joinWith 24 = .ok (.iload_n 3, 1) := by decide +kernel
theorem dX7_joinWith_25 : decode cX7_joinWith 25 = .ok (.goto 10, 3) := by decide +kernel
theorem dX7_joinWith_28 : decode cX7_joinWith 28 = .ok (.aload_n 1, 1) := by decide +kernel
theorem dX7_joinWith_29 : decode cX7_joinWith 29 = .ok (.getfield 9, 3) := by decide +kernel
theorem dX7_joinWith_32 : decode cX7_joinWith 32 = .ok (.iload 4, 2) := by decide +kernel
theorem dX7_joinWith_34 : decode cX7_joinWith 34 = .ok (.iaload, 1) := by decide +kernel
theorem dX7_joinWith_35 : decode cX7_joinWith 35 = .ok (.ior, 1) := by decide +kernel
theorem dX7_joinWith_36 : decode cX7_joinWith 36 = .ok (.iastore, 1) := by decide +kernel
theorem dX7_joinWith_37 : decode cX7_joinWith 37 = .ok (.iinc 4 1, 3) := by decide +kernel
theorem dX7_joinWith_40 : decode cX7_joinWith 40 = .ok (.goto (-37), 3) := by decide +kernel
theorem dX7_joinWith_43 : decode cX7_joinWith 43 = .ok (.return_, 1) := by decide +kernel
theorem dX8_init_0 : decode cX8_init 0 = .ok (.aload_n 0, 1) := by decide +kernel
theorem dX8_init_1 : decode cX8_init 1 = .ok (.invokespecial 3, 3) := by decide +kernel
theorem dX8_init_4 : decode cX8_init 4 = .ok (.aload_n 0, 1) := by decide +kernel
theorem dX8_init_5 : decode cX8_init 5 = .ok (.sipush 201, 3) := by decide +kernel
theorem dX8_init_8 : decode cX8_init 8 = .ok (.newarray .int, 2) := by decide +kernel
theorem dX8_init_10 : decode cX8_init 10 = .ok (.putfield 9, 3) := by decide +kernel
theorem dX8_init_13 : decode cX8_init 13 = .ok (.aload_n 0, 1) := by decide +kernel
theorem dX8_init_14 : decode cX8_init 14 = .ok (.sipush 201, 3) := by decide +kernel
theorem dX8_init_17 : decode cX8_init 17 = .ok (.newarray .int, 2) := by decide +kernel
theorem dX8_init_19 : decode cX8_init 19 = .ok (.putfield 15, 3) := by decide +kernel
theorem dX8_init_22 : decode cX8_init 22 = .ok (.aload_n 0, 1) := by decide +kernel
theorem dX8_init_23 : decode cX8_init 23 = .ok (.sipush 201, 3) := by decide +kernel
theorem dX8_init_26 : decode cX8_init 26 = .ok (.newarray .int, 2) := by decide +kernel
theorem dX8_init_28 : decode cX8_init 28 = .ok (.putfield 18, 3) := by decide +kernel
theorem dX8_init_31 : decode cX8_init 31 = .ok (.aload_n 0, 1) := by decide +kernel
theorem dX8_init_32 : decode cX8_init 32 = .ok (.sipush 3000, 3) := by decide +kernel
theorem dX8_init_35 : decode cX8_init 35 = .ok (.newarray .long, 2) := by decide +kernel
theorem dX8_init_37 : decode cX8_init 37 = .ok (.putfield 21, 3) := by decide +kernel
theorem dX8_init_40 : decode cX8_init 40 = .ok (.return_, 1) := by decide +kernel
theorem dX8_haveRoom_0 : decode cX8_haveRoom 0 = .ok (.aload_n 0, 1) := by decide +kernel
theorem dX8_haveRoom_1 : decode cX8_haveRoom 1 = .ok (.getfield 25, 3) := by decide +kernel
theorem dX8_haveRoom_4 : decode cX8_haveRoom 4 = .ok (.i2l, 1) := by decide +kernel
theorem dX8_haveRoom_5 : decode cX8_haveRoom 5 = .ok (.lload_n 1, 1) := by decide +kernel
theorem dX8_haveRoom_6 : decode cX8_haveRoom 6 = .ok (.ladd, 1) := by decide +kernel
theorem dX8_haveRoom_7 : decode cX8_haveRoom 7 = .ok (.ldc2_w 29, 3) := by decide +kernel
theorem dX8_haveRoom_10 : decode cX8_haveRoom 10 = .ok (.lcmp, 1) := by decide +kernel
theorem dX8_haveRoom_11 : decode cX8_haveRoom 11 = .ok (.ifCond .gt 21, 3) := by decide +kernel
theorem dX8_haveRoom_14 : decode cX8_haveRoom 14 = .ok (.aload_n 0, 1) := by decide +kernel
theorem dX8_haveRoom_15 : decode cX8_haveRoom 15 = .ok (.getfield 31, 3) := by decide +kernel
theorem dX8_haveRoom_18 : decode cX8_haveRoom 18 = .ok (.i2l, 1) := by decide +kernel
theorem dX8_haveRoom_19 : decode cX8_haveRoom 19 = .ok (.lload_n 3, 1) := by decide +kernel
theorem dX8_haveRoom_20 : decode cX8_haveRoom 20 = .ok (.ladd, 1) := by decide +kernel
theorem dX8_haveRoom_21 : decode cX8_haveRoom 21 = .ok (.ldc2_w 34, 3) := by decide +kernel
theorem dX8_haveRoom_24 : decode cX8_haveRoom 24 = .ok (.lcmp, 1) := by decide +kernel
theorem dX8_haveRoom_25 : decode cX8_haveRoom 25 = .ok (.ifCond .gt 7, 3) := by decide +kernel
theorem dX8_haveRoom_28 : decode cX8_haveRoom 28 = .ok (.iconst 1, 1) := by decide +kernel
theorem dX8_haveRoom_29 : decode cX8_haveRoom 29 = .ok (.goto 4, 3) := by decide +kernel
theorem dX8_haveRoom_32 : decode cX8_haveRoom 32 = .ok (.iconst 0, 1) := by decide +kernel
theorem dX8_haveRoom_33 : decode cX8_haveRoom 33 = .ok (.ireturn, 1) := by decide +kernel
theorem dX8_addRow_0 : decode cX8_addRow 0 = .ok (.iload_n 2, 1) := by decide +kernel
theorem dX8_addRow_1 : decode cX8_addRow 1 = .ok (.ifCond .lt 13, 3) := by decide +kernel
theorem dX8_addRow_4 : decode cX8_addRow 4 = .ok (.aload_n 0, 1) := by decide +kernel
theorem dX8_addRow_5 : decode cX8_addRow 5 = .ok (.lconst 1, 1) := by decide +kernel
theorem dX8_addRow_6 : decode cX8_addRow 6 = .ok (.iload_n 2, 1) := by decide +kernel
theorem dX8_addRow_7 : decode cX8_addRow 7 = .ok (.i2l, 1) := by decide +kernel
theorem dX8_addRow_8 : decode cX8_addRow 8 = .ok (.invokevirtual 36, 3) := by decide +kernel
theorem dX8_addRow_11 : decode cX8_addRow 11 = .ok (.ifCond .ne 5, 3) := by decide +kernel
theorem dX8_addRow_14 : decode cX8_addRow 14 = .ok (.iconst 0, 1) := by decide +kernel
theorem dX8_addRow_15 : decode cX8_addRow 15 = .ok (.ireturn, 1) := by decide +kernel
theorem dX8_addRow_16 : decode cX8_addRow 16 = .ok (.aload_n 0, 1) := by decide +kernel
theorem dX8_addRow_17 : decode cX8_addRow 17 = .ok (.dup, 1) := by decide +kernel
theorem dX8_addRow_18 : decode cX8_addRow 18 = .ok (.getfield 25, 3) := by decide +kernel
theorem dX8_addRow_21 : decode cX8_addRow 21 = .ok (.iconst 1, 1) := by decide +kernel
theorem dX8_addRow_22 : decode cX8_addRow 22 = .ok (.iadd, 1) := by decide +kernel
theorem dX8_addRow_23 : decode cX8_addRow 23 = .ok (.putfield 25, 3) := by decide +kernel
theorem dX8_addRow_26 : decode cX8_addRow 26 = .ok (.aload_n 0, 1) := by decide +kernel
theorem dX8_addRow_27 : decode cX8_addRow 27 = .ok (.getfield 9, 3) := by decide +kernel
theorem dX8_addRow_30 : decode cX8_addRow 30 = .ok (.aload_n 0, 1) := by decide +kernel
theorem dX8_addRow_31 : decode cX8_addRow 31 = .ok (.getfield 25, 3) := by decide +kernel
theorem dX8_addRow_34 : decode cX8_addRow 34 = .ok (.iload_n 1, 1) := by decide +kernel
theorem dX8_addRow_35 : decode cX8_addRow 35 = .ok (.iastore, 1) := by decide +kernel
theorem dX8_addRow_36 : decode cX8_addRow 36 = .ok (.aload_n 0, 1) := by decide +kernel
theorem dX8_addRow_37 : decode cX8_addRow 37 = .ok (.getfield 15, 3) := by decide +kernel
theorem dX8_addRow_40 : decode cX8_addRow 40 = .ok (.aload_n 0, 1) := by decide +kernel
theorem dX8_addRow_41 : decode cX8_addRow 41 = .ok (.getfield 25, 3) := by decide +kernel
theorem dX8_addRow_44 : decode cX8_addRow 44 = .ok (.aload_n 0, 1) := by decide +kernel
theorem dX8_addRow_45 : decode cX8_addRow 45 = .ok (.getfield 31, 3) := by decide +kernel
theorem dX8_addRow_48 : decode cX8_addRow 48 = .ok (.iastore, 1) := by decide +kernel
theorem dX8_addRow_49 : decode cX8_addRow 49 = .ok (.aload_n 0, 1) := by decide +kernel
theorem dX8_addRow_50 : decode cX8_addRow 50 = .ok (.getfield 18, 3) := by decide +kernel
theorem dX8_addRow_53 : decode cX8_addRow 53 = .ok (.aload_n 0, 1) := by decide +kernel
theorem dX8_addRow_54 : decode cX8_addRow 54 = .ok (.getfield 25, 3) := by decide +kernel
theorem dX8_addRow_57 : decode cX8_addRow 57 = .ok (.iload_n 2, 1) := by decide +kernel
theorem dX8_addRow_58 : decode cX8_addRow 58 = .ok (.iastore, 1) := by decide +kernel
theorem dX8_addRow_59 : decode cX8_addRow 59 = .ok (.aload_n 0, 1) := by decide +kernel
theorem dX8_addRow_60 : decode cX8_addRow 60 = .ok (.getfield 21, 3) := by decide +kernel
theorem dX8_addRow_63 : decode cX8_addRow 63 = .ok (.aload_n 0, 1) := by decide +kernel
theorem dX8_addRow_64 : decode cX8_addRow 64 = .ok (.getfield 31, 3) := by decide +kernel
theorem dX8_addRow_67 : decode cX8_addRow 67 = .ok (.aload_n 0, 1) := by decide +kernel
theorem dX8_addRow_68 : decode cX8_addRow 68 = .ok (.getfield 31, 3) := by decide +kernel
theorem dX8_addRow_71 : decode cX8_addRow 71 = .ok (.iload_n 2, 1) := by decide +kernel
theorem dX8_addRow_72 : decode cX8_addRow 72 = .ok (.iadd, 1) := by decide +kernel
theorem dX8_addRow_73 : decode cX8_addRow 73 = .ok (.lconst 0, 1) := by decide +kernel
theorem dX8_addRow_74 : decode cX8_addRow 74 = .ok (.invokestatic 40, 3) := by decide +kernel
theorem dX8_addRow_77 : decode cX8_addRow 77 = .ok (.aload_n 0, 1) := by decide +kernel
theorem dX8_addRow_78 : decode cX8_addRow 78 = .ok (.dup, 1) := by decide +kernel
theorem dX8_addRow_79 : decode cX8_addRow 79 = .ok (.getfield 31, 3) := by decide +kernel
theorem dX8_addRow_82 : decode cX8_addRow 82 = .ok (.iload_n 2, 1) := by decide +kernel
theorem dX8_addRow_83 : decode cX8_addRow 83 = .ok (.iadd, 1) := by decide +kernel
theorem dX8_addRow_84 : decode cX8_addRow 84 = .ok (.putfield 31, 3) := by decide +kernel
theorem dX8_addRow_87 : decode cX8_addRow 87 = .ok (.aload_n 0, 1) := by decide +kernel
theorem dX8_addRow_88 : decode cX8_addRow 88 = .ok (.getfield 25, 3) := by decide +kernel
theorem dX8_addRow_91 : decode cX8_addRow 91 = .ok (.ireturn, 1) := by decide +kernel
theorem dX8_addFigure_0 : decode cX8_addFigure 0 = .ok (.aload_n 0, 1) := by decide +kernel
theorem dX8_addFigure_1 : decode cX8_addFigure 1 = .ok (.lconst 1, 1) := by decide +kernel
theorem dX8_addFigure_2 : decode cX8_addFigure 2 = .ok (.lconst 0, 1) := by decide +kernel
theorem dX8_addFigure_3 : decode cX8_addFigure 3 = .ok (.invokevirtual 36, 3) := by decide +kernel
theorem dX8_addFigure_6 : decode cX8_addFigure 6 = .ok (.ifCond .ne 5, 3) := by decide +kernel
theorem dX8_addFigure_9 : decode cX8_addFigure 9 = .ok (.iconst 0, 1) := by decide +kernel
theorem dX8_addFigure_10 : decode cX8_addFigure 10 = .ok (.ireturn, 1) := by decide +kernel
theorem dX8_addFigure_11 : decode cX8_addFigure 11 = .ok (.aload_n 0, 1) := by decide +kernel
theorem dX8_addFigure_12 : decode cX8_addFigure 12 = .ok (.dup, 1) := by decide +kernel
theorem dX8_addFigure_13 : decode cX8_addFigure 13 = .ok (.getfield 25, 3) := by decide +kernel
theorem dX8_addFigure_16 : decode cX8_addFigure 16 = .ok (.iconst 1, 1) := by decide +kernel
theorem dX8_addFigure_17 : decode cX8_addFigure 17 = .ok (.iadd, 1) := by decide +kernel
theorem dX8_addFigure_18 : decode cX8_addFigure 18 = .ok (.putfield 25, 3) := by decide +kernel
theorem dX8_addFigure_21 : decode cX8_addFigure 21 = .ok (.aload_n 0, 1) := by decide +kernel
theorem dX8_addFigure_22 : decode cX8_addFigure 22 = .ok (.getfield 9, 3) := by decide +kernel
theorem dX8_addFigure_25 : decode cX8_addFigure 25 = .ok (.aload_n 0, 1) := by decide +kernel
theorem dX8_addFigure_26 : decode cX8_addFigure 26 = .ok (.getfield 25, 3) := by decide +kernel
theorem dX8_addFigure_29 : decode cX8_addFigure 29 = .ok (.iload_n 1, 1) := by decide +kernel
theorem dX8_addFigure_30 : decode cX8_addFigure 30 = .ok (.iastore, 1) := by decide +kernel
theorem dX8_addFigure_31 : decode cX8_addFigure 31 = .ok (.aload_n 0, 1) := by decide +kernel
theorem dX8_addFigure_32 : decode cX8_addFigure 32 = .ok (.getfield 15, 3) := by decide +kernel
theorem dX8_addFigure_35 : decode cX8_addFigure 35 = .ok (.aload_n 0, 1) := by decide +kernel
theorem dX8_addFigure_36 : decode cX8_addFigure 36 = .ok (.getfield 25, 3) := by decide +kernel
theorem dX8_addFigure_39 : decode cX8_addFigure 39 = .ok (.iconst 0, 1) := by decide +kernel
theorem dX8_addFigure_40 : decode cX8_addFigure 40 = .ok (.iastore, 1) := by decide +kernel
theorem dX8_addFigure_41 : decode cX8_addFigure 41 = .ok (.aload_n 0, 1) := by decide +kernel
theorem dX8_addFigure_42 : decode cX8_addFigure 42 = .ok (.getfield 18, 3) := by decide +kernel
theorem dX8_addFigure_45 : decode cX8_addFigure 45 = .ok (.aload_n 0, 1) := by decide +kernel
theorem dX8_addFigure_46 : decode cX8_addFigure 46 = .ok (.getfield 25, 3) := by decide +kernel
theorem dX8_addFigure_49 : decode cX8_addFigure 49 = .ok (.iload_n 2, 1) := by decide +kernel
theorem dX8_addFigure_50 : decode cX8_addFigure 50 = .ok (.iastore, 1) := by decide +kernel
theorem dX8_addFigure_51 : decode cX8_addFigure 51 = .ok (.aload_n 0, 1) := by decide +kernel
theorem dX8_addFigure_52 : decode cX8_addFigure 52 = .ok (.getfield 25, 3) := by decide +kernel
theorem dX8_addFigure_55 : decode cX8_addFigure 55 = .ok (.ireturn, 1) := by decide +kernel
theorem dX8_removeAll_0 : decode cX8_removeAll 0 = .ok (.aload_n 0, 1) := by decide +kernel
theorem dX8_removeAll_1 : decode cX8_removeAll 1 = .ok (.getfield 25, 3) := by decide +kernel
theorem dX8_removeAll_4 : decode cX8_removeAll 4 = .ok (.istore_n 1, 1) := by decide +kernel
theorem dX8_removeAll_5 : decode cX8_removeAll 5 = .ok (.aload_n 0, 1) := by decide +kernel
theorem dX8_removeAll_6 : decode cX8_removeAll 6 = .ok (.iconst 0, 1) := by decide +kernel
theorem dX8_removeAll_7 : decode cX8_removeAll 7 = .ok (.putfield 25, 3) := by decide +kernel
theorem dX8_removeAll_10 : decode cX8_removeAll 10 = .ok (.aload_n 0, 1) := by decide +kernel
theorem dX8_removeAll_11 : decode cX8_removeAll 11 = .ok (.iconst 0, 1) := by decide +kernel
theorem dX8_removeAll_12 : decode cX8_removeAll 12 = .ok (.putfield 31, 3) := by decide +kernel
theorem dX8_removeAll_15 : decode cX8_removeAll 15 = .ok (.iload_n 1, 1) := by decide +kernel
theorem dX8_removeAll_16 : decode cX8_removeAll 16 = .ok (.ireturn, 1) := by decide +kernel
theorem dX8_kindOf_0 : decode cX8_kindOf 0 = .ok (.iload_n 1, 1) := by decide +kernel
theorem dX8_kindOf_1 : decode cX8_kindOf 1 = .ok (.ifCond .le 20, 3) := by decide +kernel
theorem dX8_kindOf_4 : decode cX8_kindOf 4 = .ok (.iload_n 1, 1) := by decide +kernel
theorem dX8_kindOf_5 : decode cX8_kindOf 5 = .ok (.aload_n 0, 1) := by decide +kernel
theorem dX8_kindOf_6 : decode cX8_kindOf 6 = .ok (.getfield 25, 3) := by decide +kernel
theorem dX8_kindOf_9 : decode cX8_kindOf 9 = .ok (.if_icmp .gt 12, 3) := by decide +kernel
theorem dX8_kindOf_12 : decode cX8_kindOf 12 = .ok (.aload_n 0, 1) := by decide +kernel
theorem dX8_kindOf_13 : decode cX8_kindOf 13 = .ok (.getfield 9, 3) := by decide +kernel
theorem dX8_kindOf_16 : decode cX8_kindOf 16 = .ok (.iload_n 1, 1) := by decide +kernel
theorem dX8_kindOf_17 : decode cX8_kindOf 17 = .ok (.iaload, 1) := by decide +kernel
theorem dX8_kindOf_18 : decode cX8_kindOf 18 = .ok (.goto 4, 3) := by decide +kernel
theorem dX8_kindOf_21 : decode cX8_kindOf 21 = .ok (.iconst 0, 1) := by decide +kernel
theorem dX8_kindOf_22 : decode cX8_kindOf 22 = .ok (.ireturn, 1) := by decide +kernel
theorem dX8_sizeOf_0 : decode cX8_sizeOf 0 = .ok (.iload_n 1, 1) := by decide +kernel
theorem dX8_sizeOf_1 : decode cX8_sizeOf 1 = .ok (.ifCond .le 20, 3) := by decide +kernel
theorem dX8_sizeOf_4 : decode cX8_sizeOf 4 = .ok (.iload_n 1, 1) := by decide +kernel
theorem dX8_sizeOf_5 : decode cX8_sizeOf 5 = .ok (.aload_n 0, 1) := by decide +kernel
theorem dX8_sizeOf_6 : decode cX8_sizeOf 6 = .ok (.getfield 25, 3) := by decide +kernel
theorem dX8_sizeOf_9 : decode cX8_sizeOf 9 = .ok (.if_icmp .gt 12, 3) := by decide +kernel
theorem dX8_sizeOf_12 : decode cX8_sizeOf 12 = .ok (.aload_n 0, 1) := by decide +kernel
theorem dX8_sizeOf_13 : decode cX8_sizeOf 13 = .ok (.getfield 18, 3) := by decide +kernel
theorem dX8_sizeOf_16 : decode cX8_sizeOf 16 = .ok (.iload_n 1, 1) := by decide +kernel
theorem dX8_sizeOf_17 : decode cX8_sizeOf 17 = .ok (.iaload, 1) := by decide +kernel
theorem dX8_sizeOf_18 : decode cX8_sizeOf 18 = .ok (.goto 4, 3) := by decide +kernel
theorem dX8_sizeOf_21 : decode cX8_sizeOf 21 = .ok (.iconst 0, 1) := by decide +kernel
theorem dX8_sizeOf_22 : decode cX8_sizeOf 22 = .ok (.ireturn, 1) := by decide +kernel
theorem dX8_hasItem_0 : decode cX8_hasItem 0 = .ok (.aload_n 0, 1) := by decide +kernel
theorem dX8_hasItem_1 : decode cX8_hasItem 1 = .ok (.iload_n 1, 1) := by decide +kernel
theorem dX8_hasItem_2 : decode cX8_hasItem 2 = .ok (.invokevirtual 46, 3) := by decide +kernel
theorem dX8_hasItem_5 : decode cX8_hasItem 5 = .ok (.invokestatic 50, 3) := by decide +kernel
theorem dX8_hasItem_8 : decode cX8_hasItem 8 = .ok (.ifCond .eq 21, 3) := by decide +kernel
theorem dX8_hasItem_11 : decode cX8_hasItem 11 = .ok (.iload_n 2, 1) := by decide +kernel
theorem dX8_hasItem_12 : decode cX8_hasItem 12 = .ok (.ifCond .lt 17, 3) := by decide +kernel
theorem dX8_hasItem_15 : decode cX8_hasItem 15 = .ok (.iload_n 2, 1) := by decide +kernel
theorem dX8_hasItem_16 : decode cX8_hasItem 16 = .ok (.aload_n 0, 1) := by decide +kernel
theorem dX8_hasItem_17 : decode cX8_hasItem 17 = .ok (.getfield 18, 3) := by decide +kernel
theorem dX8_hasItem_20 : decode cX8_hasItem 20 = .ok (.iload_n 1, 1) := by decide +kernel
theorem dX8_hasItem_21 : decode cX8_hasItem 21 = .ok (.iaload, 1) := by decide +kernel
theorem dX8_hasItem_22 : decode cX8_hasItem 22 = .ok (.if_icmp .ge 7, 3) := by decide +kernel
theorem dX8_hasItem_25 : decode cX8_hasItem 25 = .ok (.iconst 1, 1) := by decide +kernel
theorem dX8_hasItem_26 : decode cX8_hasItem 26 = .ok (.goto 4, 3) := by decide +kernel
theorem dX8_hasItem_29 : decode cX8_hasItem 29 = .ok (.iconst 0, 1) := by decide +kernel
theorem dX8_hasItem_30 : decode cX8_hasItem 30 = .ok (.ireturn, 1) := by decide +kernel
theorem dX8_read_0 : decode cX8_read 0 = .ok (.aload_n 0, 1) := by decide +kernel
theorem dX8_read_1 : decode cX8_read 1 = .ok (.iload_n 1, 1) := by decide +kernel
theorem dX8_read_2 : decode cX8_read 2 = .ok (.iload_n 2, 1) := by decide +kernel
theorem dX8_read_3 : decode cX8_read 3 = .ok (.invokevirtual 56, 3) := by decide +kernel
theorem dX8_read_6 : decode cX8_read 6 = .ok (.ifCond .eq 19, 3) := by decide +kernel
theorem dX8_read_9 : decode cX8_read 9 = .ok (.aload_n 0, 1) := by decide +kernel
theorem dX8_read_10 : decode cX8_read 10 = .ok (.getfield 21, 3) := by decide +kernel
theorem dX8_read_13 : decode cX8_read 13 = .ok (.aload_n 0, 1) := by decide +kernel
theorem dX8_read_14 : decode cX8_read 14 = .ok (.getfield 15, 3) := by decide +kernel
theorem dX8_read_17 : decode cX8_read 17 = .ok (.iload_n 1, 1) := by decide +kernel
theorem dX8_read_18 : decode cX8_read 18 = .ok (.iaload, 1) := by decide +kernel
theorem dX8_read_19 : decode cX8_read 19 = .ok (.iload_n 2, 1) := by decide +kernel
theorem dX8_read_20 : decode cX8_read 20 = .ok (.iadd, 1) := by decide +kernel
theorem dX8_read_21 : decode cX8_read 21 = .ok (.laload, 1) := by decide +kernel
theorem dX8_read_22 : decode cX8_read 22 = .ok (.goto 4, 3) := by decide +kernel
theorem dX8_read_25 : decode cX8_read 25 = .ok (.lconst 0, 1) := by decide +kernel
theorem dX8_read_26 : decode cX8_read 26 = .ok (.lreturn, 1) := by decide +kernel
theorem dX8_write_0 : decode cX8_write 0 = .ok (.aload_n 0, 1) := by decide +kernel
theorem dX8_write_1 : decode cX8_write 1 = .ok (.iload_n 1, 1) := by decide +kernel
theorem dX8_write_2 : decode cX8_write 2 = .ok (.iload_n 2, 1) := by decide +kernel
theorem dX8_write_3 : decode cX8_write 3 = .ok (.invokevirtual 56, 3) := by decide +kernel
theorem dX8_write_6 : decode cX8_write 6 = .ok (.ifCond .eq 26, 3) := by decide +kernel
theorem dX8_write_9 : decode cX8_write 9 = .ok (.aload_n 0, 1) := by decide +kernel
theorem dX8_write_10 : decode cX8_write 10 = .ok (.getfield 21, 3) := by decide +kernel
theorem dX8_write_13 : decode cX8_write 13 = .ok (.aload_n 0, 1) := by decide +kernel
theorem dX8_write_14 : decode cX8_write 14 = .ok (.getfield 15, 3) := by decide +kernel
theorem dX8_write_17 : decode cX8_write 17 = .ok (.iload_n 1, 1) := by decide +kernel
theorem dX8_write_18 : decode cX8_write 18 = .ok (.iaload, 1) := by decide +kernel
theorem dX8_write_19 : decode cX8_write 19 = .ok (.iload_n 2, 1) := by decide +kernel
theorem dX8_write_20 : decode cX8_write 20 = .ok (.iadd, 1) := by decide +kernel
theorem dX8_write_21 : decode cX8_write 21 = .ok (.aload_n 0, 1) := by decide +kernel
theorem dX8_write_22 : decode cX8_write 22 = .ok (.getfield 9, 3) := by decide +kernel
theorem dX8_write_25 : decode cX8_write 25 = .ok (.iload_n 1, 1) := by decide +kernel
theorem dX8_write_26 : decode cX8_write 26 = .ok (.iaload, 1) := by decide +kernel
theorem dX8_write_27 : decode cX8_write 27 = .ok (.lload_n 3, 1) := by decide +kernel
theorem dX8_write_28 : decode cX8_write 28 = .ok (.invokestatic 60, 3) := by decide +kernel
theorem dX8_write_31 : decode cX8_write 31 = .ok (.lastore, 1) := by decide +kernel
theorem dX8_write_32 : decode cX8_write 32 = .ok (.return_, 1) := by decide +kernel
theorem dX8_asItem_0 : decode cX8_asItem 0 = .ok (.iload_n 0, 1) := by decide +kernel
theorem dX8_asItem_1 : decode cX8_asItem 1 = .ok (.tableswitch 60 1 4 #[31, 35, 60, 40], 31) := by decide +kernel
theorem dX8_asItem_32 : decode cX8_asItem 32 = .ok (.lload_n 1, 1) := by decide +kernel
theorem dX8_asItem_33 : decode cX8_asItem 33 = .ok (.l2i, 1) := by decide +kernel
theorem dX8_asItem_34 : decode cX8_asItem 34 = .ok (.i2l, 1) := by decide +kernel
theorem dX8_asItem_35 : decode cX8_asItem 35 = .ok (.lreturn, 1) := by decide +kernel
theorem dX8_asItem_36 : decode cX8_asItem 36 = .ok (.lload_n 1, 1) := by decide +kernel
theorem dX8_asItem_37 : decode cX8_asItem 37 = .ok (.l2i, 1) := by decide +kernel
theorem dX8_asItem_38 : decode cX8_asItem 38 = .ok (.i2b, 1) := by decide +kernel
theorem dX8_asItem_39 : decode cX8_asItem 39 = .ok (.i2l, 1) := by decide +kernel
theorem dX8_asItem_40 : decode cX8_asItem 40 = .ok (.lreturn, 1) := by decide +kernel
theorem dX8_asItem_41 : decode cX8_asItem 41 = .ok (.lload_n 1, 1) := by decide +kernel
theorem dX8_asItem_42 : decode cX8_asItem 42 = .ok (.ldc2_w 64, 3) := by decide +kernel
theorem dX8_asItem_45 : decode cX8_asItem 45 = .ok (.land, 1) := by decide +kernel
theorem dX8_asItem_46 : decode cX8_asItem 46 = .ok (.ldc2_w 66, 3) := by decide +kernel
theorem dX8_asItem_49 : decode cX8_asItem 49 = .ok (.lcmp, 1) := by decide +kernel
theorem dX8_asItem_50 : decode cX8_asItem 50 = .ok (.ifCond .le 9, 3) := by decide +kernel
theorem dX8_asItem_53 : decode cX8_asItem 53 = .ok (.ldc2_w 68, 3) := by decide +kernel
theorem dX8_asItem_56 : decode cX8_asItem 56 = .ok (.goto 4, 3) := by decide +kernel
theorem dX8_asItem_59 : decode cX8_asItem 59 = .ok (.lload_n 1, 1) := by decide +kernel
theorem dX8_asItem_60 : decode cX8_asItem 60 = .ok (.lreturn, 1) := by decide +kernel
theorem dX8_asItem_61 : decode cX8_asItem 61 = .ok (.lload_n 1, 1) := by decide +kernel
theorem dX8_asItem_62 : decode cX8_asItem 62 = .ok (.lreturn, 1) := by decide +kernel
theorem dX8_hasPart_0 : decode cX8_hasPart 0 = .ok (.aload_n 0, 1) := by decide +kernel
theorem dX8_hasPart_1 : decode cX8_hasPart 1 = .ok (.iload_n 1, 1) := by decide +kernel
theorem dX8_hasPart_2 : decode cX8_hasPart 2 = .ok (.invokevirtual 46, 3) := by decide +kernel
theorem dX8_hasPart_5 : decode cX8_hasPart 5 = .ok (.invokestatic 50, 3) := by decide +kernel
theorem dX8_hasPart_8 : decode cX8_hasPart 8 = .ok (.ifCond .eq 31, 3) := by decide +kernel
theorem dX8_hasPart_11 : decode cX8_hasPart 11 = .ok (.iload_n 2, 1) := by decide +kernel
theorem dX8_hasPart_12 : decode cX8_hasPart 12 = .ok (.ifCond .lt 27, 3) := by decide +kernel
theorem dX8_hasPart_15 : decode cX8_hasPart 15 = .ok (.iload_n 3, 1) := by decide +kernel
theorem dX8_hasPart_16 : decode cX8_hasPart 16 = .ok (.ifCond .lt 23, 3) := by decide +kernel
theorem dX8_hasPart_19 : decode cX8_hasPart 19 = .ok (.iload_n 2, 1) := by decide +kernel
theorem dX8_hasPart_20 : decode cX8_hasPart 20 = .ok (.i2l, 1) := by decide +kernel
theorem dX8_hasPart_21 : decode cX8_hasPart 21 = .ok (.iload_n 3, 1) := by decide +kernel
theorem dX8_hasPart_22 : decode cX8_hasPart 22 = .ok (.i2l, 1) := by decide +kernel
theorem dX8_hasPart_23 : decode cX8_hasPart 23 = .ok (.ladd, 1) := by decide +kernel
theorem dX8_hasPart_24 : decode cX8_hasPart 24 = .ok (.aload_n 0, 1) := by decide +kernel
theorem dX8_hasPart_25 : decode cX8_hasPart 25 = .ok (.getfield 18, 3) := by decide +kernel
theorem dX8_hasPart_28 : decode cX8_hasPart 28 = .ok (.iload_n 1, 1) := by decide +kernel
theorem dX8_hasPart_29 : decode cX8_hasPart 29 = .ok (.iaload, 1) := by decide +kernel
theorem dX8_hasPart_30 : decode cX8_hasPart 30 = .ok (.i2l, 1) := by decide +kernel
theorem dX8_hasPart_31 : decode cX8_hasPart 31 = .ok (.lcmp, 1) := by decide +kernel
theorem dX8_hasPart_32 : decode cX8_hasPart 32 = .ok (.ifCond .gt 7, 3) := by decide +kernel
theorem dX8_hasPart_35 : decode cX8_hasPart 35 = .ok (.iconst 1, 1) := by decide +kernel
theorem dX8_hasPart_36 : decode cX8_hasPart 36 = .ok (.goto 4, 3) := by decide +kernel
theorem dX8_hasPart_39 : decode cX8_hasPart 39 = .ok (.iconst 0, 1) := by decide +kernel
theorem dX8_hasPart_40 : decode cX8_hasPart 40 = .ok (.ireturn, 1) := by decide +kernel
theorem dX8_bring_0 : decode cX8_bring 0 = .ok (.aload_n 0, 1) := by decide +kernel
theorem dX8_bring_1 : decode cX8_bring 1 = .ok (.iload_n 1, 1) := by decide +kernel
theorem dX8_bring_2 : decode cX8_bring 2 = .ok (.iload_n 2, 1) := by decide +kernel
theorem dX8_bring_3 : decode cX8_bring 3 = .ok (.iload 5, 2) := by decide +kernel
theorem dX8_bring_5 : decode cX8_bring 5 = .ok (.invokevirtual 70, 3) := by decide +kernel
theorem dX8_bring_8 : decode cX8_bring 8 = .ok (.ifCond .eq 15, 3) := by decide +kernel
theorem dX8_bring_11 : decode cX8_bring 11 = .ok (.aload_n 0, 1) := by decide +kernel
theorem dX8_bring_12 : decode cX8_bring 12 = .ok (.iload_n 3, 1) := by decide +kernel
theorem dX8_bring_13 : decode cX8_bring 13 = .ok (.iload 4, 2) := by decide +kernel
theorem dX8_bring_15 : decode cX8_bring 15 = .ok (.iload 5, 2) := by decide +kernel
theorem dX8_bring_17 : decode cX8_bring 17 = .ok (.invokevirtual 70, 3) := by decide +kernel
theorem dX8_bring_20 : decode cX8_bring 20 = .ok (.ifCond .ne 5, 3) := by decide +kernel
theorem dX8_bring_23 : decode cX8_bring 23 = .ok (.iconst 0, 1) := by decide +kernel
theorem dX8_bring_24 : decode cX8_bring 24 = .ok (.ireturn, 1) := by decide +kernel
theorem dX8_bring_25 : decode cX8_bring 25 = .ok (.aload_n 0, 1) := by decide +kernel
theorem dX8_bring_26 : decode cX8_bring 26 = .ok (.getfield 9, 3) := by decide +kernel
theorem dX8_bring_29 : decode cX8_bring 29 = .ok (.iload_n 1, 1) := by decide +kernel
theorem dX8_bring_30 : decode cX8_bring 30 = .ok (.iaload, 1) := by decide +kernel
theorem dX8_bring_31 : decode cX8_bring 31 = .ok (.aload_n 0, 1) := by decide +kernel
theorem dX8_bring_32 : decode cX8_bring 32 = .ok (.getfield 9, 3) := by decide +kernel
theorem dX8_bring_35 : decode cX8_bring 35 = .ok (.iload_n 3, 1) := by decide +kernel
theorem dX8_bring_36 : decode cX8_bring 36 = .ok (.iaload, 1) := by decide +kernel
theorem dX8_bring_37 : decode cX8_bring 37 = .ok (.if_icmp .eq 15, 3) := by decide +kernel
theorem dX8_bring_40 : decode cX8_bring 40 = .ok (.aload_n 0, 1) := by decide +kernel
theorem dX8_bring_41 : decode cX8_bring 41 = .ok (.iload_n 1, 1) := by decide +kernel
theorem dX8_bring_42 : decode cX8_bring 42 = .ok (.iload_n 2, 1) := by decide +kernel
theorem dX8_bring_43 : decode cX8_bring 43 = .ok (.iload_n 3, 1) := by decide +kernel
theorem dX8_bring_44 : decode cX8_bring 44 = .ok (.iload 4, 2) := by decide +kernel
theorem dX8_bring_46 : decode cX8_bring 46 = .ok (.iload 5, 2) := by decide +kernel
theorem dX8_bring_48 : decode cX8_bring 48 = .ok (.invokevirtual 74, 3) := by decide +kernel
theorem dX8_bring_51 : decode cX8_bring 51 = .ok (.ireturn, 1) := by decide +kernel
theorem dX8_bring_52 : decode cX8_bring 52 = .ok (.aload_n 0, 1) := by decide +kernel
theorem dX8_bring_53 : decode cX8_bring 53 = .ok (.getfield 21, 3) := by decide +kernel
theorem dX8_bring_56 : decode cX8_bring 56 = .ok (.aload_n 0, 1) := by decide +kernel
theorem dX8_bring_57 : decode cX8_bring 57 = .ok (.getfield 15, 3) := by decide +kernel
theorem dX8_bring_60 : decode cX8_bring 60 = .ok (.iload_n 1, 1) := by decide +kernel
theorem dX8_bring_61 : decode cX8_bring 61 = .ok (.iaload, 1) := by decide +kernel
theorem dX8_bring_62 : decode cX8_bring 62 = .ok (.iload_n 2, 1) := by decide +kernel
theorem dX8_bring_63 : decode cX8_bring 63 = .ok (.iadd, 1) := by decide +kernel
theorem dX8_bring_64 : decode cX8_bring 64 = .ok (.aload_n 0, 1) := by decide +kernel
theorem dX8_bring_65 : decode cX8_bring 65 = .ok (.getfield 21, 3) := by decide +kernel
theorem dX8_bring_68 : decode cX8_bring 68 = .ok (.aload_n 0, 1) := by decide +kernel
theorem dX8_bring_69 : decode cX8_bring 69 = .ok (.getfield 15, 3) := by decide +kernel
theorem dX8_bring_72 : decode cX8_bring 72 = .ok (.iload_n 3, 1) := by decide +kernel
theorem dX8_bring_73 : decode cX8_bring 73 = .ok (.iaload, 1) := by decide +kernel
theorem dX8_bring_74 : decode cX8_bring 74 = .ok (.iload 4, 2) := by decide +kernel
theorem dX8_bring_76 : decode cX8_bring 76 = .ok (.iadd, 1) := by decide +kernel
theorem dX8_bring_77 : decode cX8_bring 77 = .ok (.iload 5, 2) := by decide +kernel
theorem dX8_bring_79 : decode cX8_bring 79 = .ok (.invokestatic 78, 3) := by decide +kernel
theorem dX8_bring_82 : decode cX8_bring 82 = .ok (.iload 5, 2) := by decide +kernel
theorem dX8_bring_84 : decode cX8_bring 84 = .ok (.ireturn, 1) := by decide +kernel
theorem dX8_bringOneByOne_0 : decode cX8_bringOneByOne 0 = .ok (.aload_n 0, 1) := by decide +kernel
theorem dX8_bringOneByOne_1 : decode cX8_bringOneByOne 1 = .ok (.getfield 9, 3) := by decide +kernel
theorem dX8_bringOneByOne_4 : decode cX8_bringOneByOne 4 = .ok (.iload_n 3, 1) := by decide +kernel
theorem dX8_bringOneByOne_5 : decode cX8_bringOneByOne 5 = .ok (.iaload, 1) := by decide +kernel
theorem dX8_bringOneByOne_6 : decode cX8_bringOneByOne 6 = .ok (.invokestatic 84, 3) := by decide +kernel
theorem dX8_bringOneByOne_9 : decode cX8_bringOneByOne 9 = .ok (.invokestatic 87, 3) := by decide +kernel
theorem dX8_bringOneByOne_12 : decode cX8_bringOneByOne 12 = .ok (.iconst 1, 1) := by decide +kernel
theorem dX8_bringOneByOne_13 : decode cX8_bringOneByOne 13 = .ok (.ior, 1) := by decide +kernel
theorem dX8_bringOneByOne_14 : decode cX8_bringOneByOne 14 = .ok (.istore 6, 2) := by decide +kernel
theorem dX8_bringOneByOne_16 : decode cX8_bringOneByOne 16 = .ok (.aload_n 0, 1) := by decide +kernel
theorem dX8_bringOneByOne_17 : decode cX8_bringOneByOne 17 = .ok (.getfield 15, 3) := by decide +kernel
theorem dX8_bringOneByOne_20 : decode cX8_bringOneByOne 20 = .ok (.iload_n 1, 1) := by decide +kernel
theorem dX8_bringOneByOne_21 : decode cX8_bringOneByOne 21 = .ok (.iaload, 1) := by decide +kernel
theorem dX8_bringOneByOne_22 : decode cX8_bringOneByOne 22 = .ok (.iload_n 2, 1) := by decide +kernel
theorem dX8_bringOneByOne_23 : decode cX8_bringOneByOne 23 = .ok (.iadd, 1) := by decide +kernel
theorem dX8_bringOneByOne_24 : decode cX8_bringOneByOne 24 = .ok (.istore 7, 2) := by decide +kernel
theorem dX8_bringOneByOne_26 : decode cX8_bringOneByOne 26 = .ok (.aload_n 0, 1) := by decide +kernel
theorem dX8_bringOneByOne_27 : decode cX8_bringOneByOne 27 = .ok (.getfield 15, 3) := by decide +kernel
theorem dX8_bringOneByOne_30 : decode cX8_bringOneByOne 30 = .ok (.iload_n 3, 1) := by decide +kernel
theorem dX8_bringOneByOne_31 : decode cX8_bringOneByOne 31 = .ok (.iaload, 1) := by decide +kernel
theorem dX8_bringOneByOne_32 : decode cX8_bringOneByOne 32 = .ok (.iload 4, 2) := by decide +kernel
theorem dX8_bringOneByOne_34 : decode cX8_bringOneByOne 34 = .ok (.iadd, 1) := by decide +kernel
theorem dX8_bringOneByOne_35 : decode cX8_bringOneByOne 35 = .ok (.istore 8, 2) := by decide +kernel
theorem dX8_bringOneByOne_37 : decode cX8_bringOneByOne 37 = .ok (.iconst 0, 1) := by decide +kernel
theorem dX8_bringOneByOne_38 : decode cX8_bringOneByOne 38 = .ok (.istore 9, 2) := by decide +kernel
theorem dX8_bringOneByOne_40 : decode cX8_bringOneByOne 40 = .ok (.iload 9, 2) := by decide +kernel
theorem dX8_bringOneByOne_42 : decode cX8_bringOneByOne 42 = .ok (.iload 5, 2) := by decide +kernel
theorem dX8_bringOneByOne_44 : decode cX8_bringOneByOne 44 = .ok (.if_icmp .ge 52, 3) := by decide +kernel
theorem dX8_bringOneByOne_47 : decode cX8_bringOneByOne 47 = .ok (.aload_n 0, 1) := by decide +kernel
theorem dX8_bringOneByOne_48 : decode cX8_bringOneByOne 48 = .ok (.getfield 21, 3) := by decide +kernel
theorem dX8_bringOneByOne_51 : decode cX8_bringOneByOne 51 = .ok (.iload 7, 2) := by decide +kernel
theorem dX8_bringOneByOne_53 : decode cX8_bringOneByOne 53 = .ok (.iload 9, 2) := by decide +kernel
theorem dX8_bringOneByOne_55 : decode cX8_bringOneByOne 55 = .ok (.iadd, 1) := by decide +kernel
theorem dX8_bringOneByOne_56 : decode cX8_bringOneByOne 56 = .ok (.laload, 1) := by decide +kernel
theorem dX8_bringOneByOne_57 : decode cX8_bringOneByOne 57 = .ok (.l2i, 1) := by decide +kernel
theorem dX8_bringOneByOne_58 : decode cX8_bringOneByOne 58 = .ok (.istore 10, 2) := by decide +kernel
theorem dX8_bringOneByOne_60 : decode cX8_bringOneByOne 60 = .ok (.iload 6, 2) := by decide +kernel
theorem dX8_bringOneByOne_62 : decode cX8_bringOneByOne 62 = .ok (.aload_n 0, 1) := by decide +kernel
theorem dX8_bringOneByOne_63 : decode cX8_bringOneByOne 63 = .ok (.iload 10, 2) := by decide +kernel
theorem dX8_bringOneByOne_65 : decode cX8_bringOneByOne 65 = .ok (.invokevirtual 46, 3) := by decide +kernel
theorem dX8_bringOneByOne_68 : decode cX8_bringOneByOne 68 = .ok (.invokestatic 90, 3) := by decide +kernel
theorem dX8_bringOneByOne_71 : decode cX8_bringOneByOne 71 = .ok (.ifCond .ne 6, 3) := by decide +kernel
theorem dX8_bringOneByOne_74 : decode cX8_bringOneByOne 74 = .ok (.iload 9, 2) := by decide +kernel
theorem dX8_bringOneByOne_76 : decode cX8_bringOneByOne 76 = .ok (.ireturn, 1) := by decide +kernel
theorem dX8_bringOneByOne_77 : decode cX8_bringOneByOne 77 = .ok (.aload_n 0, 1) := by decide +kernel
theorem dX8_bringOneByOne_78 : decode cX8_bringOneByOne 78 = .ok (.getfield 21, 3) := by decide +kernel
theorem dX8_bringOneByOne_81 : decode cX8_bringOneByOne 81 = .ok (.iload 8, 2) := by decide +kernel
theorem dX8_bringOneByOne_83 : decode cX8_bringOneByOne 83 = .ok (.iload 9, 2) := by decide +kernel
theorem dX8_bringOneByOne_85 : decode cX8_bringOneByOne 85 = .ok (.iadd, 1) := by decide +kernel
theorem dX8_bringOneByOne_86 : decode cX8_bringOneByOne 86 = .ok (.iload 10, 2) := by decide +kernel
theorem dX8_bringOneByOne_88 : decode cX8_bringOneByOne 88 = .ok (.i2l, 1) := by decide +kernel
theorem dX8_bringOneByOne_89 : decode cX8_bringOneByOne 89 = .ok (.lastore, 1) := by decide +kernel
theorem dX8_bringOneByOne_90 : decode cX8_bringOneByOne 90 = .ok (.iinc 9 1, 3) := by decide +kernel
theorem dX8_bringOneByOne_93 : decode cX8_bringOneByOne 93 = .ok (.goto (-53), 3) := by decide +kernel
theorem dX8_bringOneByOne_96 : decode cX8_bringOneByOne 96 = .ok (.iload 5, 2) := by decide +kernel
theorem dX8_bringOneByOne_98 : decode cX8_bringOneByOne 98 = .ok (.ireturn, 1) := by decide +kernel
theorem dX8_match_0 : decode cX8_match 0 = .ok (.aload_n 0, 1) := by decide +kernel
theorem dX8_match_1 : decode cX8_match 1 = .ok (.iload_n 1, 1) := by decide +kernel
theorem dX8_match_2 : decode cX8_match 2 = .ok (.invokevirtual 46, 3) := by decide +kernel
theorem dX8_match_5 : decode cX8_match 5 = .ok (.istore_n 3, 1) := by decide +kernel
theorem dX8_match_6 : decode cX8_match 6 = .ok (.iload_n 3, 1) := by decide +kernel
theorem dX8_match_7 : decode cX8_match 7 = .ok (.aload_n 0, 1) := by decide +kernel
theorem dX8_match_8 : decode cX8_match 8 = .ok (.iload_n 2, 1) := by decide +kernel
theorem dX8_match_9 : decode cX8_match 9 = .ok (.invokevirtual 46, 3) := by decide +kernel
theorem dX8_match_12 : decode cX8_match 12 = .ok (.if_icmp .ne 16, 3) := by decide +kernel
theorem dX8_match_15 : decode cX8_match 15 = .ok (.aload_n 0, 1) := by decide +kernel
theorem dX8_match_16 : decode cX8_match 16 = .ok (.iload_n 1, 1) := by decide +kernel
theorem dX8_match_17 : decode cX8_match 17 = .ok (.invokevirtual 93, 3) := by decide +kernel
theorem dX8_match_20 : decode cX8_match 20 = .ok (.aload_n 0, 1) := by decide +kernel
theorem dX8_match_21 : decode cX8_match 21 = .ok (.iload_n 2, 1) := by decide +kernel
theorem dX8_match_22 : decode cX8_match 22 = .ok (.invokevirtual 93, 3) := by decide +kernel
theorem dX8_match_25 : decode cX8_match 25 = .ok (.if_icmp .eq 5, 3) := by decide +kernel
theorem dX8_match_28 : decode cX8_match 28 = .ok (.iconst 0, 1) := by decide +kernel
theorem dX8_match_29 : decode cX8_match 29 = .ok (.ireturn, 1) := by decide +kernel
theorem dX8_match_30 : decode cX8_match 30 = .ok (.iload_n 3, 1) := by decide +kernel
theorem dX8_match_31 : decode cX8_match 31 = .ok (.invokestatic 50, 3) := by decide +kernel
theorem dX8_match_34 : decode cX8_match 34 = .ok (.ifCond .ne 5, 3) := by decide +kernel
theorem dX8_match_37 : decode cX8_match 37 = .ok (.iconst 1, 1) := by decide +kernel
theorem dX8_match_38 : decode cX8_match 38 = .ok (.ireturn, 1) := by decide +kernel
theorem dX8_match_39 : decode cX8_match 39 = .ok (.iload_n 3, 1) := by decide +kernel
theorem dX8_match_40 : decode cX8_match 40 = .ok (.iconst 5, 1) := by decide +kernel
theorem dX8_match_41 : decode cX8_match 41 = .ok (.if_icmp .ne 12, 3) := by decide +kernel
theorem dX8_match_44 : decode cX8_match 44 = .ok (.aload_n 0, 1) := by decide +kernel
theorem dX8_match_45 : decode cX8_match 45 = .ok (.iload_n 1, 1) := by decide +kernel
theorem dX8_match_46 : decode cX8_match 46 = .ok (.iload_n 2, 1) := by decide +kernel
theorem dX8_match_47 : decode cX8_match 47 = .ok (.invokevirtual 96, 3) := by decide +kernel
theorem dX8_match_50 : decode cX8_match 50 = .ok (.goto 9, 3) := by decide +kernel
theorem dX8_match_53 : decode cX8_match 53 = .ok (.aload_n 0, 1) := by decide +kernel
theorem dX8_match_54 : decode cX8_match 54 = .ok (.iload_n 1, 1) := by decide +kernel
theorem dX8_match_55 : decode cX8_match 55 = .ok (.iload_n 2, 1) := by decide +kernel
theorem dX8_match_56 : decode cX8_match 56 = .ok (.invokevirtual 99, 3) := by decide +kernel
theorem dX8_match_59 : decode cX8_match 59 = .ok (.ireturn, 1) := by decide +kernel
theorem dX8_numbersMatch_0 : decode cX8_numbersMatch 0 = .ok (.aload_n 0, 1) := by decide +kernel
theorem dX8_numbersMatch_1 : decode cX8_numbersMatch 1 = .ok (.iload_n 1, 1) := by decide +kernel
theorem dX8_numbersMatch_2 : decode cX8_numbersMatch 2 = .ok (.invokevirtual 93, 3) := by decide +kernel
theorem dX8_numbersMatch_5 : decode cX8_numbersMatch 5 = .ok (.istore_n 3, 1) := by decide +kernel
theorem dX8_numbersMatch_6 : decode cX8_numbersMatch 6 = .ok (.iload_n 3, 1) := by decide +kernel
theorem dX8_numbersMatch_7 : decode cX8_numbersMatch 7 = .ok (.aload_n 0, 1) := by decide +kernel
theorem dX8_numbersMatch_8 : decode cX8_numbersMatch 8 = .ok (.iload_n 2, 1) := by decide +kernel
theorem dX8_numbersMatch_9 : decode cX8_numbersMatch 9 = .ok (.invokevirtual 93, 3) := by decide +kernel
theorem dX8_numbersMatch_12 : decode cX8_numbersMatch 12 = .ok (.if_icmp .eq 5, 3) := by decide +kernel
theorem dX8_numbersMatch_15 : decode cX8_numbersMatch 15 = .ok (.iconst 0, 1) := by decide +kernel
theorem dX8_numbersMatch_16 : decode cX8_numbersMatch 16 = .ok (.ireturn, 1) := by decide +kernel
theorem dX8_numbersMatch_17 : decode cX8_numbersMatch 17 = .ok (.iconst 0, 1) := by decide +kernel
theorem dX8_numbersMatch_18 : decode cX8_numbersMatch 18 = .ok (.istore 4, 2) := by decide +kernel
theorem dX8_numbersMatch_20 : decode cX8_numbersMatch 20 = .ok (.iload 4, 2) := by decide +kernel
theorem dX8_numbersMatch_22 : decode cX8_numbersMatch 22 = .ok (.iload_n 3, 1) := by decide +kernel
theorem dX8_numbersMatch_23 : decode cX8_numbersMatch 23 = .ok (.if_icmp .ge 29, 3) := by decide +kernel
theorem dX8_numbersMatch_26 : decode cX8_numbersMatch 26 = .ok (.aload_n 0, 1) := by decide +kernel
theorem dX8_numbersMatch_27 : decode cX8_numbersMatch 27 = .ok (.iload_n 1, 1) := by decide +kernel
theorem dX8_numbersMatch_28 : decode cX8_numbersMatch 28 = .ok (.iload 4, 2) := by decide +kernel
theorem dX8_numbersMatch_30 : decode cX8_numbersMatch 30 = .ok (.invokevirtual 102, 3) := by decide +kernel
theorem dX8_numbersMatch_33 : decode cX8_numbersMatch 33 = .ok (.aload_n 0, 1) := by decide +kernel
theorem dX8_numbersMatch_34 : decode cX8_numbersMatch 34 = .ok (.iload_n 2, 1) := by decide +kernel
theorem dX8_numbersMatch_35 : decode cX8_numbersMatch 35 = .ok (.iload 4, 2) := by decide +kernel
theorem dX8_numbersMatch_37 : decode cX8_numbersMatch 37 = .ok (.invokevirtual 102, 3) := by decide +kernel
theorem dX8_numbersMatch_40 : decode cX8_numbersMatch 40 = .ok (.lcmp, 1) := by decide +kernel
theorem dX8_numbersMatch_41 : decode cX8_numbersMatch 41 = .ok (.ifCond .eq 5, 3) := by decide +kernel
theorem dX8_numbersMatch_44 : decode cX8_numbersMatch 44 = .ok (.iconst 0, 1) := by decide +kernel
theorem dX8_numbersMatch_45 : decode cX8_numbersMatch 45 = .ok (.ireturn, 1) := by decide +kernel
theorem dX8_numbersMatch_46 : decode cX8_numbersMatch 46 = .ok (.iinc 4 1, 3) := by decide +kernel
theorem dX8_numbersMatch_49 : decode cX8_numbersMatch 49 = .ok (.goto (-29), 3) := by decide +kernel
theorem dX8_numbersMatch_52 : decode cX8_numbersMatch 52 = .ok (.iconst 1, 1) := by decide +kernel
theorem dX8_numbersMatch_53 : decode cX8_numbersMatch 53 = .ok (.ireturn, 1) := by decide +kernel
theorem dX8_rowsMatch_0 : decode cX8_rowsMatch 0 = .ok (.aload_n 0, 1) := by decide +kernel
theorem dX8_rowsMatch_1 : decode cX8_rowsMatch 1 = .ok (.iload_n 1, 1) := by decide +kernel
theorem dX8_rowsMatch_2 : decode cX8_rowsMatch 2 = .ok (.invokevirtual 93, 3) := by decide +kernel
theorem dX8_rowsMatch_5 : decode cX8_rowsMatch 5 = .ok (.istore_n 3, 1) := by decide +kernel
theorem dX8_rowsMatch_6 : decode cX8_rowsMatch 6 = .ok (.iconst 0, 1) := by decide +kernel
theorem dX8_rowsMatch_7 : decode cX8_rowsMatch 7 = .ok (.istore 4, 2) := by decide +kernel
theorem dX8_rowsMatch_9 : decode cX8_rowsMatch 9 = .ok (.iload 4, 2) := by decide +kernel
theorem dX8_rowsMatch_11 : decode cX8_rowsMatch 11 = .ok (.iload_n 3, 1) := by decide +kernel
theorem dX8_rowsMatch_12 : decode cX8_rowsMatch 12 = .ok (.if_icmp .ge 71, 3) := by decide +kernel
theorem dX8_rowsMatch_15 : decode cX8_rowsMatch 15 = .ok (.aload_n 0, 1) := by decide +kernel
theorem dX8_rowsMatch_16 : decode cX8_rowsMatch 16 = .ok (.iload_n 1, 1) := by decide +kernel
theorem dX8_rowsMatch_17 : decode cX8_rowsMatch 17 = .ok (.iload 4, 2) := by decide +kernel
theorem dX8_rowsMatch_19 : decode cX8_rowsMatch 19 = .ok (.invokevirtual 102, 3) := by decide +kernel
theorem dX8_rowsMatch_22 : decode cX8_rowsMatch 22 = .ok (.l2i, 1) := by decide +kernel
theorem dX8_rowsMatch_23 : decode cX8_rowsMatch 23 = .ok (.istore 5, 2) := by decide +kernel
theorem dX8_rowsMatch_25 : decode cX8_rowsMatch 25 = .ok (.aload_n 0, 1) := by decide +kernel
theorem dX8_rowsMatch_26 : decode cX8_rowsMatch 26 = .ok (.iload_n 2, 1) := by decide +kernel
theorem dX8_rowsMatch_27 : decode cX8_rowsMatch 27 = .ok (.iload 4, 2) := by decide +kernel
theorem dX8_rowsMatch_29 : decode cX8_rowsMatch 29 = .ok (.invokevirtual 102, 3) := by decide +kernel
theorem dX8_rowsMatch_32 : decode cX8_rowsMatch 32 = .ok (.l2i, 1) := by decide +kernel
theorem dX8_rowsMatch_33 : decode cX8_rowsMatch 33 = .ok (.istore 6, 2) := by decide +kernel
theorem dX8_rowsMatch_35 : decode cX8_rowsMatch 35 = .ok (.iload 5, 2) := by decide +kernel
theorem dX8_rowsMatch_37 : decode cX8_rowsMatch 37 = .ok (.ifCond .eq 8, 3) := by decide +kernel
theorem dX8_rowsMatch_40 : decode cX8_rowsMatch 40 = .ok (.iload 6, 2) := by decide +kernel
theorem dX8_rowsMatch_42 : decode cX8_rowsMatch 42 = .ok (.ifCond .ne 7, 3) := by decide +kernel
theorem dX8_rowsMatch_45 : decode cX8_rowsMatch 45 = .ok (.iconst 1, 1) := by decide +kernel
theorem dX8_rowsMatch_46 : decode cX8_rowsMatch 46 = .ok (.goto 4, 3) := by decide +kernel
theorem dX8_rowsMatch_49 : decode cX8_rowsMatch 49 = .ok (.iconst 0, 1) := by decide +kernel
theorem dX8_rowsMatch_50 : decode cX8_rowsMatch 50 = .ok (.istore 7, 2) := by decide +kernel
theorem dX8_rowsMatch_52 : decode cX8_rowsMatch 52 = .ok (.iload 5, 2) := by decide +kernel
theorem dX8_rowsMatch_54 : decode cX8_rowsMatch 54 = .ok (.iload 6, 2) := by decide +kernel
theorem dX8_rowsMatch_56 : decode cX8_rowsMatch 56 = .ok (.if_icmp .eq 21, 3) := by decide +kernel
theorem dX8_rowsMatch_59 : decode cX8_rowsMatch 59 = .ok (.iload 7, 2) := by decide +kernel
theorem dX8_rowsMatch_61 : decode cX8_rowsMatch 61 = .ok (.ifCond .ne 14, 3) := by decide +kernel
theorem dX8_rowsMatch_64 : decode cX8_rowsMatch 64 = .ok (.aload_n 0, 1) := by decide +kernel
theorem dX8_rowsMatch_65 : decode cX8_rowsMatch 65 = .ok (.iload 5, 2) := by decide +kernel
theorem dX8_rowsMatch_67 : decode cX8_rowsMatch 67 = .ok (.iload 6, 2) := by decide +kernel
theorem dX8_rowsMatch_69 : decode cX8_rowsMatch 69 = .ok (.invokevirtual 99, 3) := by decide +kernel
theorem dX8_rowsMatch_72 : decode cX8_rowsMatch 72 = .ok (.ifCond .ne 5, 3) := by decide +kernel
theorem dX8_rowsMatch_75 : decode cX8_rowsMatch 75 = .ok (.iconst 0, 1) := by decide +kernel
theorem dX8_rowsMatch_76 : decode cX8_rowsMatch 76 = .ok (.ireturn, 1) := by decide +kernel
theorem dX8_rowsMatch_77 : decode cX8_rowsMatch 77 = .ok (.iinc 4 1, 3) := by decide +kernel
theorem dX8_rowsMatch_80 : decode cX8_rowsMatch 80 = .ok (.goto (-71), 3) := by decide +kernel
theorem dX8_rowsMatch_83 : decode cX8_rowsMatch 83 = .ok (.iconst 1, 1) := by decide +kernel
theorem dX8_rowsMatch_84 : decode cX8_rowsMatch 84 = .ok (.ireturn, 1) := by decide +kernel
theorem dX9_init_0 : decode cX9_init 0 = .ok (.aload_n 0, 1) := by decide +kernel
theorem dX9_init_1 : decode cX9_init 1 = .ok (.invokespecial 3, 3) := by decide +kernel
theorem dX9_init_4 : decode cX9_init 4 = .ok (.aload_n 0, 1) := by decide +kernel
theorem dX9_init_5 : decode cX9_init 5 = .ok (.bipush 9, 2) := by decide +kernel
theorem dX9_init_7 : decode cX9_init 7 = .ok (.anewarray 9, 3) := by decide +kernel
theorem dX9_init_10 : decode cX9_init 10 = .ok (.putfield 11, 3) := by decide +kernel
theorem dX9_init_13 : decode cX9_init 13 = .ok (.iconst 0, 1) := by decide +kernel
theorem dX9_init_14 : decode cX9_init 14 = .ok (.istore_n 1, 1) := by decide +kernel
theorem dX9_init_15 : decode cX9_init 15 = .ok (.iload_n 1, 1) := by decide +kernel
theorem dX9_init_16 : decode cX9_init 16 = .ok (.bipush 8, 2) := by decide +kernel
theorem dX9_init_18 : decode cX9_init 18 = .ok (.if_icmp .gt 22, 3) := by decide +kernel
theorem dX9_init_21 : decode cX9_init 21 = .ok (.aload_n 0, 1) := by decide +kernel
theorem dX9_init_22 : decode cX9_init 22 = .ok (.getfield 11, 3) := by decide +kernel
theorem dX9_init_25 : decode cX9_init 25 = .ok (.iload_n 1, 1) := by decide +kernel
theorem dX9_init_26 : decode cX9_init 26 = .ok (.new 9, 3) := by decide +kernel
theorem dX9_init_29 : decode cX9_init 29 = .ok (.dup, 1) := by decide +kernel
theorem dX9_init_30 : decode cX9_init 30 = .ok (.invokespecial 17, 3) := by decide +kernel
theorem dX9_init_33 : decode cX9_init 33 = .ok (.aastore, 1) := by decide +kernel
theorem dX9_init_34 : decode cX9_init 34 = .ok (.iinc 1 1, 3) := by decide +kernel
theorem dX9_init_37 : decode cX9_init 37 = .ok (.goto (-22), 3) := by decide +kernel
theorem dX9_init_40 : decode cX9_init 40 = .ok (.return_, 1) := by decide +kernel
theorem dX9_by_0 : decode cX9_by 0 = .ok (.aload_n 0, 1) := by decide +kernel
theorem dX9_by_1 : decode cX9_by 1 = .ok (.getfield 11, 3) := by decide +kernel
theorem dX9_by_4 : decode cX9_by 4 = .ok (.iload_n 1, 1) := by decide +kernel
theorem dX9_by_5 : decode cX9_by 5 = .ok (.aaload, 1) := by decide +kernel
theorem dX9_by_6 : decode cX9_by 6 = .ok (.areturn, 1) := by decide +kernel
theorem dX9_erase_0 : decode cX9_erase 0 = .ok (.iconst 0, 1) := by decide +kernel
theorem dX9_erase_1 : decode cX9_erase 1 = .ok (.istore_n 1, 1) := by decide +kernel
theorem dX9_erase_2 : decode cX9_erase 2 = .ok (.iload_n 1, 1) := by decide +kernel
theorem dX9_erase_3 : decode cX9_erase 3 = .ok (.bipush 8, 2) := by decide +kernel
theorem dX9_erase_5 : decode cX9_erase 5 = .ok (.if_icmp .gt 30, 3) := by decide +kernel
theorem dX9_erase_8 : decode cX9_erase 8 = .ok (.aload_n 0, 1) := by decide +kernel
theorem dX9_erase_9 : decode cX9_erase 9 = .ok (.getfield 11, 3) := by decide +kernel
theorem dX9_erase_12 : decode cX9_erase 12 = .ok (.iload_n 1, 1) := by decide +kernel
theorem dX9_erase_13 : decode cX9_erase 13 = .ok (.aaload, 1) := by decide +kernel
theorem dX9_erase_14 : decode cX9_erase 14 = .ok (.invokevirtual 18, 3) := by decide +kernel
theorem dX9_erase_17 : decode cX9_erase 17 = .ok (.ifCond .eq 12, 3) := by decide +kernel
theorem dX9_erase_20 : decode cX9_erase 20 = .ok (.aload_n 0, 1) := by decide +kernel
theorem dX9_erase_21 : decode cX9_erase 21 = .ok (.getfield 11, 3) := by decide +kernel
theorem dX9_erase_24 : decode cX9_erase 24 = .ok (.iload_n 1, 1) := by decide +kernel
theorem dX9_erase_25 : decode cX9_erase 25 = .ok (.aaload, 1) := by decide +kernel
theorem dX9_erase_26 : decode cX9_erase 26 = .ok (.invokevirtual 22, 3) := by decide +kernel
theorem dX9_erase_29 : decode cX9_erase 29 = .ok (.iinc 1 1, 3) := by decide +kernel
theorem dX9_erase_32 : decode cX9_erase 32 = .ok (.goto (-30), 3) := by decide +kernel
theorem dX9_erase_35 : decode cX9_erase 35 = .ok (.return_, 1) := by decide +kernel
theorem dX9_join_0 : decode cX9_join 0 = .ok (.aload_n 0, 1) := by decide +kernel
theorem dX9_join_1 : decode cX9_join 1 = .ok (.getfield 11, 3) := by decide +kernel
theorem dX9_join_4 : decode cX9_join 4 = .ok (.iconst 0, 1) := by decide +kernel
theorem dX9_join_5 : decode cX9_join 5 = .ok (.aaload, 1) := by decide +kernel
theorem dX9_join_6 : decode cX9_join 6 = .ok (.aload_n 1, 1) := by decide +kernel
theorem dX9_join_7 : decode cX9_join 7 = .ok (.getfield 11, 3) := by decide +kernel
theorem dX9_join_10 : decode cX9_join 10 = .ok (.iconst 0, 1) := by decide +kernel
theorem dX9_join_11 : decode cX9_join 11 = .ok (.aaload, 1) := by decide +kernel
theorem dX9_join_12 : decode cX9_join 12 = .ok (.invokevirtual 25, 3) := by decide +kernel
theorem dX9_join_15 : decode cX9_join 15 = .ok (.aload_n 0, 1) := by decide +kernel
theorem dX9_join_16 : decode cX9_join 16 = .ok (.aload_n 1, 1) := by decide +kernel
theorem dX9_join_17 : decode cX9_join 17 = .ok (.invokevirtual 29, 3) := by decide +kernel
theorem dX9_join_20 : decode cX9_join 20 = .ok (.return_, 1) := by decide +kernel
theorem dX9_joinFailures_0 : decode cX9_joinFailures 0 = .ok (.iconst 1, 1) := by decide +kernel
theorem dX9_joinFailures_1 : decode cX9_joinFailures 1 = .ok (.istore_n 2, 1) := by decide +kernel
theorem dX9_joinFailures_2 : decode cX9_joinFailures 2 = .ok (.iload_n 2, 1) := by decide +kernel
theorem dX9_joinFailures_3 : decode cX9_joinFailures 3 = .ok (.bipush 8, 2) := by decide +kernel
theorem dX9_joinFailures_5 : decode cX9_joinFailures 5 = .ok (.if_icmp .gt 36, 3) := by decide +kernel
theorem dX9_joinFailures_8 : decode cX9_joinFailures 8 = .ok (.aload_n 1, 1) := by decide +kernel
theorem dX9_joinFailures_9 : decode cX9_joinFailures 9 = .ok (.getfield 11, 3) := by decide +kernel
theorem dX9_joinFailures_12 : decode cX9_joinFailures 12 = .ok (.iload_n 2, 1) := by decide +kernel
theorem dX9_joinFailures_13 : decode cX9_joinFailures 13 = .ok (.aaload, 1) := by decide +kernel
theorem dX9_joinFailures_14 : decode cX9_joinFailures 14 = .ok (.invokevirtual 18, 3) := by decide +kernel
theorem dX9_joinFailures_17 : decode cX9_joinFailures 17 = .ok (.ifCond .eq 18, 3) := by decide +kernel
theorem dX9_joinFailures_20 : decode cX9_joinFailures 20 = .ok (.aload_n 0, 1) := by decide +kernel
theorem dX9_joinFailures_21 : decode cX9_joinFailures 21 = .ok (.getfield 11, 3) := by decide +kernel
theorem dX9_joinFailures_24 : decode cX9_joinFailures 24 = .ok (.iload_n 2, 1) := by decide +kernel
theorem dX9_joinFailures_25 : decode cX9_joinFailures 25 = .ok (.aaload, 1) := by decide +kernel
theorem dX9_joinFailures_26 : decode cX9_joinFailures 26 = .ok (.aload_n 1, 1) := by decide +kernel
theorem dX9_joinFailures_27 : decode cX9_joinFailures 27 = .ok (.getfield 11, 3) := by decide +kernel
theorem dX9_joinFailures_30 : decode cX9_joinFailures 30 = .ok (.iload_n 2, 1) := by decide +kernel
theorem dX9_joinFailures_31 : decode cX9_joinFailures 31 = .ok (.aaload, 1) := by decide +kernel
theorem dX9_joinFailures_32 : decode cX9_joinFailures 32 = .ok (.invokevirtual 25, 3) := by decide +kernel
theorem dX9_joinFailures_35 : decode cX9_joinFailures 35 = .ok (.iinc 2 1, 3) := by decide +kernel
theorem dX9_joinFailures_38 : decode cX9_joinFailures 38 = .ok (.goto (-36), 3) := by decide +kernel
theorem dX9_joinFailures_41 : decode cX9_joinFailures 41 = .ok (.return_, 1) := by decide +kernel
theorem dX9_bits_0 : decode cX9_bits 0 = .ok (.iconst 0, 1) := by decide +kernel
theorem dX9_bits_1 : decode cX9_bits 1 = .ok (.istore_n 1, 1) := by decide +kernel
theorem dX9_bits_2 : decode cX9_bits 2 = .ok (.iconst 0, 1) := by decide +kernel
theorem dX9_bits_3 : decode cX9_bits 3 = .ok (.istore_n 2, 1) := by decide +kernel
theorem dX9_bits_4 : decode cX9_bits 4 = .ok (.iload_n 2, 1) := by decide +kernel
theorem dX9_bits_5 : decode cX9_bits 5 = .ok (.bipush 8, 2) := by decide +kernel
theorem dX9_bits_7 : decode cX9_bits 7 = .ok (.if_icmp .gt 27, 3) := by decide +kernel
theorem dX9_bits_10 : decode cX9_bits 10 = .ok (.aload_n 0, 1) := by decide +kernel
theorem dX9_bits_11 : decode cX9_bits 11 = .ok (.getfield 11, 3) := by decide +kernel
theorem dX9_bits_14 : decode cX9_bits 14 = .ok (.iload_n 2, 1) := by decide +kernel
theorem dX9_bits_15 : decode cX9_bits 15 = .ok (.aaload, 1) := by decide +kernel
theorem dX9_bits_16 : decode cX9_bits 16 = .ok (.invokevirtual 18, 3) := by decide +kernel
theorem dX9_bits_19 : decode cX9_bits 19 = .ok (.ifCond .eq 9, 3) := by decide +kernel
theorem dX9_bits_22 : decode cX9_bits 22 = .ok (.iload_n 1, 1) := by decide +kernel
theorem dX9_bits_23 : decode cX9_bits 23 = .ok (.iconst 1, 1) := by decide +kernel
theorem dX9_bits_24 : decode cX9_bits 24 = .ok (.iload_n 2, 1) := by decide +kernel
theorem dX9_bits_25 : decode cX9_bits 25 = .ok (.ishl, 1) := by decide +kernel
theorem dX9_bits_26 : decode cX9_bits 26 = .ok (.ior, 1) := by decide +kernel
theorem dX9_bits_27 : decode cX9_bits 27 = .ok (.istore_n 1, 1) := by decide +kernel
theorem dX9_bits_28 : decode cX9_bits 28 = .ok (.iinc 2 1, 3) := by decide +kernel
theorem dX9_bits_31 : decode cX9_bits 31 = .ok (.goto (-27), 3) := by decide +kernel
theorem dX9_bits_34 : decode cX9_bits 34 = .ok (.iload_n 1, 1) := by decide +kernel
theorem dX9_bits_35 : decode cX9_bits 35 = .ok (.ireturn, 1) := by decide +kernel
theorem dX10_init_0 : decode cX10_init 0 = .ok (.aload_n 0, 1) := by decide +kernel
theorem dX10_init_1 : decode cX10_init 1 = .ok (.invokespecial 1, 3) := by decide +kernel
theorem dX10_init_4 : decode cX10_init 4 = .ok (.aload_n 0, 1) := by decide +kernel
theorem dX10_init_5 : decode cX10_init 5 = .ok (.new 7, 3) := by decide +kernel
theorem dX10_init_8 : decode cX10_init 8 = .ok (.dup, 1) := by decide +kernel
theorem dX10_init_9 : decode cX10_init 9 = .ok (.invokespecial 9, 3) := by decide +kernel
theorem dX10_init_12 : decode cX10_init 12 = .ok (.putfield 10, 3) := by decide +kernel
theorem dX10_init_15 : decode cX10_init 15 = .ok (.aload_n 0, 1) := by decide +kernel
theorem dX10_init_16 : decode cX10_init 16 = .ok (.bipush 80, 2) := by decide +kernel
theorem dX10_init_18 : decode cX10_init 18 = .ok (.anewarray 16, 3) := by decide +kernel
theorem dX10_init_21 : decode cX10_init 21 = .ok (.putfield 18, 3) := by decide +kernel
theorem dX10_init_24 : decode cX10_init 24 = .ok (.aload_n 0, 1) := by decide +kernel
theorem dX10_init_25 : decode cX10_init 25 = .ok (.new 22, 3) := by decide +kernel
theorem dX10_init_28 : decode cX10_init 28 = .ok (.dup, 1) := by decide +kernel
theorem dX10_init_29 : decode cX10_init 29 = .ok (.invokespecial 24, 3) := by decide +kernel
theorem dX10_init_32 : decode cX10_init 32 = .ok (.putfield 25, 3) := by decide +kernel
theorem dX10_init_35 : decode cX10_init 35 = .ok (.iconst 0, 1) := by decide +kernel
theorem dX10_init_36 : decode cX10_init 36 = .ok (.istore_n 1, 1) := by decide +kernel
theorem dX10_init_37 : decode cX10_init 37 = .ok (.iload_n 1, 1) := by decide +kernel
theorem dX10_init_38 : decode cX10_init 38 = .ok (.bipush 12, 2) := by decide +kernel
theorem dX10_init_40 : decode cX10_init 40 = .ok (.if_icmp .ge 18, 3) := by decide +kernel
theorem dX10_init_43 : decode cX10_init 43 = .ok (.aload_n 0, 1) := by decide +kernel
theorem dX10_init_44 : decode cX10_init 44 = .ok (.getfield 25, 3) := by decide +kernel
theorem dX10_init_47 : decode cX10_init 47 = .ok (.iload_n 1, 1) := by decide +kernel
theorem dX10_init_48 : decode cX10_init 48 = .ok (.iconst 1, 1) := by decide +kernel
theorem dX10_init_49 : decode cX10_init 49 = .ok (.invokevirtual 31, 3) := by decide +kernel
theorem dX10_init_52 : decode cX10_init 52 = .ok (.iinc 1 1, 3) := by decide +kernel
theorem dX10_init_55 : decode cX10_init 55 = .ok (.goto (-18), 3) := by decide +kernel
theorem dX10_init_58 : decode cX10_init 58 = .ok (.return_, 1) := by decide +kernel
theorem dX10_act_0 : decode cX10_act 0 = .ok (.iload_n 1, 1) := by decide +kernel
theorem dX10_act_1 : decode cX10_act 1 = .ok (.iload_n 2, 1) := by decide +kernel
theorem dX10_act_2 : decode cX10_act 2 = .ok (.iload_n 3, 1) := by decide +kernel
theorem dX10_act_3 : decode cX10_act 3 = .ok (.iload 4, 2) := by decide +kernel
theorem dX10_act_5 : decode cX10_act 5 = .ok (.iload 5, 2) := by decide +kernel
theorem dX10_act_7 : decode cX10_act 7 = .ok (.invokestatic 35, 3) := by decide +kernel
theorem dX10_act_10 : decode cX10_act 10 = .ok (.ifCond .ne 5, 3) := by decide +kernel
theorem dX10_act_13 : decode cX10_act 13 = .ok (.iconst (-1), 1) := by decide +kernel
theorem dX10_act_14 : decode cX10_act 14 = .ok (.ireturn, 1) := by decide +kernel
theorem dX10_act_15 : decode cX10_act 15 = .ok (.aload_n 0, 1) := by decide +kernel
theorem dX10_act_16 : decode cX10_act 16 = .ok (.iconst 1, 1) := by decide +kernel
theorem dX10_act_17 : decode cX10_act 17 = .ok (.invokevirtual 41, 3) := by decide +kernel
theorem dX10_act_20 : decode cX10_act 20 = .ok (.ifCond .eq 8, 3) := by decide +kernel
theorem dX10_act_23 : decode cX10_act 23 = .ok (.bipush (-2), 2) := by decide +kernel
theorem dX10_act_25 : decode cX10_act 25 = .ok (.goto 25, 3) := by decide +kernel
theorem dX10_act_28 : decode cX10_act 28 = .ok (.aload_n 0, 1) := by decide +kernel
theorem dX10_act_29 : decode cX10_act 29 = .ok (.new 36, 3) := by decide +kernel
theorem dX10_act_32 : decode cX10_act 32 = .ok (.dup, 1) := by decide +kernel
theorem dX10_act_33 : decode cX10_act 33 = .ok (.aload_n 0, 1) := by decide +kernel
theorem dX10_act_34 : decode cX10_act 34 = .ok (.getfield 45, 3) := by decide +kernel
theorem dX10_act_37 : decode cX10_act 37 = .ok (.iload_n 1, 1) := by decide +kernel
theorem dX10_act_38 : decode cX10_act 38 = .ok (.iload_n 2, 1) := by decide +kernel
theorem dX10_act_39 : decode cX10_act 39 = .ok (.iload_n 3, 1) := by decide +kernel
theorem dX10_act_40 : decode cX10_act 40 = .ok (.iload 4, 2) := by decide +kernel
theorem dX10_act_42 : decode cX10_act 42 = .ok (.iload 5, 2) := by decide +kernel
theorem dX10_act_44 : decode cX10_act 44 = .ok (.invokespecial 49, 3) := by decide +kernel
theorem dX10_act_47 : decode cX10_act 47 = .ok (.invokevirtual 52, 3) := by decide +kernel
theorem dX10_act_50 : decode cX10_act 50 = .ok (.ireturn, 1) := by decide +kernel
theorem dX10_both_0 : decode cX10_both 0 = .ok (.aload_n 0, 1) := by decide +kernel
theorem dX10_both_1 : decode cX10_both 1 = .ok (.iload_n 1, 1) := by decide +kernel
theorem dX10_both_2 : decode cX10_both 2 = .ok (.invokevirtual 56, 3) := by decide +kernel
theorem dX10_both_5 : decode cX10_both 5 = .ok (.ifCond .eq 11, 3) := by decide +kernel
theorem dX10_both_8 : decode cX10_both 8 = .ok (.aload_n 0, 1) := by decide +kernel
theorem dX10_both_9 : decode cX10_both 9 = .ok (.iload_n 2, 1) := by decide +kernel
theorem dX10_both_10 : decode cX10_both 10 = .ok (.invokevirtual 56, 3) := by decide +kernel
theorem dX10_both_13 : decode cX10_both 13 = .ok (.ifCond .ne 5, 3) := by decide +kernel
theorem dX10_both_16 : decode cX10_both 16 = .ok (.iconst (-1), 1) := by decide +kernel
theorem dX10_both_17 : decode cX10_both 17 = .ok (.ireturn, 1) := by decide +kernel
theorem dX10_both_18 : decode cX10_both 18 = .ok (.iconst 1, 1) := by decide +kernel
theorem dX10_both_19 : decode cX10_both 19 = .ok (.aload_n 0, 1) := by decide +kernel
theorem dX10_both_20 : decode cX10_both 20 = .ok (.iload_n 1, 1) := by decide +kernel
theorem dX10_both_21 : decode cX10_both 21 = .ok (.invokevirtual 59, 3) := by decide +kernel
