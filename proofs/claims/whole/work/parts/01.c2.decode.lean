theorem dX7_init_33 : decode cX7_init 33 = .ok (.putfield 19, 3) := by decide +kernel
theorem dX7_init_36 : decode cX7_init 36 = .ok (.aload_n 0, 1) := by decide +kernel
theorem dX7_init_37 : decode cX7_init 37 = .ok (.sipush 3072, 3) := by decide +kernel
theorem dX7_init_40 : decode cX7_init 40 = .ok (.newarray .int, 2) := by decide +kernel
theorem dX7_init_42 : decode cX7_init 42 = .ok (.putfield 22, 3) := by decide +kernel
theorem dX7_init_45 : decode cX7_init 45 = .ok (.aload_n 0, 1) := by decide +kernel
theorem dX7_init_46 : decode cX7_init 46 = .ok (.sipush 3072, 3) := by decide +kernel
theorem dX7_init_49 : decode cX7_init 49 = .ok (.newarray .int, 2) := by decide +kernel
theorem dX7_init_51 : decode cX7_init 51 = .ok (.putfield 25, 3) := by decide +kernel
theorem dX7_init_54 : decode cX7_init 54 = .ok (.aload_n 0, 1) := by decide +kernel
theorem dX7_init_55 : decode cX7_init 55 = .ok (.sipush 3072, 3) := by decide +kernel
theorem dX7_init_58 : decode cX7_init 58 = .ok (.newarray .int, 2) := by decide +kernel
theorem dX7_init_60 : decode cX7_init 60 = .ok (.putfield 28, 3) := by decide +kernel
theorem dX7_init_63 : decode cX7_init 63 = .ok (.aload_n 0, 1) := by decide +kernel
theorem dX7_init_64 : decode cX7_init 64 = .ok (.sipush 3072, 3) := by decide +kernel
theorem dX7_init_67 : decode cX7_init 67 = .ok (.newarray .int, 2) := by decide +kernel
theorem dX7_init_69 : decode cX7_init 69 = .ok (.putfield 31, 3) := by decide +kernel
theorem dX7_init_72 : decode cX7_init 72 = .ok (.aload_n 0, 1) := by decide +kernel
theorem dX7_init_73 : decode cX7_init 73 = .ok (.sipush 3072, 3) := by decide +kernel
theorem dX7_init_76 : decode cX7_init 76 = .ok (.newarray .boolean, 2) := by decide +kernel
theorem dX7_init_78 : decode cX7_init 78 = .ok (.putfield 34, 3) := by decide +kernel
theorem dX7_init_81 : decode cX7_init 81 = .ok (.aload_n 0, 1) := by decide +kernel
theorem dX7_init_82 : decode cX7_init 82 = .ok (.sipush 3072, 3) := by decide +kernel
theorem dX7_init_85 : decode cX7_init 85 = .ok (.newarray .boolean, 2) := by decide +kernel
theorem dX7_init_87 : decode cX7_init 87 = .ok (.putfield 38, 3) := by decide +kernel
theorem dX7_init_90 : decode cX7_init 90 = .ok (.aload_n 0, 1) := by decide +kernel
theorem dX7_init_91 : decode cX7_init 91 = .ok (.sipush 3072, 3) := by decide +kernel
theorem dX7_init_94 : decode cX7_init 94 = .ok (.newarray .boolean, 2) := by decide +kernel
theorem dX7_init_96 : decode cX7_init 96 = .ok (.putfield 41, 3) := by decide +kernel
theorem dX7_init_99 : decode cX7_init 99 = .ok (.aload_n 0, 1) := by decide +kernel
theorem dX7_init_100 : decode cX7_init 100 = .ok (.bipush 65, 2) := by decide +kernel
theorem dX7_init_102 : decode cX7_init 102 = .ok (.newarray .int, 2) := by decide +kernel
theorem dX7_init_104 : decode cX7_init 104 = .ok (.putfield 44, 3) := by decide +kernel
theorem dX7_init_107 : decode cX7_init 107 = .ok (.aload_n 0, 1) := by decide +kernel
theorem dX7_init_108 : decode cX7_init 108 = .ok (.bipush 65, 2) := by decide +kernel
theorem dX7_init_110 : decode cX7_init 110 = .ok (.newarray .int, 2) := by decide +kernel
theorem dX7_init_112 : decode cX7_init 112 = .ok (.putfield 47, 3) := by decide +kernel
theorem dX7_init_115 : decode cX7_init 115 = .ok (.aload_n 0, 1) := by decide +kernel
theorem dX7_init_116 : decode cX7_init 116 = .ok (.bipush 64, 2) := by decide +kernel
theorem dX7_init_118 : decode cX7_init 118 = .ok (.newarray .boolean, 2) := by decide +kernel
theorem dX7_init_120 : decode cX7_init 120 = .ok (.putfield 50, 3) := by decide +kernel
theorem dX7_init_123 : decode cX7_init 123 = .ok (.aload_n 0, 1) := by decide +kernel
theorem dX7_init_124 : decode cX7_init 124 = .ok (.sipush 4096, 3) := by decide +kernel
theorem dX7_init_127 : decode cX7_init 127 = .ok (.newarray .byte, 2) := by decide +kernel
theorem dX7_init_129 : decode cX7_init 129 = .ok (.putfield 53, 3) := by decide +kernel
theorem dX7_init_132 : decode cX7_init 132 = .ok (.aload_n 0, 1) := by decide +kernel
theorem dX7_init_133 : decode cX7_init 133 = .ok (.ldc 57, 2) := by decide +kernel
theorem dX7_init_135 : decode cX7_init 135 = .ok (.newarray .byte, 2) := by decide +kernel
theorem dX7_init_137 : decode cX7_init 137 = .ok (.putfield 58, 3) := by decide +kernel
theorem dX7_init_140 : decode cX7_init 140 = .ok (.aload_n 0, 1) := by decide +kernel
theorem dX7_init_141 : decode cX7_init 141 = .ok (.sipush 512, 3) := by decide +kernel
theorem dX7_init_144 : decode cX7_init 144 = .ok (.newarray .boolean, 2) := by decide +kernel
theorem dX7_init_146 : decode cX7_init 146 = .ok (.putfield 61, 3) := by decide +kernel
theorem dX7_init_149 : decode cX7_init 149 = .ok (.aload_n 0, 1) := by decide +kernel
theorem dX7_init_150 : decode cX7_init 150 = .ok (.sipush 512, 3) := by decide +kernel
theorem dX7_init_153 : decode cX7_init 153 = .ok (.newarray .boolean, 2) := by decide +kernel
theorem dX7_init_155 : decode cX7_init 155 = .ok (.putfield 64, 3) := by decide +kernel
theorem dX7_init_158 : decode cX7_init 158 = .ok (.aload_n 0, 1) := by decide +kernel
theorem dX7_init_159 : decode cX7_init 159 = .ok (.sipush 1024, 3) := by decide +kernel
theorem dX7_init_162 : decode cX7_init 162 = .ok (.newarray .byte, 2) := by decide +kernel
theorem dX7_init_164 : decode cX7_init 164 = .ok (.putfield 67, 3) := by decide +kernel
theorem dX7_init_167 : decode cX7_init 167 = .ok (.aload_n 0, 1) := by decide +kernel
theorem dX7_init_168 : decode cX7_init 168 = .ok (.sipush 4000, 3) := by decide +kernel
theorem dX7_init_171 : decode cX7_init 171 = .ok (.newarray .int, 2) := by decide +kernel
theorem dX7_init_173 : decode cX7_init 173 = .ok (.putfield 70, 3) := by decide +kernel
theorem dX7_init_176 : decode cX7_init 176 = .ok (.aload_n 0, 1) := by decide +kernel
theorem dX7_init_177 : decode cX7_init 177 = .ok (.sipush 4000, 3) := by decide +kernel
theorem dX7_init_180 : decode cX7_init 180 = .ok (.newarray .int, 2) := by decide +kernel
theorem dX7_init_182 : decode cX7_init 182 = .ok (.putfield 73, 3) := by decide +kernel
theorem dX7_init_185 : decode cX7_init 185 = .ok (.aload_n 0, 1) := by decide +kernel
theorem dX7_init_186 : decode cX7_init 186 = .ok (.sipush 4000, 3) := by decide +kernel
theorem dX7_init_189 : decode cX7_init 189 = .ok (.newarray .int, 2) := by decide +kernel
theorem dX7_init_191 : decode cX7_init 191 = .ok (.putfield 76, 3) := by decide +kernel
theorem dX7_init_194 : decode cX7_init 194 = .ok (.aload_n 0, 1) := by decide +kernel
theorem dX7_init_195 : decode cX7_init 195 = .ok (.sipush 3072, 3) := by decide +kernel
theorem dX7_init_198 : decode cX7_init 198 = .ok (.newarray .boolean, 2) := by decide +kernel
theorem dX7_init_200 : decode cX7_init 200 = .ok (.putfield 79, 3) := by decide +kernel
theorem dX7_init_203 : decode cX7_init 203 = .ok (.aload_n 0, 1) := by decide +kernel
theorem dX7_init_204 : decode cX7_init 204 = .ok (.iload_n 1, 1) := by decide +kernel
theorem dX7_init_205 : decode cX7_init 205 = .ok (.iconst 4, 1) := by decide +kernel
theorem dX7_init_206 : decode cX7_init 206 = .ok (.if_icmp .lt 9, 3) := by decide +kernel
theorem dX7_init_209 : decode cX7_init 209 = .ok (.iload_n 1, 1) := by decide +kernel
theorem dX7_init_210 : decode cX7_init 210 = .ok (.bipush 64, 2) := by decide +kernel
theorem dX7_init_212 : decode cX7_init 212 = .ok (.if_icmp .le 8, 3) := by decide +kernel
theorem dX7_init_215 : decode cX7_init 215 = .ok (.bipush 16, 2) := by decide +kernel
theorem dX7_init_217 : decode cX7_init 217 = .ok (.goto 4, 3) := by decide +kernel
theorem dX7_init_220 : decode cX7_init 220 = .ok (.iload_n 1, 1) := by decide +kernel
theorem dX7_init_221 : decode cX7_init 221 = .ok (.putfield 82, 3) := by decide +kernel
theorem dX7_init_224 : decode cX7_init 224 = .ok (.aload_n 0, 1) := by decide +kernel
theorem dX7_init_225 : decode cX7_init 225 = .ok (.iload_n 2, 1) := by decide +kernel
theorem dX7_init_226 : decode cX7_init 226 = .ok (.bipush 8, 2) := by decide +kernel
theorem dX7_init_228 : decode cX7_init 228 = .ok (.if_icmp .lt 10, 3) := by decide +kernel
theorem dX7_init_231 : decode cX7_init 231 = .ok (.iload_n 2, 1) := by decide +kernel
theorem dX7_init_232 : decode cX7_init 232 = .ok (.sipush 512, 3) := by decide +kernel
theorem dX7_init_235 : decode cX7_init 235 = .ok (.if_icmp .le 9, 3) := by decide +kernel
theorem dX7_init_238 : decode cX7_init 238 = .ok (.sipush 128, 3) := by decide +kernel
theorem dX7_init_241 : decode cX7_init 241 = .ok (.goto 4, 3) := by decide +kernel
theorem dX7_init_244 : decode cX7_init 244 = .ok (.iload_n 2, 1) := by decide +kernel
theorem dX7_init_245 : decode cX7_init 245 = .ok (.putfield 86, 3) := by decide +kernel
theorem dX7_init_248 : decode cX7_init 248 = .ok (.iconst 0, 1) := by decide +kernel
theorem dX7_init_249 : decode cX7_init 249 = .ok (.istore_n 3, 1) := by decide +kernel
theorem dX7_init_250 : decode cX7_init 250 = .ok (.iload_n 3, 1) := by decide +kernel
theorem dX7_init_251 : decode cX7_init 251 = .ok (.sipush 3072, 3) := by decide +kernel
theorem dX7_init_254 : decode cX7_init 254 = .ok (.if_icmp .ge 30, 3) := by decide +kernel
theorem dX7_init_257 : decode cX7_init 257 = .ok (.aload_n 0, 1) := by decide +kernel
theorem dX7_init_258 : decode cX7_init 258 = .ok (.getfield 22, 3) := by decide +kernel
theorem dX7_init_261 : decode cX7_init 261 = .ok (.iload_n 3, 1) := by decide +kernel
theorem dX7_init_262 : decode cX7_init 262 = .ok (.iconst (-1), 1) := by decide +kernel
theorem dX7_init_263 : decode cX7_init 263 = .ok (.iastore, 1) := by decide +kernel
theorem dX7_init_264 : decode cX7_init 264 = .ok (.aload_n 0, 1) := by decide +kernel
theorem dX7_init_265 : decode cX7_init 265 = .ok (.getfield 25, 3) := by decide +kernel
theorem dX7_init_268 : decode cX7_init 268 = .ok (.iload_n 3, 1) := by decide +kernel
theorem dX7_init_269 : decode cX7_init 269 = .ok (.iconst (-1), 1) := by decide +kernel
theorem dX7_init_270 : decode cX7_init 270 = .ok (.iastore, 1) := by decide +kernel
theorem dX7_init_271 : decode cX7_init 271 = .ok (.aload_n 0, 1) := by decide +kernel
theorem dX7_init_272 : decode cX7_init 272 = .ok (.getfield 28, 3) := by decide +kernel
theorem dX7_init_275 : decode cX7_init 275 = .ok (.iload_n 3, 1) := by decide +kernel
theorem dX7_init_276 : decode cX7_init 276 = .ok (.iconst (-1), 1) := by decide +kernel
theorem dX7_init_277 : decode cX7_init 277 = .ok (.iastore, 1) := by decide +kernel
theorem dX7_init_278 : decode cX7_init 278 = .ok (.iinc 3 1, 3) := by decide +kernel
theorem dX7_init_281 : decode cX7_init 281 = .ok (.goto (-31), 3) := by decide +kernel
theorem dX7_init_284 : decode cX7_init 284 = .ok (.iconst 0, 1) := by decide +kernel
theorem dX7_init_285 : decode cX7_init 285 = .ok (.istore_n 3, 1) := by decide +kernel
theorem dX7_init_286 : decode cX7_init 286 = .ok (.iload_n 3, 1) := by decide +kernel
theorem dX7_init_287 : decode cX7_init 287 = .ok (.bipush 12, 2) := by decide +kernel
theorem dX7_init_289 : decode cX7_init 289 = .ok (.if_icmp .ge 16, 3) := by decide +kernel
theorem dX7_init_292 : decode cX7_init 292 = .ok (.aload_n 0, 1) := by decide +kernel
theorem dX7_init_293 : decode cX7_init 293 = .ok (.getfield 13, 3) := by decide +kernel
theorem dX7_init_296 : decode cX7_init 296 = .ok (.iload_n 3, 1) := by decide +kernel
theorem dX7_init_297 : decode cX7_init 297 = .ok (.iconst 1, 1) := by decide +kernel
theorem dX7_init_298 : decode cX7_init 298 = .ok (.iastore, 1) := by decide +kernel
theorem dX7_init_299 : decode cX7_init 299 = .ok (.iinc 3 1, 3) := by decide +kernel
theorem dX7_init_302 : decode cX7_init 302 = .ok (.goto (-16), 3) := by decide +kernel
theorem dX7_init_305 : decode cX7_init 305 = .ok (.return_, 1) := by decide +kernel
theorem dX7_isFile_0 : decode cX7_isFile 0 = .ok (.iload_n 0, 1) := by decide +kernel
theorem dX7_isFile_1 : decode cX7_isFile 1 = .ok (.ifCond .lt 13, 3) := by decide +kernel
theorem dX7_isFile_4 : decode cX7_isFile 4 = .ok (.iload_n 0, 1) := by decide +kernel
theorem dX7_isFile_5 : decode cX7_isFile 5 = .ok (.bipush 12, 2) := by decide +kernel
theorem dX7_isFile_7 : decode cX7_isFile 7 = .ok (.if_icmp .ge 7, 3) := by decide +kernel
theorem dX7_isFile_10 : decode cX7_isFile 10 = .ok (.iconst 1, 1) := by decide +kernel
theorem dX7_isFile_11 : decode cX7_isFile 11 = .ok (.goto 4, 3) := by decide +kernel
theorem dX7_isFile_14 : decode cX7_isFile 14 = .ok (.iconst 0, 1) := by decide +kernel
theorem dX7_isFile_15 : decode cX7_isFile 15 = .ok (.ireturn, 1) := by decide +kernel
theorem dX7_isPage_0 : decode cX7_isPage 0 = .ok (.iload_n 0, 1) := by decide +kernel
theorem dX7_isPage_1 : decode cX7_isPage 1 = .ok (.ifCond .lt 14, 3) := by decide +kernel
theorem dX7_isPage_4 : decode cX7_isPage 4 = .ok (.iload_n 0, 1) := by decide +kernel
theorem dX7_isPage_5 : decode cX7_isPage 5 = .ok (.sipush 256, 3) := by decide +kernel
theorem dX7_isPage_8 : decode cX7_isPage 8 = .ok (.if_icmp .ge 7, 3) := by decide +kernel
theorem dX7_isPage_11 : decode cX7_isPage 11 = .ok (.iconst 1, 1) := by decide +kernel
theorem dX7_isPage_12 : decode cX7_isPage 12 = .ok (.goto 4, 3) := by decide +kernel
theorem dX7_isPage_15 : decode cX7_isPage 15 = .ok (.iconst 0, 1) := by decide +kernel
theorem dX7_isPage_16 : decode cX7_isPage 16 = .ok (.ireturn, 1) := by decide +kernel
theorem dX7_isIn_0 : decode cX7_isIn 0 = .ok (.aload_n 0, 1) := by decide +kernel
theorem dX7_isIn_1 : decode cX7_isIn 1 = .ok (.getfield 22, 3) := by decide +kernel
theorem dX7_isIn_4 : decode cX7_isIn 4 = .ok (.iload_n 1, 1) := by decide +kernel
theorem dX7_isIn_5 : decode cX7_isIn 5 = .ok (.iaload, 1) := by decide +kernel
theorem dX7_isIn_6 : decode cX7_isIn 6 = .ok (.ifCond .lt 7, 3) := by decide +kernel
theorem dX7_isIn_9 : decode cX7_isIn 9 = .ok (.iconst 1, 1) := by decide +kernel
theorem dX7_isIn_10 : decode cX7_isIn 10 = .ok (.goto 4, 3) := by decide +kernel
theorem dX7_isIn_13 : decode cX7_isIn 13 = .ok (.iconst 0, 1) := by decide +kernel
theorem dX7_isIn_14 : decode cX7_isIn 14 = .ok (.ireturn, 1) := by decide +kernel
theorem dX7_isDirty_0 : decode cX7_isDirty 0 = .ok (.aload_n 0, 1) := by decide +kernel
theorem dX7_isDirty_1 : decode cX7_isDirty 1 = .ok (.getfield 28, 3) := by decide +kernel
theorem dX7_isDirty_4 : decode cX7_isDirty 4 = .ok (.iload_n 1, 1) := by decide +kernel
theorem dX7_isDirty_5 : decode cX7_isDirty 5 = .ok (.iaload, 1) := by decide +kernel
theorem dX7_isDirty_6 : decode cX7_isDirty 6 = .ok (.ifCond .lt 7, 3) := by decide +kernel
theorem dX7_isDirty_9 : decode cX7_isDirty 9 = .ok (.iconst 1, 1) := by decide +kernel
theorem dX7_isDirty_10 : decode cX7_isDirty 10 = .ok (.goto 4, 3) := by decide +kernel
theorem dX7_isDirty_13 : decode cX7_isDirty 13 = .ok (.iconst 0, 1) := by decide +kernel
theorem dX7_isDirty_14 : decode cX7_isDirty 14 = .ok (.ireturn, 1) := by decide +kernel
theorem dX7_record_0 : decode cX7_record 0 = .ok (.aload_n 0, 1) := by decide +kernel
theorem dX7_record_1 : decode cX7_record 1 = .ok (.getfield 89, 3) := by decide +kernel
theorem dX7_record_4 : decode cX7_record 4 = .ok (.ifCond .ne 13, 3) := by decide +kernel
theorem dX7_record_7 : decode cX7_record 7 = .ok (.aload_n 0, 1) := by decide +kernel
theorem dX7_record_8 : decode cX7_record 8 = .ok (.iconst 1, 1) := by decide +kernel
theorem dX7_record_9 : decode cX7_record 9 = .ok (.putfield 89, 3) := by decide +kernel
theorem dX7_record_12 : decode cX7_record 12 = .ok (.aload_n 0, 1) := by decide +kernel
theorem dX7_record_13 : decode cX7_record 13 = .ok (.iconst 0, 1) := by decide +kernel
theorem dX7_record_14 : decode cX7_record 14 = .ok (.putfield 93, 3) := by decide +kernel
theorem dX7_record_17 : decode cX7_record 17 = .ok (.aload_n 0, 1) := by decide +kernel
theorem dX7_record_18 : decode cX7_record 18 = .ok (.dup, 1) := by decide +kernel
theorem dX7_record_19 : decode cX7_record 19 = .ok (.getfield 96, 3) := by decide +kernel
theorem dX7_record_22 : decode cX7_record 22 = .ok (.iload_n 1, 1) := by decide +kernel
theorem dX7_record_23 : decode cX7_record 23 = .ok (.ifCond .ne 7, 3) := by decide +kernel
theorem dX7_record_26 : decode cX7_record 26 = .ok (.iconst 1, 1) := by decide +kernel
theorem dX7_record_27 : decode cX7_record 27 = .ok (.goto 4, 3) := by decide +kernel
theorem dX7_record_30 : decode cX7_record 30 = .ok (.iconst 0, 1) := by decide +kernel
theorem dX7_record_31 : decode cX7_record 31 = .ok (.iadd, 1) := by decide +kernel
theorem dX7_record_32 : decode cX7_record 32 = .ok (.putfield 96, 3) := by decide +kernel
theorem dX7_record_35 : decode cX7_record 35 = .ok (.aload_n 0, 1) := by decide +kernel
theorem dX7_record_36 : decode cX7_record 36 = .ok (.dup, 1) := by decide +kernel
theorem dX7_record_37 : decode cX7_record 37 = .ok (.getfield 99, 3) := by decide +kernel
theorem dX7_record_40 : decode cX7_record 40 = .ok (.iload_n 1, 1) := by decide +kernel
theorem dX7_record_41 : decode cX7_record 41 = .ok (.iadd, 1) := by decide +kernel
theorem dX7_record_42 : decode cX7_record 42 = .ok (.putfield 99, 3) := by decide +kernel
theorem dX7_record_45 : decode cX7_record 45 = .ok (.aload_n 0, 1) := by decide +kernel
theorem dX7_record_46 : decode cX7_record 46 = .ok (.getfield 93, 3) := by decide +kernel
theorem dX7_record_49 : decode cX7_record 49 = .ok (.iconst 1, 1) := by decide +kernel
theorem dX7_record_50 : decode cX7_record 50 = .ok (.isub, 1) := by decide +kernel
theorem dX7_record_51 : decode cX7_record 51 = .ok (.istore_n 3, 1) := by decide +kernel
theorem dX7_record_52 : decode cX7_record 52 = .ok (.iload_n 3, 1) := by decide +kernel
theorem dX7_record_53 : decode cX7_record 53 = .ok (.ifCond .lt 41, 3) := by decide +kernel
theorem dX7_record_56 : decode cX7_record 56 = .ok (.aload_n 0, 1) := by decide +kernel
theorem dX7_record_57 : decode cX7_record 57 = .ok (.getfield 70, 3) := by decide +kernel
theorem dX7_record_60 : decode cX7_record 60 = .ok (.iload_n 3, 1) := by decide +kernel
theorem dX7_record_61 : decode cX7_record 61 = .ok (.iaload, 1) := by decide +kernel
theorem dX7_record_62 : decode cX7_record 62 = .ok (.iload_n 1, 1) := by decide +kernel
theorem dX7_record_63 : decode cX7_record 63 = .ok (.if_icmp .ne 31, 3) := by decide +kernel
theorem dX7_record_66 : decode cX7_record 66 = .ok (.aload_n 0, 1) := by decide +kernel
theorem dX7_record_67 : decode cX7_record 67 = .ok (.getfield 73, 3) := by decide +kernel
theorem dX7_record_70 : decode cX7_record 70 = .ok (.iload_n 3, 1) := by decide +kernel
theorem dX7_record_71 : decode cX7_record 71 = .ok (.iaload, 1) := by decide +kernel
theorem dX7_record_72 : decode cX7_record 72 = .ok (.aload_n 0, 1) := by decide +kernel
theorem dX7_record_73 : decode cX7_record 73 = .ok (.getfield 76, 3) := by decide +kernel
theorem dX7_record_76 : decode cX7_record 76 = .ok (.iload_n 3, 1) := by decide +kernel
theorem dX7_record_77 : decode cX7_record 77 = .ok (.iaload, 1) := by decide +kernel
theorem dX7_record_78 : decode cX7_record 78 = .ok (.iadd, 1) := by decide +kernel
theorem dX7_record_79 : decode cX7_record 79 = .ok (.iload_n 2, 1) := by decide +kernel
theorem dX7_record_80 : decode cX7_record 80 = .ok (.if_icmp .ne 14, 3) := by decide +kernel
theorem dX7_record_83 : decode cX7_record 83 = .ok (.aload_n 0, 1) := by decide +kernel
theorem dX7_record_84 : decode cX7_record 84 = .ok (.getfield 76, 3) := by decide +kernel
theorem dX7_record_87 : decode cX7_record 87 = .ok (.iload_n 3, 1) := by decide +kernel
theorem dX7_record_88 : decode cX7_record 88 = .ok (.dup2, 1) := by decide +kernel
theorem dX7_record_89 : decode cX7_record 89 = .ok (.iaload, 1) := by decide +kernel
theorem dX7_record_90 : decode cX7_record 90 = .ok (.iconst 1, 1) := by decide +kernel
theorem dX7_record_91 : decode cX7_record 91 = .ok (.iadd, 1) := by decide +kernel
theorem dX7_record_92 : decode cX7_record 92 = .ok (.iastore, 1) := by decide +kernel
theorem dX7_record_93 : decode cX7_record 93 = .ok (.return_, 1) := by decide +kernel
theorem dX7_record_94 : decode cX7_record 94 = .ok (.aload_n 0, 1) := by decide +kernel
theorem dX7_record_95 : decode cX7_record 95 = .ok (.getfield 70, 3) := by decide +kernel
theorem dX7_record_98 : decode cX7_record 98 = .ok (.aload_n 0, 1) := by decide +kernel
theorem dX7_record_99 : decode cX7_record 99 = .ok (.getfield 93, 3) := by decide +kernel
theorem dX7_record_102 : decode cX7_record 102 = .ok (.iload_n 1, 1) := by decide +kernel
theorem dX7_record_103 : decode cX7_record 103 = .ok (.iastore, 1) := by decide +kernel
theorem dX7_record_104 : decode cX7_record 104 = .ok (.aload_n 0, 1) := by decide +kernel
theorem dX7_record_105 : decode cX7_record 105 = .ok (.getfield 73, 3) := by decide +kernel
theorem dX7_record_108 : decode cX7_record 108 = .ok (.aload_n 0, 1) := by decide +kernel
theorem dX7_record_109 : decode cX7_record 109 = .ok (.getfield 93, 3) := by decide +kernel
theorem dX7_record_112 : decode cX7_record 112 = .ok (.iload_n 2, 1) := by decide +kernel
theorem dX7_record_113 : decode cX7_record 113 = .ok (.iastore, 1) := by decide +kernel
theorem dX7_record_114 : decode cX7_record 114 = .ok (.aload_n 0, 1) := by decide +kernel
theorem dX7_record_115 : decode cX7_record 115 = .ok (.getfield 76, 3) := by decide +kernel
theorem dX7_record_118 : decode cX7_record 118 = .ok (.aload_n 0, 1) := by decide +kernel
theorem dX7_record_119 : decode cX7_record 119 = .ok (.getfield 93, 3) := by decide +kernel
theorem dX7_record_122 : decode cX7_record 122 = .ok (.iconst 1, 1) := by decide +kernel
theorem dX7_record_123 : decode cX7_record 123 = .ok (.iastore, 1) := by decide +kernel
theorem dX7_record_124 : decode cX7_record 124 = .ok (.aload_n 0, 1) := by decide +kernel
theorem dX7_record_125 : decode cX7_record 125 = .ok (.dup, 1) := by decide +kernel
theorem dX7_record_126 : decode cX7_record 126 = .ok (.getfield 93, 3) := by decide +kernel
theorem dX7_record_129 : decode cX7_record 129 = .ok (.iconst 1, 1) := by decide +kernel
theorem dX7_record_130 : decode cX7_record 130 = .ok (.iadd, 1) := by decide +kernel
theorem dX7_record_131 : decode cX7_record 131 = .ok (.putfield 93, 3) := by decide +kernel
theorem dX7_record_134 : decode cX7_record 134 = .ok (.return_, 1) := by decide +kernel
theorem dX7_toFront_0 : decode cX7_toFront 0 = .ok (.aload_n 0, 1) := by decide +kernel
theorem dX7_toFront_1 : decode cX7_toFront 1 = .ok (.getfield 41, 3) := by decide +kernel
theorem dX7_toFront_4 : decode cX7_toFront 4 = .ok (.iload_n 1, 1) := by decide +kernel
theorem dX7_toFront_5 : decode cX7_toFront 5 = .ok (.iload_n 2, 1) := by decide +kernel
theorem dX7_toFront_6 : decode cX7_toFront 6 = .ok (.bastore, 1) := by decide +kernel
theorem dX7_toFront_7 : decode cX7_toFront 7 = .ok (.iload_n 2, 1) := by decide +kernel
theorem dX7_toFront_8 : decode cX7_toFront 8 = .ok (.ifCond .eq 52, 3) := by decide +kernel
theorem dX7_toFront_11 : decode cX7_toFront 11 = .ok (.aload_n 0, 1) := by decide +kernel
theorem dX7_toFront_12 : decode cX7_toFront 12 = .ok (.getfield 102, 3) := by decide +kernel
theorem dX7_toFront_15 : decode cX7_toFront 15 = .ok (.istore_n 3, 1) := by decide +kernel
theorem dX7_toFront_16 : decode cX7_toFront 16 = .ok (.iload_n 3, 1) := by decide +kernel
theorem dX7_toFront_17 : decode cX7_toFront 17 = .ok (.ifCond .le 23, 3) := by decide +kernel
theorem dX7_toFront_20 : decode cX7_toFront 20 = .ok (.aload_n 0, 1) := by decide +kernel
theorem dX7_toFront_21 : decode cX7_toFront 21 = .ok (.getfield 44, 3) := by decide +kernel
theorem dX7_toFront_24 : decode cX7_toFront 24 = .ok (.iload_n 3, 1) := by decide +kernel
theorem dX7_toFront_25 : decode cX7_toFront 25 = .ok (.aload_n 0, 1) := by decide +kernel
theorem dX7_toFront_26 : decode cX7_toFront 26 = .ok (.getfield 44, 3) := by decide +kernel
theorem dX7_toFront_29 : decode cX7_toFront 29 = .ok (.iload_n 3, 1) := by decide +kernel
theorem dX7_toFront_30 : decode cX7_toFront 30 = .ok (.iconst 1, 1) := by decide +kernel
theorem dX7_toFront_31 : decode cX7_toFront 31 = .ok (.isub, 1) := by decide +kernel
theorem dX7_toFront_32 : decode cX7_toFront 32 = .ok (.iaload, 1) := by decide +kernel
theorem dX7_toFront_33 : decode cX7_toFront 33 = .ok (.iastore, 1) := by decide +kernel
theorem dX7_toFront_34 : decode cX7_toFront 34 = .ok (.iinc 3 (-1), 3) := by decide +kernel
theorem dX7_toFront_37 : decode cX7_toFront 37 = .ok (.goto (-21), 3) := by decide +kernel
theorem dX7_toFront_40 : decode cX7_toFront 40 = .ok (.aload_n 0, 1) := by decide +kernel
theorem dX7_toFront_41 : decode cX7_toFront 41 = .ok (.getfield 44, 3) := by decide +kernel
theorem dX7_toFront_44 : decode cX7_toFront 44 = .ok (.iconst 0, 1) := by decide +kernel
theorem dX7_toFront_45 : decode cX7_toFront 45 = .ok (.iload_n 1, 1) := by decide +kernel
theorem dX7_toFront_46 : decode cX7_toFront 46 = .ok (.iastore, 1) := by decide +kernel
theorem dX7_toFront_47 : decode cX7_toFront 47 = .ok (.aload_n 0, 1) := by decide +kernel
theorem dX7_toFront_48 : decode cX7_toFront 48 = .ok (.dup, 1) := by decide +kernel
theorem dX7_toFront_49 : decode cX7_toFront 49 = .ok (.getfield 102, 3) := by decide +kernel
theorem dX7_toFront_52 : decode cX7_toFront 52 = .ok (.iconst 1, 1) := by decide +kernel
theorem dX7_toFront_53 : decode cX7_toFront 53 = .ok (.iadd, 1) := by decide +kernel
theorem dX7_toFront_54 : decode cX7_toFront 54 = .ok (.putfield 102, 3) := by decide +kernel
theorem dX7_toFront_57 : decode cX7_toFront 57 = .ok (.goto 49, 3) := by decide +kernel
theorem dX7_toFront_60 : decode cX7_toFront 60 = .ok (.aload_n 0, 1) := by decide +kernel
theorem dX7_toFront_61 : decode cX7_toFront 61 = .ok (.getfield 105, 3) := by decide +kernel
theorem dX7_toFront_64 : decode cX7_toFront 64 = .ok (.istore_n 3, 1) := by decide +kernel
theorem dX7_toFront_65 : decode cX7_toFront 65 = .ok (.iload_n 3, 1) := by decide +kernel
theorem dX7_toFront_66 : decode cX7_toFront 66 = .ok (.ifCond .le 23, 3) := by decide +kernel
theorem dX7_toFront_69 : decode cX7_toFront 69 = .ok (.aload_n 0, 1) := by decide +kernel
theorem dX7_toFront_70 : decode cX7_toFront 70 = .ok (.getfield 47, 3) := by decide +kernel
theorem dX7_toFront_73 : decode cX7_toFront 73 = .ok (.iload_n 3, 1) := by decide +kernel
theorem dX7_toFront_74 : decode cX7_toFront 74 = .ok (.aload_n 0, 1) := by decide +kernel
theorem dX7_toFront_75 : decode cX7_toFront 75 = .ok (.getfield 47, 3) := by decide +kernel
theorem dX7_toFront_78 : decode cX7_toFront 78 = .ok (.iload_n 3, 1) := by decide +kernel
theorem dX7_toFront_79 : decode cX7_toFront 79 = .ok (.iconst 1, 1) := by decide +kernel
theorem dX7_toFront_80 : decode cX7_toFront 80 = .ok (.isub, 1) := by decide +kernel
theorem dX7_toFront_81 : decode cX7_toFront 81 = .ok (.iaload, 1) := by decide +kernel
theorem dX7_toFront_82 : decode cX7_toFront 82 = .ok (.iastore, 1) := by decide +kernel
theorem dX7_toFront_83 : decode cX7_toFront 83 = .ok (.iinc 3 (-1), 3) := by decide +kernel
theorem dX7_toFront_86 : decode cX7_toFront 86 = .ok (.goto (-21), 3) := by decide +kernel
theorem dX7_toFront_89 : decode cX7_toFront 89 = .ok (.aload_n 0, 1) := by decide +kernel
theorem dX7_toFront_90 : decode cX7_toFront 90 = .ok (.getfield 47, 3) := by decide +kernel
theorem dX7_toFront_93 : decode cX7_toFront 93 = .ok (.iconst 0, 1) := by decide +kernel
theorem dX7_toFront_94 : decode cX7_toFront 94 = .ok (.iload_n 1, 1) := by decide +kernel
theorem dX7_toFront_95 : decode cX7_toFront 95 = .ok (.iastore, 1) := by decide +kernel
theorem dX7_toFront_96 : decode cX7_toFront 96 = .ok (.aload_n 0, 1) := by decide +kernel
theorem dX7_toFront_97 : decode cX7_toFront 97 = .ok (.dup, 1) := by decide +kernel
theorem dX7_toFront_98 : decode cX7_toFront 98 = .ok (.getfield 105, 3) := by decide +kernel
theorem dX7_toFront_101 : decode cX7_toFront 101 = .ok (.iconst 1, 1) := by decide +kernel
theorem dX7_toFront_102 : decode cX7_toFront 102 = .ok (.iadd, 1) := by decide +kernel
theorem dX7_toFront_103 : decode cX7_toFront 103 = .ok (.putfield 105, 3) := by decide +kernel
theorem dX7_toFront_106 : decode cX7_toFront 106 = .ok (.return_, 1) := by decide +kernel
theorem dX7_placeOf_0 : decode cX7_placeOf 0 = .ok (.iconst 0, 1) := by decide +kernel
theorem dX7_placeOf_1 : decode cX7_placeOf 1 = .ok (.istore_n 2, 1) := by decide +kernel
theorem dX7_placeOf_2 : decode cX7_placeOf 2 = .ok (.aload_n 0, 1) := by decide +kernel
theorem dX7_placeOf_3 : decode cX7_placeOf 3 = .ok (.getfield 41, 3) := by decide +kernel
theorem dX7_placeOf_6 : decode cX7_placeOf 6 = .ok (.iload_n 1, 1) := by decide +kernel
theorem dX7_placeOf_7 : decode cX7_placeOf 7 = .ok (.baload, 1) := by decide +kernel
theorem dX7_placeOf_8 : decode cX7_placeOf 8 = .ok (.ifCond .eq 12, 3) := by decide +kernel
theorem dX7_placeOf_11 : decode cX7_placeOf 11 = .ok (.aload_n 0, 1) := by decide +kernel
theorem dX7_placeOf_12 : decode cX7_placeOf 12 = .ok (.getfield 44, 3) := by decide +kernel
theorem dX7_placeOf_15 : decode cX7_placeOf 15 = .ok (.iload_n 2, 1) := by decide +kernel
theorem dX7_placeOf_16 : decode cX7_placeOf 16 = .ok (.iaload, 1) := by decide +kernel
theorem dX7_placeOf_17 : decode cX7_placeOf 17 = .ok (.goto 9, 3) := by decide +kernel
theorem dX7_placeOf_20 : decode cX7_placeOf 20 = .ok (.aload_n 0, 1) := by decide +kernel
theorem dX7_placeOf_21 : decode cX7_placeOf 21 = .ok (.getfield 47, 3) := by decide +kernel
theorem dX7_placeOf_24 : decode cX7_placeOf 24 = .ok (.iload_n 2, 1) := by decide +kernel
theorem dX7_placeOf_25 : decode cX7_placeOf 25 = .ok (.iaload, 1) := by decide +kernel
theorem dX7_placeOf_26 : decode cX7_placeOf 26 = .ok (.iload_n 1, 1) := by decide +kernel
theorem dX7_placeOf_27 : decode cX7_placeOf 27 = .ok (.if_icmp .eq 9, 3) := by decide +kernel
theorem dX7_placeOf_30 : decode cX7_placeOf 30 = .ok (.iinc 2 1, 3) := by decide +kernel
theorem dX7_placeOf_33 : decode cX7_placeOf 33 = .ok (.goto (-31), 3) := by decide +kernel
theorem dX7_placeOf_36 : decode cX7_placeOf 36 = .ok (.iload_n 2, 1) := by decide +kernel
theorem dX7_placeOf_37 : decode cX7_placeOf 37 = .ok (.ireturn, 1) := by decide +kernel
theorem dX7_fromList_0 : decode cX7_fromList 0 = .ok (.aload_n 0, 1) := by decide +kernel
theorem dX7_fromList_1 : decode cX7_fromList 1 = .ok (.iload_n 1, 1) := by decide +kernel
theorem dX7_fromList_2 : decode cX7_fromList 2 = .ok (.invokevirtual 108, 3) := by decide +kernel
theorem dX7_fromList_5 : decode cX7_fromList 5 = .ok (.istore_n 2, 1) := by decide +kernel
theorem dX7_fromList_6 : decode cX7_fromList 6 = .ok (.aload_n 0, 1) := by decide +kernel
theorem dX7_fromList_7 : decode cX7_fromList 7 = .ok (.getfield 41, 3) := by decide +kernel
theorem dX7_fromList_10 : decode cX7_fromList 10 = .ok (.iload_n 1, 1) := by decide +kernel
theorem dX7_fromList_11 : decode cX7_fromList 11 = .ok (.baload, 1) := by decide +kernel
theorem dX7_fromList_12 : decode cX7_fromList 12 = .ok (.ifCond .eq 46, 3) := by decide +kernel
theorem dX7_fromList_15 : decode cX7_fromList 15 = .ok (.aload_n 0, 1) := by decide +kernel
theorem dX7_fromList_16 : decode cX7_fromList 16 = .ok (.dup, 1) := by decide +kernel
theorem dX7_fromList_17 : decode cX7_fromList 17 = .ok (.getfield 102, 3) := by decide +kernel
theorem dX7_fromList_20 : decode cX7_fromList 20 = .ok (.iconst 1, 1) := by decide +kernel
theorem dX7_fromList_21 : decode cX7_fromList 21 = .ok (.isub, 1) := by decide +kernel
theorem dX7_fromList_22 : decode cX7_fromList 22 = .ok (.putfield 102, 3) := by decide +kernel
theorem dX7_fromList_25 : decode cX7_fromList 25 = .ok (.iload_n 2, 1) := by decide +kernel
theorem dX7_fromList_26 : decode cX7_fromList 26 = .ok (.istore_n 3, 1) := by decide +kernel
theorem dX7_fromList_27 : decode cX7_fromList 27 = .ok (.iload_n 3, 1) := by decide +kernel
theorem dX7_fromList_28 : decode cX7_fromList 28 = .ok (.aload_n 0, 1) := by decide +kernel
theorem dX7_fromList_29 : decode cX7_fromList 29 = .ok (.getfield 102, 3) := by decide +kernel
theorem dX7_fromList_32 : decode cX7_fromList 32 = .ok (.if_icmp .ge 23, 3) := by decide +kernel
theorem dX7_fromList_35 : decode cX7_fromList 35 = .ok (.aload_n 0, 1) := by decide +kernel
theorem dX7_fromList_36 : decode cX7_fromList 36 = .ok (.getfield 44, 3) := by decide +kernel
theorem dX7_fromList_39 : decode cX7_fromList 39 = .ok (.iload_n 3, 1) := by decide +kernel
theorem dX7_fromList_40 : decode cX7_fromList 40 = .ok (.aload_n 0, 1) := by decide +kernel
theorem dX7_fromList_41 : decode cX7_fromList 41 = .ok (.getfield 44, 3) := by decide +kernel
theorem dX7_fromList_44 : decode cX7_fromList 44 = .ok (.iload_n 3, 1) := by decide +kernel
theorem dX7_fromList_45 : decode cX7_fromList 45 = .ok (.iconst 1, 1) := by decide +kernel
theorem dX7_fromList_46 : decode cX7_fromList 46 = .ok (.iadd, 1) := by decide +kernel
theorem dX7_fromList_47 : decode cX7_fromList 47 = .ok (.iaload, 1) := by decide +kernel
theorem dX7_fromList_48 : decode cX7_fromList 48 = .ok (.iastore, 1) := by decide +kernel
theorem dX7_fromList_49 : decode cX7_fromList 49 = .ok (.iinc 3 1, 3) := by decide +kernel
theorem dX7_fromList_52 : decode cX7_fromList 52 = .ok (.goto (-25), 3) := by decide +kernel
theorem dX7_fromList_55 : decode cX7_fromList 55 = .ok (.goto 43, 3) := by decide +kernel
theorem dX7_fromList_58 : decode cX7_fromList 58 = .ok (.aload_n 0, 1) := by decide +kernel
theorem dX7_fromList_59 : decode cX7_fromList 59 = .ok (.dup, 1) := by decide +kernel
theorem dX7_fromList_60 : decode cX7_fromList 60 = .ok (.getfield 105, 3) := by decide +kernel
theorem dX7_fromList_63 : decode cX7_fromList 63 = .ok (.iconst 1, 1) := by decide +kernel
theorem dX7_fromList_64 : decode cX7_fromList 64 = .ok (.isub, 1) := by decide +kernel
theorem dX7_fromList_65 : decode cX7_fromList 65 = .ok (.putfield 105, 3) := by decide +kernel
theorem dX7_fromList_68 : decode cX7_fromList 68 = .ok (.iload_n 2, 1) := by decide +kernel
theorem dX7_fromList_69 : decode cX7_fromList 69 = .ok (.istore_n 3, 1) := by decide +kernel
theorem dX7_fromList_70 : decode cX7_fromList 70 = .ok (.iload_n 3, 1) := by decide +kernel
theorem dX7_fromList_71 : decode cX7_fromList 71 = .ok (.aload_n 0, 1) := by decide +kernel
theorem dX7_fromList_72 : decode cX7_fromList 72 = .ok (.getfield 105, 3) := by decide +kernel
theorem dX7_fromList_75 : decode cX7_fromList 75 = .ok (.if_icmp .ge 23, 3) := by decide +kernel
theorem dX7_fromList_78 : decode cX7_fromList 78 = .ok (.aload_n 0, 1) := by decide +kernel
theorem dX7_fromList_79 : decode cX7_fromList 79 = .ok (.getfield 47, 3) := by decide +kernel
theorem dX7_fromList_82 : decode cX7_fromList 82 = .ok (.iload_n 3, 1) := by decide +kernel
theorem dX7_fromList_83 : decode cX7_fromList 83 = .ok (.aload_n 0, 1) := by decide +kernel
theorem dX7_fromList_84 : decode cX7_fromList 84 = .ok (.getfield 47, 3) := by decide +kernel
theorem dX7_fromList_87 : decode cX7_fromList 87 = .ok (.iload_n 3, 1) := by decide +kernel
theorem dX7_fromList_88 : decode cX7_fromList 88 = .ok (.iconst 1, 1) := by decide +kernel
theorem dX7_fromList_89 : decode cX7_fromList 89 = .ok (.iadd, 1) := by decide +kernel
theorem dX7_fromList_90 : decode cX7_fromList 90 = .ok (.iaload, 1) := by decide +kernel
theorem dX7_fromList_91 : decode cX7_fromList 91 = .ok (.iastore, 1) := by decide +kernel
theorem dX7_fromList_92 : decode cX7_fromList 92 = .ok (.iinc 3 1, 3) := by decide +kernel
theorem dX7_fromList_95 : decode cX7_fromList 95 = .ok (.goto (-25), 3) := by decide +kernel
theorem dX7_fromList_98 : decode cX7_fromList 98 = .ok (.return_, 1) := by decide +kernel
theorem dX7_move_0 : decode cX7_move 0 = .ok (.aload_n 0, 1) := by decide +kernel
theorem dX7_move_1 : decode cX7_move 1 = .ok (.iload_n 1, 1) := by decide +kernel
theorem dX7_move_2 : decode cX7_move 2 = .ok (.invokevirtual 112, 3) := by decide +kernel
theorem dX7_move_5 : decode cX7_move 5 = .ok (.aload_n 0, 1) := by decide +kernel
theorem dX7_move_6 : decode cX7_move 6 = .ok (.iload_n 1, 1) := by decide +kernel
theorem dX7_move_7 : decode cX7_move 7 = .ok (.iload_n 2, 1) := by decide +kernel
theorem dX7_move_8 : decode cX7_move 8 = .ok (.invokevirtual 116, 3) := by decide +kernel
theorem dX7_move_11 : decode cX7_move 11 = .ok (.return_, 1) := by decide +kernel
theorem dX7_goOut_0 : decode cX7_goOut 0 = .ok (.aload_n 0, 1) := by decide +kernel
theorem dX7_goOut_1 : decode cX7_goOut 1 = .ok (.iload_n 1, 1) := by decide +kernel
theorem dX7_goOut_2 : decode cX7_goOut 2 = .ok (.invokevirtual 112, 3) := by decide +kernel
theorem dX7_goOut_5 : decode cX7_goOut 5 = .ok (.aload_n 0, 1) := by decide +kernel
theorem dX7_goOut_6 : decode cX7_goOut 6 = .ok (.getfield 50, 3) := by decide +kernel
theorem dX7_goOut_9 : decode cX7_goOut 9 = .ok (.aload_n 0, 1) := by decide +kernel
theorem dX7_goOut_10 : decode cX7_goOut 10 = .ok (.getfield 22, 3) := by decide +kernel
theorem dX7_goOut_13 : decode cX7_goOut 13 = .ok (.iload_n 1, 1) := by decide +kernel
theorem dX7_goOut_14 : decode cX7_goOut 14 = .ok (.iaload, 1) := by decide +kernel
theorem dX7_goOut_15 : decode cX7_goOut 15 = .ok (.iconst 0, 1) := by decide +kernel
theorem dX7_goOut_16 : decode cX7_goOut 16 = .ok (.bastore, 1) := by decide +kernel
theorem dX7_goOut_17 : decode cX7_goOut 17 = .ok (.aload_n 0, 1) := by decide +kernel
theorem dX7_goOut_18 : decode cX7_goOut 18 = .ok (.getfield 22, 3) := by decide +kernel
theorem dX7_goOut_21 : decode cX7_goOut 21 = .ok (.iload_n 1, 1) := by decide +kernel
theorem dX7_goOut_22 : decode cX7_goOut 22 = .ok (.iconst (-1), 1) := by decide +kernel
theorem dX7_goOut_23 : decode cX7_goOut 23 = .ok (.iastore, 1) := by decide +kernel
theorem dX7_goOut_24 : decode cX7_goOut 24 = .ok (.aload_n 0, 1) := by decide +kernel
theorem dX7_goOut_25 : decode cX7_goOut 25 = .ok (.getfield 28, 3) := by decide +kernel
theorem dX7_goOut_28 : decode cX7_goOut 28 = .ok (.iload_n 1, 1) := by decide +kernel
theorem dX7_goOut_29 : decode cX7_goOut 29 = .ok (.iconst (-1), 1) := by decide +kernel
theorem dX7_goOut_30 : decode cX7_goOut 30 = .ok (.iastore, 1) := by decide +kernel
theorem dX7_goOut_31 : decode cX7_goOut 31 = .ok (.aload_n 0, 1) := by decide +kernel
theorem dX7_goOut_32 : decode cX7_goOut 32 = .ok (.getfield 34, 3) := by decide +kernel
theorem dX7_goOut_35 : decode cX7_goOut 35 = .ok (.iload_n 1, 1) := by decide +kernel
theorem dX7_goOut_36 : decode cX7_goOut 36 = .ok (.iconst 0, 1) := by decide +kernel
theorem dX7_goOut_37 : decode cX7_goOut 37 = .ok (.bastore, 1) := by decide +kernel
theorem dX7_goOut_38 : decode cX7_goOut 38 = .ok (.aload_n 0, 1) := by decide +kernel
theorem dX7_goOut_39 : decode cX7_goOut 39 = .ok (.getfield 38, 3) := by decide +kernel
theorem dX7_goOut_42 : decode cX7_goOut 42 = .ok (.iload_n 1, 1) := by decide +kernel
theorem dX7_goOut_43 : decode cX7_goOut 43 = .ok (.iconst 0, 1) := by decide +kernel
theorem dX7_goOut_44 : decode cX7_goOut 44 = .ok (.bastore, 1) := by decide +kernel
theorem dX7_goOut_45 : decode cX7_goOut 45 = .ok (.aload_n 0, 1) := by decide +kernel
theorem dX7_goOut_46 : decode cX7_goOut 46 = .ok (.getfield 41, 3) := by decide +kernel
theorem dX7_goOut_49 : decode cX7_goOut 49 = .ok (.iload_n 1, 1) := by decide +kernel
theorem dX7_goOut_50 : decode cX7_goOut 50 = .ok (.iconst 0, 1) := by decide +kernel
theorem dX7_goOut_51 : decode cX7_goOut 51 = .ok (.bastore, 1) := by decide +kernel
theorem dX7_goOut_52 : decode cX7_goOut 52 = .ok (.return_, 1) := by decide +kernel
theorem dX7_noShadow_0 : decode cX7_noShadow 0 = .ok (.aload_n 0, 1) := by decide +kernel
theorem dX7_noShadow_1 : decode cX7_noShadow 1 = .ok (.dup, 1) := by decide +kernel
theorem dX7_noShadow_2 : decode cX7_noShadow 2 = .ok (.getfield 120, 3) := by decide +kernel
theorem dX7_noShadow_5 : decode cX7_noShadow 5 = .ok (.aload_n 0, 1) := by decide +kernel
theorem dX7_noShadow_6 : decode cX7_noShadow 6 = .ok (.getfield 31, 3) := by decide +kernel
theorem dX7_noShadow_9 : decode cX7_noShadow 9 = .ok (.iload_n 1, 1) := by decide +kernel
theorem dX7_noShadow_10 : decode cX7_noShadow 10 = .ok (.iaload, 1) := by decide +kernel
theorem dX7_noShadow_11 : decode cX7_noShadow 11 = .ok (.ifCond .le 7, 3) := by decide +kernel
theorem dX7_noShadow_14 : decode cX7_noShadow 14 = .ok (.iconst 1, 1) := by decide +kernel
theorem dX7_noShadow_15 : decode cX7_noShadow 15 = .ok (.goto 4, 3) := by decide +kernel
theorem dX7_noShadow_18 : decode cX7_noShadow 18 = .ok (.iconst 0, 1) := by decide +kernel
theorem dX7_noShadow_19 : decode cX7_noShadow 19 = .ok (.isub, 1) := by decide +kernel
theorem dX7_noShadow_20 : decode cX7_noShadow 20 = .ok (.putfield 120, 3) := by decide +kernel
theorem dX7_noShadow_23 : decode cX7_noShadow 23 = .ok (.aload_n 0, 1) := by decide +kernel
theorem dX7_noShadow_24 : decode cX7_noShadow 24 = .ok (.getfield 31, 3) := by decide +kernel
theorem dX7_noShadow_27 : decode cX7_noShadow 27 = .ok (.iload_n 1, 1) := by decide +kernel
theorem dX7_noShadow_28 : decode cX7_noShadow 28 = .ok (.iconst 0, 1) := by decide +kernel
theorem dX7_noShadow_29 : decode cX7_noShadow 29 = .ok (.iastore, 1) := by decide +kernel
theorem dX7_noShadow_30 : decode cX7_noShadow 30 = .ok (.return_, 1) := by decide +kernel
theorem dX7_evict_0 : decode cX7_evict 0 = .ok (.aload_n 0, 1) := by decide +kernel
theorem dX7_evict_1 : decode cX7_evict 1 = .ok (.iload_n 1, 1) := by decide +kernel
theorem dX7_evict_2 : decode cX7_evict 2 = .ok (.invokevirtual 123, 3) := by decide +kernel
theorem dX7_evict_5 : decode cX7_evict 5 = .ok (.aload_n 0, 1) := by decide +kernel
theorem dX7_evict_6 : decode cX7_evict 6 = .ok (.dup, 1) := by decide +kernel
theorem dX7_evict_7 : decode cX7_evict 7 = .ok (.getfield 126, 3) := by decide +kernel
theorem dX7_evict_10 : decode cX7_evict 10 = .ok (.iconst 1, 1) := by decide +kernel
theorem dX7_evict_11 : decode cX7_evict 11 = .ok (.iadd, 1) := by decide +kernel
theorem dX7_evict_12 : decode cX7_evict 12 = .ok (.putfield 126, 3) := by decide +kernel
theorem dX7_evict_15 : decode cX7_evict 15 = .ok (.aload_n 0, 1) := by decide +kernel
theorem dX7_evict_16 : decode cX7_evict 16 = .ok (.getfield 31, 3) := by decide +kernel
theorem dX7_evict_19 : decode cX7_evict 19 = .ok (.iload_n 1, 1) := by decide +kernel
theorem dX7_evict_20 : decode cX7_evict 20 = .ok (.aload_n 0, 1) := by decide +kernel
theorem dX7_evict_21 : decode cX7_evict 21 = .ok (.getfield 126, 3) := by decide +kernel
theorem dX7_evict_24 : decode cX7_evict 24 = .ok (.iastore, 1) := by decide +kernel
theorem dX7_evict_25 : decode cX7_evict 25 = .ok (.aload_n 0, 1) := by decide +kernel
theorem dX7_evict_26 : decode cX7_evict 26 = .ok (.dup, 1) := by decide +kernel
theorem dX7_evict_27 : decode cX7_evict 27 = .ok (.getfield 120, 3) := by decide +kernel
theorem dX7_evict_30 : decode cX7_evict 30 = .ok (.iconst 1, 1) := by decide +kernel
theorem dX7_evict_31 : decode cX7_evict 31 = .ok (.iadd, 1) := by decide +kernel
theorem dX7_evict_32 : decode cX7_evict 32 = .ok (.putfield 120, 3) := by decide +kernel
theorem dX7_evict_35 : decode cX7_evict 35 = .ok (.aload_n 0, 1) := by decide +kernel
theorem dX7_evict_36 : decode cX7_evict 36 = .ok (.getfield 120, 3) := by decide +kernel
theorem dX7_evict_39 : decode cX7_evict 39 = .ok (.aload_n 0, 1) := by decide +kernel
theorem dX7_evict_40 : decode cX7_evict 40 = .ok (.getfield 82, 3) := by decide +kernel
theorem dX7_evict_43 : decode cX7_evict 43 = .ok (.if_icmp .gt 4, 3) := by decide +kernel
theorem dX7_evict_46 : decode cX7_evict 46 = .ok (.return_, 1) := by decide +kernel
theorem dX7_evict_47 : decode cX7_evict 47 = .ok (.iconst (-1), 1) := by decide +kernel
theorem dX7_evict_48 : decode cX7_evict 48 = .ok (.istore_n 2, 1) := by decide +kernel
theorem dX7_evict_49 : decode cX7_evict 49 = .ok (.iconst 0, 1) := by decide +kernel
theorem dX7_evict_50 : decode cX7_evict 50 = .ok (.istore_n 3, 1) := by decide +kernel
theorem dX7_evict_51 : decode cX7_evict 51 = .ok (.iload_n 3, 1) := by decide +kernel
theorem dX7_evict_52 : decode cX7_evict 52 = .ok (.sipush 3072, 3) := by decide +kernel
theorem dX7_evict_55 : decode cX7_evict 55 = .ok (.if_icmp .ge 44, 3) := by decide +kernel
theorem dX7_evict_58 : decode cX7_evict 58 = .ok (.aload_n 0, 1) := by decide +kernel
theorem dX7_evict_59 : decode cX7_evict 59 = .ok (.getfield 31, 3) := by decide +kernel
theorem dX7_evict_62 : decode cX7_evict 62 = .ok (.iload_n 3, 1) := by decide +kernel
theorem dX7_evict_63 : decode cX7_evict 63 = .ok (.iaload, 1) := by decide +kernel
theorem dX7_evict_64 : decode cX7_evict 64 = .ok (.ifCond .le 27, 3) := by decide +kernel
theorem dX7_evict_67 : decode cX7_evict 67 = .ok (.iload_n 2, 1) := by decide +kernel
theorem dX7_evict_68 : decode cX7_evict 68 = .ok (.iconst (-1), 1) := by decide +kernel
theorem dX7_evict_69 : decode cX7_evict 69 = .ok (.if_icmp .eq 18, 3) := by decide +kernel
theorem dX7_evict_72 : decode cX7_evict 72 = .ok (.aload_n 0, 1) := by decide +kernel
theorem dX7_evict_73 : decode cX7_evict 73 = .ok (.getfield 31, 3) := by decide +kernel
theorem dX7_evict_76 : decode cX7_evict 76 = .ok (.iload_n 3, 1) := by decide +kernel
theorem dX7_evict_77 : decode cX7_evict 77 = .ok (.iaload, 1) := by decide +kernel
theorem dX7_evict_78 : decode cX7_evict 78 = .ok (.aload_n 0, 1) := by decide +kernel
theorem dX7_evict_79 : decode cX7_evict 79 = .ok (.getfield 31, 3) := by decide +kernel
theorem dX7_evict_82 : decode cX7_evict 82 = .ok (.iload_n 2, 1) := by decide +kernel
theorem dX7_evict_83 : decode cX7_evict 83 = .ok (.iaload, 1) := by decide +kernel
theorem dX7_evict_84 : decode cX7_evict 84 = .ok (.if_icmp .ge 7, 3) := by decide +kernel
theorem dX7_evict_87 : decode cX7_evict 87 = .ok (.iload_n 3, 1) := by decide +kernel
theorem dX7_evict_88 : decode cX7_evict 88 = .ok (.goto 4, 3) := by decide +kernel
theorem dX7_evict_91 : decode cX7_evict 91 = .ok (.iload_n 2, 1) := by decide +kernel
theorem dX7_evict_92 : decode cX7_evict 92 = .ok (.istore_n 2, 1) := by decide +kernel
theorem dX7_evict_93 : decode cX7_evict 93 = .ok (.iinc 3 1, 3) := by decide +kernel
theorem dX7_evict_96 : decode cX7_evict 96 = .ok (.goto (-45), 3) := by decide +kernel
theorem dX7_evict_99 : decode cX7_evict 99 = .ok (.aload_n 0, 1) := by decide +kernel
theorem dX7_evict_100 : decode cX7_evict 100 = .ok (.iload_n 2, 1) := by decide +kernel
theorem dX7_evict_101 : decode cX7_evict 101 = .ok (.invokevirtual 129, 3) := by decide +kernel
theorem dX7_evict_104 : decode cX7_evict 104 = .ok (.return_, 1) := by decide +kernel
theorem dX7_wrong_0 : decode cX7_wrong 0 = .ok (.iload_n 1, 1) := by decide +kernel
theorem dX7_wrong_1 : decode cX7_wrong 1 = .ok (.sipush 256, 3) := by decide +kernel
theorem dX7_wrong_4 : decode cX7_wrong 4 = .ok (.idiv, 1) := by decide +kernel
theorem dX7_wrong_5 : decode cX7_wrong 5 = .ok (.istore_n 3, 1) := by decide +kernel
theorem dX7_wrong_6 : decode cX7_wrong 6 = .ok (.aload_n 0, 1) := by decide +kernel
theorem dX7_wrong_7 : decode cX7_wrong 7 = .ok (.getfield 19, 3) := by decide +kernel
theorem dX7_wrong_10 : decode cX7_wrong 10 = .ok (.iload_n 3, 1) := by decide +kernel
theorem dX7_wrong_11 : decode cX7_wrong 11 = .ok (.aload_n 0, 1) := by decide +kernel
theorem dX7_wrong_12 : decode cX7_wrong 12 = .ok (.getfield 19, 3) := by decide +kernel
theorem dX7_wrong_15 : decode cX7_wrong 15 = .ok (.iload_n 3, 1) := by decide +kernel
theorem dX7_wrong_16 : decode cX7_wrong 16 = .ok (.iaload, 1) := by decide +kernel
theorem dX7_wrong_17 : decode cX7_wrong 17 = .ok (.ifCond .ne 7, 3) := by decide +kernel
theorem dX7_wrong_20 : decode cX7_wrong 20 = .ok (.iload_n 2, 1) := by decide +kernel
theorem dX7_wrong_21 : decode cX7_wrong 21 = .ok (.goto 9, 3) := by decide +kernel
theorem dX7_wrong_24 : decode cX7_wrong 24 = .ok (.aload_n 0, 1) := by decide +kernel
theorem dX7_wrong_25 : decode cX7_wrong 25 = .ok (.getfield 19, 3) := by decide +kernel
theorem dX7_wrong_28 : decode cX7_wrong 28 = .ok (.iload_n 3, 1) := by decide +kernel
theorem dX7_wrong_29 : decode cX7_wrong 29 = .ok (.iaload, 1) := by decide +kernel
theorem dX7_wrong_30 : decode cX7_wrong 30 = .ok (.iastore, 1) := by decide +kernel
theorem dX7_wrong_31 : decode cX7_wrong 31 = .ok (.return_, 1) := by decide +kernel
theorem dX7_hasBlock_0 : decode cX7_hasBlock 0 = .ok (.iconst 0, 1) := by decide +kernel
theorem dX7_hasBlock_1 : decode cX7_hasBlock 1 = .ok (.istore_n 2, 1) := by decide +kernel
theorem dX7_hasBlock_2 : decode cX7_hasBlock 2 = .ok (.iload_n 2, 1) := by decide +kernel
theorem dX7_hasBlock_3 : decode cX7_hasBlock 3 = .ok (.aload_n 0, 1) := by decide +kernel
theorem dX7_hasBlock_4 : decode cX7_hasBlock 4 = .ok (.getfield 86, 3) := by decide +kernel
theorem dX7_hasBlock_7 : decode cX7_hasBlock 7 = .ok (.if_icmp .ge 42, 3) := by decide +kernel
theorem dX7_hasBlock_10 : decode cX7_hasBlock 10 = .ok (.aload_n 0, 1) := by decide +kernel
theorem dX7_hasBlock_11 : decode cX7_hasBlock 11 = .ok (.getfield 25, 3) := by decide +kernel
theorem dX7_hasBlock_14 : decode cX7_hasBlock 14 = .ok (.iload_n 1, 1) := by decide +kernel
theorem dX7_hasBlock_15 : decode cX7_hasBlock 15 = .ok (.iaload, 1) := by decide +kernel
theorem dX7_hasBlock_16 : decode cX7_hasBlock 16 = .ok (.iconst (-1), 1) := by decide +kernel
theorem dX7_hasBlock_17 : decode cX7_hasBlock 17 = .ok (.if_icmp .ne 32, 3) := by decide +kernel
theorem dX7_hasBlock_20 : decode cX7_hasBlock 20 = .ok (.aload_n 0, 1) := by decide +kernel
theorem dX7_hasBlock_21 : decode cX7_hasBlock 21 = .ok (.getfield 61, 3) := by decide +kernel
theorem dX7_hasBlock_24 : decode cX7_hasBlock 24 = .ok (.iload_n 2, 1) := by decide +kernel
theorem dX7_hasBlock_25 : decode cX7_hasBlock 25 = .ok (.baload, 1) := by decide +kernel
theorem dX7_hasBlock_26 : decode cX7_hasBlock 26 = .ok (.ifCond .ne 17, 3) := by decide +kernel
theorem dX7_hasBlock_29 : decode cX7_hasBlock 29 = .ok (.aload_n 0, 1) := by decide +kernel
theorem dX7_hasBlock_30 : decode cX7_hasBlock 30 = .ok (.getfield 61, 3) := by decide +kernel
theorem dX7_hasBlock_33 : decode cX7_hasBlock 33 = .ok (.iload_n 2, 1) := by decide +kernel
theorem dX7_hasBlock_34 : decode cX7_hasBlock 34 = .ok (.iconst 1, 1) := by decide +kernel
theorem dX7_hasBlock_35 : decode cX7_hasBlock 35 = .ok (.bastore, 1) := by decide +kernel
theorem dX7_hasBlock_36 : decode cX7_hasBlock 36 = .ok (.aload_n 0, 1) := by decide +kernel
theorem dX7_hasBlock_37 : decode cX7_hasBlock 37 = .ok (.getfield 25, 3) := by decide +kernel
theorem dX7_hasBlock_40 : decode cX7_hasBlock 40 = .ok (.iload_n 1, 1) := by decide +kernel
theorem dX7_hasBlock_41 : decode cX7_hasBlock 41 = .ok (.iload_n 2, 1) := by decide +kernel
theorem dX7_hasBlock_42 : decode cX7_hasBlock 42 = .ok (.iastore, 1) := by decide +kernel
theorem dX7_hasBlock_43 : decode cX7_hasBlock 43 = .ok (.iinc 2 1, 3) := by decide +kernel
theorem dX7_hasBlock_46 : decode cX7_hasBlock 46 = .ok (.goto (-44), 3) := by decide +kernel
theorem dX7_hasBlock_49 : decode cX7_hasBlock 49 = .ok (.aload_n 0, 1) := by decide +kernel
theorem dX7_hasBlock_50 : decode cX7_hasBlock 50 = .ok (.getfield 25, 3) := by decide +kernel
theorem dX7_hasBlock_53 : decode cX7_hasBlock 53 = .ok (.iload_n 1, 1) := by decide +kernel
theorem dX7_hasBlock_54 : decode cX7_hasBlock 54 = .ok (.iaload, 1) := by decide +kernel
theorem dX7_hasBlock_55 : decode cX7_hasBlock 55 = .ok (.iconst (-1), 1) := by decide +kernel
theorem dX7_hasBlock_56 : decode cX7_hasBlock 56 = .ok (.if_icmp .ne 10, 3) := by decide +kernel
theorem dX7_hasBlock_59 : decode cX7_hasBlock 59 = .ok (.aload_n 0, 1) := by decide +kernel
theorem dX7_hasBlock_60 : decode cX7_hasBlock 60 = .ok (.iload_n 1, 1) := by decide +kernel
theorem dX7_hasBlock_61 : decode cX7_hasBlock 61 = .ok (.bipush (-4), 2) := by decide +kernel
theorem dX7_hasBlock_63 : decode cX7_hasBlock 63 = .ok (.invokevirtual 132, 3) := by decide +kernel
theorem dX7_hasBlock_66 : decode cX7_hasBlock 66 = .ok (.aload_n 0, 1) := by decide +kernel
theorem dX7_hasBlock_67 : decode cX7_hasBlock 67 = .ok (.getfield 25, 3) := by decide +kernel
theorem dX7_hasBlock_70 : decode cX7_hasBlock 70 = .ok (.iload_n 1, 1) := by decide +kernel
theorem dX7_hasBlock_71 : decode cX7_hasBlock 71 = .ok (.iaload, 1) := by decide +kernel
theorem dX7_hasBlock_72 : decode cX7_hasBlock 72 = .ok (.iconst (-1), 1) := by decide +kernel
theorem dX7_hasBlock_73 : decode cX7_hasBlock 73 = .ok (.if_icmp .eq 7, 3) := by decide +kernel
theorem dX7_hasBlock_76 : decode cX7_hasBlock 76 = .ok (.iconst 1, 1) := by decide +kernel
theorem dX7_hasBlock_77 : decode cX7_hasBlock 77 = .ok (.goto 4, 3) := by decide +kernel
theorem dX7_hasBlock_80 : decode cX7_hasBlock 80 = .ok (.iconst 0, 1) := by decide +kernel
theorem dX7_hasBlock_81 : decode cX7_hasBlock 81 = .ok (.ireturn, 1) := by decide +kernel
theorem dX7_written_0 : decode cX7_written 0 = .ok (.aload_n 0, 1) := by decide +kernel
theorem dX7_written_1 : decode cX7_written 1 = .ok (.iload_n 1, 1) := by decide +kernel
theorem dX7_written_2 : decode cX7_written 2 = .ok (.invokevirtual 136, 3) := by decide +kernel
theorem dX7_written_5 : decode cX7_written 5 = .ok (.ifCond .ne 5, 3) := by decide +kernel
theorem dX7_written_8 : decode cX7_written 8 = .ok (.iconst 0, 1) := by decide +kernel
theorem dX7_written_9 : decode cX7_written 9 = .ok (.ireturn, 1) := by decide +kernel
theorem dX7_written_10 : decode cX7_written 10 = .ok (.aload_n 0, 1) := by decide +kernel
theorem dX7_written_11 : decode cX7_written 11 = .ok (.getfield 25, 3) := by decide +kernel
theorem dX7_written_14 : decode cX7_written 14 = .ok (.iload_n 1, 1) := by decide +kernel
theorem dX7_written_15 : decode cX7_written 15 = .ok (.iaload, 1) := by decide +kernel
theorem dX7_written_16 : decode cX7_written 16 = .ok (.istore_n 2, 1) := by decide +kernel
theorem dX7_written_17 : decode cX7_written 17 = .ok (.aload_n 0, 1) := by decide +kernel
theorem dX7_written_18 : decode cX7_written 18 = .ok (.getfield 64, 3) := by decide +kernel
theorem dX7_written_21 : decode cX7_written 21 = .ok (.iload_n 2, 1) := by decide +kernel
theorem dX7_written_22 : decode cX7_written 22 = .ok (.baload, 1) := by decide +kernel
theorem dX7_written_23 : decode cX7_written 23 = .ok (.ifCond .eq 12, 3) := by decide +kernel
theorem dX7_written_26 : decode cX7_written 26 = .ok (.aload_n 0, 1) := by decide +kernel
theorem dX7_written_27 : decode cX7_written 27 = .ok (.iload_n 1, 1) := by decide +kernel
theorem dX7_written_28 : decode cX7_written 28 = .ok (.bipush (-5), 2) := by decide +kernel
theorem dX7_written_30 : decode cX7_written 30 = .ok (.invokevirtual 132, 3) := by decide +kernel
theorem dX7_written_33 : decode cX7_written 33 = .ok (.iconst 0, 1) := by decide +kernel
theorem dX7_written_34 : decode cX7_written 34 = .ok (.ireturn, 1) := by decide +kernel
theorem dX7_written_35 : decode cX7_written 35 = .ok (.aload_n 0, 1) := by decide +kernel
theorem dX7_written_36 : decode cX7_written 36 = .ok (.iconst 1, 1) := by decide +kernel
theorem dX7_written_37 : decode cX7_written 37 = .ok (.iload_n 2, 1) := by decide +kernel
theorem dX7_written_38 : decode cX7_written 38 = .ok (.invokevirtual 140, 3) := by decide +kernel
theorem dX7_written_41 : decode cX7_written 41 = .ok (.aload_n 0, 1) := by decide +kernel
theorem dX7_written_42 : decode cX7_written 42 = .ok (.getfield 7, 3) := by decide +kernel
theorem dX7_written_45 : decode cX7_written 45 = .ok (.iload_n 1, 1) := by decide +kernel
theorem dX7_written_46 : decode cX7_written 46 = .ok (.sipush 256, 3) := by decide +kernel
theorem dX7_written_49 : decode cX7_written 49 = .ok (.idiv, 1) := by decide +kernel
theorem dX7_written_50 : decode cX7_written 50 = .ok (.iaload, 1) := by decide +kernel
theorem dX7_written_51 : decode cX7_written 51 = .ok (.bipush 64, 2) := by decide +kernel
theorem dX7_written_53 : decode cX7_written 53 = .ok (.iload_n 1, 1) := by decide +kernel
theorem dX7_written_54 : decode cX7_written 54 = .ok (.sipush 256, 3) := by decide +kernel
theorem dX7_written_57 : decode cX7_written 57 = .ok (.irem, 1) := by decide +kernel
theorem dX7_written_58 : decode cX7_written 58 = .ok (.imul, 1) := by decide +kernel
theorem dX7_written_59 : decode cX7_written 59 = .ok (.isub, 1) := by decide +kernel
theorem dX7_written_60 : decode cX7_written 60 = .ok (.istore_n 3, 1) := by decide +kernel
theorem dX7_written_61 : decode cX7_written 61 = .ok (.iconst 0, 1) := by decide +kernel
theorem dX7_written_62 : decode cX7_written 62 = .ok (.istore 4, 2) := by decide +kernel
theorem dX7_written_64 : decode cX7_written 64 = .ok (.iload 4, 2) := by decide +kernel
theorem dX7_written_66 : decode cX7_written 66 = .ok (.bipush 64, 2) := by decide +kernel
theorem dX7_written_68 : decode cX7_written 68 = .ok (.if_icmp .ge 48, 3) := by decide +kernel
theorem dX7_written_71 : decode cX7_written 71 = .ok (.aload_n 0, 1) := by decide +kernel
theorem dX7_written_72 : decode cX7_written 72 = .ok (.getfield 58, 3) := by decide +kernel
theorem dX7_written_75 : decode cX7_written 75 = .ok (.bipush 64, 2) := by decide +kernel
theorem dX7_written_77 : decode cX7_written 77 = .ok (.iload_n 2, 1) := by decide +kernel
theorem dX7_written_78 : decode cX7_written 78 = .ok (.imul, 1) := by decide +kernel
theorem dX7_written_79 : decode cX7_written 79 = .ok (.iload 4, 2) := by decide +kernel
theorem dX7_written_81 : decode cX7_written 81 = .ok (.iadd, 1) := by decide +kernel
theorem dX7_written_82 : decode cX7_written 82 = .ok (.iload 4, 2) := by decide +kernel
theorem dX7_written_84 : decode cX7_written 84 = .ok (.iload_n 3, 1) := by decide +kernel
theorem dX7_written_85 : decode cX7_written 85 = .ok (.if_icmp .ge 23, 3) := by decide +kernel
theorem dX7_written_88 : decode cX7_written 88 = .ok (.aload_n 0, 1) := by decide +kernel
theorem dX7_written_89 : decode cX7_written 89 = .ok (.getfield 53, 3) := by decide +kernel
theorem dX7_written_92 : decode cX7_written 92 = .ok (.bipush 64, 2) := by decide +kernel
theorem dX7_written_94 : decode cX7_written 94 = .ok (.aload_n 0, 1) := by decide +kernel
theorem dX7_written_95 : decode cX7_written 95 = .ok (.getfield 22, 3) := by decide +kernel
theorem dX7_written_98 : decode cX7_written 98 = .ok (.iload_n 1, 1) := by decide +kernel
theorem dX7_written_99 : decode cX7_written 99 = .ok (.iaload, 1) := by decide +kernel
theorem dX7_written_100 : decode cX7_written 100 = .ok (.imul, 1) := by decide +kernel
theorem dX7_written_101 : decode cX7_written 101 = .ok (.iload 4, 2) := by decide +kernel
theorem dX7_written_103 : decode cX7_written 103 = .ok (.iadd, 1) := by decide +kernel
theorem dX7_written_104 : decode cX7_written 104 = .ok (.baload, 1) := by decide +kernel
theorem dX7_written_105 : decode cX7_written 105 = .ok (.goto 4, 3) := by decide +kernel
theorem dX7_written_108 : decode cX7_written 108 = .ok (.iconst 0, 1) := by decide +kernel
theorem dX7_written_109 : decode cX7_written 109 = .ok (.bastore, 1) := by decide +kernel
theorem dX7_written_110 : decode cX7_written 110 = .ok (.iinc 4 1, 3) := by decide +kernel
theorem dX7_written_113 : decode cX7_written 113 = .ok (.goto (-49), 3) := by decide +kernel
theorem dX7_written_116 : decode cX7_written 116 = .ok (.aload_n 0, 1) := by decide +kernel
theorem dX7_written_117 : decode cX7_written 117 = .ok (.getfield 28, 3) := by decide +kernel
theorem dX7_written_120 : decode cX7_written 120 = .ok (.iload_n 1, 1) := by decide +kernel
theorem dX7_written_121 : decode cX7_written 121 = .ok (.iconst (-1), 1) := by decide +kernel
theorem dX7_written_122 : decode cX7_written 122 = .ok (.iastore, 1) := by decide +kernel
theorem dX7_written_123 : decode cX7_written 123 = .ok (.iconst 1, 1) := by decide +kernel
theorem dX7_written_124 : decode cX7_written 124 = .ok (.ireturn, 1) := by decide +kernel
theorem dX7_frame_0 : decode cX7_frame 0 = .ok (.iconst 0, 1) := by decide +kernel
theorem dX7_frame_1 : decode cX7_frame 1 = .ok (.istore_n 1, 1) := by decide +kernel
theorem dX7_frame_2 : decode cX7_frame 2 = .ok (.iload_n 1, 1) := by decide +kernel
theorem dX7_frame_3 : decode cX7_frame 3 = .ok (.aload_n 0, 1) := by decide +kernel
theorem dX7_frame_4 : decode cX7_frame 4 = .ok (.getfield 82, 3) := by decide +kernel
theorem dX7_frame_7 : decode cX7_frame 7 = .ok (.if_icmp .ge 20, 3) := by decide +kernel
theorem dX7_frame_10 : decode cX7_frame 10 = .ok (.aload_n 0, 1) := by decide +kernel
theorem dX7_frame_11 : decode cX7_frame 11 = .ok (.getfield 50, 3) := by decide +kernel
theorem dX7_frame_14 : decode cX7_frame 14 = .ok (.iload_n 1, 1) := by decide +kernel
theorem dX7_frame_15 : decode cX7_frame 15 = .ok (.baload, 1) := by decide +kernel
theorem dX7_frame_16 : decode cX7_frame 16 = .ok (.ifCond .ne 5, 3) := by decide +kernel
theorem dX7_frame_19 : decode cX7_frame 19 = .ok (.iload_n 1, 1) := by decide +kernel
theorem dX7_frame_20 : decode cX7_frame 20 = .ok (.ireturn, 1) := by decide +kernel
theorem dX7_frame_21 : decode cX7_frame 21 = .ok (.iinc 1 1, 3) := by decide +kernel
theorem dX7_frame_24 : decode cX7_frame 24 = .ok (.goto (-22), 3) := by decide +kernel
theorem dX7_frame_27 : decode cX7_frame 27 = .ok (.aload_n 0, 1) := by decide +kernel
theorem dX7_frame_28 : decode cX7_frame 28 = .ok (.getfield 102, 3) := by decide +kernel
theorem dX7_frame_31 : decode cX7_frame 31 = .ok (.aload_n 0, 1) := by decide +kernel
theorem dX7_frame_32 : decode cX7_frame 32 = .ok (.getfield 105, 3) := by decide +kernel
theorem dX7_frame_35 : decode cX7_frame 35 = .ok (.if_icmp .le 38, 3) := by decide +kernel
theorem dX7_frame_38 : decode cX7_frame 38 = .ok (.aload_n 0, 1) := by decide +kernel
theorem dX7_frame_39 : decode cX7_frame 39 = .ok (.getfield 44, 3) := by decide +kernel
theorem dX7_frame_42 : decode cX7_frame 42 = .ok (.aload_n 0, 1) := by decide +kernel
theorem dX7_frame_43 : decode cX7_frame 43 = .ok (.getfield 102, 3) := by decide +kernel
theorem dX7_frame_46 : decode cX7_frame 46 = .ok (.iconst 1, 1) := by decide +kernel
theorem dX7_frame_47 : decode cX7_frame 47 = .ok (.isub, 1) := by decide +kernel
theorem dX7_frame_48 : decode cX7_frame 48 = .ok (.iaload, 1) := by decide +kernel
theorem dX7_frame_49 : decode cX7_frame 49 = .ok (.istore_n 1, 1) := by decide +kernel
theorem dX7_frame_50 : decode cX7_frame 50 = .ok (.aload_n 0, 1) := by decide +kernel
theorem dX7_frame_51 : decode cX7_frame 51 = .ok (.getfield 34, 3) := by decide +kernel
theorem dX7_frame_54 : decode cX7_frame 54 = .ok (.iload_n 1, 1) := by decide +kernel
theorem dX7_frame_55 : decode cX7_frame 55 = .ok (.baload, 1) := by decide +kernel
theorem dX7_frame_56 : decode cX7_frame 56 = .ok (.istore_n 2, 1) := by decide +kernel
theorem dX7_frame_57 : decode cX7_frame 57 = .ok (.aload_n 0, 1) := by decide +kernel
theorem dX7_frame_58 : decode cX7_frame 58 = .ok (.getfield 34, 3) := by decide +kernel
theorem dX7_frame_61 : decode cX7_frame 61 = .ok (.iload_n 1, 1) := by decide +kernel
theorem dX7_frame_62 : decode cX7_frame 62 = .ok (.iconst 0, 1) := by decide +kernel
theorem dX7_frame_63 : decode cX7_frame 63 = .ok (.bastore, 1) := by decide +kernel
theorem dX7_frame_64 : decode cX7_frame 64 = .ok (.aload_n 0, 1) := by decide +kernel
theorem dX7_frame_65 : decode cX7_frame 65 = .ok (.iload_n 1, 1) := by decide +kernel
theorem dX7_frame_66 : decode cX7_frame 66 = .ok (.iload_n 2, 1) := by decide +kernel
theorem dX7_frame_67 : decode cX7_frame 67 = .ok (.invokevirtual 143, 3) := by decide +kernel
theorem dX7_frame_70 : decode cX7_frame 70 = .ok (.goto (-43), 3) := by decide +kernel
theorem dX7_frame_73 : decode cX7_frame 73 = .ok (.iconst 0, 1) := by decide +kernel
theorem dX7_frame_74 : decode cX7_frame 74 = .ok (.istore_n 1, 1) := by decide +kernel
theorem dX7_frame_75 : decode cX7_frame 75 = .ok (.iload_n 1, 1) := by decide +kernel
theorem dX7_frame_76 : decode cX7_frame 76 = .ok (.iconst 2, 1) := by decide +kernel
theorem dX7_frame_77 : decode cX7_frame 77 = .ok (.aload_n 0, 1) := by decide +kernel
theorem dX7_frame_78 : decode cX7_frame 78 = .ok (.getfield 82, 3) := by decide +kernel
theorem dX7_frame_81 : decode cX7_frame 81 = .ok (.imul, 1) := by decide +kernel
theorem dX7_frame_82 : decode cX7_frame 82 = .ok (.if_icmp .ge 110, 3) := by decide +kernel
theorem dX7_frame_85 : decode cX7_frame 85 = .ok (.aload_n 0, 1) := by decide +kernel
theorem dX7_frame_86 : decode cX7_frame 86 = .ok (.getfield 105, 3) := by decide +kernel
theorem dX7_frame_89 : decode cX7_frame 89 = .ok (.ifCond .le 103, 3) := by decide +kernel
theorem dX7_frame_92 : decode cX7_frame 92 = .ok (.aload_n 0, 1) := by decide +kernel
theorem dX7_frame_93 : decode cX7_frame 93 = .ok (.getfield 47, 3) := by decide +kernel
theorem dX7_frame_96 : decode cX7_frame 96 = .ok (.aload_n 0, 1) := by decide +kernel
theorem dX7_frame_97 : decode cX7_frame 97 = .ok (.getfield 105, 3) := by decide +kernel
theorem dX7_frame_100 : decode cX7_frame 100 = .ok (.iconst 1, 1) := by decide +kernel
theorem dX7_frame_101 : decode cX7_frame 101 = .ok (.isub, 1) := by decide +kernel
theorem dX7_frame_102 : decode cX7_frame 102 = .ok (.iaload, 1) := by decide +kernel
theorem dX7_frame_103 : decode cX7_frame 103 = .ok (.istore_n 2, 1) := by decide +kernel
theorem dX7_frame_104 : decode cX7_frame 104 = .ok (.aload_n 0, 1) := by decide +kernel
theorem dX7_frame_105 : decode cX7_frame 105 = .ok (.getfield 38, 3) := by decide +kernel
theorem dX7_frame_108 : decode cX7_frame 108 = .ok (.iload_n 2, 1) := by decide +kernel
theorem dX7_frame_109 : decode cX7_frame 109 = .ok (.baload, 1) := by decide +kernel
theorem dX7_frame_110 : decode cX7_frame 110 = .ok (.ifCond .eq 12, 3) := by decide +kernel
theorem dX7_frame_113 : decode cX7_frame 113 = .ok (.aload_n 0, 1) := by decide +kernel
theorem dX7_frame_114 : decode cX7_frame 114 = .ok (.iload_n 2, 1) := by decide +kernel
theorem dX7_frame_115 : decode cX7_frame 115 = .ok (.iconst 0, 1) := by decide +kernel
theorem dX7_frame_116 : decode cX7_frame 116 = .ok (.invokevirtual 143, 3) := by decide +kernel
theorem dX7_frame_119 : decode cX7_frame 119 = .ok (.goto 67, 3) := by decide +kernel
theorem dX7_frame_122 : decode cX7_frame 122 = .ok (.aload_n 0, 1) := by decide +kernel
theorem dX7_frame_123 : decode cX7_frame 123 = .ok (.getfield 34, 3) := by decide +kernel
theorem dX7_frame_126 : decode cX7_frame 126 = .ok (.iload_n 2, 1) := by decide +kernel
theorem dX7_frame_127 : decode cX7_frame 127 = .ok (.baload, 1) := by decide +kernel
theorem dX7_frame_128 : decode cX7_frame 128 = .ok (.ifCond .eq 19, 3) := by decide +kernel
theorem dX7_frame_131 : decode cX7_frame 131 = .ok (.aload_n 0, 1) := by decide +kernel
theorem dX7_frame_132 : decode cX7_frame 132 = .ok (.getfield 34, 3) := by decide +kernel
theorem dX7_frame_135 : decode cX7_frame 135 = .ok (.iload_n 2, 1) := by decide +kernel
theorem dX7_frame_136 : decode cX7_frame 136 = .ok (.iconst 0, 1) := by decide +kernel
theorem dX7_frame_137 : decode cX7_frame 137 = .ok (.bastore, 1) := by decide +kernel
theorem dX7_frame_138 : decode cX7_frame 138 = .ok (.aload_n 0, 1) := by decide +kernel
theorem dX7_frame_139 : decode cX7_frame 139 = .ok (.iload_n 2, 1) := by decide +kernel
theorem dX7_frame_140 : decode cX7_frame 140 = .ok (.iconst 1, 1) := by decide +kernel
theorem dX7_frame_141 : decode cX7_frame 141 = .ok (.invokevirtual 143, 3) := by decide +kernel
theorem dX7_frame_144 : decode cX7_frame 144 = .ok (.goto 42, 3) := by decide +kernel
theorem dX7_frame_147 : decode cX7_frame 147 = .ok (.aload_n 0, 1) := by decide +kernel
theorem dX7_frame_148 : decode cX7_frame 148 = .ok (.iload_n 2, 1) := by decide +kernel
theorem dX7_frame_149 : decode cX7_frame 149 = .ok (.invokevirtual 146, 3) := by decide +kernel
theorem dX7_frame_152 : decode cX7_frame 152 = .ok (.ifCond .eq 20, 3) := by decide +kernel
theorem dX7_frame_155 : decode cX7_frame 155 = .ok (.aload_n 0, 1) := by decide +kernel
theorem dX7_frame_156 : decode cX7_frame 156 = .ok (.iload_n 2, 1) := by decide +kernel
theorem dX7_frame_157 : decode cX7_frame 157 = .ok (.invokevirtual 149, 3) := by decide +kernel
theorem dX7_frame_160 : decode cX7_frame 160 = .ok (.ifCond .ne 12, 3) := by decide +kernel
theorem dX7_frame_163 : decode cX7_frame 163 = .ok (.aload_n 0, 1) := by decide +kernel
theorem dX7_frame_164 : decode cX7_frame 164 = .ok (.iload_n 2, 1) := by decide +kernel
theorem dX7_frame_165 : decode cX7_frame 165 = .ok (.iconst 0, 1) := by decide +kernel
theorem dX7_frame_166 : decode cX7_frame 166 = .ok (.invokevirtual 143, 3) := by decide +kernel
theorem dX7_frame_169 : decode cX7_frame 169 = .ok (.goto 17, 3) := by decide +kernel
theorem dX7_frame_172 : decode cX7_frame 172 = .ok (.aload_n 0, 1) := by decide +kernel
theorem dX7_frame_173 : decode cX7_frame 173 = .ok (.getfield 22, 3) := by decide +kernel
theorem dX7_frame_176 : decode cX7_frame 176 = .ok (.iload_n 2, 1) := by decide +kernel
theorem dX7_frame_177 : decode cX7_frame 177 = .ok (.iaload, 1) := by decide +kernel
theorem dX7_frame_178 : decode cX7_frame 178 = .ok (.istore_n 3, 1) := by decide +kernel
theorem dX7_frame_179 : decode cX7_frame 179 = .ok (.aload_n 0, 1) := by decide +kernel
theorem dX7_frame_180 : decode cX7_frame 180 = .ok (.iload_n 2, 1) := by decide +kernel
theorem dX7_frame_181 : decode cX7_frame 181 = .ok (.invokevirtual 152, 3) := by decide +kernel
theorem dX7_frame_184 : decode cX7_frame 184 = .ok (.iload_n 3, 1) := by decide +kernel
theorem dX7_frame_185 : decode cX7_frame 185 = .ok (.ireturn, 1) := by decide +kernel
theorem dX7_frame_186 : decode cX7_frame 186 = .ok (.iinc 1 1, 3) := by decide +kernel
theorem dX7_frame_189 : decode cX7_frame 189 = .ok (.goto (-114), 3) := by decide +kernel
theorem dX7_frame_192 : decode cX7_frame 192 = .ok (.aload_n 0, 1) := by decide +kernel
theorem dX7_frame_193 : decode cX7_frame 193 = .ok (.getfield 102, 3) := by decide +kernel
theorem dX7_frame_196 : decode cX7_frame 196 = .ok (.iconst 1, 1) := by decide +kernel
theorem dX7_frame_197 : decode cX7_frame 197 = .ok (.isub, 1) := by decide +kernel
theorem dX7_frame_198 : decode cX7_frame 198 = .ok (.istore_n 1, 1) := by decide +kernel
theorem dX7_frame_199 : decode cX7_frame 199 = .ok (.iload_n 1, 1) := by decide +kernel
theorem dX7_frame_200 : decode cX7_frame 200 = .ok (.ifCond .lt 55, 3) := by decide +kernel
theorem dX7_frame_203 : decode cX7_frame 203 = .ok (.aload_n 0, 1) := by decide +kernel
theorem dX7_frame_204 : decode cX7_frame 204 = .ok (.getfield 44, 3) := by decide +kernel
theorem dX7_frame_207 : decode cX7_frame 207 = .ok (.iload_n 1, 1) := by decide +kernel
theorem dX7_frame_208 : decode cX7_frame 208 = .ok (.iaload, 1) := by decide +kernel
theorem dX7_frame_209 : decode cX7_frame 209 = .ok (.istore_n 2, 1) := by decide +kernel
theorem dX7_frame_210 : decode cX7_frame 210 = .ok (.aload_n 0, 1) := by decide +kernel
theorem dX7_frame_211 : decode cX7_frame 211 = .ok (.getfield 38, 3) := by decide +kernel
theorem dX7_frame_214 : decode cX7_frame 214 = .ok (.iload_n 2, 1) := by decide +kernel
theorem dX7_frame_215 : decode cX7_frame 215 = .ok (.baload, 1) := by decide +kernel
theorem dX7_frame_216 : decode cX7_frame 216 = .ok (.ifCond .ne 33, 3) := by decide +kernel
theorem dX7_frame_219 : decode cX7_frame 219 = .ok (.aload_n 0, 1) := by decide +kernel
theorem dX7_frame_220 : decode cX7_frame 220 = .ok (.iload_n 2, 1) := by decide +kernel
theorem dX7_frame_221 : decode cX7_frame 221 = .ok (.invokevirtual 146, 3) := by decide +kernel
theorem dX7_frame_224 : decode cX7_frame 224 = .ok (.ifCond .eq 11, 3) := by decide +kernel
theorem dX7_frame_227 : decode cX7_frame 227 = .ok (.aload_n 0, 1) := by decide +kernel
theorem dX7_frame_228 : decode cX7_frame 228 = .ok (.iload_n 2, 1) := by decide +kernel
theorem dX7_frame_229 : decode cX7_frame 229 = .ok (.invokevirtual 149, 3) := by decide +kernel
theorem dX7_frame_232 : decode cX7_frame 232 = .ok (.ifCond .eq 17, 3) := by decide +kernel
theorem dX7_frame_235 : decode cX7_frame 235 = .ok (.aload_n 0, 1) := by decide +kernel
theorem dX7_frame_236 : decode cX7_frame 236 = .ok (.getfield 22, 3) := by decide +kernel
theorem dX7_frame_239 : decode cX7_frame 239 = .ok (.iload_n 2, 1) := by decide +kernel
theorem dX7_frame_240 : decode cX7_frame 240 = .ok (.iaload, 1) := by decide +kernel
theorem dX7_frame_241 : decode cX7_frame 241 = .ok (.istore_n 3, 1) := by decide +kernel
theorem dX7_frame_242 : decode cX7_frame 242 = .ok (.aload_n 0, 1) := by decide +kernel
theorem dX7_frame_243 : decode cX7_frame 243 = .ok (.iload_n 2, 1) := by decide +kernel
theorem dX7_frame_244 : decode cX7_frame 244 = .ok (.invokevirtual 152, 3) := by decide +kernel
theorem dX7_frame_247 : decode cX7_frame 247 = .ok (.iload_n 3, 1) := by decide +kernel
theorem dX7_frame_248 : decode cX7_frame 248 = .ok (.ireturn, 1) := by decide +kernel
theorem dX7_frame_249 : decode cX7_frame 249 = .ok (.iinc 1 (-1), 3) := by decide +kernel
theorem dX7_frame_252 : decode cX7_frame 252 = .ok (.goto (-53), 3) := by decide +kernel
theorem dX7_frame_255 : decode cX7_frame 255 = .ok (.iconst (-1), 1) := by decide +kernel
theorem dX7_frame_256 : decode cX7_frame 256 = .ok (.ireturn, 1) := by decide +kernel
theorem dX7_bringIn_0 : decode cX7_bringIn 0 = .ok (.aload_n 0, 1) := by decide +kernel
theorem dX7_bringIn_1 : decode cX7_bringIn 1 = .ok (.invokevirtual 155, 3) := by decide +kernel
theorem dX7_bringIn_4 : decode cX7_bringIn 4 = .ok (.istore_n 2, 1) := by decide +kernel
theorem dX7_bringIn_5 : decode cX7_bringIn 5 = .ok (.iload_n 2, 1) := by decide +kernel
theorem dX7_bringIn_6 : decode cX7_bringIn 6 = .ok (.iconst (-1), 1) := by decide +kernel
theorem dX7_bringIn_7 : decode cX7_bringIn 7 = .ok (.if_icmp .ne 5, 3) := by decide +kernel
theorem dX7_bringIn_10 : decode cX7_bringIn 10 = .ok (.iconst 0, 1) := by decide +kernel
theorem dX7_bringIn_11 : decode cX7_bringIn 11 = .ok (.ireturn, 1) := by decide +kernel
theorem dX7_bringIn_12 : decode cX7_bringIn 12 = .ok (.iconst 0, 1) := by decide +kernel
theorem dX7_bringIn_13 : decode cX7_bringIn 13 = .ok (.istore_n 3, 1) := by decide +kernel
theorem dX7_bringIn_14 : decode cX7_bringIn 14 = .ok (.iload_n 3, 1) := by decide +kernel
theorem dX7_bringIn_15 : decode cX7_bringIn 15 = .ok (.bipush 64, 2) := by decide +kernel
theorem dX7_bringIn_17 : decode cX7_bringIn 17 = .ok (.if_icmp .ge 50, 3) := by decide +kernel
theorem dX7_bringIn_20 : decode cX7_bringIn 20 = .ok (.aload_n 0, 1) := by decide +kernel
theorem dX7_bringIn_21 : decode cX7_bringIn 21 = .ok (.getfield 53, 3) := by decide +kernel
theorem dX7_bringIn_24 : decode cX7_bringIn 24 = .ok (.bipush 64, 2) := by decide +kernel
theorem dX7_bringIn_26 : decode cX7_bringIn 26 = .ok (.iload_n 2, 1) := by decide +kernel
theorem dX7_bringIn_27 : decode cX7_bringIn 27 = .ok (.imul, 1) := by decide +kernel
theorem dX7_bringIn_28 : decode cX7_bringIn 28 = .ok (.iload_n 3, 1) := by decide +kernel
theorem dX7_bringIn_29 : decode cX7_bringIn 29 = .ok (.iadd, 1) := by decide +kernel
theorem dX7_bringIn_30 : decode cX7_bringIn 30 = .ok (.aload_n 0, 1) := by decide +kernel
theorem dX7_bringIn_31 : decode cX7_bringIn 31 = .ok (.getfield 25, 3) := by decide +kernel
theorem dX7_bringIn_34 : decode cX7_bringIn 34 = .ok (.iload_n 1, 1) := by decide +kernel
theorem dX7_bringIn_35 : decode cX7_bringIn 35 = .ok (.iaload, 1) := by decide +kernel
theorem dX7_bringIn_36 : decode cX7_bringIn 36 = .ok (.iconst (-1), 1) := by decide +kernel
theorem dX7_bringIn_37 : decode cX7_bringIn 37 = .ok (.if_icmp .ne 7, 3) := by decide +kernel
theorem dX7_bringIn_40 : decode cX7_bringIn 40 = .ok (.iconst 0, 1) := by decide +kernel
theorem dX7_bringIn_41 : decode cX7_bringIn 41 = .ok (.goto 19, 3) := by decide +kernel
theorem dX7_bringIn_44 : decode cX7_bringIn 44 = .ok (.aload_n 0, 1) := by decide +kernel
theorem dX7_bringIn_45 : decode cX7_bringIn 45 = .ok (.getfield 58, 3) := by decide +kernel
theorem dX7_bringIn_48 : decode cX7_bringIn 48 = .ok (.bipush 64, 2) := by decide +kernel
theorem dX7_bringIn_50 : decode cX7_bringIn 50 = .ok (.aload_n 0, 1) := by decide +kernel
theorem dX7_bringIn_51 : decode cX7_bringIn 51 = .ok (.getfield 25, 3) := by decide +kernel
theorem dX7_bringIn_54 : decode cX7_bringIn 54 = .ok (.iload_n 1, 1) := by decide +kernel
theorem dX7_bringIn_55 : decode cX7_bringIn 55 = .ok (.iaload, 1) := by decide +kernel
theorem dX7_bringIn_56 : decode cX7_bringIn 56 = .ok (.imul, 1) := by decide +kernel
theorem dX7_bringIn_57 : decode cX7_bringIn 57 = .ok (.iload_n 3, 1) := by decide +kernel
theorem dX7_bringIn_58 : decode cX7_bringIn 58 = .ok (.iadd, 1) := by decide +kernel
theorem dX7_bringIn_59 : decode cX7_bringIn 59 = .ok (.baload, 1) := by decide +kernel
theorem dX7_bringIn_60 : decode cX7_bringIn 60 = .ok (.bastore, 1) := by decide +kernel
theorem dX7_bringIn_61 : decode cX7_bringIn 61 = .ok (.iinc 3 1, 3) := by decide +kernel
theorem dX7_bringIn_64 : decode cX7_bringIn 64 = .ok (.goto (-50), 3) := by decide +kernel
theorem dX7_bringIn_67 : decode cX7_bringIn 67 = .ok (.aload_n 0, 1) := by decide +kernel
theorem dX7_bringIn_68 : decode cX7_bringIn 68 = .ok (.getfield 25, 3) := by decide +kernel
theorem dX7_bringIn_71 : decode cX7_bringIn 71 = .ok (.iload_n 1, 1) := by decide +kernel
theorem dX7_bringIn_72 : decode cX7_bringIn 72 = .ok (.iaload, 1) := by decide +kernel
theorem dX7_bringIn_73 : decode cX7_bringIn 73 = .ok (.iconst (-1), 1) := by decide +kernel
theorem dX7_bringIn_74 : decode cX7_bringIn 74 = .ok (.if_icmp .eq 14, 3) := by decide +kernel
theorem dX7_bringIn_77 : decode cX7_bringIn 77 = .ok (.aload_n 0, 1) := by decide +kernel
theorem dX7_bringIn_78 : decode cX7_bringIn 78 = .ok (.iconst 0, 1) := by decide +kernel
theorem dX7_bringIn_79 : decode cX7_bringIn 79 = .ok (.aload_n 0, 1) := by decide +kernel
theorem dX7_bringIn_80 : decode cX7_bringIn 80 = .ok (.getfield 25, 3) := by decide +kernel
theorem dX7_bringIn_83 : decode cX7_bringIn 83 = .ok (.iload_n 1, 1) := by decide +kernel
theorem dX7_bringIn_84 : decode cX7_bringIn 84 = .ok (.iaload, 1) := by decide +kernel
theorem dX7_bringIn_85 : decode cX7_bringIn 85 = .ok (.invokevirtual 140, 3) := by decide +kernel
theorem dX7_bringIn_88 : decode cX7_bringIn 88 = .ok (.aload_n 0, 1) := by decide +kernel
theorem dX7_bringIn_89 : decode cX7_bringIn 89 = .ok (.getfield 50, 3) := by decide +kernel
theorem dX7_bringIn_92 : decode cX7_bringIn 92 = .ok (.iload_n 2, 1) := by decide +kernel
theorem dX7_bringIn_93 : decode cX7_bringIn 93 = .ok (.iconst 1, 1) := by decide +kernel
theorem dX7_bringIn_94 : decode cX7_bringIn 94 = .ok (.bastore, 1) := by decide +kernel
theorem dX7_bringIn_95 : decode cX7_bringIn 95 = .ok (.aload_n 0, 1) := by decide +kernel
theorem dX7_bringIn_96 : decode cX7_bringIn 96 = .ok (.getfield 22, 3) := by decide +kernel
theorem dX7_bringIn_99 : decode cX7_bringIn 99 = .ok (.iload_n 1, 1) := by decide +kernel
theorem dX7_bringIn_100 : decode cX7_bringIn 100 = .ok (.iload_n 2, 1) := by decide +kernel
theorem dX7_bringIn_101 : decode cX7_bringIn 101 = .ok (.iastore, 1) := by decide +kernel
theorem dX7_bringIn_102 : decode cX7_bringIn 102 = .ok (.aload_n 0, 1) := by decide +kernel
theorem dX7_bringIn_103 : decode cX7_bringIn 103 = .ok (.getfield 31, 3) := by decide +kernel
theorem dX7_bringIn_106 : decode cX7_bringIn 106 = .ok (.iload_n 1, 1) := by decide +kernel
theorem dX7_bringIn_107 : decode cX7_bringIn 107 = .ok (.iaload, 1) := by decide +kernel
theorem dX7_bringIn_108 : decode cX7_bringIn 108 = .ok (.ifCond .le 25, 3) := by decide +kernel
theorem dX7_bringIn_111 : decode cX7_bringIn 111 = .ok (.aload_n 0, 1) := by decide +kernel
theorem dX7_bringIn_112 : decode cX7_bringIn 112 = .ok (.getfield 126, 3) := by decide +kernel
theorem dX7_bringIn_115 : decode cX7_bringIn 115 = .ok (.aload_n 0, 1) := by decide +kernel
theorem dX7_bringIn_116 : decode cX7_bringIn 116 = .ok (.getfield 31, 3) := by decide +kernel
theorem dX7_bringIn_119 : decode cX7_bringIn 119 = .ok (.iload_n 1, 1) := by decide +kernel
theorem dX7_bringIn_120 : decode cX7_bringIn 120 = .ok (.iaload, 1) := by decide +kernel
theorem dX7_bringIn_121 : decode cX7_bringIn 121 = .ok (.isub, 1) := by decide +kernel
theorem dX7_bringIn_122 : decode cX7_bringIn 122 = .ok (.aload_n 0, 1) := by decide +kernel
theorem dX7_bringIn_123 : decode cX7_bringIn 123 = .ok (.getfield 102, 3) := by decide +kernel
theorem dX7_bringIn_126 : decode cX7_bringIn 126 = .ok (.if_icmp .gt 7, 3) := by decide +kernel
theorem dX7_bringIn_129 : decode cX7_bringIn 129 = .ok (.iconst 1, 1) := by decide +kernel
theorem dX7_bringIn_130 : decode cX7_bringIn 130 = .ok (.goto 4, 3) := by decide +kernel
theorem dX7_bringIn_133 : decode cX7_bringIn 133 = .ok (.iconst 0, 1) := by decide +kernel
theorem dX7_bringIn_134 : decode cX7_bringIn 134 = .ok (.istore_n 3, 1) := by decide +kernel
theorem dX7_bringIn_135 : decode cX7_bringIn 135 = .ok (.aload_n 0, 1) := by decide +kernel
theorem dX7_bringIn_136 : decode cX7_bringIn 136 = .ok (.iload_n 1, 1) := by decide +kernel
theorem dX7_bringIn_137 : decode cX7_bringIn 137 = .ok (.invokevirtual 129, 3) := by decide +kernel
theorem dX7_bringIn_140 : decode cX7_bringIn 140 = .ok (.aload_n 0, 1) := by decide +kernel
theorem dX7_bringIn_141 : decode cX7_bringIn 141 = .ok (.iload_n 1, 1) := by decide +kernel
theorem dX7_bringIn_142 : decode cX7_bringIn 142 = .ok (.iload_n 3, 1) := by decide +kernel
theorem dX7_bringIn_143 : decode cX7_bringIn 143 = .ok (.invokevirtual 116, 3) := by decide +kernel
theorem dX7_bringIn_146 : decode cX7_bringIn 146 = .ok (.iconst 1, 1) := by decide +kernel
theorem dX7_bringIn_147 : decode cX7_bringIn 147 = .ok (.ireturn, 1) := by decide +kernel
theorem dX7_seenAgain_0 : decode cX7_seenAgain 0 = .ok (.aload_n 0, 1) := by decide +kernel
theorem dX7_seenAgain_1 : decode cX7_seenAgain 1 = .ok (.getfield 34, 3) := by decide +kernel
theorem dX7_seenAgain_4 : decode cX7_seenAgain 4 = .ok (.iload_n 1, 1) := by decide +kernel
theorem dX7_seenAgain_5 : decode cX7_seenAgain 5 = .ok (.baload, 1) := by decide +kernel
theorem dX7_seenAgain_6 : decode cX7_seenAgain 6 = .ok (.ifCond .ne 13, 3) := by decide +kernel
theorem dX7_seenAgain_9 : decode cX7_seenAgain 9 = .ok (.aload_n 0, 1) := by decide +kernel
theorem dX7_seenAgain_10 : decode cX7_seenAgain 10 = .ok (.getfield 34, 3) := by decide +kernel
theorem dX7_seenAgain_13 : decode cX7_seenAgain 13 = .ok (.iload_n 1, 1) := by decide +kernel
theorem dX7_seenAgain_14 : decode cX7_seenAgain 14 = .ok (.iconst 1, 1) := by decide +kernel
theorem dX7_seenAgain_15 : decode cX7_seenAgain 15 = .ok (.bastore, 1) := by decide +kernel
theorem dX7_seenAgain_16 : decode cX7_seenAgain 16 = .ok (.goto 25, 3) := by decide +kernel
theorem dX7_seenAgain_19 : decode cX7_seenAgain 19 = .ok (.aload_n 0, 1) := by decide +kernel
theorem dX7_seenAgain_20 : decode cX7_seenAgain 20 = .ok (.getfield 41, 3) := by decide +kernel
theorem dX7_seenAgain_23 : decode cX7_seenAgain 23 = .ok (.iload_n 1, 1) := by decide +kernel
theorem dX7_seenAgain_24 : decode cX7_seenAgain 24 = .ok (.baload, 1) := by decide +kernel
theorem dX7_seenAgain_25 : decode cX7_seenAgain 25 = .ok (.ifCond .ne 16, 3) := by decide +kernel
theorem dX7_seenAgain_28 : decode cX7_seenAgain 28 = .ok (.aload_n 0, 1) := by decide +kernel
theorem dX7_seenAgain_29 : decode cX7_seenAgain 29 = .ok (.getfield 34, 3) := by decide +kernel
theorem dX7_seenAgain_32 : decode cX7_seenAgain 32 = .ok (.iload_n 1, 1) := by decide +kernel
theorem dX7_seenAgain_33 : decode cX7_seenAgain 33 = .ok (.iconst 0, 1) := by decide +kernel
theorem dX7_seenAgain_34 : decode cX7_seenAgain 34 = .ok (.bastore, 1) := by decide +kernel
theorem dX7_seenAgain_35 : decode cX7_seenAgain 35 = .ok (.aload_n 0, 1) := by decide +kernel
theorem dX7_seenAgain_36 : decode cX7_seenAgain 36 = .ok (.iload_n 1, 1) := by decide +kernel
theorem dX7_seenAgain_37 : decode cX7_seenAgain 37 = .ok (.iconst 1, 1) := by decide +kernel
theorem dX7_seenAgain_38 : decode cX7_seenAgain 38 = .ok (.invokevirtual 143, 3) := by decide +kernel
theorem dX7_seenAgain_41 : decode cX7_seenAgain 41 = .ok (.return_, 1) := by decide +kernel
theorem dX7_touch_0 : decode cX7_touch 0 = .ok (.aload_n 0, 1) := by decide +kernel
theorem dX7_touch_1 : decode cX7_touch 1 = .ok (.iload_n 1, 1) := by decide +kernel
theorem dX7_touch_2 : decode cX7_touch 2 = .ok (.invokevirtual 159, 3) := by decide +kernel
theorem dX7_touch_5 : decode cX7_touch 5 = .ok (.ifCond .eq 10, 3) := by decide +kernel
theorem dX7_touch_8 : decode cX7_touch 8 = .ok (.aload_n 0, 1) := by decide +kernel
theorem dX7_touch_9 : decode cX7_touch 9 = .ok (.iload_n 1, 1) := by decide +kernel
theorem dX7_touch_10 : decode cX7_touch 10 = .ok (.invokevirtual 162, 3) := by decide +kernel
theorem dX7_touch_13 : decode cX7_touch 13 = .ok (.iconst 1, 1) := by decide +kernel
theorem dX7_touch_14 : decode cX7_touch 14 = .ok (.ireturn, 1) := by decide +kernel
theorem dX7_touch_15 : decode cX7_touch 15 = .ok (.aload_n 0, 1) := by decide +kernel
theorem dX7_touch_16 : decode cX7_touch 16 = .ok (.iload_n 1, 1) := by decide +kernel
theorem dX7_touch_17 : decode cX7_touch 17 = .ok (.invokevirtual 165, 3) := by decide +kernel
theorem dX7_touch_20 : decode cX7_touch 20 = .ok (.ireturn, 1) := by decide +kernel
theorem dX7_ahead_0 : decode cX7_ahead 0 = .ok (.aload_n 0, 1) := by decide +kernel
theorem dX7_ahead_1 : decode cX7_ahead 1 = .ok (.getfield 13, 3) := by decide +kernel
theorem dX7_ahead_4 : decode cX7_ahead 4 = .ok (.iload_n 1, 1) := by decide +kernel
theorem dX7_ahead_5 : decode cX7_ahead 5 = .ok (.iload_n 2, 1) := by decide +kernel
theorem dX7_ahead_6 : decode cX7_ahead 6 = .ok (.aload_n 0, 1) := by decide +kernel
theorem dX7_ahead_7 : decode cX7_ahead 7 = .ok (.getfield 16, 3) := by decide +kernel
theorem dX7_ahead_10 : decode cX7_ahead 10 = .ok (.iload_n 1, 1) := by decide +kernel
theorem dX7_ahead_11 : decode cX7_ahead 11 = .ok (.iaload, 1) := by decide +kernel
theorem dX7_ahead_12 : decode cX7_ahead 12 = .ok (.if_icmp .eq 7, 3) := by decide +kernel
theorem dX7_ahead_15 : decode cX7_ahead 15 = .ok (.iconst 1, 1) := by decide +kernel
theorem dX7_ahead_16 : decode cX7_ahead 16 = .ok (.goto 26, 3) := by decide +kernel
theorem dX7_ahead_19 : decode cX7_ahead 19 = .ok (.aload_n 0, 1) := by decide +kernel
theorem dX7_ahead_20 : decode cX7_ahead 20 = .ok (.getfield 13, 3) := by decide +kernel
theorem dX7_ahead_23 : decode cX7_ahead 23 = .ok (.iload_n 1, 1) := by decide +kernel
theorem dX7_ahead_24 : decode cX7_ahead 24 = .ok (.iaload, 1) := by decide +kernel
theorem dX7_ahead_25 : decode cX7_ahead 25 = .ok (.iconst 4, 1) := by decide +kernel
theorem dX7_ahead_26 : decode cX7_ahead 26 = .ok (.if_icmp .ge 14, 3) := by decide +kernel
theorem dX7_ahead_29 : decode cX7_ahead 29 = .ok (.iconst 2, 1) := by decide +kernel
theorem dX7_ahead_30 : decode cX7_ahead 30 = .ok (.aload_n 0, 1) := by decide +kernel
theorem dX7_ahead_31 : decode cX7_ahead 31 = .ok (.getfield 13, 3) := by decide +kernel
theorem dX7_ahead_34 : decode cX7_ahead 34 = .ok (.iload_n 1, 1) := by decide +kernel
theorem dX7_ahead_35 : decode cX7_ahead 35 = .ok (.iaload, 1) := by decide +kernel
theorem dX7_ahead_36 : decode cX7_ahead 36 = .ok (.imul, 1) := by decide +kernel
theorem dX7_ahead_37 : decode cX7_ahead 37 = .ok (.goto 5, 3) := by decide +kernel
theorem dX7_ahead_40 : decode cX7_ahead 40 = .ok (.bipush 8, 2) := by decide +kernel
theorem dX7_ahead_42 : decode cX7_ahead 42 = .ok (.iastore, 1) := by decide +kernel
theorem dX7_ahead_43 : decode cX7_ahead 43 = .ok (.aload_n 0, 1) := by decide +kernel
theorem dX7_ahead_44 : decode cX7_ahead 44 = .ok (.getfield 16, 3) := by decide +kernel
theorem dX7_ahead_47 : decode cX7_ahead 47 = .ok (.iload_n 1, 1) := by decide +kernel
theorem dX7_ahead_48 : decode cX7_ahead 48 = .ok (.iload_n 2, 1) := by decide +kernel
theorem dX7_ahead_49 : decode cX7_ahead 49 = .ok (.iconst 1, 1) := by decide +kernel
theorem dX7_ahead_50 : decode cX7_ahead 50 = .ok (.iadd, 1) := by decide +kernel
theorem dX7_ahead_51 : decode cX7_ahead 51 = .ok (.iastore, 1) := by decide +kernel
theorem dX7_ahead_52 : decode cX7_ahead 52 = .ok (.iload_n 2, 1) := by decide +kernel
theorem dX7_ahead_53 : decode cX7_ahead 53 = .ok (.iconst 1, 1) := by decide +kernel
theorem dX7_ahead_54 : decode cX7_ahead 54 = .ok (.iadd, 1) := by decide +kernel
theorem dX7_ahead_55 : decode cX7_ahead 55 = .ok (.istore_n 3, 1) := by decide +kernel
theorem dX7_ahead_56 : decode cX7_ahead 56 = .ok (.iload_n 3, 1) := by decide +kernel
theorem dX7_ahead_57 : decode cX7_ahead 57 = .ok (.iload_n 2, 1) := by decide +kernel
theorem dX7_ahead_58 : decode cX7_ahead 58 = .ok (.aload_n 0, 1) := by decide +kernel
theorem dX7_ahead_59 : decode cX7_ahead 59 = .ok (.getfield 13, 3) := by decide +kernel
theorem dX7_ahead_62 : decode cX7_ahead 62 = .ok (.iload_n 1, 1) := by decide +kernel
theorem dX7_ahead_63 : decode cX7_ahead 63 = .ok (.iaload, 1) := by decide +kernel
theorem dX7_ahead_64 : decode cX7_ahead 64 = .ok (.iadd, 1) := by decide +kernel
theorem dX7_ahead_65 : decode cX7_ahead 65 = .ok (.if_icmp .ge 59, 3) := by decide +kernel
theorem dX7_ahead_68 : decode cX7_ahead 68 = .ok (.bipush 64, 2) := by decide +kernel
theorem dX7_ahead_70 : decode cX7_ahead 70 = .ok (.iload_n 3, 1) := by decide +kernel
theorem dX7_ahead_71 : decode cX7_ahead 71 = .ok (.imul, 1) := by decide +kernel
theorem dX7_ahead_72 : decode cX7_ahead 72 = .ok (.aload_n 0, 1) := by decide +kernel
theorem dX7_ahead_73 : decode cX7_ahead 73 = .ok (.getfield 7, 3) := by decide +kernel
theorem dX7_ahead_76 : decode cX7_ahead 76 = .ok (.iload_n 1, 1) := by decide +kernel
theorem dX7_ahead_77 : decode cX7_ahead 77 = .ok (.iaload, 1) := by decide +kernel
theorem dX7_ahead_78 : decode cX7_ahead 78 = .ok (.if_icmp .ge 46, 3) := by decide +kernel
theorem dX7_ahead_81 : decode cX7_ahead 81 = .ok (.sipush 256, 3) := by decide +kernel
theorem dX7_ahead_84 : decode cX7_ahead 84 = .ok (.iload_n 1, 1) := by decide +kernel
theorem dX7_ahead_85 : decode cX7_ahead 85 = .ok (.imul, 1) := by decide +kernel
theorem dX7_ahead_86 : decode cX7_ahead 86 = .ok (.iload_n 3, 1) := by decide +kernel
theorem dX7_ahead_87 : decode cX7_ahead 87 = .ok (.iadd, 1) := by decide +kernel
theorem dX7_ahead_88 : decode cX7_ahead 88 = .ok (.istore 4, 2) := by decide +kernel
theorem dX7_ahead_90 : decode cX7_ahead 90 = .ok (.aload_n 0, 1) := by decide +kernel
theorem dX7_ahead_91 : decode cX7_ahead 91 = .ok (.iload 4, 2) := by decide +kernel
theorem dX7_ahead_93 : decode cX7_ahead 93 = .ok (.invokevirtual 159, 3) := by decide +kernel
theorem dX7_ahead_96 : decode cX7_ahead 96 = .ok (.ifCond .ne 13, 3) := by decide +kernel
theorem dX7_ahead_99 : decode cX7_ahead 99 = .ok (.aload_n 0, 1) := by decide +kernel
theorem dX7_ahead_100 : decode cX7_ahead 100 = .ok (.iload 4, 2) := by decide +kernel
theorem dX7_ahead_102 : decode cX7_ahead 102 = .ok (.invokevirtual 165, 3) := by decide +kernel
theorem dX7_ahead_105 : decode cX7_ahead 105 = .ok (.ifCond .ne 4, 3) := by decide +kernel
theorem dX7_ahead_108 : decode cX7_ahead 108 = .ok (.return_, 1) := by decide +kernel
theorem dX7_ahead_109 : decode cX7_ahead 109 = .ok (.aload_n 0, 1) := by decide +kernel
theorem dX7_ahead_110 : decode cX7_ahead 110 = .ok (.getfield 16, 3) := by decide +kernel
theorem dX7_ahead_113 : decode cX7_ahead 113 = .ok (.iload_n 1, 1) := by decide +kernel
theorem dX7_ahead_114 : decode cX7_ahead 114 = .ok (.iload_n 3, 1) := by decide +kernel
theorem dX7_ahead_115 : decode cX7_ahead 115 = .ok (.iconst 1, 1) := by decide +kernel
theorem dX7_ahead_116 : decode cX7_ahead 116 = .ok (.iadd, 1) := by decide +kernel
theorem dX7_ahead_117 : decode cX7_ahead 117 = .ok (.iastore, 1) := by decide +kernel
theorem dX7_ahead_118 : decode cX7_ahead 118 = .ok (.iinc 3 1, 3) := by decide +kernel
theorem dX7_ahead_121 : decode cX7_ahead 121 = .ok (.goto (-65), 3) := by decide +kernel
theorem dX7_ahead_124 : decode cX7_ahead 124 = .ok (.return_, 1) := by decide +kernel
theorem dX7_read_0 : decode cX7_read 0 = .ok (.iload_n 1, 1) := by decide +kernel
theorem dX7_read_1 : decode cX7_read 1 = .ok (.invokestatic 168, 3) := by decide +kernel
theorem dX7_read_4 : decode cX7_read 4 = .ok (.ifCond .eq 19, 3) := by decide +kernel
theorem dX7_read_7 : decode cX7_read 7 = .ok (.iload_n 2, 1) := by decide +kernel
theorem dX7_read_8 : decode cX7_read 8 = .ok (.ifCond .lt 15, 3) := by decide +kernel
theorem dX7_read_11 : decode cX7_read 11 = .ok (.iload_n 3, 1) := by decide +kernel
theorem dX7_read_12 : decode cX7_read 12 = .ok (.iconst 1, 1) := by decide +kernel
theorem dX7_read_13 : decode cX7_read 13 = .ok (.if_icmp .lt 10, 3) := by decide +kernel
theorem dX7_read_16 : decode cX7_read 16 = .ok (.iload_n 3, 1) := by decide +kernel
theorem dX7_read_17 : decode cX7_read 17 = .ok (.sipush 1024, 3) := by decide +kernel
theorem dX7_read_20 : decode cX7_read 20 = .ok (.if_icmp .le 6, 3) := by decide +kernel
theorem dX7_read_23 : decode cX7_read 23 = .ok (.bipush (-2), 2) := by decide +kernel
theorem dX7_read_25 : decode cX7_read 25 = .ok (.ireturn, 1) := by decide +kernel
theorem dX7_read_26 : decode cX7_read 26 = .ok (.aload_n 0, 1) := by decide +kernel
theorem dX7_read_27 : decode cX7_read 27 = .ok (.iconst 0, 1) := by decide +kernel
theorem dX7_read_28 : decode cX7_read 28 = .ok (.putfield 89, 3) := by decide +kernel
theorem dX7_read_31 : decode cX7_read 31 = .ok (.aload_n 0, 1) := by decide +kernel
theorem dX7_read_32 : decode cX7_read 32 = .ok (.getfield 7, 3) := by decide +kernel
theorem dX7_read_35 : decode cX7_read 35 = .ok (.iload_n 1, 1) := by decide +kernel
theorem dX7_read_36 : decode cX7_read 36 = .ok (.iaload, 1) := by decide +kernel
theorem dX7_read_37 : decode cX7_read 37 = .ok (.iload_n 2, 1) := by decide +kernel
theorem dX7_read_38 : decode cX7_read 38 = .ok (.isub, 1) := by decide +kernel
theorem dX7_read_39 : decode cX7_read 39 = .ok (.iload_n 3, 1) := by decide +kernel
theorem dX7_read_40 : decode cX7_read 40 = .ok (.if_icmp .ge 12, 3) := by decide +kernel
theorem dX7_read_43 : decode cX7_read 43 = .ok (.aload_n 0, 1) := by decide +kernel
theorem dX7_read_44 : decode cX7_read 44 = .ok (.getfield 7, 3) := by decide +kernel
theorem dX7_read_47 : decode cX7_read 47 = .ok (.iload_n 1, 1) := by decide +kernel
theorem dX7_read_48 : decode cX7_read 48 = .ok (.iaload, 1) := by decide +kernel
theorem dX7_read_49 : decode cX7_read 49 = .ok (.goto 6, 3) := by decide +kernel
theorem dX7_read_52 : decode cX7_read 52 = .ok (.iload_n 2, 1) := by decide +kernel
theorem dX7_read_53 : decode cX7_read 53 = .ok (.iload_n 3, 1) := by decide +kernel
theorem dX7_read_54 : decode cX7_read 54 = .ok (.iadd, 1) := by decide +kernel
theorem dX7_read_55 : decode cX7_read 55 = .ok (.istore 4, 2) := by decide +kernel
theorem dX7_read_57 : decode cX7_read 57 = .ok (.iconst 0, 1) := by decide +kernel
theorem dX7_read_58 : decode cX7_read 58 = .ok (.istore 5, 2) := by decide +kernel
theorem dX7_read_60 : decode cX7_read 60 = .ok (.iload_n 2, 1) := by decide +kernel
theorem dX7_read_61 : decode cX7_read 61 = .ok (.istore 6, 2) := by decide +kernel
theorem dX7_read_63 : decode cX7_read 63 = .ok (.iload 6, 2) := by decide +kernel
theorem dX7_read_65 : decode cX7_read 65 = .ok (.iload 4, 2) := by decide +kernel
theorem dX7_read_67 : decode cX7_read 67 = .ok (.if_icmp .ge 132, 3) := by decide +kernel
theorem dX7_read_70 : decode cX7_read 70 = .ok (.sipush 256, 3) := by decide +kernel
theorem dX7_read_73 : decode cX7_read 73 = .ok (.iload_n 1, 1) := by decide +kernel
theorem dX7_read_74 : decode cX7_read 74 = .ok (.imul, 1) := by decide +kernel
theorem dX7_read_75 : decode cX7_read 75 = .ok (.iload 6, 2) := by decide +kernel
theorem dX7_read_77 : decode cX7_read 77 = .ok (.bipush 64, 2) := by decide +kernel
theorem dX7_read_79 : decode cX7_read 79 = .ok (.idiv, 1) := by decide +kernel
theorem dX7_read_80 : decode cX7_read 80 = .ok (.iadd, 1) := by decide +kernel
theorem dX7_read_81 : decode cX7_read 81 = .ok (.istore 7, 2) := by decide +kernel
theorem dX7_read_83 : decode cX7_read 83 = .ok (.aload_n 0, 1) := by decide +kernel
theorem dX7_read_84 : decode cX7_read 84 = .ok (.iload 7, 2) := by decide +kernel
theorem dX7_read_86 : decode cX7_read 86 = .ok (.invokevirtual 159, 3) := by decide +kernel
theorem dX7_read_89 : decode cX7_read 89 = .ok (.istore 8, 2) := by decide +kernel
theorem dX7_read_91 : decode cX7_read 91 = .ok (.aload_n 0, 1) := by decide +kernel
theorem dX7_read_92 : decode cX7_read 92 = .ok (.iload 7, 2) := by decide +kernel
theorem dX7_read_94 : decode cX7_read 94 = .ok (.invokevirtual 171, 3) := by decide +kernel
theorem dX7_read_97 : decode cX7_read 97 = .ok (.ifCond .ne 20, 3) := by decide +kernel
theorem dX7_read_100 : decode cX7_read 100 = .ok (.iload 5, 2) := by decide +kernel
theorem dX7_read_102 : decode cX7_read 102 = .ok (.ifCond .ne 6, 3) := by decide +kernel
theorem dX7_read_105 : decode cX7_read 105 = .ok (.bipush (-3), 2) := by decide +kernel
theorem dX7_read_107 : decode cX7_read 107 = .ok (.ireturn, 1) := by decide +kernel
theorem dX7_read_108 : decode cX7_read 108 = .ok (.aload_n 0, 1) := by decide +kernel
theorem dX7_read_109 : decode cX7_read 109 = .ok (.iload 5, 2) := by decide +kernel
theorem dX7_read_111 : decode cX7_read 111 = .ok (.putfield 174, 3) := by decide +kernel
theorem dX7_read_114 : decode cX7_read 114 = .ok (.iload 5, 2) := by decide +kernel
theorem dX7_read_116 : decode cX7_read 116 = .ok (.ireturn, 1) := by decide +kernel
theorem dX7_read_117 : decode cX7_read 117 = .ok (.bipush 64, 2) := by decide +kernel
theorem dX7_read_119 : decode cX7_read 119 = .ok (.iload 6, 2) := by decide +kernel
theorem dX7_read_121 : decode cX7_read 121 = .ok (.bipush 64, 2) := by decide +kernel
theorem dX7_read_123 : decode cX7_read 123 = .ok (.idiv, 1) := by decide +kernel
theorem dX7_read_124 : decode cX7_read 124 = .ok (.iconst 1, 1) := by decide +kernel
theorem dX7_read_125 : decode cX7_read 125 = .ok (.iadd, 1) := by decide +kernel
theorem dX7_read_126 : decode cX7_read 126 = .ok (.imul, 1) := by decide +kernel
theorem dX7_read_127 : decode cX7_read 127 = .ok (.istore 9, 2) := by decide +kernel
theorem dX7_read_129 : decode cX7_read 129 = .ok (.iload 6, 2) := by decide +kernel
theorem dX7_read_131 : decode cX7_read 131 = .ok (.iload 4, 2) := by decide +kernel
theorem dX7_read_133 : decode cX7_read 133 = .ok (.if_icmp .ge 47, 3) := by decide +kernel
theorem dX7_read_136 : decode cX7_read 136 = .ok (.iload 6, 2) := by decide +kernel
theorem dX7_read_138 : decode cX7_read 138 = .ok (.iload 9, 2) := by decide +kernel
theorem dX7_read_140 : decode cX7_read 140 = .ok (.if_icmp .ge 40, 3) := by decide +kernel
theorem dX7_read_143 : decode cX7_read 143 = .ok (.aload_n 0, 1) := by decide +kernel
theorem dX7_read_144 : decode cX7_read 144 = .ok (.getfield 67, 3) := by decide +kernel
theorem dX7_read_147 : decode cX7_read 147 = .ok (.iload 5, 2) := by decide +kernel
theorem dX7_read_149 : decode cX7_read 149 = .ok (.aload_n 0, 1) := by decide +kernel
theorem dX7_read_150 : decode cX7_read 150 = .ok (.getfield 53, 3) := by decide +kernel
theorem dX7_read_153 : decode cX7_read 153 = .ok (.bipush 64, 2) := by decide +kernel
theorem dX7_read_155 : decode cX7_read 155 = .ok (.aload_n 0, 1) := by decide +kernel
theorem dX7_read_156 : decode cX7_read 156 = .ok (.getfield 22, 3) := by decide +kernel
theorem dX7_read_159 : decode cX7_read 159 = .ok (.iload 7, 2) := by decide +kernel
theorem dX7_read_161 : decode cX7_read 161 = .ok (.iaload, 1) := by decide +kernel
theorem dX7_read_162 : decode cX7_read 162 = .ok (.imul, 1) := by decide +kernel
theorem dX7_read_163 : decode cX7_read 163 = .ok (.iload 6, 2) := by decide +kernel
theorem dX7_read_165 : decode cX7_read 165 = .ok (.bipush 64, 2) := by decide +kernel
theorem dX7_read_167 : decode cX7_read 167 = .ok (.irem, 1) := by decide +kernel
theorem dX7_read_168 : decode cX7_read 168 = .ok (.iadd, 1) := by decide +kernel
theorem dX7_read_169 : decode cX7_read 169 = .ok (.baload, 1) := by decide +kernel
theorem dX7_read_170 : decode cX7_read 170 = .ok (.bastore, 1) := by decide +kernel
theorem dX7_read_171 : decode cX7_read 171 = .ok (.iinc 5 1, 3) := by decide +kernel
theorem dX7_read_174 : decode cX7_read 174 = .ok (.iinc 6 1, 3) := by decide +kernel
theorem dX7_read_177 : decode cX7_read 177 = .ok (.goto (-48), 3) := by decide +kernel
theorem dX7_read_180 : decode cX7_read 180 = .ok (.iload 8, 2) := by decide +kernel
theorem dX7_read_182 : decode cX7_read 182 = .ok (.ifCond .ne 14, 3) := by decide +kernel
theorem dX7_read_185 : decode cX7_read 185 = .ok (.aload_n 0, 1) := by decide +kernel
theorem dX7_read_186 : decode cX7_read 186 = .ok (.iload_n 1, 1) := by decide +kernel
theorem dX7_read_187 : decode cX7_read 187 = .ok (.iload 7, 2) := by decide +kernel
theorem dX7_read_189 : decode cX7_read 189 = .ok (.sipush 256, 3) := by decide +kernel
theorem dX7_read_192 : decode cX7_read 192 = .ok (.irem, 1) := by decide +kernel
theorem dX7_read_193 : decode cX7_read 193 = .ok (.invokevirtual 177, 3) := by decide +kernel
theorem dX7_read_196 : decode cX7_read 196 = .ok (.goto (-133), 3) := by decide +kernel
theorem dX7_read_199 : decode cX7_read 199 = .ok (.aload_n 0, 1) := by decide +kernel
theorem dX7_read_200 : decode cX7_read 200 = .ok (.iload 5, 2) := by decide +kernel
theorem dX7_read_202 : decode cX7_read 202 = .ok (.putfield 174, 3) := by decide +kernel
theorem dX7_read_205 : decode cX7_read 205 = .ok (.iload 5, 2) := by decide +kernel
theorem dX7_read_207 : decode cX7_read 207 = .ok (.ireturn, 1) := by decide +kernel
theorem dX7_hand_0 : decode cX7_hand 0 = .ok (.iload_n 1, 1) := by decide +kernel
theorem dX7_hand_1 : decode cX7_hand 1 = .ok (.ifCond .lt 24, 3) := by decide +kernel
theorem dX7_hand_4 : decode cX7_hand 4 = .ok (.iload_n 1, 1) := by decide +kernel
theorem dX7_hand_5 : decode cX7_hand 5 = .ok (.aload_n 0, 1) := by decide +kernel
theorem dX7_hand_6 : decode cX7_hand 6 = .ok (.getfield 174, 3) := by decide +kernel
theorem dX7_hand_9 : decode cX7_hand 9 = .ok (.if_icmp .ge 16, 3) := by decide +kernel
theorem dX7_hand_12 : decode cX7_hand 12 = .ok (.aload_n 0, 1) := by decide +kernel
theorem dX7_hand_13 : decode cX7_hand 13 = .ok (.getfield 67, 3) := by decide +kernel
theorem dX7_hand_16 : decode cX7_hand 16 = .ok (.iload_n 1, 1) := by decide +kernel
theorem dX7_hand_17 : decode cX7_hand 17 = .ok (.baload, 1) := by decide +kernel
theorem dX7_hand_18 : decode cX7_hand 18 = .ok (.sipush 255, 3) := by decide +kernel
theorem dX7_hand_21 : decode cX7_hand 21 = .ok (.iand, 1) := by decide +kernel
theorem dX7_hand_22 : decode cX7_hand 22 = .ok (.goto 4, 3) := by decide +kernel
theorem dX7_hand_25 : decode cX7_hand 25 = .ok (.iconst (-1), 1) := by decide +kernel
theorem dX7_hand_26 : decode cX7_hand 26 = .ok (.ireturn, 1) := by decide +kernel
theorem dX7_dirties_0 : decode cX7_dirties 0 = .ok (.iconst 0, 1) := by decide +kernel
theorem dX7_dirties_1 : decode cX7_dirties 1 = .ok (.istore_n 1, 1) := by decide +kernel
theorem dX7_dirties_2 : decode cX7_dirties 2 = .ok (.iconst 0, 1) := by decide +kernel
theorem dX7_dirties_3 : decode cX7_dirties 3 = .ok (.istore_n 2, 1) := by decide +kernel
theorem dX7_dirties_4 : decode cX7_dirties 4 = .ok (.iload_n 2, 1) := by decide +kernel
theorem dX7_dirties_5 : decode cX7_dirties 5 = .ok (.sipush 3072, 3) := by decide +kernel
theorem dX7_dirties_8 : decode cX7_dirties 8 = .ok (.if_icmp .ge 25, 3) := by decide +kernel
theorem dX7_dirties_11 : decode cX7_dirties 11 = .ok (.iload_n 1, 1) := by decide +kernel
theorem dX7_dirties_12 : decode cX7_dirties 12 = .ok (.aload_n 0, 1) := by decide +kernel
theorem dX7_dirties_13 : decode cX7_dirties 13 = .ok (.iload_n 2, 1) := by decide +kernel
theorem dX7_dirties_14 : decode cX7_dirties 14 = .ok (.invokevirtual 146, 3) := by decide +kernel
theorem dX7_dirties_17 : decode cX7_dirties 17 = .ok (.ifCond .eq 7, 3) := by decide +kernel
theorem dX7_dirties_20 : decode cX7_dirties 20 = .ok (.iconst 1, 1) := by decide +kernel
theorem dX7_dirties_21 : decode cX7_dirties 21 = .ok (.goto 4, 3) := by decide +kernel
theorem dX7_dirties_24 : decode cX7_dirties 24 = .ok (.iconst 0, 1) := by decide +kernel
theorem dX7_dirties_25 : decode cX7_dirties 25 = .ok (.iadd, 1) := by decide +kernel
theorem dX7_dirties_26 : decode cX7_dirties 26 = .ok (.istore_n 1, 1) := by decide +kernel
theorem dX7_dirties_27 : decode cX7_dirties 27 = .ok (.iinc 2 1, 3) := by decide +kernel
theorem dX7_dirties_30 : decode cX7_dirties 30 = .ok (.goto (-26), 3) := by decide +kernel
theorem dX7_dirties_33 : decode cX7_dirties 33 = .ok (.iload_n 1, 1) := by decide +kernel
theorem dX7_dirties_34 : decode cX7_dirties 34 = .ok (.ireturn, 1) := by decide +kernel
theorem dX7_oldest_0 : decode cX7_oldest 0 = .ok (.iconst (-1), 1) := by decide +kernel
theorem dX7_oldest_1 : decode cX7_oldest 1 = .ok (.istore_n 2, 1) := by decide +kernel
theorem dX7_oldest_2 : decode cX7_oldest 2 = .ok (.iconst 0, 1) := by decide +kernel
theorem dX7_oldest_3 : decode cX7_oldest 3 = .ok (.istore_n 3, 1) := by decide +kernel
theorem dX7_oldest_4 : decode cX7_oldest 4 = .ok (.iload_n 3, 1) := by decide +kernel
theorem dX7_oldest_5 : decode cX7_oldest 5 = .ok (.sipush 3072, 3) := by decide +kernel
theorem dX7_oldest_8 : decode cX7_oldest 8 = .ok (.if_icmp .ge 58, 3) := by decide +kernel
theorem dX7_oldest_11 : decode cX7_oldest 11 = .ok (.aload_n 0, 1) := by decide +kernel
theorem dX7_oldest_12 : decode cX7_oldest 12 = .ok (.iload_n 3, 1) := by decide +kernel
theorem dX7_oldest_13 : decode cX7_oldest 13 = .ok (.invokevirtual 146, 3) := by decide +kernel
theorem dX7_oldest_16 : decode cX7_oldest 16 = .ok (.ifCond .eq 44, 3) := by decide +kernel
theorem dX7_oldest_19 : decode cX7_oldest 19 = .ok (.aload_n 0, 1) := by decide +kernel
theorem dX7_oldest_20 : decode cX7_oldest 20 = .ok (.getfield 79, 3) := by decide +kernel
theorem dX7_oldest_23 : decode cX7_oldest 23 = .ok (.iload_n 3, 1) := by decide +kernel
theorem dX7_oldest_24 : decode cX7_oldest 24 = .ok (.baload, 1) := by decide +kernel
theorem dX7_oldest_25 : decode cX7_oldest 25 = .ok (.ifCond .ne 35, 3) := by decide +kernel
theorem dX7_oldest_28 : decode cX7_oldest 28 = .ok (.aload_n 0, 1) := by decide +kernel
theorem dX7_oldest_29 : decode cX7_oldest 29 = .ok (.getfield 28, 3) := by decide +kernel
theorem dX7_oldest_32 : decode cX7_oldest 32 = .ok (.iload_n 3, 1) := by decide +kernel
theorem dX7_oldest_33 : decode cX7_oldest 33 = .ok (.iaload, 1) := by decide +kernel
theorem dX7_oldest_34 : decode cX7_oldest 34 = .ok (.iload_n 1, 1) := by decide +kernel
theorem dX7_oldest_35 : decode cX7_oldest 35 = .ok (.if_icmp .gt 25, 3) := by decide +kernel
theorem dX7_oldest_38 : decode cX7_oldest 38 = .ok (.iload_n 2, 1) := by decide +kernel
theorem dX7_oldest_39 : decode cX7_oldest 39 = .ok (.iconst (-1), 1) := by decide +kernel
theorem dX7_oldest_40 : decode cX7_oldest 40 = .ok (.if_icmp .eq 18, 3) := by decide +kernel
theorem dX7_oldest_43 : decode cX7_oldest 43 = .ok (.aload_n 0, 1) := by decide +kernel
theorem dX7_oldest_44 : decode cX7_oldest 44 = .ok (.getfield 28, 3) := by decide +kernel
theorem dX7_oldest_47 : decode cX7_oldest 47 = .ok (.iload_n 3, 1) := by decide +kernel
theorem dX7_oldest_48 : decode cX7_oldest 48 = .ok (.iaload, 1) := by decide +kernel
theorem dX7_oldest_49 : decode cX7_oldest 49 = .ok (.aload_n 0, 1) := by decide +kernel
theorem dX7_oldest_50 : decode cX7_oldest 50 = .ok (.getfield 28, 3) := by decide +kernel
theorem dX7_oldest_53 : decode cX7_oldest 53 = .ok (.iload_n 2, 1) := by decide +kernel
theorem dX7_oldest_54 : decode cX7_oldest 54 = .ok (.iaload, 1) := by decide +kernel
theorem dX7_oldest_55 : decode cX7_oldest 55 = .ok (.if_icmp .ge 5, 3) := by decide +kernel
theorem dX7_oldest_58 : decode cX7_oldest 58 = .ok (.iload_n 3, 1) := by decide +kernel
theorem dX7_oldest_59 : decode cX7_oldest 59 = .ok (.istore_n 2, 1) := by decide +kernel
theorem dX7_oldest_60 : decode cX7_oldest 60 = .ok (.iinc 3 1, 3) := by decide +kernel
theorem dX7_oldest_63 : decode cX7_oldest 63 = .ok (.goto (-59), 3) := by decide +kernel
theorem dX7_oldest_66 : decode cX7_oldest 66 = .ok (.iload_n 2, 1) := by decide +kernel
theorem dX7_oldest_67 : decode cX7_oldest 67 = .ok (.ireturn, 1) := by decide +kernel
theorem dX7_noneTried_0 : decode cX7_noneTried 0 = .ok (.iconst 0, 1) := by decide +kernel
theorem dX7_noneTried_1 : decode cX7_noneTried 1 = .ok (.istore_n 1, 1) := by decide +kernel
theorem dX7_noneTried_2 : decode cX7_noneTried 2 = .ok (.iload_n 1, 1) := by decide +kernel
theorem dX7_noneTried_3 : decode cX7_noneTried 3 = .ok (.sipush 3072, 3) := by decide +kernel
theorem dX7_noneTried_6 : decode cX7_noneTried 6 = .ok (.if_icmp .ge 16, 3) := by decide +kernel
theorem dX7_noneTried_9 : decode cX7_noneTried 9 = .ok (.aload_n 0, 1) := by decide +kernel
theorem dX7_noneTried_10 : decode cX7_noneTried 10 = .ok (.getfield 79, 3) := by decide +kernel
theorem dX7_noneTried_13 : decode cX7_noneTried 13 = .ok (.iload_n 1, 1) := by decide +kernel
theorem dX7_noneTried_14 : decode cX7_noneTried 14 = .ok (.iconst 0, 1) := by decide +kernel
theorem dX7_noneTried_15 : decode cX7_noneTried 15 = .ok (.bastore, 1) := by decide +kernel
theorem dX7_noneTried_16 : decode cX7_noneTried 16 = .ok (.iinc 1 1, 3) := by decide +kernel
theorem dX7_noneTried_19 : decode cX7_noneTried 19 = .ok (.goto (-17), 3) := by decide +kernel
theorem dX7_noneTried_22 : decode cX7_noneTried 22 = .ok (.return_, 1) := by decide +kernel
theorem dX7_lessDirty_0 : decode cX7_lessDirty 0 = .ok (.aload_n 0, 1) := by decide +kernel
theorem dX7_lessDirty_1 : decode cX7_lessDirty 1 = .ok (.invokevirtual 180, 3) := by decide +kernel
theorem dX7_lessDirty_4 : decode cX7_lessDirty 4 = .ok (.aload_n 0, 1) := by decide +kernel
theorem dX7_lessDirty_5 : decode cX7_lessDirty 5 = .ok (.getfield 82, 3) := by decide +kernel
theorem dX7_lessDirty_8 : decode cX7_lessDirty 8 = .ok (.iconst 2, 1) := by decide +kernel
theorem dX7_lessDirty_9 : decode cX7_lessDirty 9 = .ok (.idiv, 1) := by decide +kernel
theorem dX7_lessDirty_10 : decode cX7_lessDirty 10 = .ok (.if_icmp .gt 4, 3) := by decide +kernel
theorem dX7_lessDirty_13 : decode cX7_lessDirty 13 = .ok (.return_, 1) := by decide +kernel
theorem dX7_lessDirty_14 : decode cX7_lessDirty 14 = .ok (.aload_n 0, 1) := by decide +kernel
theorem dX7_lessDirty_15 : decode cX7_lessDirty 15 = .ok (.invokevirtual 183, 3) := by decide +kernel
theorem dX7_lessDirty_18 : decode cX7_lessDirty 18 = .ok (.aload_n 0, 1) := by decide +kernel
theorem dX7_lessDirty_19 : decode cX7_lessDirty 19 = .ok (.aload_n 0, 1) := by decide +kernel
theorem dX7_lessDirty_20 : decode cX7_lessDirty 20 = .ok (.getfield 186, 3) := by decide +kernel
theorem dX7_lessDirty_23 : decode cX7_lessDirty 23 = .ok (.invokevirtual 189, 3) := by decide +kernel
theorem dX7_lessDirty_26 : decode cX7_lessDirty 26 = .ok (.istore_n 1, 1) := by decide +kernel
theorem dX7_lessDirty_27 : decode cX7_lessDirty 27 = .ok (.iload_n 1, 1) := by decide +kernel
theorem dX7_lessDirty_28 : decode cX7_lessDirty 28 = .ok (.iconst (-1), 1) := by decide +kernel
theorem dX7_lessDirty_29 : decode cX7_lessDirty 29 = .ok (.if_icmp .eq 41, 3) := by decide +kernel
theorem dX7_lessDirty_32 : decode cX7_lessDirty 32 = .ok (.aload_n 0, 1) := by decide +kernel
theorem dX7_lessDirty_33 : decode cX7_lessDirty 33 = .ok (.invokevirtual 180, 3) := by decide +kernel
theorem dX7_lessDirty_36 : decode cX7_lessDirty 36 = .ok (.aload_n 0, 1) := by decide +kernel
theorem dX7_lessDirty_37 : decode cX7_lessDirty 37 = .ok (.getfield 82, 3) := by decide +kernel
theorem dX7_lessDirty_40 : decode cX7_lessDirty 40 = .ok (.iconst 4, 1) := by decide +kernel
theorem dX7_lessDirty_41 : decode cX7_lessDirty 41 = .ok (.idiv, 1) := by decide +kernel
theorem dX7_lessDirty_42 : decode cX7_lessDirty 42 = .ok (.if_icmp .le 28, 3) := by decide +kernel
theorem dX7_lessDirty_45 : decode cX7_lessDirty 45 = .ok (.aload_n 0, 1) := by decide +kernel
theorem dX7_lessDirty_46 : decode cX7_lessDirty 46 = .ok (.iload_n 1, 1) := by decide +kernel
theorem dX7_lessDirty_47 : decode cX7_lessDirty 47 = .ok (.invokevirtual 149, 3) := by decide +kernel
theorem dX7_lessDirty_50 : decode cX7_lessDirty 50 = .ok (.istore_n 2, 1) := by decide +kernel
theorem dX7_lessDirty_51 : decode cX7_lessDirty 51 = .ok (.aload_n 0, 1) := by decide +kernel
theorem dX7_lessDirty_52 : decode cX7_lessDirty 52 = .ok (.getfield 79, 3) := by decide +kernel
theorem dX7_lessDirty_55 : decode cX7_lessDirty 55 = .ok (.iload_n 1, 1) := by decide +kernel
theorem dX7_lessDirty_56 : decode cX7_lessDirty 56 = .ok (.iconst 1, 1) := by decide +kernel
theorem dX7_lessDirty_57 : decode cX7_lessDirty 57 = .ok (.bastore, 1) := by decide +kernel
theorem dX7_lessDirty_58 : decode cX7_lessDirty 58 = .ok (.aload_n 0, 1) := by decide +kernel
theorem dX7_lessDirty_59 : decode cX7_lessDirty 59 = .ok (.aload_n 0, 1) := by decide +kernel
theorem dX7_lessDirty_60 : decode cX7_lessDirty 60 = .ok (.getfield 186, 3) := by decide +kernel
theorem dX7_lessDirty_63 : decode cX7_lessDirty 63 = .ok (.invokevirtual 189, 3) := by decide +kernel
theorem dX7_lessDirty_66 : decode cX7_lessDirty 66 = .ok (.istore_n 1, 1) := by decide +kernel
theorem dX7_lessDirty_67 : decode cX7_lessDirty 67 = .ok (.goto (-40), 3) := by decide +kernel
theorem dX7_lessDirty_70 : decode cX7_lessDirty 70 = .ok (.return_, 1) := by decide +kernel
theorem dX7_put_0 : decode cX7_put 0 = .ok (.aload_n 0, 1) := by decide +kernel
theorem dX7_put_1 : decode cX7_put 1 = .ok (.iconst 0, 1) := by decide +kernel
theorem dX7_put_2 : decode cX7_put 2 = .ok (.putfield 89, 3) := by decide +kernel
theorem dX7_put_5 : decode cX7_put 5 = .ok (.iconst 0, 1) := by decide +kernel
theorem dX7_put_6 : decode cX7_put 6 = .ok (.istore 8, 2) := by decide +kernel
theorem dX7_put_8 : decode cX7_put 8 = .ok (.iconst 1, 1) := by decide +kernel
theorem dX7_put_9 : decode cX7_put 9 = .ok (.istore 9, 2) := by decide +kernel
theorem dX7_put_11 : decode cX7_put 11 = .ok (.iload 8, 2) := by decide +kernel
theorem dX7_put_13 : decode cX7_put 13 = .ok (.iload_n 3, 1) := by decide +kernel
theorem dX7_put_14 : decode cX7_put 14 = .ok (.if_icmp .ge 187, 3) := by decide +kernel
theorem dX7_put_17 : decode cX7_put 17 = .ok (.iload 9, 2) := by decide +kernel
theorem dX7_put_19 : decode cX7_put 19 = .ok (.ifCond .eq 182, 3) := by decide +kernel
theorem dX7_put_22 : decode cX7_put 22 = .ok (.sipush 256, 3) := by decide +kernel
theorem dX7_put_25 : decode cX7_put 25 = .ok (.iload_n 1, 1) := by decide +kernel
theorem dX7_put_26 : decode cX7_put 26 = .ok (.imul, 1) := by decide +kernel
theorem dX7_put_27 : decode cX7_put 27 = .ok (.iload_n 2, 1) := by decide +kernel
theorem dX7_put_28 : decode cX7_put 28 = .ok (.iload 8, 2) := by decide +kernel
theorem dX7_put_30 : decode cX7_put 30 = .ok (.iadd, 1) := by decide +kernel
theorem dX7_put_31 : decode cX7_put 31 = .ok (.bipush 64, 2) := by decide +kernel
theorem dX7_put_33 : decode cX7_put 33 = .ok (.idiv, 1) := by decide +kernel
theorem dX7_put_34 : decode cX7_put 34 = .ok (.iadd, 1) := by decide +kernel
theorem dX7_put_35 : decode cX7_put 35 = .ok (.istore 10, 2) := by decide +kernel
theorem dX7_put_37 : decode cX7_put 37 = .ok (.aload_n 0, 1) := by decide +kernel
theorem dX7_put_38 : decode cX7_put 38 = .ok (.iload 10, 2) := by decide +kernel
theorem dX7_put_40 : decode cX7_put 40 = .ok (.invokevirtual 171, 3) := by decide +kernel
theorem dX7_put_43 : decode cX7_put 43 = .ok (.istore 9, 2) := by decide +kernel
theorem dX7_put_45 : decode cX7_put 45 = .ok (.iload 9, 2) := by decide +kernel
theorem dX7_put_47 : decode cX7_put 47 = .ok (.ifCond .ne 6, 3) := by decide +kernel
theorem dX7_put_50 : decode cX7_put 50 = .ok (.goto (-39), 3) := by decide +kernel
theorem dX7_put_53 : decode cX7_put 53 = .ok (.aload_n 0, 1) := by decide +kernel
theorem dX7_put_54 : decode cX7_put 54 = .ok (.getfield 28, 3) := by decide +kernel
theorem dX7_put_57 : decode cX7_put 57 = .ok (.iload 10, 2) := by decide +kernel
theorem dX7_put_59 : decode cX7_put 59 = .ok (.aload_n 0, 1) := by decide +kernel
theorem dX7_put_60 : decode cX7_put 60 = .ok (.iload 10, 2) := by decide +kernel
theorem dX7_put_62 : decode cX7_put 62 = .ok (.invokevirtual 146, 3) := by decide +kernel
theorem dX7_put_65 : decode cX7_put 65 = .ok (.ifCond .eq 13, 3) := by decide +kernel
theorem dX7_put_68 : decode cX7_put 68 = .ok (.aload_n 0, 1) := by decide +kernel
theorem dX7_put_69 : decode cX7_put 69 = .ok (.getfield 28, 3) := by decide +kernel
theorem dX7_put_72 : decode cX7_put 72 = .ok (.iload 10, 2) := by decide +kernel
theorem dX7_put_74 : decode cX7_put 74 = .ok (.iaload, 1) := by decide +kernel
theorem dX7_put_75 : decode cX7_put 75 = .ok (.goto 7, 3) := by decide +kernel
theorem dX7_put_78 : decode cX7_put 78 = .ok (.aload_n 0, 1) := by decide +kernel
theorem dX7_put_79 : decode cX7_put 79 = .ok (.getfield 186, 3) := by decide +kernel
theorem dX7_put_82 : decode cX7_put 82 = .ok (.iastore, 1) := by decide +kernel
theorem dX7_put_83 : decode cX7_put 83 = .ok (.bipush 64, 2) := by decide +kernel
theorem dX7_put_85 : decode cX7_put 85 = .ok (.iload_n 2, 1) := by decide +kernel
theorem dX7_put_86 : decode cX7_put 86 = .ok (.iload 8, 2) := by decide +kernel
theorem dX7_put_88 : decode cX7_put 88 = .ok (.iadd, 1) := by decide +kernel
theorem dX7_put_89 : decode cX7_put 89 = .ok (.bipush 64, 2) := by decide +kernel
theorem dX7_put_91 : decode cX7_put 91 = .ok (.idiv, 1) := by decide +kernel
theorem dX7_put_92 : decode cX7_put 92 = .ok (.iconst 1, 1) := by decide +kernel
theorem dX7_put_93 : decode cX7_put 93 = .ok (.iadd, 1) := by decide +kernel
theorem dX7_put_94 : decode cX7_put 94 = .ok (.imul, 1) := by decide +kernel
theorem dX7_put_95 : decode cX7_put 95 = .ok (.istore 11, 2) := by decide +kernel
theorem dX7_put_97 : decode cX7_put 97 = .ok (.iload 8, 2) := by decide +kernel
theorem dX7_put_99 : decode cX7_put 99 = .ok (.iload_n 3, 1) := by decide +kernel
theorem dX7_put_100 : decode cX7_put 100 = .ok (.if_icmp .ge 66, 3) := by decide +kernel
theorem dX7_put_103 : decode cX7_put 103 = .ok (.iload_n 2, 1) := by decide +kernel
theorem dX7_put_104 : decode cX7_put 104 = .ok (.iload 8, 2) := by decide +kernel
theorem dX7_put_106 : decode cX7_put 106 = .ok (.iadd, 1) := by decide +kernel
theorem dX7_put_107 : decode cX7_put 107 = .ok (.iload 11, 2) := by decide +kernel
theorem dX7_put_109 : decode cX7_put 109 = .ok (.if_icmp .ge 57, 3) := by decide +kernel
theorem dX7_put_112 : decode cX7_put 112 = .ok (.aload_n 0, 1) := by decide +kernel
theorem dX7_put_113 : decode cX7_put 113 = .ok (.getfield 53, 3) := by decide +kernel
theorem dX7_put_116 : decode cX7_put 116 = .ok (.bipush 64, 2) := by decide +kernel
theorem dX7_put_118 : decode cX7_put 118 = .ok (.aload_n 0, 1) := by decide +kernel
theorem dX7_put_119 : decode cX7_put 119 = .ok (.getfield 22, 3) := by decide +kernel
theorem dX7_put_122 : decode cX7_put 122 = .ok (.iload 10, 2) := by decide +kernel
theorem dX7_put_124 : decode cX7_put 124 = .ok (.iaload, 1) := by decide +kernel
theorem dX7_put_125 : decode cX7_put 125 = .ok (.imul, 1) := by decide +kernel
theorem dX7_put_126 : decode cX7_put 126 = .ok (.iload_n 2, 1) := by decide +kernel
theorem dX7_put_127 : decode cX7_put 127 = .ok (.iload 8, 2) := by decide +kernel
theorem dX7_put_129 : decode cX7_put 129 = .ok (.iadd, 1) := by decide +kernel
theorem dX7_put_130 : decode cX7_put 130 = .ok (.bipush 64, 2) := by decide +kernel
theorem dX7_put_132 : decode cX7_put 132 = .ok (.irem, 1) := by decide +kernel
theorem dX7_put_133 : decode cX7_put 133 = .ok (.iadd, 1) := by decide +kernel
theorem dX7_put_134 : decode cX7_put 134 = .ok (.iload 4, 2) := by decide +kernel
theorem dX7_put_136 : decode cX7_put 136 = .ok (.ifCond .eq 13, 3) := by decide +kernel
theorem dX7_put_139 : decode cX7_put 139 = .ok (.iload 7, 2) := by decide +kernel
theorem dX7_put_141 : decode cX7_put 141 = .ok (.iconst 3, 1) := by decide +kernel
theorem dX7_put_142 : decode cX7_put 142 = .ok (.iload 8, 2) := by decide +kernel
theorem dX7_put_144 : decode cX7_put 144 = .ok (.imul, 1) := by decide +kernel
theorem dX7_put_145 : decode cX7_put 145 = .ok (.iadd, 1) := by decide +kernel
theorem dX7_put_146 : decode cX7_put 146 = .ok (.goto 12, 3) := by decide +kernel
theorem dX7_put_149 : decode cX7_put 149 = .ok (.lload 5, 2) := by decide +kernel
theorem dX7_put_151 : decode cX7_put 151 = .ok (.bipush 8, 2) := by decide +kernel
theorem dX7_put_153 : decode cX7_put 153 = .ok (.iload 8, 2) := by decide +kernel
theorem dX7_put_155 : decode cX7_put 155 = .ok (.imul, 1) := by decide +kernel
theorem dX7_put_156 : decode cX7_put 156 = .ok (.lshr, 1) := by decide +kernel
theorem dX7_put_157 : decode cX7_put 157 = .ok (.l2i, 1) := by decide +kernel
theorem dX7_put_158 : decode cX7_put 158 = .ok (.i2b, 1) := by decide +kernel
theorem dX7_put_159 : decode cX7_put 159 = .ok (.bastore, 1) := by decide +kernel
theorem dX7_put_160 : decode cX7_put 160 = .ok (.iinc 8 1, 3) := by decide +kernel
theorem dX7_put_163 : decode cX7_put 163 = .ok (.goto (-66), 3) := by decide +kernel
theorem dX7_put_166 : decode cX7_put 166 = .ok (.aload_n 0, 1) := by decide +kernel
theorem dX7_put_167 : decode cX7_put 167 = .ok (.getfield 7, 3) := by decide +kernel
theorem dX7_put_170 : decode cX7_put 170 = .ok (.iload_n 1, 1) := by decide +kernel
theorem dX7_put_171 : decode cX7_put 171 = .ok (.iload_n 2, 1) := by decide +kernel
theorem dX7_put_172 : decode cX7_put 172 = .ok (.iload 8, 2) := by decide +kernel
theorem dX7_put_174 : decode cX7_put 174 = .ok (.iadd, 1) := by decide +kernel
theorem dX7_put_175 : decode cX7_put 175 = .ok (.aload_n 0, 1) := by decide +kernel
theorem dX7_put_176 : decode cX7_put 176 = .ok (.getfield 7, 3) := by decide +kernel
theorem dX7_put_179 : decode cX7_put 179 = .ok (.iload_n 1, 1) := by decide +kernel
theorem dX7_put_180 : decode cX7_put 180 = .ok (.iaload, 1) := by decide +kernel
theorem dX7_put_181 : decode cX7_put 181 = .ok (.if_icmp .le 10, 3) := by decide +kernel
theorem dX7_put_184 : decode cX7_put 184 = .ok (.iload_n 2, 1) := by decide +kernel
theorem dX7_put_185 : decode cX7_put 185 = .ok (.iload 8, 2) := by decide +kernel
theorem dX7_put_187 : decode cX7_put 187 = .ok (.iadd, 1) := by decide +kernel
theorem dX7_put_188 : decode cX7_put 188 = .ok (.goto 9, 3) := by decide +kernel
theorem dX7_put_191 : decode cX7_put 191 = .ok (.aload_n 0, 1) := by decide +kernel
theorem dX7_put_192 : decode cX7_put 192 = .ok (.getfield 7, 3) := by decide +kernel
theorem dX7_put_195 : decode cX7_put 195 = .ok (.iload_n 1, 1) := by decide +kernel
theorem dX7_put_196 : decode cX7_put 196 = .ok (.iaload, 1) := by decide +kernel
theorem dX7_put_197 : decode cX7_put 197 = .ok (.iastore, 1) := by decide +kernel
theorem dX7_put_198 : decode cX7_put 198 = .ok (.goto (-187), 3) := by decide +kernel
theorem dX7_put_201 : decode cX7_put 201 = .ok (.iload 8, 2) := by decide +kernel
theorem dX7_put_203 : decode cX7_put 203 = .ok (.ifCond .ne 6, 3) := by decide +kernel
theorem dX7_put_206 : decode cX7_put 206 = .ok (.bipush (-3), 2) := by decide +kernel
theorem dX7_put_208 : decode cX7_put 208 = .ok (.ireturn, 1) := by decide +kernel
theorem dX7_put_209 : decode cX7_put 209 = .ok (.aload_n 0, 1) := by decide +kernel
theorem dX7_put_210 : decode cX7_put 210 = .ok (.invokevirtual 192, 3) := by decide +kernel
theorem dX7_put_213 : decode cX7_put 213 = .ok (.iload 8, 2) := by decide +kernel
theorem dX7_put_215 : decode cX7_put 215 = .ok (.ireturn, 1) := by decide +kernel
theorem dX7_write_0 : decode cX7_write 0 = .ok (.iload_n 1, 1) := by decide +kernel
theorem dX7_write_1 : decode cX7_write 1 = .ok (.invokestatic 168, 3) := by decide +kernel
theorem dX7_write_4 : decode cX7_write 4 = .ok (.ifCond .eq 30, 3) := by decide +kernel
theorem dX7_write_7 : decode cX7_write 7 = .ok (.iload 5, 2) := by decide +kernel
theorem dX7_write_9 : decode cX7_write 9 = .ok (.iconst 1, 1) := by decide +kernel
theorem dX7_write_10 : decode cX7_write 10 = .ok (.if_icmp .lt 24, 3) := by decide +kernel
theorem dX7_write_13 : decode cX7_write 13 = .ok (.iload 5, 2) := by decide +kernel
theorem dX7_write_15 : decode cX7_write 15 = .ok (.bipush 8, 2) := by decide +kernel
theorem dX7_write_17 : decode cX7_write 17 = .ok (.if_icmp .gt 17, 3) := by decide +kernel
theorem dX7_write_20 : decode cX7_write 20 = .ok (.iload_n 2, 1) := by decide +kernel
theorem dX7_write_21 : decode cX7_write 21 = .ok (.ifCond .lt 13, 3) := by decide +kernel
theorem dX7_write_24 : decode cX7_write 24 = .ok (.iload_n 2, 1) := by decide +kernel
theorem dX7_write_25 : decode cX7_write 25 = .ok (.sipush 16384, 3) := by decide +kernel
theorem dX7_write_28 : decode cX7_write 28 = .ok (.iload 5, 2) := by decide +kernel
theorem dX7_write_30 : decode cX7_write 30 = .ok (.isub, 1) := by decide +kernel
theorem dX7_write_31 : decode cX7_write 31 = .ok (.if_icmp .le 6, 3) := by decide +kernel
theorem dX7_write_34 : decode cX7_write 34 = .ok (.bipush (-2), 2) := by decide +kernel
theorem dX7_write_36 : decode cX7_write 36 = .ok (.ireturn, 1) := by decide +kernel
theorem dX7_write_37 : decode cX7_write 37 = .ok (.aload_n 0, 1) := by decide +kernel
theorem dX7_write_38 : decode cX7_write 38 = .ok (.iload_n 1, 1) := by decide +kernel
theorem dX7_write_39 : decode cX7_write 39 = .ok (.iload_n 2, 1) := by decide +kernel
theorem dX7_write_40 : decode cX7_write 40 = .ok (.iload 5, 2) := by decide +kernel
theorem dX7_write_42 : decode cX7_write 42 = .ok (.iconst 0, 1) := by decide +kernel
theorem dX7_write_43 : decode cX7_write 43 = .ok (.lload_n 3, 1) := by decide +kernel
theorem dX7_write_44 : decode cX7_write 44 = .ok (.iconst 0, 1) := by decide +kernel
theorem dX7_write_45 : decode cX7_write 45 = .ok (.invokevirtual 195, 3) := by decide +kernel
theorem dX7_write_48 : decode cX7_write 48 = .ok (.ireturn, 1) := by decide +kernel
theorem dX7_fill_0 : decode cX7_fill 0 = .ok (.iload_n 1, 1) := by decide +kernel
theorem dX7_fill_1 : decode cX7_fill 1 = .ok (.invokestatic 168, 3) := by decide +kernel
theorem dX7_fill_4 : decode cX7_fill 4 = .ok (.ifCond .eq 28, 3) := by decide +kernel
theorem dX7_fill_7 : decode cX7_fill 7 = .ok (.iload_n 3, 1) := by decide +kernel
theorem dX7_fill_8 : decode cX7_fill 8 = .ok (.iconst 1, 1) := by decide +kernel
theorem dX7_fill_9 : decode cX7_fill 9 = .ok (.if_icmp .lt 23, 3) := by decide +kernel
theorem dX7_fill_12 : decode cX7_fill 12 = .ok (.iload_n 3, 1) := by decide +kernel
theorem dX7_fill_13 : decode cX7_fill 13 = .ok (.sipush 1024, 3) := by decide +kernel
theorem dX7_fill_16 : decode cX7_fill 16 = .ok (.if_icmp .gt 16, 3) := by decide +kernel
theorem dX7_fill_19 : decode cX7_fill 19 = .ok (.iload_n 2, 1) := by decide +kernel
theorem dX7_fill_20 : decode cX7_fill 20 = .ok (.ifCond .lt 12, 3) := by decide +kernel
theorem dX7_fill_23 : decode cX7_fill 23 = .ok (.iload_n 2, 1) := by decide +kernel
theorem dX7_fill_24 : decode cX7_fill 24 = .ok (.sipush 16384, 3) := by decide +kernel
theorem dX7_fill_27 : decode cX7_fill 27 = .ok (.iload_n 3, 1) := by decide +kernel
theorem dX7_fill_28 : decode cX7_fill 28 = .ok (.isub, 1) := by decide +kernel
theorem dX7_fill_29 : decode cX7_fill 29 = .ok (.if_icmp .le 6, 3) := by decide +kernel
theorem dX7_fill_32 : decode cX7_fill 32 = .ok (.bipush (-2), 2) := by decide +kernel
theorem dX7_fill_34 : decode cX7_fill 34 = .ok (.ireturn, 1) := by decide +kernel
theorem dX7_fill_35 : decode cX7_fill 35 = .ok (.aload_n 0, 1) := by decide +kernel
theorem dX7_fill_36 : decode cX7_fill 36 = .ok (.iload_n 1, 1) := by decide +kernel
theorem dX7_fill_37 : decode cX7_fill 37 = .ok (.iload_n 2, 1) := by decide +kernel
theorem dX7_fill_38 : decode cX7_fill 38 = .ok (.iload_n 3, 1) := by decide +kernel
theorem dX7_fill_39 : decode cX7_fill 39 = .ok (.iconst 1, 1) := by decide +kernel
theorem dX7_fill_40 : decode cX7_fill 40 = .ok (.lconst 0, 1) := by decide +kernel
theorem dX7_fill_41 : decode cX7_fill 41 = .ok (.iload 4, 2) := by decide +kernel
theorem dX7_fill_43 : decode cX7_fill 43 = .ok (.invokevirtual 195, 3) := by decide +kernel
theorem dX7_fill_46 : decode cX7_fill 46 = .ok (.ireturn, 1) := by decide +kernel
theorem dX7_isHoled_0 : decode cX7_isHoled 0 = .ok (.aload_n 0, 1) := by decide +kernel
theorem dX7_isHoled_1 : decode cX7_isHoled 1 = .ok (.iload_n 1, 1) := by decide +kernel
theorem dX7_isHoled_2 : decode cX7_isHoled 2 = .ok (.invokevirtual 159, 3) := by decide +kernel
theorem dX7_isHoled_5 : decode cX7_isHoled 5 = .ok (.ifCond .ne 13, 3) := by decide +kernel
theorem dX7_isHoled_8 : decode cX7_isHoled 8 = .ok (.aload_n 0, 1) := by decide +kernel
theorem dX7_isHoled_9 : decode cX7_isHoled 9 = .ok (.getfield 25, 3) := by decide +kernel
theorem dX7_isHoled_12 : decode cX7_isHoled 12 = .ok (.iload_n 1, 1) := by decide +kernel
theorem dX7_isHoled_13 : decode cX7_isHoled 13 = .ok (.iaload, 1) := by decide +kernel
theorem dX7_isHoled_14 : decode cX7_isHoled 14 = .ok (.iconst (-1), 1) := by decide +kernel
theorem dX7_isHoled_15 : decode cX7_isHoled 15 = .ok (.if_icmp .eq 7, 3) := by decide +kernel
theorem dX7_isHoled_18 : decode cX7_isHoled 18 = .ok (.iconst 1, 1) := by decide +kernel
theorem dX7_isHoled_19 : decode cX7_isHoled 19 = .ok (.goto 4, 3) := by decide +kernel
theorem dX7_isHoled_22 : decode cX7_isHoled 22 = .ok (.iconst 0, 1) := by decide +kernel
theorem dX7_isHoled_23 : decode cX7_isHoled 23 = .ok (.istore_n 2, 1) := by decide +kernel
theorem dX7_isHoled_24 : decode cX7_isHoled 24 = .ok (.aload_n 0, 1) := by decide +kernel
theorem dX7_isHoled_25 : decode cX7_isHoled 25 = .ok (.iload_n 1, 1) := by decide +kernel
theorem dX7_isHoled_26 : decode cX7_isHoled 26 = .ok (.invokevirtual 159, 3) := by decide +kernel
theorem dX7_isHoled_29 : decode cX7_isHoled 29 = .ok (.ifCond .eq 8, 3) := by decide +kernel
theorem dX7_isHoled_32 : decode cX7_isHoled 32 = .ok (.aload_n 0, 1) := by decide +kernel
theorem dX7_isHoled_33 : decode cX7_isHoled 33 = .ok (.iload_n 1, 1) := by decide +kernel
theorem dX7_isHoled_34 : decode cX7_isHoled 34 = .ok (.invokevirtual 123, 3) := by decide +kernel
theorem dX7_isHoled_37 : decode cX7_isHoled 37 = .ok (.aload_n 0, 1) := by decide +kernel
theorem dX7_isHoled_38 : decode cX7_isHoled 38 = .ok (.iload_n 1, 1) := by decide +kernel
theorem dX7_isHoled_39 : decode cX7_isHoled 39 = .ok (.invokevirtual 129, 3) := by decide +kernel
theorem dX7_isHoled_42 : decode cX7_isHoled 42 = .ok (.aload_n 0, 1) := by decide +kernel
theorem dX7_isHoled_43 : decode cX7_isHoled 43 = .ok (.getfield 25, 3) := by decide +kernel
theorem dX7_isHoled_46 : decode cX7_isHoled 46 = .ok (.iload_n 1, 1) := by decide +kernel
theorem dX7_isHoled_47 : decode cX7_isHoled 47 = .ok (.iaload, 1) := by decide +kernel
theorem dX7_isHoled_48 : decode cX7_isHoled 48 = .ok (.iconst (-1), 1) := by decide +kernel
theorem dX7_isHoled_49 : decode cX7_isHoled 49 = .ok (.if_icmp .eq 22, 3) := by decide +kernel
theorem dX7_isHoled_52 : decode cX7_isHoled 52 = .ok (.aload_n 0, 1) := by decide +kernel
theorem dX7_isHoled_53 : decode cX7_isHoled 53 = .ok (.getfield 61, 3) := by decide +kernel
theorem dX7_isHoled_56 : decode cX7_isHoled 56 = .ok (.aload_n 0, 1) := by decide +kernel
theorem dX7_isHoled_57 : decode cX7_isHoled 57 = .ok (.getfield 25, 3) := by decide +kernel
theorem dX7_isHoled_60 : decode cX7_isHoled 60 = .ok (.iload_n 1, 1) := by decide +kernel
theorem dX7_isHoled_61 : decode cX7_isHoled 61 = .ok (.iaload, 1) := by decide +kernel
theorem dX7_isHoled_62 : decode cX7_isHoled 62 = .ok (.iconst 0, 1) := by decide +kernel
theorem dX7_isHoled_63 : decode cX7_isHoled 63 = .ok (.bastore, 1) := by decide +kernel
theorem dX7_isHoled_64 : decode cX7_isHoled 64 = .ok (.aload_n 0, 1) := by decide +kernel
theorem dX7_isHoled_65 : decode cX7_isHoled 65 = .ok (.getfield 25, 3) := by decide +kernel
theorem dX7_isHoled_68 : decode cX7_isHoled 68 = .ok (.iload_n 1, 1) := by decide +kernel
theorem dX7_isHoled_69 : decode cX7_isHoled 69 = .ok (.iconst (-1), 1) := by decide +kernel
theorem dX7_isHoled_70 : decode cX7_isHoled 70 = .ok (.iastore, 1) := by decide +kernel
theorem dX7_isHoled_71 : decode cX7_isHoled 71 = .ok (.iload_n 2, 1) := by decide +kernel
theorem dX7_isHoled_72 : decode cX7_isHoled 72 = .ok (.ireturn, 1) := by decide +kernel
theorem dX7_truncate_0 : decode cX7_truncate 0 = .ok (.iload_n 1, 1) := by decide +kernel
theorem dX7_truncate_1 : decode cX7_truncate 1 = .ok (.invokestatic 168, 3) := by decide +kernel
theorem dX7_truncate_4 : decode cX7_truncate 4 = .ok (.ifCond .eq 14, 3) := by decide +kernel
theorem dX7_truncate_7 : decode cX7_truncate 7 = .ok (.iload_n 2, 1) := by decide +kernel
theorem dX7_truncate_8 : decode cX7_truncate 8 = .ok (.ifCond .lt 10, 3) := by decide +kernel
theorem dX7_truncate_11 : decode cX7_truncate 11 = .ok (.iload_n 2, 1) := by decide +kernel
theorem dX7_truncate_12 : decode cX7_truncate 12 = .ok (.sipush 16384, 3) := by decide +kernel
theorem dX7_truncate_15 : decode cX7_truncate 15 = .ok (.if_icmp .le 6, 3) := by decide +kernel
theorem dX7_truncate_18 : decode cX7_truncate 18 = .ok (.bipush (-2), 2) := by decide +kernel
theorem dX7_truncate_20 : decode cX7_truncate 20 = .ok (.ireturn, 1) := by decide +kernel
theorem dX7_truncate_21 : decode cX7_truncate 21 = .ok (.aload_n 0, 1) := by decide +kernel
theorem dX7_truncate_22 : decode cX7_truncate 22 = .ok (.iconst 0, 1) := by decide +kernel
theorem dX7_truncate_23 : decode cX7_truncate 23 = .ok (.putfield 89, 3) := by decide +kernel
theorem dX7_truncate_26 : decode cX7_truncate 26 = .ok (.aload_n 0, 1) := by decide +kernel
theorem dX7_truncate_27 : decode cX7_truncate 27 = .ok (.getfield 7, 3) := by decide +kernel
theorem dX7_truncate_30 : decode cX7_truncate 30 = .ok (.iload_n 1, 1) := by decide +kernel
theorem dX7_truncate_31 : decode cX7_truncate 31 = .ok (.iaload, 1) := by decide +kernel
theorem dX7_truncate_32 : decode cX7_truncate 32 = .ok (.istore_n 3, 1) := by decide +kernel
theorem dX7_truncate_33 : decode cX7_truncate 33 = .ok (.aload_n 0, 1) := by decide +kernel
theorem dX7_truncate_34 : decode cX7_truncate 34 = .ok (.getfield 7, 3) := by decide +kernel
theorem dX7_truncate_37 : decode cX7_truncate 37 = .ok (.iload_n 1, 1) := by decide +kernel
theorem dX7_truncate_38 : decode cX7_truncate 38 = .ok (.iload_n 2, 1) := by decide +kernel
theorem dX7_truncate_39 : decode cX7_truncate 39 = .ok (.iastore, 1) := by decide +kernel
theorem dX7_truncate_40 : decode cX7_truncate 40 = .ok (.iload_n 2, 1) := by decide +kernel
theorem dX7_truncate_41 : decode cX7_truncate 41 = .ok (.iload_n 3, 1) := by decide +kernel
theorem dX7_truncate_42 : decode cX7_truncate 42 = .ok (.if_icmp .lt 5, 3) := by decide +kernel
theorem dX7_truncate_45 : decode cX7_truncate 45 = .ok (.iload_n 3, 1) := by decide +kernel
theorem dX7_truncate_46 : decode cX7_truncate 46 = .ok (.ireturn, 1) := by decide +kernel
theorem dX7_truncate_47 : decode cX7_truncate 47 = .ok (.iload_n 2, 1) := by decide +kernel
theorem dX7_truncate_48 : decode cX7_truncate 48 = .ok (.bipush 64, 2) := by decide +kernel
theorem dX7_truncate_50 : decode cX7_truncate 50 = .ok (.iadd, 1) := by decide +kernel
theorem dX7_truncate_51 : decode cX7_truncate 51 = .ok (.iconst 1, 1) := by decide +kernel
theorem dX7_truncate_52 : decode cX7_truncate 52 = .ok (.isub, 1) := by decide +kernel
theorem dX7_truncate_53 : decode cX7_truncate 53 = .ok (.bipush 64, 2) := by decide +kernel
theorem dX7_truncate_55 : decode cX7_truncate 55 = .ok (.idiv, 1) := by decide +kernel
theorem dX7_truncate_56 : decode cX7_truncate 56 = .ok (.istore 4, 2) := by decide +kernel
theorem dX7_truncate_58 : decode cX7_truncate 58 = .ok (.iload 4, 2) := by decide +kernel
theorem dX7_truncate_60 : decode cX7_truncate 60 = .ok (.sipush 256, 3) := by decide +kernel
theorem dX7_truncate_63 : decode cX7_truncate 63 = .ok (.if_icmp .ge 23, 3) := by decide +kernel
theorem dX7_truncate_66 : decode cX7_truncate 66 = .ok (.aload_n 0, 1) := by decide +kernel
theorem dX7_truncate_67 : decode cX7_truncate 67 = .ok (.sipush 256, 3) := by decide +kernel
theorem dX7_truncate_70 : decode cX7_truncate 70 = .ok (.iload_n 1, 1) := by decide +kernel
theorem dX7_truncate_71 : decode cX7_truncate 71 = .ok (.imul, 1) := by decide +kernel
theorem dX7_truncate_72 : decode cX7_truncate 72 = .ok (.iload 4, 2) := by decide +kernel
theorem dX7_truncate_74 : decode cX7_truncate 74 = .ok (.iadd, 1) := by decide +kernel
theorem dX7_truncate_75 : decode cX7_truncate 75 = .ok (.invokevirtual 199, 3) := by decide +kernel
theorem dX7_truncate_78 : decode cX7_truncate 78 = .ok (.istore 5, 2) := by decide +kernel
theorem dX7_truncate_80 : decode cX7_truncate 80 = .ok (.iinc 4 1, 3) := by decide +kernel
theorem dX7_truncate_83 : decode cX7_truncate 83 = .ok (.goto (-25), 3) := by decide +kernel
theorem dX7_truncate_86 : decode cX7_truncate 86 = .ok (.sipush 256, 3) := by decide +kernel
theorem dX7_truncate_89 : decode cX7_truncate 89 = .ok (.iload_n 1, 1) := by decide +kernel
theorem dX7_truncate_90 : decode cX7_truncate 90 = .ok (.imul, 1) := by decide +kernel
theorem dX7_truncate_91 : decode cX7_truncate 91 = .ok (.iload_n 2, 1) := by decide +kernel
theorem dX7_truncate_92 : decode cX7_truncate 92 = .ok (.bipush 64, 2) := by decide +kernel
theorem dX7_truncate_94 : decode cX7_truncate 94 = .ok (.idiv, 1) := by decide +kernel
theorem dX7_truncate_95 : decode cX7_truncate 95 = .ok (.iadd, 1) := by decide +kernel
theorem dX7_truncate_96 : decode cX7_truncate 96 = .ok (.istore 4, 2) := by decide +kernel
theorem dX7_truncate_98 : decode cX7_truncate 98 = .ok (.iload_n 2, 1) := by decide +kernel
theorem dX7_truncate_99 : decode cX7_truncate 99 = .ok (.bipush 64, 2) := by decide +kernel
theorem dX7_truncate_101 : decode cX7_truncate 101 = .ok (.irem, 1) := by decide +kernel
theorem dX7_truncate_102 : decode cX7_truncate 102 = .ok (.ifCond .eq 23, 3) := by decide +kernel
theorem dX7_truncate_105 : decode cX7_truncate 105 = .ok (.aload_n 0, 1) := by decide +kernel
theorem dX7_truncate_106 : decode cX7_truncate 106 = .ok (.iload 4, 2) := by decide +kernel
theorem dX7_truncate_108 : decode cX7_truncate 108 = .ok (.invokevirtual 159, 3) := by decide +kernel
theorem dX7_truncate_111 : decode cX7_truncate 111 = .ok (.ifCond .ne 16, 3) := by decide +kernel
theorem dX7_truncate_114 : decode cX7_truncate 114 = .ok (.aload_n 0, 1) := by decide +kernel
theorem dX7_truncate_115 : decode cX7_truncate 115 = .ok (.getfield 25, 3) := by decide +kernel
theorem dX7_truncate_118 : decode cX7_truncate 118 = .ok (.iload 4, 2) := by decide +kernel
theorem dX7_truncate_120 : decode cX7_truncate 120 = .ok (.iaload, 1) := by decide +kernel
theorem dX7_truncate_121 : decode cX7_truncate 121 = .ok (.iconst (-1), 1) := by decide +kernel
theorem dX7_truncate_122 : decode cX7_truncate 122 = .ok (.if_icmp .ne 5, 3) := by decide +kernel
theorem dX7_truncate_125 : decode cX7_truncate 125 = .ok (.iload_n 3, 1) := by decide +kernel
theorem dX7_truncate_126 : decode cX7_truncate 126 = .ok (.ireturn, 1) := by decide +kernel
theorem dX7_truncate_127 : decode cX7_truncate 127 = .ok (.aload_n 0, 1) := by decide +kernel
theorem dX7_truncate_128 : decode cX7_truncate 128 = .ok (.iload 4, 2) := by decide +kernel
theorem dX7_truncate_130 : decode cX7_truncate 130 = .ok (.invokevirtual 171, 3) := by decide +kernel
theorem dX7_truncate_133 : decode cX7_truncate 133 = .ok (.ifCond .ne 6, 3) := by decide +kernel
theorem dX7_truncate_136 : decode cX7_truncate 136 = .ok (.bipush (-3), 2) := by decide +kernel
theorem dX7_truncate_138 : decode cX7_truncate 138 = .ok (.ireturn, 1) := by decide +kernel
theorem dX7_truncate_139 : decode cX7_truncate 139 = .ok (.iload_n 2, 1) := by decide +kernel
theorem dX7_truncate_140 : decode cX7_truncate 140 = .ok (.bipush 64, 2) := by decide +kernel
theorem dX7_truncate_142 : decode cX7_truncate 142 = .ok (.irem, 1) := by decide +kernel
theorem dX7_truncate_143 : decode cX7_truncate 143 = .ok (.istore 5, 2) := by decide +kernel
theorem dX7_truncate_145 : decode cX7_truncate 145 = .ok (.iload 5, 2) := by decide +kernel
theorem dX7_truncate_147 : decode cX7_truncate 147 = .ok (.bipush 64, 2) := by decide +kernel
theorem dX7_truncate_149 : decode cX7_truncate 149 = .ok (.if_icmp .ge 28, 3) := by decide +kernel
theorem dX7_truncate_152 : decode cX7_truncate 152 = .ok (.aload_n 0, 1) := by decide +kernel
theorem dX7_truncate_153 : decode cX7_truncate 153 = .ok (.getfield 53, 3) := by decide +kernel
theorem dX7_truncate_156 : decode cX7_truncate 156 = .ok (.bipush 64, 2) := by decide +kernel
theorem dX7_truncate_158 : decode cX7_truncate 158 = .ok (.aload_n 0, 1) := by decide +kernel
theorem dX7_truncate_159 : decode cX7_truncate 159 = .ok (.getfield 22, 3) := by decide +kernel
theorem dX7_truncate_162 : decode cX7_truncate 162 = .ok (.iload 4, 2) := by decide +kernel
theorem dX7_truncate_164 : decode cX7_truncate 164 = .ok (.iaload, 1) := by decide +kernel
theorem dX7_truncate_165 : decode cX7_truncate 165 = .ok (.imul, 1) := by decide +kernel
theorem dX7_truncate_166 : decode cX7_truncate 166 = .ok (.iload 5, 2) := by decide +kernel
theorem dX7_truncate_168 : decode cX7_truncate 168 = .ok (.iadd, 1) := by decide +kernel
theorem dX7_truncate_169 : decode cX7_truncate 169 = .ok (.iconst 0, 1) := by decide +kernel
theorem dX7_truncate_170 : decode cX7_truncate 170 = .ok (.bastore, 1) := by decide +kernel
theorem dX7_truncate_171 : decode cX7_truncate 171 = .ok (.iinc 5 1, 3) := by decide +kernel
theorem dX7_truncate_174 : decode cX7_truncate 174 = .ok (.goto (-29), 3) := by decide +kernel
theorem dX7_truncate_177 : decode cX7_truncate 177 = .ok (.aload_n 0, 1) := by decide +kernel
theorem dX7_truncate_178 : decode cX7_truncate 178 = .ok (.getfield 28, 3) := by decide +kernel
theorem dX7_truncate_181 : decode cX7_truncate 181 = .ok (.iload 4, 2) := by decide +kernel
theorem dX7_truncate_183 : decode cX7_truncate 183 = .ok (.aload_n 0, 1) := by decide +kernel
theorem dX7_truncate_184 : decode cX7_truncate 184 = .ok (.iload 4, 2) := by decide +kernel
