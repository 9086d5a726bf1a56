theorem dX10_init_0 : decode cX10_init 0 = .ok (.aload_n 0, 1) := by decide +kernel
theorem dX10_init_1 : decode cX10_init 1 = .ok (.invokespecial 1, 3) := by decide +kernel
theorem dX10_init_4 : decode cX10_init 4 = .ok (.aload_n 0, 1) := by decide +kernel
theorem dX10_init_5 : decode cX10_init 5 = .ok (.sipush 205, 3) := by decide +kernel
theorem dX10_init_8 : decode cX10_init 8 = .ok (.newarray .int, 2) := by decide +kernel
theorem dX10_init_10 : decode cX10_init 10 = .ok (.putfield 7, 3) := by decide +kernel
theorem dX10_init_13 : decode cX10_init 13 = .ok (.aload_n 0, 1) := by decide +kernel
theorem dX10_init_14 : decode cX10_init 14 = .ok (.bipush 41, 2) := by decide +kernel
theorem dX10_init_16 : decode cX10_init 16 = .ok (.newarray .int, 2) := by decide +kernel
theorem dX10_init_18 : decode cX10_init 18 = .ok (.putfield 13, 3) := by decide +kernel
theorem dX10_init_21 : decode cX10_init 21 = .ok (.aload_n 0, 1) := by decide +kernel
theorem dX10_init_22 : decode cX10_init 22 = .ok (.sipush 160, 3) := by decide +kernel
theorem dX10_init_25 : decode cX10_init 25 = .ok (.newarray .int, 2) := by decide +kernel
theorem dX10_init_27 : decode cX10_init 27 = .ok (.putfield 16, 3) := by decide +kernel
theorem dX10_init_30 : decode cX10_init 30 = .ok (.aload_n 0, 1) := by decide +kernel
theorem dX10_init_31 : decode cX10_init 31 = .ok (.bipush 8, 2) := by decide +kernel
theorem dX10_init_33 : decode cX10_init 33 = .ok (.newarray .int, 2) := by decide +kernel
theorem dX10_init_35 : decode cX10_init 35 = .ok (.dup, 1) := by decide +kernel
theorem dX10_init_36 : decode cX10_init 36 = .ok (.iconst 0, 1) := by decide +kernel
theorem dX10_init_37 : decode cX10_init 37 = .ok (.iconst 0, 1) := by decide +kernel
theorem dX10_init_38 : decode cX10_init 38 = .ok (.iastore, 1) := by decide +kernel
theorem dX10_init_39 : decode cX10_init 39 = .ok (.dup, 1) := by decide +kernel
theorem dX10_init_40 : decode cX10_init 40 = .ok (.iconst 1, 1) := by decide +kernel
theorem dX10_init_41 : decode cX10_init 41 = .ok (.iconst 5, 1) := by decide +kernel
theorem dX10_init_42 : decode cX10_init 42 = .ok (.iastore, 1) := by decide +kernel
theorem dX10_init_43 : decode cX10_init 43 = .ok (.dup, 1) := by decide +kernel
theorem dX10_init_44 : decode cX10_init 44 = .ok (.iconst 2, 1) := by decide +kernel
theorem dX10_init_45 : decode cX10_init 45 = .ok (.bipush 8, 2) := by decide +kernel
theorem dX10_init_47 : decode cX10_init 47 = .ok (.iastore, 1) := by decide +kernel
theorem dX10_init_48 : decode cX10_init 48 = .ok (.dup, 1) := by decide +kernel
theorem dX10_init_49 : decode cX10_init 49 = .ok (.iconst 3, 1) := by decide +kernel
theorem dX10_init_50 : decode cX10_init 50 = .ok (.bipush 13, 2) := by decide +kernel
theorem dX10_init_52 : decode cX10_init 52 = .ok (.iastore, 1) := by decide +kernel
theorem dX10_init_53 : decode cX10_init 53 = .ok (.dup, 1) := by decide +kernel
theorem dX10_init_54 : decode cX10_init 54 = .ok (.iconst 4, 1) := by decide +kernel
theorem dX10_init_55 : decode cX10_init 55 = .ok (.bipush 17, 2) := by decide +kernel
theorem dX10_init_57 : decode cX10_init 57 = .ok (.iastore, 1) := by decide +kernel
theorem dX10_init_58 : decode cX10_init 58 = .ok (.dup, 1) := by decide +kernel
theorem dX10_init_59 : decode cX10_init 59 = .ok (.iconst 5, 1) := by decide +kernel
theorem dX10_init_60 : decode cX10_init 60 = .ok (.bipush 20, 2) := by decide +kernel
theorem dX10_init_62 : decode cX10_init 62 = .ok (.iastore, 1) := by decide +kernel
theorem dX10_init_63 : decode cX10_init 63 = .ok (.dup, 1) := by decide +kernel
theorem dX10_init_64 : decode cX10_init 64 = .ok (.bipush 6, 2) := by decide +kernel
theorem dX10_init_66 : decode cX10_init 66 = .ok (.bipush 24, 2) := by decide +kernel
theorem dX10_init_68 : decode cX10_init 68 = .ok (.iastore, 1) := by decide +kernel
theorem dX10_init_69 : decode cX10_init 69 = .ok (.dup, 1) := by decide +kernel
theorem dX10_init_70 : decode cX10_init 70 = .ok (.bipush 7, 2) := by decide +kernel
theorem dX10_init_72 : decode cX10_init 72 = .ok (.bipush 28, 2) := by decide +kernel
theorem dX10_init_74 : decode cX10_init 74 = .ok (.iastore, 1) := by decide +kernel
theorem dX10_init_75 : decode cX10_init 75 = .ok (.putfield 19, 3) := by decide +kernel
theorem dX10_init_78 : decode cX10_init 78 = .ok (.aload_n 0, 1) := by decide +kernel
theorem dX10_init_79 : decode cX10_init 79 = .ok (.bipush 28, 2) := by decide +kernel
theorem dX10_init_81 : decode cX10_init 81 = .ok (.newarray .int, 2) := by decide +kernel
theorem dX10_init_83 : decode cX10_init 83 = .ok (.dup, 1) := by decide +kernel
theorem dX10_init_84 : decode cX10_init 84 = .ok (.iconst 0, 1) := by decide +kernel
theorem dX10_init_85 : decode cX10_init 85 = .ok (.bipush 112, 2) := by decide +kernel
theorem dX10_init_87 : decode cX10_init 87 = .ok (.iastore, 1) := by decide +kernel
theorem dX10_init_88 : decode cX10_init 88 = .ok (.dup, 1) := by decide +kernel
theorem dX10_init_89 : decode cX10_init 89 = .ok (.iconst 1, 1) := by decide +kernel
theorem dX10_init_90 : decode cX10_init 90 = .ok (.bipush 108, 2) := by decide +kernel
theorem dX10_init_92 : decode cX10_init 92 = .ok (.iastore, 1) := by decide +kernel
theorem dX10_init_93 : decode cX10_init 93 = .ok (.dup, 1) := by decide +kernel
theorem dX10_init_94 : decode cX10_init 94 = .ok (.iconst 2, 1) := by decide +kernel
theorem dX10_init_95 : decode cX10_init 95 = .ok (.bipush 97, 2) := by decide +kernel
theorem dX10_init_97 : decode cX10_init 97 = .ok (.iastore, 1) := by decide +kernel
theorem dX10_init_98 : decode cX10_init 98 = .ok (.dup, 1) := by decide +kernel
theorem dX10_init_99 : decode cX10_init 99 = .ok (.iconst 3, 1) := by decide +kernel
theorem dX10_init_100 : decode cX10_init 100 = .ok (.bipush 105, 2) := by decide +kernel
theorem dX10_init_102 : decode cX10_init 102 = .ok (.iastore, 1) := by decide +kernel
theorem dX10_init_103 : decode cX10_init 103 = .ok (.dup, 1) := by decide +kernel
theorem dX10_init_104 : decode cX10_init 104 = .ok (.iconst 4, 1) := by decide +kernel
theorem dX10_init_105 : decode cX10_init 105 = .ok (.bipush 110, 2) := by decide +kernel
theorem dX10_init_107 : decode cX10_init 107 = .ok (.iastore, 1) := by decide +kernel
theorem dX10_init_108 : decode cX10_init 108 = .ok (.dup, 1) := by decide +kernel
theorem dX10_init_109 : decode cX10_init 109 = .ok (.iconst 5, 1) := by decide +kernel
theorem dX10_init_110 : decode cX10_init 110 = .ok (.bipush 102, 2) := by decide +kernel
theorem dX10_init_112 : decode cX10_init 112 = .ok (.iastore, 1) := by decide +kernel
theorem dX10_init_113 : decode cX10_init 113 = .ok (.dup, 1) := by decide +kernel
theorem dX10_init_114 : decode cX10_init 114 = .ok (.bipush 6, 2) := by decide +kernel
theorem dX10_init_116 : decode cX10_init 116 = .ok (.bipush 97, 2) := by decide +kernel
theorem dX10_init_118 : decode cX10_init 118 = .ok (.iastore, 1) := by decide +kernel
theorem dX10_init_119 : decode cX10_init 119 = .ok (.dup, 1) := by decide +kernel
theorem dX10_init_120 : decode cX10_init 120 = .ok (.bipush 7, 2) := by decide +kernel
theorem dX10_init_122 : decode cX10_init 122 = .ok (.bipush 116, 2) := by decide +kernel
theorem dX10_init_124 : decode cX10_init 124 = .ok (.iastore, 1) := by decide +kernel
theorem dX10_init_125 : decode cX10_init 125 = .ok (.dup, 1) := by decide +kernel
theorem dX10_init_126 : decode cX10_init 126 = .ok (.bipush 8, 2) := by decide +kernel
theorem dX10_init_128 : decode cX10_init 128 = .ok (.bipush 121, 2) := by decide +kernel
theorem dX10_init_130 : decode cX10_init 130 = .ok (.iastore, 1) := by decide +kernel
theorem dX10_init_131 : decode cX10_init 131 = .ok (.dup, 1) := by decide +kernel
theorem dX10_init_132 : decode cX10_init 132 = .ok (.bipush 9, 2) := by decide +kernel
theorem dX10_init_134 : decode cX10_init 134 = .ok (.bipush 111, 2) := by decide +kernel
theorem dX10_init_136 : decode cX10_init 136 = .ok (.iastore, 1) := by decide +kernel
theorem dX10_init_137 : decode cX10_init 137 = .ok (.dup, 1) := by decide +kernel
theorem dX10_init_138 : decode cX10_init 138 = .ok (.bipush 10, 2) := by decide +kernel
theorem dX10_init_140 : decode cX10_init 140 = .ok (.bipush 117, 2) := by decide +kernel
theorem dX10_init_142 : decode cX10_init 142 = .ok (.iastore, 1) := by decide +kernel
theorem dX10_init_143 : decode cX10_init 143 = .ok (.dup, 1) := by decide +kernel
theorem dX10_init_144 : decode cX10_init 144 = .ok (.bipush 11, 2) := by decide +kernel
theorem dX10_init_146 : decode cX10_init 146 = .ok (.bipush 110, 2) := by decide +kernel
theorem dX10_init_148 : decode cX10_init 148 = .ok (.iastore, 1) := by decide +kernel
theorem dX10_init_149 : decode cX10_init 149 = .ok (.dup, 1) := by decide +kernel
theorem dX10_init_150 : decode cX10_init 150 = .ok (.bipush 12, 2) := by decide +kernel
theorem dX10_init_152 : decode cX10_init 152 = .ok (.bipush 103, 2) := by decide +kernel
theorem dX10_init_154 : decode cX10_init 154 = .ok (.iastore, 1) := by decide +kernel
theorem dX10_init_155 : decode cX10_init 155 = .ok (.dup, 1) := by decide +kernel
theorem dX10_init_156 : decode cX10_init 156 = .ok (.bipush 13, 2) := by decide +kernel
theorem dX10_init_158 : decode cX10_init 158 = .ok (.bipush 98, 2) := by decide +kernel
theorem dX10_init_160 : decode cX10_init 160 = .ok (.iastore, 1) := by decide +kernel
theorem dX10_init_161 : decode cX10_init 161 = .ok (.dup, 1) := by decide +kernel
theorem dX10_init_162 : decode cX10_init 162 = .ok (.bipush 14, 2) := by decide +kernel
theorem dX10_init_164 : decode cX10_init 164 = .ok (.bipush 111, 2) := by decide +kernel
theorem dX10_init_166 : decode cX10_init 166 = .ok (.iastore, 1) := by decide +kernel
theorem dX10_init_167 : decode cX10_init 167 = .ok (.dup, 1) := by decide +kernel
theorem dX10_init_168 : decode cX10_init 168 = .ok (.bipush 15, 2) := by decide +kernel
theorem dX10_init_170 : decode cX10_init 170 = .ok (.bipush 97, 2) := by decide +kernel
theorem dX10_init_172 : decode cX10_init 172 = .ok (.iastore, 1) := by decide +kernel
theorem dX10_init_173 : decode cX10_init 173 = .ok (.dup, 1) := by decide +kernel
theorem dX10_init_174 : decode cX10_init 174 = .ok (.bipush 16, 2) := by decide +kernel
theorem dX10_init_176 : decode cX10_init 176 = .ok (.bipush 114, 2) := by decide +kernel
theorem dX10_init_178 : decode cX10_init 178 = .ok (.iastore, 1) := by decide +kernel
theorem dX10_init_179 : decode cX10_init 179 = .ok (.dup, 1) := by decide +kernel
theorem dX10_init_180 : decode cX10_init 180 = .ok (.bipush 17, 2) := by decide +kernel
theorem dX10_init_182 : decode cX10_init 182 = .ok (.bipush 112, 2) := by decide +kernel
theorem dX10_init_184 : decode cX10_init 184 = .ok (.iastore, 1) := by decide +kernel
theorem dX10_init_185 : decode cX10_init 185 = .ok (.dup, 1) := by decide +kernel
theorem dX10_init_186 : decode cX10_init 186 = .ok (.bipush 18, 2) := by decide +kernel
theorem dX10_init_188 : decode cX10_init 188 = .ok (.bipush 101, 2) := by decide +kernel
theorem dX10_init_190 : decode cX10_init 190 = .ok (.iastore, 1) := by decide +kernel
theorem dX10_init_191 : decode cX10_init 191 = .ok (.dup, 1) := by decide +kernel
theorem dX10_init_192 : decode cX10_init 192 = .ok (.bipush 19, 2) := by decide +kernel
theorem dX10_init_194 : decode cX10_init 194 = .ok (.bipush 103, 2) := by decide +kernel
theorem dX10_init_196 : decode cX10_init 196 = .ok (.iastore, 1) := by decide +kernel
theorem dX10_init_197 : decode cX10_init 197 = .ok (.dup, 1) := by decide +kernel
theorem dX10_init_198 : decode cX10_init 198 = .ok (.bipush 20, 2) := by decide +kernel
theorem dX10_init_200 : decode cX10_init 200 = .ok (.bipush 115, 2) := by decide +kernel
theorem dX10_init_202 : decode cX10_init 202 = .ok (.iastore, 1) := by decide +kernel
theorem dX10_init_203 : decode cX10_init 203 = .ok (.dup, 1) := by decide +kernel
theorem dX10_init_204 : decode cX10_init 204 = .ok (.bipush 21, 2) := by decide +kernel
theorem dX10_init_206 : decode cX10_init 206 = .ok (.bipush 108, 2) := by decide +kernel
theorem dX10_init_208 : decode cX10_init 208 = .ok (.iastore, 1) := by decide +kernel
theorem dX10_init_209 : decode cX10_init 209 = .ok (.dup, 1) := by decide +kernel
theorem dX10_init_210 : decode cX10_init 210 = .ok (.bipush 22, 2) := by decide +kernel
theorem dX10_init_212 : decode cX10_init 212 = .ok (.bipush 117, 2) := by decide +kernel
theorem dX10_init_214 : decode cX10_init 214 = .ok (.iastore, 1) := by decide +kernel
theorem dX10_init_215 : decode cX10_init 215 = .ok (.dup, 1) := by decide +kernel
theorem dX10_init_216 : decode cX10_init 216 = .ok (.bipush 23, 2) := by decide +kernel
theorem dX10_init_218 : decode cX10_init 218 = .ok (.bipush 103, 2) := by decide +kernel
theorem dX10_init_220 : decode cX10_init 220 = .ok (.iastore, 1) := by decide +kernel
theorem dX10_init_221 : decode cX10_init 221 = .ok (.dup, 1) := by decide +kernel
theorem dX10_init_222 : decode cX10_init 222 = .ok (.bipush 24, 2) := by decide +kernel
theorem dX10_init_224 : decode cX10_init 224 = .ok (.bipush 115, 2) := by decide +kernel
theorem dX10_init_226 : decode cX10_init 226 = .ok (.iastore, 1) := by decide +kernel
theorem dX10_init_227 : decode cX10_init 227 = .ok (.dup, 1) := by decide +kernel
theorem dX10_init_228 : decode cX10_init 228 = .ok (.bipush 25, 2) := by decide +kernel
theorem dX10_init_230 : decode cX10_init 230 = .ok (.bipush 117, 2) := by decide +kernel
theorem dX10_init_232 : decode cX10_init 232 = .ok (.iastore, 1) := by decide +kernel
theorem dX10_init_233 : decode cX10_init 233 = .ok (.dup, 1) := by decide +kernel
theorem dX10_init_234 : decode cX10_init 234 = .ok (.bipush 26, 2) := by decide +kernel
theorem dX10_init_236 : decode cX10_init 236 = .ok (.bipush 105, 2) := by decide +kernel
theorem dX10_init_238 : decode cX10_init 238 = .ok (.iastore, 1) := by decide +kernel
theorem dX10_init_239 : decode cX10_init 239 = .ok (.dup, 1) := by decide +kernel
theorem dX10_init_240 : decode cX10_init 240 = .ok (.bipush 27, 2) := by decide +kernel
theorem dX10_init_242 : decode cX10_init 242 = .ok (.bipush 116, 2) := by decide +kernel
theorem dX10_init_244 : decode cX10_init 244 = .ok (.iastore, 1) := by decide +kernel
theorem dX10_init_245 : decode cX10_init 245 = .ok (.putfield 22, 3) := by decide +kernel
theorem dX10_init_248 : decode cX10_init 248 = .ok (.aload_n 0, 1) := by decide +kernel
theorem dX10_init_249 : decode cX10_init 249 = .ok (.bipush 10, 2) := by decide +kernel
theorem dX10_init_251 : decode cX10_init 251 = .ok (.newarray .int, 2) := by decide +kernel
theorem dX10_init_253 : decode cX10_init 253 = .ok (.putfield 25, 3) := by decide +kernel
theorem dX10_init_256 : decode cX10_init 256 = .ok (.aload_n 0, 1) := by decide +kernel
theorem dX10_init_257 : decode cX10_init 257 = .ok (.bipush 18, 2) := by decide +kernel
theorem dX10_init_259 : decode cX10_init 259 = .ok (.newarray .int, 2) := by decide +kernel
theorem dX10_init_261 : decode cX10_init 261 = .ok (.putfield 28, 3) := by decide +kernel
theorem dX10_init_264 : decode cX10_init 264 = .ok (.aload_n 0, 1) := by decide +kernel
theorem dX10_init_265 : decode cX10_init 265 = .ok (.bipush 80, 2) := by decide +kernel
theorem dX10_init_267 : decode cX10_init 267 = .ok (.newarray .int, 2) := by decide +kernel
theorem dX10_init_269 : decode cX10_init 269 = .ok (.putfield 31, 3) := by decide +kernel
theorem dX10_init_272 : decode cX10_init 272 = .ok (.aload_n 0, 1) := by decide +kernel
theorem dX10_init_273 : decode cX10_init 273 = .ok (.iconst 2, 1) := by decide +kernel
theorem dX10_init_274 : decode cX10_init 274 = .ok (.newarray .boolean, 2) := by decide +kernel
theorem dX10_init_276 : decode cX10_init 276 = .ok (.putfield 34, 3) := by decide +kernel
theorem dX10_init_279 : decode cX10_init 279 = .ok (.aload_n 0, 1) := by decide +kernel
theorem dX10_init_280 : decode cX10_init 280 = .ok (.iconst 4, 1) := by decide +kernel
theorem dX10_init_281 : decode cX10_init 281 = .ok (.newarray .int, 2) := by decide +kernel
theorem dX10_init_283 : decode cX10_init 283 = .ok (.dup, 1) := by decide +kernel
theorem dX10_init_284 : decode cX10_init 284 = .ok (.iconst 0, 1) := by decide +kernel
theorem dX10_init_285 : decode cX10_init 285 = .ok (.bipush (-4), 2) := by decide +kernel
theorem dX10_init_287 : decode cX10_init 287 = .ok (.iastore, 1) := by decide +kernel
theorem dX10_init_288 : decode cX10_init 288 = .ok (.dup, 1) := by decide +kernel
theorem dX10_init_289 : decode cX10_init 289 = .ok (.iconst 1, 1) := by decide +kernel
theorem dX10_init_290 : decode cX10_init 290 = .ok (.bipush (-4), 2) := by decide +kernel
theorem dX10_init_292 : decode cX10_init 292 = .ok (.iastore, 1) := by decide +kernel
theorem dX10_init_293 : decode cX10_init 293 = .ok (.dup, 1) := by decide +kernel
theorem dX10_init_294 : decode cX10_init 294 = .ok (.iconst 2, 1) := by decide +kernel
theorem dX10_init_295 : decode cX10_init 295 = .ok (.bipush (-4), 2) := by decide +kernel
theorem dX10_init_297 : decode cX10_init 297 = .ok (.iastore, 1) := by decide +kernel
theorem dX10_init_298 : decode cX10_init 298 = .ok (.dup, 1) := by decide +kernel
theorem dX10_init_299 : decode cX10_init 299 = .ok (.iconst 3, 1) := by decide +kernel
theorem dX10_init_300 : decode cX10_init 300 = .ok (.bipush (-4), 2) := by decide +kernel
theorem dX10_init_302 : decode cX10_init 302 = .ok (.iastore, 1) := by decide +kernel
theorem dX10_init_303 : decode cX10_init 303 = .ok (.putfield 38, 3) := by decide +kernel
theorem dX10_init_306 : decode cX10_init 306 = .ok (.aload_n 0, 1) := by decide +kernel
theorem dX10_init_307 : decode cX10_init 307 = .ok (.iconst 4, 1) := by decide +kernel
theorem dX10_init_308 : decode cX10_init 308 = .ok (.newarray .int, 2) := by decide +kernel
theorem dX10_init_310 : decode cX10_init 310 = .ok (.putfield 41, 3) := by decide +kernel
theorem dX10_init_313 : decode cX10_init 313 = .ok (.aload_n 0, 1) := by decide +kernel
theorem dX10_init_314 : decode cX10_init 314 = .ok (.sipush 160, 3) := by decide +kernel
theorem dX10_init_317 : decode cX10_init 317 = .ok (.newarray .int, 2) := by decide +kernel
theorem dX10_init_319 : decode cX10_init 319 = .ok (.putfield 44, 3) := by decide +kernel
theorem dX10_init_322 : decode cX10_init 322 = .ok (.return_, 1) := by decide +kernel
theorem dX10_in_0 : decode cX10_in 0 = .ok (.lload_n 0, 1) := by decide +kernel
theorem dX10_in_1 : decode cX10_in 1 = .ok (.lload_n 2, 1) := by decide +kernel
theorem dX10_in_2 : decode cX10_in 2 = .ok (.lcmp, 1) := by decide +kernel
theorem dX10_in_3 : decode cX10_in 3 = .ok (.ifCond .lt 14, 3) := by decide +kernel
theorem dX10_in_6 : decode cX10_in 6 = .ok (.lload_n 0, 1) := by decide +kernel
theorem dX10_in_7 : decode cX10_in 7 = .ok (.lload 4, 2) := by decide +kernel
theorem dX10_in_9 : decode cX10_in 9 = .ok (.lcmp, 1) := by decide +kernel
theorem dX10_in_10 : decode cX10_in 10 = .ok (.ifCond .gt 7, 3) := by decide +kernel
theorem dX10_in_13 : decode cX10_in 13 = .ok (.iconst 1, 1) := by decide +kernel
theorem dX10_in_14 : decode cX10_in 14 = .ok (.goto 4, 3) := by decide +kernel
theorem dX10_in_17 : decode cX10_in 17 = .ok (.iconst 0, 1) := by decide +kernel
theorem dX10_in_18 : decode cX10_in 18 = .ok (.ireturn, 1) := by decide +kernel
theorem dX10_feed_0 : decode cX10_feed 0 = .ok (.iload_n 1, 1) := by decide +kernel
theorem dX10_feed_1 : decode cX10_feed 1 = .ok (.i2l, 1) := by decide +kernel
theorem dX10_feed_2 : decode cX10_feed 2 = .ok (.lconst 0, 1) := by decide +kernel
theorem dX10_feed_3 : decode cX10_feed 3 = .ok (.ldc2_w 47, 3) := by decide +kernel
theorem dX10_feed_6 : decode cX10_feed 6 = .ok (.invokestatic 49, 3) := by decide +kernel
theorem dX10_feed_9 : decode cX10_feed 9 = .ok (.ifCond .ne 5, 3) := by decide +kernel
theorem dX10_feed_12 : decode cX10_feed 12 = .ok (.iconst (-1), 1) := by decide +kernel
theorem dX10_feed_13 : decode cX10_feed 13 = .ok (.ireturn, 1) := by decide +kernel
theorem dX10_feed_14 : decode cX10_feed 14 = .ok (.aload_n 0, 1) := by decide +kernel
theorem dX10_feed_15 : decode cX10_feed 15 = .ok (.getfield 53, 3) := by decide +kernel
theorem dX10_feed_18 : decode cX10_feed 18 = .ok (.sipush 160, 3) := by decide +kernel
theorem dX10_feed_21 : decode cX10_feed 21 = .ok (.if_icmp .ne 6, 3) := by decide +kernel
theorem dX10_feed_24 : decode cX10_feed 24 = .ok (.bipush (-3), 2) := by decide +kernel
theorem dX10_feed_26 : decode cX10_feed 26 = .ok (.ireturn, 1) := by decide +kernel
theorem dX10_feed_27 : decode cX10_feed 27 = .ok (.aload_n 0, 1) := by decide +kernel
theorem dX10_feed_28 : decode cX10_feed 28 = .ok (.getfield 16, 3) := by decide +kernel
theorem dX10_feed_31 : decode cX10_feed 31 = .ok (.aload_n 0, 1) := by decide +kernel
theorem dX10_feed_32 : decode cX10_feed 32 = .ok (.getfield 53, 3) := by decide +kernel
theorem dX10_feed_35 : decode cX10_feed 35 = .ok (.iload_n 1, 1) := by decide +kernel
theorem dX10_feed_36 : decode cX10_feed 36 = .ok (.iastore, 1) := by decide +kernel
theorem dX10_feed_37 : decode cX10_feed 37 = .ok (.aload_n 0, 1) := by decide +kernel
theorem dX10_feed_38 : decode cX10_feed 38 = .ok (.dup, 1) := by decide +kernel
theorem dX10_feed_39 : decode cX10_feed 39 = .ok (.getfield 53, 3) := by decide +kernel
theorem dX10_feed_42 : decode cX10_feed 42 = .ok (.iconst 1, 1) := by decide +kernel
theorem dX10_feed_43 : decode cX10_feed 43 = .ok (.iadd, 1) := by decide +kernel
theorem dX10_feed_44 : decode cX10_feed 44 = .ok (.putfield 53, 3) := by decide +kernel
theorem dX10_feed_47 : decode cX10_feed 47 = .ok (.aload_n 0, 1) := by decide +kernel
theorem dX10_feed_48 : decode cX10_feed 48 = .ok (.getfield 53, 3) := by decide +kernel
theorem dX10_feed_51 : decode cX10_feed 51 = .ok (.ireturn, 1) := by decide +kernel
theorem dX10_end_0 : decode cX10_end 0 = .ok (.iload_n 1, 1) := by decide +kernel
theorem dX10_end_1 : decode cX10_end 1 = .ok (.i2l, 1) := by decide +kernel
theorem dX10_end_2 : decode cX10_end 2 = .ok (.lconst 0, 1) := by decide +kernel
theorem dX10_end_3 : decode cX10_end 3 = .ok (.aload_n 0, 1) := by decide +kernel
theorem dX10_end_4 : decode cX10_end 4 = .ok (.getfield 53, 3) := by decide +kernel
theorem dX10_end_7 : decode cX10_end 7 = .ok (.i2l, 1) := by decide +kernel
theorem dX10_end_8 : decode cX10_end 8 = .ok (.invokestatic 49, 3) := by decide +kernel
theorem dX10_end_11 : decode cX10_end 11 = .ok (.ifCond .ne 5, 3) := by decide +kernel
theorem dX10_end_14 : decode cX10_end 14 = .ok (.iconst (-1), 1) := by decide +kernel
theorem dX10_end_15 : decode cX10_end 15 = .ok (.ireturn, 1) := by decide +kernel
theorem dX10_end_16 : decode cX10_end 16 = .ok (.aload_n 0, 1) := by decide +kernel
theorem dX10_end_17 : decode cX10_end 17 = .ok (.getfield 53, 3) := by decide +kernel
theorem dX10_end_20 : decode cX10_end 20 = .ok (.istore_n 2, 1) := by decide +kernel
theorem dX10_end_21 : decode cX10_end 21 = .ok (.aload_n 0, 1) := by decide +kernel
theorem dX10_end_22 : decode cX10_end 22 = .ok (.iload_n 1, 1) := by decide +kernel
theorem dX10_end_23 : decode cX10_end 23 = .ok (.putfield 53, 3) := by decide +kernel
theorem dX10_end_26 : decode cX10_end 26 = .ok (.iload_n 2, 1) := by decide +kernel
theorem dX10_end_27 : decode cX10_end 27 = .ok (.ireturn, 1) := by decide +kernel
theorem dX10_byteAt_0 : decode cX10_byteAt 0 = .ok (.iload_n 1, 1) := by decide +kernel
theorem dX10_byteAt_1 : decode cX10_byteAt 1 = .ok (.aload_n 0, 1) := by decide +kernel
theorem dX10_byteAt_2 : decode cX10_byteAt 2 = .ok (.getfield 53, 3) := by decide +kernel
theorem dX10_byteAt_5 : decode cX10_byteAt 5 = .ok (.if_icmp .ge 12, 3) := by decide +kernel
theorem dX10_byteAt_8 : decode cX10_byteAt 8 = .ok (.aload_n 0, 1) := by decide +kernel
theorem dX10_byteAt_9 : decode cX10_byteAt 9 = .ok (.getfield 16, 3) := by decide +kernel
theorem dX10_byteAt_12 : decode cX10_byteAt 12 = .ok (.iload_n 1, 1) := by decide +kernel
theorem dX10_byteAt_13 : decode cX10_byteAt 13 = .ok (.iaload, 1) := by decide +kernel
theorem dX10_byteAt_14 : decode cX10_byteAt 14 = .ok (.goto 5, 3) := by decide +kernel
theorem dX10_byteAt_17 : decode cX10_byteAt 17 = .ok (.bipush (-4), 2) := by decide +kernel
theorem dX10_byteAt_19 : decode cX10_byteAt 19 = .ok (.ireturn, 1) := by decide +kernel
theorem dX10_fails_0 : decode cX10_fails 0 = .ok (.aload_n 0, 1) := by decide +kernel
theorem dX10_fails_1 : decode cX10_fails 1 = .ok (.getfield 57, 3) := by decide +kernel
theorem dX10_fails_4 : decode cX10_fails 4 = .ok (.ifCond .ne 16, 3) := by decide +kernel
theorem dX10_fails_7 : decode cX10_fails 7 = .ok (.aload_n 0, 1) := by decide +kernel
theorem dX10_fails_8 : decode cX10_fails 8 = .ok (.iload_n 1, 1) := by decide +kernel
theorem dX10_fails_9 : decode cX10_fails 9 = .ok (.putfield 57, 3) := by decide +kernel
theorem dX10_fails_12 : decode cX10_fails 12 = .ok (.aload_n 0, 1) := by decide +kernel
theorem dX10_fails_13 : decode cX10_fails 13 = .ok (.aload_n 0, 1) := by decide +kernel
theorem dX10_fails_14 : decode cX10_fails 14 = .ok (.getfield 60, 3) := by decide +kernel
theorem dX10_fails_17 : decode cX10_fails 17 = .ok (.putfield 63, 3) := by decide +kernel
theorem dX10_fails_20 : decode cX10_fails 20 = .ok (.return_, 1) := by decide +kernel
theorem dX10_nameHere_0 : decode cX10_nameHere 0 = .ok (.iconst 0, 1) := by decide +kernel
theorem dX10_nameHere_1 : decode cX10_nameHere 1 = .ok (.istore_n 1, 1) := by decide +kernel
theorem dX10_nameHere_2 : decode cX10_nameHere 2 = .ok (.iload_n 1, 1) := by decide +kernel
theorem dX10_nameHere_3 : decode cX10_nameHere 3 = .ok (.bipush 7, 2) := by decide +kernel
theorem dX10_nameHere_5 : decode cX10_nameHere 5 = .ok (.if_icmp .ge 113, 3) := by decide +kernel
theorem dX10_nameHere_8 : decode cX10_nameHere 8 = .ok (.aload_n 0, 1) := by decide +kernel
theorem dX10_nameHere_9 : decode cX10_nameHere 9 = .ok (.getfield 66, 3) := by decide +kernel
theorem dX10_nameHere_12 : decode cX10_nameHere 12 = .ok (.iconst 1, 1) := by decide +kernel
theorem dX10_nameHere_13 : decode cX10_nameHere 13 = .ok (.if_icmp .ne 105, 3) := by decide +kernel
theorem dX10_nameHere_16 : decode cX10_nameHere 16 = .ok (.aload_n 0, 1) := by decide +kernel
theorem dX10_nameHere_17 : decode cX10_nameHere 17 = .ok (.getfield 69, 3) := by decide +kernel
theorem dX10_nameHere_20 : decode cX10_nameHere 20 = .ok (.aload_n 0, 1) := by decide +kernel
theorem dX10_nameHere_21 : decode cX10_nameHere 21 = .ok (.getfield 60, 3) := by decide +kernel
theorem dX10_nameHere_24 : decode cX10_nameHere 24 = .ok (.isub, 1) := by decide +kernel
theorem dX10_nameHere_25 : decode cX10_nameHere 25 = .ok (.aload_n 0, 1) := by decide +kernel
theorem dX10_nameHere_26 : decode cX10_nameHere 26 = .ok (.getfield 19, 3) := by decide +kernel
theorem dX10_nameHere_29 : decode cX10_nameHere 29 = .ok (.iload_n 1, 1) := by decide +kernel
theorem dX10_nameHere_30 : decode cX10_nameHere 30 = .ok (.iconst 1, 1) := by decide +kernel
theorem dX10_nameHere_31 : decode cX10_nameHere 31 = .ok (.iadd, 1) := by decide +kernel
theorem dX10_nameHere_32 : decode cX10_nameHere 32 = .ok (.iaload, 1) := by decide +kernel
theorem dX10_nameHere_33 : decode cX10_nameHere 33 = .ok (.aload_n 0, 1) := by decide +kernel
theorem dX10_nameHere_34 : decode cX10_nameHere 34 = .ok (.getfield 19, 3) := by decide +kernel
theorem dX10_nameHere_37 : decode cX10_nameHere 37 = .ok (.iload_n 1, 1) := by decide +kernel
theorem dX10_nameHere_38 : decode cX10_nameHere 38 = .ok (.iaload, 1) := by decide +kernel
theorem dX10_nameHere_39 : decode cX10_nameHere 39 = .ok (.isub, 1) := by decide +kernel
theorem dX10_nameHere_40 : decode cX10_nameHere 40 = .ok (.if_icmp .ne 7, 3) := by decide +kernel
theorem dX10_nameHere_43 : decode cX10_nameHere 43 = .ok (.iconst 1, 1) := by decide +kernel
theorem dX10_nameHere_44 : decode cX10_nameHere 44 = .ok (.goto 4, 3) := by decide +kernel
theorem dX10_nameHere_47 : decode cX10_nameHere 47 = .ok (.iconst 0, 1) := by decide +kernel
theorem dX10_nameHere_48 : decode cX10_nameHere 48 = .ok (.istore_n 2, 1) := by decide +kernel
theorem dX10_nameHere_49 : decode cX10_nameHere 49 = .ok (.iconst 0, 1) := by decide +kernel
theorem dX10_nameHere_50 : decode cX10_nameHere 50 = .ok (.istore_n 3, 1) := by decide +kernel
theorem dX10_nameHere_51 : decode cX10_nameHere 51 = .ok (.iload_n 2, 1) := by decide +kernel
theorem dX10_nameHere_52 : decode cX10_nameHere 52 = .ok (.ifCond .eq 54, 3) := by decide +kernel
theorem dX10_nameHere_55 : decode cX10_nameHere 55 = .ok (.iload_n 3, 1) := by decide +kernel
theorem dX10_nameHere_56 : decode cX10_nameHere 56 = .ok (.aload_n 0, 1) := by decide +kernel
theorem dX10_nameHere_57 : decode cX10_nameHere 57 = .ok (.getfield 69, 3) := by decide +kernel
theorem dX10_nameHere_60 : decode cX10_nameHere 60 = .ok (.aload_n 0, 1) := by decide +kernel
theorem dX10_nameHere_61 : decode cX10_nameHere 61 = .ok (.getfield 60, 3) := by decide +kernel
theorem dX10_nameHere_64 : decode cX10_nameHere 64 = .ok (.isub, 1) := by decide +kernel
theorem dX10_nameHere_65 : decode cX10_nameHere 65 = .ok (.if_icmp .ge 41, 3) := by decide +kernel
theorem dX10_nameHere_68 : decode cX10_nameHere 68 = .ok (.aload_n 0, 1) := by decide +kernel
theorem dX10_nameHere_69 : decode cX10_nameHere 69 = .ok (.aload_n 0, 1) := by decide +kernel
theorem dX10_nameHere_70 : decode cX10_nameHere 70 = .ok (.getfield 60, 3) := by decide +kernel
theorem dX10_nameHere_73 : decode cX10_nameHere 73 = .ok (.iload_n 3, 1) := by decide +kernel
theorem dX10_nameHere_74 : decode cX10_nameHere 74 = .ok (.iadd, 1) := by decide +kernel
theorem dX10_nameHere_75 : decode cX10_nameHere 75 = .ok (.invokevirtual 72, 3) := by decide +kernel
theorem dX10_nameHere_78 : decode cX10_nameHere 78 = .ok (.aload_n 0, 1) := by decide +kernel
theorem dX10_nameHere_79 : decode cX10_nameHere 79 = .ok (.getfield 22, 3) := by decide +kernel
theorem dX10_nameHere_82 : decode cX10_nameHere 82 = .ok (.aload_n 0, 1) := by decide +kernel
theorem dX10_nameHere_83 : decode cX10_nameHere 83 = .ok (.getfield 19, 3) := by decide +kernel
theorem dX10_nameHere_86 : decode cX10_nameHere 86 = .ok (.iload_n 1, 1) := by decide +kernel
theorem dX10_nameHere_87 : decode cX10_nameHere 87 = .ok (.iaload, 1) := by decide +kernel
theorem dX10_nameHere_88 : decode cX10_nameHere 88 = .ok (.iload_n 3, 1) := by decide +kernel
theorem dX10_nameHere_89 : decode cX10_nameHere 89 = .ok (.iadd, 1) := by decide +kernel
theorem dX10_nameHere_90 : decode cX10_nameHere 90 = .ok (.iaload, 1) := by decide +kernel
theorem dX10_nameHere_91 : decode cX10_nameHere 91 = .ok (.if_icmp .ne 7, 3) := by decide +kernel
theorem dX10_nameHere_94 : decode cX10_nameHere 94 = .ok (.iconst 1, 1) := by decide +kernel
theorem dX10_nameHere_95 : decode cX10_nameHere 95 = .ok (.goto 4, 3) := by decide +kernel
theorem dX10_nameHere_98 : decode cX10_nameHere 98 = .ok (.iconst 0, 1) := by decide +kernel
theorem dX10_nameHere_99 : decode cX10_nameHere 99 = .ok (.istore_n 2, 1) := by decide +kernel
theorem dX10_nameHere_100 : decode cX10_nameHere 100 = .ok (.iinc 3 1, 3) := by decide +kernel
theorem dX10_nameHere_103 : decode cX10_nameHere 103 = .ok (.goto (-52), 3) := by decide +kernel
theorem dX10_nameHere_106 : decode cX10_nameHere 106 = .ok (.iload_n 2, 1) := by decide +kernel
theorem dX10_nameHere_107 : decode cX10_nameHere 107 = .ok (.ifCond .eq 5, 3) := by decide +kernel
theorem dX10_nameHere_110 : decode cX10_nameHere 110 = .ok (.iload_n 1, 1) := by decide +kernel
theorem dX10_nameHere_111 : decode cX10_nameHere 111 = .ok (.ireturn, 1) := by decide +kernel
theorem dX10_nameHere_112 : decode cX10_nameHere 112 = .ok (.iinc 1 1, 3) := by decide +kernel
theorem dX10_nameHere_115 : decode cX10_nameHere 115 = .ok (.goto (-113), 3) := by decide +kernel
theorem dX10_nameHere_118 : decode cX10_nameHere 118 = .ok (.bipush (-4), 2) := by decide +kernel
theorem dX10_nameHere_120 : decode cX10_nameHere 120 = .ok (.ireturn, 1) := by decide +kernel
theorem dX10_step_0 : decode cX10_step 0 = .ok (.aload_n 0, 1) := by decide +kernel
theorem dX10_step_1 : decode cX10_step 1 = .ok (.getfield 57, 3) := by decide +kernel
theorem dX10_step_4 : decode cX10_step 4 = .ok (.ifCond .le 4, 3) := by decide +kernel
theorem dX10_step_7 : decode cX10_step 7 = .ok (.return_, 1) := by decide +kernel
theorem dX10_step_8 : decode cX10_step 8 = .ok (.aload_n 0, 1) := by decide +kernel
theorem dX10_step_9 : decode cX10_step 9 = .ok (.aload_n 0, 1) := by decide +kernel
theorem dX10_step_10 : decode cX10_step 10 = .ok (.getfield 69, 3) := by decide +kernel
theorem dX10_step_13 : decode cX10_step 13 = .ok (.invokevirtual 72, 3) := by decide +kernel
theorem dX10_step_16 : decode cX10_step 16 = .ok (.bipush 32, 2) := by decide +kernel
theorem dX10_step_18 : decode cX10_step 18 = .ok (.if_icmp .ne 16, 3) := by decide +kernel
theorem dX10_step_21 : decode cX10_step 21 = .ok (.aload_n 0, 1) := by decide +kernel
theorem dX10_step_22 : decode cX10_step 22 = .ok (.dup, 1) := by decide +kernel
theorem dX10_step_23 : decode cX10_step 23 = .ok (.getfield 69, 3) := by decide +kernel
theorem dX10_step_26 : decode cX10_step 26 = .ok (.iconst 1, 1) := by decide +kernel
theorem dX10_step_27 : decode cX10_step 27 = .ok (.iadd, 1) := by decide +kernel
theorem dX10_step_28 : decode cX10_step 28 = .ok (.putfield 69, 3) := by decide +kernel
theorem dX10_step_31 : decode cX10_step 31 = .ok (.goto (-23), 3) := by decide +kernel
theorem dX10_step_34 : decode cX10_step 34 = .ok (.aload_n 0, 1) := by decide +kernel
theorem dX10_step_35 : decode cX10_step 35 = .ok (.aload_n 0, 1) := by decide +kernel
theorem dX10_step_36 : decode cX10_step 36 = .ok (.getfield 69, 3) := by decide +kernel
theorem dX10_step_39 : decode cX10_step 39 = .ok (.putfield 60, 3) := by decide +kernel
theorem dX10_step_42 : decode cX10_step 42 = .ok (.aload_n 0, 1) := by decide +kernel
theorem dX10_step_43 : decode cX10_step 43 = .ok (.aload_n 0, 1) := by decide +kernel
theorem dX10_step_44 : decode cX10_step 44 = .ok (.getfield 69, 3) := by decide +kernel
theorem dX10_step_47 : decode cX10_step 47 = .ok (.invokevirtual 72, 3) := by decide +kernel
theorem dX10_step_50 : decode cX10_step 50 = .ok (.istore_n 1, 1) := by decide +kernel
theorem dX10_step_51 : decode cX10_step 51 = .ok (.aload_n 0, 1) := by decide +kernel
theorem dX10_step_52 : decode cX10_step 52 = .ok (.iconst 0, 1) := by decide +kernel
theorem dX10_step_53 : decode cX10_step 53 = .ok (.putfield 76, 3) := by decide +kernel
theorem dX10_step_56 : decode cX10_step 56 = .ok (.iload_n 1, 1) := by decide +kernel
theorem dX10_step_57 : decode cX10_step 57 = .ok (.bipush (-4), 2) := by decide +kernel
theorem dX10_step_59 : decode cX10_step 59 = .ok (.if_icmp .ne 11, 3) := by decide +kernel
theorem dX10_step_62 : decode cX10_step 62 = .ok (.aload_n 0, 1) := by decide +kernel
theorem dX10_step_63 : decode cX10_step 63 = .ok (.iconst 0, 1) := by decide +kernel
theorem dX10_step_64 : decode cX10_step 64 = .ok (.putfield 66, 3) := by decide +kernel
theorem dX10_step_67 : decode cX10_step 67 = .ok (.goto 202, 3) := by decide +kernel
theorem dX10_step_70 : decode cX10_step 70 = .ok (.iload_n 1, 1) := by decide +kernel
theorem dX10_step_71 : decode cX10_step 71 = .ok (.i2l, 1) := by decide +kernel
theorem dX10_step_72 : decode cX10_step 72 = .ok (.ldc2_w 79, 3) := by decide +kernel
theorem dX10_step_75 : decode cX10_step 75 = .ok (.ldc2_w 81, 3) := by decide +kernel
theorem dX10_step_78 : decode cX10_step 78 = .ok (.invokestatic 49, 3) := by decide +kernel
theorem dX10_step_81 : decode cX10_step 81 = .ok (.ifCond .eq 45, 3) := by decide +kernel
theorem dX10_step_84 : decode cX10_step 84 = .ok (.aload_n 0, 1) := by decide +kernel
theorem dX10_step_85 : decode cX10_step 85 = .ok (.aload_n 0, 1) := by decide +kernel
theorem dX10_step_86 : decode cX10_step 86 = .ok (.getfield 69, 3) := by decide +kernel
theorem dX10_step_89 : decode cX10_step 89 = .ok (.invokevirtual 72, 3) := by decide +kernel
theorem dX10_step_92 : decode cX10_step 92 = .ok (.i2l, 1) := by decide +kernel
theorem dX10_step_93 : decode cX10_step 93 = .ok (.ldc2_w 79, 3) := by decide +kernel
theorem dX10_step_96 : decode cX10_step 96 = .ok (.ldc2_w 81, 3) := by decide +kernel
theorem dX10_step_99 : decode cX10_step 99 = .ok (.invokestatic 49, 3) := by decide +kernel
theorem dX10_step_102 : decode cX10_step 102 = .ok (.ifCond .eq 16, 3) := by decide +kernel
theorem dX10_step_105 : decode cX10_step 105 = .ok (.aload_n 0, 1) := by decide +kernel
theorem dX10_step_106 : decode cX10_step 106 = .ok (.dup, 1) := by decide +kernel
theorem dX10_step_107 : decode cX10_step 107 = .ok (.getfield 69, 3) := by decide +kernel
theorem dX10_step_110 : decode cX10_step 110 = .ok (.iconst 1, 1) := by decide +kernel
theorem dX10_step_111 : decode cX10_step 111 = .ok (.iadd, 1) := by decide +kernel
theorem dX10_step_112 : decode cX10_step 112 = .ok (.putfield 69, 3) := by decide +kernel
theorem dX10_step_115 : decode cX10_step 115 = .ok (.goto (-31), 3) := by decide +kernel
theorem dX10_step_118 : decode cX10_step 118 = .ok (.aload_n 0, 1) := by decide +kernel
theorem dX10_step_119 : decode cX10_step 119 = .ok (.iconst 1, 1) := by decide +kernel
theorem dX10_step_120 : decode cX10_step 120 = .ok (.putfield 66, 3) := by decide +kernel
theorem dX10_step_123 : decode cX10_step 123 = .ok (.goto 146, 3) := by decide +kernel
theorem dX10_step_126 : decode cX10_step 126 = .ok (.iload_n 1, 1) := by decide +kernel
theorem dX10_step_127 : decode cX10_step 127 = .ok (.i2l, 1) := by decide +kernel
theorem dX10_step_128 : decode cX10_step 128 = .ok (.ldc2_w 83, 3) := by decide +kernel
theorem dX10_step_131 : decode cX10_step 131 = .ok (.ldc2_w 85, 3) := by decide +kernel
theorem dX10_step_134 : decode cX10_step 134 = .ok (.invokestatic 49, 3) := by decide +kernel
theorem dX10_step_137 : decode cX10_step 137 = .ok (.ifCond .eq 106, 3) := by decide +kernel
theorem dX10_step_140 : decode cX10_step 140 = .ok (.aload_n 0, 1) := by decide +kernel
theorem dX10_step_141 : decode cX10_step 141 = .ok (.aload_n 0, 1) := by decide +kernel
theorem dX10_step_142 : decode cX10_step 142 = .ok (.getfield 69, 3) := by decide +kernel
theorem dX10_step_145 : decode cX10_step 145 = .ok (.invokevirtual 72, 3) := by decide +kernel
theorem dX10_step_148 : decode cX10_step 148 = .ok (.i2l, 1) := by decide +kernel
theorem dX10_step_149 : decode cX10_step 149 = .ok (.ldc2_w 83, 3) := by decide +kernel
theorem dX10_step_152 : decode cX10_step 152 = .ok (.ldc2_w 85, 3) := by decide +kernel
theorem dX10_step_155 : decode cX10_step 155 = .ok (.invokestatic 49, 3) := by decide +kernel
theorem dX10_step_158 : decode cX10_step 158 = .ok (.ifCond .eq 59, 3) := by decide +kernel
theorem dX10_step_161 : decode cX10_step 161 = .ok (.aload_n 0, 1) := by decide +kernel
theorem dX10_step_162 : decode cX10_step 162 = .ok (.aload_n 0, 1) := by decide +kernel
theorem dX10_step_163 : decode cX10_step 163 = .ok (.getfield 69, 3) := by decide +kernel
theorem dX10_step_166 : decode cX10_step 166 = .ok (.aload_n 0, 1) := by decide +kernel
theorem dX10_step_167 : decode cX10_step 167 = .ok (.getfield 60, 3) := by decide +kernel
theorem dX10_step_170 : decode cX10_step 170 = .ok (.isub, 1) := by decide +kernel
theorem dX10_step_171 : decode cX10_step 171 = .ok (.iconst 2, 1) := by decide +kernel
theorem dX10_step_172 : decode cX10_step 172 = .ok (.if_icmp .ge 25, 3) := by decide +kernel
theorem dX10_step_175 : decode cX10_step 175 = .ok (.bipush 10, 2) := by decide +kernel
theorem dX10_step_177 : decode cX10_step 177 = .ok (.aload_n 0, 1) := by decide +kernel
theorem dX10_step_178 : decode cX10_step 178 = .ok (.getfield 76, 3) := by decide +kernel
theorem dX10_step_181 : decode cX10_step 181 = .ok (.imul, 1) := by decide +kernel
theorem dX10_step_182 : decode cX10_step 182 = .ok (.aload_n 0, 1) := by decide +kernel
theorem dX10_step_183 : decode cX10_step 183 = .ok (.aload_n 0, 1) := by decide +kernel
theorem dX10_step_184 : decode cX10_step 184 = .ok (.getfield 69, 3) := by decide +kernel
theorem dX10_step_187 : decode cX10_step 187 = .ok (.invokevirtual 72, 3) := by decide +kernel
theorem dX10_step_190 : decode cX10_step 190 = .ok (.iadd, 1) := by decide +kernel
theorem dX10_step_191 : decode cX10_step 191 = .ok (.bipush 48, 2) := by decide +kernel
theorem dX10_step_193 : decode cX10_step 193 = .ok (.isub, 1) := by decide +kernel
theorem dX10_step_194 : decode cX10_step 194 = .ok (.goto 7, 3) := by decide +kernel
theorem dX10_step_197 : decode cX10_step 197 = .ok (.aload_n 0, 1) := by decide +kernel
theorem dX10_step_198 : decode cX10_step 198 = .ok (.getfield 76, 3) := by decide +kernel
theorem dX10_step_201 : decode cX10_step 201 = .ok (.putfield 76, 3) := by decide +kernel
theorem dX10_step_204 : decode cX10_step 204 = .ok (.aload_n 0, 1) := by decide +kernel
theorem dX10_step_205 : decode cX10_step 205 = .ok (.dup, 1) := by decide +kernel
theorem dX10_step_206 : decode cX10_step 206 = .ok (.getfield 69, 3) := by decide +kernel
theorem dX10_step_209 : decode cX10_step 209 = .ok (.iconst 1, 1) := by decide +kernel
theorem dX10_step_210 : decode cX10_step 210 = .ok (.iadd, 1) := by decide +kernel
theorem dX10_step_211 : decode cX10_step 211 = .ok (.putfield 69, 3) := by decide +kernel
theorem dX10_step_214 : decode cX10_step 214 = .ok (.goto (-74), 3) := by decide +kernel
theorem dX10_step_217 : decode cX10_step 217 = .ok (.aload_n 0, 1) := by decide +kernel
theorem dX10_step_218 : decode cX10_step 218 = .ok (.iconst 2, 1) := by decide +kernel
theorem dX10_step_219 : decode cX10_step 219 = .ok (.putfield 66, 3) := by decide +kernel
theorem dX10_step_222 : decode cX10_step 222 = .ok (.aload_n 0, 1) := by decide +kernel
theorem dX10_step_223 : decode cX10_step 223 = .ok (.getfield 69, 3) := by decide +kernel
theorem dX10_step_226 : decode cX10_step 226 = .ok (.aload_n 0, 1) := by decide +kernel
theorem dX10_step_227 : decode cX10_step 227 = .ok (.getfield 60, 3) := by decide +kernel
theorem dX10_step_230 : decode cX10_step 230 = .ok (.isub, 1) := by decide +kernel
theorem dX10_step_231 : decode cX10_step 231 = .ok (.iconst 2, 1) := by decide +kernel
theorem dX10_step_232 : decode cX10_step 232 = .ok (.if_icmp .le 37, 3) := by decide +kernel
theorem dX10_step_235 : decode cX10_step 235 = .ok (.aload_n 0, 1) := by decide +kernel
theorem dX10_step_236 : decode cX10_step 236 = .ok (.iconst 1, 1) := by decide +kernel
theorem dX10_step_237 : decode cX10_step 237 = .ok (.invokevirtual 87, 3) := by decide +kernel
theorem dX10_step_240 : decode cX10_step 240 = .ok (.goto 29, 3) := by decide +kernel
theorem dX10_step_243 : decode cX10_step 243 = .ok (.aload_n 0, 1) := by decide +kernel
theorem dX10_step_244 : decode cX10_step 244 = .ok (.iconst 3, 1) := by decide +kernel
theorem dX10_step_245 : decode cX10_step 245 = .ok (.putfield 66, 3) := by decide +kernel
theorem dX10_step_248 : decode cX10_step 248 = .ok (.aload_n 0, 1) := by decide +kernel
theorem dX10_step_249 : decode cX10_step 249 = .ok (.dup, 1) := by decide +kernel
theorem dX10_step_250 : decode cX10_step 250 = .ok (.getfield 69, 3) := by decide +kernel
theorem dX10_step_253 : decode cX10_step 253 = .ok (.iconst 1, 1) := by decide +kernel
theorem dX10_step_254 : decode cX10_step 254 = .ok (.iadd, 1) := by decide +kernel
theorem dX10_step_255 : decode cX10_step 255 = .ok (.putfield 69, 3) := by decide +kernel
theorem dX10_step_258 : decode cX10_step 258 = .ok (.iload_n 1, 1) := by decide +kernel
theorem dX10_step_259 : decode cX10_step 259 = .ok (.bipush 59, 2) := by decide +kernel
theorem dX10_step_261 : decode cX10_step 261 = .ok (.if_icmp .eq 8, 3) := by decide +kernel
theorem dX10_step_264 : decode cX10_step 264 = .ok (.aload_n 0, 1) := by decide +kernel
theorem dX10_step_265 : decode cX10_step 265 = .ok (.iconst 1, 1) := by decide +kernel
theorem dX10_step_266 : decode cX10_step 266 = .ok (.invokevirtual 87, 3) := by decide +kernel
theorem dX10_step_269 : decode cX10_step 269 = .ok (.return_, 1) := by decide +kernel
theorem dX10_number_0 : decode cX10_number 0 = .ok (.aload_n 0, 1) := by decide +kernel
theorem dX10_number_1 : decode cX10_number 1 = .ok (.getfield 57, 3) := by decide +kernel
theorem dX10_number_4 : decode cX10_number 4 = .ok (.ifCond .ne 16, 3) := by decide +kernel
theorem dX10_number_7 : decode cX10_number 7 = .ok (.aload_n 0, 1) := by decide +kernel
theorem dX10_number_8 : decode cX10_number 8 = .ok (.getfield 66, 3) := by decide +kernel
theorem dX10_number_11 : decode cX10_number 11 = .ok (.iconst 2, 1) := by decide +kernel
theorem dX10_number_12 : decode cX10_number 12 = .ok (.if_icmp .eq 8, 3) := by decide +kernel
theorem dX10_number_15 : decode cX10_number 15 = .ok (.aload_n 0, 1) := by decide +kernel
theorem dX10_number_16 : decode cX10_number 16 = .ok (.iconst 2, 1) := by decide +kernel
theorem dX10_number_17 : decode cX10_number 17 = .ok (.invokevirtual 87, 3) := by decide +kernel
theorem dX10_number_20 : decode cX10_number 20 = .ok (.aload_n 0, 1) := by decide +kernel
theorem dX10_number_21 : decode cX10_number 21 = .ok (.getfield 57, 3) := by decide +kernel
theorem dX10_number_24 : decode cX10_number 24 = .ok (.ifCond .ne 23, 3) := by decide +kernel
theorem dX10_number_27 : decode cX10_number 27 = .ok (.aload_n 0, 1) := by decide +kernel
theorem dX10_number_28 : decode cX10_number 28 = .ok (.getfield 76, 3) := by decide +kernel
theorem dX10_number_31 : decode cX10_number 31 = .ok (.i2l, 1) := by decide +kernel
theorem dX10_number_32 : decode cX10_number 32 = .ok (.iload_n 1, 1) := by decide +kernel
theorem dX10_number_33 : decode cX10_number 33 = .ok (.i2l, 1) := by decide +kernel
theorem dX10_number_34 : decode cX10_number 34 = .ok (.iload_n 2, 1) := by decide +kernel
theorem dX10_number_35 : decode cX10_number 35 = .ok (.i2l, 1) := by decide +kernel
theorem dX10_number_36 : decode cX10_number 36 = .ok (.invokestatic 49, 3) := by decide +kernel
theorem dX10_number_39 : decode cX10_number 39 = .ok (.ifCond .ne 8, 3) := by decide +kernel
theorem dX10_number_42 : decode cX10_number 42 = .ok (.aload_n 0, 1) := by decide +kernel
theorem dX10_number_43 : decode cX10_number 43 = .ok (.iconst 3, 1) := by decide +kernel
theorem dX10_number_44 : decode cX10_number 44 = .ok (.invokevirtual 87, 3) := by decide +kernel
theorem dX10_number_47 : decode cX10_number 47 = .ok (.aload_n 0, 1) := by decide +kernel
theorem dX10_number_48 : decode cX10_number 48 = .ok (.getfield 57, 3) := by decide +kernel
theorem dX10_number_51 : decode cX10_number 51 = .ok (.ifCond .ne 10, 3) := by decide +kernel
theorem dX10_number_54 : decode cX10_number 54 = .ok (.aload_n 0, 1) := by decide +kernel
theorem dX10_number_55 : decode cX10_number 55 = .ok (.getfield 76, 3) := by decide +kernel
theorem dX10_number_58 : decode cX10_number 58 = .ok (.goto 4, 3) := by decide +kernel
theorem dX10_number_61 : decode cX10_number 61 = .ok (.iload_n 1, 1) := by decide +kernel
theorem dX10_number_62 : decode cX10_number 62 = .ok (.istore_n 3, 1) := by decide +kernel
theorem dX10_number_63 : decode cX10_number 63 = .ok (.aload_n 0, 1) := by decide +kernel
theorem dX10_number_64 : decode cX10_number 64 = .ok (.invokevirtual 91, 3) := by decide +kernel
theorem dX10_number_67 : decode cX10_number 67 = .ok (.iload_n 3, 1) := by decide +kernel
theorem dX10_number_68 : decode cX10_number 68 = .ok (.ireturn, 1) := by decide +kernel
theorem dX10_isReadCell_0 : decode cX10_isReadCell 0 = .ok (.iconst 0, 1) := by decide +kernel
theorem dX10_isReadCell_1 : decode cX10_isReadCell 1 = .ok (.istore_n 2, 1) := by decide +kernel
theorem dX10_isReadCell_2 : decode cX10_isReadCell 2 = .ok (.iconst 0, 1) := by decide +kernel
theorem dX10_isReadCell_3 : decode cX10_isReadCell 3 = .ok (.istore_n 3, 1) := by decide +kernel
theorem dX10_isReadCell_4 : decode cX10_isReadCell 4 = .ok (.iload_n 3, 1) := by decide +kernel
theorem dX10_isReadCell_5 : decode cX10_isReadCell 5 = .ok (.aload_n 0, 1) := by decide +kernel
theorem dX10_isReadCell_6 : decode cX10_isReadCell 6 = .ok (.getfield 13, 3) := by decide +kernel
theorem dX10_isReadCell_9 : decode cX10_isReadCell 9 = .ok (.bipush 38, 2) := by decide +kernel
theorem dX10_isReadCell_11 : decode cX10_isReadCell 11 = .ok (.iaload, 1) := by decide +kernel
theorem dX10_isReadCell_12 : decode cX10_isReadCell 12 = .ok (.if_icmp .ge 29, 3) := by decide +kernel
theorem dX10_isReadCell_15 : decode cX10_isReadCell 15 = .ok (.iload_n 2, 1) := by decide +kernel
theorem dX10_isReadCell_16 : decode cX10_isReadCell 16 = .ok (.ifCond .ne 13, 3) := by decide +kernel
theorem dX10_isReadCell_19 : decode cX10_isReadCell 19 = .ok (.aload_n 0, 1) := by decide +kernel
theorem dX10_isReadCell_20 : decode cX10_isReadCell 20 = .ok (.getfield 13, 3) := by decide +kernel
theorem dX10_isReadCell_23 : decode cX10_isReadCell 23 = .ok (.iload_n 3, 1) := by decide +kernel
theorem dX10_isReadCell_24 : decode cX10_isReadCell 24 = .ok (.iaload, 1) := by decide +kernel
theorem dX10_isReadCell_25 : decode cX10_isReadCell 25 = .ok (.iload_n 1, 1) := by decide +kernel
theorem dX10_isReadCell_26 : decode cX10_isReadCell 26 = .ok (.if_icmp .ne 7, 3) := by decide +kernel
theorem dX10_isReadCell_29 : decode cX10_isReadCell 29 = .ok (.iconst 1, 1) := by decide +kernel
theorem dX10_isReadCell_30 : decode cX10_isReadCell 30 = .ok (.goto 4, 3) := by decide +kernel
theorem dX10_isReadCell_33 : decode cX10_isReadCell 33 = .ok (.iconst 0, 1) := by decide +kernel
theorem dX10_isReadCell_34 : decode cX10_isReadCell 34 = .ok (.istore_n 2, 1) := by decide +kernel
theorem dX10_isReadCell_35 : decode cX10_isReadCell 35 = .ok (.iinc 3 1, 3) := by decide +kernel
theorem dX10_isReadCell_38 : decode cX10_isReadCell 38 = .ok (.goto (-34), 3) := by decide +kernel
theorem dX10_isReadCell_41 : decode cX10_isReadCell 41 = .ok (.iconst 0, 1) := by decide +kernel
theorem dX10_isReadCell_42 : decode cX10_isReadCell 42 = .ok (.istore_n 3, 1) := by decide +kernel
theorem dX10_isReadCell_43 : decode cX10_isReadCell 43 = .ok (.iload_n 3, 1) := by decide +kernel
theorem dX10_isReadCell_44 : decode cX10_isReadCell 44 = .ok (.aload_n 0, 1) := by decide +kernel
theorem dX10_isReadCell_45 : decode cX10_isReadCell 45 = .ok (.getfield 13, 3) := by decide +kernel
theorem dX10_isReadCell_48 : decode cX10_isReadCell 48 = .ok (.bipush 39, 2) := by decide +kernel
theorem dX10_isReadCell_50 : decode cX10_isReadCell 50 = .ok (.iaload, 1) := by decide +kernel
theorem dX10_isReadCell_51 : decode cX10_isReadCell 51 = .ok (.if_icmp .ge 32, 3) := by decide +kernel
theorem dX10_isReadCell_54 : decode cX10_isReadCell 54 = .ok (.iload_n 2, 1) := by decide +kernel
theorem dX10_isReadCell_55 : decode cX10_isReadCell 55 = .ok (.ifCond .ne 16, 3) := by decide +kernel
theorem dX10_isReadCell_58 : decode cX10_isReadCell 58 = .ok (.aload_n 0, 1) := by decide +kernel
theorem dX10_isReadCell_59 : decode cX10_isReadCell 59 = .ok (.getfield 13, 3) := by decide +kernel
theorem dX10_isReadCell_62 : decode cX10_isReadCell 62 = .ok (.bipush 14, 2) := by decide +kernel
theorem dX10_isReadCell_64 : decode cX10_isReadCell 64 = .ok (.iload_n 3, 1) := by decide +kernel
theorem dX10_isReadCell_65 : decode cX10_isReadCell 65 = .ok (.iadd, 1) := by decide +kernel
theorem dX10_isReadCell_66 : decode cX10_isReadCell 66 = .ok (.iaload, 1) := by decide +kernel
theorem dX10_isReadCell_67 : decode cX10_isReadCell 67 = .ok (.iload_n 1, 1) := by decide +kernel
theorem dX10_isReadCell_68 : decode cX10_isReadCell 68 = .ok (.if_icmp .ne 7, 3) := by decide +kernel
theorem dX10_isReadCell_71 : decode cX10_isReadCell 71 = .ok (.iconst 1, 1) := by decide +kernel
theorem dX10_isReadCell_72 : decode cX10_isReadCell 72 = .ok (.goto 4, 3) := by decide +kernel
theorem dX10_isReadCell_75 : decode cX10_isReadCell 75 = .ok (.iconst 0, 1) := by decide +kernel
theorem dX10_isReadCell_76 : decode cX10_isReadCell 76 = .ok (.istore_n 2, 1) := by decide +kernel
theorem dX10_isReadCell_77 : decode cX10_isReadCell 77 = .ok (.iinc 3 1, 3) := by decide +kernel
theorem dX10_isReadCell_80 : decode cX10_isReadCell 80 = .ok (.goto (-37), 3) := by decide +kernel
theorem dX10_isReadCell_83 : decode cX10_isReadCell 83 = .ok (.iload_n 2, 1) := by decide +kernel
theorem dX10_isReadCell_84 : decode cX10_isReadCell 84 = .ok (.ireturn, 1) := by decide +kernel
theorem dX10_cellHere_0 : decode cX10_cellHere 0 = .ok (.aload_n 0, 1) := by decide +kernel
theorem dX10_cellHere_1 : decode cX10_cellHere 1 = .ok (.getfield 57, 3) := by decide +kernel
theorem dX10_cellHere_4 : decode cX10_cellHere 4 = .ok (.ifCond .ne 28, 3) := by decide +kernel
theorem dX10_cellHere_7 : decode cX10_cellHere 7 = .ok (.aload_n 0, 1) := by decide +kernel
theorem dX10_cellHere_8 : decode cX10_cellHere 8 = .ok (.getfield 66, 3) := by decide +kernel
theorem dX10_cellHere_11 : decode cX10_cellHere 11 = .ok (.iconst 2, 1) := by decide +kernel
theorem dX10_cellHere_12 : decode cX10_cellHere 12 = .ok (.if_icmp .ne 20, 3) := by decide +kernel
theorem dX10_cellHere_15 : decode cX10_cellHere 15 = .ok (.aload_n 0, 1) := by decide +kernel
theorem dX10_cellHere_16 : decode cX10_cellHere 16 = .ok (.getfield 76, 3) := by decide +kernel
theorem dX10_cellHere_19 : decode cX10_cellHere 19 = .ok (.bipush 10, 2) := by decide +kernel
theorem dX10_cellHere_21 : decode cX10_cellHere 21 = .ok (.irem, 1) := by decide +kernel
theorem dX10_cellHere_22 : decode cX10_cellHere 22 = .ok (.bipush 8, 2) := by decide +kernel
theorem dX10_cellHere_24 : decode cX10_cellHere 24 = .ok (.if_icmp .lt 8, 3) := by decide +kernel
theorem dX10_cellHere_27 : decode cX10_cellHere 27 = .ok (.aload_n 0, 1) := by decide +kernel
theorem dX10_cellHere_28 : decode cX10_cellHere 28 = .ok (.iconst 3, 1) := by decide +kernel
theorem dX10_cellHere_29 : decode cX10_cellHere 29 = .ok (.invokevirtual 87, 3) := by decide +kernel
theorem dX10_cellHere_32 : decode cX10_cellHere 32 = .ok (.aload_n 0, 1) := by decide +kernel
theorem dX10_cellHere_33 : decode cX10_cellHere 33 = .ok (.getfield 57, 3) := by decide +kernel
theorem dX10_cellHere_36 : decode cX10_cellHere 36 = .ok (.ifCond .ne 27, 3) := by decide +kernel
theorem dX10_cellHere_39 : decode cX10_cellHere 39 = .ok (.aload_n 0, 1) := by decide +kernel
theorem dX10_cellHere_40 : decode cX10_cellHere 40 = .ok (.getfield 66, 3) := by decide +kernel
theorem dX10_cellHere_43 : decode cX10_cellHere 43 = .ok (.iconst 2, 1) := by decide +kernel
theorem dX10_cellHere_44 : decode cX10_cellHere 44 = .ok (.if_icmp .ne 19, 3) := by decide +kernel
theorem dX10_cellHere_47 : decode cX10_cellHere 47 = .ok (.aload_n 0, 1) := by decide +kernel
theorem dX10_cellHere_48 : decode cX10_cellHere 48 = .ok (.aload_n 0, 1) := by decide +kernel
theorem dX10_cellHere_49 : decode cX10_cellHere 49 = .ok (.getfield 76, 3) := by decide +kernel
theorem dX10_cellHere_52 : decode cX10_cellHere 52 = .ok (.invokevirtual 94, 3) := by decide +kernel
theorem dX10_cellHere_55 : decode cX10_cellHere 55 = .ok (.ifCond .eq 8, 3) := by decide +kernel
theorem dX10_cellHere_58 : decode cX10_cellHere 58 = .ok (.aload_n 0, 1) := by decide +kernel
theorem dX10_cellHere_59 : decode cX10_cellHere 59 = .ok (.iconst 4, 1) := by decide +kernel
theorem dX10_cellHere_60 : decode cX10_cellHere 60 = .ok (.invokevirtual 87, 3) := by decide +kernel
theorem dX10_cellHere_63 : decode cX10_cellHere 63 = .ok (.aload_n 0, 1) := by decide +kernel
theorem dX10_cellHere_64 : decode cX10_cellHere 64 = .ok (.iconst 0, 1) := by decide +kernel
theorem dX10_cellHere_65 : decode cX10_cellHere 65 = .ok (.bipush 97, 2) := by decide +kernel
theorem dX10_cellHere_67 : decode cX10_cellHere 67 = .ok (.invokevirtual 98, 3) := by decide +kernel
theorem dX10_cellHere_70 : decode cX10_cellHere 70 = .ok (.ireturn, 1) := by decide +kernel
theorem dX10_readMore_0 : decode cX10_readMore 0 = .ok (.iload_n 1, 1) := by decide +kernel
theorem dX10_readMore_1 : decode cX10_readMore 1 = .ok (.iconst 3, 1) := by decide +kernel
theorem dX10_readMore_2 : decode cX10_readMore 2 = .ok (.if_icmp .gt 48, 3) := by decide +kernel
theorem dX10_readMore_5 : decode cX10_readMore 5 = .ok (.aload_n 0, 1) := by decide +kernel
theorem dX10_readMore_6 : decode cX10_readMore 6 = .ok (.getfield 13, 3) := by decide +kernel
theorem dX10_readMore_9 : decode cX10_readMore 9 = .ok (.bipush 18, 2) := by decide +kernel
theorem dX10_readMore_11 : decode cX10_readMore 11 = .ok (.aload_n 0, 1) := by decide +kernel
theorem dX10_readMore_12 : decode cX10_readMore 12 = .ok (.getfield 102, 3) := by decide +kernel
theorem dX10_readMore_15 : decode cX10_readMore 15 = .ok (.iadd, 1) := by decide +kernel
theorem dX10_readMore_16 : decode cX10_readMore 16 = .ok (.iload_n 1, 1) := by decide +kernel
theorem dX10_readMore_17 : decode cX10_readMore 17 = .ok (.iastore, 1) := by decide +kernel
theorem dX10_readMore_18 : decode cX10_readMore 18 = .ok (.aload_n 0, 1) := by decide +kernel
theorem dX10_readMore_19 : decode cX10_readMore 19 = .ok (.getfield 13, 3) := by decide +kernel
theorem dX10_readMore_22 : decode cX10_readMore 22 = .ok (.bipush 22, 2) := by decide +kernel
theorem dX10_readMore_24 : decode cX10_readMore 24 = .ok (.aload_n 0, 1) := by decide +kernel
theorem dX10_readMore_25 : decode cX10_readMore 25 = .ok (.getfield 102, 3) := by decide +kernel
theorem dX10_readMore_28 : decode cX10_readMore 28 = .ok (.iadd, 1) := by decide +kernel
theorem dX10_readMore_29 : decode cX10_readMore 29 = .ok (.aload_n 0, 1) := by decide +kernel
theorem dX10_readMore_30 : decode cX10_readMore 30 = .ok (.iconst 1, 1) := by decide +kernel
theorem dX10_readMore_31 : decode cX10_readMore 31 = .ok (.bipush 9, 2) := by decide +kernel
theorem dX10_readMore_33 : decode cX10_readMore 33 = .ok (.invokevirtual 98, 3) := by decide +kernel
theorem dX10_readMore_36 : decode cX10_readMore 36 = .ok (.iastore, 1) := by decide +kernel
theorem dX10_readMore_37 : decode cX10_readMore 37 = .ok (.aload_n 0, 1) := by decide +kernel
theorem dX10_readMore_38 : decode cX10_readMore 38 = .ok (.dup, 1) := by decide +kernel
theorem dX10_readMore_39 : decode cX10_readMore 39 = .ok (.getfield 102, 3) := by decide +kernel
theorem dX10_readMore_42 : decode cX10_readMore 42 = .ok (.iconst 1, 1) := by decide +kernel
theorem dX10_readMore_43 : decode cX10_readMore 43 = .ok (.iadd, 1) := by decide +kernel
theorem dX10_readMore_44 : decode cX10_readMore 44 = .ok (.putfield 102, 3) := by decide +kernel
theorem dX10_readMore_47 : decode cX10_readMore 47 = .ok (.goto 165, 3) := by decide +kernel
theorem dX10_readMore_50 : decode cX10_readMore 50 = .ok (.iload_n 1, 1) := by decide +kernel
theorem dX10_readMore_51 : decode cX10_readMore 51 = .ok (.iconst 4, 1) := by decide +kernel
theorem dX10_readMore_52 : decode cX10_readMore 52 = .ok (.if_icmp .ne 50, 3) := by decide +kernel
theorem dX10_readMore_55 : decode cX10_readMore 55 = .ok (.aload_n 0, 1) := by decide +kernel
theorem dX10_readMore_56 : decode cX10_readMore 56 = .ok (.getfield 13, 3) := by decide +kernel
theorem dX10_readMore_59 : decode cX10_readMore 59 = .ok (.bipush 38, 2) := by decide +kernel
theorem dX10_readMore_61 : decode cX10_readMore 61 = .ok (.iaload, 1) := by decide +kernel
theorem dX10_readMore_62 : decode cX10_readMore 62 = .ok (.istore_n 2, 1) := by decide +kernel
theorem dX10_readMore_63 : decode cX10_readMore 63 = .ok (.aload_n 0, 1) := by decide +kernel
theorem dX10_readMore_64 : decode cX10_readMore 64 = .ok (.getfield 13, 3) := by decide +kernel
theorem dX10_readMore_67 : decode cX10_readMore 67 = .ok (.iload_n 2, 1) := by decide +kernel
theorem dX10_readMore_68 : decode cX10_readMore 68 = .ok (.aload_n 0, 1) := by decide +kernel
theorem dX10_readMore_69 : decode cX10_readMore 69 = .ok (.invokevirtual 105, 3) := by decide +kernel
theorem dX10_readMore_72 : decode cX10_readMore 72 = .ok (.iastore, 1) := by decide +kernel
theorem dX10_readMore_73 : decode cX10_readMore 73 = .ok (.aload_n 0, 1) := by decide +kernel
theorem dX10_readMore_74 : decode cX10_readMore 74 = .ok (.getfield 13, 3) := by decide +kernel
theorem dX10_readMore_77 : decode cX10_readMore 77 = .ok (.bipush 7, 2) := by decide +kernel
theorem dX10_readMore_79 : decode cX10_readMore 79 = .ok (.iload_n 2, 1) := by decide +kernel
theorem dX10_readMore_80 : decode cX10_readMore 80 = .ok (.iadd, 1) := by decide +kernel
theorem dX10_readMore_81 : decode cX10_readMore 81 = .ok (.aload_n 0, 1) := by decide +kernel
theorem dX10_readMore_82 : decode cX10_readMore 82 = .ok (.iconst 0, 1) := by decide +kernel
theorem dX10_readMore_83 : decode cX10_readMore 83 = .ok (.iconst 3, 1) := by decide +kernel
theorem dX10_readMore_84 : decode cX10_readMore 84 = .ok (.invokevirtual 98, 3) := by decide +kernel
theorem dX10_readMore_87 : decode cX10_readMore 87 = .ok (.iastore, 1) := by decide +kernel
theorem dX10_readMore_88 : decode cX10_readMore 88 = .ok (.aload_n 0, 1) := by decide +kernel
theorem dX10_readMore_89 : decode cX10_readMore 89 = .ok (.getfield 13, 3) := by decide +kernel
theorem dX10_readMore_92 : decode cX10_readMore 92 = .ok (.bipush 38, 2) := by decide +kernel
theorem dX10_readMore_94 : decode cX10_readMore 94 = .ok (.dup2, 1) := by decide +kernel
theorem dX10_readMore_95 : decode cX10_readMore 95 = .ok (.iaload, 1) := by decide +kernel
theorem dX10_readMore_96 : decode cX10_readMore 96 = .ok (.iconst 1, 1) := by decide +kernel
theorem dX10_readMore_97 : decode cX10_readMore 97 = .ok (.iadd, 1) := by decide +kernel
theorem dX10_readMore_98 : decode cX10_readMore 98 = .ok (.iastore, 1) := by decide +kernel
theorem dX10_readMore_99 : decode cX10_readMore 99 = .ok (.goto 113, 3) := by decide +kernel
theorem dX10_readMore_102 : decode cX10_readMore 102 = .ok (.iload_n 1, 1) := by decide +kernel
theorem dX10_readMore_103 : decode cX10_readMore 103 = .ok (.iconst 5, 1) := by decide +kernel
theorem dX10_readMore_104 : decode cX10_readMore 104 = .ok (.if_icmp .ne 36, 3) := by decide +kernel
theorem dX10_readMore_107 : decode cX10_readMore 107 = .ok (.aload_n 0, 1) := by decide +kernel
theorem dX10_readMore_108 : decode cX10_readMore 108 = .ok (.getfield 13, 3) := by decide +kernel
theorem dX10_readMore_111 : decode cX10_readMore 111 = .ok (.bipush 14, 2) := by decide +kernel
theorem dX10_readMore_113 : decode cX10_readMore 113 = .ok (.aload_n 0, 1) := by decide +kernel
theorem dX10_readMore_114 : decode cX10_readMore 114 = .ok (.getfield 13, 3) := by decide +kernel
theorem dX10_readMore_117 : decode cX10_readMore 117 = .ok (.bipush 39, 2) := by decide +kernel
theorem dX10_readMore_119 : decode cX10_readMore 119 = .ok (.iaload, 1) := by decide +kernel
theorem dX10_readMore_120 : decode cX10_readMore 120 = .ok (.iadd, 1) := by decide +kernel
theorem dX10_readMore_121 : decode cX10_readMore 121 = .ok (.aload_n 0, 1) := by decide +kernel
theorem dX10_readMore_122 : decode cX10_readMore 122 = .ok (.invokevirtual 105, 3) := by decide +kernel
theorem dX10_readMore_125 : decode cX10_readMore 125 = .ok (.iastore, 1) := by decide +kernel
theorem dX10_readMore_126 : decode cX10_readMore 126 = .ok (.aload_n 0, 1) := by decide +kernel
theorem dX10_readMore_127 : decode cX10_readMore 127 = .ok (.getfield 13, 3) := by decide +kernel
theorem dX10_readMore_130 : decode cX10_readMore 130 = .ok (.bipush 39, 2) := by decide +kernel
theorem dX10_readMore_132 : decode cX10_readMore 132 = .ok (.dup2, 1) := by decide +kernel
theorem dX10_readMore_133 : decode cX10_readMore 133 = .ok (.iaload, 1) := by decide +kernel
theorem dX10_readMore_134 : decode cX10_readMore 134 = .ok (.iconst 1, 1) := by decide +kernel
theorem dX10_readMore_135 : decode cX10_readMore 135 = .ok (.iadd, 1) := by decide +kernel
theorem dX10_readMore_136 : decode cX10_readMore 136 = .ok (.iastore, 1) := by decide +kernel
theorem dX10_readMore_137 : decode cX10_readMore 137 = .ok (.goto 75, 3) := by decide +kernel
theorem dX10_readMore_140 : decode cX10_readMore 140 = .ok (.aload_n 0, 1) := by decide +kernel
theorem dX10_readMore_141 : decode cX10_readMore 141 = .ok (.getfield 13, 3) := by decide +kernel
theorem dX10_readMore_144 : decode cX10_readMore 144 = .ok (.bipush 40, 2) := by decide +kernel
theorem dX10_readMore_146 : decode cX10_readMore 146 = .ok (.iaload, 1) := by decide +kernel
theorem dX10_readMore_147 : decode cX10_readMore 147 = .ok (.istore_n 2, 1) := by decide +kernel
theorem dX10_readMore_148 : decode cX10_readMore 148 = .ok (.aload_n 0, 1) := by decide +kernel
theorem dX10_readMore_149 : decode cX10_readMore 149 = .ok (.iconst 0, 1) := by decide +kernel
theorem dX10_readMore_150 : decode cX10_readMore 150 = .ok (.iconst 3, 1) := by decide +kernel
theorem dX10_readMore_151 : decode cX10_readMore 151 = .ok (.invokevirtual 98, 3) := by decide +kernel
theorem dX10_readMore_154 : decode cX10_readMore 154 = .ok (.istore_n 3, 1) := by decide +kernel
theorem dX10_readMore_155 : decode cX10_readMore 155 = .ok (.aload_n 0, 1) := by decide +kernel
theorem dX10_readMore_156 : decode cX10_readMore 156 = .ok (.iload_n 3, 1) := by decide +kernel
theorem dX10_readMore_157 : decode cX10_readMore 157 = .ok (.aload_n 0, 1) := by decide +kernel
theorem dX10_readMore_158 : decode cX10_readMore 158 = .ok (.getfield 109, 3) := by decide +kernel
theorem dX10_readMore_161 : decode cX10_readMore 161 = .ok (.if_icmp .le 7, 3) := by decide +kernel
theorem dX10_readMore_164 : decode cX10_readMore 164 = .ok (.iload_n 3, 1) := by decide +kernel
theorem dX10_readMore_165 : decode cX10_readMore 165 = .ok (.goto 7, 3) := by decide +kernel
theorem dX10_readMore_168 : decode cX10_readMore 168 = .ok (.aload_n 0, 1) := by decide +kernel
theorem dX10_readMore_169 : decode cX10_readMore 169 = .ok (.getfield 109, 3) := by decide +kernel
theorem dX10_readMore_172 : decode cX10_readMore 172 = .ok (.putfield 109, 3) := by decide +kernel
theorem dX10_readMore_175 : decode cX10_readMore 175 = .ok (.aload_n 0, 1) := by decide +kernel
theorem dX10_readMore_176 : decode cX10_readMore 176 = .ok (.getfield 13, 3) := by decide +kernel
theorem dX10_readMore_179 : decode cX10_readMore 179 = .ok (.bipush 26, 2) := by decide +kernel
theorem dX10_readMore_181 : decode cX10_readMore 181 = .ok (.iload_n 2, 1) := by decide +kernel
theorem dX10_readMore_182 : decode cX10_readMore 182 = .ok (.iadd, 1) := by decide +kernel
theorem dX10_readMore_183 : decode cX10_readMore 183 = .ok (.iload_n 3, 1) := by decide +kernel
theorem dX10_readMore_184 : decode cX10_readMore 184 = .ok (.iastore, 1) := by decide +kernel
theorem dX10_readMore_185 : decode cX10_readMore 185 = .ok (.aload_n 0, 1) := by decide +kernel
theorem dX10_readMore_186 : decode cX10_readMore 186 = .ok (.getfield 13, 3) := by decide +kernel
theorem dX10_readMore_189 : decode cX10_readMore 189 = .ok (.bipush 32, 2) := by decide +kernel
theorem dX10_readMore_191 : decode cX10_readMore 191 = .ok (.iload_n 2, 1) := by decide +kernel
theorem dX10_readMore_192 : decode cX10_readMore 192 = .ok (.iadd, 1) := by decide +kernel
theorem dX10_readMore_193 : decode cX10_readMore 193 = .ok (.aload_n 0, 1) := by decide +kernel
theorem dX10_readMore_194 : decode cX10_readMore 194 = .ok (.iconst 0, 1) := by decide +kernel
theorem dX10_readMore_195 : decode cX10_readMore 195 = .ok (.bipush 7, 2) := by decide +kernel
theorem dX10_readMore_197 : decode cX10_readMore 197 = .ok (.invokevirtual 98, 3) := by decide +kernel
theorem dX10_readMore_200 : decode cX10_readMore 200 = .ok (.iastore, 1) := by decide +kernel
theorem dX10_readMore_201 : decode cX10_readMore 201 = .ok (.aload_n 0, 1) := by decide +kernel
theorem dX10_readMore_202 : decode cX10_readMore 202 = .ok (.getfield 13, 3) := by decide +kernel
theorem dX10_readMore_205 : decode cX10_readMore 205 = .ok (.bipush 40, 2) := by decide +kernel
theorem dX10_readMore_207 : decode cX10_readMore 207 = .ok (.dup2, 1) := by decide +kernel
theorem dX10_readMore_208 : decode cX10_readMore 208 = .ok (.iaload, 1) := by decide +kernel
theorem dX10_readMore_209 : decode cX10_readMore 209 = .ok (.iconst 1, 1) := by decide +kernel
theorem dX10_readMore_210 : decode cX10_readMore 210 = .ok (.iadd, 1) := by decide +kernel
theorem dX10_readMore_211 : decode cX10_readMore 211 = .ok (.iastore, 1) := by decide +kernel
theorem dX10_readMore_212 : decode cX10_readMore 212 = .ok (.return_, 1) := by decide +kernel
theorem dX10_isFull_0 : decode cX10_isFull 0 = .ok (.iload_n 1, 1) := by decide +kernel
theorem dX10_isFull_1 : decode cX10_isFull 1 = .ok (.iconst 3, 1) := by decide +kernel
theorem dX10_isFull_2 : decode cX10_isFull 2 = .ok (.if_icmp .gt 19, 3) := by decide +kernel
theorem dX10_isFull_5 : decode cX10_isFull 5 = .ok (.aload_n 0, 1) := by decide +kernel
theorem dX10_isFull_6 : decode cX10_isFull 6 = .ok (.getfield 102, 3) := by decide +kernel
theorem dX10_isFull_9 : decode cX10_isFull 9 = .ok (.iconst 4, 1) := by decide +kernel
theorem dX10_isFull_10 : decode cX10_isFull 10 = .ok (.if_icmp .ne 7, 3) := by decide +kernel
theorem dX10_isFull_13 : decode cX10_isFull 13 = .ok (.iconst 1, 1) := by decide +kernel
theorem dX10_isFull_14 : decode cX10_isFull 14 = .ok (.goto 73, 3) := by decide +kernel
theorem dX10_isFull_17 : decode cX10_isFull 17 = .ok (.iconst 0, 1) := by decide +kernel
theorem dX10_isFull_18 : decode cX10_isFull 18 = .ok (.goto 69, 3) := by decide +kernel
theorem dX10_isFull_21 : decode cX10_isFull 21 = .ok (.iload_n 1, 1) := by decide +kernel
theorem dX10_isFull_22 : decode cX10_isFull 22 = .ok (.iconst 4, 1) := by decide +kernel
theorem dX10_isFull_23 : decode cX10_isFull 23 = .ok (.if_icmp .ne 23, 3) := by decide +kernel
theorem dX10_isFull_26 : decode cX10_isFull 26 = .ok (.aload_n 0, 1) := by decide +kernel
theorem dX10_isFull_27 : decode cX10_isFull 27 = .ok (.getfield 13, 3) := by decide +kernel
theorem dX10_isFull_30 : decode cX10_isFull 30 = .ok (.bipush 38, 2) := by decide +kernel
theorem dX10_isFull_32 : decode cX10_isFull 32 = .ok (.iaload, 1) := by decide +kernel
theorem dX10_isFull_33 : decode cX10_isFull 33 = .ok (.bipush 7, 2) := by decide +kernel
theorem dX10_isFull_35 : decode cX10_isFull 35 = .ok (.if_icmp .ne 7, 3) := by decide +kernel
theorem dX10_isFull_38 : decode cX10_isFull 38 = .ok (.iconst 1, 1) := by decide +kernel
theorem dX10_isFull_39 : decode cX10_isFull 39 = .ok (.goto 48, 3) := by decide +kernel
theorem dX10_isFull_42 : decode cX10_isFull 42 = .ok (.iconst 0, 1) := by decide +kernel
theorem dX10_isFull_43 : decode cX10_isFull 43 = .ok (.goto 44, 3) := by decide +kernel
theorem dX10_isFull_46 : decode cX10_isFull 46 = .ok (.iload_n 1, 1) := by decide +kernel
theorem dX10_isFull_47 : decode cX10_isFull 47 = .ok (.iconst 5, 1) := by decide +kernel
theorem dX10_isFull_48 : decode cX10_isFull 48 = .ok (.if_icmp .ne 22, 3) := by decide +kernel
theorem dX10_isFull_51 : decode cX10_isFull 51 = .ok (.aload_n 0, 1) := by decide +kernel
theorem dX10_isFull_52 : decode cX10_isFull 52 = .ok (.getfield 13, 3) := by decide +kernel
theorem dX10_isFull_55 : decode cX10_isFull 55 = .ok (.bipush 39, 2) := by decide +kernel
theorem dX10_isFull_57 : decode cX10_isFull 57 = .ok (.iaload, 1) := by decide +kernel
theorem dX10_isFull_58 : decode cX10_isFull 58 = .ok (.iconst 4, 1) := by decide +kernel
theorem dX10_isFull_59 : decode cX10_isFull 59 = .ok (.if_icmp .ne 7, 3) := by decide +kernel
theorem dX10_isFull_62 : decode cX10_isFull 62 = .ok (.iconst 1, 1) := by decide +kernel
theorem dX10_isFull_63 : decode cX10_isFull 63 = .ok (.goto 24, 3) := by decide +kernel
theorem dX10_isFull_66 : decode cX10_isFull 66 = .ok (.iconst 0, 1) := by decide +kernel
theorem dX10_isFull_67 : decode cX10_isFull 67 = .ok (.goto 20, 3) := by decide +kernel
theorem dX10_isFull_70 : decode cX10_isFull 70 = .ok (.aload_n 0, 1) := by decide +kernel
theorem dX10_isFull_71 : decode cX10_isFull 71 = .ok (.getfield 13, 3) := by decide +kernel
theorem dX10_isFull_74 : decode cX10_isFull 74 = .ok (.bipush 40, 2) := by decide +kernel
theorem dX10_isFull_76 : decode cX10_isFull 76 = .ok (.iaload, 1) := by decide +kernel
theorem dX10_isFull_77 : decode cX10_isFull 77 = .ok (.bipush 6, 2) := by decide +kernel
theorem dX10_isFull_79 : decode cX10_isFull 79 = .ok (.if_icmp .ne 7, 3) := by decide +kernel
theorem dX10_isFull_82 : decode cX10_isFull 82 = .ok (.iconst 1, 1) := by decide +kernel
theorem dX10_isFull_83 : decode cX10_isFull 83 = .ok (.goto 4, 3) := by decide +kernel
theorem dX10_isFull_86 : decode cX10_isFull 86 = .ok (.iconst 0, 1) := by decide +kernel
theorem dX10_isFull_87 : decode cX10_isFull 87 = .ok (.ireturn, 1) := by decide +kernel
theorem dX10_readLine_0 : decode cX10_readLine 0 = .ok (.aload_n 0, 1) := by decide +kernel
theorem dX10_readLine_1 : decode cX10_readLine 1 = .ok (.invokevirtual 112, 3) := by decide +kernel
theorem dX10_readLine_4 : decode cX10_readLine 4 = .ok (.istore_n 1, 1) := by decide +kernel
theorem dX10_readLine_5 : decode cX10_readLine 5 = .ok (.iload_n 1, 1) := by decide +kernel
theorem dX10_readLine_6 : decode cX10_readLine 6 = .ok (.i2l, 1) := by decide +kernel
theorem dX10_readLine_7 : decode cX10_readLine 7 = .ok (.lconst 0, 1) := by decide +kernel
theorem dX10_readLine_8 : decode cX10_readLine 8 = .ok (.ldc2_w 115, 3) := by decide +kernel
theorem dX10_readLine_11 : decode cX10_readLine 11 = .ok (.invokestatic 49, 3) := by decide +kernel
theorem dX10_readLine_14 : decode cX10_readLine 14 = .ok (.ifCond .ne 9, 3) := by decide +kernel
theorem dX10_readLine_17 : decode cX10_readLine 17 = .ok (.aload_n 0, 1) := by decide +kernel
theorem dX10_readLine_18 : decode cX10_readLine 18 = .ok (.iconst 2, 1) := by decide +kernel
theorem dX10_readLine_19 : decode cX10_readLine 19 = .ok (.invokevirtual 87, 3) := by decide +kernel
theorem dX10_readLine_22 : decode cX10_readLine 22 = .ok (.return_, 1) := by decide +kernel
theorem dX10_readLine_23 : decode cX10_readLine 23 = .ok (.aload_n 0, 1) := by decide +kernel
theorem dX10_readLine_24 : decode cX10_readLine 24 = .ok (.iload_n 1, 1) := by decide +kernel
theorem dX10_readLine_25 : decode cX10_readLine 25 = .ok (.invokevirtual 117, 3) := by decide +kernel
theorem dX10_readLine_28 : decode cX10_readLine 28 = .ok (.ifCond .eq 8, 3) := by decide +kernel
theorem dX10_readLine_31 : decode cX10_readLine 31 = .ok (.aload_n 0, 1) := by decide +kernel
theorem dX10_readLine_32 : decode cX10_readLine 32 = .ok (.iconst 5, 1) := by decide +kernel
theorem dX10_readLine_33 : decode cX10_readLine 33 = .ok (.invokevirtual 87, 3) := by decide +kernel
theorem dX10_readLine_36 : decode cX10_readLine 36 = .ok (.aload_n 0, 1) := by decide +kernel
theorem dX10_readLine_37 : decode cX10_readLine 37 = .ok (.invokevirtual 91, 3) := by decide +kernel
theorem dX10_readLine_40 : decode cX10_readLine 40 = .ok (.aload_n 0, 1) := by decide +kernel
theorem dX10_readLine_41 : decode cX10_readLine 41 = .ok (.getfield 57, 3) := by decide +kernel
theorem dX10_readLine_44 : decode cX10_readLine 44 = .ok (.ifCond .le 4, 3) := by decide +kernel
theorem dX10_readLine_47 : decode cX10_readLine 47 = .ok (.return_, 1) := by decide +kernel
theorem dX10_readLine_48 : decode cX10_readLine 48 = .ok (.aload_n 0, 1) := by decide +kernel
theorem dX10_readLine_49 : decode cX10_readLine 49 = .ok (.iload_n 1, 1) := by decide +kernel
theorem dX10_readLine_50 : decode cX10_readLine 50 = .ok (.invokevirtual 120, 3) := by decide +kernel
theorem dX10_readLine_53 : decode cX10_readLine 53 = .ok (.aload_n 0, 1) := by decide +kernel
theorem dX10_readLine_54 : decode cX10_readLine 54 = .ok (.getfield 57, 3) := by decide +kernel
theorem dX10_readLine_57 : decode cX10_readLine 57 = .ok (.ifCond .ne 16, 3) := by decide +kernel
theorem dX10_readLine_60 : decode cX10_readLine 60 = .ok (.aload_n 0, 1) := by decide +kernel
theorem dX10_readLine_61 : decode cX10_readLine 61 = .ok (.getfield 66, 3) := by decide +kernel
theorem dX10_readLine_64 : decode cX10_readLine 64 = .ok (.iconst 3, 1) := by decide +kernel
theorem dX10_readLine_65 : decode cX10_readLine 65 = .ok (.if_icmp .eq 8, 3) := by decide +kernel
theorem dX10_readLine_68 : decode cX10_readLine 68 = .ok (.aload_n 0, 1) := by decide +kernel
theorem dX10_readLine_69 : decode cX10_readLine 69 = .ok (.iconst 2, 1) := by decide +kernel
theorem dX10_readLine_70 : decode cX10_readLine 70 = .ok (.invokevirtual 87, 3) := by decide +kernel
theorem dX10_readLine_73 : decode cX10_readLine 73 = .ok (.aload_n 0, 1) := by decide +kernel
theorem dX10_readLine_74 : decode cX10_readLine 74 = .ok (.invokevirtual 91, 3) := by decide +kernel
theorem dX10_readLine_77 : decode cX10_readLine 77 = .ok (.return_, 1) := by decide +kernel
theorem dX10_text_0 : decode cX10_text 0 = .ok (.aload_n 0, 1) := by decide +kernel
theorem dX10_text_1 : decode cX10_text 1 = .ok (.iconst 0, 1) := by decide +kernel
theorem dX10_text_2 : decode cX10_text 2 = .ok (.putfield 57, 3) := by decide +kernel
theorem dX10_text_5 : decode cX10_text 5 = .ok (.aload_n 0, 1) := by decide +kernel
theorem dX10_text_6 : decode cX10_text 6 = .ok (.iconst 0, 1) := by decide +kernel
theorem dX10_text_7 : decode cX10_text 7 = .ok (.putfield 69, 3) := by decide +kernel
theorem dX10_text_10 : decode cX10_text 10 = .ok (.aload_n 0, 1) := by decide +kernel
theorem dX10_text_11 : decode cX10_text 11 = .ok (.iconst 0, 1) := by decide +kernel
theorem dX10_text_12 : decode cX10_text 12 = .ok (.putfield 102, 3) := by decide +kernel
theorem dX10_text_15 : decode cX10_text 15 = .ok (.aload_n 0, 1) := by decide +kernel
theorem dX10_text_16 : decode cX10_text 16 = .ok (.iconst (-1), 1) := by decide +kernel
theorem dX10_text_17 : decode cX10_text 17 = .ok (.putfield 109, 3) := by decide +kernel
theorem dX10_text_20 : decode cX10_text 20 = .ok (.iconst 0, 1) := by decide +kernel
theorem dX10_text_21 : decode cX10_text 21 = .ok (.istore_n 1, 1) := by decide +kernel
theorem dX10_text_22 : decode cX10_text 22 = .ok (.iconst 0, 1) := by decide +kernel
theorem dX10_text_23 : decode cX10_text 23 = .ok (.istore_n 2, 1) := by decide +kernel
theorem dX10_text_24 : decode cX10_text 24 = .ok (.iload_n 2, 1) := by decide +kernel
theorem dX10_text_25 : decode cX10_text 25 = .ok (.bipush 41, 2) := by decide +kernel
theorem dX10_text_27 : decode cX10_text 27 = .ok (.if_icmp .ge 16, 3) := by decide +kernel
theorem dX10_text_30 : decode cX10_text 30 = .ok (.aload_n 0, 1) := by decide +kernel
theorem dX10_text_31 : decode cX10_text 31 = .ok (.getfield 13, 3) := by decide +kernel
theorem dX10_text_34 : decode cX10_text 34 = .ok (.iload_n 2, 1) := by decide +kernel
theorem dX10_text_35 : decode cX10_text 35 = .ok (.iconst 0, 1) := by decide +kernel
theorem dX10_text_36 : decode cX10_text 36 = .ok (.iastore, 1) := by decide +kernel
theorem dX10_text_37 : decode cX10_text 37 = .ok (.iinc 2 1, 3) := by decide +kernel
theorem dX10_text_40 : decode cX10_text 40 = .ok (.goto (-16), 3) := by decide +kernel
theorem dX10_text_43 : decode cX10_text 43 = .ok (.aload_n 0, 1) := by decide +kernel
theorem dX10_text_44 : decode cX10_text 44 = .ok (.invokevirtual 91, 3) := by decide +kernel
theorem dX10_text_47 : decode cX10_text 47 = .ok (.aload_n 0, 1) := by decide +kernel
theorem dX10_text_48 : decode cX10_text 48 = .ok (.getfield 57, 3) := by decide +kernel
theorem dX10_text_51 : decode cX10_text 51 = .ok (.ifCond .ne 20, 3) := by decide +kernel
theorem dX10_text_54 : decode cX10_text 54 = .ok (.aload_n 0, 1) := by decide +kernel
theorem dX10_text_55 : decode cX10_text 55 = .ok (.getfield 66, 3) := by decide +kernel
theorem dX10_text_58 : decode cX10_text 58 = .ok (.ifCond .eq 13, 3) := by decide +kernel
theorem dX10_text_61 : decode cX10_text 61 = .ok (.aload_n 0, 1) := by decide +kernel
theorem dX10_text_62 : decode cX10_text 62 = .ok (.invokevirtual 123, 3) := by decide +kernel
theorem dX10_text_65 : decode cX10_text 65 = .ok (.iinc 1 1, 3) := by decide +kernel
theorem dX10_text_68 : decode cX10_text 68 = .ok (.goto (-21), 3) := by decide +kernel
theorem dX10_text_71 : decode cX10_text 71 = .ok (.aload_n 0, 1) := by decide +kernel
theorem dX10_text_72 : decode cX10_text 72 = .ok (.getfield 57, 3) := by decide +kernel
theorem dX10_text_75 : decode cX10_text 75 = .ok (.ifCond .ne 20, 3) := by decide +kernel
theorem dX10_text_78 : decode cX10_text 78 = .ok (.aload_n 0, 1) := by decide +kernel
theorem dX10_text_79 : decode cX10_text 79 = .ok (.getfield 109, 3) := by decide +kernel
theorem dX10_text_82 : decode cX10_text 82 = .ok (.aload_n 0, 1) := by decide +kernel
theorem dX10_text_83 : decode cX10_text 83 = .ok (.getfield 102, 3) := by decide +kernel
theorem dX10_text_86 : decode cX10_text 86 = .ok (.if_icmp .lt 9, 3) := by decide +kernel
theorem dX10_text_89 : decode cX10_text 89 = .ok (.aload_n 0, 1) := by decide +kernel
theorem dX10_text_90 : decode cX10_text 90 = .ok (.bipush 6, 2) := by decide +kernel
theorem dX10_text_92 : decode cX10_text 92 = .ok (.invokevirtual 87, 3) := by decide +kernel
theorem dX10_text_95 : decode cX10_text 95 = .ok (.aload_n 0, 1) := by decide +kernel
theorem dX10_text_96 : decode cX10_text 96 = .ok (.iconst 0, 1) := by decide +kernel
theorem dX10_text_97 : decode cX10_text 97 = .ok (.putfield 53, 3) := by decide +kernel
theorem dX10_text_100 : decode cX10_text 100 = .ok (.aload_n 0, 1) := by decide +kernel
theorem dX10_text_101 : decode cX10_text 101 = .ok (.aload_n 0, 1) := by decide +kernel
theorem dX10_text_102 : decode cX10_text 102 = .ok (.getfield 57, 3) := by decide +kernel
theorem dX10_text_105 : decode cX10_text 105 = .ok (.putfield 126, 3) := by decide +kernel
theorem dX10_text_108 : decode cX10_text 108 = .ok (.aload_n 0, 1) := by decide +kernel
theorem dX10_text_109 : decode cX10_text 109 = .ok (.getfield 57, 3) := by decide +kernel
theorem dX10_text_112 : decode cX10_text 112 = .ok (.ifCond .le 11, 3) := by decide +kernel
theorem dX10_text_115 : decode cX10_text 115 = .ok (.bipush (-10), 2) := by decide +kernel
theorem dX10_text_117 : decode cX10_text 117 = .ok (.aload_n 0, 1) := by decide +kernel
theorem dX10_text_118 : decode cX10_text 118 = .ok (.getfield 63, 3) := by decide +kernel
theorem dX10_text_121 : decode cX10_text 121 = .ok (.isub, 1) := by decide +kernel
theorem dX10_text_122 : decode cX10_text 122 = .ok (.ireturn, 1) := by decide +kernel
theorem dX10_text_123 : decode cX10_text 123 = .ok (.iconst 0, 1) := by decide +kernel
theorem dX10_text_124 : decode cX10_text 124 = .ok (.istore_n 2, 1) := by decide +kernel
theorem dX10_text_125 : decode cX10_text 125 = .ok (.iload_n 2, 1) := by decide +kernel
theorem dX10_text_126 : decode cX10_text 126 = .ok (.bipush 41, 2) := by decide +kernel
theorem dX10_text_128 : decode cX10_text 128 = .ok (.if_icmp .ge 21, 3) := by decide +kernel
theorem dX10_text_131 : decode cX10_text 131 = .ok (.aload_n 0, 1) := by decide +kernel
theorem dX10_text_132 : decode cX10_text 132 = .ok (.getfield 7, 3) := by decide +kernel
theorem dX10_text_135 : decode cX10_text 135 = .ok (.iload_n 2, 1) := by decide +kernel
theorem dX10_text_136 : decode cX10_text 136 = .ok (.aload_n 0, 1) := by decide +kernel
theorem dX10_text_137 : decode cX10_text 137 = .ok (.getfield 13, 3) := by decide +kernel
theorem dX10_text_140 : decode cX10_text 140 = .ok (.iload_n 2, 1) := by decide +kernel
theorem dX10_text_141 : decode cX10_text 141 = .ok (.iaload, 1) := by decide +kernel
theorem dX10_text_142 : decode cX10_text 142 = .ok (.iastore, 1) := by decide +kernel
theorem dX10_text_143 : decode cX10_text 143 = .ok (.iinc 2 1, 3) := by decide +kernel
theorem dX10_text_146 : decode cX10_text 146 = .ok (.goto (-21), 3) := by decide +kernel
theorem dX10_text_149 : decode cX10_text 149 = .ok (.aload_n 0, 1) := by decide +kernel
theorem dX10_text_150 : decode cX10_text 150 = .ok (.aload_n 0, 1) := by decide +kernel
theorem dX10_text_151 : decode cX10_text 151 = .ok (.getfield 102, 3) := by decide +kernel
theorem dX10_text_154 : decode cX10_text 154 = .ok (.putfield 129, 3) := by decide +kernel
theorem dX10_text_157 : decode cX10_text 157 = .ok (.aload_n 0, 1) := by decide +kernel
theorem dX10_text_158 : decode cX10_text 158 = .ok (.iconst 0, 1) := by decide +kernel
theorem dX10_text_159 : decode cX10_text 159 = .ok (.putfield 132, 3) := by decide +kernel
theorem dX10_text_162 : decode cX10_text 162 = .ok (.aload_n 0, 1) := by decide +kernel
theorem dX10_text_163 : decode cX10_text 163 = .ok (.getfield 34, 3) := by decide +kernel
theorem dX10_text_166 : decode cX10_text 166 = .ok (.iconst 0, 1) := by decide +kernel
theorem dX10_text_167 : decode cX10_text 167 = .ok (.iconst 0, 1) := by decide +kernel
theorem dX10_text_168 : decode cX10_text 168 = .ok (.bastore, 1) := by decide +kernel
theorem dX10_text_169 : decode cX10_text 169 = .ok (.aload_n 0, 1) := by decide +kernel
theorem dX10_text_170 : decode cX10_text 170 = .ok (.getfield 34, 3) := by decide +kernel
theorem dX10_text_173 : decode cX10_text 173 = .ok (.iconst 1, 1) := by decide +kernel
theorem dX10_text_174 : decode cX10_text 174 = .ok (.iconst 0, 1) := by decide +kernel
theorem dX10_text_175 : decode cX10_text 175 = .ok (.bastore, 1) := by decide +kernel
theorem dX10_text_176 : decode cX10_text 176 = .ok (.iload_n 1, 1) := by decide +kernel
theorem dX10_text_177 : decode cX10_text 177 = .ok (.ireturn, 1) := by decide +kernel
theorem dX10_fault_0 : decode cX10_fault 0 = .ok (.aload_n 0, 1) := by decide +kernel
theorem dX10_fault_1 : decode cX10_fault 1 = .ok (.getfield 126, 3) := by decide +kernel
theorem dX10_fault_4 : decode cX10_fault 4 = .ok (.ireturn, 1) := by decide +kernel
theorem dX10_isPeg_0 : decode cX10_isPeg 0 = .ok (.iload_n 1, 1) := by decide +kernel
theorem dX10_isPeg_1 : decode cX10_isPeg 1 = .ok (.i2l, 1) := by decide +kernel
theorem dX10_isPeg_2 : decode cX10_isPeg 2 = .ok (.lconst 0, 1) := by decide +kernel
theorem dX10_isPeg_3 : decode cX10_isPeg 3 = .ok (.aload_n 0, 1) := by decide +kernel
theorem dX10_isPeg_4 : decode cX10_isPeg 4 = .ok (.getfield 7, 3) := by decide +kernel
theorem dX10_isPeg_7 : decode cX10_isPeg 7 = .ok (.bipush 38, 2) := by decide +kernel
theorem dX10_isPeg_9 : decode cX10_isPeg 9 = .ok (.iaload, 1) := by decide +kernel
theorem dX10_isPeg_10 : decode cX10_isPeg 10 = .ok (.iconst 1, 1) := by decide +kernel
theorem dX10_isPeg_11 : decode cX10_isPeg 11 = .ok (.isub, 1) := by decide +kernel
theorem dX10_isPeg_12 : decode cX10_isPeg 12 = .ok (.i2l, 1) := by decide +kernel
theorem dX10_isPeg_13 : decode cX10_isPeg 13 = .ok (.invokestatic 49, 3) := by decide +kernel
theorem dX10_isPeg_16 : decode cX10_isPeg 16 = .ok (.ireturn, 1) := by decide +kernel
theorem dX10_isHog_0 : decode cX10_isHog 0 = .ok (.iload_n 1, 1) := by decide +kernel
theorem dX10_isHog_1 : decode cX10_isHog 1 = .ok (.i2l, 1) := by decide +kernel
theorem dX10_isHog_2 : decode cX10_isHog 2 = .ok (.lconst 0, 1) := by decide +kernel
theorem dX10_isHog_3 : decode cX10_isHog 3 = .ok (.aload_n 0, 1) := by decide +kernel
theorem dX10_isHog_4 : decode cX10_isHog 4 = .ok (.getfield 129, 3) := by decide +kernel
theorem dX10_isHog_7 : decode cX10_isHog 7 = .ok (.iconst 1, 1) := by decide +kernel
theorem dX10_isHog_8 : decode cX10_isHog 8 = .ok (.isub, 1) := by decide +kernel
theorem dX10_isHog_9 : decode cX10_isHog 9 = .ok (.i2l, 1) := by decide +kernel
theorem dX10_isHog_10 : decode cX10_isHog 10 = .ok (.invokestatic 49, 3) := by decide +kernel
theorem dX10_isHog_13 : decode cX10_isHog 13 = .ok (.ireturn, 1) := by decide +kernel
theorem dX10_isSuit_0 : decode cX10_isSuit 0 = .ok (.iload_n 1, 1) := by decide +kernel
theorem dX10_isSuit_1 : decode cX10_isSuit 1 = .ok (.i2l, 1) := by decide +kernel
theorem dX10_isSuit_2 : decode cX10_isSuit 2 = .ok (.lconst 0, 1) := by decide +kernel
theorem dX10_isSuit_3 : decode cX10_isSuit 3 = .ok (.aload_n 0, 1) := by decide +kernel
theorem dX10_isSuit_4 : decode cX10_isSuit 4 = .ok (.getfield 7, 3) := by decide +kernel
theorem dX10_isSuit_7 : decode cX10_isSuit 7 = .ok (.bipush 40, 2) := by decide +kernel
theorem dX10_isSuit_9 : decode cX10_isSuit 9 = .ok (.iaload, 1) := by decide +kernel
theorem dX10_isSuit_10 : decode cX10_isSuit 10 = .ok (.iconst 1, 1) := by decide +kernel
theorem dX10_isSuit_11 : decode cX10_isSuit 11 = .ok (.isub, 1) := by decide +kernel
theorem dX10_isSuit_12 : decode cX10_isSuit 12 = .ok (.i2l, 1) := by decide +kernel
theorem dX10_isSuit_13 : decode cX10_isSuit 13 = .ok (.invokestatic 49, 3) := by decide +kernel
theorem dX10_isSuit_16 : decode cX10_isSuit 16 = .ok (.ireturn, 1) := by decide +kernel
theorem dX10_isCell_0 : decode cX10_isCell 0 = .ok (.iload_n 0, 1) := by decide +kernel
theorem dX10_isCell_1 : decode cX10_isCell 1 = .ok (.i2l, 1) := by decide +kernel
theorem dX10_isCell_2 : decode cX10_isCell 2 = .ok (.lconst 0, 1) := by decide +kernel
theorem dX10_isCell_3 : decode cX10_isCell 3 = .ok (.ldc2_w 79, 3) := by decide +kernel
theorem dX10_isCell_6 : decode cX10_isCell 6 = .ok (.invokestatic 49, 3) := by decide +kernel
theorem dX10_isCell_9 : decode cX10_isCell 9 = .ok (.ifCond .eq 16, 3) := by decide +kernel
theorem dX10_isCell_12 : decode cX10_isCell 12 = .ok (.iload_n 0, 1) := by decide +kernel
theorem dX10_isCell_13 : decode cX10_isCell 13 = .ok (.bipush 10, 2) := by decide +kernel
theorem dX10_isCell_15 : decode cX10_isCell 15 = .ok (.irem, 1) := by decide +kernel
theorem dX10_isCell_16 : decode cX10_isCell 16 = .ok (.bipush 8, 2) := by decide +kernel
theorem dX10_isCell_18 : decode cX10_isCell 18 = .ok (.if_icmp .ge 7, 3) := by decide +kernel
theorem dX10_isCell_21 : decode cX10_isCell 21 = .ok (.iconst 1, 1) := by decide +kernel
theorem dX10_isCell_22 : decode cX10_isCell 22 = .ok (.goto 4, 3) := by decide +kernel
theorem dX10_isCell_25 : decode cX10_isCell 25 = .ok (.iconst 0, 1) := by decide +kernel
theorem dX10_isCell_26 : decode cX10_isCell 26 = .ok (.ireturn, 1) := by decide +kernel
theorem dX10_isColumn_0 : decode cX10_isColumn 0 = .ok (.iload_n 0, 1) := by decide +kernel
theorem dX10_isColumn_1 : decode cX10_isColumn 1 = .ok (.i2l, 1) := by decide +kernel
theorem dX10_isColumn_2 : decode cX10_isColumn 2 = .ok (.lconst 0, 1) := by decide +kernel
theorem dX10_isColumn_3 : decode cX10_isColumn 3 = .ok (.ldc2_w 135, 3) := by decide +kernel
theorem dX10_isColumn_6 : decode cX10_isColumn 6 = .ok (.invokestatic 49, 3) := by decide +kernel
theorem dX10_isColumn_9 : decode cX10_isColumn 9 = .ok (.ireturn, 1) := by decide +kernel
theorem dX10_isRag_0 : decode cX10_isRag 0 = .ok (.iload_n 0, 1) := by decide +kernel
theorem dX10_isRag_1 : decode cX10_isRag 1 = .ok (.i2l, 1) := by decide +kernel
theorem dX10_isRag_2 : decode cX10_isRag 2 = .ok (.lconst 0, 1) := by decide +kernel
theorem dX10_isRag_3 : decode cX10_isRag 3 = .ok (.ldc2_w 137, 3) := by decide +kernel
theorem dX10_isRag_6 : decode cX10_isRag 6 = .ok (.invokestatic 49, 3) := by decide +kernel
theorem dX10_isRag_9 : decode cX10_isRag 9 = .ok (.ireturn, 1) := by decide +kernel
theorem dX10_pegOn_0 : decode cX10_pegOn 0 = .ok (.iconst 0, 1) := by decide +kernel
theorem dX10_pegOn_1 : decode cX10_pegOn 1 = .ok (.istore_n 3, 1) := by decide +kernel
theorem dX10_pegOn_2 : decode cX10_pegOn 2 = .ok (.iload_n 3, 1) := by decide +kernel
theorem dX10_pegOn_3 : decode cX10_pegOn 3 = .ok (.aload_n 0, 1) := by decide +kernel
theorem dX10_pegOn_4 : decode cX10_pegOn 4 = .ok (.getfield 7, 3) := by decide +kernel
theorem dX10_pegOn_7 : decode cX10_pegOn 7 = .ok (.iload_n 1, 1) := by decide +kernel
theorem dX10_pegOn_8 : decode cX10_pegOn 8 = .ok (.bipush 38, 2) := by decide +kernel
theorem dX10_pegOn_10 : decode cX10_pegOn 10 = .ok (.iadd, 1) := by decide +kernel
theorem dX10_pegOn_11 : decode cX10_pegOn 11 = .ok (.iaload, 1) := by decide +kernel
theorem dX10_pegOn_12 : decode cX10_pegOn 12 = .ok (.if_icmp .ge 23, 3) := by decide +kernel
theorem dX10_pegOn_15 : decode cX10_pegOn 15 = .ok (.aload_n 0, 1) := by decide +kernel
theorem dX10_pegOn_16 : decode cX10_pegOn 16 = .ok (.getfield 7, 3) := by decide +kernel
theorem dX10_pegOn_19 : decode cX10_pegOn 19 = .ok (.iload_n 1, 1) := by decide +kernel
theorem dX10_pegOn_20 : decode cX10_pegOn 20 = .ok (.iload_n 3, 1) := by decide +kernel
theorem dX10_pegOn_21 : decode cX10_pegOn 21 = .ok (.iadd, 1) := by decide +kernel
theorem dX10_pegOn_22 : decode cX10_pegOn 22 = .ok (.iaload, 1) := by decide +kernel
theorem dX10_pegOn_23 : decode cX10_pegOn 23 = .ok (.iload_n 2, 1) := by decide +kernel
theorem dX10_pegOn_24 : decode cX10_pegOn 24 = .ok (.if_icmp .ne 5, 3) := by decide +kernel
theorem dX10_pegOn_27 : decode cX10_pegOn 27 = .ok (.iload_n 3, 1) := by decide +kernel
theorem dX10_pegOn_28 : decode cX10_pegOn 28 = .ok (.ireturn, 1) := by decide +kernel
theorem dX10_pegOn_29 : decode cX10_pegOn 29 = .ok (.iinc 3 1, 3) := by decide +kernel
theorem dX10_pegOn_32 : decode cX10_pegOn 32 = .ok (.goto (-30), 3) := by decide +kernel
theorem dX10_pegOn_35 : decode cX10_pegOn 35 = .ok (.bipush (-4), 2) := by decide +kernel
theorem dX10_pegOn_37 : decode cX10_pegOn 37 = .ok (.ireturn, 1) := by decide +kernel
theorem dX10_slugOn_0 : decode cX10_slugOn 0 = .ok (.iconst 0, 1) := by decide +kernel
theorem dX10_slugOn_1 : decode cX10_slugOn 1 = .ok (.istore_n 3, 1) := by decide +kernel
theorem dX10_slugOn_2 : decode cX10_slugOn 2 = .ok (.iload_n 3, 1) := by decide +kernel
theorem dX10_slugOn_3 : decode cX10_slugOn 3 = .ok (.aload_n 0, 1) := by decide +kernel
theorem dX10_slugOn_4 : decode cX10_slugOn 4 = .ok (.getfield 7, 3) := by decide +kernel
theorem dX10_slugOn_7 : decode cX10_slugOn 7 = .ok (.iload_n 1, 1) := by decide +kernel
theorem dX10_slugOn_8 : decode cX10_slugOn 8 = .ok (.bipush 39, 2) := by decide +kernel
theorem dX10_slugOn_10 : decode cX10_slugOn 10 = .ok (.iadd, 1) := by decide +kernel
theorem dX10_slugOn_11 : decode cX10_slugOn 11 = .ok (.iaload, 1) := by decide +kernel
theorem dX10_slugOn_12 : decode cX10_slugOn 12 = .ok (.if_icmp .ge 26, 3) := by decide +kernel
theorem dX10_slugOn_15 : decode cX10_slugOn 15 = .ok (.aload_n 0, 1) := by decide +kernel
theorem dX10_slugOn_16 : decode cX10_slugOn 16 = .ok (.getfield 7, 3) := by decide +kernel
theorem dX10_slugOn_19 : decode cX10_slugOn 19 = .ok (.iload_n 1, 1) := by decide +kernel
theorem dX10_slugOn_20 : decode cX10_slugOn 20 = .ok (.bipush 14, 2) := by decide +kernel
theorem dX10_slugOn_22 : decode cX10_slugOn 22 = .ok (.iadd, 1) := by decide +kernel
theorem dX10_slugOn_23 : decode cX10_slugOn 23 = .ok (.iload_n 3, 1) := by decide +kernel
theorem dX10_slugOn_24 : decode cX10_slugOn 24 = .ok (.iadd, 1) := by decide +kernel
theorem dX10_slugOn_25 : decode cX10_slugOn 25 = .ok (.iaload, 1) := by decide +kernel
theorem dX10_slugOn_26 : decode cX10_slugOn 26 = .ok (.iload_n 2, 1) := by decide +kernel
theorem dX10_slugOn_27 : decode cX10_slugOn 27 = .ok (.if_icmp .ne 5, 3) := by decide +kernel
theorem dX10_slugOn_30 : decode cX10_slugOn 30 = .ok (.iload_n 3, 1) := by decide +kernel
theorem dX10_slugOn_31 : decode cX10_slugOn 31 = .ok (.ireturn, 1) := by decide +kernel
theorem dX10_slugOn_32 : decode cX10_slugOn 32 = .ok (.iinc 3 1, 3) := by decide +kernel
theorem dX10_slugOn_35 : decode cX10_slugOn 35 = .ok (.goto (-33), 3) := by decide +kernel
theorem dX10_slugOn_38 : decode cX10_slugOn 38 = .ok (.bipush (-4), 2) := by decide +kernel
theorem dX10_slugOn_40 : decode cX10_slugOn 40 = .ok (.ireturn, 1) := by decide +kernel
theorem dX10_isFreeOn_0 : decode cX10_isFreeOn 0 = .ok (.aload_n 0, 1) := by decide +kernel
theorem dX10_isFreeOn_1 : decode cX10_isFreeOn 1 = .ok (.iload_n 1, 1) := by decide +kernel
theorem dX10_isFreeOn_2 : decode cX10_isFreeOn 2 = .ok (.iload_n 2, 1) := by decide +kernel
theorem dX10_isFreeOn_3 : decode cX10_isFreeOn 3 = .ok (.invokevirtual 139, 3) := by decide +kernel
theorem dX10_isFreeOn_6 : decode cX10_isFreeOn 6 = .ok (.bipush (-4), 2) := by decide +kernel
theorem dX10_isFreeOn_8 : decode cX10_isFreeOn 8 = .ok (.if_icmp .ne 18, 3) := by decide +kernel
theorem dX10_isFreeOn_11 : decode cX10_isFreeOn 11 = .ok (.aload_n 0, 1) := by decide +kernel
theorem dX10_isFreeOn_12 : decode cX10_isFreeOn 12 = .ok (.iload_n 1, 1) := by decide +kernel
theorem dX10_isFreeOn_13 : decode cX10_isFreeOn 13 = .ok (.iload_n 2, 1) := by decide +kernel
theorem dX10_isFreeOn_14 : decode cX10_isFreeOn 14 = .ok (.invokevirtual 142, 3) := by decide +kernel
theorem dX10_isFreeOn_17 : decode cX10_isFreeOn 17 = .ok (.bipush (-4), 2) := by decide +kernel
theorem dX10_isFreeOn_19 : decode cX10_isFreeOn 19 = .ok (.if_icmp .ne 7, 3) := by decide +kernel
theorem dX10_isFreeOn_22 : decode cX10_isFreeOn 22 = .ok (.iconst 1, 1) := by decide +kernel
theorem dX10_isFreeOn_23 : decode cX10_isFreeOn 23 = .ok (.goto 4, 3) := by decide +kernel
theorem dX10_isFreeOn_26 : decode cX10_isFreeOn 26 = .ok (.iconst 0, 1) := by decide +kernel
theorem dX10_isFreeOn_27 : decode cX10_isFreeOn 27 = .ok (.ireturn, 1) := by decide +kernel
theorem dX10_losesOf_0 : decode cX10_losesOf 0 = .ok (.iload_n 0, 1) := by decide +kernel
theorem dX10_losesOf_1 : decode cX10_losesOf 1 = .ok (.ifCond .ne 7, 3) := by decide +kernel
theorem dX10_losesOf_4 : decode cX10_losesOf 4 = .ok (.iconst 2, 1) := by decide +kernel
theorem dX10_losesOf_5 : decode cX10_losesOf 5 = .ok (.goto 23, 3) := by decide +kernel
theorem dX10_losesOf_8 : decode cX10_losesOf 8 = .ok (.iload_n 0, 1) := by decide +kernel
theorem dX10_losesOf_9 : decode cX10_losesOf 9 = .ok (.iconst 1, 1) := by decide +kernel
theorem dX10_losesOf_10 : decode cX10_losesOf 10 = .ok (.if_icmp .ne 7, 3) := by decide +kernel
theorem dX10_losesOf_13 : decode cX10_losesOf 13 = .ok (.iconst 3, 1) := by decide +kernel
theorem dX10_losesOf_14 : decode cX10_losesOf 14 = .ok (.goto 14, 3) := by decide +kernel
theorem dX10_losesOf_17 : decode cX10_losesOf 17 = .ok (.iload_n 0, 1) := by decide +kernel
theorem dX10_losesOf_18 : decode cX10_losesOf 18 = .ok (.iconst 2, 1) := by decide +kernel
theorem dX10_losesOf_19 : decode cX10_losesOf 19 = .ok (.if_icmp .ne 7, 3) := by decide +kernel
theorem dX10_losesOf_22 : decode cX10_losesOf 22 = .ok (.iconst 1, 1) := by decide +kernel
theorem dX10_losesOf_23 : decode cX10_losesOf 23 = .ok (.goto 5, 3) := by decide +kernel
theorem dX10_losesOf_26 : decode cX10_losesOf 26 = .ok (.bipush 6, 2) := by decide +kernel
theorem dX10_losesOf_28 : decode cX10_losesOf 28 = .ok (.ireturn, 1) := by decide +kernel
theorem dX10_turnOf_0 : decode cX10_turnOf 0 = .ok (.iload_n 1, 1) := by decide +kernel
theorem dX10_turnOf_1 : decode cX10_turnOf 1 = .ok (.iconst 2, 1) := by decide +kernel
theorem dX10_turnOf_2 : decode cX10_turnOf 2 = .ok (.irem, 1) := by decide +kernel
theorem dX10_turnOf_3 : decode cX10_turnOf 3 = .ok (.ifCond .ne 7, 3) := by decide +kernel
theorem dX10_turnOf_6 : decode cX10_turnOf 6 = .ok (.iconst (-1), 1) := by decide +kernel
theorem dX10_turnOf_7 : decode cX10_turnOf 7 = .ok (.goto 4, 3) := by decide +kernel
theorem dX10_turnOf_10 : decode cX10_turnOf 10 = .ok (.iconst 1, 1) := by decide +kernel
theorem dX10_turnOf_11 : decode cX10_turnOf 11 = .ok (.istore_n 2, 1) := by decide +kernel
theorem dX10_turnOf_12 : decode cX10_turnOf 12 = .ok (.iload_n 0, 1) := by decide +kernel
theorem dX10_turnOf_13 : decode cX10_turnOf 13 = .ok (.ifCond .ne 7, 3) := by decide +kernel
theorem dX10_turnOf_16 : decode cX10_turnOf 16 = .ok (.iload_n 2, 1) := by decide +kernel
theorem dX10_turnOf_17 : decode cX10_turnOf 17 = .ok (.goto 26, 3) := by decide +kernel
theorem dX10_turnOf_20 : decode cX10_turnOf 20 = .ok (.iload_n 0, 1) := by decide +kernel
theorem dX10_turnOf_21 : decode cX10_turnOf 21 = .ok (.iconst 1, 1) := by decide +kernel
theorem dX10_turnOf_22 : decode cX10_turnOf 22 = .ok (.if_icmp .ne 8, 3) := by decide +kernel
theorem dX10_turnOf_25 : decode cX10_turnOf 25 = .ok (.iload_n 2, 1) := by decide +kernel
theorem dX10_turnOf_26 : decode cX10_turnOf 26 = .ok (.ineg, 1) := by decide +kernel
theorem dX10_turnOf_27 : decode cX10_turnOf 27 = .ok (.goto 16, 3) := by decide +kernel
theorem dX10_turnOf_30 : decode cX10_turnOf 30 = .ok (.iload_n 0, 1) := by decide +kernel
theorem dX10_turnOf_31 : decode cX10_turnOf 31 = .ok (.iconst 2, 1) := by decide +kernel
theorem dX10_turnOf_32 : decode cX10_turnOf 32 = .ok (.if_icmp .ne 7, 3) := by decide +kernel
theorem dX10_turnOf_35 : decode cX10_turnOf 35 = .ok (.iconst 1, 1) := by decide +kernel
theorem dX10_turnOf_36 : decode cX10_turnOf 36 = .ok (.goto 7, 3) := by decide +kernel
theorem dX10_turnOf_39 : decode cX10_turnOf 39 = .ok (.bipush (-2), 2) := by decide +kernel
theorem dX10_turnOf_41 : decode cX10_turnOf 41 = .ok (.iload_n 2, 1) := by decide +kernel
theorem dX10_turnOf_42 : decode cX10_turnOf 42 = .ok (.imul, 1) := by decide +kernel
theorem dX10_turnOf_43 : decode cX10_turnOf 43 = .ok (.ireturn, 1) := by decide +kernel
theorem dX10_runsOn_0 : decode cX10_runsOn 0 = .ok (.aload_n 0, 1) := by decide +kernel
theorem dX10_runsOn_1 : decode cX10_runsOn 1 = .ok (.getfield 7, 3) := by decide +kernel
theorem dX10_runsOn_4 : decode cX10_runsOn 4 = .ok (.iload_n 1, 1) := by decide +kernel
theorem dX10_runsOn_5 : decode cX10_runsOn 5 = .ok (.bipush 18, 2) := by decide +kernel
theorem dX10_runsOn_7 : decode cX10_runsOn 7 = .ok (.iadd, 1) := by decide +kernel
theorem dX10_runsOn_8 : decode cX10_runsOn 8 = .ok (.iload_n 2, 1) := by decide +kernel
theorem dX10_runsOn_9 : decode cX10_runsOn 9 = .ok (.iadd, 1) := by decide +kernel
theorem dX10_runsOn_10 : decode cX10_runsOn 10 = .ok (.iaload, 1) := by decide +kernel
theorem dX10_runsOn_11 : decode cX10_runsOn 11 = .ok (.istore 5, 2) := by decide +kernel
theorem dX10_runsOn_13 : decode cX10_runsOn 13 = .ok (.aload_n 0, 1) := by decide +kernel
theorem dX10_runsOn_14 : decode cX10_runsOn 14 = .ok (.getfield 7, 3) := by decide +kernel
theorem dX10_runsOn_17 : decode cX10_runsOn 17 = .ok (.iload_n 1, 1) := by decide +kernel
theorem dX10_runsOn_18 : decode cX10_runsOn 18 = .ok (.bipush 22, 2) := by decide +kernel
theorem dX10_runsOn_20 : decode cX10_runsOn 20 = .ok (.iadd, 1) := by decide +kernel
theorem dX10_runsOn_21 : decode cX10_runsOn 21 = .ok (.iload_n 2, 1) := by decide +kernel
theorem dX10_runsOn_22 : decode cX10_runsOn 22 = .ok (.iadd, 1) := by decide +kernel
theorem dX10_runsOn_23 : decode cX10_runsOn 23 = .ok (.iaload, 1) := by decide +kernel
theorem dX10_runsOn_24 : decode cX10_runsOn 24 = .ok (.istore 6, 2) := by decide +kernel
theorem dX10_runsOn_26 : decode cX10_runsOn 26 = .ok (.iload_n 3, 1) := by decide +kernel
theorem dX10_runsOn_27 : decode cX10_runsOn 27 = .ok (.istore 7, 2) := by decide +kernel
theorem dX10_runsOn_29 : decode cX10_runsOn 29 = .ok (.aload_n 0, 1) := by decide +kernel
theorem dX10_runsOn_30 : decode cX10_runsOn 30 = .ok (.bipush (-4), 2) := by decide +kernel
theorem dX10_runsOn_32 : decode cX10_runsOn 32 = .ok (.putfield 145, 3) := by decide +kernel
theorem dX10_runsOn_35 : decode cX10_runsOn 35 = .ok (.aload_n 0, 1) := by decide +kernel
theorem dX10_runsOn_36 : decode cX10_runsOn 36 = .ok (.bipush 10, 2) := by decide +kernel
theorem dX10_runsOn_38 : decode cX10_runsOn 38 = .ok (.putfield 148, 3) := by decide +kernel
theorem dX10_runsOn_41 : decode cX10_runsOn 41 = .ok (.aload_n 0, 1) := by decide +kernel
theorem dX10_runsOn_42 : decode cX10_runsOn 42 = .ok (.iconst 0, 1) := by decide +kernel
theorem dX10_runsOn_43 : decode cX10_runsOn 43 = .ok (.putfield 151, 3) := by decide +kernel
theorem dX10_runsOn_46 : decode cX10_runsOn 46 = .ok (.aload_n 0, 1) := by decide +kernel
theorem dX10_runsOn_47 : decode cX10_runsOn 47 = .ok (.iconst 0, 1) := by decide +kernel
theorem dX10_runsOn_48 : decode cX10_runsOn 48 = .ok (.putfield 154, 3) := by decide +kernel
theorem dX10_runsOn_51 : decode cX10_runsOn 51 = .ok (.iconst 0, 1) := by decide +kernel
theorem dX10_runsOn_52 : decode cX10_runsOn 52 = .ok (.istore 8, 2) := by decide +kernel
theorem dX10_runsOn_54 : decode cX10_runsOn 54 = .ok (.iload 8, 2) := by decide +kernel
theorem dX10_runsOn_56 : decode cX10_runsOn 56 = .ok (.bipush 10, 2) := by decide +kernel
theorem dX10_runsOn_58 : decode cX10_runsOn 58 = .ok (.if_icmp .ge 173, 3) := by decide +kernel
theorem dX10_runsOn_61 : decode cX10_runsOn 61 = .ok (.aload_n 0, 1) := by decide +kernel
theorem dX10_runsOn_62 : decode cX10_runsOn 62 = .ok (.getfield 148, 3) := by decide +kernel
theorem dX10_runsOn_65 : decode cX10_runsOn 65 = .ok (.bipush 10, 2) := by decide +kernel
theorem dX10_runsOn_67 : decode cX10_runsOn 67 = .ok (.if_icmp .ne 164, 3) := by decide +kernel
theorem dX10_runsOn_70 : decode cX10_runsOn 70 = .ok (.bipush 10, 2) := by decide +kernel
theorem dX10_runsOn_72 : decode cX10_runsOn 72 = .ok (.iload 8, 2) := by decide +kernel
theorem dX10_runsOn_74 : decode cX10_runsOn 74 = .ok (.imul, 1) := by decide +kernel
theorem dX10_runsOn_75 : decode cX10_runsOn 75 = .ok (.iload 7, 2) := by decide +kernel
theorem dX10_runsOn_77 : decode cX10_runsOn 77 = .ok (.iadd, 1) := by decide +kernel
theorem dX10_runsOn_78 : decode cX10_runsOn 78 = .ok (.istore 9, 2) := by decide +kernel
theorem dX10_runsOn_80 : decode cX10_runsOn 80 = .ok (.aload_n 0, 1) := by decide +kernel
theorem dX10_runsOn_81 : decode cX10_runsOn 81 = .ok (.iload_n 1, 1) := by decide +kernel
theorem dX10_runsOn_82 : decode cX10_runsOn 82 = .ok (.iload 9, 2) := by decide +kernel
theorem dX10_runsOn_84 : decode cX10_runsOn 84 = .ok (.invokevirtual 139, 3) := by decide +kernel
theorem dX10_runsOn_87 : decode cX10_runsOn 87 = .ok (.istore 10, 2) := by decide +kernel
theorem dX10_runsOn_89 : decode cX10_runsOn 89 = .ok (.aload_n 0, 1) := by decide +kernel
theorem dX10_runsOn_90 : decode cX10_runsOn 90 = .ok (.getfield 25, 3) := by decide +kernel
theorem dX10_runsOn_93 : decode cX10_runsOn 93 = .ok (.iload 8, 2) := by decide +kernel
theorem dX10_runsOn_95 : decode cX10_runsOn 95 = .ok (.iload 7, 2) := by decide +kernel
theorem dX10_runsOn_97 : decode cX10_runsOn 97 = .ok (.iastore, 1) := by decide +kernel
theorem dX10_runsOn_98 : decode cX10_runsOn 98 = .ok (.aload_n 0, 1) := by decide +kernel
theorem dX10_runsOn_99 : decode cX10_runsOn 99 = .ok (.iload_n 1, 1) := by decide +kernel
theorem dX10_runsOn_100 : decode cX10_runsOn 100 = .ok (.iload 9, 2) := by decide +kernel
theorem dX10_runsOn_102 : decode cX10_runsOn 102 = .ok (.invokevirtual 142, 3) := by decide +kernel
theorem dX10_runsOn_105 : decode cX10_runsOn 105 = .ok (.bipush (-4), 2) := by decide +kernel
theorem dX10_runsOn_107 : decode cX10_runsOn 107 = .ok (.if_icmp .eq 17, 3) := by decide +kernel
theorem dX10_runsOn_110 : decode cX10_runsOn 110 = .ok (.aload_n 0, 1) := by decide +kernel
theorem dX10_runsOn_111 : decode cX10_runsOn 111 = .ok (.iconst 1, 1) := by decide +kernel
theorem dX10_runsOn_112 : decode cX10_runsOn 112 = .ok (.putfield 154, 3) := by decide +kernel
theorem dX10_runsOn_115 : decode cX10_runsOn 115 = .ok (.aload_n 0, 1) := by decide +kernel
theorem dX10_runsOn_116 : decode cX10_runsOn 116 = .ok (.iload 8, 2) := by decide +kernel
theorem dX10_runsOn_118 : decode cX10_runsOn 118 = .ok (.putfield 148, 3) := by decide +kernel
theorem dX10_runsOn_121 : decode cX10_runsOn 121 = .ok (.goto 104, 3) := by decide +kernel
theorem dX10_runsOn_124 : decode cX10_runsOn 124 = .ok (.iload 10, 2) := by decide +kernel
theorem dX10_runsOn_126 : decode cX10_runsOn 126 = .ok (.bipush (-4), 2) := by decide +kernel
theorem dX10_runsOn_128 : decode cX10_runsOn 128 = .ok (.if_icmp .eq 97, 3) := by decide +kernel
theorem dX10_runsOn_131 : decode cX10_runsOn 131 = .ok (.aload_n 0, 1) := by decide +kernel
theorem dX10_runsOn_132 : decode cX10_runsOn 132 = .ok (.dup, 1) := by decide +kernel
theorem dX10_runsOn_133 : decode cX10_runsOn 133 = .ok (.getfield 151, 3) := by decide +kernel
theorem dX10_runsOn_136 : decode cX10_runsOn 136 = .ok (.iconst 1, 1) := by decide +kernel
theorem dX10_runsOn_137 : decode cX10_runsOn 137 = .ok (.iadd, 1) := by decide +kernel
theorem dX10_runsOn_138 : decode cX10_runsOn 138 = .ok (.putfield 151, 3) := by decide +kernel
theorem dX10_runsOn_141 : decode cX10_runsOn 141 = .ok (.iload 6, 2) := by decide +kernel
theorem dX10_runsOn_143 : decode cX10_runsOn 143 = .ok (.iload 5, 2) := by decide +kernel
theorem dX10_runsOn_145 : decode cX10_runsOn 145 = .ok (.invokestatic 158, 3) := by decide +kernel
theorem dX10_runsOn_148 : decode cX10_runsOn 148 = .ok (.isub, 1) := by decide +kernel
theorem dX10_runsOn_149 : decode cX10_runsOn 149 = .ok (.istore 6, 2) := by decide +kernel
theorem dX10_runsOn_151 : decode cX10_runsOn 151 = .ok (.iload 6, 2) := by decide +kernel
theorem dX10_runsOn_153 : decode cX10_runsOn 153 = .ok (.ifCond .gt 18, 3) := by decide +kernel
theorem dX10_runsOn_156 : decode cX10_runsOn 156 = .ok (.aload_n 0, 1) := by decide +kernel
theorem dX10_runsOn_157 : decode cX10_runsOn 157 = .ok (.iload 10, 2) := by decide +kernel
theorem dX10_runsOn_159 : decode cX10_runsOn 159 = .ok (.putfield 145, 3) := by decide +kernel
theorem dX10_runsOn_162 : decode cX10_runsOn 162 = .ok (.aload_n 0, 1) := by decide +kernel
theorem dX10_runsOn_163 : decode cX10_runsOn 163 = .ok (.iload 8, 2) := by decide +kernel
theorem dX10_runsOn_165 : decode cX10_runsOn 165 = .ok (.putfield 148, 3) := by decide +kernel
theorem dX10_runsOn_168 : decode cX10_runsOn 168 = .ok (.goto 57, 3) := by decide +kernel
theorem dX10_runsOn_171 : decode cX10_runsOn 171 = .ok (.iload 7, 2) := by decide +kernel
theorem dX10_runsOn_173 : decode cX10_runsOn 173 = .ok (.iload 4, 2) := by decide +kernel
theorem dX10_runsOn_175 : decode cX10_runsOn 175 = .ok (.iload 8, 2) := by decide +kernel
theorem dX10_runsOn_177 : decode cX10_runsOn 177 = .ok (.ishr, 1) := by decide +kernel
theorem dX10_runsOn_178 : decode cX10_runsOn 178 = .ok (.iconst 1, 1) := by decide +kernel
theorem dX10_runsOn_179 : decode cX10_runsOn 179 = .ok (.iand, 1) := by decide +kernel
theorem dX10_runsOn_180 : decode cX10_runsOn 180 = .ok (.iconst 1, 1) := by decide +kernel
theorem dX10_runsOn_181 : decode cX10_runsOn 181 = .ok (.if_icmp .ne 7, 3) := by decide +kernel
theorem dX10_runsOn_184 : decode cX10_runsOn 184 = .ok (.iconst (-1), 1) := by decide +kernel
theorem dX10_runsOn_185 : decode cX10_runsOn 185 = .ok (.goto 4, 3) := by decide +kernel
theorem dX10_runsOn_188 : decode cX10_runsOn 188 = .ok (.iconst 1, 1) := by decide +kernel
theorem dX10_runsOn_189 : decode cX10_runsOn 189 = .ok (.iload 5, 2) := by decide +kernel
theorem dX10_runsOn_191 : decode cX10_runsOn 191 = .ok (.iload 8, 2) := by decide +kernel
theorem dX10_runsOn_193 : decode cX10_runsOn 193 = .ok (.invokestatic 161, 3) := by decide +kernel
theorem dX10_runsOn_196 : decode cX10_runsOn 196 = .ok (.imul, 1) := by decide +kernel
theorem dX10_runsOn_197 : decode cX10_runsOn 197 = .ok (.iadd, 1) := by decide +kernel
theorem dX10_runsOn_198 : decode cX10_runsOn 198 = .ok (.istore 11, 2) := by decide +kernel
theorem dX10_runsOn_200 : decode cX10_runsOn 200 = .ok (.iload 11, 2) := by decide +kernel
theorem dX10_runsOn_202 : decode cX10_runsOn 202 = .ok (.ifCond .ge 7, 3) := by decide +kernel
theorem dX10_runsOn_205 : decode cX10_runsOn 205 = .ok (.iconst 0, 1) := by decide +kernel
theorem dX10_runsOn_206 : decode cX10_runsOn 206 = .ok (.goto 17, 3) := by decide +kernel
theorem dX10_runsOn_209 : decode cX10_runsOn 209 = .ok (.iload 11, 2) := by decide +kernel
theorem dX10_runsOn_211 : decode cX10_runsOn 211 = .ok (.bipush 8, 2) := by decide +kernel
theorem dX10_runsOn_213 : decode cX10_runsOn 213 = .ok (.if_icmp .lt 8, 3) := by decide +kernel
theorem dX10_runsOn_216 : decode cX10_runsOn 216 = .ok (.bipush 7, 2) := by decide +kernel
theorem dX10_runsOn_218 : decode cX10_runsOn 218 = .ok (.goto 5, 3) := by decide +kernel
theorem dX10_runsOn_221 : decode cX10_runsOn 221 = .ok (.iload 11, 2) := by decide +kernel
theorem dX10_runsOn_223 : decode cX10_runsOn 223 = .ok (.istore 7, 2) := by decide +kernel
theorem dX10_runsOn_225 : decode cX10_runsOn 225 = .ok (.iinc 8 1, 3) := by decide +kernel
theorem dX10_runsOn_228 : decode cX10_runsOn 228 = .ok (.goto (-174), 3) := by decide +kernel
theorem dX10_runsOn_231 : decode cX10_runsOn 231 = .ok (.return_, 1) := by decide +kernel
theorem dX10_winnerOn_0 : decode cX10_winnerOn 0 = .ok (.aload_n 0, 1) := by decide +kernel
theorem dX10_winnerOn_1 : decode cX10_winnerOn 1 = .ok (.iload_n 1, 1) := by decide +kernel
theorem dX10_winnerOn_2 : decode cX10_winnerOn 2 = .ok (.iload_n 2, 1) := by decide +kernel
theorem dX10_winnerOn_3 : decode cX10_winnerOn 3 = .ok (.iload_n 3, 1) := by decide +kernel
theorem dX10_winnerOn_4 : decode cX10_winnerOn 4 = .ok (.iconst 0, 1) := by decide +kernel
theorem dX10_winnerOn_5 : decode cX10_winnerOn 5 = .ok (.invokevirtual 164, 3) := by decide +kernel
theorem dX10_winnerOn_8 : decode cX10_winnerOn 8 = .ok (.aload_n 0, 1) := by decide +kernel
theorem dX10_winnerOn_9 : decode cX10_winnerOn 9 = .ok (.getfield 145, 3) := by decide +kernel
theorem dX10_winnerOn_12 : decode cX10_winnerOn 12 = .ok (.bipush (-4), 2) := by decide +kernel
theorem dX10_winnerOn_14 : decode cX10_winnerOn 14 = .ok (.if_icmp .ne 8, 3) := by decide +kernel
theorem dX10_winnerOn_17 : decode cX10_winnerOn 17 = .ok (.bipush (-4), 2) := by decide +kernel
theorem dX10_winnerOn_19 : decode cX10_winnerOn 19 = .ok (.goto 17, 3) := by decide +kernel
theorem dX10_winnerOn_22 : decode cX10_winnerOn 22 = .ok (.aload_n 0, 1) := by decide +kernel
theorem dX10_winnerOn_23 : decode cX10_winnerOn 23 = .ok (.getfield 7, 3) := by decide +kernel
theorem dX10_winnerOn_26 : decode cX10_winnerOn 26 = .ok (.iload_n 1, 1) := by decide +kernel
theorem dX10_winnerOn_27 : decode cX10_winnerOn 27 = .ok (.bipush 7, 2) := by decide +kernel
theorem dX10_winnerOn_29 : decode cX10_winnerOn 29 = .ok (.iadd, 1) := by decide +kernel
theorem dX10_winnerOn_30 : decode cX10_winnerOn 30 = .ok (.aload_n 0, 1) := by decide +kernel
theorem dX10_winnerOn_31 : decode cX10_winnerOn 31 = .ok (.getfield 145, 3) := by decide +kernel
theorem dX10_winnerOn_34 : decode cX10_winnerOn 34 = .ok (.iadd, 1) := by decide +kernel
theorem dX10_winnerOn_35 : decode cX10_winnerOn 35 = .ok (.iaload, 1) := by decide +kernel
theorem dX10_winnerOn_36 : decode cX10_winnerOn 36 = .ok (.ireturn, 1) := by decide +kernel
theorem dX10_winsOn_0 : decode cX10_winsOn 0 = .ok (.iconst 0, 1) := by decide +kernel
theorem dX10_winsOn_1 : decode cX10_winsOn 1 = .ok (.istore_n 3, 1) := by decide +kernel
theorem dX10_winsOn_2 : decode cX10_winsOn 2 = .ok (.iconst 0, 1) := by decide +kernel
theorem dX10_winsOn_3 : decode cX10_winsOn 3 = .ok (.istore 4, 2) := by decide +kernel
theorem dX10_winsOn_5 : decode cX10_winsOn 5 = .ok (.iload 4, 2) := by decide +kernel
theorem dX10_winsOn_7 : decode cX10_winsOn 7 = .ok (.aload_n 0, 1) := by decide +kernel
theorem dX10_winsOn_8 : decode cX10_winsOn 8 = .ok (.getfield 7, 3) := by decide +kernel
theorem dX10_winsOn_11 : decode cX10_winsOn 11 = .ok (.iload_n 1, 1) := by decide +kernel
theorem dX10_winsOn_12 : decode cX10_winsOn 12 = .ok (.bipush 40, 2) := by decide +kernel
theorem dX10_winsOn_14 : decode cX10_winsOn 14 = .ok (.iadd, 1) := by decide +kernel
theorem dX10_winsOn_15 : decode cX10_winsOn 15 = .ok (.iaload, 1) := by decide +kernel
theorem dX10_winsOn_16 : decode cX10_winsOn 16 = .ok (.if_icmp .ge 70, 3) := by decide +kernel
theorem dX10_winsOn_19 : decode cX10_winsOn 19 = .ok (.aload_n 0, 1) := by decide +kernel
theorem dX10_winsOn_20 : decode cX10_winsOn 20 = .ok (.iload_n 1, 1) := by decide +kernel
theorem dX10_winsOn_21 : decode cX10_winsOn 21 = .ok (.aload_n 0, 1) := by decide +kernel
theorem dX10_winsOn_22 : decode cX10_winsOn 22 = .ok (.getfield 7, 3) := by decide +kernel
theorem dX10_winsOn_25 : decode cX10_winsOn 25 = .ok (.iload_n 1, 1) := by decide +kernel
theorem dX10_winsOn_26 : decode cX10_winsOn 26 = .ok (.bipush 26, 2) := by decide +kernel
theorem dX10_winsOn_28 : decode cX10_winsOn 28 = .ok (.iadd, 1) := by decide +kernel
theorem dX10_winsOn_29 : decode cX10_winsOn 29 = .ok (.iload 4, 2) := by decide +kernel
theorem dX10_winsOn_31 : decode cX10_winsOn 31 = .ok (.iadd, 1) := by decide +kernel
theorem dX10_winsOn_32 : decode cX10_winsOn 32 = .ok (.iaload, 1) := by decide +kernel
theorem dX10_winsOn_33 : decode cX10_winsOn 33 = .ok (.aload_n 0, 1) := by decide +kernel
theorem dX10_winsOn_34 : decode cX10_winsOn 34 = .ok (.getfield 7, 3) := by decide +kernel
theorem dX10_winsOn_37 : decode cX10_winsOn 37 = .ok (.iload_n 1, 1) := by decide +kernel
theorem dX10_winsOn_38 : decode cX10_winsOn 38 = .ok (.bipush 32, 2) := by decide +kernel
theorem dX10_winsOn_40 : decode cX10_winsOn 40 = .ok (.iadd, 1) := by decide +kernel
theorem dX10_winsOn_41 : decode cX10_winsOn 41 = .ok (.iload 4, 2) := by decide +kernel
theorem dX10_winsOn_43 : decode cX10_winsOn 43 = .ok (.iadd, 1) := by decide +kernel
theorem dX10_winsOn_44 : decode cX10_winsOn 44 = .ok (.iaload, 1) := by decide +kernel
theorem dX10_winsOn_45 : decode cX10_winsOn 45 = .ok (.invokevirtual 168, 3) := by decide +kernel
theorem dX10_winsOn_48 : decode cX10_winsOn 48 = .ok (.istore 5, 2) := by decide +kernel
theorem dX10_winsOn_50 : decode cX10_winsOn 50 = .ok (.iload_n 3, 1) := by decide +kernel
theorem dX10_winsOn_51 : decode cX10_winsOn 51 = .ok (.iload 5, 2) := by decide +kernel
theorem dX10_winsOn_53 : decode cX10_winsOn 53 = .ok (.bipush (-4), 2) := by decide +kernel
theorem dX10_winsOn_55 : decode cX10_winsOn 55 = .ok (.if_icmp .eq 22, 3) := by decide +kernel
theorem dX10_winsOn_58 : decode cX10_winsOn 58 = .ok (.iload_n 2, 1) := by decide +kernel
theorem dX10_winsOn_59 : decode cX10_winsOn 59 = .ok (.bipush (-4), 2) := by decide +kernel
theorem dX10_winsOn_61 : decode cX10_winsOn 61 = .ok (.if_icmp .eq 9, 3) := by decide +kernel
theorem dX10_winsOn_64 : decode cX10_winsOn 64 = .ok (.iload 5, 2) := by decide +kernel
theorem dX10_winsOn_66 : decode cX10_winsOn 66 = .ok (.iload_n 2, 1) := by decide +kernel
theorem dX10_winsOn_67 : decode cX10_winsOn 67 = .ok (.if_icmp .ne 10, 3) := by decide +kernel
theorem dX10_winsOn_70 : decode cX10_winsOn 70 = .ok (.iconst 1, 1) := by decide +kernel
theorem dX10_winsOn_71 : decode cX10_winsOn 71 = .ok (.iload 4, 2) := by decide +kernel
theorem dX10_winsOn_73 : decode cX10_winsOn 73 = .ok (.ishl, 1) := by decide +kernel
theorem dX10_winsOn_74 : decode cX10_winsOn 74 = .ok (.goto 4, 3) := by decide +kernel
theorem dX10_winsOn_77 : decode cX10_winsOn 77 = .ok (.iconst 0, 1) := by decide +kernel
theorem dX10_winsOn_78 : decode cX10_winsOn 78 = .ok (.ior, 1) := by decide +kernel
theorem dX10_winsOn_79 : decode cX10_winsOn 79 = .ok (.istore_n 3, 1) := by decide +kernel
theorem dX10_winsOn_80 : decode cX10_winsOn 80 = .ok (.iinc 4 1, 3) := by decide +kernel
theorem dX10_winsOn_83 : decode cX10_winsOn 83 = .ok (.goto (-78), 3) := by decide +kernel
theorem dX10_winsOn_86 : decode cX10_winsOn 86 = .ok (.iload_n 3, 1) := by decide +kernel
theorem dX10_winsOn_87 : decode cX10_winsOn 87 = .ok (.ireturn, 1) := by decide +kernel
theorem dX10_bitsOf_0 : decode cX10_bitsOf 0 = .ok (.iconst 0, 1) := by decide +kernel
theorem dX10_bitsOf_1 : decode cX10_bitsOf 1 = .ok (.istore_n 1, 1) := by decide +kernel
theorem dX10_bitsOf_2 : decode cX10_bitsOf 2 = .ok (.iload_n 0, 1) := by decide +kernel
theorem dX10_bitsOf_3 : decode cX10_bitsOf 3 = .ok (.istore_n 2, 1) := by decide +kernel
theorem dX10_bitsOf_4 : decode cX10_bitsOf 4 = .ok (.iload_n 2, 1) := by decide +kernel
theorem dX10_bitsOf_5 : decode cX10_bitsOf 5 = .ok (.ifCond .le 16, 3) := by decide +kernel
theorem dX10_bitsOf_8 : decode cX10_bitsOf 8 = .ok (.iload_n 1, 1) := by decide +kernel
theorem dX10_bitsOf_9 : decode cX10_bitsOf 9 = .ok (.iload_n 2, 1) := by decide +kernel
theorem dX10_bitsOf_10 : decode cX10_bitsOf 10 = .ok (.iconst 1, 1) := by decide +kernel
theorem dX10_bitsOf_11 : decode cX10_bitsOf 11 = .ok (.iand, 1) := by decide +kernel
theorem dX10_bitsOf_12 : decode cX10_bitsOf 12 = .ok (.iadd, 1) := by decide +kernel
theorem dX10_bitsOf_13 : decode cX10_bitsOf 13 = .ok (.istore_n 1, 1) := by decide +kernel
theorem dX10_bitsOf_14 : decode cX10_bitsOf 14 = .ok (.iload_n 2, 1) := by decide +kernel
theorem dX10_bitsOf_15 : decode cX10_bitsOf 15 = .ok (.iconst 1, 1) := by decide +kernel
theorem dX10_bitsOf_16 : decode cX10_bitsOf 16 = .ok (.ishr, 1) := by decide +kernel
theorem dX10_bitsOf_17 : decode cX10_bitsOf 17 = .ok (.istore_n 2, 1) := by decide +kernel
theorem dX10_bitsOf_18 : decode cX10_bitsOf 18 = .ok (.goto (-14), 3) := by decide +kernel
theorem dX10_bitsOf_21 : decode cX10_bitsOf 21 = .ok (.iload_n 1, 1) := by decide +kernel
theorem dX10_bitsOf_22 : decode cX10_bitsOf 22 = .ok (.ireturn, 1) := by decide +kernel
theorem dX10_rule_0 : decode cX10_rule 0 = .ok (.iconst 0, 1) := by decide +kernel
theorem dX10_rule_1 : decode cX10_rule 1 = .ok (.istore_n 2, 1) := by decide +kernel
theorem dX10_rule_2 : decode cX10_rule 2 = .ok (.iconst 0, 1) := by decide +kernel
theorem dX10_rule_3 : decode cX10_rule 3 = .ok (.istore_n 3, 1) := by decide +kernel
theorem dX10_rule_4 : decode cX10_rule 4 = .ok (.iload_n 3, 1) := by decide +kernel
theorem dX10_rule_5 : decode cX10_rule 5 = .ok (.aload_n 0, 1) := by decide +kernel
theorem dX10_rule_6 : decode cX10_rule 6 = .ok (.getfield 7, 3) := by decide +kernel
theorem dX10_rule_9 : decode cX10_rule 9 = .ok (.bipush 40, 2) := by decide +kernel
theorem dX10_rule_11 : decode cX10_rule 11 = .ok (.iaload, 1) := by decide +kernel
theorem dX10_rule_12 : decode cX10_rule 12 = .ok (.if_icmp .ge 50, 3) := by decide +kernel
theorem dX10_rule_15 : decode cX10_rule 15 = .ok (.aload_n 0, 1) := by decide +kernel
theorem dX10_rule_16 : decode cX10_rule 16 = .ok (.iconst 0, 1) := by decide +kernel
theorem dX10_rule_17 : decode cX10_rule 17 = .ok (.aload_n 0, 1) := by decide +kernel
theorem dX10_rule_18 : decode cX10_rule 18 = .ok (.getfield 7, 3) := by decide +kernel
theorem dX10_rule_21 : decode cX10_rule 21 = .ok (.bipush 26, 2) := by decide +kernel
theorem dX10_rule_23 : decode cX10_rule 23 = .ok (.iload_n 3, 1) := by decide +kernel
theorem dX10_rule_24 : decode cX10_rule 24 = .ok (.iadd, 1) := by decide +kernel
theorem dX10_rule_25 : decode cX10_rule 25 = .ok (.iaload, 1) := by decide +kernel
theorem dX10_rule_26 : decode cX10_rule 26 = .ok (.aload_n 0, 1) := by decide +kernel
theorem dX10_rule_27 : decode cX10_rule 27 = .ok (.getfield 7, 3) := by decide +kernel
theorem dX10_rule_30 : decode cX10_rule 30 = .ok (.bipush 32, 2) := by decide +kernel
theorem dX10_rule_32 : decode cX10_rule 32 = .ok (.iload_n 3, 1) := by decide +kernel
theorem dX10_rule_33 : decode cX10_rule 33 = .ok (.iadd, 1) := by decide +kernel
theorem dX10_rule_34 : decode cX10_rule 34 = .ok (.iaload, 1) := by decide +kernel
theorem dX10_rule_35 : decode cX10_rule 35 = .ok (.iconst 0, 1) := by decide +kernel
theorem dX10_rule_36 : decode cX10_rule 36 = .ok (.invokevirtual 164, 3) := by decide +kernel
theorem dX10_rule_39 : decode cX10_rule 39 = .ok (.iload_n 2, 1) := by decide +kernel
theorem dX10_rule_40 : decode cX10_rule 40 = .ok (.aload_n 0, 1) := by decide +kernel
theorem dX10_rule_41 : decode cX10_rule 41 = .ok (.getfield 154, 3) := by decide +kernel
theorem dX10_rule_44 : decode cX10_rule 44 = .ok (.ifCond .eq 9, 3) := by decide +kernel
theorem dX10_rule_47 : decode cX10_rule 47 = .ok (.iconst 1, 1) := by decide +kernel
theorem dX10_rule_48 : decode cX10_rule 48 = .ok (.iload_n 3, 1) := by decide +kernel
theorem dX10_rule_49 : decode cX10_rule 49 = .ok (.ishl, 1) := by decide +kernel
theorem dX10_rule_50 : decode cX10_rule 50 = .ok (.goto 4, 3) := by decide +kernel
theorem dX10_rule_53 : decode cX10_rule 53 = .ok (.iconst 0, 1) := by decide +kernel
theorem dX10_rule_54 : decode cX10_rule 54 = .ok (.ior, 1) := by decide +kernel
theorem dX10_rule_55 : decode cX10_rule 55 = .ok (.istore_n 2, 1) := by decide +kernel
theorem dX10_rule_56 : decode cX10_rule 56 = .ok (.iinc 3 1, 3) := by decide +kernel
theorem dX10_rule_59 : decode cX10_rule 59 = .ok (.goto (-55), 3) := by decide +kernel
theorem dX10_rule_62 : decode cX10_rule 62 = .ok (.iload_n 1, 1) := by decide +kernel
theorem dX10_rule_63 : decode cX10_rule 63 = .ok (.tableswitch 76 0 5 #[37, 45, 53, 58, 66, 74], 37) := by decide +kernel
theorem dX10_rule_100 : decode cX10_rule 100 = .ok (.aload_n 0, 1) := by decide +kernel
theorem dX10_rule_101 : decode cX10_rule 101 = .ok (.getfield 7, 3) := by decide +kernel
theorem dX10_rule_104 : decode cX10_rule 104 = .ok (.bipush 38, 2) := by decide +kernel
theorem dX10_rule_106 : decode cX10_rule 106 = .ok (.iaload, 1) := by decide +kernel
theorem dX10_rule_107 : decode cX10_rule 107 = .ok (.ireturn, 1) := by decide +kernel
theorem dX10_rule_108 : decode cX10_rule 108 = .ok (.aload_n 0, 1) := by decide +kernel
theorem dX10_rule_109 : decode cX10_rule 109 = .ok (.getfield 7, 3) := by decide +kernel
theorem dX10_rule_112 : decode cX10_rule 112 = .ok (.bipush 39, 2) := by decide +kernel
theorem dX10_rule_114 : decode cX10_rule 114 = .ok (.iaload, 1) := by decide +kernel
theorem dX10_rule_115 : decode cX10_rule 115 = .ok (.ireturn, 1) := by decide +kernel
theorem dX10_rule_116 : decode cX10_rule 116 = .ok (.aload_n 0, 1) := by decide +kernel
theorem dX10_rule_117 : decode cX10_rule 117 = .ok (.getfield 129, 3) := by decide +kernel
theorem dX10_rule_120 : decode cX10_rule 120 = .ok (.ireturn, 1) := by decide +kernel
theorem dX10_rule_121 : decode cX10_rule 121 = .ok (.aload_n 0, 1) := by decide +kernel
theorem dX10_rule_122 : decode cX10_rule 122 = .ok (.getfield 7, 3) := by decide +kernel
theorem dX10_rule_125 : decode cX10_rule 125 = .ok (.bipush 40, 2) := by decide +kernel
theorem dX10_rule_127 : decode cX10_rule 127 = .ok (.iaload, 1) := by decide +kernel
theorem dX10_rule_128 : decode cX10_rule 128 = .ok (.ireturn, 1) := by decide +kernel
theorem dX10_rule_129 : decode cX10_rule 129 = .ok (.aload_n 0, 1) := by decide +kernel
theorem dX10_rule_130 : decode cX10_rule 130 = .ok (.iconst 0, 1) := by decide +kernel
theorem dX10_rule_131 : decode cX10_rule 131 = .ok (.bipush (-4), 2) := by decide +kernel
theorem dX10_rule_133 : decode cX10_rule 133 = .ok (.invokevirtual 172, 3) := by decide +kernel
theorem dX10_rule_136 : decode cX10_rule 136 = .ok (.ireturn, 1) := by decide +kernel
theorem dX10_rule_137 : decode cX10_rule 137 = .ok (.iload_n 2, 1) := by decide +kernel
theorem dX10_rule_138 : decode cX10_rule 138 = .ok (.ireturn, 1) := by decide +kernel
theorem dX10_rule_139 : decode cX10_rule 139 = .ok (.iconst (-1), 1) := by decide +kernel
theorem dX10_rule_140 : decode cX10_rule 140 = .ok (.ireturn, 1) := by decide +kernel
theorem dX10_peg_0 : decode cX10_peg 0 = .ok (.aload_n 0, 1) := by decide +kernel
theorem dX10_peg_1 : decode cX10_peg 1 = .ok (.iload_n 1, 1) := by decide +kernel
theorem dX10_peg_2 : decode cX10_peg 2 = .ok (.invokevirtual 175, 3) := by decide +kernel
theorem dX10_peg_5 : decode cX10_peg 5 = .ok (.ifCond .eq 15, 3) := by decide +kernel
theorem dX10_peg_8 : decode cX10_peg 8 = .ok (.iload_n 2, 1) := by decide +kernel
theorem dX10_peg_9 : decode cX10_peg 9 = .ok (.i2l, 1) := by decide +kernel
theorem dX10_peg_10 : decode cX10_peg 10 = .ok (.lconst 0, 1) := by decide +kernel
theorem dX10_peg_11 : decode cX10_peg 11 = .ok (.ldc2_w 178, 3) := by decide +kernel
theorem dX10_peg_14 : decode cX10_peg 14 = .ok (.invokestatic 49, 3) := by decide +kernel
theorem dX10_peg_17 : decode cX10_peg 17 = .ok (.ifCond .ne 5, 3) := by decide +kernel
theorem dX10_peg_20 : decode cX10_peg 20 = .ok (.iconst (-1), 1) := by decide +kernel
theorem dX10_peg_21 : decode cX10_peg 21 = .ok (.ireturn, 1) := by decide +kernel
theorem dX10_peg_22 : decode cX10_peg 22 = .ok (.iconst 0, 1) := by decide +kernel
theorem dX10_peg_23 : decode cX10_peg 23 = .ok (.istore_n 3, 1) := by decide +kernel
theorem dX10_peg_24 : decode cX10_peg 24 = .ok (.iconst 0, 1) := by decide +kernel
theorem dX10_peg_25 : decode cX10_peg 25 = .ok (.istore 4, 2) := by decide +kernel
theorem dX10_peg_27 : decode cX10_peg 27 = .ok (.iload 4, 2) := by decide +kernel
theorem dX10_peg_29 : decode cX10_peg 29 = .ok (.aload_n 0, 1) := by decide +kernel
theorem dX10_peg_30 : decode cX10_peg 30 = .ok (.getfield 7, 3) := by decide +kernel
theorem dX10_peg_33 : decode cX10_peg 33 = .ok (.bipush 40, 2) := by decide +kernel
theorem dX10_peg_35 : decode cX10_peg 35 = .ok (.iaload, 1) := by decide +kernel
theorem dX10_peg_36 : decode cX10_peg 36 = .ok (.if_icmp .ge 54, 3) := by decide +kernel
theorem dX10_peg_39 : decode cX10_peg 39 = .ok (.aload_n 0, 1) := by decide +kernel
theorem dX10_peg_40 : decode cX10_peg 40 = .ok (.iconst 0, 1) := by decide +kernel
theorem dX10_peg_41 : decode cX10_peg 41 = .ok (.aload_n 0, 1) := by decide +kernel
theorem dX10_peg_42 : decode cX10_peg 42 = .ok (.getfield 7, 3) := by decide +kernel
theorem dX10_peg_45 : decode cX10_peg 45 = .ok (.bipush 26, 2) := by decide +kernel
theorem dX10_peg_47 : decode cX10_peg 47 = .ok (.iload 4, 2) := by decide +kernel
theorem dX10_peg_49 : decode cX10_peg 49 = .ok (.iadd, 1) := by decide +kernel
theorem dX10_peg_50 : decode cX10_peg 50 = .ok (.iaload, 1) := by decide +kernel
theorem dX10_peg_51 : decode cX10_peg 51 = .ok (.aload_n 0, 1) := by decide +kernel
theorem dX10_peg_52 : decode cX10_peg 52 = .ok (.getfield 7, 3) := by decide +kernel
theorem dX10_peg_55 : decode cX10_peg 55 = .ok (.bipush 32, 2) := by decide +kernel
theorem dX10_peg_57 : decode cX10_peg 57 = .ok (.iload 4, 2) := by decide +kernel
theorem dX10_peg_59 : decode cX10_peg 59 = .ok (.iadd, 1) := by decide +kernel
theorem dX10_peg_60 : decode cX10_peg 60 = .ok (.iaload, 1) := by decide +kernel
theorem dX10_peg_61 : decode cX10_peg 61 = .ok (.iconst 0, 1) := by decide +kernel
theorem dX10_peg_62 : decode cX10_peg 62 = .ok (.invokevirtual 164, 3) := by decide +kernel
theorem dX10_peg_65 : decode cX10_peg 65 = .ok (.iload_n 3, 1) := by decide +kernel
theorem dX10_peg_66 : decode cX10_peg 66 = .ok (.aload_n 0, 1) := by decide +kernel
theorem dX10_peg_67 : decode cX10_peg 67 = .ok (.getfield 145, 3) := by decide +kernel
theorem dX10_peg_70 : decode cX10_peg 70 = .ok (.iload_n 1, 1) := by decide +kernel
theorem dX10_peg_71 : decode cX10_peg 71 = .ok (.if_icmp .ne 10, 3) := by decide +kernel
theorem dX10_peg_74 : decode cX10_peg 74 = .ok (.iconst 1, 1) := by decide +kernel
theorem dX10_peg_75 : decode cX10_peg 75 = .ok (.iload 4, 2) := by decide +kernel
theorem dX10_peg_77 : decode cX10_peg 77 = .ok (.ishl, 1) := by decide +kernel
theorem dX10_peg_78 : decode cX10_peg 78 = .ok (.goto 4, 3) := by decide +kernel
theorem dX10_peg_81 : decode cX10_peg 81 = .ok (.iconst 0, 1) := by decide +kernel
theorem dX10_peg_82 : decode cX10_peg 82 = .ok (.ior, 1) := by decide +kernel
theorem dX10_peg_83 : decode cX10_peg 83 = .ok (.istore_n 3, 1) := by decide +kernel
theorem dX10_peg_84 : decode cX10_peg 84 = .ok (.iinc 4 1, 3) := by decide +kernel
theorem dX10_peg_87 : decode cX10_peg 87 = .ok (.goto (-60), 3) := by decide +kernel
theorem dX10_peg_90 : decode cX10_peg 90 = .ok (.iload_n 2, 1) := by decide +kernel
theorem dX10_peg_91 : decode cX10_peg 91 = .ok (.iconst 2, 1) := by decide +kernel
theorem dX10_peg_92 : decode cX10_peg 92 = .ok (.if_icmp .ge 17, 3) := by decide +kernel
theorem dX10_peg_95 : decode cX10_peg 95 = .ok (.aload_n 0, 1) := by decide +kernel
theorem dX10_peg_96 : decode cX10_peg 96 = .ok (.getfield 7, 3) := by decide +kernel
theorem dX10_peg_99 : decode cX10_peg 99 = .ok (.bipush 7, 2) := by decide +kernel
theorem dX10_peg_101 : decode cX10_peg 101 = .ok (.iload_n 2, 1) := by decide +kernel
theorem dX10_peg_102 : decode cX10_peg 102 = .ok (.imul, 1) := by decide +kernel
theorem dX10_peg_103 : decode cX10_peg 103 = .ok (.iload_n 1, 1) := by decide +kernel
theorem dX10_peg_104 : decode cX10_peg 104 = .ok (.iadd, 1) := by decide +kernel
theorem dX10_peg_105 : decode cX10_peg 105 = .ok (.iaload, 1) := by decide +kernel
theorem dX10_peg_106 : decode cX10_peg 106 = .ok (.goto 4, 3) := by decide +kernel
theorem dX10_peg_109 : decode cX10_peg 109 = .ok (.iload_n 3, 1) := by decide +kernel
theorem dX10_peg_110 : decode cX10_peg 110 = .ok (.ireturn, 1) := by decide +kernel
theorem dX10_slug_0 : decode cX10_slug 0 = .ok (.iload_n 1, 1) := by decide +kernel
theorem dX10_slug_1 : decode cX10_slug 1 = .ok (.i2l, 1) := by decide +kernel
theorem dX10_slug_2 : decode cX10_slug 2 = .ok (.lconst 0, 1) := by decide +kernel
theorem dX10_slug_3 : decode cX10_slug 3 = .ok (.aload_n 0, 1) := by decide +kernel
theorem dX10_slug_4 : decode cX10_slug 4 = .ok (.getfield 7, 3) := by decide +kernel
theorem dX10_slug_7 : decode cX10_slug 7 = .ok (.bipush 39, 2) := by decide +kernel
theorem dX10_slug_9 : decode cX10_slug 9 = .ok (.iaload, 1) := by decide +kernel
theorem dX10_slug_10 : decode cX10_slug 10 = .ok (.iconst 1, 1) := by decide +kernel
theorem dX10_slug_11 : decode cX10_slug 11 = .ok (.isub, 1) := by decide +kernel
theorem dX10_slug_12 : decode cX10_slug 12 = .ok (.i2l, 1) := by decide +kernel
theorem dX10_slug_13 : decode cX10_slug 13 = .ok (.invokestatic 49, 3) := by decide +kernel
theorem dX10_slug_16 : decode cX10_slug 16 = .ok (.ifCond .eq 15, 3) := by decide +kernel
theorem dX10_slug_19 : decode cX10_slug 19 = .ok (.aload_n 0, 1) := by decide +kernel
theorem dX10_slug_20 : decode cX10_slug 20 = .ok (.getfield 7, 3) := by decide +kernel
theorem dX10_slug_23 : decode cX10_slug 23 = .ok (.bipush 14, 2) := by decide +kernel
theorem dX10_slug_25 : decode cX10_slug 25 = .ok (.iload_n 1, 1) := by decide +kernel
theorem dX10_slug_26 : decode cX10_slug 26 = .ok (.iadd, 1) := by decide +kernel
theorem dX10_slug_27 : decode cX10_slug 27 = .ok (.iaload, 1) := by decide +kernel
theorem dX10_slug_28 : decode cX10_slug 28 = .ok (.goto 4, 3) := by decide +kernel
theorem dX10_slug_31 : decode cX10_slug 31 = .ok (.iconst (-1), 1) := by decide +kernel
theorem dX10_slug_32 : decode cX10_slug 32 = .ok (.ireturn, 1) := by decide +kernel
theorem dX10_hedgehog_0 : decode cX10_hedgehog 0 = .ok (.aload_n 0, 1) := by decide +kernel
theorem dX10_hedgehog_1 : decode cX10_hedgehog 1 = .ok (.iload_n 1, 1) := by decide +kernel
theorem dX10_hedgehog_2 : decode cX10_hedgehog 2 = .ok (.invokevirtual 180, 3) := by decide +kernel
theorem dX10_hedgehog_5 : decode cX10_hedgehog 5 = .ok (.ifCond .eq 15, 3) := by decide +kernel
theorem dX10_hedgehog_8 : decode cX10_hedgehog 8 = .ok (.iload_n 2, 1) := by decide +kernel
theorem dX10_hedgehog_9 : decode cX10_hedgehog 9 = .ok (.i2l, 1) := by decide +kernel
theorem dX10_hedgehog_10 : decode cX10_hedgehog 10 = .ok (.lconst 0, 1) := by decide +kernel
theorem dX10_hedgehog_11 : decode cX10_hedgehog 11 = .ok (.ldc2_w 137, 3) := by decide +kernel
theorem dX10_hedgehog_14 : decode cX10_hedgehog 14 = .ok (.invokestatic 49, 3) := by decide +kernel
theorem dX10_hedgehog_17 : decode cX10_hedgehog 17 = .ok (.ifCond .ne 5, 3) := by decide +kernel
theorem dX10_hedgehog_20 : decode cX10_hedgehog 20 = .ok (.iconst (-1), 1) := by decide +kernel
theorem dX10_hedgehog_21 : decode cX10_hedgehog 21 = .ok (.ireturn, 1) := by decide +kernel
theorem dX10_hedgehog_22 : decode cX10_hedgehog 22 = .ok (.iconst 0, 1) := by decide +kernel
theorem dX10_hedgehog_23 : decode cX10_hedgehog 23 = .ok (.istore_n 3, 1) := by decide +kernel
theorem dX10_hedgehog_24 : decode cX10_hedgehog 24 = .ok (.iconst 0, 1) := by decide +kernel
theorem dX10_hedgehog_25 : decode cX10_hedgehog 25 = .ok (.istore 4, 2) := by decide +kernel
theorem dX10_hedgehog_27 : decode cX10_hedgehog 27 = .ok (.iload 4, 2) := by decide +kernel
theorem dX10_hedgehog_29 : decode cX10_hedgehog 29 = .ok (.bipush 8, 2) := by decide +kernel
theorem dX10_hedgehog_31 : decode cX10_hedgehog 31 = .ok (.if_icmp .ge 38, 3) := by decide +kernel
theorem dX10_hedgehog_34 : decode cX10_hedgehog 34 = .ok (.aload_n 0, 1) := by decide +kernel
theorem dX10_hedgehog_35 : decode cX10_hedgehog 35 = .ok (.iconst 0, 1) := by decide +kernel
theorem dX10_hedgehog_36 : decode cX10_hedgehog 36 = .ok (.iload_n 1, 1) := by decide +kernel
theorem dX10_hedgehog_37 : decode cX10_hedgehog 37 = .ok (.iload 4, 2) := by decide +kernel
theorem dX10_hedgehog_39 : decode cX10_hedgehog 39 = .ok (.iconst 0, 1) := by decide +kernel
theorem dX10_hedgehog_40 : decode cX10_hedgehog 40 = .ok (.invokevirtual 164, 3) := by decide +kernel
theorem dX10_hedgehog_43 : decode cX10_hedgehog 43 = .ok (.iload_n 3, 1) := by decide +kernel
theorem dX10_hedgehog_44 : decode cX10_hedgehog 44 = .ok (.aload_n 0, 1) := by decide +kernel
theorem dX10_hedgehog_45 : decode cX10_hedgehog 45 = .ok (.getfield 145, 3) := by decide +kernel
theorem dX10_hedgehog_48 : decode cX10_hedgehog 48 = .ok (.bipush (-4), 2) := by decide +kernel
theorem dX10_hedgehog_50 : decode cX10_hedgehog 50 = .ok (.if_icmp .eq 10, 3) := by decide +kernel
theorem dX10_hedgehog_53 : decode cX10_hedgehog 53 = .ok (.iconst 1, 1) := by decide +kernel
theorem dX10_hedgehog_54 : decode cX10_hedgehog 54 = .ok (.iload 4, 2) := by decide +kernel
theorem dX10_hedgehog_56 : decode cX10_hedgehog 56 = .ok (.ishl, 1) := by decide +kernel
theorem dX10_hedgehog_57 : decode cX10_hedgehog 57 = .ok (.goto 4, 3) := by decide +kernel
theorem dX10_hedgehog_60 : decode cX10_hedgehog 60 = .ok (.iconst 0, 1) := by decide +kernel
theorem dX10_hedgehog_61 : decode cX10_hedgehog 61 = .ok (.ior, 1) := by decide +kernel
theorem dX10_hedgehog_62 : decode cX10_hedgehog 62 = .ok (.istore_n 3, 1) := by decide +kernel
theorem dX10_hedgehog_63 : decode cX10_hedgehog 63 = .ok (.iinc 4 1, 3) := by decide +kernel
theorem dX10_hedgehog_66 : decode cX10_hedgehog 66 = .ok (.goto (-39), 3) := by decide +kernel
theorem dX10_hedgehog_69 : decode cX10_hedgehog 69 = .ok (.iload_n 2, 1) := by decide +kernel
theorem dX10_hedgehog_70 : decode cX10_hedgehog 70 = .ok (.iconst 2, 1) := by decide +kernel
theorem dX10_hedgehog_71 : decode cX10_hedgehog 71 = .ok (.if_icmp .ge 19, 3) := by decide +kernel
theorem dX10_hedgehog_74 : decode cX10_hedgehog 74 = .ok (.aload_n 0, 1) := by decide +kernel
theorem dX10_hedgehog_75 : decode cX10_hedgehog 75 = .ok (.getfield 7, 3) := by decide +kernel
theorem dX10_hedgehog_78 : decode cX10_hedgehog 78 = .ok (.bipush 18, 2) := by decide +kernel
theorem dX10_hedgehog_80 : decode cX10_hedgehog 80 = .ok (.iconst 4, 1) := by decide +kernel
theorem dX10_hedgehog_81 : decode cX10_hedgehog 81 = .ok (.iload_n 2, 1) := by decide +kernel
theorem dX10_hedgehog_82 : decode cX10_hedgehog 82 = .ok (.imul, 1) := by decide +kernel
theorem dX10_hedgehog_83 : decode cX10_hedgehog 83 = .ok (.iadd, 1) := by decide +kernel
theorem dX10_hedgehog_84 : decode cX10_hedgehog 84 = .ok (.iload_n 1, 1) := by decide +kernel
theorem dX10_hedgehog_85 : decode cX10_hedgehog 85 = .ok (.iadd, 1) := by decide +kernel
theorem dX10_hedgehog_86 : decode cX10_hedgehog 86 = .ok (.iaload, 1) := by decide +kernel
theorem dX10_hedgehog_87 : decode cX10_hedgehog 87 = .ok (.goto 24, 3) := by decide +kernel
theorem dX10_hedgehog_90 : decode cX10_hedgehog 90 = .ok (.iload_n 2, 1) := by decide +kernel
theorem dX10_hedgehog_91 : decode cX10_hedgehog 91 = .ok (.iconst 2, 1) := by decide +kernel
theorem dX10_hedgehog_92 : decode cX10_hedgehog 92 = .ok (.if_icmp .ne 18, 3) := by decide +kernel
theorem dX10_hedgehog_95 : decode cX10_hedgehog 95 = .ok (.aload_n 0, 1) := by decide +kernel
theorem dX10_hedgehog_96 : decode cX10_hedgehog 96 = .ok (.getfield 7, 3) := by decide +kernel
theorem dX10_hedgehog_99 : decode cX10_hedgehog 99 = .ok (.bipush 18, 2) := by decide +kernel
theorem dX10_hedgehog_101 : decode cX10_hedgehog 101 = .ok (.iload_n 1, 1) := by decide +kernel
theorem dX10_hedgehog_102 : decode cX10_hedgehog 102 = .ok (.iadd, 1) := by decide +kernel
theorem dX10_hedgehog_103 : decode cX10_hedgehog 103 = .ok (.iaload, 1) := by decide +kernel
theorem dX10_hedgehog_104 : decode cX10_hedgehog 104 = .ok (.invokestatic 158, 3) := by decide +kernel
theorem dX10_hedgehog_107 : decode cX10_hedgehog 107 = .ok (.goto 4, 3) := by decide +kernel
theorem dX10_hedgehog_110 : decode cX10_hedgehog 110 = .ok (.iload_n 3, 1) := by decide +kernel
theorem dX10_hedgehog_111 : decode cX10_hedgehog 111 = .ok (.ireturn, 1) := by decide +kernel
theorem dX10_suit_0 : decode cX10_suit 0 = .ok (.aload_n 0, 1) := by decide +kernel
theorem dX10_suit_1 : decode cX10_suit 1 = .ok (.iload_n 1, 1) := by decide +kernel
theorem dX10_suit_2 : decode cX10_suit 2 = .ok (.invokevirtual 183, 3) := by decide +kernel
theorem dX10_suit_5 : decode cX10_suit 5 = .ok (.ifCond .eq 15, 3) := by decide +kernel
theorem dX10_suit_8 : decode cX10_suit 8 = .ok (.iload_n 2, 1) := by decide +kernel
theorem dX10_suit_9 : decode cX10_suit 9 = .ok (.i2l, 1) := by decide +kernel
theorem dX10_suit_10 : decode cX10_suit 10 = .ok (.lconst 0, 1) := by decide +kernel
theorem dX10_suit_11 : decode cX10_suit 11 = .ok (.ldc2_w 178, 3) := by decide +kernel
theorem dX10_suit_14 : decode cX10_suit 14 = .ok (.invokestatic 49, 3) := by decide +kernel
theorem dX10_suit_17 : decode cX10_suit 17 = .ok (.ifCond .ne 5, 3) := by decide +kernel
theorem dX10_suit_20 : decode cX10_suit 20 = .ok (.iconst (-1), 1) := by decide +kernel
theorem dX10_suit_21 : decode cX10_suit 21 = .ok (.ireturn, 1) := by decide +kernel
theorem dX10_suit_22 : decode cX10_suit 22 = .ok (.iload_n 2, 1) := by decide +kernel
theorem dX10_suit_23 : decode cX10_suit 23 = .ok (.iconst 2, 1) := by decide +kernel
theorem dX10_suit_24 : decode cX10_suit 24 = .ok (.if_icmp .ge 20, 3) := by decide +kernel
theorem dX10_suit_27 : decode cX10_suit 27 = .ok (.aload_n 0, 1) := by decide +kernel
theorem dX10_suit_28 : decode cX10_suit 28 = .ok (.getfield 7, 3) := by decide +kernel
theorem dX10_suit_31 : decode cX10_suit 31 = .ok (.bipush 26, 2) := by decide +kernel
theorem dX10_suit_33 : decode cX10_suit 33 = .ok (.bipush 6, 2) := by decide +kernel
theorem dX10_suit_35 : decode cX10_suit 35 = .ok (.iload_n 2, 1) := by decide +kernel
theorem dX10_suit_36 : decode cX10_suit 36 = .ok (.imul, 1) := by decide +kernel
theorem dX10_suit_37 : decode cX10_suit 37 = .ok (.iadd, 1) := by decide +kernel
theorem dX10_suit_38 : decode cX10_suit 38 = .ok (.iload_n 1, 1) := by decide +kernel
theorem dX10_suit_39 : decode cX10_suit 39 = .ok (.iadd, 1) := by decide +kernel
theorem dX10_suit_40 : decode cX10_suit 40 = .ok (.iaload, 1) := by decide +kernel
theorem dX10_suit_41 : decode cX10_suit 41 = .ok (.goto 26, 3) := by decide +kernel
theorem dX10_suit_44 : decode cX10_suit 44 = .ok (.aload_n 0, 1) := by decide +kernel
theorem dX10_suit_45 : decode cX10_suit 45 = .ok (.iconst 0, 1) := by decide +kernel
theorem dX10_suit_46 : decode cX10_suit 46 = .ok (.aload_n 0, 1) := by decide +kernel
theorem dX10_suit_47 : decode cX10_suit 47 = .ok (.getfield 7, 3) := by decide +kernel
theorem dX10_suit_50 : decode cX10_suit 50 = .ok (.bipush 26, 2) := by decide +kernel
theorem dX10_suit_52 : decode cX10_suit 52 = .ok (.iload_n 1, 1) := by decide +kernel
theorem dX10_suit_53 : decode cX10_suit 53 = .ok (.iadd, 1) := by decide +kernel
theorem dX10_suit_54 : decode cX10_suit 54 = .ok (.iaload, 1) := by decide +kernel
theorem dX10_suit_55 : decode cX10_suit 55 = .ok (.aload_n 0, 1) := by decide +kernel
theorem dX10_suit_56 : decode cX10_suit 56 = .ok (.getfield 7, 3) := by decide +kernel
theorem dX10_suit_59 : decode cX10_suit 59 = .ok (.bipush 32, 2) := by decide +kernel
theorem dX10_suit_61 : decode cX10_suit 61 = .ok (.iload_n 1, 1) := by decide +kernel
theorem dX10_suit_62 : decode cX10_suit 62 = .ok (.iadd, 1) := by decide +kernel
theorem dX10_suit_63 : decode cX10_suit 63 = .ok (.iaload, 1) := by decide +kernel
theorem dX10_suit_64 : decode cX10_suit 64 = .ok (.invokevirtual 168, 3) := by decide +kernel
theorem dX10_suit_67 : decode cX10_suit 67 = .ok (.ireturn, 1) := by decide +kernel
theorem dX10_puts_0 : decode cX10_puts 0 = .ok (.iload_n 1, 1) := by decide +kernel
theorem dX10_puts_1 : decode cX10_puts 1 = .ok (.ifCond .ne 5, 3) := by decide +kernel
theorem dX10_puts_4 : decode cX10_puts 4 = .ok (.iconst (-1), 1) := by decide +kernel
theorem dX10_puts_5 : decode cX10_puts 5 = .ok (.ireturn, 1) := by decide +kernel
theorem dX10_puts_6 : decode cX10_puts 6 = .ok (.aload_n 0, 1) := by decide +kernel
theorem dX10_puts_7 : decode cX10_puts 7 = .ok (.getfield 7, 3) := by decide +kernel
theorem dX10_puts_10 : decode cX10_puts 10 = .ok (.iload_n 2, 1) := by decide +kernel
theorem dX10_puts_11 : decode cX10_puts 11 = .ok (.iaload, 1) := by decide +kernel
theorem dX10_puts_12 : decode cX10_puts 12 = .ok (.istore 4, 2) := by decide +kernel
theorem dX10_puts_14 : decode cX10_puts 14 = .ok (.aload_n 0, 1) := by decide +kernel
theorem dX10_puts_15 : decode cX10_puts 15 = .ok (.getfield 7, 3) := by decide +kernel
theorem dX10_puts_18 : decode cX10_puts 18 = .ok (.iload_n 2, 1) := by decide +kernel
theorem dX10_puts_19 : decode cX10_puts 19 = .ok (.iload_n 3, 1) := by decide +kernel
theorem dX10_puts_20 : decode cX10_puts 20 = .ok (.iastore, 1) := by decide +kernel
theorem dX10_puts_21 : decode cX10_puts 21 = .ok (.iload 4, 2) := by decide +kernel
theorem dX10_puts_23 : decode cX10_puts 23 = .ok (.ireturn, 1) := by decide +kernel
theorem dX10_shift_0 : decode cX10_shift 0 = .ok (.aload_n 0, 1) := by decide +kernel
theorem dX10_shift_1 : decode cX10_shift 1 = .ok (.iload_n 1, 1) := by decide +kernel
theorem dX10_shift_2 : decode cX10_shift 2 = .ok (.invokevirtual 175, 3) := by decide +kernel
theorem dX10_shift_5 : decode cX10_shift 5 = .ok (.ifCond .eq 10, 3) := by decide +kernel
theorem dX10_shift_8 : decode cX10_shift 8 = .ok (.iload_n 2, 1) := by decide +kernel
theorem dX10_shift_9 : decode cX10_shift 9 = .ok (.invokestatic 186, 3) := by decide +kernel
theorem dX10_shift_12 : decode cX10_shift 12 = .ok (.ifCond .ne 5, 3) := by decide +kernel
theorem dX10_shift_15 : decode cX10_shift 15 = .ok (.iconst (-1), 1) := by decide +kernel
theorem dX10_shift_16 : decode cX10_shift 16 = .ok (.ireturn, 1) := by decide +kernel
theorem dX10_shift_17 : decode cX10_shift 17 = .ok (.aload_n 0, 1) := by decide +kernel
theorem dX10_shift_18 : decode cX10_shift 18 = .ok (.iconst 0, 1) := by decide +kernel
theorem dX10_shift_19 : decode cX10_shift 19 = .ok (.iload_n 2, 1) := by decide +kernel
theorem dX10_shift_20 : decode cX10_shift 20 = .ok (.invokevirtual 189, 3) := by decide +kernel
theorem dX10_shift_23 : decode cX10_shift 23 = .ok (.ifCond .ne 13, 3) := by decide +kernel
theorem dX10_shift_26 : decode cX10_shift 26 = .ok (.aload_n 0, 1) := by decide +kernel
theorem dX10_shift_27 : decode cX10_shift 27 = .ok (.iconst 0, 1) := by decide +kernel
theorem dX10_shift_28 : decode cX10_shift 28 = .ok (.iload_n 2, 1) := by decide +kernel
theorem dX10_shift_29 : decode cX10_shift 29 = .ok (.invokevirtual 139, 3) := by decide +kernel
theorem dX10_shift_32 : decode cX10_shift 32 = .ok (.iload_n 1, 1) := by decide +kernel
theorem dX10_shift_33 : decode cX10_shift 33 = .ok (.if_icmp .ne 13, 3) := by decide +kernel
theorem dX10_shift_36 : decode cX10_shift 36 = .ok (.aload_n 0, 1) := by decide +kernel
theorem dX10_shift_37 : decode cX10_shift 37 = .ok (.iconst 1, 1) := by decide +kernel
theorem dX10_shift_38 : decode cX10_shift 38 = .ok (.iload_n 1, 1) := by decide +kernel
theorem dX10_shift_39 : decode cX10_shift 39 = .ok (.iload_n 2, 1) := by decide +kernel
theorem dX10_shift_40 : decode cX10_shift 40 = .ok (.invokevirtual 193, 3) := by decide +kernel
theorem dX10_shift_43 : decode cX10_shift 43 = .ok (.goto 5, 3) := by decide +kernel
theorem dX10_shift_46 : decode cX10_shift 46 = .ok (.bipush (-2), 2) := by decide +kernel
theorem dX10_shift_48 : decode cX10_shift 48 = .ok (.ireturn, 1) := by decide +kernel
theorem dX10_rag_0 : decode cX10_rag 0 = .ok (.aload_n 0, 1) := by decide +kernel
theorem dX10_rag_1 : decode cX10_rag 1 = .ok (.aload_n 0, 1) := by decide +kernel
theorem dX10_rag_2 : decode cX10_rag 2 = .ok (.iload_n 1, 1) := by decide +kernel
theorem dX10_rag_3 : decode cX10_rag 3 = .ok (.invokevirtual 175, 3) := by decide +kernel
theorem dX10_rag_6 : decode cX10_rag 6 = .ok (.ifCond .eq 14, 3) := by decide +kernel
theorem dX10_rag_9 : decode cX10_rag 9 = .ok (.iload_n 2, 1) := by decide +kernel
theorem dX10_rag_10 : decode cX10_rag 10 = .ok (.invokestatic 197, 3) := by decide +kernel
theorem dX10_rag_13 : decode cX10_rag 13 = .ok (.ifCond .eq 7, 3) := by decide +kernel
theorem dX10_rag_16 : decode cX10_rag 16 = .ok (.iconst 1, 1) := by decide +kernel
theorem dX10_rag_17 : decode cX10_rag 17 = .ok (.goto 4, 3) := by decide +kernel
theorem dX10_rag_20 : decode cX10_rag 20 = .ok (.iconst 0, 1) := by decide +kernel
theorem dX10_rag_21 : decode cX10_rag 21 = .ok (.bipush 7, 2) := by decide +kernel
theorem dX10_rag_23 : decode cX10_rag 23 = .ok (.iload_n 1, 1) := by decide +kernel
theorem dX10_rag_24 : decode cX10_rag 24 = .ok (.iadd, 1) := by decide +kernel
theorem dX10_rag_25 : decode cX10_rag 25 = .ok (.iload_n 2, 1) := by decide +kernel
theorem dX10_rag_26 : decode cX10_rag 26 = .ok (.invokevirtual 193, 3) := by decide +kernel
theorem dX10_rag_29 : decode cX10_rag 29 = .ok (.ireturn, 1) := by decide +kernel
theorem dX10_alter_0 : decode cX10_alter 0 = .ok (.iload_n 2, 1) := by decide +kernel
theorem dX10_alter_1 : decode cX10_alter 1 = .ok (.ifCond .ne 15, 3) := by decide +kernel
theorem dX10_alter_4 : decode cX10_alter 4 = .ok (.iload_n 3, 1) := by decide +kernel
theorem dX10_alter_5 : decode cX10_alter 5 = .ok (.i2l, 1) := by decide +kernel
theorem dX10_alter_6 : decode cX10_alter 6 = .ok (.lconst 0, 1) := by decide +kernel
theorem dX10_alter_7 : decode cX10_alter 7 = .ok (.ldc2_w 137, 3) := by decide +kernel
theorem dX10_alter_10 : decode cX10_alter 10 = .ok (.invokestatic 49, 3) := by decide +kernel
theorem dX10_alter_13 : decode cX10_alter 13 = .ok (.goto 25, 3) := by decide +kernel
theorem dX10_alter_16 : decode cX10_alter 16 = .ok (.iload_n 2, 1) := by decide +kernel
theorem dX10_alter_17 : decode cX10_alter 17 = .ok (.iconst 1, 1) := by decide +kernel
theorem dX10_alter_18 : decode cX10_alter 18 = .ok (.if_icmp .ne 19, 3) := by decide +kernel
theorem dX10_alter_21 : decode cX10_alter 21 = .ok (.iload_n 3, 1) := by decide +kernel
theorem dX10_alter_22 : decode cX10_alter 22 = .ok (.i2l, 1) := by decide +kernel
theorem dX10_alter_23 : decode cX10_alter 23 = .ok (.lconst 1, 1) := by decide +kernel
theorem dX10_alter_24 : decode cX10_alter 24 = .ok (.ldc2_w 200, 3) := by decide +kernel
theorem dX10_alter_27 : decode cX10_alter 27 = .ok (.invokestatic 49, 3) := by decide +kernel
theorem dX10_alter_30 : decode cX10_alter 30 = .ok (.ifCond .eq 7, 3) := by decide +kernel
theorem dX10_alter_33 : decode cX10_alter 33 = .ok (.iconst 1, 1) := by decide +kernel
theorem dX10_alter_34 : decode cX10_alter 34 = .ok (.goto 4, 3) := by decide +kernel
theorem dX10_alter_37 : decode cX10_alter 37 = .ok (.iconst 0, 1) := by decide +kernel
theorem dX10_alter_38 : decode cX10_alter 38 = .ok (.istore 4, 2) := by decide +kernel
theorem dX10_alter_40 : decode cX10_alter 40 = .ok (.aload_n 0, 1) := by decide +kernel
theorem dX10_alter_41 : decode cX10_alter 41 = .ok (.aload_n 0, 1) := by decide +kernel
theorem dX10_alter_42 : decode cX10_alter 42 = .ok (.iload_n 1, 1) := by decide +kernel
theorem dX10_alter_43 : decode cX10_alter 43 = .ok (.invokevirtual 180, 3) := by decide +kernel
theorem dX10_alter_46 : decode cX10_alter 46 = .ok (.ifCond .eq 12, 3) := by decide +kernel
theorem dX10_alter_49 : decode cX10_alter 49 = .ok (.iload 4, 2) := by decide +kernel
theorem dX10_alter_51 : decode cX10_alter 51 = .ok (.ifCond .eq 7, 3) := by decide +kernel
theorem dX10_alter_54 : decode cX10_alter 54 = .ok (.iconst 1, 1) := by decide +kernel
theorem dX10_alter_55 : decode cX10_alter 55 = .ok (.goto 4, 3) := by decide +kernel
theorem dX10_alter_58 : decode cX10_alter 58 = .ok (.iconst 0, 1) := by decide +kernel
theorem dX10_alter_59 : decode cX10_alter 59 = .ok (.bipush 18, 2) := by decide +kernel
theorem dX10_alter_61 : decode cX10_alter 61 = .ok (.iconst 4, 1) := by decide +kernel
theorem dX10_alter_62 : decode cX10_alter 62 = .ok (.iload_n 2, 1) := by decide +kernel
theorem dX10_alter_63 : decode cX10_alter 63 = .ok (.imul, 1) := by decide +kernel
theorem dX10_alter_64 : decode cX10_alter 64 = .ok (.iadd, 1) := by decide +kernel
theorem dX10_alter_65 : decode cX10_alter 65 = .ok (.iload_n 1, 1) := by decide +kernel
theorem dX10_alter_66 : decode cX10_alter 66 = .ok (.iadd, 1) := by decide +kernel
theorem dX10_alter_67 : decode cX10_alter 67 = .ok (.iload_n 3, 1) := by decide +kernel
theorem dX10_alter_68 : decode cX10_alter 68 = .ok (.invokevirtual 193, 3) := by decide +kernel
theorem dX10_alter_71 : decode cX10_alter 71 = .ok (.ireturn, 1) := by decide +kernel
theorem dX10_drivesOn_0 : decode cX10_drivesOn 0 = .ok (.aload_n 0, 1) := by decide +kernel
theorem dX10_drivesOn_1 : decode cX10_drivesOn 1 = .ok (.getfield 7, 3) := by decide +kernel
theorem dX10_drivesOn_4 : decode cX10_drivesOn 4 = .ok (.iload_n 1, 1) := by decide +kernel
theorem dX10_drivesOn_5 : decode cX10_drivesOn 5 = .ok (.bipush 38, 2) := by decide +kernel
theorem dX10_drivesOn_7 : decode cX10_drivesOn 7 = .ok (.iadd, 1) := by decide +kernel
theorem dX10_drivesOn_8 : decode cX10_drivesOn 8 = .ok (.iaload, 1) := by decide +kernel
theorem dX10_drivesOn_9 : decode cX10_drivesOn 9 = .ok (.istore 4, 2) := by decide +kernel
theorem dX10_drivesOn_11 : decode cX10_drivesOn 11 = .ok (.aload_n 0, 1) := by decide +kernel
theorem dX10_drivesOn_12 : decode cX10_drivesOn 12 = .ok (.getfield 7, 3) := by decide +kernel
theorem dX10_drivesOn_15 : decode cX10_drivesOn 15 = .ok (.iload_n 1, 1) := by decide +kernel
theorem dX10_drivesOn_16 : decode cX10_drivesOn 16 = .ok (.iload 4, 2) := by decide +kernel
theorem dX10_drivesOn_18 : decode cX10_drivesOn 18 = .ok (.iadd, 1) := by decide +kernel
theorem dX10_drivesOn_19 : decode cX10_drivesOn 19 = .ok (.iload_n 2, 1) := by decide +kernel
theorem dX10_drivesOn_20 : decode cX10_drivesOn 20 = .ok (.iastore, 1) := by decide +kernel
theorem dX10_drivesOn_21 : decode cX10_drivesOn 21 = .ok (.aload_n 0, 1) := by decide +kernel
theorem dX10_drivesOn_22 : decode cX10_drivesOn 22 = .ok (.getfield 7, 3) := by decide +kernel
theorem dX10_drivesOn_25 : decode cX10_drivesOn 25 = .ok (.iload_n 1, 1) := by decide +kernel
theorem dX10_drivesOn_26 : decode cX10_drivesOn 26 = .ok (.bipush 7, 2) := by decide +kernel
theorem dX10_drivesOn_28 : decode cX10_drivesOn 28 = .ok (.iadd, 1) := by decide +kernel
theorem dX10_drivesOn_29 : decode cX10_drivesOn 29 = .ok (.iload 4, 2) := by decide +kernel
theorem dX10_drivesOn_31 : decode cX10_drivesOn 31 = .ok (.iadd, 1) := by decide +kernel
theorem dX10_drivesOn_32 : decode cX10_drivesOn 32 = .ok (.iload_n 3, 1) := by decide +kernel
theorem dX10_drivesOn_33 : decode cX10_drivesOn 33 = .ok (.iastore, 1) := by decide +kernel
theorem dX10_drivesOn_34 : decode cX10_drivesOn 34 = .ok (.aload_n 0, 1) := by decide +kernel
theorem dX10_drivesOn_35 : decode cX10_drivesOn 35 = .ok (.getfield 7, 3) := by decide +kernel
theorem dX10_drivesOn_38 : decode cX10_drivesOn 38 = .ok (.iload_n 1, 1) := by decide +kernel
theorem dX10_drivesOn_39 : decode cX10_drivesOn 39 = .ok (.bipush 38, 2) := by decide +kernel
theorem dX10_drivesOn_41 : decode cX10_drivesOn 41 = .ok (.iadd, 1) := by decide +kernel
theorem dX10_drivesOn_42 : decode cX10_drivesOn 42 = .ok (.dup2, 1) := by decide +kernel
theorem dX10_drivesOn_43 : decode cX10_drivesOn 43 = .ok (.iaload, 1) := by decide +kernel
theorem dX10_drivesOn_44 : decode cX10_drivesOn 44 = .ok (.iconst 1, 1) := by decide +kernel
theorem dX10_drivesOn_45 : decode cX10_drivesOn 45 = .ok (.iadd, 1) := by decide +kernel
theorem dX10_drivesOn_46 : decode cX10_drivesOn 46 = .ok (.iastore, 1) := by decide +kernel
theorem dX10_drivesOn_47 : decode cX10_drivesOn 47 = .ok (.return_, 1) := by decide +kernel
theorem dX10_drives_0 : decode cX10_drives 0 = .ok (.iload_n 1, 1) := by decide +kernel
theorem dX10_drives_1 : decode cX10_drives 1 = .ok (.invokestatic 186, 3) := by decide +kernel
theorem dX10_drives_4 : decode cX10_drives 4 = .ok (.ifCond .eq 10, 3) := by decide +kernel
theorem dX10_drives_7 : decode cX10_drives 7 = .ok (.iload_n 2, 1) := by decide +kernel
theorem dX10_drives_8 : decode cX10_drives 8 = .ok (.invokestatic 197, 3) := by decide +kernel
theorem dX10_drives_11 : decode cX10_drives 11 = .ok (.ifCond .ne 5, 3) := by decide +kernel
theorem dX10_drives_14 : decode cX10_drives 14 = .ok (.iconst (-1), 1) := by decide +kernel
theorem dX10_drives_15 : decode cX10_drives 15 = .ok (.ireturn, 1) := by decide +kernel
theorem dX10_drives_16 : decode cX10_drives 16 = .ok (.aload_n 0, 1) := by decide +kernel
theorem dX10_drives_17 : decode cX10_drives 17 = .ok (.iconst 0, 1) := by decide +kernel
theorem dX10_drives_18 : decode cX10_drives 18 = .ok (.iload_n 1, 1) := by decide +kernel
theorem dX10_drives_19 : decode cX10_drives 19 = .ok (.invokevirtual 189, 3) := by decide +kernel
theorem dX10_drives_22 : decode cX10_drives 22 = .ok (.ifCond .ne 6, 3) := by decide +kernel
theorem dX10_drives_25 : decode cX10_drives 25 = .ok (.bipush (-2), 2) := by decide +kernel
theorem dX10_drives_27 : decode cX10_drives 27 = .ok (.ireturn, 1) := by decide +kernel
theorem dX10_drives_28 : decode cX10_drives 28 = .ok (.aload_n 0, 1) := by decide +kernel
theorem dX10_drives_29 : decode cX10_drives 29 = .ok (.getfield 7, 3) := by decide +kernel
theorem dX10_drives_32 : decode cX10_drives 32 = .ok (.bipush 38, 2) := by decide +kernel
theorem dX10_drives_34 : decode cX10_drives 34 = .ok (.iaload, 1) := by decide +kernel
theorem dX10_drives_35 : decode cX10_drives 35 = .ok (.bipush 7, 2) := by decide +kernel
theorem dX10_drives_37 : decode cX10_drives 37 = .ok (.if_icmp .ne 6, 3) := by decide +kernel
theorem dX10_drives_40 : decode cX10_drives 40 = .ok (.bipush (-3), 2) := by decide +kernel
theorem dX10_drives_42 : decode cX10_drives 42 = .ok (.ireturn, 1) := by decide +kernel
theorem dX10_drives_43 : decode cX10_drives 43 = .ok (.aload_n 0, 1) := by decide +kernel
theorem dX10_drives_44 : decode cX10_drives 44 = .ok (.iconst 0, 1) := by decide +kernel
theorem dX10_drives_45 : decode cX10_drives 45 = .ok (.iload_n 1, 1) := by decide +kernel
theorem dX10_drives_46 : decode cX10_drives 46 = .ok (.iload_n 2, 1) := by decide +kernel
theorem dX10_drives_47 : decode cX10_drives 47 = .ok (.invokevirtual 202, 3) := by decide +kernel
theorem dX10_drives_50 : decode cX10_drives 50 = .ok (.aload_n 0, 1) := by decide +kernel
theorem dX10_drives_51 : decode cX10_drives 51 = .ok (.getfield 7, 3) := by decide +kernel
theorem dX10_drives_54 : decode cX10_drives 54 = .ok (.bipush 38, 2) := by decide +kernel
theorem dX10_drives_56 : decode cX10_drives 56 = .ok (.iaload, 1) := by decide +kernel
theorem dX10_drives_57 : decode cX10_drives 57 = .ok (.ireturn, 1) := by decide +kernel
theorem dX10_drive_0 : decode cX10_drive 0 = .ok (.aload_n 0, 1) := by decide +kernel
theorem dX10_drive_1 : decode cX10_drive 1 = .ok (.iload_n 1, 1) := by decide +kernel
theorem dX10_drive_2 : decode cX10_drive 2 = .ok (.iload_n 2, 1) := by decide +kernel
theorem dX10_drive_3 : decode cX10_drive 3 = .ok (.invokevirtual 206, 3) := by decide +kernel
theorem dX10_drive_6 : decode cX10_drive 6 = .ok (.ireturn, 1) := by decide +kernel
theorem dX10_laysOn_0 : decode cX10_laysOn 0 = .ok (.aload_n 0, 1) := by decide +kernel
theorem dX10_laysOn_1 : decode cX10_laysOn 1 = .ok (.getfield 7, 3) := by decide +kernel
theorem dX10_laysOn_4 : decode cX10_laysOn 4 = .ok (.iload_n 1, 1) := by decide +kernel
theorem dX10_laysOn_5 : decode cX10_laysOn 5 = .ok (.bipush 14, 2) := by decide +kernel
theorem dX10_laysOn_7 : decode cX10_laysOn 7 = .ok (.iadd, 1) := by decide +kernel
theorem dX10_laysOn_8 : decode cX10_laysOn 8 = .ok (.aload_n 0, 1) := by decide +kernel
theorem dX10_laysOn_9 : decode cX10_laysOn 9 = .ok (.getfield 7, 3) := by decide +kernel
theorem dX10_laysOn_12 : decode cX10_laysOn 12 = .ok (.iload_n 1, 1) := by decide +kernel
theorem dX10_laysOn_13 : decode cX10_laysOn 13 = .ok (.bipush 39, 2) := by decide +kernel
theorem dX10_laysOn_15 : decode cX10_laysOn 15 = .ok (.iadd, 1) := by decide +kernel
theorem dX10_laysOn_16 : decode cX10_laysOn 16 = .ok (.iaload, 1) := by decide +kernel
theorem dX10_laysOn_17 : decode cX10_laysOn 17 = .ok (.iadd, 1) := by decide +kernel
theorem dX10_laysOn_18 : decode cX10_laysOn 18 = .ok (.iload_n 2, 1) := by decide +kernel
theorem dX10_laysOn_19 : decode cX10_laysOn 19 = .ok (.iastore, 1) := by decide +kernel
theorem dX10_laysOn_20 : decode cX10_laysOn 20 = .ok (.aload_n 0, 1) := by decide +kernel
theorem dX10_laysOn_21 : decode cX10_laysOn 21 = .ok (.getfield 7, 3) := by decide +kernel
theorem dX10_laysOn_24 : decode cX10_laysOn 24 = .ok (.iload_n 1, 1) := by decide +kernel
theorem dX10_laysOn_25 : decode cX10_laysOn 25 = .ok (.bipush 39, 2) := by decide +kernel
theorem dX10_laysOn_27 : decode cX10_laysOn 27 = .ok (.iadd, 1) := by decide +kernel
theorem dX10_laysOn_28 : decode cX10_laysOn 28 = .ok (.dup2, 1) := by decide +kernel
theorem dX10_laysOn_29 : decode cX10_laysOn 29 = .ok (.iaload, 1) := by decide +kernel
theorem dX10_laysOn_30 : decode cX10_laysOn 30 = .ok (.iconst 1, 1) := by decide +kernel
theorem dX10_laysOn_31 : decode cX10_laysOn 31 = .ok (.iadd, 1) := by decide +kernel
theorem dX10_laysOn_32 : decode cX10_laysOn 32 = .ok (.iastore, 1) := by decide +kernel
theorem dX10_laysOn_33 : decode cX10_laysOn 33 = .ok (.return_, 1) := by decide +kernel
theorem dX10_lay_0 : decode cX10_lay 0 = .ok (.iload_n 1, 1) := by decide +kernel
theorem dX10_lay_1 : decode cX10_lay 1 = .ok (.invokestatic 186, 3) := by decide +kernel
theorem dX10_lay_4 : decode cX10_lay 4 = .ok (.ifCond .ne 5, 3) := by decide +kernel
theorem dX10_lay_7 : decode cX10_lay 7 = .ok (.iconst (-1), 1) := by decide +kernel
theorem dX10_lay_8 : decode cX10_lay 8 = .ok (.ireturn, 1) := by decide +kernel
theorem dX10_lay_9 : decode cX10_lay 9 = .ok (.aload_n 0, 1) := by decide +kernel
theorem dX10_lay_10 : decode cX10_lay 10 = .ok (.iconst 0, 1) := by decide +kernel
theorem dX10_lay_11 : decode cX10_lay 11 = .ok (.iload_n 1, 1) := by decide +kernel
theorem dX10_lay_12 : decode cX10_lay 12 = .ok (.invokevirtual 189, 3) := by decide +kernel
theorem dX10_lay_15 : decode cX10_lay 15 = .ok (.ifCond .ne 6, 3) := by decide +kernel
theorem dX10_lay_18 : decode cX10_lay 18 = .ok (.bipush (-2), 2) := by decide +kernel
theorem dX10_lay_20 : decode cX10_lay 20 = .ok (.ireturn, 1) := by decide +kernel
theorem dX10_lay_21 : decode cX10_lay 21 = .ok (.aload_n 0, 1) := by decide +kernel
theorem dX10_lay_22 : decode cX10_lay 22 = .ok (.getfield 7, 3) := by decide +kernel
theorem dX10_lay_25 : decode cX10_lay 25 = .ok (.bipush 39, 2) := by decide +kernel
theorem dX10_lay_27 : decode cX10_lay 27 = .ok (.iaload, 1) := by decide +kernel
theorem dX10_lay_28 : decode cX10_lay 28 = .ok (.iconst 4, 1) := by decide +kernel
theorem dX10_lay_29 : decode cX10_lay 29 = .ok (.if_icmp .ne 6, 3) := by decide +kernel
theorem dX10_lay_32 : decode cX10_lay 32 = .ok (.bipush (-3), 2) := by decide +kernel
theorem dX10_lay_34 : decode cX10_lay 34 = .ok (.ireturn, 1) := by decide +kernel
theorem dX10_lay_35 : decode cX10_lay 35 = .ok (.aload_n 0, 1) := by decide +kernel
theorem dX10_lay_36 : decode cX10_lay 36 = .ok (.iconst 0, 1) := by decide +kernel
theorem dX10_lay_37 : decode cX10_lay 37 = .ok (.iload_n 1, 1) := by decide +kernel
theorem dX10_lay_38 : decode cX10_lay 38 = .ok (.invokevirtual 209, 3) := by decide +kernel
theorem dX10_lay_41 : decode cX10_lay 41 = .ok (.aload_n 0, 1) := by decide +kernel
theorem dX10_lay_42 : decode cX10_lay 42 = .ok (.getfield 7, 3) := by decide +kernel
theorem dX10_lay_45 : decode cX10_lay 45 = .ok (.bipush 39, 2) := by decide +kernel
theorem dX10_lay_47 : decode cX10_lay 47 = .ok (.iaload, 1) := by decide +kernel
theorem dX10_lay_48 : decode cX10_lay 48 = .ok (.ireturn, 1) := by decide +kernel
theorem dX10_clear_0 : decode cX10_clear 0 = .ok (.aload_n 0, 1) := by decide +kernel
theorem dX10_clear_1 : decode cX10_clear 1 = .ok (.iload_n 1, 1) := by decide +kernel
theorem dX10_clear_2 : decode cX10_clear 2 = .ok (.i2l, 1) := by decide +kernel
theorem dX10_clear_3 : decode cX10_clear 3 = .ok (.lconst 0, 1) := by decide +kernel
theorem dX10_clear_4 : decode cX10_clear 4 = .ok (.aload_n 0, 1) := by decide +kernel
theorem dX10_clear_5 : decode cX10_clear 5 = .ok (.getfield 7, 3) := by decide +kernel
theorem dX10_clear_8 : decode cX10_clear 8 = .ok (.bipush 39, 2) := by decide +kernel
theorem dX10_clear_10 : decode cX10_clear 10 = .ok (.iaload, 1) := by decide +kernel
theorem dX10_clear_11 : decode cX10_clear 11 = .ok (.i2l, 1) := by decide +kernel
theorem dX10_clear_12 : decode cX10_clear 12 = .ok (.invokestatic 49, 3) := by decide +kernel
theorem dX10_clear_15 : decode cX10_clear 15 = .ok (.bipush 39, 2) := by decide +kernel
theorem dX10_clear_17 : decode cX10_clear 17 = .ok (.iload_n 1, 1) := by decide +kernel
theorem dX10_clear_18 : decode cX10_clear 18 = .ok (.invokevirtual 193, 3) := by decide +kernel
theorem dX10_clear_21 : decode cX10_clear 21 = .ok (.ireturn, 1) := by decide +kernel
theorem dX10_sue_0 : decode cX10_sue 0 = .ok (.aload_n 0, 1) := by decide +kernel
theorem dX10_sue_1 : decode cX10_sue 1 = .ok (.iload_n 1, 1) := by decide +kernel
theorem dX10_sue_2 : decode cX10_sue 2 = .ok (.invokevirtual 180, 3) := by decide +kernel
theorem dX10_sue_5 : decode cX10_sue 5 = .ok (.ifCond .eq 10, 3) := by decide +kernel
theorem dX10_sue_8 : decode cX10_sue 8 = .ok (.iload_n 2, 1) := by decide +kernel
theorem dX10_sue_9 : decode cX10_sue 9 = .ok (.invokestatic 213, 3) := by decide +kernel
theorem dX10_sue_12 : decode cX10_sue 12 = .ok (.ifCond .ne 5, 3) := by decide +kernel
theorem dX10_sue_15 : decode cX10_sue 15 = .ok (.iconst (-1), 1) := by decide +kernel
theorem dX10_sue_16 : decode cX10_sue 16 = .ok (.ireturn, 1) := by decide +kernel
theorem dX10_sue_17 : decode cX10_sue 17 = .ok (.aload_n 0, 1) := by decide +kernel
theorem dX10_sue_18 : decode cX10_sue 18 = .ok (.getfield 7, 3) := by decide +kernel
theorem dX10_sue_21 : decode cX10_sue 21 = .ok (.bipush 40, 2) := by decide +kernel
theorem dX10_sue_23 : decode cX10_sue 23 = .ok (.iaload, 1) := by decide +kernel
theorem dX10_sue_24 : decode cX10_sue 24 = .ok (.istore_n 3, 1) := by decide +kernel
theorem dX10_sue_25 : decode cX10_sue 25 = .ok (.iload_n 3, 1) := by decide +kernel
theorem dX10_sue_26 : decode cX10_sue 26 = .ok (.bipush 6, 2) := by decide +kernel
theorem dX10_sue_28 : decode cX10_sue 28 = .ok (.if_icmp .ne 6, 3) := by decide +kernel
theorem dX10_sue_31 : decode cX10_sue 31 = .ok (.bipush (-3), 2) := by decide +kernel
theorem dX10_sue_33 : decode cX10_sue 33 = .ok (.ireturn, 1) := by decide +kernel
theorem dX10_sue_34 : decode cX10_sue 34 = .ok (.aload_n 0, 1) := by decide +kernel
theorem dX10_sue_35 : decode cX10_sue 35 = .ok (.getfield 7, 3) := by decide +kernel
theorem dX10_sue_38 : decode cX10_sue 38 = .ok (.bipush 26, 2) := by decide +kernel
theorem dX10_sue_40 : decode cX10_sue 40 = .ok (.iload_n 3, 1) := by decide +kernel
theorem dX10_sue_41 : decode cX10_sue 41 = .ok (.iadd, 1) := by decide +kernel
theorem dX10_sue_42 : decode cX10_sue 42 = .ok (.iload_n 1, 1) := by decide +kernel
theorem dX10_sue_43 : decode cX10_sue 43 = .ok (.iastore, 1) := by decide +kernel
theorem dX10_sue_44 : decode cX10_sue 44 = .ok (.aload_n 0, 1) := by decide +kernel
theorem dX10_sue_45 : decode cX10_sue 45 = .ok (.getfield 7, 3) := by decide +kernel
theorem dX10_sue_48 : decode cX10_sue 48 = .ok (.bipush 32, 2) := by decide +kernel
theorem dX10_sue_50 : decode cX10_sue 50 = .ok (.iload_n 3, 1) := by decide +kernel
theorem dX10_sue_51 : decode cX10_sue 51 = .ok (.iadd, 1) := by decide +kernel
theorem dX10_sue_52 : decode cX10_sue 52 = .ok (.iload_n 2, 1) := by decide +kernel
theorem dX10_sue_53 : decode cX10_sue 53 = .ok (.iastore, 1) := by decide +kernel
theorem dX10_sue_54 : decode cX10_sue 54 = .ok (.aload_n 0, 1) := by decide +kernel
theorem dX10_sue_55 : decode cX10_sue 55 = .ok (.getfield 7, 3) := by decide +kernel
theorem dX10_sue_58 : decode cX10_sue 58 = .ok (.bipush 40, 2) := by decide +kernel
theorem dX10_sue_60 : decode cX10_sue 60 = .ok (.dup2, 1) := by decide +kernel
theorem dX10_sue_61 : decode cX10_sue 61 = .ok (.iaload, 1) := by decide +kernel
theorem dX10_sue_62 : decode cX10_sue 62 = .ok (.iconst 1, 1) := by decide +kernel
theorem dX10_sue_63 : decode cX10_sue 63 = .ok (.iadd, 1) := by decide +kernel
theorem dX10_sue_64 : decode cX10_sue 64 = .ok (.iastore, 1) := by decide +kernel
theorem dX10_sue_65 : decode cX10_sue 65 = .ok (.aload_n 0, 1) := by decide +kernel
theorem dX10_sue_66 : decode cX10_sue 66 = .ok (.getfield 7, 3) := by decide +kernel
theorem dX10_sue_69 : decode cX10_sue 69 = .ok (.bipush 40, 2) := by decide +kernel
theorem dX10_sue_71 : decode cX10_sue 71 = .ok (.iaload, 1) := by decide +kernel
theorem dX10_sue_72 : decode cX10_sue 72 = .ok (.ireturn, 1) := by decide +kernel
theorem dX10_drop_0 : decode cX10_drop 0 = .ok (.aload_n 0, 1) := by decide +kernel
theorem dX10_drop_1 : decode cX10_drop 1 = .ok (.iload_n 1, 1) := by decide +kernel
theorem dX10_drop_2 : decode cX10_drop 2 = .ok (.i2l, 1) := by decide +kernel
theorem dX10_drop_3 : decode cX10_drop 3 = .ok (.lconst 0, 1) := by decide +kernel
theorem dX10_drop_4 : decode cX10_drop 4 = .ok (.aload_n 0, 1) := by decide +kernel
theorem dX10_drop_5 : decode cX10_drop 5 = .ok (.getfield 7, 3) := by decide +kernel
theorem dX10_drop_8 : decode cX10_drop 8 = .ok (.bipush 40, 2) := by decide +kernel
theorem dX10_drop_10 : decode cX10_drop 10 = .ok (.iaload, 1) := by decide +kernel
theorem dX10_drop_11 : decode cX10_drop 11 = .ok (.i2l, 1) := by decide +kernel
theorem dX10_drop_12 : decode cX10_drop 12 = .ok (.invokestatic 49, 3) := by decide +kernel
theorem dX10_drop_15 : decode cX10_drop 15 = .ok (.bipush 40, 2) := by decide +kernel
theorem dX10_drop_17 : decode cX10_drop 17 = .ok (.iload_n 1, 1) := by decide +kernel
theorem dX10_drop_18 : decode cX10_drop 18 = .ok (.invokevirtual 193, 3) := by decide +kernel
theorem dX10_drop_21 : decode cX10_drop 21 = .ok (.ireturn, 1) := by decide +kernel
theorem dX10_run_0 : decode cX10_run 0 = .ok (.aload_n 0, 1) := by decide +kernel
theorem dX10_run_1 : decode cX10_run 1 = .ok (.iload_n 1, 1) := by decide +kernel
theorem dX10_run_2 : decode cX10_run 2 = .ok (.invokevirtual 180, 3) := by decide +kernel
theorem dX10_run_5 : decode cX10_run 5 = .ok (.ifCond .eq 22, 3) := by decide +kernel
theorem dX10_run_8 : decode cX10_run 8 = .ok (.iload_n 2, 1) := by decide +kernel
theorem dX10_run_9 : decode cX10_run 9 = .ok (.invokestatic 213, 3) := by decide +kernel
theorem dX10_run_12 : decode cX10_run 12 = .ok (.ifCond .eq 15, 3) := by decide +kernel
theorem dX10_run_15 : decode cX10_run 15 = .ok (.iload_n 3, 1) := by decide +kernel
theorem dX10_run_16 : decode cX10_run 16 = .ok (.i2l, 1) := by decide +kernel
theorem dX10_run_17 : decode cX10_run 17 = .ok (.lconst 0, 1) := by decide +kernel
theorem dX10_run_18 : decode cX10_run 18 = .ok (.ldc2_w 216, 3) := by decide +kernel
theorem dX10_run_21 : decode cX10_run 21 = .ok (.invokestatic 49, 3) := by decide +kernel
theorem dX10_run_24 : decode cX10_run 24 = .ok (.ifCond .ne 5, 3) := by decide +kernel
theorem dX10_run_27 : decode cX10_run 27 = .ok (.iconst (-1), 1) := by decide +kernel
theorem dX10_run_28 : decode cX10_run 28 = .ok (.ireturn, 1) := by decide +kernel
theorem dX10_run_29 : decode cX10_run 29 = .ok (.aload_n 0, 1) := by decide +kernel
theorem dX10_run_30 : decode cX10_run 30 = .ok (.iconst 0, 1) := by decide +kernel
theorem dX10_run_31 : decode cX10_run 31 = .ok (.iload_n 1, 1) := by decide +kernel
theorem dX10_run_32 : decode cX10_run 32 = .ok (.iload_n 2, 1) := by decide +kernel
theorem dX10_run_33 : decode cX10_run 33 = .ok (.invokevirtual 168, 3) := by decide +kernel
theorem dX10_run_36 : decode cX10_run 36 = .ok (.istore 4, 2) := by decide +kernel
theorem dX10_run_38 : decode cX10_run 38 = .ok (.iload_n 3, 1) := by decide +kernel
theorem dX10_run_39 : decode cX10_run 39 = .ok (.ifCond .ne 10, 3) := by decide +kernel
theorem dX10_run_42 : decode cX10_run 42 = .ok (.aload_n 0, 1) := by decide +kernel
theorem dX10_run_43 : decode cX10_run 43 = .ok (.getfield 145, 3) := by decide +kernel
theorem dX10_run_46 : decode cX10_run 46 = .ok (.goto 49, 3) := by decide +kernel
theorem dX10_run_49 : decode cX10_run 49 = .ok (.iload_n 3, 1) := by decide +kernel
theorem dX10_run_50 : decode cX10_run 50 = .ok (.iconst 1, 1) := by decide +kernel
theorem dX10_run_51 : decode cX10_run 51 = .ok (.if_icmp .ne 8, 3) := by decide +kernel
theorem dX10_run_54 : decode cX10_run 54 = .ok (.iload 4, 2) := by decide +kernel
theorem dX10_run_56 : decode cX10_run 56 = .ok (.goto 39, 3) := by decide +kernel
theorem dX10_run_59 : decode cX10_run 59 = .ok (.iload_n 3, 1) := by decide +kernel
theorem dX10_run_60 : decode cX10_run 60 = .ok (.iconst 2, 1) := by decide +kernel
theorem dX10_run_61 : decode cX10_run 61 = .ok (.if_icmp .ne 10, 3) := by decide +kernel
theorem dX10_run_64 : decode cX10_run 64 = .ok (.aload_n 0, 1) := by decide +kernel
theorem dX10_run_65 : decode cX10_run 65 = .ok (.getfield 148, 3) := by decide +kernel
theorem dX10_run_68 : decode cX10_run 68 = .ok (.goto 27, 3) := by decide +kernel
theorem dX10_run_71 : decode cX10_run 71 = .ok (.iload_n 3, 1) := by decide +kernel
theorem dX10_run_72 : decode cX10_run 72 = .ok (.iconst 3, 1) := by decide +kernel
theorem dX10_run_73 : decode cX10_run 73 = .ok (.if_icmp .ne 10, 3) := by decide +kernel
theorem dX10_run_76 : decode cX10_run 76 = .ok (.aload_n 0, 1) := by decide +kernel
theorem dX10_run_77 : decode cX10_run 77 = .ok (.getfield 151, 3) := by decide +kernel
theorem dX10_run_80 : decode cX10_run 80 = .ok (.goto 15, 3) := by decide +kernel
theorem dX10_run_83 : decode cX10_run 83 = .ok (.aload_n 0, 1) := by decide +kernel
theorem dX10_run_84 : decode cX10_run 84 = .ok (.getfield 154, 3) := by decide +kernel
theorem dX10_run_87 : decode cX10_run 87 = .ok (.ifCond .eq 7, 3) := by decide +kernel
theorem dX10_run_90 : decode cX10_run 90 = .ok (.iconst 1, 1) := by decide +kernel
theorem dX10_run_91 : decode cX10_run 91 = .ok (.goto 4, 3) := by decide +kernel
theorem dX10_run_94 : decode cX10_run 94 = .ok (.iconst 0, 1) := by decide +kernel
theorem dX10_run_95 : decode cX10_run 95 = .ok (.ireturn, 1) := by decide +kernel
theorem dX10_way_0 : decode cX10_way 0 = .ok (.aload_n 0, 1) := by decide +kernel
theorem dX10_way_1 : decode cX10_way 1 = .ok (.iload_n 1, 1) := by decide +kernel
theorem dX10_way_2 : decode cX10_way 2 = .ok (.invokevirtual 180, 3) := by decide +kernel
theorem dX10_way_5 : decode cX10_way 5 = .ok (.ifCond .eq 22, 3) := by decide +kernel
theorem dX10_way_8 : decode cX10_way 8 = .ok (.iload_n 2, 1) := by decide +kernel
theorem dX10_way_9 : decode cX10_way 9 = .ok (.invokestatic 213, 3) := by decide +kernel
theorem dX10_way_12 : decode cX10_way 12 = .ok (.ifCond .eq 15, 3) := by decide +kernel
theorem dX10_way_15 : decode cX10_way 15 = .ok (.iload_n 3, 1) := by decide +kernel
theorem dX10_way_16 : decode cX10_way 16 = .ok (.i2l, 1) := by decide +kernel
theorem dX10_way_17 : decode cX10_way 17 = .ok (.lconst 0, 1) := by decide +kernel
theorem dX10_way_18 : decode cX10_way 18 = .ok (.ldc2_w 200, 3) := by decide +kernel
theorem dX10_way_21 : decode cX10_way 21 = .ok (.invokestatic 49, 3) := by decide +kernel
theorem dX10_way_24 : decode cX10_way 24 = .ok (.ifCond .ne 5, 3) := by decide +kernel
theorem dX10_way_27 : decode cX10_way 27 = .ok (.iconst (-1), 1) := by decide +kernel
theorem dX10_way_28 : decode cX10_way 28 = .ok (.ireturn, 1) := by decide +kernel
theorem dX10_way_29 : decode cX10_way 29 = .ok (.aload_n 0, 1) := by decide +kernel
theorem dX10_way_30 : decode cX10_way 30 = .ok (.iconst 0, 1) := by decide +kernel
theorem dX10_way_31 : decode cX10_way 31 = .ok (.iload_n 1, 1) := by decide +kernel
theorem dX10_way_32 : decode cX10_way 32 = .ok (.iload_n 2, 1) := by decide +kernel
theorem dX10_way_33 : decode cX10_way 33 = .ok (.iconst 0, 1) := by decide +kernel
theorem dX10_way_34 : decode cX10_way 34 = .ok (.invokevirtual 164, 3) := by decide +kernel
theorem dX10_way_37 : decode cX10_way 37 = .ok (.iload_n 3, 1) := by decide +kernel
theorem dX10_way_38 : decode cX10_way 38 = .ok (.aload_n 0, 1) := by decide +kernel
theorem dX10_way_39 : decode cX10_way 39 = .ok (.getfield 148, 3) := by decide +kernel
theorem dX10_way_42 : decode cX10_way 42 = .ok (.if_icmp .gt 12, 3) := by decide +kernel
theorem dX10_way_45 : decode cX10_way 45 = .ok (.aload_n 0, 1) := by decide +kernel
theorem dX10_way_46 : decode cX10_way 46 = .ok (.getfield 25, 3) := by decide +kernel
theorem dX10_way_49 : decode cX10_way 49 = .ok (.iload_n 3, 1) := by decide +kernel
theorem dX10_way_50 : decode cX10_way 50 = .ok (.iaload, 1) := by decide +kernel
theorem dX10_way_51 : decode cX10_way 51 = .ok (.goto 5, 3) := by decide +kernel
theorem dX10_way_54 : decode cX10_way 54 = .ok (.bipush (-4), 2) := by decide +kernel
theorem dX10_way_56 : decode cX10_way 56 = .ok (.ireturn, 1) := by decide +kernel
theorem dX10_wins_0 : decode cX10_wins 0 = .ok (.iload_n 1, 1) := by decide +kernel
theorem dX10_wins_1 : decode cX10_wins 1 = .ok (.invokestatic 197, 3) := by decide +kernel
theorem dX10_wins_4 : decode cX10_wins 4 = .ok (.ifCond .eq 12, 3) := by decide +kernel
theorem dX10_wins_7 : decode cX10_wins 7 = .ok (.aload_n 0, 1) := by decide +kernel
theorem dX10_wins_8 : decode cX10_wins 8 = .ok (.iconst 0, 1) := by decide +kernel
theorem dX10_wins_9 : decode cX10_wins 9 = .ok (.iload_n 1, 1) := by decide +kernel
theorem dX10_wins_10 : decode cX10_wins 10 = .ok (.invokevirtual 172, 3) := by decide +kernel
theorem dX10_wins_13 : decode cX10_wins 13 = .ok (.goto 4, 3) := by decide +kernel
theorem dX10_wins_16 : decode cX10_wins 16 = .ok (.iconst (-1), 1) := by decide +kernel
theorem dX10_wins_17 : decode cX10_wins 17 = .ok (.ireturn, 1) := by decide +kernel
theorem dX10_share_0 : decode cX10_share 0 = .ok (.aload_n 0, 1) := by decide +kernel
theorem dX10_share_1 : decode cX10_share 1 = .ok (.iload_n 1, 1) := by decide +kernel
theorem dX10_share_2 : decode cX10_share 2 = .ok (.invokevirtual 180, 3) := by decide +kernel
theorem dX10_share_5 : decode cX10_share 5 = .ok (.ifCond .eq 10, 3) := by decide +kernel
theorem dX10_share_8 : decode cX10_share 8 = .ok (.iload_n 2, 1) := by decide +kernel
theorem dX10_share_9 : decode cX10_share 9 = .ok (.invokestatic 197, 3) := by decide +kernel
theorem dX10_share_12 : decode cX10_share 12 = .ok (.ifCond .ne 5, 3) := by decide +kernel
theorem dX10_share_15 : decode cX10_share 15 = .ok (.iconst (-1), 1) := by decide +kernel
theorem dX10_share_16 : decode cX10_share 16 = .ok (.ireturn, 1) := by decide +kernel
theorem dX10_share_17 : decode cX10_share 17 = .ok (.iconst 0, 1) := by decide +kernel
theorem dX10_share_18 : decode cX10_share 18 = .ok (.istore_n 3, 1) := by decide +kernel
theorem dX10_share_19 : decode cX10_share 19 = .ok (.iconst 0, 1) := by decide +kernel
theorem dX10_share_20 : decode cX10_share 20 = .ok (.istore 4, 2) := by decide +kernel
theorem dX10_share_22 : decode cX10_share 22 = .ok (.iload 4, 2) := by decide +kernel
theorem dX10_share_24 : decode cX10_share 24 = .ok (.bipush 8, 2) := by decide +kernel
theorem dX10_share_26 : decode cX10_share 26 = .ok (.if_icmp .ge 29, 3) := by decide +kernel
theorem dX10_share_29 : decode cX10_share 29 = .ok (.iload_n 3, 1) := by decide +kernel
theorem dX10_share_30 : decode cX10_share 30 = .ok (.aload_n 0, 1) := by decide +kernel
theorem dX10_share_31 : decode cX10_share 31 = .ok (.iconst 0, 1) := by decide +kernel
theorem dX10_share_32 : decode cX10_share 32 = .ok (.iload_n 1, 1) := by decide +kernel
theorem dX10_share_33 : decode cX10_share 33 = .ok (.iload 4, 2) := by decide +kernel
theorem dX10_share_35 : decode cX10_share 35 = .ok (.invokevirtual 168, 3) := by decide +kernel
theorem dX10_share_38 : decode cX10_share 38 = .ok (.iload_n 2, 1) := by decide +kernel
theorem dX10_share_39 : decode cX10_share 39 = .ok (.if_icmp .ne 7, 3) := by decide +kernel
theorem dX10_share_42 : decode cX10_share 42 = .ok (.iconst 1, 1) := by decide +kernel
theorem dX10_share_43 : decode cX10_share 43 = .ok (.goto 4, 3) := by decide +kernel
theorem dX10_share_46 : decode cX10_share 46 = .ok (.iconst 0, 1) := by decide +kernel
theorem dX10_share_47 : decode cX10_share 47 = .ok (.iadd, 1) := by decide +kernel
theorem dX10_share_48 : decode cX10_share 48 = .ok (.istore_n 3, 1) := by decide +kernel
theorem dX10_share_49 : decode cX10_share 49 = .ok (.iinc 4 1, 3) := by decide +kernel
theorem dX10_share_52 : decode cX10_share 52 = .ok (.goto (-30), 3) := by decide +kernel
theorem dX10_share_55 : decode cX10_share 55 = .ok (.iload_n 3, 1) := by decide +kernel
theorem dX10_share_56 : decode cX10_share 56 = .ok (.ireturn, 1) := by decide +kernel
theorem dX10_first_0 : decode cX10_first 0 = .ok (.aload_n 0, 1) := by decide +kernel
theorem dX10_first_1 : decode cX10_first 1 = .ok (.iload_n 1, 1) := by decide +kernel
theorem dX10_first_2 : decode cX10_first 2 = .ok (.invokevirtual 180, 3) := by decide +kernel
theorem dX10_first_5 : decode cX10_first 5 = .ok (.ifCond .eq 10, 3) := by decide +kernel
theorem dX10_first_8 : decode cX10_first 8 = .ok (.iload_n 2, 1) := by decide +kernel
theorem dX10_first_9 : decode cX10_first 9 = .ok (.invokestatic 197, 3) := by decide +kernel
theorem dX10_first_12 : decode cX10_first 12 = .ok (.ifCond .ne 5, 3) := by decide +kernel
theorem dX10_first_15 : decode cX10_first 15 = .ok (.iconst (-1), 1) := by decide +kernel
theorem dX10_first_16 : decode cX10_first 16 = .ok (.ireturn, 1) := by decide +kernel
theorem dX10_first_17 : decode cX10_first 17 = .ok (.iconst 0, 1) := by decide +kernel
theorem dX10_first_18 : decode cX10_first 18 = .ok (.istore_n 3, 1) := by decide +kernel
theorem dX10_first_19 : decode cX10_first 19 = .ok (.iload_n 3, 1) := by decide +kernel
theorem dX10_first_20 : decode cX10_first 20 = .ok (.bipush 8, 2) := by decide +kernel
theorem dX10_first_22 : decode cX10_first 22 = .ok (.if_icmp .ge 22, 3) := by decide +kernel
theorem dX10_first_25 : decode cX10_first 25 = .ok (.aload_n 0, 1) := by decide +kernel
theorem dX10_first_26 : decode cX10_first 26 = .ok (.iconst 0, 1) := by decide +kernel
theorem dX10_first_27 : decode cX10_first 27 = .ok (.iload_n 1, 1) := by decide +kernel
theorem dX10_first_28 : decode cX10_first 28 = .ok (.iload_n 3, 1) := by decide +kernel
theorem dX10_first_29 : decode cX10_first 29 = .ok (.invokevirtual 168, 3) := by decide +kernel
theorem dX10_first_32 : decode cX10_first 32 = .ok (.iload_n 2, 1) := by decide +kernel
theorem dX10_first_33 : decode cX10_first 33 = .ok (.if_icmp .ne 5, 3) := by decide +kernel
theorem dX10_first_36 : decode cX10_first 36 = .ok (.iload_n 3, 1) := by decide +kernel
theorem dX10_first_37 : decode cX10_first 37 = .ok (.ireturn, 1) := by decide +kernel
theorem dX10_first_38 : decode cX10_first 38 = .ok (.iinc 3 1, 3) := by decide +kernel
theorem dX10_first_41 : decode cX10_first 41 = .ok (.goto (-22), 3) := by decide +kernel
theorem dX10_first_44 : decode cX10_first 44 = .ok (.bipush (-4), 2) := by decide +kernel
theorem dX10_first_46 : decode cX10_first 46 = .ok (.ireturn, 1) := by decide +kernel
theorem dX10_copies_0 : decode cX10_copies 0 = .ok (.iconst 0, 1) := by decide +kernel
theorem dX10_copies_1 : decode cX10_copies 1 = .ok (.istore_n 3, 1) := by decide +kernel
theorem dX10_copies_2 : decode cX10_copies 2 = .ok (.iload_n 3, 1) := by decide +kernel
theorem dX10_copies_3 : decode cX10_copies 3 = .ok (.bipush 41, 2) := by decide +kernel
theorem dX10_copies_5 : decode cX10_copies 5 = .ok (.if_icmp .ge 25, 3) := by decide +kernel
theorem dX10_copies_8 : decode cX10_copies 8 = .ok (.aload_n 0, 1) := by decide +kernel
theorem dX10_copies_9 : decode cX10_copies 9 = .ok (.getfield 7, 3) := by decide +kernel
theorem dX10_copies_12 : decode cX10_copies 12 = .ok (.iload_n 2, 1) := by decide +kernel
theorem dX10_copies_13 : decode cX10_copies 13 = .ok (.iload_n 3, 1) := by decide +kernel
theorem dX10_copies_14 : decode cX10_copies 14 = .ok (.iadd, 1) := by decide +kernel
theorem dX10_copies_15 : decode cX10_copies 15 = .ok (.aload_n 0, 1) := by decide +kernel
theorem dX10_copies_16 : decode cX10_copies 16 = .ok (.getfield 7, 3) := by decide +kernel
theorem dX10_copies_19 : decode cX10_copies 19 = .ok (.iload_n 1, 1) := by decide +kernel
theorem dX10_copies_20 : decode cX10_copies 20 = .ok (.iload_n 3, 1) := by decide +kernel
theorem dX10_copies_21 : decode cX10_copies 21 = .ok (.iadd, 1) := by decide +kernel
theorem dX10_copies_22 : decode cX10_copies 22 = .ok (.iaload, 1) := by decide +kernel
theorem dX10_copies_23 : decode cX10_copies 23 = .ok (.iastore, 1) := by decide +kernel
theorem dX10_copies_24 : decode cX10_copies 24 = .ok (.iinc 3 1, 3) := by decide +kernel
theorem dX10_copies_27 : decode cX10_copies 27 = .ok (.goto (-25), 3) := by decide +kernel
theorem dX10_copies_30 : decode cX10_copies 30 = .ok (.return_, 1) := by decide +kernel
theorem dX10_kindly_0 : decode cX10_kindly 0 = .ok (.aload_n 0, 1) := by decide +kernel
theorem dX10_kindly_1 : decode cX10_kindly 1 = .ok (.iload_n 1, 1) := by decide +kernel
theorem dX10_kindly_2 : decode cX10_kindly 2 = .ok (.invokevirtual 180, 3) := by decide +kernel
theorem dX10_kindly_5 : decode cX10_kindly 5 = .ok (.ifCond .eq 17, 3) := by decide +kernel
theorem dX10_kindly_8 : decode cX10_kindly 8 = .ok (.iload_n 2, 1) := by decide +kernel
theorem dX10_kindly_9 : decode cX10_kindly 9 = .ok (.invokestatic 213, 3) := by decide +kernel
theorem dX10_kindly_12 : decode cX10_kindly 12 = .ok (.ifCond .eq 10, 3) := by decide +kernel
theorem dX10_kindly_15 : decode cX10_kindly 15 = .ok (.iload_n 3, 1) := by decide +kernel
theorem dX10_kindly_16 : decode cX10_kindly 16 = .ok (.invokestatic 197, 3) := by decide +kernel
theorem dX10_kindly_19 : decode cX10_kindly 19 = .ok (.ifCond .ne 5, 3) := by decide +kernel
theorem dX10_kindly_22 : decode cX10_kindly 22 = .ok (.iconst (-1), 1) := by decide +kernel
theorem dX10_kindly_23 : decode cX10_kindly 23 = .ok (.ireturn, 1) := by decide +kernel
theorem dX10_kindly_24 : decode cX10_kindly 24 = .ok (.iconst 0, 1) := by decide +kernel
theorem dX10_kindly_25 : decode cX10_kindly 25 = .ok (.istore 4, 2) := by decide +kernel
theorem dX10_kindly_27 : decode cX10_kindly 27 = .ok (.aload_n 0, 1) := by decide +kernel
theorem dX10_kindly_28 : decode cX10_kindly 28 = .ok (.iconst 0, 1) := by decide +kernel
theorem dX10_kindly_29 : decode cX10_kindly 29 = .ok (.sipush 164, 3) := by decide +kernel
theorem dX10_kindly_32 : decode cX10_kindly 32 = .ok (.invokevirtual 218, 3) := by decide +kernel
theorem dX10_kindly_35 : decode cX10_kindly 35 = .ok (.iconst 0, 1) := by decide +kernel
theorem dX10_kindly_36 : decode cX10_kindly 36 = .ok (.istore 5, 2) := by decide +kernel
theorem dX10_kindly_38 : decode cX10_kindly 38 = .ok (.iload 5, 2) := by decide +kernel
theorem dX10_kindly_40 : decode cX10_kindly 40 = .ok (.iconst 4, 1) := by decide +kernel
theorem dX10_kindly_41 : decode cX10_kindly 41 = .ok (.if_icmp .ge 47, 3) := by decide +kernel
theorem dX10_kindly_44 : decode cX10_kindly 44 = .ok (.aload_n 0, 1) := by decide +kernel
theorem dX10_kindly_45 : decode cX10_kindly 45 = .ok (.getfield 7, 3) := by decide +kernel
theorem dX10_kindly_48 : decode cX10_kindly 48 = .ok (.sipush 182, 3) := by decide +kernel
theorem dX10_kindly_51 : decode cX10_kindly 51 = .ok (.iload_n 1, 1) := by decide +kernel
theorem dX10_kindly_52 : decode cX10_kindly 52 = .ok (.iadd, 1) := by decide +kernel
theorem dX10_kindly_53 : decode cX10_kindly 53 = .ok (.iload 5, 2) := by decide +kernel
theorem dX10_kindly_55 : decode cX10_kindly 55 = .ok (.iastore, 1) := by decide +kernel
theorem dX10_kindly_56 : decode cX10_kindly 56 = .ok (.iload 4, 2) := by decide +kernel
theorem dX10_kindly_58 : decode cX10_kindly 58 = .ok (.aload_n 0, 1) := by decide +kernel
theorem dX10_kindly_59 : decode cX10_kindly 59 = .ok (.sipush 164, 3) := by decide +kernel
theorem dX10_kindly_62 : decode cX10_kindly 62 = .ok (.iload_n 1, 1) := by decide +kernel
theorem dX10_kindly_63 : decode cX10_kindly 63 = .ok (.iload_n 2, 1) := by decide +kernel
theorem dX10_kindly_64 : decode cX10_kindly 64 = .ok (.invokevirtual 168, 3) := by decide +kernel
theorem dX10_kindly_67 : decode cX10_kindly 67 = .ok (.iload_n 3, 1) := by decide +kernel
theorem dX10_kindly_68 : decode cX10_kindly 68 = .ok (.if_icmp .ne 10, 3) := by decide +kernel
theorem dX10_kindly_71 : decode cX10_kindly 71 = .ok (.iconst 1, 1) := by decide +kernel
theorem dX10_kindly_72 : decode cX10_kindly 72 = .ok (.iload 5, 2) := by decide +kernel
theorem dX10_kindly_74 : decode cX10_kindly 74 = .ok (.ishl, 1) := by decide +kernel
theorem dX10_kindly_75 : decode cX10_kindly 75 = .ok (.goto 4, 3) := by decide +kernel
theorem dX10_kindly_78 : decode cX10_kindly 78 = .ok (.iconst 0, 1) := by decide +kernel
theorem dX10_kindly_79 : decode cX10_kindly 79 = .ok (.ior, 1) := by decide +kernel
theorem dX10_kindly_80 : decode cX10_kindly 80 = .ok (.istore 4, 2) := by decide +kernel
theorem dX10_kindly_82 : decode cX10_kindly 82 = .ok (.iinc 5 1, 3) := by decide +kernel
theorem dX10_kindly_85 : decode cX10_kindly 85 = .ok (.goto (-47), 3) := by decide +kernel
theorem dX10_kindly_88 : decode cX10_kindly 88 = .ok (.iload 4, 2) := by decide +kernel
theorem dX10_kindly_90 : decode cX10_kindly 90 = .ok (.ireturn, 1) := by decide +kernel
theorem dX10_place_0 : decode cX10_place 0 = .ok (.iload_n 1, 1) := by decide +kernel
theorem dX10_place_1 : decode cX10_place 1 = .ok (.invokestatic 197, 3) := by decide +kernel
theorem dX10_place_4 : decode cX10_place 4 = .ok (.ifCond .eq 13, 3) := by decide +kernel
theorem dX10_place_7 : decode cX10_place 7 = .ok (.iload_n 2, 1) := by decide +kernel
theorem dX10_place_8 : decode cX10_place 8 = .ok (.i2l, 1) := by decide +kernel
theorem dX10_place_9 : decode cX10_place 9 = .ok (.lconst 0, 1) := by decide +kernel
theorem dX10_place_10 : decode cX10_place 10 = .ok (.lconst 1, 1) := by decide +kernel
theorem dX10_place_11 : decode cX10_place 11 = .ok (.invokestatic 49, 3) := by decide +kernel
theorem dX10_place_14 : decode cX10_place 14 = .ok (.ifCond .ne 5, 3) := by decide +kernel
theorem dX10_place_17 : decode cX10_place 17 = .ok (.iconst (-1), 1) := by decide +kernel
theorem dX10_place_18 : decode cX10_place 18 = .ok (.ireturn, 1) := by decide +kernel
theorem dX10_place_19 : decode cX10_place 19 = .ok (.aload_n 0, 1) := by decide +kernel
theorem dX10_place_20 : decode cX10_place 20 = .ok (.getfield 7, 3) := by decide +kernel
theorem dX10_place_23 : decode cX10_place 23 = .ok (.bipush 38, 2) := by decide +kernel
theorem dX10_place_25 : decode cX10_place 25 = .ok (.iaload, 1) := by decide +kernel
theorem dX10_place_26 : decode cX10_place 26 = .ok (.bipush 7, 2) := by decide +kernel
theorem dX10_place_28 : decode cX10_place 28 = .ok (.if_icmp .ne 6, 3) := by decide +kernel
theorem dX10_place_31 : decode cX10_place 31 = .ok (.bipush (-3), 2) := by decide +kernel
theorem dX10_place_33 : decode cX10_place 33 = .ok (.ireturn, 1) := by decide +kernel
theorem dX10_place_34 : decode cX10_place 34 = .ok (.iconst (-1), 1) := by decide +kernel
theorem dX10_place_35 : decode cX10_place 35 = .ok (.istore_n 3, 1) := by decide +kernel
theorem dX10_place_36 : decode cX10_place 36 = .ok (.iconst 0, 1) := by decide +kernel
theorem dX10_place_37 : decode cX10_place 37 = .ok (.istore 4, 2) := by decide +kernel
theorem dX10_place_39 : decode cX10_place 39 = .ok (.iconst 0, 1) := by decide +kernel
theorem dX10_place_40 : decode cX10_place 40 = .ok (.istore 5, 2) := by decide +kernel
theorem dX10_place_42 : decode cX10_place 42 = .ok (.iload 5, 2) := by decide +kernel
theorem dX10_place_44 : decode cX10_place 44 = .ok (.bipush 98, 2) := by decide +kernel
theorem dX10_place_46 : decode cX10_place 46 = .ok (.if_icmp .ge 86, 3) := by decide +kernel
theorem dX10_place_49 : decode cX10_place 49 = .ok (.iload 5, 2) := by decide +kernel
theorem dX10_place_51 : decode cX10_place 51 = .ok (.invokestatic 186, 3) := by decide +kernel
theorem dX10_place_54 : decode cX10_place 54 = .ok (.ifCond .eq 72, 3) := by decide +kernel
theorem dX10_place_57 : decode cX10_place 57 = .ok (.aload_n 0, 1) := by decide +kernel
theorem dX10_place_58 : decode cX10_place 58 = .ok (.iconst 0, 1) := by decide +kernel
theorem dX10_place_59 : decode cX10_place 59 = .ok (.iload 5, 2) := by decide +kernel
theorem dX10_place_61 : decode cX10_place 61 = .ok (.invokevirtual 189, 3) := by decide +kernel
theorem dX10_place_64 : decode cX10_place 64 = .ok (.ifCond .eq 62, 3) := by decide +kernel
theorem dX10_place_67 : decode cX10_place 67 = .ok (.aload_n 0, 1) := by decide +kernel
theorem dX10_place_68 : decode cX10_place 68 = .ok (.iconst 0, 1) := by decide +kernel
theorem dX10_place_69 : decode cX10_place 69 = .ok (.sipush 164, 3) := by decide +kernel
theorem dX10_place_72 : decode cX10_place 72 = .ok (.invokevirtual 218, 3) := by decide +kernel
theorem dX10_place_75 : decode cX10_place 75 = .ok (.aload_n 0, 1) := by decide +kernel
theorem dX10_place_76 : decode cX10_place 76 = .ok (.sipush 164, 3) := by decide +kernel
theorem dX10_place_79 : decode cX10_place 79 = .ok (.iload 5, 2) := by decide +kernel
theorem dX10_place_81 : decode cX10_place 81 = .ok (.iload_n 1, 1) := by decide +kernel
theorem dX10_place_82 : decode cX10_place 82 = .ok (.invokevirtual 202, 3) := by decide +kernel
theorem dX10_place_85 : decode cX10_place 85 = .ok (.aload_n 0, 1) := by decide +kernel
theorem dX10_place_86 : decode cX10_place 86 = .ok (.sipush 164, 3) := by decide +kernel
theorem dX10_place_89 : decode cX10_place 89 = .ok (.iload_n 1, 1) := by decide +kernel
theorem dX10_place_90 : decode cX10_place 90 = .ok (.invokevirtual 172, 3) := by decide +kernel
theorem dX10_place_93 : decode cX10_place 93 = .ok (.invokestatic 221, 3) := by decide +kernel
theorem dX10_place_96 : decode cX10_place 96 = .ok (.istore 6, 2) := by decide +kernel
theorem dX10_place_98 : decode cX10_place 98 = .ok (.iload 6, 2) := by decide +kernel
theorem dX10_place_100 : decode cX10_place 100 = .ok (.iload_n 3, 1) := by decide +kernel
theorem dX10_place_101 : decode cX10_place 101 = .ok (.if_icmp .le 8, 3) := by decide +kernel
theorem dX10_place_104 : decode cX10_place 104 = .ok (.iload 5, 2) := by decide +kernel
theorem dX10_place_106 : decode cX10_place 106 = .ok (.goto 5, 3) := by decide +kernel
theorem dX10_place_109 : decode cX10_place 109 = .ok (.iload 4, 2) := by decide +kernel
theorem dX10_place_111 : decode cX10_place 111 = .ok (.istore 4, 2) := by decide +kernel
theorem dX10_place_113 : decode cX10_place 113 = .ok (.iload 6, 2) := by decide +kernel
theorem dX10_place_115 : decode cX10_place 115 = .ok (.iload_n 3, 1) := by decide +kernel
theorem dX10_place_116 : decode cX10_place 116 = .ok (.if_icmp .le 8, 3) := by decide +kernel
theorem dX10_place_119 : decode cX10_place 119 = .ok (.iload 6, 2) := by decide +kernel
theorem dX10_place_121 : decode cX10_place 121 = .ok (.goto 4, 3) := by decide +kernel
theorem dX10_place_124 : decode cX10_place 124 = .ok (.iload_n 3, 1) := by decide +kernel
theorem dX10_place_125 : decode cX10_place 125 = .ok (.istore_n 3, 1) := by decide +kernel
theorem dX10_place_126 : decode cX10_place 126 = .ok (.iinc 5 1, 3) := by decide +kernel
theorem dX10_place_129 : decode cX10_place 129 = .ok (.goto (-87), 3) := by decide +kernel
theorem dX10_place_132 : decode cX10_place 132 = .ok (.iload_n 2, 1) := by decide +kernel
theorem dX10_place_133 : decode cX10_place 133 = .ok (.ifCond .ne 8, 3) := by decide +kernel
theorem dX10_place_136 : decode cX10_place 136 = .ok (.iload 4, 2) := by decide +kernel
theorem dX10_place_138 : decode cX10_place 138 = .ok (.goto 4, 3) := by decide +kernel
theorem dX10_place_141 : decode cX10_place 141 = .ok (.iload_n 3, 1) := by decide +kernel
theorem dX10_place_142 : decode cX10_place 142 = .ok (.ireturn, 1) := by decide +kernel
theorem dX10_move_0 : decode cX10_move 0 = .ok (.aload_n 0, 1) := by decide +kernel
theorem dX10_move_1 : decode cX10_move 1 = .ok (.iload_n 1, 1) := by decide +kernel
theorem dX10_move_2 : decode cX10_move 2 = .ok (.invokevirtual 175, 3) := by decide +kernel
theorem dX10_move_5 : decode cX10_move 5 = .ok (.ifCond .eq 13, 3) := by decide +kernel
theorem dX10_move_8 : decode cX10_move 8 = .ok (.iload_n 2, 1) := by decide +kernel
theorem dX10_move_9 : decode cX10_move 9 = .ok (.i2l, 1) := by decide +kernel
theorem dX10_move_10 : decode cX10_move 10 = .ok (.lconst 0, 1) := by decide +kernel
theorem dX10_move_11 : decode cX10_move 11 = .ok (.lconst 1, 1) := by decide +kernel
theorem dX10_move_12 : decode cX10_move 12 = .ok (.invokestatic 49, 3) := by decide +kernel
theorem dX10_move_15 : decode cX10_move 15 = .ok (.ifCond .ne 5, 3) := by decide +kernel
theorem dX10_move_18 : decode cX10_move 18 = .ok (.iconst (-1), 1) := by decide +kernel
theorem dX10_move_19 : decode cX10_move 19 = .ok (.ireturn, 1) := by decide +kernel
theorem dX10_move_20 : decode cX10_move 20 = .ok (.iconst (-1), 1) := by decide +kernel
theorem dX10_move_21 : decode cX10_move 21 = .ok (.istore_n 3, 1) := by decide +kernel
theorem dX10_move_22 : decode cX10_move 22 = .ok (.iconst 0, 1) := by decide +kernel
theorem dX10_move_23 : decode cX10_move 23 = .ok (.istore 4, 2) := by decide +kernel
theorem dX10_move_25 : decode cX10_move 25 = .ok (.aload_n 0, 1) := by decide +kernel
theorem dX10_move_26 : decode cX10_move 26 = .ok (.iconst 0, 1) := by decide +kernel
theorem dX10_move_27 : decode cX10_move 27 = .ok (.sipush 164, 3) := by decide +kernel
theorem dX10_move_30 : decode cX10_move 30 = .ok (.invokevirtual 218, 3) := by decide +kernel
theorem dX10_move_33 : decode cX10_move 33 = .ok (.iconst 0, 1) := by decide +kernel
theorem dX10_move_34 : decode cX10_move 34 = .ok (.istore 5, 2) := by decide +kernel
theorem dX10_move_36 : decode cX10_move 36 = .ok (.iload 5, 2) := by decide +kernel
theorem dX10_move_38 : decode cX10_move 38 = .ok (.bipush 98, 2) := by decide +kernel
theorem dX10_move_40 : decode cX10_move 40 = .ok (.if_icmp .ge 99, 3) := by decide +kernel
theorem dX10_move_43 : decode cX10_move 43 = .ok (.iload 5, 2) := by decide +kernel
theorem dX10_move_45 : decode cX10_move 45 = .ok (.invokestatic 186, 3) := by decide +kernel
theorem dX10_move_48 : decode cX10_move 48 = .ok (.ifCond .eq 85, 3) := by decide +kernel
theorem dX10_move_51 : decode cX10_move 51 = .ok (.aload_n 0, 1) := by decide +kernel
theorem dX10_move_52 : decode cX10_move 52 = .ok (.iconst 0, 1) := by decide +kernel
theorem dX10_move_53 : decode cX10_move 53 = .ok (.iload 5, 2) := by decide +kernel
theorem dX10_move_55 : decode cX10_move 55 = .ok (.invokevirtual 189, 3) := by decide +kernel
theorem dX10_move_58 : decode cX10_move 58 = .ok (.ifCond .ne 14, 3) := by decide +kernel
theorem dX10_move_61 : decode cX10_move 61 = .ok (.aload_n 0, 1) := by decide +kernel
theorem dX10_move_62 : decode cX10_move 62 = .ok (.getfield 7, 3) := by decide +kernel
theorem dX10_move_65 : decode cX10_move 65 = .ok (.iload_n 1, 1) := by decide +kernel
theorem dX10_move_66 : decode cX10_move 66 = .ok (.iaload, 1) := by decide +kernel
theorem dX10_move_67 : decode cX10_move 67 = .ok (.iload 5, 2) := by decide +kernel
theorem dX10_move_69 : decode cX10_move 69 = .ok (.if_icmp .ne 64, 3) := by decide +kernel
theorem dX10_move_72 : decode cX10_move 72 = .ok (.aload_n 0, 1) := by decide +kernel
theorem dX10_move_73 : decode cX10_move 73 = .ok (.getfield 7, 3) := by decide +kernel
theorem dX10_move_76 : decode cX10_move 76 = .ok (.sipush 164, 3) := by decide +kernel
theorem dX10_move_79 : decode cX10_move 79 = .ok (.iload_n 1, 1) := by decide +kernel
theorem dX10_move_80 : decode cX10_move 80 = .ok (.iadd, 1) := by decide +kernel
theorem dX10_move_81 : decode cX10_move 81 = .ok (.iload 5, 2) := by decide +kernel
theorem dX10_move_83 : decode cX10_move 83 = .ok (.iastore, 1) := by decide +kernel
theorem dX10_move_84 : decode cX10_move 84 = .ok (.aload_n 0, 1) := by decide +kernel
theorem dX10_move_85 : decode cX10_move 85 = .ok (.sipush 164, 3) := by decide +kernel
theorem dX10_move_88 : decode cX10_move 88 = .ok (.aload_n 0, 1) := by decide +kernel
theorem dX10_move_89 : decode cX10_move 89 = .ok (.getfield 7, 3) := by decide +kernel
theorem dX10_move_92 : decode cX10_move 92 = .ok (.bipush 7, 2) := by decide +kernel
theorem dX10_move_94 : decode cX10_move 94 = .ok (.iload_n 1, 1) := by decide +kernel
theorem dX10_move_95 : decode cX10_move 95 = .ok (.iadd, 1) := by decide +kernel
theorem dX10_move_96 : decode cX10_move 96 = .ok (.iaload, 1) := by decide +kernel
theorem dX10_move_97 : decode cX10_move 97 = .ok (.invokevirtual 172, 3) := by decide +kernel
theorem dX10_move_100 : decode cX10_move 100 = .ok (.invokestatic 221, 3) := by decide +kernel
theorem dX10_move_103 : decode cX10_move 103 = .ok (.istore 6, 2) := by decide +kernel
theorem dX10_move_105 : decode cX10_move 105 = .ok (.iload 6, 2) := by decide +kernel
theorem dX10_move_107 : decode cX10_move 107 = .ok (.iload_n 3, 1) := by decide +kernel
theorem dX10_move_108 : decode cX10_move 108 = .ok (.if_icmp .le 8, 3) := by decide +kernel
theorem dX10_move_111 : decode cX10_move 111 = .ok (.iload 5, 2) := by decide +kernel
theorem dX10_move_113 : decode cX10_move 113 = .ok (.goto 5, 3) := by decide +kernel
theorem dX10_move_116 : decode cX10_move 116 = .ok (.iload 4, 2) := by decide +kernel
theorem dX10_move_118 : decode cX10_move 118 = .ok (.istore 4, 2) := by decide +kernel
theorem dX10_move_120 : decode cX10_move 120 = .ok (.iload 6, 2) := by decide +kernel
theorem dX10_move_122 : decode cX10_move 122 = .ok (.iload_n 3, 1) := by decide +kernel
theorem dX10_move_123 : decode cX10_move 123 = .ok (.if_icmp .le 8, 3) := by decide +kernel
theorem dX10_move_126 : decode cX10_move 126 = .ok (.iload 6, 2) := by decide +kernel
theorem dX10_move_128 : decode cX10_move 128 = .ok (.goto 4, 3) := by decide +kernel
theorem dX10_move_131 : decode cX10_move 131 = .ok (.iload_n 3, 1) := by decide +kernel
theorem dX10_move_132 : decode cX10_move 132 = .ok (.istore_n 3, 1) := by decide +kernel
theorem dX10_move_133 : decode cX10_move 133 = .ok (.iinc 5 1, 3) := by decide +kernel
theorem dX10_move_136 : decode cX10_move 136 = .ok (.goto (-100), 3) := by decide +kernel
theorem dX10_move_139 : decode cX10_move 139 = .ok (.iload_n 2, 1) := by decide +kernel
theorem dX10_move_140 : decode cX10_move 140 = .ok (.ifCond .ne 8, 3) := by decide +kernel
theorem dX10_move_143 : decode cX10_move 143 = .ok (.iload 4, 2) := by decide +kernel
theorem dX10_move_145 : decode cX10_move 145 = .ok (.goto 4, 3) := by decide +kernel
theorem dX10_move_148 : decode cX10_move 148 = .ok (.iload_n 3, 1) := by decide +kernel
theorem dX10_move_149 : decode cX10_move 149 = .ok (.ireturn, 1) := by decide +kernel
theorem dX10_bribe_0 : decode cX10_bribe 0 = .ok (.iload_n 1, 1) := by decide +kernel
theorem dX10_bribe_1 : decode cX10_bribe 1 = .ok (.invokestatic 197, 3) := by decide +kernel
theorem dX10_bribe_4 : decode cX10_bribe 4 = .ok (.ifCond .eq 13, 3) := by decide +kernel
theorem dX10_bribe_7 : decode cX10_bribe 7 = .ok (.iload_n 2, 1) := by decide +kernel
theorem dX10_bribe_8 : decode cX10_bribe 8 = .ok (.i2l, 1) := by decide +kernel
theorem dX10_bribe_9 : decode cX10_bribe 9 = .ok (.lconst 0, 1) := by decide +kernel
theorem dX10_bribe_10 : decode cX10_bribe 10 = .ok (.lconst 1, 1) := by decide +kernel
theorem dX10_bribe_11 : decode cX10_bribe 11 = .ok (.invokestatic 49, 3) := by decide +kernel
theorem dX10_bribe_14 : decode cX10_bribe 14 = .ok (.ifCond .ne 5, 3) := by decide +kernel
theorem dX10_bribe_17 : decode cX10_bribe 17 = .ok (.iconst (-1), 1) := by decide +kernel
theorem dX10_bribe_18 : decode cX10_bribe 18 = .ok (.ireturn, 1) := by decide +kernel
theorem dX10_bribe_19 : decode cX10_bribe 19 = .ok (.aload_n 0, 1) := by decide +kernel
theorem dX10_bribe_20 : decode cX10_bribe 20 = .ok (.getfield 7, 3) := by decide +kernel
theorem dX10_bribe_23 : decode cX10_bribe 23 = .ok (.bipush 39, 2) := by decide +kernel
theorem dX10_bribe_25 : decode cX10_bribe 25 = .ok (.iaload, 1) := by decide +kernel
theorem dX10_bribe_26 : decode cX10_bribe 26 = .ok (.iconst 4, 1) := by decide +kernel
theorem dX10_bribe_27 : decode cX10_bribe 27 = .ok (.if_icmp .ne 6, 3) := by decide +kernel
theorem dX10_bribe_30 : decode cX10_bribe 30 = .ok (.bipush (-3), 2) := by decide +kernel
theorem dX10_bribe_32 : decode cX10_bribe 32 = .ok (.ireturn, 1) := by decide +kernel
theorem dX10_bribe_33 : decode cX10_bribe 33 = .ok (.bipush 100, 2) := by decide +kernel
theorem dX10_bribe_35 : decode cX10_bribe 35 = .ok (.istore_n 3, 1) := by decide +kernel
theorem dX10_bribe_36 : decode cX10_bribe 36 = .ok (.iconst 0, 1) := by decide +kernel
theorem dX10_bribe_37 : decode cX10_bribe 37 = .ok (.istore 4, 2) := by decide +kernel
theorem dX10_bribe_39 : decode cX10_bribe 39 = .ok (.iconst 0, 1) := by decide +kernel
theorem dX10_bribe_40 : decode cX10_bribe 40 = .ok (.istore 5, 2) := by decide +kernel
theorem dX10_bribe_42 : decode cX10_bribe 42 = .ok (.iload 5, 2) := by decide +kernel
theorem dX10_bribe_44 : decode cX10_bribe 44 = .ok (.bipush 98, 2) := by decide +kernel
theorem dX10_bribe_46 : decode cX10_bribe 46 = .ok (.if_icmp .ge 97, 3) := by decide +kernel
theorem dX10_bribe_49 : decode cX10_bribe 49 = .ok (.iload 5, 2) := by decide +kernel
theorem dX10_bribe_51 : decode cX10_bribe 51 = .ok (.invokestatic 186, 3) := by decide +kernel
theorem dX10_bribe_54 : decode cX10_bribe 54 = .ok (.ifCond .eq 83, 3) := by decide +kernel
theorem dX10_bribe_57 : decode cX10_bribe 57 = .ok (.aload_n 0, 1) := by decide +kernel
theorem dX10_bribe_58 : decode cX10_bribe 58 = .ok (.iconst 0, 1) := by decide +kernel
theorem dX10_bribe_59 : decode cX10_bribe 59 = .ok (.iload 5, 2) := by decide +kernel
theorem dX10_bribe_61 : decode cX10_bribe 61 = .ok (.invokevirtual 189, 3) := by decide +kernel
theorem dX10_bribe_64 : decode cX10_bribe 64 = .ok (.ifCond .eq 73, 3) := by decide +kernel
theorem dX10_bribe_67 : decode cX10_bribe 67 = .ok (.aload_n 0, 1) := by decide +kernel
theorem dX10_bribe_68 : decode cX10_bribe 68 = .ok (.iconst 0, 1) := by decide +kernel
theorem dX10_bribe_69 : decode cX10_bribe 69 = .ok (.sipush 164, 3) := by decide +kernel
theorem dX10_bribe_72 : decode cX10_bribe 72 = .ok (.invokevirtual 218, 3) := by decide +kernel
theorem dX10_bribe_75 : decode cX10_bribe 75 = .ok (.aload_n 0, 1) := by decide +kernel
theorem dX10_bribe_76 : decode cX10_bribe 76 = .ok (.sipush 164, 3) := by decide +kernel
theorem dX10_bribe_79 : decode cX10_bribe 79 = .ok (.iload 5, 2) := by decide +kernel
theorem dX10_bribe_81 : decode cX10_bribe 81 = .ok (.invokevirtual 209, 3) := by decide +kernel
theorem dX10_bribe_84 : decode cX10_bribe 84 = .ok (.aload_n 0, 1) := by decide +kernel
theorem dX10_bribe_85 : decode cX10_bribe 85 = .ok (.sipush 164, 3) := by decide +kernel
theorem dX10_bribe_88 : decode cX10_bribe 88 = .ok (.bipush (-4), 2) := by decide +kernel
theorem dX10_bribe_90 : decode cX10_bribe 90 = .ok (.invokevirtual 172, 3) := by decide +kernel
theorem dX10_bribe_93 : decode cX10_bribe 93 = .ok (.aload_n 0, 1) := by decide +kernel
theorem dX10_bribe_94 : decode cX10_bribe 94 = .ok (.sipush 164, 3) := by decide +kernel
theorem dX10_bribe_97 : decode cX10_bribe 97 = .ok (.iload_n 1, 1) := by decide +kernel
theorem dX10_bribe_98 : decode cX10_bribe 98 = .ok (.invokevirtual 172, 3) := by decide +kernel
theorem dX10_bribe_101 : decode cX10_bribe 101 = .ok (.iconst (-1), 1) := by decide +kernel
theorem dX10_bribe_102 : decode cX10_bribe 102 = .ok (.ixor, 1) := by decide +kernel
theorem dX10_bribe_103 : decode cX10_bribe 103 = .ok (.iand, 1) := by decide +kernel
theorem dX10_bribe_104 : decode cX10_bribe 104 = .ok (.invokestatic 221, 3) := by decide +kernel
theorem dX10_bribe_107 : decode cX10_bribe 107 = .ok (.istore 6, 2) := by decide +kernel
theorem dX10_bribe_109 : decode cX10_bribe 109 = .ok (.iload 6, 2) := by decide +kernel
theorem dX10_bribe_111 : decode cX10_bribe 111 = .ok (.iload_n 3, 1) := by decide +kernel
theorem dX10_bribe_112 : decode cX10_bribe 112 = .ok (.if_icmp .ge 8, 3) := by decide +kernel
theorem dX10_bribe_115 : decode cX10_bribe 115 = .ok (.iload 5, 2) := by decide +kernel
theorem dX10_bribe_117 : decode cX10_bribe 117 = .ok (.goto 5, 3) := by decide +kernel
theorem dX10_bribe_120 : decode cX10_bribe 120 = .ok (.iload 4, 2) := by decide +kernel
theorem dX10_bribe_122 : decode cX10_bribe 122 = .ok (.istore 4, 2) := by decide +kernel
theorem dX10_bribe_124 : decode cX10_bribe 124 = .ok (.iload 6, 2) := by decide +kernel
theorem dX10_bribe_126 : decode cX10_bribe 126 = .ok (.iload_n 3, 1) := by decide +kernel
theorem dX10_bribe_127 : decode cX10_bribe 127 = .ok (.if_icmp .ge 8, 3) := by decide +kernel
theorem dX10_bribe_130 : decode cX10_bribe 130 = .ok (.iload 6, 2) := by decide +kernel
theorem dX10_bribe_132 : decode cX10_bribe 132 = .ok (.goto 4, 3) := by decide +kernel
theorem dX10_bribe_135 : decode cX10_bribe 135 = .ok (.iload_n 3, 1) := by decide +kernel
theorem dX10_bribe_136 : decode cX10_bribe 136 = .ok (.istore_n 3, 1) := by decide +kernel
theorem dX10_bribe_137 : decode cX10_bribe 137 = .ok (.iinc 5 1, 3) := by decide +kernel
theorem dX10_bribe_140 : decode cX10_bribe 140 = .ok (.goto (-98), 3) := by decide +kernel
theorem dX10_bribe_143 : decode cX10_bribe 143 = .ok (.iload_n 2, 1) := by decide +kernel
theorem dX10_bribe_144 : decode cX10_bribe 144 = .ok (.ifCond .ne 8, 3) := by decide +kernel
theorem dX10_bribe_147 : decode cX10_bribe 147 = .ok (.iload 4, 2) := by decide +kernel
theorem dX10_bribe_149 : decode cX10_bribe 149 = .ok (.goto 4, 3) := by decide +kernel
theorem dX10_bribe_152 : decode cX10_bribe 152 = .ok (.iload_n 3, 1) := by decide +kernel
theorem dX10_bribe_153 : decode cX10_bribe 153 = .ok (.ireturn, 1) := by decide +kernel
theorem dX10_need_0 : decode cX10_need 0 = .ok (.aload_n 0, 1) := by decide +kernel
theorem dX10_need_1 : decode cX10_need 1 = .ok (.iload_n 1, 1) := by decide +kernel
theorem dX10_need_2 : decode cX10_need 2 = .ok (.invokevirtual 180, 3) := by decide +kernel
theorem dX10_need_5 : decode cX10_need 5 = .ok (.ifCond .eq 10, 3) := by decide +kernel
theorem dX10_need_8 : decode cX10_need 8 = .ok (.iload_n 2, 1) := by decide +kernel
theorem dX10_need_9 : decode cX10_need 9 = .ok (.invokestatic 213, 3) := by decide +kernel
theorem dX10_need_12 : decode cX10_need 12 = .ok (.ifCond .ne 5, 3) := by decide +kernel
theorem dX10_need_15 : decode cX10_need 15 = .ok (.iconst (-1), 1) := by decide +kernel
theorem dX10_need_16 : decode cX10_need 16 = .ok (.ireturn, 1) := by decide +kernel
theorem dX10_need_17 : decode cX10_need 17 = .ok (.aload_n 0, 1) := by decide +kernel
theorem dX10_need_18 : decode cX10_need 18 = .ok (.iconst 0, 1) := by decide +kernel
theorem dX10_need_19 : decode cX10_need 19 = .ok (.sipush 164, 3) := by decide +kernel
theorem dX10_need_22 : decode cX10_need 22 = .ok (.invokevirtual 218, 3) := by decide +kernel
theorem dX10_need_25 : decode cX10_need 25 = .ok (.iconst 1, 1) := by decide +kernel
theorem dX10_need_26 : decode cX10_need 26 = .ok (.istore_n 3, 1) := by decide +kernel
theorem dX10_need_27 : decode cX10_need 27 = .ok (.iload_n 3, 1) := by decide +kernel
theorem dX10_need_28 : decode cX10_need 28 = .ok (.bipush 9, 2) := by decide +kernel
theorem dX10_need_30 : decode cX10_need 30 = .ok (.if_icmp .gt 41, 3) := by decide +kernel
theorem dX10_need_33 : decode cX10_need 33 = .ok (.aload_n 0, 1) := by decide +kernel
theorem dX10_need_34 : decode cX10_need 34 = .ok (.getfield 7, 3) := by decide +kernel
theorem dX10_need_37 : decode cX10_need 37 = .ok (.sipush 186, 3) := by decide +kernel
theorem dX10_need_40 : decode cX10_need 40 = .ok (.iload_n 1, 1) := by decide +kernel
theorem dX10_need_41 : decode cX10_need 41 = .ok (.iadd, 1) := by decide +kernel
theorem dX10_need_42 : decode cX10_need 42 = .ok (.iload_n 3, 1) := by decide +kernel
theorem dX10_need_43 : decode cX10_need 43 = .ok (.iastore, 1) := by decide +kernel
theorem dX10_need_44 : decode cX10_need 44 = .ok (.aload_n 0, 1) := by decide +kernel
theorem dX10_need_45 : decode cX10_need 45 = .ok (.sipush 164, 3) := by decide +kernel
theorem dX10_need_48 : decode cX10_need 48 = .ok (.iload_n 1, 1) := by decide +kernel
theorem dX10_need_49 : decode cX10_need 49 = .ok (.iload_n 2, 1) := by decide +kernel
theorem dX10_need_50 : decode cX10_need 50 = .ok (.iconst 0, 1) := by decide +kernel
theorem dX10_need_51 : decode cX10_need 51 = .ok (.invokevirtual 164, 3) := by decide +kernel
theorem dX10_need_54 : decode cX10_need 54 = .ok (.aload_n 0, 1) := by decide +kernel
theorem dX10_need_55 : decode cX10_need 55 = .ok (.getfield 148, 3) := by decide +kernel
theorem dX10_need_58 : decode cX10_need 58 = .ok (.bipush 10, 2) := by decide +kernel
theorem dX10_need_60 : decode cX10_need 60 = .ok (.if_icmp .ne 5, 3) := by decide +kernel
theorem dX10_need_63 : decode cX10_need 63 = .ok (.iload_n 3, 1) := by decide +kernel
theorem dX10_need_64 : decode cX10_need 64 = .ok (.ireturn, 1) := by decide +kernel
theorem dX10_need_65 : decode cX10_need 65 = .ok (.iinc 3 1, 3) := by decide +kernel
theorem dX10_need_68 : decode cX10_need 68 = .ok (.goto (-41), 3) := by decide +kernel
theorem dX10_need_71 : decode cX10_need 71 = .ok (.bipush (-4), 2) := by decide +kernel
theorem dX10_need_73 : decode cX10_need 73 = .ok (.ireturn, 1) := by decide +kernel
theorem dX10_swap_0 : decode cX10_swap 0 = .ok (.iload_n 1, 1) := by decide +kernel
theorem dX10_swap_1 : decode cX10_swap 1 = .ok (.invokestatic 197, 3) := by decide +kernel
theorem dX10_swap_4 : decode cX10_swap 4 = .ok (.ifCond .eq 13, 3) := by decide +kernel
theorem dX10_swap_7 : decode cX10_swap 7 = .ok (.iload_n 2, 1) := by decide +kernel
theorem dX10_swap_8 : decode cX10_swap 8 = .ok (.i2l, 1) := by decide +kernel
theorem dX10_swap_9 : decode cX10_swap 9 = .ok (.lconst 0, 1) := by decide +kernel
theorem dX10_swap_10 : decode cX10_swap 10 = .ok (.lconst 1, 1) := by decide +kernel
theorem dX10_swap_11 : decode cX10_swap 11 = .ok (.invokestatic 49, 3) := by decide +kernel
theorem dX10_swap_14 : decode cX10_swap 14 = .ok (.ifCond .ne 5, 3) := by decide +kernel
theorem dX10_swap_17 : decode cX10_swap 17 = .ok (.iconst (-1), 1) := by decide +kernel
theorem dX10_swap_18 : decode cX10_swap 18 = .ok (.ireturn, 1) := by decide +kernel
theorem dX10_swap_19 : decode cX10_swap 19 = .ok (.aload_n 0, 1) := by decide +kernel
theorem dX10_swap_20 : decode cX10_swap 20 = .ok (.iconst 0, 1) := by decide +kernel
theorem dX10_swap_21 : decode cX10_swap 21 = .ok (.iload_n 1, 1) := by decide +kernel
theorem dX10_swap_22 : decode cX10_swap 22 = .ok (.invokevirtual 172, 3) := by decide +kernel
theorem dX10_swap_25 : decode cX10_swap 25 = .ok (.invokestatic 221, 3) := by decide +kernel
theorem dX10_swap_28 : decode cX10_swap 28 = .ok (.istore_n 3, 1) := by decide +kernel
theorem dX10_swap_29 : decode cX10_swap 29 = .ok (.bipush (-4), 2) := by decide +kernel
theorem dX10_swap_31 : decode cX10_swap 31 = .ok (.istore 4, 2) := by decide +kernel
theorem dX10_swap_33 : decode cX10_swap 33 = .ok (.iconst 0, 1) := by decide +kernel
theorem dX10_swap_34 : decode cX10_swap 34 = .ok (.istore 5, 2) := by decide +kernel
theorem dX10_swap_36 : decode cX10_swap 36 = .ok (.iload 5, 2) := by decide +kernel
theorem dX10_swap_38 : decode cX10_swap 38 = .ok (.aload_n 0, 1) := by decide +kernel
theorem dX10_swap_39 : decode cX10_swap 39 = .ok (.getfield 129, 3) := by decide +kernel
theorem dX10_swap_42 : decode cX10_swap 42 = .ok (.if_icmp .ge 155, 3) := by decide +kernel
theorem dX10_swap_45 : decode cX10_swap 45 = .ok (.iload 5, 2) := by decide +kernel
theorem dX10_swap_47 : decode cX10_swap 47 = .ok (.iconst 1, 1) := by decide +kernel
theorem dX10_swap_48 : decode cX10_swap 48 = .ok (.iadd, 1) := by decide +kernel
theorem dX10_swap_49 : decode cX10_swap 49 = .ok (.istore 6, 2) := by decide +kernel
theorem dX10_swap_51 : decode cX10_swap 51 = .ok (.iload 6, 2) := by decide +kernel
theorem dX10_swap_53 : decode cX10_swap 53 = .ok (.aload_n 0, 1) := by decide +kernel
theorem dX10_swap_54 : decode cX10_swap 54 = .ok (.getfield 129, 3) := by decide +kernel
theorem dX10_swap_57 : decode cX10_swap 57 = .ok (.if_icmp .ge 134, 3) := by decide +kernel
theorem dX10_swap_60 : decode cX10_swap 60 = .ok (.aload_n 0, 1) := by decide +kernel
theorem dX10_swap_61 : decode cX10_swap 61 = .ok (.iconst 0, 1) := by decide +kernel
theorem dX10_swap_62 : decode cX10_swap 62 = .ok (.sipush 164, 3) := by decide +kernel
theorem dX10_swap_65 : decode cX10_swap 65 = .ok (.invokevirtual 218, 3) := by decide +kernel
theorem dX10_swap_68 : decode cX10_swap 68 = .ok (.iconst 0, 1) := by decide +kernel
theorem dX10_swap_69 : decode cX10_swap 69 = .ok (.istore 7, 2) := by decide +kernel
theorem dX10_swap_71 : decode cX10_swap 71 = .ok (.iload 7, 2) := by decide +kernel
theorem dX10_swap_73 : decode cX10_swap 73 = .ok (.aload_n 0, 1) := by decide +kernel
theorem dX10_swap_74 : decode cX10_swap 74 = .ok (.getfield 7, 3) := by decide +kernel
theorem dX10_swap_77 : decode cX10_swap 77 = .ok (.bipush 40, 2) := by decide +kernel
theorem dX10_swap_79 : decode cX10_swap 79 = .ok (.iaload, 1) := by decide +kernel
theorem dX10_swap_80 : decode cX10_swap 80 = .ok (.if_icmp .ge 58, 3) := by decide +kernel
theorem dX10_swap_83 : decode cX10_swap 83 = .ok (.aload_n 0, 1) := by decide +kernel
theorem dX10_swap_84 : decode cX10_swap 84 = .ok (.getfield 7, 3) := by decide +kernel
theorem dX10_swap_87 : decode cX10_swap 87 = .ok (.bipush 26, 2) := by decide +kernel
theorem dX10_swap_89 : decode cX10_swap 89 = .ok (.iload 7, 2) := by decide +kernel
theorem dX10_swap_91 : decode cX10_swap 91 = .ok (.iadd, 1) := by decide +kernel
theorem dX10_swap_92 : decode cX10_swap 92 = .ok (.iaload, 1) := by decide +kernel
theorem dX10_swap_93 : decode cX10_swap 93 = .ok (.istore 8, 2) := by decide +kernel
theorem dX10_swap_95 : decode cX10_swap 95 = .ok (.aload_n 0, 1) := by decide +kernel
theorem dX10_swap_96 : decode cX10_swap 96 = .ok (.getfield 7, 3) := by decide +kernel
theorem dX10_swap_99 : decode cX10_swap 99 = .ok (.sipush 190, 3) := by decide +kernel
theorem dX10_swap_102 : decode cX10_swap 102 = .ok (.iload 7, 2) := by decide +kernel
theorem dX10_swap_104 : decode cX10_swap 104 = .ok (.iadd, 1) := by decide +kernel
theorem dX10_swap_105 : decode cX10_swap 105 = .ok (.iload 8, 2) := by decide +kernel
theorem dX10_swap_107 : decode cX10_swap 107 = .ok (.iload 5, 2) := by decide +kernel
theorem dX10_swap_109 : decode cX10_swap 109 = .ok (.if_icmp .ne 8, 3) := by decide +kernel
theorem dX10_swap_112 : decode cX10_swap 112 = .ok (.iload 6, 2) := by decide +kernel
theorem dX10_swap_114 : decode cX10_swap 114 = .ok (.goto 17, 3) := by decide +kernel
theorem dX10_swap_117 : decode cX10_swap 117 = .ok (.iload 8, 2) := by decide +kernel
theorem dX10_swap_119 : decode cX10_swap 119 = .ok (.iload 6, 2) := by decide +kernel
theorem dX10_swap_121 : decode cX10_swap 121 = .ok (.if_icmp .ne 8, 3) := by decide +kernel
theorem dX10_swap_124 : decode cX10_swap 124 = .ok (.iload 5, 2) := by decide +kernel
theorem dX10_swap_126 : decode cX10_swap 126 = .ok (.goto 5, 3) := by decide +kernel
theorem dX10_swap_129 : decode cX10_swap 129 = .ok (.iload 8, 2) := by decide +kernel
theorem dX10_swap_131 : decode cX10_swap 131 = .ok (.iastore, 1) := by decide +kernel
theorem dX10_swap_132 : decode cX10_swap 132 = .ok (.iinc 7 1, 3) := by decide +kernel
theorem dX10_swap_135 : decode cX10_swap 135 = .ok (.goto (-64), 3) := by decide +kernel
theorem dX10_swap_138 : decode cX10_swap 138 = .ok (.aload_n 0, 1) := by decide +kernel
theorem dX10_swap_139 : decode cX10_swap 139 = .ok (.sipush 164, 3) := by decide +kernel
theorem dX10_swap_142 : decode cX10_swap 142 = .ok (.iload_n 1, 1) := by decide +kernel
theorem dX10_swap_143 : decode cX10_swap 143 = .ok (.invokevirtual 172, 3) := by decide +kernel
theorem dX10_swap_146 : decode cX10_swap 146 = .ok (.invokestatic 221, 3) := by decide +kernel
theorem dX10_swap_149 : decode cX10_swap 149 = .ok (.istore 7, 2) := by decide +kernel
theorem dX10_swap_151 : decode cX10_swap 151 = .ok (.iload 7, 2) := by decide +kernel
theorem dX10_swap_153 : decode cX10_swap 153 = .ok (.iload_n 3, 1) := by decide +kernel
theorem dX10_swap_154 : decode cX10_swap 154 = .ok (.if_icmp .le 14, 3) := by decide +kernel
theorem dX10_swap_157 : decode cX10_swap 157 = .ok (.bipush 10, 2) := by decide +kernel
theorem dX10_swap_159 : decode cX10_swap 159 = .ok (.iload 5, 2) := by decide +kernel
theorem dX10_swap_161 : decode cX10_swap 161 = .ok (.imul, 1) := by decide +kernel
theorem dX10_swap_162 : decode cX10_swap 162 = .ok (.iload 6, 2) := by decide +kernel
theorem dX10_swap_164 : decode cX10_swap 164 = .ok (.iadd, 1) := by decide +kernel
theorem dX10_swap_165 : decode cX10_swap 165 = .ok (.goto 5, 3) := by decide +kernel
theorem dX10_swap_168 : decode cX10_swap 168 = .ok (.iload 4, 2) := by decide +kernel
theorem dX10_swap_170 : decode cX10_swap 170 = .ok (.istore 4, 2) := by decide +kernel
theorem dX10_swap_172 : decode cX10_swap 172 = .ok (.iload 7, 2) := by decide +kernel
theorem dX10_swap_174 : decode cX10_swap 174 = .ok (.iload_n 3, 1) := by decide +kernel
theorem dX10_swap_175 : decode cX10_swap 175 = .ok (.if_icmp .le 8, 3) := by decide +kernel
theorem dX10_swap_178 : decode cX10_swap 178 = .ok (.iload 7, 2) := by decide +kernel
theorem dX10_swap_180 : decode cX10_swap 180 = .ok (.goto 4, 3) := by decide +kernel
theorem dX10_swap_183 : decode cX10_swap 183 = .ok (.iload_n 3, 1) := by decide +kernel
theorem dX10_swap_184 : decode cX10_swap 184 = .ok (.istore_n 3, 1) := by decide +kernel
theorem dX10_swap_185 : decode cX10_swap 185 = .ok (.iinc 6 1, 3) := by decide +kernel
theorem dX10_swap_188 : decode cX10_swap 188 = .ok (.goto (-137), 3) := by decide +kernel
theorem dX10_swap_191 : decode cX10_swap 191 = .ok (.iinc 5 1, 3) := by decide +kernel
theorem dX10_swap_194 : decode cX10_swap 194 = .ok (.goto (-158), 3) := by decide +kernel
theorem dX10_swap_197 : decode cX10_swap 197 = .ok (.iload 4, 2) := by decide +kernel
theorem dX10_swap_199 : decode cX10_swap 199 = .ok (.bipush (-4), 2) := by decide +kernel
theorem dX10_swap_201 : decode cX10_swap 201 = .ok (.if_icmp .eq 7, 3) := by decide +kernel
theorem dX10_swap_204 : decode cX10_swap 204 = .ok (.iload_n 2, 1) := by decide +kernel
theorem dX10_swap_205 : decode cX10_swap 205 = .ok (.ifCond .ne 8, 3) := by decide +kernel
theorem dX10_swap_208 : decode cX10_swap 208 = .ok (.iload 4, 2) := by decide +kernel
theorem dX10_swap_210 : decode cX10_swap 210 = .ok (.goto 4, 3) := by decide +kernel
theorem dX10_swap_213 : decode cX10_swap 213 = .ok (.iload_n 3, 1) := by decide +kernel
theorem dX10_swap_214 : decode cX10_swap 214 = .ok (.ireturn, 1) := by decide +kernel
theorem dX10_pull_0 : decode cX10_pull 0 = .ok (.iload_n 1, 1) := by decide +kernel
theorem dX10_pull_1 : decode cX10_pull 1 = .ok (.invokestatic 197, 3) := by decide +kernel
theorem dX10_pull_4 : decode cX10_pull 4 = .ok (.ifCond .eq 13, 3) := by decide +kernel
theorem dX10_pull_7 : decode cX10_pull 7 = .ok (.iload_n 2, 1) := by decide +kernel
theorem dX10_pull_8 : decode cX10_pull 8 = .ok (.i2l, 1) := by decide +kernel
theorem dX10_pull_9 : decode cX10_pull 9 = .ok (.lconst 0, 1) := by decide +kernel
theorem dX10_pull_10 : decode cX10_pull 10 = .ok (.lconst 1, 1) := by decide +kernel
theorem dX10_pull_11 : decode cX10_pull 11 = .ok (.invokestatic 49, 3) := by decide +kernel
theorem dX10_pull_14 : decode cX10_pull 14 = .ok (.ifCond .ne 5, 3) := by decide +kernel
theorem dX10_pull_17 : decode cX10_pull 17 = .ok (.iconst (-1), 1) := by decide +kernel
theorem dX10_pull_18 : decode cX10_pull 18 = .ok (.ireturn, 1) := by decide +kernel
theorem dX10_pull_19 : decode cX10_pull 19 = .ok (.aload_n 0, 1) := by decide +kernel
theorem dX10_pull_20 : decode cX10_pull 20 = .ok (.iconst 0, 1) := by decide +kernel
theorem dX10_pull_21 : decode cX10_pull 21 = .ok (.iload_n 1, 1) := by decide +kernel
theorem dX10_pull_22 : decode cX10_pull 22 = .ok (.invokevirtual 172, 3) := by decide +kernel
theorem dX10_pull_25 : decode cX10_pull 25 = .ok (.invokestatic 221, 3) := by decide +kernel
theorem dX10_pull_28 : decode cX10_pull 28 = .ok (.istore_n 3, 1) := by decide +kernel
theorem dX10_pull_29 : decode cX10_pull 29 = .ok (.bipush (-4), 2) := by decide +kernel
theorem dX10_pull_31 : decode cX10_pull 31 = .ok (.istore 4, 2) := by decide +kernel
theorem dX10_pull_33 : decode cX10_pull 33 = .ok (.iconst 0, 1) := by decide +kernel
theorem dX10_pull_34 : decode cX10_pull 34 = .ok (.istore 5, 2) := by decide +kernel
theorem dX10_pull_36 : decode cX10_pull 36 = .ok (.iload 5, 2) := by decide +kernel
theorem dX10_pull_38 : decode cX10_pull 38 = .ok (.aload_n 0, 1) := by decide +kernel
theorem dX10_pull_39 : decode cX10_pull 39 = .ok (.getfield 7, 3) := by decide +kernel
theorem dX10_pull_42 : decode cX10_pull 42 = .ok (.bipush 38, 2) := by decide +kernel
theorem dX10_pull_44 : decode cX10_pull 44 = .ok (.iaload, 1) := by decide +kernel
theorem dX10_pull_45 : decode cX10_pull 45 = .ok (.if_icmp .ge 137, 3) := by decide +kernel
theorem dX10_pull_48 : decode cX10_pull 48 = .ok (.aload_n 0, 1) := by decide +kernel
theorem dX10_pull_49 : decode cX10_pull 49 = .ok (.iconst 0, 1) := by decide +kernel
theorem dX10_pull_50 : decode cX10_pull 50 = .ok (.sipush 164, 3) := by decide +kernel
theorem dX10_pull_53 : decode cX10_pull 53 = .ok (.invokevirtual 218, 3) := by decide +kernel
theorem dX10_pull_56 : decode cX10_pull 56 = .ok (.iload 5, 2) := by decide +kernel
theorem dX10_pull_58 : decode cX10_pull 58 = .ok (.iconst 1, 1) := by decide +kernel
theorem dX10_pull_59 : decode cX10_pull 59 = .ok (.iadd, 1) := by decide +kernel
theorem dX10_pull_60 : decode cX10_pull 60 = .ok (.istore 6, 2) := by decide +kernel
theorem dX10_pull_62 : decode cX10_pull 62 = .ok (.iload 6, 2) := by decide +kernel
theorem dX10_pull_64 : decode cX10_pull 64 = .ok (.aload_n 0, 1) := by decide +kernel
theorem dX10_pull_65 : decode cX10_pull 65 = .ok (.getfield 7, 3) := by decide +kernel
theorem dX10_pull_68 : decode cX10_pull 68 = .ok (.bipush 38, 2) := by decide +kernel
theorem dX10_pull_70 : decode cX10_pull 70 = .ok (.iaload, 1) := by decide +kernel
theorem dX10_pull_71 : decode cX10_pull 71 = .ok (.if_icmp .ge 52, 3) := by decide +kernel
theorem dX10_pull_74 : decode cX10_pull 74 = .ok (.aload_n 0, 1) := by decide +kernel
theorem dX10_pull_75 : decode cX10_pull 75 = .ok (.getfield 7, 3) := by decide +kernel
theorem dX10_pull_78 : decode cX10_pull 78 = .ok (.sipush 164, 3) := by decide +kernel
theorem dX10_pull_81 : decode cX10_pull 81 = .ok (.iload 6, 2) := by decide +kernel
theorem dX10_pull_83 : decode cX10_pull 83 = .ok (.iadd, 1) := by decide +kernel
theorem dX10_pull_84 : decode cX10_pull 84 = .ok (.iconst 1, 1) := by decide +kernel
theorem dX10_pull_85 : decode cX10_pull 85 = .ok (.isub, 1) := by decide +kernel
theorem dX10_pull_86 : decode cX10_pull 86 = .ok (.aload_n 0, 1) := by decide +kernel
theorem dX10_pull_87 : decode cX10_pull 87 = .ok (.getfield 7, 3) := by decide +kernel
theorem dX10_pull_90 : decode cX10_pull 90 = .ok (.iload 6, 2) := by decide +kernel
theorem dX10_pull_92 : decode cX10_pull 92 = .ok (.iaload, 1) := by decide +kernel
theorem dX10_pull_93 : decode cX10_pull 93 = .ok (.iastore, 1) := by decide +kernel
theorem dX10_pull_94 : decode cX10_pull 94 = .ok (.aload_n 0, 1) := by decide +kernel
theorem dX10_pull_95 : decode cX10_pull 95 = .ok (.getfield 7, 3) := by decide +kernel
theorem dX10_pull_98 : decode cX10_pull 98 = .ok (.sipush 171, 3) := by decide +kernel
theorem dX10_pull_101 : decode cX10_pull 101 = .ok (.iload 6, 2) := by decide +kernel
theorem dX10_pull_103 : decode cX10_pull 103 = .ok (.iadd, 1) := by decide +kernel
theorem dX10_pull_104 : decode cX10_pull 104 = .ok (.iconst 1, 1) := by decide +kernel
theorem dX10_pull_105 : decode cX10_pull 105 = .ok (.isub, 1) := by decide +kernel
theorem dX10_pull_106 : decode cX10_pull 106 = .ok (.aload_n 0, 1) := by decide +kernel
theorem dX10_pull_107 : decode cX10_pull 107 = .ok (.getfield 7, 3) := by decide +kernel
theorem dX10_pull_110 : decode cX10_pull 110 = .ok (.bipush 7, 2) := by decide +kernel
theorem dX10_pull_112 : decode cX10_pull 112 = .ok (.iload 6, 2) := by decide +kernel
theorem dX10_pull_114 : decode cX10_pull 114 = .ok (.iadd, 1) := by decide +kernel
theorem dX10_pull_115 : decode cX10_pull 115 = .ok (.iaload, 1) := by decide +kernel
theorem dX10_pull_116 : decode cX10_pull 116 = .ok (.iastore, 1) := by decide +kernel
theorem dX10_pull_117 : decode cX10_pull 117 = .ok (.iinc 6 1, 3) := by decide +kernel
theorem dX10_pull_120 : decode cX10_pull 120 = .ok (.goto (-58), 3) := by decide +kernel
theorem dX10_pull_123 : decode cX10_pull 123 = .ok (.aload_n 0, 1) := by decide +kernel
theorem dX10_pull_124 : decode cX10_pull 124 = .ok (.getfield 7, 3) := by decide +kernel
theorem dX10_pull_127 : decode cX10_pull 127 = .ok (.sipush 202, 3) := by decide +kernel
theorem dX10_pull_130 : decode cX10_pull 130 = .ok (.dup2, 1) := by decide +kernel
theorem dX10_pull_131 : decode cX10_pull 131 = .ok (.iaload, 1) := by decide +kernel
theorem dX10_pull_132 : decode cX10_pull 132 = .ok (.iconst 1, 1) := by decide +kernel
theorem dX10_pull_133 : decode cX10_pull 133 = .ok (.isub, 1) := by decide +kernel
theorem dX10_pull_134 : decode cX10_pull 134 = .ok (.iastore, 1) := by decide +kernel
theorem dX10_pull_135 : decode cX10_pull 135 = .ok (.aload_n 0, 1) := by decide +kernel
theorem dX10_pull_136 : decode cX10_pull 136 = .ok (.sipush 164, 3) := by decide +kernel
theorem dX10_pull_139 : decode cX10_pull 139 = .ok (.iload_n 1, 1) := by decide +kernel
theorem dX10_pull_140 : decode cX10_pull 140 = .ok (.invokevirtual 172, 3) := by decide +kernel
theorem dX10_pull_143 : decode cX10_pull 143 = .ok (.invokestatic 221, 3) := by decide +kernel
theorem dX10_pull_146 : decode cX10_pull 146 = .ok (.istore 6, 2) := by decide +kernel
theorem dX10_pull_148 : decode cX10_pull 148 = .ok (.iload 6, 2) := by decide +kernel
theorem dX10_pull_150 : decode cX10_pull 150 = .ok (.iload_n 3, 1) := by decide +kernel
theorem dX10_pull_151 : decode cX10_pull 151 = .ok (.if_icmp .le 8, 3) := by decide +kernel
theorem dX10_pull_154 : decode cX10_pull 154 = .ok (.iload 5, 2) := by decide +kernel
theorem dX10_pull_156 : decode cX10_pull 156 = .ok (.goto 5, 3) := by decide +kernel
theorem dX10_pull_159 : decode cX10_pull 159 = .ok (.iload 4, 2) := by decide +kernel
theorem dX10_pull_161 : decode cX10_pull 161 = .ok (.istore 4, 2) := by decide +kernel
theorem dX10_pull_163 : decode cX10_pull 163 = .ok (.iload 6, 2) := by decide +kernel
theorem dX10_pull_165 : decode cX10_pull 165 = .ok (.iload_n 3, 1) := by decide +kernel
theorem dX10_pull_166 : decode cX10_pull 166 = .ok (.if_icmp .le 8, 3) := by decide +kernel
theorem dX10_pull_169 : decode cX10_pull 169 = .ok (.iload 6, 2) := by decide +kernel
theorem dX10_pull_171 : decode cX10_pull 171 = .ok (.goto 4, 3) := by decide +kernel
theorem dX10_pull_174 : decode cX10_pull 174 = .ok (.iload_n 3, 1) := by decide +kernel
theorem dX10_pull_175 : decode cX10_pull 175 = .ok (.istore_n 3, 1) := by decide +kernel
theorem dX10_pull_176 : decode cX10_pull 176 = .ok (.iinc 5 1, 3) := by decide +kernel
theorem dX10_pull_179 : decode cX10_pull 179 = .ok (.goto (-143), 3) := by decide +kernel
theorem dX10_pull_182 : decode cX10_pull 182 = .ok (.iload 4, 2) := by decide +kernel
theorem dX10_pull_184 : decode cX10_pull 184 = .ok (.bipush (-4), 2) := by decide +kernel
theorem dX10_pull_186 : decode cX10_pull 186 = .ok (.if_icmp .eq 7, 3) := by decide +kernel
theorem dX10_pull_189 : decode cX10_pull 189 = .ok (.iload_n 2, 1) := by decide +kernel
theorem dX10_pull_190 : decode cX10_pull 190 = .ok (.ifCond .ne 8, 3) := by decide +kernel
theorem dX10_pull_193 : decode cX10_pull 193 = .ok (.iload 4, 2) := by decide +kernel
theorem dX10_pull_195 : decode cX10_pull 195 = .ok (.goto 4, 3) := by decide +kernel
theorem dX10_pull_198 : decode cX10_pull 198 = .ok (.iload_n 3, 1) := by decide +kernel
theorem dX10_pull_199 : decode cX10_pull 199 = .ok (.ireturn, 1) := by decide +kernel
theorem dX10_lowest_0 : decode cX10_lowest 0 = .ok (.lload_n 0, 1) := by decide +kernel
theorem dX10_lowest_1 : decode cX10_lowest 1 = .ok (.lstore 5, 2) := by decide +kernel
theorem dX10_lowest_3 : decode cX10_lowest 3 = .ok (.lload_n 2, 1) := by decide +kernel
theorem dX10_lowest_4 : decode cX10_lowest 4 = .ok (.lstore 7, 2) := by decide +kernel
theorem dX10_lowest_6 : decode cX10_lowest 6 = .ok (.lload 7, 2) := by decide +kernel
theorem dX10_lowest_8 : decode cX10_lowest 8 = .ok (.lconst 0, 1) := by decide +kernel
theorem dX10_lowest_9 : decode cX10_lowest 9 = .ok (.lcmp, 1) := by decide +kernel
theorem dX10_lowest_10 : decode cX10_lowest 10 = .ok (.ifCond .eq 21, 3) := by decide +kernel
theorem dX10_lowest_13 : decode cX10_lowest 13 = .ok (.lload 5, 2) := by decide +kernel
theorem dX10_lowest_15 : decode cX10_lowest 15 = .ok (.lload 7, 2) := by decide +kernel
theorem dX10_lowest_17 : decode cX10_lowest 17 = .ok (.lrem, 1) := by decide +kernel
theorem dX10_lowest_18 : decode cX10_lowest 18 = .ok (.lstore 9, 2) := by decide +kernel
theorem dX10_lowest_20 : decode cX10_lowest 20 = .ok (.lload 7, 2) := by decide +kernel
theorem dX10_lowest_22 : decode cX10_lowest 22 = .ok (.lstore 5, 2) := by decide +kernel
theorem dX10_lowest_24 : decode cX10_lowest 24 = .ok (.lload 9, 2) := by decide +kernel
theorem dX10_lowest_26 : decode cX10_lowest 26 = .ok (.lstore 7, 2) := by decide +kernel
theorem dX10_lowest_28 : decode cX10_lowest 28 = .ok (.goto (-22), 3) := by decide +kernel
theorem dX10_lowest_31 : decode cX10_lowest 31 = .ok (.iload 4, 2) := by decide +kernel
theorem dX10_lowest_33 : decode cX10_lowest 33 = .ok (.ifCond .ne 7, 3) := by decide +kernel
theorem dX10_lowest_36 : decode cX10_lowest 36 = .ok (.lload_n 0, 1) := by decide +kernel
theorem dX10_lowest_37 : decode cX10_lowest 37 = .ok (.goto 4, 3) := by decide +kernel
theorem dX10_lowest_40 : decode cX10_lowest 40 = .ok (.lload_n 2, 1) := by decide +kernel
theorem dX10_lowest_41 : decode cX10_lowest 41 = .ok (.lload 5, 2) := by decide +kernel
theorem dX10_lowest_43 : decode cX10_lowest 43 = .ok (.ldiv, 1) := by decide +kernel
theorem dX10_lowest_44 : decode cX10_lowest 44 = .ok (.lreturn, 1) := by decide +kernel
theorem dX10_byTurns_0 : decode cX10_byTurns 0 = .ok (.lconst 0, 1) := by decide +kernel
theorem dX10_byTurns_1 : decode cX10_byTurns 1 = .ok (.lstore 6, 2) := by decide +kernel
theorem dX10_byTurns_3 : decode cX10_byTurns 3 = .ok (.ldc2_w 224, 3) := by decide +kernel
theorem dX10_byTurns_6 : decode cX10_byTurns 6 = .ok (.lstore 8, 2) := by decide +kernel
theorem dX10_byTurns_8 : decode cX10_byTurns 8 = .ok (.iconst 0, 1) := by decide +kernel
theorem dX10_byTurns_9 : decode cX10_byTurns 9 = .ok (.istore 10, 2) := by decide +kernel
theorem dX10_byTurns_11 : decode cX10_byTurns 11 = .ok (.iload 10, 2) := by decide +kernel
theorem dX10_byTurns_13 : decode cX10_byTurns 13 = .ok (.sipush 1024, 3) := by decide +kernel
theorem dX10_byTurns_16 : decode cX10_byTurns 16 = .ok (.if_icmp .ge 124, 3) := by decide +kernel
theorem dX10_byTurns_19 : decode cX10_byTurns 19 = .ok (.lconst 1, 1) := by decide +kernel
theorem dX10_byTurns_20 : decode cX10_byTurns 20 = .ok (.lstore 11, 2) := by decide +kernel
theorem dX10_byTurns_22 : decode cX10_byTurns 22 = .ok (.iconst 0, 1) := by decide +kernel
theorem dX10_byTurns_23 : decode cX10_byTurns 23 = .ok (.istore 13, 2) := by decide +kernel
theorem dX10_byTurns_25 : decode cX10_byTurns 25 = .ok (.iload 13, 2) := by decide +kernel
theorem dX10_byTurns_27 : decode cX10_byTurns 27 = .ok (.bipush 10, 2) := by decide +kernel
theorem dX10_byTurns_29 : decode cX10_byTurns 29 = .ok (.if_icmp .ge 35, 3) := by decide +kernel
theorem dX10_byTurns_32 : decode cX10_byTurns 32 = .ok (.lload 11, 2) := by decide +kernel
theorem dX10_byTurns_34 : decode cX10_byTurns 34 = .ok (.iload 10, 2) := by decide +kernel
theorem dX10_byTurns_36 : decode cX10_byTurns 36 = .ok (.iload 13, 2) := by decide +kernel
theorem dX10_byTurns_38 : decode cX10_byTurns 38 = .ok (.ishr, 1) := by decide +kernel
theorem dX10_byTurns_39 : decode cX10_byTurns 39 = .ok (.iconst 1, 1) := by decide +kernel
theorem dX10_byTurns_40 : decode cX10_byTurns 40 = .ok (.iand, 1) := by decide +kernel
theorem dX10_byTurns_41 : decode cX10_byTurns 41 = .ok (.iconst 1, 1) := by decide +kernel
theorem dX10_byTurns_42 : decode cX10_byTurns 42 = .ok (.if_icmp .ne 8, 3) := by decide +kernel
theorem dX10_byTurns_45 : decode cX10_byTurns 45 = .ok (.iload_n 1, 1) := by decide +kernel
theorem dX10_byTurns_46 : decode cX10_byTurns 46 = .ok (.i2l, 1) := by decide +kernel
theorem dX10_byTurns_47 : decode cX10_byTurns 47 = .ok (.goto 8, 3) := by decide +kernel
theorem dX10_byTurns_50 : decode cX10_byTurns 50 = .ok (.bipush 10, 2) := by decide +kernel
theorem dX10_byTurns_52 : decode cX10_byTurns 52 = .ok (.iload_n 1, 1) := by decide +kernel
theorem dX10_byTurns_53 : decode cX10_byTurns 53 = .ok (.isub, 1) := by decide +kernel
theorem dX10_byTurns_54 : decode cX10_byTurns 54 = .ok (.i2l, 1) := by decide +kernel
theorem dX10_byTurns_55 : decode cX10_byTurns 55 = .ok (.lmul, 1) := by decide +kernel
theorem dX10_byTurns_56 : decode cX10_byTurns 56 = .ok (.lstore 11, 2) := by decide +kernel
theorem dX10_byTurns_58 : decode cX10_byTurns 58 = .ok (.iinc 13 1, 3) := by decide +kernel
theorem dX10_byTurns_61 : decode cX10_byTurns 61 = .ok (.goto (-36), 3) := by decide +kernel
theorem dX10_byTurns_64 : decode cX10_byTurns 64 = .ok (.lload 11, 2) := by decide +kernel
theorem dX10_byTurns_66 : decode cX10_byTurns 66 = .ok (.lconst 0, 1) := by decide +kernel
theorem dX10_byTurns_67 : decode cX10_byTurns 67 = .ok (.lcmp, 1) := by decide +kernel
theorem dX10_byTurns_68 : decode cX10_byTurns 68 = .ok (.ifCond .le 66, 3) := by decide +kernel
theorem dX10_byTurns_71 : decode cX10_byTurns 71 = .ok (.aload_n 0, 1) := by decide +kernel
theorem dX10_byTurns_72 : decode cX10_byTurns 72 = .ok (.iconst 0, 1) := by decide +kernel
theorem dX10_byTurns_73 : decode cX10_byTurns 73 = .ok (.iload_n 2, 1) := by decide +kernel
theorem dX10_byTurns_74 : decode cX10_byTurns 74 = .ok (.iload_n 3, 1) := by decide +kernel
theorem dX10_byTurns_75 : decode cX10_byTurns 75 = .ok (.iload 10, 2) := by decide +kernel
theorem dX10_byTurns_77 : decode cX10_byTurns 77 = .ok (.invokevirtual 164, 3) := by decide +kernel
theorem dX10_byTurns_80 : decode cX10_byTurns 80 = .ok (.lload 6, 2) := by decide +kernel
theorem dX10_byTurns_82 : decode cX10_byTurns 82 = .ok (.lload 11, 2) := by decide +kernel
theorem dX10_byTurns_84 : decode cX10_byTurns 84 = .ok (.iload 4, 2) := by decide +kernel
theorem dX10_byTurns_86 : decode cX10_byTurns 86 = .ok (.bipush (-4), 2) := by decide +kernel
theorem dX10_byTurns_88 : decode cX10_byTurns 88 = .ok (.if_icmp .ne 10, 3) := by decide +kernel
theorem dX10_byTurns_91 : decode cX10_byTurns 91 = .ok (.aload_n 0, 1) := by decide +kernel
theorem dX10_byTurns_92 : decode cX10_byTurns 92 = .ok (.getfield 151, 3) := by decide +kernel
theorem dX10_byTurns_95 : decode cX10_byTurns 95 = .ok (.goto 34, 3) := by decide +kernel
theorem dX10_byTurns_98 : decode cX10_byTurns 98 = .ok (.aload_n 0, 1) := by decide +kernel
theorem dX10_byTurns_99 : decode cX10_byTurns 99 = .ok (.getfield 145, 3) := by decide +kernel
theorem dX10_byTurns_102 : decode cX10_byTurns 102 = .ok (.bipush (-4), 2) := by decide +kernel
theorem dX10_byTurns_104 : decode cX10_byTurns 104 = .ok (.if_icmp .eq 24, 3) := by decide +kernel
theorem dX10_byTurns_107 : decode cX10_byTurns 107 = .ok (.aload_n 0, 1) := by decide +kernel
theorem dX10_byTurns_108 : decode cX10_byTurns 108 = .ok (.getfield 7, 3) := by decide +kernel
theorem dX10_byTurns_111 : decode cX10_byTurns 111 = .ok (.bipush 7, 2) := by decide +kernel
theorem dX10_byTurns_113 : decode cX10_byTurns 113 = .ok (.aload_n 0, 1) := by decide +kernel
theorem dX10_byTurns_114 : decode cX10_byTurns 114 = .ok (.getfield 145, 3) := by decide +kernel
theorem dX10_byTurns_117 : decode cX10_byTurns 117 = .ok (.iadd, 1) := by decide +kernel
theorem dX10_byTurns_118 : decode cX10_byTurns 118 = .ok (.iaload, 1) := by decide +kernel
theorem dX10_byTurns_119 : decode cX10_byTurns 119 = .ok (.iload 4, 2) := by decide +kernel
theorem dX10_byTurns_121 : decode cX10_byTurns 121 = .ok (.if_icmp .ne 7, 3) := by decide +kernel
theorem dX10_byTurns_124 : decode cX10_byTurns 124 = .ok (.iconst 1, 1) := by decide +kernel
theorem dX10_byTurns_125 : decode cX10_byTurns 125 = .ok (.goto 4, 3) := by decide +kernel
theorem dX10_byTurns_128 : decode cX10_byTurns 128 = .ok (.iconst 0, 1) := by decide +kernel
theorem dX10_byTurns_129 : decode cX10_byTurns 129 = .ok (.i2l, 1) := by decide +kernel
theorem dX10_byTurns_130 : decode cX10_byTurns 130 = .ok (.lmul, 1) := by decide +kernel
theorem dX10_byTurns_131 : decode cX10_byTurns 131 = .ok (.ladd, 1) := by decide +kernel
theorem dX10_byTurns_132 : decode cX10_byTurns 132 = .ok (.lstore 6, 2) := by decide +kernel
theorem dX10_byTurns_134 : decode cX10_byTurns 134 = .ok (.iinc 10 1, 3) := by decide +kernel
theorem dX10_byTurns_137 : decode cX10_byTurns 137 = .ok (.goto (-126), 3) := by decide +kernel
theorem dX10_byTurns_140 : decode cX10_byTurns 140 = .ok (.lload 6, 2) := by decide +kernel
theorem dX10_byTurns_142 : decode cX10_byTurns 142 = .ok (.lload 8, 2) := by decide +kernel
theorem dX10_byTurns_144 : decode cX10_byTurns 144 = .ok (.iload 5, 2) := by decide +kernel
theorem dX10_byTurns_146 : decode cX10_byTurns 146 = .ok (.invokestatic 226, 3) := by decide +kernel
theorem dX10_byTurns_149 : decode cX10_byTurns 149 = .ok (.lreturn, 1) := by decide +kernel
theorem dX10_luck_0 : decode cX10_luck 0 = .ok (.iload_n 1, 1) := by decide +kernel
theorem dX10_luck_1 : decode cX10_luck 1 = .ok (.i2l, 1) := by decide +kernel
theorem dX10_luck_2 : decode cX10_luck 2 = .ok (.lconst 0, 1) := by decide +kernel
theorem dX10_luck_3 : decode cX10_luck 3 = .ok (.ldc2_w 230, 3) := by decide +kernel
theorem dX10_luck_6 : decode cX10_luck 6 = .ok (.invokestatic 49, 3) := by decide +kernel
theorem dX10_luck_9 : decode cX10_luck 9 = .ok (.ifCond .eq 51, 3) := by decide +kernel
theorem dX10_luck_12 : decode cX10_luck 12 = .ok (.aload_n 0, 1) := by decide +kernel
theorem dX10_luck_13 : decode cX10_luck 13 = .ok (.iload_n 2, 1) := by decide +kernel
theorem dX10_luck_14 : decode cX10_luck 14 = .ok (.invokevirtual 180, 3) := by decide +kernel
theorem dX10_luck_17 : decode cX10_luck 17 = .ok (.ifCond .eq 43, 3) := by decide +kernel
theorem dX10_luck_20 : decode cX10_luck 20 = .ok (.iload_n 3, 1) := by decide +kernel
theorem dX10_luck_21 : decode cX10_luck 21 = .ok (.invokestatic 213, 3) := by decide +kernel
theorem dX10_luck_24 : decode cX10_luck 24 = .ok (.ifCond .eq 36, 3) := by decide +kernel
theorem dX10_luck_27 : decode cX10_luck 27 = .ok (.iload 4, 2) := by decide +kernel
theorem dX10_luck_29 : decode cX10_luck 29 = .ok (.invokestatic 197, 3) := by decide +kernel
theorem dX10_luck_32 : decode cX10_luck 32 = .ok (.ifCond .eq 28, 3) := by decide +kernel
theorem dX10_luck_35 : decode cX10_luck 35 = .ok (.iload 5, 2) := by decide +kernel
theorem dX10_luck_37 : decode cX10_luck 37 = .ok (.i2l, 1) := by decide +kernel
theorem dX10_luck_38 : decode cX10_luck 38 = .ok (.lconst 0, 1) := by decide +kernel
theorem dX10_luck_39 : decode cX10_luck 39 = .ok (.lconst 1, 1) := by decide +kernel
theorem dX10_luck_40 : decode cX10_luck 40 = .ok (.invokestatic 49, 3) := by decide +kernel
theorem dX10_luck_43 : decode cX10_luck 43 = .ok (.ifCond .eq 17, 3) := by decide +kernel
theorem dX10_luck_46 : decode cX10_luck 46 = .ok (.aload_n 0, 1) := by decide +kernel
theorem dX10_luck_47 : decode cX10_luck 47 = .ok (.iload_n 1, 1) := by decide +kernel
theorem dX10_luck_48 : decode cX10_luck 48 = .ok (.iload_n 2, 1) := by decide +kernel
theorem dX10_luck_49 : decode cX10_luck 49 = .ok (.iload_n 3, 1) := by decide +kernel
theorem dX10_luck_50 : decode cX10_luck 50 = .ok (.iload 4, 2) := by decide +kernel
theorem dX10_luck_52 : decode cX10_luck 52 = .ok (.iload 5, 2) := by decide +kernel
theorem dX10_luck_54 : decode cX10_luck 54 = .ok (.invokevirtual 232, 3) := by decide +kernel
theorem dX10_luck_57 : decode cX10_luck 57 = .ok (.goto 6, 3) := by decide +kernel
theorem dX10_luck_60 : decode cX10_luck 60 = .ok (.ldc2_w 236, 3) := by decide +kernel
theorem dX10_luck_63 : decode cX10_luck 63 = .ok (.lreturn, 1) := by decide +kernel
theorem dX10_mean_0 : decode cX10_mean 0 = .ok (.iload_n 1, 1) := by decide +kernel
theorem dX10_mean_1 : decode cX10_mean 1 = .ok (.i2l, 1) := by decide +kernel
theorem dX10_mean_2 : decode cX10_mean 2 = .ok (.lconst 0, 1) := by decide +kernel
theorem dX10_mean_3 : decode cX10_mean 3 = .ok (.ldc2_w 230, 3) := by decide +kernel
theorem dX10_mean_6 : decode cX10_mean 6 = .ok (.invokestatic 49, 3) := by decide +kernel
theorem dX10_mean_9 : decode cX10_mean 9 = .ok (.ifCond .eq 43, 3) := by decide +kernel
theorem dX10_mean_12 : decode cX10_mean 12 = .ok (.aload_n 0, 1) := by decide +kernel
theorem dX10_mean_13 : decode cX10_mean 13 = .ok (.iload_n 2, 1) := by decide +kernel
theorem dX10_mean_14 : decode cX10_mean 14 = .ok (.invokevirtual 180, 3) := by decide +kernel
theorem dX10_mean_17 : decode cX10_mean 17 = .ok (.ifCond .eq 35, 3) := by decide +kernel
theorem dX10_mean_20 : decode cX10_mean 20 = .ok (.iload_n 3, 1) := by decide +kernel
theorem dX10_mean_21 : decode cX10_mean 21 = .ok (.invokestatic 213, 3) := by decide +kernel
theorem dX10_mean_24 : decode cX10_mean 24 = .ok (.ifCond .eq 28, 3) := by decide +kernel
theorem dX10_mean_27 : decode cX10_mean 27 = .ok (.iload 4, 2) := by decide +kernel
theorem dX10_mean_29 : decode cX10_mean 29 = .ok (.i2l, 1) := by decide +kernel
theorem dX10_mean_30 : decode cX10_mean 30 = .ok (.lconst 0, 1) := by decide +kernel
theorem dX10_mean_31 : decode cX10_mean 31 = .ok (.lconst 1, 1) := by decide +kernel
theorem dX10_mean_32 : decode cX10_mean 32 = .ok (.invokestatic 49, 3) := by decide +kernel
theorem dX10_mean_35 : decode cX10_mean 35 = .ok (.ifCond .eq 17, 3) := by decide +kernel
theorem dX10_mean_38 : decode cX10_mean 38 = .ok (.aload_n 0, 1) := by decide +kernel
theorem dX10_mean_39 : decode cX10_mean 39 = .ok (.iload_n 1, 1) := by decide +kernel
theorem dX10_mean_40 : decode cX10_mean 40 = .ok (.iload_n 2, 1) := by decide +kernel
theorem dX10_mean_41 : decode cX10_mean 41 = .ok (.iload_n 3, 1) := by decide +kernel
theorem dX10_mean_42 : decode cX10_mean 42 = .ok (.bipush (-4), 2) := by decide +kernel
theorem dX10_mean_44 : decode cX10_mean 44 = .ok (.iload 4, 2) := by decide +kernel
theorem dX10_mean_46 : decode cX10_mean 46 = .ok (.invokevirtual 232, 3) := by decide +kernel
theorem dX10_mean_49 : decode cX10_mean 49 = .ok (.goto 6, 3) := by decide +kernel
theorem dX10_mean_52 : decode cX10_mean 52 = .ok (.ldc2_w 236, 3) := by decide +kernel
theorem dX10_mean_55 : decode cX10_mean 55 = .ok (.lreturn, 1) := by decide +kernel
theorem dX10_see_0 : decode cX10_see 0 = .ok (.aload_n 0, 1) := by decide +kernel
theorem dX10_see_1 : decode cX10_see 1 = .ok (.iload_n 1, 1) := by decide +kernel
theorem dX10_see_2 : decode cX10_see 2 = .ok (.invokevirtual 180, 3) := by decide +kernel
theorem dX10_see_5 : decode cX10_see 5 = .ok (.ifCond .eq 28, 3) := by decide +kernel
theorem dX10_see_8 : decode cX10_see 8 = .ok (.iload_n 2, 1) := by decide +kernel
theorem dX10_see_9 : decode cX10_see 9 = .ok (.invokestatic 213, 3) := by decide +kernel
theorem dX10_see_12 : decode cX10_see 12 = .ok (.ifCond .eq 21, 3) := by decide +kernel
theorem dX10_see_15 : decode cX10_see 15 = .ok (.iload_n 3, 1) := by decide +kernel
theorem dX10_see_16 : decode cX10_see 16 = .ok (.i2l, 1) := by decide +kernel
theorem dX10_see_17 : decode cX10_see 17 = .ok (.lconst 0, 1) := by decide +kernel
theorem dX10_see_18 : decode cX10_see 18 = .ok (.ldc2_w 115, 3) := by decide +kernel
theorem dX10_see_21 : decode cX10_see 21 = .ok (.invokestatic 49, 3) := by decide +kernel
theorem dX10_see_24 : decode cX10_see 24 = .ok (.ifCond .ne 11, 3) := by decide +kernel
theorem dX10_see_27 : decode cX10_see 27 = .ok (.iload_n 3, 1) := by decide +kernel
theorem dX10_see_28 : decode cX10_see 28 = .ok (.bipush 9, 2) := by decide +kernel
theorem dX10_see_30 : decode cX10_see 30 = .ok (.if_icmp .eq 5, 3) := by decide +kernel
theorem dX10_see_33 : decode cX10_see 33 = .ok (.iconst (-1), 1) := by decide +kernel
theorem dX10_see_34 : decode cX10_see 34 = .ok (.ireturn, 1) := by decide +kernel
theorem dX10_see_35 : decode cX10_see 35 = .ok (.aload_n 0, 1) := by decide +kernel
theorem dX10_see_36 : decode cX10_see 36 = .ok (.getfield 132, 3) := by decide +kernel
theorem dX10_see_39 : decode cX10_see 39 = .ok (.bipush 6, 2) := by decide +kernel
theorem dX10_see_41 : decode cX10_see 41 = .ok (.if_icmp .ne 6, 3) := by decide +kernel
theorem dX10_see_44 : decode cX10_see 44 = .ok (.bipush (-3), 2) := by decide +kernel
theorem dX10_see_46 : decode cX10_see 46 = .ok (.ireturn, 1) := by decide +kernel
theorem dX10_see_47 : decode cX10_see 47 = .ok (.aload_n 0, 1) := by decide +kernel
theorem dX10_see_48 : decode cX10_see 48 = .ok (.getfield 28, 3) := by decide +kernel
theorem dX10_see_51 : decode cX10_see 51 = .ok (.iconst 3, 1) := by decide +kernel
theorem dX10_see_52 : decode cX10_see 52 = .ok (.aload_n 0, 1) := by decide +kernel
theorem dX10_see_53 : decode cX10_see 53 = .ok (.getfield 132, 3) := by decide +kernel
theorem dX10_see_56 : decode cX10_see 56 = .ok (.imul, 1) := by decide +kernel
theorem dX10_see_57 : decode cX10_see 57 = .ok (.iload_n 1, 1) := by decide +kernel
theorem dX10_see_58 : decode cX10_see 58 = .ok (.iastore, 1) := by decide +kernel
theorem dX10_see_59 : decode cX10_see 59 = .ok (.aload_n 0, 1) := by decide +kernel
theorem dX10_see_60 : decode cX10_see 60 = .ok (.getfield 28, 3) := by decide +kernel
theorem dX10_see_63 : decode cX10_see 63 = .ok (.iconst 3, 1) := by decide +kernel
theorem dX10_see_64 : decode cX10_see 64 = .ok (.aload_n 0, 1) := by decide +kernel
theorem dX10_see_65 : decode cX10_see 65 = .ok (.getfield 132, 3) := by decide +kernel
theorem dX10_see_68 : decode cX10_see 68 = .ok (.imul, 1) := by decide +kernel
theorem dX10_see_69 : decode cX10_see 69 = .ok (.iconst 1, 1) := by decide +kernel
theorem dX10_see_70 : decode cX10_see 70 = .ok (.iadd, 1) := by decide +kernel
theorem dX10_see_71 : decode cX10_see 71 = .ok (.iload_n 2, 1) := by decide +kernel
theorem dX10_see_72 : decode cX10_see 72 = .ok (.iastore, 1) := by decide +kernel
theorem dX10_see_73 : decode cX10_see 73 = .ok (.aload_n 0, 1) := by decide +kernel
theorem dX10_see_74 : decode cX10_see 74 = .ok (.getfield 28, 3) := by decide +kernel
theorem dX10_see_77 : decode cX10_see 77 = .ok (.iconst 3, 1) := by decide +kernel
theorem dX10_see_78 : decode cX10_see 78 = .ok (.aload_n 0, 1) := by decide +kernel
theorem dX10_see_79 : decode cX10_see 79 = .ok (.getfield 132, 3) := by decide +kernel
theorem dX10_see_82 : decode cX10_see 82 = .ok (.imul, 1) := by decide +kernel
theorem dX10_see_83 : decode cX10_see 83 = .ok (.iconst 2, 1) := by decide +kernel
theorem dX10_see_84 : decode cX10_see 84 = .ok (.iadd, 1) := by decide +kernel
theorem dX10_see_85 : decode cX10_see 85 = .ok (.iload_n 3, 1) := by decide +kernel
theorem dX10_see_86 : decode cX10_see 86 = .ok (.bipush 9, 2) := by decide +kernel
theorem dX10_see_88 : decode cX10_see 88 = .ok (.if_icmp .ne 8, 3) := by decide +kernel
theorem dX10_see_91 : decode cX10_see 91 = .ok (.bipush (-4), 2) := by decide +kernel
theorem dX10_see_93 : decode cX10_see 93 = .ok (.goto 4, 3) := by decide +kernel
theorem dX10_see_96 : decode cX10_see 96 = .ok (.iload_n 3, 1) := by decide +kernel
theorem dX10_see_97 : decode cX10_see 97 = .ok (.iastore, 1) := by decide +kernel
theorem dX10_see_98 : decode cX10_see 98 = .ok (.aload_n 0, 1) := by decide +kernel
theorem dX10_see_99 : decode cX10_see 99 = .ok (.dup, 1) := by decide +kernel
theorem dX10_see_100 : decode cX10_see 100 = .ok (.getfield 132, 3) := by decide +kernel
theorem dX10_see_103 : decode cX10_see 103 = .ok (.iconst 1, 1) := by decide +kernel
theorem dX10_see_104 : decode cX10_see 104 = .ok (.iadd, 1) := by decide +kernel
theorem dX10_see_105 : decode cX10_see 105 = .ok (.putfield 132, 3) := by decide +kernel
theorem dX10_see_108 : decode cX10_see 108 = .ok (.aload_n 0, 1) := by decide +kernel
theorem dX10_see_109 : decode cX10_see 109 = .ok (.getfield 132, 3) := by decide +kernel
theorem dX10_see_112 : decode cX10_see 112 = .ok (.ireturn, 1) := by decide +kernel
theorem dX10_forget_0 : decode cX10_forget 0 = .ok (.iload_n 1, 1) := by decide +kernel
theorem dX10_forget_1 : decode cX10_forget 1 = .ok (.i2l, 1) := by decide +kernel
theorem dX10_forget_2 : decode cX10_forget 2 = .ok (.lconst 0, 1) := by decide +kernel
theorem dX10_forget_3 : decode cX10_forget 3 = .ok (.aload_n 0, 1) := by decide +kernel
theorem dX10_forget_4 : decode cX10_forget 4 = .ok (.getfield 132, 3) := by decide +kernel
theorem dX10_forget_7 : decode cX10_forget 7 = .ok (.i2l, 1) := by decide +kernel
theorem dX10_forget_8 : decode cX10_forget 8 = .ok (.invokestatic 49, 3) := by decide +kernel
theorem dX10_forget_11 : decode cX10_forget 11 = .ok (.ifCond .ne 5, 3) := by decide +kernel
theorem dX10_forget_14 : decode cX10_forget 14 = .ok (.iconst (-1), 1) := by decide +kernel
theorem dX10_forget_15 : decode cX10_forget 15 = .ok (.ireturn, 1) := by decide +kernel
theorem dX10_forget_16 : decode cX10_forget 16 = .ok (.aload_n 0, 1) := by decide +kernel
theorem dX10_forget_17 : decode cX10_forget 17 = .ok (.getfield 132, 3) := by decide +kernel
theorem dX10_forget_20 : decode cX10_forget 20 = .ok (.istore_n 2, 1) := by decide +kernel
theorem dX10_forget_21 : decode cX10_forget 21 = .ok (.aload_n 0, 1) := by decide +kernel
theorem dX10_forget_22 : decode cX10_forget 22 = .ok (.iload_n 1, 1) := by decide +kernel
theorem dX10_forget_23 : decode cX10_forget 23 = .ok (.putfield 132, 3) := by decide +kernel
theorem dX10_forget_26 : decode cX10_forget 26 = .ok (.iload_n 2, 1) := by decide +kernel
theorem dX10_forget_27 : decode cX10_forget 27 = .ok (.ireturn, 1) := by decide +kernel
theorem dX10_isAsSeen_0 : decode cX10_isAsSeen 0 = .ok (.iconst 1, 1) := by decide +kernel
theorem dX10_isAsSeen_1 : decode cX10_isAsSeen 1 = .ok (.istore_n 2, 1) := by decide +kernel
theorem dX10_isAsSeen_2 : decode cX10_isAsSeen 2 = .ok (.iconst 0, 1) := by decide +kernel
theorem dX10_isAsSeen_3 : decode cX10_isAsSeen 3 = .ok (.istore_n 3, 1) := by decide +kernel
theorem dX10_isAsSeen_4 : decode cX10_isAsSeen 4 = .ok (.iload_n 3, 1) := by decide +kernel
theorem dX10_isAsSeen_5 : decode cX10_isAsSeen 5 = .ok (.aload_n 0, 1) := by decide +kernel
theorem dX10_isAsSeen_6 : decode cX10_isAsSeen 6 = .ok (.getfield 132, 3) := by decide +kernel
theorem dX10_isAsSeen_9 : decode cX10_isAsSeen 9 = .ok (.if_icmp .ge 84, 3) := by decide +kernel
theorem dX10_isAsSeen_12 : decode cX10_isAsSeen 12 = .ok (.aload_n 0, 1) := by decide +kernel
theorem dX10_isAsSeen_13 : decode cX10_isAsSeen 13 = .ok (.aload_n 0, 1) := by decide +kernel
theorem dX10_isAsSeen_14 : decode cX10_isAsSeen 14 = .ok (.getfield 28, 3) := by decide +kernel
theorem dX10_isAsSeen_17 : decode cX10_isAsSeen 17 = .ok (.iconst 3, 1) := by decide +kernel
theorem dX10_isAsSeen_18 : decode cX10_isAsSeen 18 = .ok (.iload_n 3, 1) := by decide +kernel
theorem dX10_isAsSeen_19 : decode cX10_isAsSeen 19 = .ok (.imul, 1) := by decide +kernel
theorem dX10_isAsSeen_20 : decode cX10_isAsSeen 20 = .ok (.iaload, 1) := by decide +kernel
theorem dX10_isAsSeen_21 : decode cX10_isAsSeen 21 = .ok (.invokevirtual 180, 3) := by decide +kernel
theorem dX10_isAsSeen_24 : decode cX10_isAsSeen 24 = .ok (.istore 4, 2) := by decide +kernel
theorem dX10_isAsSeen_26 : decode cX10_isAsSeen 26 = .ok (.iload 4, 2) := by decide +kernel
theorem dX10_isAsSeen_28 : decode cX10_isAsSeen 28 = .ok (.ifCond .eq 27, 3) := by decide +kernel
theorem dX10_isAsSeen_31 : decode cX10_isAsSeen 31 = .ok (.aload_n 0, 1) := by decide +kernel
theorem dX10_isAsSeen_32 : decode cX10_isAsSeen 32 = .ok (.iload_n 1, 1) := by decide +kernel
theorem dX10_isAsSeen_33 : decode cX10_isAsSeen 33 = .ok (.aload_n 0, 1) := by decide +kernel
theorem dX10_isAsSeen_34 : decode cX10_isAsSeen 34 = .ok (.getfield 28, 3) := by decide +kernel
theorem dX10_isAsSeen_37 : decode cX10_isAsSeen 37 = .ok (.iconst 3, 1) := by decide +kernel
theorem dX10_isAsSeen_38 : decode cX10_isAsSeen 38 = .ok (.iload_n 3, 1) := by decide +kernel
theorem dX10_isAsSeen_39 : decode cX10_isAsSeen 39 = .ok (.imul, 1) := by decide +kernel
theorem dX10_isAsSeen_40 : decode cX10_isAsSeen 40 = .ok (.iaload, 1) := by decide +kernel
theorem dX10_isAsSeen_41 : decode cX10_isAsSeen 41 = .ok (.aload_n 0, 1) := by decide +kernel
theorem dX10_isAsSeen_42 : decode cX10_isAsSeen 42 = .ok (.getfield 28, 3) := by decide +kernel
theorem dX10_isAsSeen_45 : decode cX10_isAsSeen 45 = .ok (.iconst 3, 1) := by decide +kernel
theorem dX10_isAsSeen_46 : decode cX10_isAsSeen 46 = .ok (.iload_n 3, 1) := by decide +kernel
theorem dX10_isAsSeen_47 : decode cX10_isAsSeen 47 = .ok (.imul, 1) := by decide +kernel
theorem dX10_isAsSeen_48 : decode cX10_isAsSeen 48 = .ok (.iconst 1, 1) := by decide +kernel
theorem dX10_isAsSeen_49 : decode cX10_isAsSeen 49 = .ok (.iadd, 1) := by decide +kernel
theorem dX10_isAsSeen_50 : decode cX10_isAsSeen 50 = .ok (.iaload, 1) := by decide +kernel
theorem dX10_isAsSeen_51 : decode cX10_isAsSeen 51 = .ok (.iconst 0, 1) := by decide +kernel
theorem dX10_isAsSeen_52 : decode cX10_isAsSeen 52 = .ok (.invokevirtual 164, 3) := by decide +kernel
theorem dX10_isAsSeen_55 : decode cX10_isAsSeen 55 = .ok (.iload_n 2, 1) := by decide +kernel
theorem dX10_isAsSeen_56 : decode cX10_isAsSeen 56 = .ok (.ifCond .eq 29, 3) := by decide +kernel
theorem dX10_isAsSeen_59 : decode cX10_isAsSeen 59 = .ok (.iload 4, 2) := by decide +kernel
theorem dX10_isAsSeen_61 : decode cX10_isAsSeen 61 = .ok (.ifCond .eq 24, 3) := by decide +kernel
theorem dX10_isAsSeen_64 : decode cX10_isAsSeen 64 = .ok (.aload_n 0, 1) := by decide +kernel
theorem dX10_isAsSeen_65 : decode cX10_isAsSeen 65 = .ok (.getfield 145, 3) := by decide +kernel
theorem dX10_isAsSeen_68 : decode cX10_isAsSeen 68 = .ok (.aload_n 0, 1) := by decide +kernel
theorem dX10_isAsSeen_69 : decode cX10_isAsSeen 69 = .ok (.getfield 28, 3) := by decide +kernel
theorem dX10_isAsSeen_72 : decode cX10_isAsSeen 72 = .ok (.iconst 3, 1) := by decide +kernel
theorem dX10_isAsSeen_73 : decode cX10_isAsSeen 73 = .ok (.iload_n 3, 1) := by decide +kernel
theorem dX10_isAsSeen_74 : decode cX10_isAsSeen 74 = .ok (.imul, 1) := by decide +kernel
theorem dX10_isAsSeen_75 : decode cX10_isAsSeen 75 = .ok (.iconst 2, 1) := by decide +kernel
theorem dX10_isAsSeen_76 : decode cX10_isAsSeen 76 = .ok (.iadd, 1) := by decide +kernel
theorem dX10_isAsSeen_77 : decode cX10_isAsSeen 77 = .ok (.iaload, 1) := by decide +kernel
theorem dX10_isAsSeen_78 : decode cX10_isAsSeen 78 = .ok (.if_icmp .ne 7, 3) := by decide +kernel
theorem dX10_isAsSeen_81 : decode cX10_isAsSeen 81 = .ok (.iconst 1, 1) := by decide +kernel
theorem dX10_isAsSeen_82 : decode cX10_isAsSeen 82 = .ok (.goto 4, 3) := by decide +kernel
theorem dX10_isAsSeen_85 : decode cX10_isAsSeen 85 = .ok (.iconst 0, 1) := by decide +kernel
theorem dX10_isAsSeen_86 : decode cX10_isAsSeen 86 = .ok (.istore_n 2, 1) := by decide +kernel
theorem dX10_isAsSeen_87 : decode cX10_isAsSeen 87 = .ok (.iinc 3 1, 3) := by decide +kernel
theorem dX10_isAsSeen_90 : decode cX10_isAsSeen 90 = .ok (.goto (-86), 3) := by decide +kernel
theorem dX10_isAsSeen_93 : decode cX10_isAsSeen 93 = .ok (.iload_n 2, 1) := by decide +kernel
theorem dX10_isAsSeen_94 : decode cX10_isAsSeen 94 = .ok (.ireturn, 1) := by decide +kernel
theorem dX10_kinds_0 : decode cX10_kinds 0 = .ok (.aload_n 0, 1) := by decide +kernel
theorem dX10_kinds_1 : decode cX10_kinds 1 = .ok (.iload_n 1, 1) := by decide +kernel
theorem dX10_kinds_2 : decode cX10_kinds 2 = .ok (.invokevirtual 180, 3) := by decide +kernel
theorem dX10_kinds_5 : decode cX10_kinds 5 = .ok (.ifCond .ne 5, 3) := by decide +kernel
theorem dX10_kinds_8 : decode cX10_kinds 8 = .ok (.iconst (-1), 1) := by decide +kernel
theorem dX10_kinds_9 : decode cX10_kinds 9 = .ok (.ireturn, 1) := by decide +kernel
theorem dX10_kinds_10 : decode cX10_kinds 10 = .ok (.iconst 0, 1) := by decide +kernel
theorem dX10_kinds_11 : decode cX10_kinds 11 = .ok (.istore_n 2, 1) := by decide +kernel
theorem dX10_kinds_12 : decode cX10_kinds 12 = .ok (.aload_n 0, 1) := by decide +kernel
theorem dX10_kinds_13 : decode cX10_kinds 13 = .ok (.iconst 0, 1) := by decide +kernel
theorem dX10_kinds_14 : decode cX10_kinds 14 = .ok (.sipush 164, 3) := by decide +kernel
theorem dX10_kinds_17 : decode cX10_kinds 17 = .ok (.invokevirtual 218, 3) := by decide +kernel
theorem dX10_kinds_20 : decode cX10_kinds 20 = .ok (.iconst 0, 1) := by decide +kernel
theorem dX10_kinds_21 : decode cX10_kinds 21 = .ok (.istore_n 3, 1) := by decide +kernel
theorem dX10_kinds_22 : decode cX10_kinds 22 = .ok (.iload_n 3, 1) := by decide +kernel
theorem dX10_kinds_23 : decode cX10_kinds 23 = .ok (.iconst 4, 1) := by decide +kernel
theorem dX10_kinds_24 : decode cX10_kinds 24 = .ok (.if_icmp .ge 40, 3) := by decide +kernel
theorem dX10_kinds_27 : decode cX10_kinds 27 = .ok (.aload_n 0, 1) := by decide +kernel
theorem dX10_kinds_28 : decode cX10_kinds 28 = .ok (.getfield 7, 3) := by decide +kernel
theorem dX10_kinds_31 : decode cX10_kinds 31 = .ok (.sipush 182, 3) := by decide +kernel
theorem dX10_kinds_34 : decode cX10_kinds 34 = .ok (.iload_n 1, 1) := by decide +kernel
theorem dX10_kinds_35 : decode cX10_kinds 35 = .ok (.iadd, 1) := by decide +kernel
theorem dX10_kinds_36 : decode cX10_kinds 36 = .ok (.iload_n 3, 1) := by decide +kernel
theorem dX10_kinds_37 : decode cX10_kinds 37 = .ok (.iastore, 1) := by decide +kernel
theorem dX10_kinds_38 : decode cX10_kinds 38 = .ok (.iload_n 2, 1) := by decide +kernel
theorem dX10_kinds_39 : decode cX10_kinds 39 = .ok (.aload_n 0, 1) := by decide +kernel
theorem dX10_kinds_40 : decode cX10_kinds 40 = .ok (.sipush 164, 3) := by decide +kernel
theorem dX10_kinds_43 : decode cX10_kinds 43 = .ok (.invokevirtual 238, 3) := by decide +kernel
theorem dX10_kinds_46 : decode cX10_kinds 46 = .ok (.ifCond .eq 9, 3) := by decide +kernel
theorem dX10_kinds_49 : decode cX10_kinds 49 = .ok (.iconst 1, 1) := by decide +kernel
theorem dX10_kinds_50 : decode cX10_kinds 50 = .ok (.iload_n 3, 1) := by decide +kernel
theorem dX10_kinds_51 : decode cX10_kinds 51 = .ok (.ishl, 1) := by decide +kernel
theorem dX10_kinds_52 : decode cX10_kinds 52 = .ok (.goto 4, 3) := by decide +kernel
theorem dX10_kinds_55 : decode cX10_kinds 55 = .ok (.iconst 0, 1) := by decide +kernel
theorem dX10_kinds_56 : decode cX10_kinds 56 = .ok (.ior, 1) := by decide +kernel
theorem dX10_kinds_57 : decode cX10_kinds 57 = .ok (.istore_n 2, 1) := by decide +kernel
theorem dX10_kinds_58 : decode cX10_kinds 58 = .ok (.iinc 3 1, 3) := by decide +kernel
theorem dX10_kinds_61 : decode cX10_kinds 61 = .ok (.goto (-39), 3) := by decide +kernel
theorem dX10_kinds_64 : decode cX10_kinds 64 = .ok (.iload_n 2, 1) := by decide +kernel
theorem dX10_kinds_65 : decode cX10_kinds 65 = .ok (.ireturn, 1) := by decide +kernel
theorem dX10_speedsOf_0 : decode cX10_speedsOf 0 = .ok (.iconst 0, 1) := by decide +kernel
theorem dX10_speedsOf_1 : decode cX10_speedsOf 1 = .ok (.istore_n 2, 1) := by decide +kernel
theorem dX10_speedsOf_2 : decode cX10_speedsOf 2 = .ok (.aload_n 0, 1) := by decide +kernel
theorem dX10_speedsOf_3 : decode cX10_speedsOf 3 = .ok (.iconst 0, 1) := by decide +kernel
theorem dX10_speedsOf_4 : decode cX10_speedsOf 4 = .ok (.sipush 164, 3) := by decide +kernel
theorem dX10_speedsOf_7 : decode cX10_speedsOf 7 = .ok (.invokevirtual 218, 3) := by decide +kernel
theorem dX10_speedsOf_10 : decode cX10_speedsOf 10 = .ok (.iconst 1, 1) := by decide +kernel
theorem dX10_speedsOf_11 : decode cX10_speedsOf 11 = .ok (.istore_n 3, 1) := by decide +kernel
theorem dX10_speedsOf_12 : decode cX10_speedsOf 12 = .ok (.iload_n 3, 1) := by decide +kernel
theorem dX10_speedsOf_13 : decode cX10_speedsOf 13 = .ok (.bipush 9, 2) := by decide +kernel
theorem dX10_speedsOf_15 : decode cX10_speedsOf 15 = .ok (.if_icmp .gt 83, 3) := by decide +kernel
theorem dX10_speedsOf_18 : decode cX10_speedsOf 18 = .ok (.aload_n 0, 1) := by decide +kernel
theorem dX10_speedsOf_19 : decode cX10_speedsOf 19 = .ok (.getfield 7, 3) := by decide +kernel
theorem dX10_speedsOf_22 : decode cX10_speedsOf 22 = .ok (.sipush 186, 3) := by decide +kernel
theorem dX10_speedsOf_25 : decode cX10_speedsOf 25 = .ok (.iload_n 1, 1) := by decide +kernel
theorem dX10_speedsOf_26 : decode cX10_speedsOf 26 = .ok (.iadd, 1) := by decide +kernel
theorem dX10_speedsOf_27 : decode cX10_speedsOf 27 = .ok (.iload_n 3, 1) := by decide +kernel
theorem dX10_speedsOf_28 : decode cX10_speedsOf 28 = .ok (.iastore, 1) := by decide +kernel
theorem dX10_speedsOf_29 : decode cX10_speedsOf 29 = .ok (.iload_n 2, 1) := by decide +kernel
theorem dX10_speedsOf_30 : decode cX10_speedsOf 30 = .ok (.aload_n 0, 1) := by decide +kernel
theorem dX10_speedsOf_31 : decode cX10_speedsOf 31 = .ok (.sipush 164, 3) := by decide +kernel
theorem dX10_speedsOf_34 : decode cX10_speedsOf 34 = .ok (.invokevirtual 238, 3) := by decide +kernel
theorem dX10_speedsOf_37 : decode cX10_speedsOf 37 = .ok (.ifCond .eq 9, 3) := by decide +kernel
theorem dX10_speedsOf_40 : decode cX10_speedsOf 40 = .ok (.iconst 1, 1) := by decide +kernel
theorem dX10_speedsOf_41 : decode cX10_speedsOf 41 = .ok (.iload_n 3, 1) := by decide +kernel
theorem dX10_speedsOf_42 : decode cX10_speedsOf 42 = .ok (.ishl, 1) := by decide +kernel
theorem dX10_speedsOf_43 : decode cX10_speedsOf 43 = .ok (.goto 4, 3) := by decide +kernel
theorem dX10_speedsOf_46 : decode cX10_speedsOf 46 = .ok (.iconst 0, 1) := by decide +kernel
theorem dX10_speedsOf_47 : decode cX10_speedsOf 47 = .ok (.ior, 1) := by decide +kernel
theorem dX10_speedsOf_48 : decode cX10_speedsOf 48 = .ok (.istore_n 2, 1) := by decide +kernel
theorem dX10_speedsOf_49 : decode cX10_speedsOf 49 = .ok (.iconst 0, 1) := by decide +kernel
theorem dX10_speedsOf_50 : decode cX10_speedsOf 50 = .ok (.istore 4, 2) := by decide +kernel
theorem dX10_speedsOf_52 : decode cX10_speedsOf 52 = .ok (.iload 4, 2) := by decide +kernel
theorem dX10_speedsOf_54 : decode cX10_speedsOf 54 = .ok (.bipush 8, 2) := by decide +kernel
theorem dX10_speedsOf_56 : decode cX10_speedsOf 56 = .ok (.if_icmp .ge 36, 3) := by decide +kernel
theorem dX10_speedsOf_59 : decode cX10_speedsOf 59 = .ok (.aload_n 0, 1) := by decide +kernel
theorem dX10_speedsOf_60 : decode cX10_speedsOf 60 = .ok (.sipush 164, 3) := by decide +kernel
theorem dX10_speedsOf_63 : decode cX10_speedsOf 63 = .ok (.iload_n 1, 1) := by decide +kernel
theorem dX10_speedsOf_64 : decode cX10_speedsOf 64 = .ok (.iload 4, 2) := by decide +kernel
theorem dX10_speedsOf_66 : decode cX10_speedsOf 66 = .ok (.iconst 0, 1) := by decide +kernel
theorem dX10_speedsOf_67 : decode cX10_speedsOf 67 = .ok (.invokevirtual 164, 3) := by decide +kernel
theorem dX10_speedsOf_70 : decode cX10_speedsOf 70 = .ok (.aload_n 0, 1) := by decide +kernel
theorem dX10_speedsOf_71 : decode cX10_speedsOf 71 = .ok (.getfield 31, 3) := by decide +kernel
theorem dX10_speedsOf_74 : decode cX10_speedsOf 74 = .ok (.bipush 8, 2) := by decide +kernel
theorem dX10_speedsOf_76 : decode cX10_speedsOf 76 = .ok (.iload_n 3, 1) := by decide +kernel
theorem dX10_speedsOf_77 : decode cX10_speedsOf 77 = .ok (.imul, 1) := by decide +kernel
theorem dX10_speedsOf_78 : decode cX10_speedsOf 78 = .ok (.iload 4, 2) := by decide +kernel
theorem dX10_speedsOf_80 : decode cX10_speedsOf 80 = .ok (.iadd, 1) := by decide +kernel
theorem dX10_speedsOf_81 : decode cX10_speedsOf 81 = .ok (.aload_n 0, 1) := by decide +kernel
theorem dX10_speedsOf_82 : decode cX10_speedsOf 82 = .ok (.getfield 145, 3) := by decide +kernel
theorem dX10_speedsOf_85 : decode cX10_speedsOf 85 = .ok (.iastore, 1) := by decide +kernel
theorem dX10_speedsOf_86 : decode cX10_speedsOf 86 = .ok (.iinc 4 1, 3) := by decide +kernel
theorem dX10_speedsOf_89 : decode cX10_speedsOf 89 = .ok (.goto (-37), 3) := by decide +kernel
theorem dX10_speedsOf_92 : decode cX10_speedsOf 92 = .ok (.iinc 3 1, 3) := by decide +kernel
theorem dX10_speedsOf_95 : decode cX10_speedsOf 95 = .ok (.goto (-83), 3) := by decide +kernel
theorem dX10_speedsOf_98 : decode cX10_speedsOf 98 = .ok (.iload_n 2, 1) := by decide +kernel
theorem dX10_speedsOf_99 : decode cX10_speedsOf 99 = .ok (.ireturn, 1) := by decide +kernel
theorem dX10_speeds_0 : decode cX10_speeds 0 = .ok (.aload_n 0, 1) := by decide +kernel
theorem dX10_speeds_1 : decode cX10_speeds 1 = .ok (.iload_n 1, 1) := by decide +kernel
theorem dX10_speeds_2 : decode cX10_speeds 2 = .ok (.invokevirtual 180, 3) := by decide +kernel
theorem dX10_speeds_5 : decode cX10_speeds 5 = .ok (.ifCond .eq 11, 3) := by decide +kernel
theorem dX10_speeds_8 : decode cX10_speeds 8 = .ok (.aload_n 0, 1) := by decide +kernel
theorem dX10_speeds_9 : decode cX10_speeds 9 = .ok (.iload_n 1, 1) := by decide +kernel
theorem dX10_speeds_10 : decode cX10_speeds 10 = .ok (.invokevirtual 241, 3) := by decide +kernel
theorem dX10_speeds_13 : decode cX10_speeds 13 = .ok (.goto 4, 3) := by decide +kernel
theorem dX10_speeds_16 : decode cX10_speeds 16 = .ok (.iconst (-1), 1) := by decide +kernel
theorem dX10_speeds_17 : decode cX10_speeds 17 = .ok (.ireturn, 1) := by decide +kernel
theorem dX10_ask_0 : decode cX10_ask 0 = .ok (.aload_n 0, 1) := by decide +kernel
theorem dX10_ask_1 : decode cX10_ask 1 = .ok (.iload_n 1, 1) := by decide +kernel
theorem dX10_ask_2 : decode cX10_ask 2 = .ok (.invokevirtual 180, 3) := by decide +kernel
theorem dX10_ask_5 : decode cX10_ask 5 = .ok (.ifCond .eq 13, 3) := by decide +kernel
theorem dX10_ask_8 : decode cX10_ask 8 = .ok (.iload_n 2, 1) := by decide +kernel
theorem dX10_ask_9 : decode cX10_ask 9 = .ok (.i2l, 1) := by decide +kernel
theorem dX10_ask_10 : decode cX10_ask 10 = .ok (.lconst 0, 1) := by decide +kernel
theorem dX10_ask_11 : decode cX10_ask 11 = .ok (.lconst 1, 1) := by decide +kernel
theorem dX10_ask_12 : decode cX10_ask 12 = .ok (.invokestatic 49, 3) := by decide +kernel
theorem dX10_ask_15 : decode cX10_ask 15 = .ok (.ifCond .ne 5, 3) := by decide +kernel
theorem dX10_ask_18 : decode cX10_ask 18 = .ok (.iconst (-1), 1) := by decide +kernel
theorem dX10_ask_19 : decode cX10_ask 19 = .ok (.ireturn, 1) := by decide +kernel
theorem dX10_ask_20 : decode cX10_ask 20 = .ok (.aload_n 0, 1) := by decide +kernel
theorem dX10_ask_21 : decode cX10_ask 21 = .ok (.iload_n 1, 1) := by decide +kernel
theorem dX10_ask_22 : decode cX10_ask 22 = .ok (.invokevirtual 241, 3) := by decide +kernel
theorem dX10_ask_25 : decode cX10_ask 25 = .ok (.istore_n 3, 1) := by decide +kernel
theorem dX10_ask_26 : decode cX10_ask 26 = .ok (.iload_n 3, 1) := by decide +kernel
theorem dX10_ask_27 : decode cX10_ask 27 = .ok (.invokestatic 221, 3) := by decide +kernel
theorem dX10_ask_30 : decode cX10_ask 30 = .ok (.istore 4, 2) := by decide +kernel
theorem dX10_ask_32 : decode cX10_ask 32 = .ok (.bipush (-4), 2) := by decide +kernel
theorem dX10_ask_34 : decode cX10_ask 34 = .ok (.istore 5, 2) := by decide +kernel
theorem dX10_ask_36 : decode cX10_ask 36 = .ok (.iconst 0, 1) := by decide +kernel
theorem dX10_ask_37 : decode cX10_ask 37 = .ok (.istore 6, 2) := by decide +kernel
theorem dX10_ask_39 : decode cX10_ask 39 = .ok (.iload 6, 2) := by decide +kernel
theorem dX10_ask_41 : decode cX10_ask 41 = .ok (.bipush 8, 2) := by decide +kernel
theorem dX10_ask_43 : decode cX10_ask 43 = .ok (.if_icmp .ge 154, 3) := by decide +kernel
theorem dX10_ask_46 : decode cX10_ask 46 = .ok (.iconst 0, 1) := by decide +kernel
theorem dX10_ask_47 : decode cX10_ask 47 = .ok (.istore 7, 2) := by decide +kernel
theorem dX10_ask_49 : decode cX10_ask 49 = .ok (.iconst 1, 1) := by decide +kernel
theorem dX10_ask_50 : decode cX10_ask 50 = .ok (.istore 8, 2) := by decide +kernel
theorem dX10_ask_52 : decode cX10_ask 52 = .ok (.iload 8, 2) := by decide +kernel
theorem dX10_ask_54 : decode cX10_ask 54 = .ok (.bipush 9, 2) := by decide +kernel
theorem dX10_ask_56 : decode cX10_ask 56 = .ok (.if_icmp .gt 103, 3) := by decide +kernel
theorem dX10_ask_59 : decode cX10_ask 59 = .ok (.iconst 0, 1) := by decide +kernel
theorem dX10_ask_60 : decode cX10_ask 60 = .ok (.istore 9, 2) := by decide +kernel
theorem dX10_ask_62 : decode cX10_ask 62 = .ok (.iconst 1, 1) := by decide +kernel
theorem dX10_ask_63 : decode cX10_ask 63 = .ok (.istore 10, 2) := by decide +kernel
theorem dX10_ask_65 : decode cX10_ask 65 = .ok (.iload 10, 2) := by decide +kernel
theorem dX10_ask_67 : decode cX10_ask 67 = .ok (.bipush 9, 2) := by decide +kernel
theorem dX10_ask_69 : decode cX10_ask 69 = .ok (.if_icmp .gt 68, 3) := by decide +kernel
theorem dX10_ask_72 : decode cX10_ask 72 = .ok (.iload_n 3, 1) := by decide +kernel
theorem dX10_ask_73 : decode cX10_ask 73 = .ok (.iload 8, 2) := by decide +kernel
theorem dX10_ask_75 : decode cX10_ask 75 = .ok (.ishr, 1) := by decide +kernel
theorem dX10_ask_76 : decode cX10_ask 76 = .ok (.iconst 1, 1) := by decide +kernel
theorem dX10_ask_77 : decode cX10_ask 77 = .ok (.iand, 1) := by decide +kernel
theorem dX10_ask_78 : decode cX10_ask 78 = .ok (.iconst 1, 1) := by decide +kernel
theorem dX10_ask_79 : decode cX10_ask 79 = .ok (.if_icmp .ne 58, 3) := by decide +kernel
theorem dX10_ask_82 : decode cX10_ask 82 = .ok (.iload 9, 2) := by decide +kernel
theorem dX10_ask_84 : decode cX10_ask 84 = .ok (.iload_n 3, 1) := by decide +kernel
theorem dX10_ask_85 : decode cX10_ask 85 = .ok (.iload 10, 2) := by decide +kernel
theorem dX10_ask_87 : decode cX10_ask 87 = .ok (.ishr, 1) := by decide +kernel
theorem dX10_ask_88 : decode cX10_ask 88 = .ok (.iconst 1, 1) := by decide +kernel
theorem dX10_ask_89 : decode cX10_ask 89 = .ok (.iand, 1) := by decide +kernel
theorem dX10_ask_90 : decode cX10_ask 90 = .ok (.iconst 1, 1) := by decide +kernel
theorem dX10_ask_91 : decode cX10_ask 91 = .ok (.if_icmp .ne 36, 3) := by decide +kernel
theorem dX10_ask_94 : decode cX10_ask 94 = .ok (.aload_n 0, 1) := by decide +kernel
theorem dX10_ask_95 : decode cX10_ask 95 = .ok (.getfield 31, 3) := by decide +kernel
theorem dX10_ask_98 : decode cX10_ask 98 = .ok (.bipush 8, 2) := by decide +kernel
theorem dX10_ask_100 : decode cX10_ask 100 = .ok (.iload 8, 2) := by decide +kernel
theorem dX10_ask_102 : decode cX10_ask 102 = .ok (.imul, 1) := by decide +kernel
theorem dX10_ask_103 : decode cX10_ask 103 = .ok (.iload 6, 2) := by decide +kernel
theorem dX10_ask_105 : decode cX10_ask 105 = .ok (.iadd, 1) := by decide +kernel
theorem dX10_ask_106 : decode cX10_ask 106 = .ok (.iaload, 1) := by decide +kernel
theorem dX10_ask_107 : decode cX10_ask 107 = .ok (.aload_n 0, 1) := by decide +kernel
theorem dX10_ask_108 : decode cX10_ask 108 = .ok (.getfield 31, 3) := by decide +kernel
theorem dX10_ask_111 : decode cX10_ask 111 = .ok (.bipush 8, 2) := by decide +kernel
theorem dX10_ask_113 : decode cX10_ask 113 = .ok (.iload 10, 2) := by decide +kernel
theorem dX10_ask_115 : decode cX10_ask 115 = .ok (.imul, 1) := by decide +kernel
theorem dX10_ask_116 : decode cX10_ask 116 = .ok (.iload 6, 2) := by decide +kernel
theorem dX10_ask_118 : decode cX10_ask 118 = .ok (.iadd, 1) := by decide +kernel
theorem dX10_ask_119 : decode cX10_ask 119 = .ok (.iaload, 1) := by decide +kernel
theorem dX10_ask_120 : decode cX10_ask 120 = .ok (.if_icmp .ne 7, 3) := by decide +kernel
theorem dX10_ask_123 : decode cX10_ask 123 = .ok (.iconst 1, 1) := by decide +kernel
theorem dX10_ask_124 : decode cX10_ask 124 = .ok (.goto 4, 3) := by decide +kernel
theorem dX10_ask_127 : decode cX10_ask 127 = .ok (.iconst 0, 1) := by decide +kernel
theorem dX10_ask_128 : decode cX10_ask 128 = .ok (.iadd, 1) := by decide +kernel
theorem dX10_ask_129 : decode cX10_ask 129 = .ok (.istore 9, 2) := by decide +kernel
theorem dX10_ask_131 : decode cX10_ask 131 = .ok (.iinc 10 1, 3) := by decide +kernel
theorem dX10_ask_134 : decode cX10_ask 134 = .ok (.goto (-69), 3) := by decide +kernel
theorem dX10_ask_137 : decode cX10_ask 137 = .ok (.iload 9, 2) := by decide +kernel
theorem dX10_ask_139 : decode cX10_ask 139 = .ok (.iload 7, 2) := by decide +kernel
theorem dX10_ask_141 : decode cX10_ask 141 = .ok (.if_icmp .le 8, 3) := by decide +kernel
theorem dX10_ask_144 : decode cX10_ask 144 = .ok (.iload 9, 2) := by decide +kernel
theorem dX10_ask_146 : decode cX10_ask 146 = .ok (.goto 5, 3) := by decide +kernel
theorem dX10_ask_149 : decode cX10_ask 149 = .ok (.iload 7, 2) := by decide +kernel
theorem dX10_ask_151 : decode cX10_ask 151 = .ok (.istore 7, 2) := by decide +kernel
theorem dX10_ask_153 : decode cX10_ask 153 = .ok (.iinc 8 1, 3) := by decide +kernel
theorem dX10_ask_156 : decode cX10_ask 156 = .ok (.goto (-104), 3) := by decide +kernel
theorem dX10_ask_159 : decode cX10_ask 159 = .ok (.iload 7, 2) := by decide +kernel
theorem dX10_ask_161 : decode cX10_ask 161 = .ok (.iload 4, 2) := by decide +kernel
theorem dX10_ask_163 : decode cX10_ask 163 = .ok (.if_icmp .ge 8, 3) := by decide +kernel
theorem dX10_ask_166 : decode cX10_ask 166 = .ok (.iload 6, 2) := by decide +kernel
theorem dX10_ask_168 : decode cX10_ask 168 = .ok (.goto 5, 3) := by decide +kernel
theorem dX10_ask_171 : decode cX10_ask 171 = .ok (.iload 5, 2) := by decide +kernel
theorem dX10_ask_173 : decode cX10_ask 173 = .ok (.istore 5, 2) := by decide +kernel
theorem dX10_ask_175 : decode cX10_ask 175 = .ok (.iload 7, 2) := by decide +kernel
theorem dX10_ask_177 : decode cX10_ask 177 = .ok (.iload 4, 2) := by decide +kernel
theorem dX10_ask_179 : decode cX10_ask 179 = .ok (.if_icmp .ge 8, 3) := by decide +kernel
theorem dX10_ask_182 : decode cX10_ask 182 = .ok (.iload 7, 2) := by decide +kernel
theorem dX10_ask_184 : decode cX10_ask 184 = .ok (.goto 5, 3) := by decide +kernel
theorem dX10_ask_187 : decode cX10_ask 187 = .ok (.iload 4, 2) := by decide +kernel
theorem dX10_ask_189 : decode cX10_ask 189 = .ok (.istore 4, 2) := by decide +kernel
theorem dX10_ask_191 : decode cX10_ask 191 = .ok (.iinc 6 1, 3) := by decide +kernel
theorem dX10_ask_194 : decode cX10_ask 194 = .ok (.goto (-155), 3) := by decide +kernel
theorem dX10_ask_197 : decode cX10_ask 197 = .ok (.iload 5, 2) := by decide +kernel
theorem dX10_ask_199 : decode cX10_ask 199 = .ok (.bipush (-4), 2) := by decide +kernel
theorem dX10_ask_201 : decode cX10_ask 201 = .ok (.if_icmp .eq 7, 3) := by decide +kernel
theorem dX10_ask_204 : decode cX10_ask 204 = .ok (.iload_n 2, 1) := by decide +kernel
theorem dX10_ask_205 : decode cX10_ask 205 = .ok (.ifCond .ne 8, 3) := by decide +kernel
theorem dX10_ask_208 : decode cX10_ask 208 = .ok (.iload 5, 2) := by decide +kernel
theorem dX10_ask_210 : decode cX10_ask 210 = .ok (.goto 5, 3) := by decide +kernel
theorem dX10_ask_213 : decode cX10_ask 213 = .ok (.iload 4, 2) := by decide +kernel
theorem dX10_ask_215 : decode cX10_ask 215 = .ok (.ireturn, 1) := by decide +kernel
theorem dX10_drift_0 : decode cX10_drift 0 = .ok (.iload_n 2, 1) := by decide +kernel
theorem dX10_drift_1 : decode cX10_drift 1 = .ok (.i2l, 1) := by decide +kernel
theorem dX10_drift_2 : decode cX10_drift 2 = .ok (.lconst 1, 1) := by decide +kernel
theorem dX10_drift_3 : decode cX10_drift 3 = .ok (.ldc2_w 244, 3) := by decide +kernel
theorem dX10_drift_6 : decode cX10_drift 6 = .ok (.invokestatic 49, 3) := by decide +kernel
theorem dX10_drift_9 : decode cX10_drift 9 = .ok (.ifCond .eq 13, 3) := by decide +kernel
theorem dX10_drift_12 : decode cX10_drift 12 = .ok (.iload_n 3, 1) := by decide +kernel
theorem dX10_drift_13 : decode cX10_drift 13 = .ok (.i2l, 1) := by decide +kernel
theorem dX10_drift_14 : decode cX10_drift 14 = .ok (.lconst 0, 1) := by decide +kernel
theorem dX10_drift_15 : decode cX10_drift 15 = .ok (.lconst 1, 1) := by decide +kernel
theorem dX10_drift_16 : decode cX10_drift 16 = .ok (.invokestatic 49, 3) := by decide +kernel
theorem dX10_drift_19 : decode cX10_drift 19 = .ok (.ifCond .ne 5, 3) := by decide +kernel
theorem dX10_drift_22 : decode cX10_drift 22 = .ok (.iconst (-1), 1) := by decide +kernel
theorem dX10_drift_23 : decode cX10_drift 23 = .ok (.ireturn, 1) := by decide +kernel
theorem dX10_drift_24 : decode cX10_drift 24 = .ok (.aload_n 0, 1) := by decide +kernel
theorem dX10_drift_25 : decode cX10_drift 25 = .ok (.getfield 129, 3) := by decide +kernel
theorem dX10_drift_28 : decode cX10_drift 28 = .ok (.ifCond .ne 6, 3) := by decide +kernel
theorem dX10_drift_31 : decode cX10_drift 31 = .ok (.bipush (-2), 2) := by decide +kernel
theorem dX10_drift_33 : decode cX10_drift 33 = .ok (.ireturn, 1) := by decide +kernel
theorem dX10_drift_34 : decode cX10_drift 34 = .ok (.aload_n 0, 1) := by decide +kernel
theorem dX10_drift_35 : decode cX10_drift 35 = .ok (.iconst 0, 1) := by decide +kernel
theorem dX10_drift_36 : decode cX10_drift 36 = .ok (.sipush 164, 3) := by decide +kernel
theorem dX10_drift_39 : decode cX10_drift 39 = .ok (.invokevirtual 218, 3) := by decide +kernel
theorem dX10_drift_42 : decode cX10_drift 42 = .ok (.iload_n 1, 1) := by decide +kernel
theorem dX10_drift_43 : decode cX10_drift 43 = .ok (.istore 4, 2) := by decide +kernel
theorem dX10_drift_45 : decode cX10_drift 45 = .ok (.iconst 0, 1) := by decide +kernel
theorem dX10_drift_46 : decode cX10_drift 46 = .ok (.istore 5, 2) := by decide +kernel
theorem dX10_drift_48 : decode cX10_drift 48 = .ok (.iconst 0, 1) := by decide +kernel
theorem dX10_drift_49 : decode cX10_drift 49 = .ok (.istore 6, 2) := by decide +kernel
theorem dX10_drift_51 : decode cX10_drift 51 = .ok (.iconst 0, 1) := by decide +kernel
theorem dX10_drift_52 : decode cX10_drift 52 = .ok (.istore 7, 2) := by decide +kernel
theorem dX10_drift_54 : decode cX10_drift 54 = .ok (.iload 7, 2) := by decide +kernel
theorem dX10_drift_56 : decode cX10_drift 56 = .ok (.iload_n 2, 1) := by decide +kernel
theorem dX10_drift_57 : decode cX10_drift 57 = .ok (.if_icmp .ge 157, 3) := by decide +kernel
theorem dX10_drift_60 : decode cX10_drift 60 = .ok (.iload 4, 2) := by decide +kernel
theorem dX10_drift_62 : decode cX10_drift 62 = .ok (.ldc 246, 2) := by decide +kernel
theorem dX10_drift_64 : decode cX10_drift 64 = .ok (.imul, 1) := by decide +kernel
theorem dX10_drift_65 : decode cX10_drift 65 = .ok (.sipush 12345, 3) := by decide +kernel
theorem dX10_drift_68 : decode cX10_drift 68 = .ok (.iadd, 1) := by decide +kernel
theorem dX10_drift_69 : decode cX10_drift 69 = .ok (.istore 4, 2) := by decide +kernel
theorem dX10_drift_71 : decode cX10_drift 71 = .ok (.iload 4, 2) := by decide +kernel
theorem dX10_drift_73 : decode cX10_drift 73 = .ok (.bipush 16, 2) := by decide +kernel
theorem dX10_drift_75 : decode cX10_drift 75 = .ok (.ishr, 1) := by decide +kernel
theorem dX10_drift_76 : decode cX10_drift 76 = .ok (.sipush 32767, 3) := by decide +kernel
theorem dX10_drift_79 : decode cX10_drift 79 = .ok (.iand, 1) := by decide +kernel
theorem dX10_drift_80 : decode cX10_drift 80 = .ok (.istore 8, 2) := by decide +kernel
theorem dX10_drift_82 : decode cX10_drift 82 = .ok (.aload_n 0, 1) := by decide +kernel
theorem dX10_drift_83 : decode cX10_drift 83 = .ok (.sipush 164, 3) := by decide +kernel
theorem dX10_drift_86 : decode cX10_drift 86 = .ok (.iload 8, 2) := by decide +kernel
theorem dX10_drift_88 : decode cX10_drift 88 = .ok (.aload_n 0, 1) := by decide +kernel
theorem dX10_drift_89 : decode cX10_drift 89 = .ok (.getfield 129, 3) := by decide +kernel
theorem dX10_drift_92 : decode cX10_drift 92 = .ok (.irem, 1) := by decide +kernel
theorem dX10_drift_93 : decode cX10_drift 93 = .ok (.iload 8, 2) := by decide +kernel
theorem dX10_drift_95 : decode cX10_drift 95 = .ok (.iconst 4, 1) := by decide +kernel
theorem dX10_drift_96 : decode cX10_drift 96 = .ok (.idiv, 1) := by decide +kernel
theorem dX10_drift_97 : decode cX10_drift 97 = .ok (.bipush 8, 2) := by decide +kernel
theorem dX10_drift_99 : decode cX10_drift 99 = .ok (.irem, 1) := by decide +kernel
theorem dX10_drift_100 : decode cX10_drift 100 = .ok (.iconst 0, 1) := by decide +kernel
theorem dX10_drift_101 : decode cX10_drift 101 = .ok (.invokevirtual 164, 3) := by decide +kernel
theorem dX10_drift_104 : decode cX10_drift 104 = .ok (.bipush 10, 2) := by decide +kernel
theorem dX10_drift_106 : decode cX10_drift 106 = .ok (.iload 8, 2) := by decide +kernel
theorem dX10_drift_108 : decode cX10_drift 108 = .ok (.bipush 32, 2) := by decide +kernel
theorem dX10_drift_110 : decode cX10_drift 110 = .ok (.idiv, 1) := by decide +kernel
theorem dX10_drift_111 : decode cX10_drift 111 = .ok (.bipush 10, 2) := by decide +kernel
theorem dX10_drift_113 : decode cX10_drift 113 = .ok (.irem, 1) := by decide +kernel
theorem dX10_drift_114 : decode cX10_drift 114 = .ok (.imul, 1) := by decide +kernel
theorem dX10_drift_115 : decode cX10_drift 115 = .ok (.iload 8, 2) := by decide +kernel
theorem dX10_drift_117 : decode cX10_drift 117 = .ok (.sipush 320, 3) := by decide +kernel
theorem dX10_drift_120 : decode cX10_drift 120 = .ok (.idiv, 1) := by decide +kernel
theorem dX10_drift_121 : decode cX10_drift 121 = .ok (.bipush 8, 2) := by decide +kernel
theorem dX10_drift_123 : decode cX10_drift 123 = .ok (.irem, 1) := by decide +kernel
theorem dX10_drift_124 : decode cX10_drift 124 = .ok (.iadd, 1) := by decide +kernel
theorem dX10_drift_125 : decode cX10_drift 125 = .ok (.istore 9, 2) := by decide +kernel
theorem dX10_drift_127 : decode cX10_drift 127 = .ok (.aload_n 0, 1) := by decide +kernel
theorem dX10_drift_128 : decode cX10_drift 128 = .ok (.getfield 145, 3) := by decide +kernel
theorem dX10_drift_131 : decode cX10_drift 131 = .ok (.bipush (-4), 2) := by decide +kernel
theorem dX10_drift_133 : decode cX10_drift 133 = .ok (.if_icmp .eq 75, 3) := by decide +kernel
theorem dX10_drift_136 : decode cX10_drift 136 = .ok (.iinc 5 1, 3) := by decide +kernel
theorem dX10_drift_139 : decode cX10_drift 139 = .ok (.iload 6, 2) := by decide +kernel
theorem dX10_drift_141 : decode cX10_drift 141 = .ok (.aload_n 0, 1) := by decide +kernel
theorem dX10_drift_142 : decode cX10_drift 142 = .ok (.getfield 7, 3) := by decide +kernel
theorem dX10_drift_145 : decode cX10_drift 145 = .ok (.sipush 171, 3) := by decide +kernel
theorem dX10_drift_148 : decode cX10_drift 148 = .ok (.aload_n 0, 1) := by decide +kernel
theorem dX10_drift_149 : decode cX10_drift 149 = .ok (.getfield 145, 3) := by decide +kernel
theorem dX10_drift_152 : decode cX10_drift 152 = .ok (.iadd, 1) := by decide +kernel
theorem dX10_drift_153 : decode cX10_drift 153 = .ok (.iaload, 1) := by decide +kernel
theorem dX10_drift_154 : decode cX10_drift 154 = .ok (.ifCond .ne 7, 3) := by decide +kernel
theorem dX10_drift_157 : decode cX10_drift 157 = .ok (.iconst 1, 1) := by decide +kernel
theorem dX10_drift_158 : decode cX10_drift 158 = .ok (.goto 4, 3) := by decide +kernel
theorem dX10_drift_161 : decode cX10_drift 161 = .ok (.iconst 0, 1) := by decide +kernel
theorem dX10_drift_162 : decode cX10_drift 162 = .ok (.iadd, 1) := by decide +kernel
theorem dX10_drift_163 : decode cX10_drift 163 = .ok (.istore 6, 2) := by decide +kernel
theorem dX10_drift_165 : decode cX10_drift 165 = .ok (.aload_n 0, 1) := by decide +kernel
theorem dX10_drift_166 : decode cX10_drift 166 = .ok (.getfield 7, 3) := by decide +kernel
theorem dX10_drift_169 : decode cX10_drift 169 = .ok (.sipush 164, 3) := by decide +kernel
theorem dX10_drift_172 : decode cX10_drift 172 = .ok (.aload_n 0, 1) := by decide +kernel
theorem dX10_drift_173 : decode cX10_drift 173 = .ok (.getfield 145, 3) := by decide +kernel
theorem dX10_drift_176 : decode cX10_drift 176 = .ok (.iadd, 1) := by decide +kernel
theorem dX10_drift_177 : decode cX10_drift 177 = .ok (.aload_n 0, 1) := by decide +kernel
theorem dX10_drift_178 : decode cX10_drift 178 = .ok (.sipush 164, 3) := by decide +kernel
theorem dX10_drift_181 : decode cX10_drift 181 = .ok (.iload 9, 2) := by decide +kernel
theorem dX10_drift_183 : decode cX10_drift 183 = .ok (.invokevirtual 189, 3) := by decide +kernel
theorem dX10_drift_186 : decode cX10_drift 186 = .ok (.ifCond .eq 8, 3) := by decide +kernel
theorem dX10_drift_189 : decode cX10_drift 189 = .ok (.iload 9, 2) := by decide +kernel
theorem dX10_drift_191 : decode cX10_drift 191 = .ok (.goto 16, 3) := by decide +kernel
theorem dX10_drift_194 : decode cX10_drift 194 = .ok (.aload_n 0, 1) := by decide +kernel
theorem dX10_drift_195 : decode cX10_drift 195 = .ok (.getfield 7, 3) := by decide +kernel
theorem dX10_drift_198 : decode cX10_drift 198 = .ok (.sipush 164, 3) := by decide +kernel
theorem dX10_drift_201 : decode cX10_drift 201 = .ok (.aload_n 0, 1) := by decide +kernel
theorem dX10_drift_202 : decode cX10_drift 202 = .ok (.getfield 145, 3) := by decide +kernel
theorem dX10_drift_205 : decode cX10_drift 205 = .ok (.iadd, 1) := by decide +kernel
theorem dX10_drift_206 : decode cX10_drift 206 = .ok (.iaload, 1) := by decide +kernel
theorem dX10_drift_207 : decode cX10_drift 207 = .ok (.iastore, 1) := by decide +kernel
theorem dX10_drift_208 : decode cX10_drift 208 = .ok (.iinc 7 1, 3) := by decide +kernel
theorem dX10_drift_211 : decode cX10_drift 211 = .ok (.goto (-157), 3) := by decide +kernel
theorem dX10_drift_214 : decode cX10_drift 214 = .ok (.iload_n 3, 1) := by decide +kernel
theorem dX10_drift_215 : decode cX10_drift 215 = .ok (.ifCond .ne 8, 3) := by decide +kernel
theorem dX10_drift_218 : decode cX10_drift 218 = .ok (.iload 5, 2) := by decide +kernel
theorem dX10_drift_220 : decode cX10_drift 220 = .ok (.goto 5, 3) := by decide +kernel
theorem dX10_drift_223 : decode cX10_drift 223 = .ok (.iload 6, 2) := by decide +kernel
theorem dX10_drift_225 : decode cX10_drift 225 = .ok (.ireturn, 1) := by decide +kernel
theorem dX10_keep_0 : decode cX10_keep 0 = .ok (.iload_n 1, 1) := by decide +kernel
theorem dX10_keep_1 : decode cX10_keep 1 = .ok (.i2l, 1) := by decide +kernel
theorem dX10_keep_2 : decode cX10_keep 2 = .ok (.lconst 0, 1) := by decide +kernel
theorem dX10_keep_3 : decode cX10_keep 3 = .ok (.lconst 1, 1) := by decide +kernel
theorem dX10_keep_4 : decode cX10_keep 4 = .ok (.invokestatic 49, 3) := by decide +kernel
theorem dX10_keep_7 : decode cX10_keep 7 = .ok (.ifCond .ne 5, 3) := by decide +kernel
theorem dX10_keep_10 : decode cX10_keep 10 = .ok (.iconst (-1), 1) := by decide +kernel
theorem dX10_keep_11 : decode cX10_keep 11 = .ok (.ireturn, 1) := by decide +kernel
theorem dX10_keep_12 : decode cX10_keep 12 = .ok (.aload_n 0, 1) := by decide +kernel
theorem dX10_keep_13 : decode cX10_keep 13 = .ok (.iconst 0, 1) := by decide +kernel
theorem dX10_keep_14 : decode cX10_keep 14 = .ok (.bipush 41, 2) := by decide +kernel
theorem dX10_keep_16 : decode cX10_keep 16 = .ok (.iload_n 1, 1) := by decide +kernel
theorem dX10_keep_17 : decode cX10_keep 17 = .ok (.iconst 1, 1) := by decide +kernel
theorem dX10_keep_18 : decode cX10_keep 18 = .ok (.iadd, 1) := by decide +kernel
theorem dX10_keep_19 : decode cX10_keep 19 = .ok (.imul, 1) := by decide +kernel
theorem dX10_keep_20 : decode cX10_keep 20 = .ok (.invokevirtual 218, 3) := by decide +kernel
theorem dX10_keep_23 : decode cX10_keep 23 = .ok (.aload_n 0, 1) := by decide +kernel
theorem dX10_keep_24 : decode cX10_keep 24 = .ok (.getfield 34, 3) := by decide +kernel
theorem dX10_keep_27 : decode cX10_keep 27 = .ok (.iload_n 1, 1) := by decide +kernel
theorem dX10_keep_28 : decode cX10_keep 28 = .ok (.baload, 1) := by decide +kernel
theorem dX10_keep_29 : decode cX10_keep 29 = .ok (.ifCond .eq 7, 3) := by decide +kernel
theorem dX10_keep_32 : decode cX10_keep 32 = .ok (.iconst 1, 1) := by decide +kernel
theorem dX10_keep_33 : decode cX10_keep 33 = .ok (.goto 4, 3) := by decide +kernel
theorem dX10_keep_36 : decode cX10_keep 36 = .ok (.iconst 0, 1) := by decide +kernel
theorem dX10_keep_37 : decode cX10_keep 37 = .ok (.istore_n 2, 1) := by decide +kernel
theorem dX10_keep_38 : decode cX10_keep 38 = .ok (.aload_n 0, 1) := by decide +kernel
theorem dX10_keep_39 : decode cX10_keep 39 = .ok (.getfield 34, 3) := by decide +kernel
theorem dX10_keep_42 : decode cX10_keep 42 = .ok (.iload_n 1, 1) := by decide +kernel
theorem dX10_keep_43 : decode cX10_keep 43 = .ok (.iconst 1, 1) := by decide +kernel
theorem dX10_keep_44 : decode cX10_keep 44 = .ok (.bastore, 1) := by decide +kernel
theorem dX10_keep_45 : decode cX10_keep 45 = .ok (.iload_n 2, 1) := by decide +kernel
theorem dX10_keep_46 : decode cX10_keep 46 = .ok (.ireturn, 1) := by decide +kernel
theorem dX10_back_0 : decode cX10_back 0 = .ok (.iload_n 1, 1) := by decide +kernel
theorem dX10_back_1 : decode cX10_back 1 = .ok (.i2l, 1) := by decide +kernel
theorem dX10_back_2 : decode cX10_back 2 = .ok (.lconst 0, 1) := by decide +kernel
theorem dX10_back_3 : decode cX10_back 3 = .ok (.lconst 1, 1) := by decide +kernel
theorem dX10_back_4 : decode cX10_back 4 = .ok (.invokestatic 49, 3) := by decide +kernel
theorem dX10_back_7 : decode cX10_back 7 = .ok (.ifCond .ne 5, 3) := by decide +kernel
theorem dX10_back_10 : decode cX10_back 10 = .ok (.iconst (-1), 1) := by decide +kernel
theorem dX10_back_11 : decode cX10_back 11 = .ok (.ireturn, 1) := by decide +kernel
theorem dX10_back_12 : decode cX10_back 12 = .ok (.aload_n 0, 1) := by decide +kernel
theorem dX10_back_13 : decode cX10_back 13 = .ok (.getfield 34, 3) := by decide +kernel
theorem dX10_back_16 : decode cX10_back 16 = .ok (.iload_n 1, 1) := by decide +kernel
theorem dX10_back_17 : decode cX10_back 17 = .ok (.baload, 1) := by decide +kernel
theorem dX10_back_18 : decode cX10_back 18 = .ok (.ifCond .ne 6, 3) := by decide +kernel
theorem dX10_back_21 : decode cX10_back 21 = .ok (.bipush (-2), 2) := by decide +kernel
theorem dX10_back_23 : decode cX10_back 23 = .ok (.ireturn, 1) := by decide +kernel
theorem dX10_back_24 : decode cX10_back 24 = .ok (.aload_n 0, 1) := by decide +kernel
theorem dX10_back_25 : decode cX10_back 25 = .ok (.bipush 41, 2) := by decide +kernel
theorem dX10_back_27 : decode cX10_back 27 = .ok (.iload_n 1, 1) := by decide +kernel
theorem dX10_back_28 : decode cX10_back 28 = .ok (.iconst 1, 1) := by decide +kernel
theorem dX10_back_29 : decode cX10_back 29 = .ok (.iadd, 1) := by decide +kernel
theorem dX10_back_30 : decode cX10_back 30 = .ok (.imul, 1) := by decide +kernel
theorem dX10_back_31 : decode cX10_back 31 = .ok (.iconst 0, 1) := by decide +kernel
theorem dX10_back_32 : decode cX10_back 32 = .ok (.invokevirtual 218, 3) := by decide +kernel
theorem dX10_back_35 : decode cX10_back 35 = .ok (.aload_n 0, 1) := by decide +kernel
theorem dX10_back_36 : decode cX10_back 36 = .ok (.iconst 0, 1) := by decide +kernel
theorem dX10_back_37 : decode cX10_back 37 = .ok (.bipush (-4), 2) := by decide +kernel
theorem dX10_back_39 : decode cX10_back 39 = .ok (.invokevirtual 172, 3) := by decide +kernel
theorem dX10_back_42 : decode cX10_back 42 = .ok (.invokestatic 221, 3) := by decide +kernel
theorem dX10_back_45 : decode cX10_back 45 = .ok (.ireturn, 1) := by decide +kernel
theorem dX10_sheet_0 : decode cX10_sheet 0 = .ok (.iload_n 1, 1) := by decide +kernel
theorem dX10_sheet_1 : decode cX10_sheet 1 = .ok (.i2l, 1) := by decide +kernel
theorem dX10_sheet_2 : decode cX10_sheet 2 = .ok (.lconst 0, 1) := by decide +kernel
theorem dX10_sheet_3 : decode cX10_sheet 3 = .ok (.ldc2_w 137, 3) := by decide +kernel
theorem dX10_sheet_6 : decode cX10_sheet 6 = .ok (.invokestatic 49, 3) := by decide +kernel
theorem dX10_sheet_9 : decode cX10_sheet 9 = .ok (.ifCond .eq 21, 3) := by decide +kernel
theorem dX10_sheet_12 : decode cX10_sheet 12 = .ok (.iload_n 2, 1) := by decide +kernel
theorem dX10_sheet_13 : decode cX10_sheet 13 = .ok (.i2l, 1) := by decide +kernel
theorem dX10_sheet_14 : decode cX10_sheet 14 = .ok (.lconst 0, 1) := by decide +kernel
theorem dX10_sheet_15 : decode cX10_sheet 15 = .ok (.ldc2_w 178, 3) := by decide +kernel
theorem dX10_sheet_18 : decode cX10_sheet 18 = .ok (.invokestatic 49, 3) := by decide +kernel
theorem dX10_sheet_21 : decode cX10_sheet 21 = .ok (.ifCond .eq 9, 3) := by decide +kernel
theorem dX10_sheet_24 : decode cX10_sheet 24 = .ok (.iload_n 3, 1) := by decide +kernel
theorem dX10_sheet_25 : decode cX10_sheet 25 = .ok (.bipush 40, 2) := by decide +kernel
theorem dX10_sheet_27 : decode cX10_sheet 27 = .ok (.if_icmp .le 5, 3) := by decide +kernel
theorem dX10_sheet_30 : decode cX10_sheet 30 = .ok (.iconst (-1), 1) := by decide +kernel
theorem dX10_sheet_31 : decode cX10_sheet 31 = .ok (.ireturn, 1) := by decide +kernel
theorem dX10_sheet_32 : decode cX10_sheet 32 = .ok (.iload_n 3, 1) := by decide +kernel
theorem dX10_sheet_33 : decode cX10_sheet 33 = .ok (.ifCond .ge 6, 3) := by decide +kernel
theorem dX10_sheet_36 : decode cX10_sheet 36 = .ok (.bipush (-14), 2) := by decide +kernel
theorem dX10_sheet_38 : decode cX10_sheet 38 = .ok (.ireturn, 1) := by decide +kernel
theorem dX10_sheet_39 : decode cX10_sheet 39 = .ok (.aload_n 0, 1) := by decide +kernel
theorem dX10_sheet_40 : decode cX10_sheet 40 = .ok (.getfield 38, 3) := by decide +kernel
theorem dX10_sheet_43 : decode cX10_sheet 43 = .ok (.iload_n 1, 1) := by decide +kernel
theorem dX10_sheet_44 : decode cX10_sheet 44 = .ok (.iload_n 2, 1) := by decide +kernel
theorem dX10_sheet_45 : decode cX10_sheet 45 = .ok (.iastore, 1) := by decide +kernel
theorem dX10_sheet_46 : decode cX10_sheet 46 = .ok (.aload_n 0, 1) := by decide +kernel
theorem dX10_sheet_47 : decode cX10_sheet 47 = .ok (.getfield 41, 3) := by decide +kernel
theorem dX10_sheet_50 : decode cX10_sheet 50 = .ok (.iload_n 1, 1) := by decide +kernel
theorem dX10_sheet_51 : decode cX10_sheet 51 = .ok (.iload_n 3, 1) := by decide +kernel
theorem dX10_sheet_52 : decode cX10_sheet 52 = .ok (.iastore, 1) := by decide +kernel
theorem dX10_sheet_53 : decode cX10_sheet 53 = .ok (.iconst 0, 1) := by decide +kernel
theorem dX10_sheet_54 : decode cX10_sheet 54 = .ok (.istore 4, 2) := by decide +kernel
theorem dX10_sheet_56 : decode cX10_sheet 56 = .ok (.iload 4, 2) := by decide +kernel
theorem dX10_sheet_58 : decode cX10_sheet 58 = .ok (.bipush 40, 2) := by decide +kernel
theorem dX10_sheet_60 : decode cX10_sheet 60 = .ok (.if_icmp .ge 22, 3) := by decide +kernel
theorem dX10_sheet_63 : decode cX10_sheet 63 = .ok (.aload_n 0, 1) := by decide +kernel
theorem dX10_sheet_64 : decode cX10_sheet 64 = .ok (.getfield 44, 3) := by decide +kernel
theorem dX10_sheet_67 : decode cX10_sheet 67 = .ok (.bipush 40, 2) := by decide +kernel
theorem dX10_sheet_69 : decode cX10_sheet 69 = .ok (.iload_n 1, 1) := by decide +kernel
theorem dX10_sheet_70 : decode cX10_sheet 70 = .ok (.imul, 1) := by decide +kernel
theorem dX10_sheet_71 : decode cX10_sheet 71 = .ok (.iload 4, 2) := by decide +kernel
theorem dX10_sheet_73 : decode cX10_sheet 73 = .ok (.iadd, 1) := by decide +kernel
theorem dX10_sheet_74 : decode cX10_sheet 74 = .ok (.iconst 0, 1) := by decide +kernel
theorem dX10_sheet_75 : decode cX10_sheet 75 = .ok (.iastore, 1) := by decide +kernel
theorem dX10_sheet_76 : decode cX10_sheet 76 = .ok (.iinc 4 1, 3) := by decide +kernel
theorem dX10_sheet_79 : decode cX10_sheet 79 = .ok (.goto (-23), 3) := by decide +kernel
theorem dX10_sheet_82 : decode cX10_sheet 82 = .ok (.iconst 1, 1) := by decide +kernel
theorem dX10_sheet_83 : decode cX10_sheet 83 = .ok (.ireturn, 1) := by decide +kernel
theorem dX10_write_0 : decode cX10_write 0 = .ok (.iload_n 1, 1) := by decide +kernel
theorem dX10_write_1 : decode cX10_write 1 = .ok (.i2l, 1) := by decide +kernel
theorem dX10_write_2 : decode cX10_write 2 = .ok (.lconst 0, 1) := by decide +kernel
theorem dX10_write_3 : decode cX10_write 3 = .ok (.ldc2_w 137, 3) := by decide +kernel
theorem dX10_write_6 : decode cX10_write 6 = .ok (.invokestatic 49, 3) := by decide +kernel
theorem dX10_write_9 : decode cX10_write 9 = .ok (.ifCond .ne 5, 3) := by decide +kernel
theorem dX10_write_12 : decode cX10_write 12 = .ok (.iconst (-1), 1) := by decide +kernel
theorem dX10_write_13 : decode cX10_write 13 = .ok (.ireturn, 1) := by decide +kernel
theorem dX10_write_14 : decode cX10_write 14 = .ok (.aload_n 0, 1) := by decide +kernel
theorem dX10_write_15 : decode cX10_write 15 = .ok (.getfield 38, 3) := by decide +kernel
theorem dX10_write_18 : decode cX10_write 18 = .ok (.iload_n 1, 1) := by decide +kernel
theorem dX10_write_19 : decode cX10_write 19 = .ok (.iaload, 1) := by decide +kernel
theorem dX10_write_20 : decode cX10_write 20 = .ok (.bipush (-4), 2) := by decide +kernel
theorem dX10_write_22 : decode cX10_write 22 = .ok (.if_icmp .ne 6, 3) := by decide +kernel
theorem dX10_write_25 : decode cX10_write 25 = .ok (.bipush (-11), 2) := by decide +kernel
theorem dX10_write_27 : decode cX10_write 27 = .ok (.ireturn, 1) := by decide +kernel
theorem dX10_write_28 : decode cX10_write 28 = .ok (.iload_n 2, 1) := by decide +kernel
theorem dX10_write_29 : decode cX10_write 29 = .ok (.i2l, 1) := by decide +kernel
theorem dX10_write_30 : decode cX10_write 30 = .ok (.lconst 0, 1) := by decide +kernel
theorem dX10_write_31 : decode cX10_write 31 = .ok (.aload_n 0, 1) := by decide +kernel
theorem dX10_write_32 : decode cX10_write 32 = .ok (.getfield 41, 3) := by decide +kernel
theorem dX10_write_35 : decode cX10_write 35 = .ok (.iload_n 1, 1) := by decide +kernel
theorem dX10_write_36 : decode cX10_write 36 = .ok (.iaload, 1) := by decide +kernel
theorem dX10_write_37 : decode cX10_write 37 = .ok (.iconst 1, 1) := by decide +kernel
theorem dX10_write_38 : decode cX10_write 38 = .ok (.isub, 1) := by decide +kernel
theorem dX10_write_39 : decode cX10_write 39 = .ok (.i2l, 1) := by decide +kernel
theorem dX10_write_40 : decode cX10_write 40 = .ok (.invokestatic 49, 3) := by decide +kernel
theorem dX10_write_43 : decode cX10_write 43 = .ok (.ifCond .ne 6, 3) := by decide +kernel
theorem dX10_write_46 : decode cX10_write 46 = .ok (.bipush (-12), 2) := by decide +kernel
theorem dX10_write_48 : decode cX10_write 48 = .ok (.ireturn, 1) := by decide +kernel
theorem dX10_write_49 : decode cX10_write 49 = .ok (.aload_n 0, 1) := by decide +kernel
theorem dX10_write_50 : decode cX10_write 50 = .ok (.getfield 44, 3) := by decide +kernel
theorem dX10_write_53 : decode cX10_write 53 = .ok (.bipush 40, 2) := by decide +kernel
theorem dX10_write_55 : decode cX10_write 55 = .ok (.iload_n 1, 1) := by decide +kernel
theorem dX10_write_56 : decode cX10_write 56 = .ok (.imul, 1) := by decide +kernel
theorem dX10_write_57 : decode cX10_write 57 = .ok (.iload_n 2, 1) := by decide +kernel
theorem dX10_write_58 : decode cX10_write 58 = .ok (.iadd, 1) := by decide +kernel
theorem dX10_write_59 : decode cX10_write 59 = .ok (.aload_n 0, 1) := by decide +kernel
theorem dX10_write_60 : decode cX10_write 60 = .ok (.getfield 38, 3) := by decide +kernel
theorem dX10_write_63 : decode cX10_write 63 = .ok (.iload_n 1, 1) := by decide +kernel
theorem dX10_write_64 : decode cX10_write 64 = .ok (.iaload, 1) := by decide +kernel
theorem dX10_write_65 : decode cX10_write 65 = .ok (.ifCond .ne 13, 3) := by decide +kernel
theorem dX10_write_68 : decode cX10_write 68 = .ok (.iload_n 3, 1) := by decide +kernel
theorem dX10_write_69 : decode cX10_write 69 = .ok (.bipush 24, 2) := by decide +kernel
theorem dX10_write_71 : decode cX10_write 71 = .ok (.ishl, 1) := by decide +kernel
theorem dX10_write_72 : decode cX10_write 72 = .ok (.bipush 24, 2) := by decide +kernel
theorem dX10_write_74 : decode cX10_write 74 = .ok (.ishr, 1) := by decide +kernel
theorem dX10_write_75 : decode cX10_write 75 = .ok (.goto 24, 3) := by decide +kernel
theorem dX10_write_78 : decode cX10_write 78 = .ok (.aload_n 0, 1) := by decide +kernel
theorem dX10_write_79 : decode cX10_write 79 = .ok (.getfield 38, 3) := by decide +kernel
theorem dX10_write_82 : decode cX10_write 82 = .ok (.iload_n 1, 1) := by decide +kernel
theorem dX10_write_83 : decode cX10_write 83 = .ok (.iaload, 1) := by decide +kernel
theorem dX10_write_84 : decode cX10_write 84 = .ok (.iconst 1, 1) := by decide +kernel
theorem dX10_write_85 : decode cX10_write 85 = .ok (.if_icmp .ne 13, 3) := by decide +kernel
theorem dX10_write_88 : decode cX10_write 88 = .ok (.iload_n 3, 1) := by decide +kernel
theorem dX10_write_89 : decode cX10_write 89 = .ok (.bipush 16, 2) := by decide +kernel
theorem dX10_write_91 : decode cX10_write 91 = .ok (.ishl, 1) := by decide +kernel
theorem dX10_write_92 : decode cX10_write 92 = .ok (.bipush 16, 2) := by decide +kernel
theorem dX10_write_94 : decode cX10_write 94 = .ok (.ishr, 1) := by decide +kernel
theorem dX10_write_95 : decode cX10_write 95 = .ok (.goto 4, 3) := by decide +kernel
theorem dX10_write_98 : decode cX10_write 98 = .ok (.iload_n 3, 1) := by decide +kernel
theorem dX10_write_99 : decode cX10_write 99 = .ok (.iastore, 1) := by decide +kernel
theorem dX10_write_100 : decode cX10_write 100 = .ok (.iconst 1, 1) := by decide +kernel
theorem dX10_write_101 : decode cX10_write 101 = .ok (.ireturn, 1) := by decide +kernel
theorem dX10_read_0 : decode cX10_read 0 = .ok (.iload_n 1, 1) := by decide +kernel
theorem dX10_read_1 : decode cX10_read 1 = .ok (.i2l, 1) := by decide +kernel
theorem dX10_read_2 : decode cX10_read 2 = .ok (.lconst 0, 1) := by decide +kernel
theorem dX10_read_3 : decode cX10_read 3 = .ok (.ldc2_w 137, 3) := by decide +kernel
theorem dX10_read_6 : decode cX10_read 6 = .ok (.invokestatic 49, 3) := by decide +kernel
theorem dX10_read_9 : decode cX10_read 9 = .ok (.ifCond .eq 28, 3) := by decide +kernel
theorem dX10_read_12 : decode cX10_read 12 = .ok (.iload_n 2, 1) := by decide +kernel
theorem dX10_read_13 : decode cX10_read 13 = .ok (.i2l, 1) := by decide +kernel
theorem dX10_read_14 : decode cX10_read 14 = .ok (.lconst 0, 1) := by decide +kernel
theorem dX10_read_15 : decode cX10_read 15 = .ok (.ldc2_w 178, 3) := by decide +kernel
theorem dX10_read_18 : decode cX10_read 18 = .ok (.invokestatic 49, 3) := by decide +kernel
theorem dX10_read_21 : decode cX10_read 21 = .ok (.ifCond .eq 16, 3) := by decide +kernel
theorem dX10_read_24 : decode cX10_read 24 = .ok (.iload 4, 2) := by decide +kernel
theorem dX10_read_26 : decode cX10_read 26 = .ok (.i2l, 1) := by decide +kernel
theorem dX10_read_27 : decode cX10_read 27 = .ok (.lconst 0, 1) := by decide +kernel
theorem dX10_read_28 : decode cX10_read 28 = .ok (.ldc2_w 247, 3) := by decide +kernel
theorem dX10_read_31 : decode cX10_read 31 = .ok (.invokestatic 49, 3) := by decide +kernel
theorem dX10_read_34 : decode cX10_read 34 = .ok (.ifCond .ne 5, 3) := by decide +kernel
theorem dX10_read_37 : decode cX10_read 37 = .ok (.iconst (-1), 1) := by decide +kernel
theorem dX10_read_38 : decode cX10_read 38 = .ok (.ireturn, 1) := by decide +kernel
theorem dX10_read_39 : decode cX10_read 39 = .ok (.aload_n 0, 1) := by decide +kernel
theorem dX10_read_40 : decode cX10_read 40 = .ok (.iconst 0, 1) := by decide +kernel
theorem dX10_read_41 : decode cX10_read 41 = .ok (.bipush 123, 2) := by decide +kernel
theorem dX10_read_43 : decode cX10_read 43 = .ok (.invokevirtual 218, 3) := by decide +kernel
theorem dX10_read_46 : decode cX10_read 46 = .ok (.iconst 0, 1) := by decide +kernel
theorem dX10_read_47 : decode cX10_read 47 = .ok (.istore 5, 2) := by decide +kernel
theorem dX10_read_49 : decode cX10_read 49 = .ok (.iconst 0, 1) := by decide +kernel
theorem dX10_read_50 : decode cX10_read 50 = .ok (.istore 6, 2) := by decide +kernel
theorem dX10_read_52 : decode cX10_read 52 = .ok (.iconst 0, 1) := by decide +kernel
theorem dX10_read_53 : decode cX10_read 53 = .ok (.istore 7, 2) := by decide +kernel
theorem dX10_read_55 : decode cX10_read 55 = .ok (.iload 7, 2) := by decide +kernel
theorem dX10_read_57 : decode cX10_read 57 = .ok (.iconst 2, 1) := by decide +kernel
theorem dX10_read_58 : decode cX10_read 58 = .ok (.iload 4, 2) := by decide +kernel
theorem dX10_read_60 : decode cX10_read 60 = .ok (.imul, 1) := by decide +kernel
theorem dX10_read_61 : decode cX10_read 61 = .ok (.if_icmp .ge 135, 3) := by decide +kernel
theorem dX10_read_64 : decode cX10_read 64 = .ok (.iload 5, 2) := by decide +kernel
theorem dX10_read_66 : decode cX10_read 66 = .ok (.ifCond .ne 130, 3) := by decide +kernel
theorem dX10_read_69 : decode cX10_read 69 = .ok (.aload_n 0, 1) := by decide +kernel
theorem dX10_read_70 : decode cX10_read 70 = .ok (.getfield 38, 3) := by decide +kernel
theorem dX10_read_73 : decode cX10_read 73 = .ok (.iload_n 1, 1) := by decide +kernel
theorem dX10_read_74 : decode cX10_read 74 = .ok (.iaload, 1) := by decide +kernel
theorem dX10_read_75 : decode cX10_read 75 = .ok (.bipush (-4), 2) := by decide +kernel
theorem dX10_read_77 : decode cX10_read 77 = .ok (.if_icmp .ne 7, 3) := by decide +kernel
theorem dX10_read_80 : decode cX10_read 80 = .ok (.iconst 1, 1) := by decide +kernel
theorem dX10_read_81 : decode cX10_read 81 = .ok (.goto 44, 3) := by decide +kernel
theorem dX10_read_84 : decode cX10_read 84 = .ok (.aload_n 0, 1) := by decide +kernel
theorem dX10_read_85 : decode cX10_read 85 = .ok (.getfield 38, 3) := by decide +kernel
theorem dX10_read_88 : decode cX10_read 88 = .ok (.iload_n 1, 1) := by decide +kernel
theorem dX10_read_89 : decode cX10_read 89 = .ok (.iaload, 1) := by decide +kernel
theorem dX10_read_90 : decode cX10_read 90 = .ok (.iload_n 2, 1) := by decide +kernel
theorem dX10_read_91 : decode cX10_read 91 = .ok (.if_icmp .eq 7, 3) := by decide +kernel
theorem dX10_read_94 : decode cX10_read 94 = .ok (.iconst 3, 1) := by decide +kernel
theorem dX10_read_95 : decode cX10_read 95 = .ok (.goto 30, 3) := by decide +kernel
theorem dX10_read_98 : decode cX10_read 98 = .ok (.iload_n 3, 1) := by decide +kernel
theorem dX10_read_99 : decode cX10_read 99 = .ok (.i2l, 1) := by decide +kernel
theorem dX10_read_100 : decode cX10_read 100 = .ok (.iload 7, 2) := by decide +kernel
theorem dX10_read_102 : decode cX10_read 102 = .ok (.i2l, 1) := by decide +kernel
theorem dX10_read_103 : decode cX10_read 103 = .ok (.ladd, 1) := by decide +kernel
theorem dX10_read_104 : decode cX10_read 104 = .ok (.lconst 0, 1) := by decide +kernel
theorem dX10_read_105 : decode cX10_read 105 = .ok (.aload_n 0, 1) := by decide +kernel
theorem dX10_read_106 : decode cX10_read 106 = .ok (.getfield 41, 3) := by decide +kernel
theorem dX10_read_109 : decode cX10_read 109 = .ok (.iload_n 1, 1) := by decide +kernel
theorem dX10_read_110 : decode cX10_read 110 = .ok (.iaload, 1) := by decide +kernel
theorem dX10_read_111 : decode cX10_read 111 = .ok (.iconst 1, 1) := by decide +kernel
theorem dX10_read_112 : decode cX10_read 112 = .ok (.isub, 1) := by decide +kernel
theorem dX10_read_113 : decode cX10_read 113 = .ok (.i2l, 1) := by decide +kernel
theorem dX10_read_114 : decode cX10_read 114 = .ok (.invokestatic 49, 3) := by decide +kernel
theorem dX10_read_117 : decode cX10_read 117 = .ok (.ifCond .ne 7, 3) := by decide +kernel
theorem dX10_read_120 : decode cX10_read 120 = .ok (.iconst 2, 1) := by decide +kernel
theorem dX10_read_121 : decode cX10_read 121 = .ok (.goto 4, 3) := by decide +kernel
theorem dX10_read_124 : decode cX10_read 124 = .ok (.iconst 0, 1) := by decide +kernel
theorem dX10_read_125 : decode cX10_read 125 = .ok (.istore 5, 2) := by decide +kernel
theorem dX10_read_127 : decode cX10_read 127 = .ok (.iload 5, 2) := by decide +kernel
theorem dX10_read_129 : decode cX10_read 129 = .ok (.ifCond .ne 61, 3) := by decide +kernel
theorem dX10_read_132 : decode cX10_read 132 = .ok (.iload 7, 2) := by decide +kernel
theorem dX10_read_134 : decode cX10_read 134 = .ok (.iconst 2, 1) := by decide +kernel
theorem dX10_read_135 : decode cX10_read 135 = .ok (.irem, 1) := by decide +kernel
theorem dX10_read_136 : decode cX10_read 136 = .ok (.iconst 1, 1) := by decide +kernel
theorem dX10_read_137 : decode cX10_read 137 = .ok (.if_icmp .ne 53, 3) := by decide +kernel
theorem dX10_read_140 : decode cX10_read 140 = .ok (.bipush 40, 2) := by decide +kernel
theorem dX10_read_142 : decode cX10_read 142 = .ok (.iload_n 1, 1) := by decide +kernel
theorem dX10_read_143 : decode cX10_read 143 = .ok (.imul, 1) := by decide +kernel
theorem dX10_read_144 : decode cX10_read 144 = .ok (.iload_n 3, 1) := by decide +kernel
theorem dX10_read_145 : decode cX10_read 145 = .ok (.iadd, 1) := by decide +kernel
theorem dX10_read_146 : decode cX10_read 146 = .ok (.iload 7, 2) := by decide +kernel
theorem dX10_read_148 : decode cX10_read 148 = .ok (.iadd, 1) := by decide +kernel
theorem dX10_read_149 : decode cX10_read 149 = .ok (.istore 8, 2) := by decide +kernel
theorem dX10_read_151 : decode cX10_read 151 = .ok (.aload_n 0, 1) := by decide +kernel
theorem dX10_read_152 : decode cX10_read 152 = .ok (.aload_n 0, 1) := by decide +kernel
theorem dX10_read_153 : decode cX10_read 153 = .ok (.getfield 44, 3) := by decide +kernel
theorem dX10_read_156 : decode cX10_read 156 = .ok (.iload 8, 2) := by decide +kernel
theorem dX10_read_158 : decode cX10_read 158 = .ok (.iconst 1, 1) := by decide +kernel
theorem dX10_read_159 : decode cX10_read 159 = .ok (.isub, 1) := by decide +kernel
theorem dX10_read_160 : decode cX10_read 160 = .ok (.iaload, 1) := by decide +kernel
theorem dX10_read_161 : decode cX10_read 161 = .ok (.aload_n 0, 1) := by decide +kernel
theorem dX10_read_162 : decode cX10_read 162 = .ok (.getfield 44, 3) := by decide +kernel
theorem dX10_read_165 : decode cX10_read 165 = .ok (.iload 8, 2) := by decide +kernel
theorem dX10_read_167 : decode cX10_read 167 = .ok (.iaload, 1) := by decide +kernel
theorem dX10_read_168 : decode cX10_read 168 = .ok (.invokevirtual 206, 3) := by decide +kernel
theorem dX10_read_171 : decode cX10_read 171 = .ok (.ifCond .ge 16, 3) := by decide +kernel
theorem dX10_read_174 : decode cX10_read 174 = .ok (.aload_n 0, 1) := by decide +kernel
theorem dX10_read_175 : decode cX10_read 175 = .ok (.bipush 123, 2) := by decide +kernel
theorem dX10_read_177 : decode cX10_read 177 = .ok (.iconst 0, 1) := by decide +kernel
theorem dX10_read_178 : decode cX10_read 178 = .ok (.invokevirtual 218, 3) := by decide +kernel
theorem dX10_read_181 : decode cX10_read 181 = .ok (.bipush (-20), 2) := by decide +kernel
theorem dX10_read_183 : decode cX10_read 183 = .ok (.iload 6, 2) := by decide +kernel
theorem dX10_read_185 : decode cX10_read 185 = .ok (.isub, 1) := by decide +kernel
theorem dX10_read_186 : decode cX10_read 186 = .ok (.ireturn, 1) := by decide +kernel
theorem dX10_read_187 : decode cX10_read 187 = .ok (.iinc 6 1, 3) := by decide +kernel
theorem dX10_read_190 : decode cX10_read 190 = .ok (.iinc 7 1, 3) := by decide +kernel
theorem dX10_read_193 : decode cX10_read 193 = .ok (.goto (-138), 3) := by decide +kernel
theorem dX10_read_196 : decode cX10_read 196 = .ok (.aload_n 0, 1) := by decide +kernel
theorem dX10_read_197 : decode cX10_read 197 = .ok (.iload 5, 2) := by decide +kernel
theorem dX10_read_199 : decode cX10_read 199 = .ok (.putfield 249, 3) := by decide +kernel
theorem dX10_read_202 : decode cX10_read 202 = .ok (.iload 6, 2) := by decide +kernel
theorem dX10_read_204 : decode cX10_read 204 = .ok (.ireturn, 1) := by decide +kernel
theorem dX10_torn_0 : decode cX10_torn 0 = .ok (.aload_n 0, 1) := by decide +kernel
theorem dX10_torn_1 : decode cX10_torn 1 = .ok (.getfield 249, 3) := by decide +kernel
theorem dX10_torn_4 : decode cX10_torn 4 = .ok (.ireturn, 1) := by decide +kernel
theorem dX10_count_0 : decode cX10_count 0 = .ok (.iconst 0, 1) := by decide +kernel
theorem dX10_count_1 : decode cX10_count 1 = .ok (.istore_n 2, 1) := by decide +kernel
theorem dX10_count_2 : decode cX10_count 2 = .ok (.iconst 0, 1) := by decide +kernel
theorem dX10_count_3 : decode cX10_count 3 = .ok (.istore_n 3, 1) := by decide +kernel
theorem dX10_count_4 : decode cX10_count 4 = .ok (.iconst 0, 1) := by decide +kernel
theorem dX10_count_5 : decode cX10_count 5 = .ok (.istore 4, 2) := by decide +kernel
theorem dX10_count_7 : decode cX10_count 7 = .ok (.iload 4, 2) := by decide +kernel
theorem dX10_count_9 : decode cX10_count 9 = .ok (.aload_n 0, 1) := by decide +kernel
theorem dX10_count_10 : decode cX10_count 10 = .ok (.getfield 7, 3) := by decide +kernel
theorem dX10_count_13 : decode cX10_count 13 = .ok (.bipush 38, 2) := by decide +kernel
theorem dX10_count_15 : decode cX10_count 15 = .ok (.iaload, 1) := by decide +kernel
theorem dX10_count_16 : decode cX10_count 16 = .ok (.if_icmp .ge 30, 3) := by decide +kernel
theorem dX10_count_19 : decode cX10_count 19 = .ok (.iload_n 2, 1) := by decide +kernel
theorem dX10_count_20 : decode cX10_count 20 = .ok (.aload_n 0, 1) := by decide +kernel
theorem dX10_count_21 : decode cX10_count 21 = .ok (.getfield 7, 3) := by decide +kernel
theorem dX10_count_24 : decode cX10_count 24 = .ok (.bipush 7, 2) := by decide +kernel
theorem dX10_count_26 : decode cX10_count 26 = .ok (.iload 4, 2) := by decide +kernel
theorem dX10_count_28 : decode cX10_count 28 = .ok (.iadd, 1) := by decide +kernel
theorem dX10_count_29 : decode cX10_count 29 = .ok (.iaload, 1) := by decide +kernel
theorem dX10_count_30 : decode cX10_count 30 = .ok (.ifCond .ne 7, 3) := by decide +kernel
theorem dX10_count_33 : decode cX10_count 33 = .ok (.iconst 1, 1) := by decide +kernel
theorem dX10_count_34 : decode cX10_count 34 = .ok (.goto 4, 3) := by decide +kernel
theorem dX10_count_37 : decode cX10_count 37 = .ok (.iconst 0, 1) := by decide +kernel
theorem dX10_count_38 : decode cX10_count 38 = .ok (.iadd, 1) := by decide +kernel
theorem dX10_count_39 : decode cX10_count 39 = .ok (.istore_n 2, 1) := by decide +kernel
theorem dX10_count_40 : decode cX10_count 40 = .ok (.iinc 4 1, 3) := by decide +kernel
theorem dX10_count_43 : decode cX10_count 43 = .ok (.goto (-36), 3) := by decide +kernel
theorem dX10_count_46 : decode cX10_count 46 = .ok (.iconst 0, 1) := by decide +kernel
theorem dX10_count_47 : decode cX10_count 47 = .ok (.istore 4, 2) := by decide +kernel
theorem dX10_count_49 : decode cX10_count 49 = .ok (.iload 4, 2) := by decide +kernel
theorem dX10_count_51 : decode cX10_count 51 = .ok (.aload_n 0, 1) := by decide +kernel
theorem dX10_count_52 : decode cX10_count 52 = .ok (.getfield 129, 3) := by decide +kernel
theorem dX10_count_55 : decode cX10_count 55 = .ok (.if_icmp .ge 22, 3) := by decide +kernel
theorem dX10_count_58 : decode cX10_count 58 = .ok (.iload_n 3, 1) := by decide +kernel
theorem dX10_count_59 : decode cX10_count 59 = .ok (.aload_n 0, 1) := by decide +kernel
theorem dX10_count_60 : decode cX10_count 60 = .ok (.getfield 7, 3) := by decide +kernel
theorem dX10_count_63 : decode cX10_count 63 = .ok (.bipush 22, 2) := by decide +kernel
theorem dX10_count_65 : decode cX10_count 65 = .ok (.iload 4, 2) := by decide +kernel
theorem dX10_count_67 : decode cX10_count 67 = .ok (.iadd, 1) := by decide +kernel
theorem dX10_count_68 : decode cX10_count 68 = .ok (.iaload, 1) := by decide +kernel
theorem dX10_count_69 : decode cX10_count 69 = .ok (.iadd, 1) := by decide +kernel
theorem dX10_count_70 : decode cX10_count 70 = .ok (.istore_n 3, 1) := by decide +kernel
theorem dX10_count_71 : decode cX10_count 71 = .ok (.iinc 4 1, 3) := by decide +kernel
theorem dX10_count_74 : decode cX10_count 74 = .ok (.goto (-25), 3) := by decide +kernel
theorem dX10_count_77 : decode cX10_count 77 = .ok (.iload_n 1, 1) := by decide +kernel
theorem dX10_count_78 : decode cX10_count 78 = .ok (.tableswitch 105 0 5 #[38, 43, 73, 78, 101, 103], 38) := by decide +kernel
theorem dX10_count_116 : decode cX10_count 116 = .ok (.aload_n 0, 1) := by decide +kernel
theorem dX10_count_117 : decode cX10_count 117 = .ok (.getfield 132, 3) := by decide +kernel
theorem dX10_count_120 : decode cX10_count 120 = .ok (.ireturn, 1) := by decide +kernel
theorem dX10_count_121 : decode cX10_count 121 = .ok (.aload_n 0, 1) := by decide +kernel
theorem dX10_count_122 : decode cX10_count 122 = .ok (.getfield 34, 3) := by decide +kernel
theorem dX10_count_125 : decode cX10_count 125 = .ok (.iconst 0, 1) := by decide +kernel
theorem dX10_count_126 : decode cX10_count 126 = .ok (.baload, 1) := by decide +kernel
theorem dX10_count_127 : decode cX10_count 127 = .ok (.ifCond .eq 7, 3) := by decide +kernel
theorem dX10_count_130 : decode cX10_count 130 = .ok (.iconst 1, 1) := by decide +kernel
theorem dX10_count_131 : decode cX10_count 131 = .ok (.goto 4, 3) := by decide +kernel
theorem dX10_count_134 : decode cX10_count 134 = .ok (.iconst 0, 1) := by decide +kernel
theorem dX10_count_135 : decode cX10_count 135 = .ok (.aload_n 0, 1) := by decide +kernel
theorem dX10_count_136 : decode cX10_count 136 = .ok (.getfield 34, 3) := by decide +kernel
theorem dX10_count_139 : decode cX10_count 139 = .ok (.iconst 1, 1) := by decide +kernel
theorem dX10_count_140 : decode cX10_count 140 = .ok (.baload, 1) := by decide +kernel
theorem dX10_count_141 : decode cX10_count 141 = .ok (.ifCond .eq 7, 3) := by decide +kernel
theorem dX10_count_144 : decode cX10_count 144 = .ok (.iconst 1, 1) := by decide +kernel
theorem dX10_count_145 : decode cX10_count 145 = .ok (.goto 4, 3) := by decide +kernel
theorem dX10_count_148 : decode cX10_count 148 = .ok (.iconst 0, 1) := by decide +kernel
theorem dX10_count_149 : decode cX10_count 149 = .ok (.iadd, 1) := by decide +kernel
theorem dX10_count_150 : decode cX10_count 150 = .ok (.ireturn, 1) := by decide +kernel
theorem dX10_count_151 : decode cX10_count 151 = .ok (.aload_n 0, 1) := by decide +kernel
theorem dX10_count_152 : decode cX10_count 152 = .ok (.getfield 53, 3) := by decide +kernel
theorem dX10_count_155 : decode cX10_count 155 = .ok (.ireturn, 1) := by decide +kernel
theorem dX10_count_156 : decode cX10_count 156 = .ok (.aload_n 0, 1) := by decide +kernel
theorem dX10_count_157 : decode cX10_count 157 = .ok (.getfield 38, 3) := by decide +kernel
theorem dX10_count_160 : decode cX10_count 160 = .ok (.iconst 0, 1) := by decide +kernel
theorem dX10_count_161 : decode cX10_count 161 = .ok (.iaload, 1) := by decide +kernel
theorem dX10_count_162 : decode cX10_count 162 = .ok (.bipush (-4), 2) := by decide +kernel
theorem dX10_count_164 : decode cX10_count 164 = .ok (.if_icmp .ne 8, 3) := by decide +kernel
theorem dX10_count_167 : decode cX10_count 167 = .ok (.bipush (-4), 2) := by decide +kernel
theorem dX10_count_169 : decode cX10_count 169 = .ok (.goto 9, 3) := by decide +kernel
theorem dX10_count_172 : decode cX10_count 172 = .ok (.aload_n 0, 1) := by decide +kernel
theorem dX10_count_173 : decode cX10_count 173 = .ok (.getfield 41, 3) := by decide +kernel
theorem dX10_count_176 : decode cX10_count 176 = .ok (.iconst 0, 1) := by decide +kernel
theorem dX10_count_177 : decode cX10_count 177 = .ok (.iaload, 1) := by decide +kernel
theorem dX10_count_178 : decode cX10_count 178 = .ok (.ireturn, 1) := by decide +kernel
theorem dX10_count_179 : decode cX10_count 179 = .ok (.iload_n 2, 1) := by decide +kernel
theorem dX10_count_180 : decode cX10_count 180 = .ok (.ireturn, 1) := by decide +kernel
theorem dX10_count_181 : decode cX10_count 181 = .ok (.iload_n 3, 1) := by decide +kernel
theorem dX10_count_182 : decode cX10_count 182 = .ok (.ireturn, 1) := by decide +kernel
theorem dX10_count_183 : decode cX10_count 183 = .ok (.iconst (-1), 1) := by decide +kernel
theorem dX10_count_184 : decode cX10_count 184 = .ok (.ireturn, 1) := by decide +kernel
