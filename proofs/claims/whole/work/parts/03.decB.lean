theorem dX12_init_0 : decode cX12_init 0 = .ok (.aload_n 0, 1) := by decide +kernel
theorem dX12_init_1 : decode cX12_init 1 = .ok (.invokespecial 1, 3) := by decide +kernel
theorem dX12_init_4 : decode cX12_init 4 = .ok (.aload_n 0, 1) := by decide +kernel
theorem dX12_init_5 : decode cX12_init 5 = .ok (.sipush 1600, 3) := by decide +kernel
theorem dX12_init_8 : decode cX12_init 8 = .ok (.newarray .int, 2) := by decide +kernel
theorem dX12_init_10 : decode cX12_init 10 = .ok (.putfield 7, 3) := by decide +kernel
theorem dX12_init_13 : decode cX12_init 13 = .ok (.aload_n 0, 1) := by decide +kernel
theorem dX12_init_14 : decode cX12_init 14 = .ok (.iconst (-1), 1) := by decide +kernel
theorem dX12_init_15 : decode cX12_init 15 = .ok (.putfield 13, 3) := by decide +kernel
theorem dX12_init_18 : decode cX12_init 18 = .ok (.aload_n 0, 1) := by decide +kernel
theorem dX12_init_19 : decode cX12_init 19 = .ok (.bipush 6, 2) := by decide +kernel
theorem dX12_init_21 : decode cX12_init 21 = .ok (.newarray .int, 2) := by decide +kernel
theorem dX12_init_23 : decode cX12_init 23 = .ok (.putfield 17, 3) := by decide +kernel
theorem dX12_init_26 : decode cX12_init 26 = .ok (.aload_n 0, 1) := by decide +kernel
theorem dX12_init_27 : decode cX12_init 27 = .ok (.bipush 35, 2) := by decide +kernel
theorem dX12_init_29 : decode cX12_init 29 = .ok (.newarray .char, 2) := by decide +kernel
theorem dX12_init_31 : decode cX12_init 31 = .ok (.dup, 1) := by decide +kernel
theorem dX12_init_32 : decode cX12_init 32 = .ok (.iconst 0, 1) := by decide +kernel
theorem dX12_init_33 : decode cX12_init 33 = .ok (.bipush 112, 2) := by decide +kernel
theorem dX12_init_35 : decode cX12_init 35 = .ok (.castore, 1) := by decide +kernel
theorem dX12_init_36 : decode cX12_init 36 = .ok (.dup, 1) := by decide +kernel
theorem dX12_init_37 : decode cX12_init 37 = .ok (.iconst 1, 1) := by decide +kernel
theorem dX12_init_38 : decode cX12_init 38 = .ok (.bipush 108, 2) := by decide +kernel
theorem dX12_init_40 : decode cX12_init 40 = .ok (.castore, 1) := by decide +kernel
theorem dX12_init_41 : decode cX12_init 41 = .ok (.dup, 1) := by decide +kernel
theorem dX12_init_42 : decode cX12_init 42 = .ok (.iconst 2, 1) := by decide +kernel
theorem dX12_init_43 : decode cX12_init 43 = .ok (.bipush 97, 2) := by decide +kernel
theorem dX12_init_45 : decode cX12_init 45 = .ok (.castore, 1) := by decide +kernel
theorem dX12_init_46 : decode cX12_init 46 = .ok (.dup, 1) := by decide +kernel
theorem dX12_init_47 : decode cX12_init 47 = .ok (.iconst 3, 1) := by decide +kernel
theorem dX12_init_48 : decode cX12_init 48 = .ok (.bipush 99, 2) := by decide +kernel
theorem dX12_init_50 : decode cX12_init 50 = .ok (.castore, 1) := by decide +kernel
theorem dX12_init_51 : decode cX12_init 51 = .ok (.dup, 1) := by decide +kernel
theorem dX12_init_52 : decode cX12_init 52 = .ok (.iconst 4, 1) := by decide +kernel
theorem dX12_init_53 : decode cX12_init 53 = .ok (.bipush 101, 2) := by decide +kernel
theorem dX12_init_55 : decode cX12_init 55 = .ok (.castore, 1) := by decide +kernel
theorem dX12_init_56 : decode cX12_init 56 = .ok (.dup, 1) := by decide +kernel
theorem dX12_init_57 : decode cX12_init 57 = .ok (.iconst 5, 1) := by decide +kernel
theorem dX12_init_58 : decode cX12_init 58 = .ok (.bipush 115, 2) := by decide +kernel
theorem dX12_init_60 : decode cX12_init 60 = .ok (.castore, 1) := by decide +kernel
theorem dX12_init_61 : decode cX12_init 61 = .ok (.dup, 1) := by decide +kernel
theorem dX12_init_62 : decode cX12_init 62 = .ok (.bipush 6, 2) := by decide +kernel
theorem dX12_init_64 : decode cX12_init 64 = .ok (.bipush 32, 2) := by decide +kernel
theorem dX12_init_66 : decode cX12_init 66 = .ok (.castore, 1) := by decide +kernel
theorem dX12_init_67 : decode cX12_init 67 = .ok (.dup, 1) := by decide +kernel
theorem dX12_init_68 : decode cX12_init 68 = .ok (.bipush 7, 2) := by decide +kernel
theorem dX12_init_70 : decode cX12_init 70 = .ok (.bipush 114, 2) := by decide +kernel
theorem dX12_init_72 : decode cX12_init 72 = .ok (.castore, 1) := by decide +kernel
theorem dX12_init_73 : decode cX12_init 73 = .ok (.dup, 1) := by decide +kernel
theorem dX12_init_74 : decode cX12_init 74 = .ok (.bipush 8, 2) := by decide +kernel
theorem dX12_init_76 : decode cX12_init 76 = .ok (.bipush 101, 2) := by decide +kernel
theorem dX12_init_78 : decode cX12_init 78 = .ok (.castore, 1) := by decide +kernel
theorem dX12_init_79 : decode cX12_init 79 = .ok (.dup, 1) := by decide +kernel
theorem dX12_init_80 : decode cX12_init 80 = .ok (.bipush 9, 2) := by decide +kernel
theorem dX12_init_82 : decode cX12_init 82 = .ok (.bipush 97, 2) := by decide +kernel
theorem dX12_init_84 : decode cX12_init 84 = .ok (.castore, 1) := by decide +kernel
theorem dX12_init_85 : decode cX12_init 85 = .ok (.dup, 1) := by decide +kernel
theorem dX12_init_86 : decode cX12_init 86 = .ok (.bipush 10, 2) := by decide +kernel
theorem dX12_init_88 : decode cX12_init 88 = .ok (.bipush 99, 2) := by decide +kernel
theorem dX12_init_90 : decode cX12_init 90 = .ok (.castore, 1) := by decide +kernel
theorem dX12_init_91 : decode cX12_init 91 = .ok (.dup, 1) := by decide +kernel
theorem dX12_init_92 : decode cX12_init 92 = .ok (.bipush 11, 2) := by decide +kernel
theorem dX12_init_94 : decode cX12_init 94 = .ok (.bipush 104, 2) := by decide +kernel
theorem dX12_init_96 : decode cX12_init 96 = .ok (.castore, 1) := by decide +kernel
theorem dX12_init_97 : decode cX12_init 97 = .ok (.dup, 1) := by decide +kernel
theorem dX12_init_98 : decode cX12_init 98 = .ok (.bipush 12, 2) := by decide +kernel
theorem dX12_init_100 : decode cX12_init 100 = .ok (.bipush 32, 2) := by decide +kernel
theorem dX12_init_102 : decode cX12_init 102 = .ok (.castore, 1) := by decide +kernel
theorem dX12_init_103 : decode cX12_init 103 = .ok (.dup, 1) := by decide +kernel
theorem dX12_init_104 : decode cX12_init 104 = .ok (.bipush 13, 2) := by decide +kernel
theorem dX12_init_106 : decode cX12_init 106 = .ok (.bipush 116, 2) := by decide +kernel
theorem dX12_init_108 : decode cX12_init 108 = .ok (.castore, 1) := by decide +kernel
theorem dX12_init_109 : decode cX12_init 109 = .ok (.dup, 1) := by decide +kernel
theorem dX12_init_110 : decode cX12_init 110 = .ok (.bipush 14, 2) := by decide +kernel
theorem dX12_init_112 : decode cX12_init 112 = .ok (.bipush 111, 2) := by decide +kernel
theorem dX12_init_114 : decode cX12_init 114 = .ok (.castore, 1) := by decide +kernel
theorem dX12_init_115 : decode cX12_init 115 = .ok (.dup, 1) := by decide +kernel
theorem dX12_init_116 : decode cX12_init 116 = .ok (.bipush 15, 2) := by decide +kernel
theorem dX12_init_118 : decode cX12_init 118 = .ok (.bipush 32, 2) := by decide +kernel
theorem dX12_init_120 : decode cX12_init 120 = .ok (.castore, 1) := by decide +kernel
theorem dX12_init_121 : decode cX12_init 121 = .ok (.dup, 1) := by decide +kernel
theorem dX12_init_122 : decode cX12_init 122 = .ok (.bipush 16, 2) := by decide +kernel
theorem dX12_init_124 : decode cX12_init 124 = .ok (.bipush 108, 2) := by decide +kernel
theorem dX12_init_126 : decode cX12_init 126 = .ok (.castore, 1) := by decide +kernel
theorem dX12_init_127 : decode cX12_init 127 = .ok (.dup, 1) := by decide +kernel
theorem dX12_init_128 : decode cX12_init 128 = .ok (.bipush 17, 2) := by decide +kernel
theorem dX12_init_130 : decode cX12_init 130 = .ok (.bipush 111, 2) := by decide +kernel
theorem dX12_init_132 : decode cX12_init 132 = .ok (.castore, 1) := by decide +kernel
theorem dX12_init_133 : decode cX12_init 133 = .ok (.dup, 1) := by decide +kernel
theorem dX12_init_134 : decode cX12_init 134 = .ok (.bipush 18, 2) := by decide +kernel
theorem dX12_init_136 : decode cX12_init 136 = .ok (.bipush 110, 2) := by decide +kernel
theorem dX12_init_138 : decode cX12_init 138 = .ok (.castore, 1) := by decide +kernel
theorem dX12_init_139 : decode cX12_init 139 = .ok (.dup, 1) := by decide +kernel
theorem dX12_init_140 : decode cX12_init 140 = .ok (.bipush 19, 2) := by decide +kernel
theorem dX12_init_142 : decode cX12_init 142 = .ok (.bipush 103, 2) := by decide +kernel
theorem dX12_init_144 : decode cX12_init 144 = .ok (.castore, 1) := by decide +kernel
theorem dX12_init_145 : decode cX12_init 145 = .ok (.dup, 1) := by decide +kernel
theorem dX12_init_146 : decode cX12_init 146 = .ok (.bipush 20, 2) := by decide +kernel
theorem dX12_init_148 : decode cX12_init 148 = .ok (.bipush 32, 2) := by decide +kernel
theorem dX12_init_150 : decode cX12_init 150 = .ok (.castore, 1) := by decide +kernel
theorem dX12_init_151 : decode cX12_init 151 = .ok (.dup, 1) := by decide +kernel
theorem dX12_init_152 : decode cX12_init 152 = .ok (.bipush 21, 2) := by decide +kernel
theorem dX12_init_154 : decode cX12_init 154 = .ok (.bipush 121, 2) := by decide +kernel
theorem dX12_init_156 : decode cX12_init 156 = .ok (.castore, 1) := by decide +kernel
theorem dX12_init_157 : decode cX12_init 157 = .ok (.dup, 1) := by decide +kernel
theorem dX12_init_158 : decode cX12_init 158 = .ok (.bipush 22, 2) := by decide +kernel
theorem dX12_init_160 : decode cX12_init 160 = .ok (.bipush 105, 2) := by decide +kernel
theorem dX12_init_162 : decode cX12_init 162 = .ok (.castore, 1) := by decide +kernel
theorem dX12_init_163 : decode cX12_init 163 = .ok (.dup, 1) := by decide +kernel
theorem dX12_init_164 : decode cX12_init 164 = .ok (.bipush 23, 2) := by decide +kernel
theorem dX12_init_166 : decode cX12_init 166 = .ok (.bipush 101, 2) := by decide +kernel
theorem dX12_init_168 : decode cX12_init 168 = .ok (.castore, 1) := by decide +kernel
theorem dX12_init_169 : decode cX12_init 169 = .ok (.dup, 1) := by decide +kernel
theorem dX12_init_170 : decode cX12_init 170 = .ok (.bipush 24, 2) := by decide +kernel
theorem dX12_init_172 : decode cX12_init 172 = .ok (.bipush 108, 2) := by decide +kernel
theorem dX12_init_174 : decode cX12_init 174 = .ok (.castore, 1) := by decide +kernel
theorem dX12_init_175 : decode cX12_init 175 = .ok (.dup, 1) := by decide +kernel
theorem dX12_init_176 : decode cX12_init 176 = .ok (.bipush 25, 2) := by decide +kernel
theorem dX12_init_178 : decode cX12_init 178 = .ok (.bipush 100, 2) := by decide +kernel
theorem dX12_init_180 : decode cX12_init 180 = .ok (.castore, 1) := by decide +kernel
theorem dX12_init_181 : decode cX12_init 181 = .ok (.dup, 1) := by decide +kernel
theorem dX12_init_182 : decode cX12_init 182 = .ok (.bipush 26, 2) := by decide +kernel
theorem dX12_init_184 : decode cX12_init 184 = .ok (.bipush 115, 2) := by decide +kernel
theorem dX12_init_186 : decode cX12_init 186 = .ok (.castore, 1) := by decide +kernel
theorem dX12_init_187 : decode cX12_init 187 = .ok (.dup, 1) := by decide +kernel
theorem dX12_init_188 : decode cX12_init 188 = .ok (.bipush 27, 2) := by decide +kernel
theorem dX12_init_190 : decode cX12_init 190 = .ok (.bipush 32, 2) := by decide +kernel
theorem dX12_init_192 : decode cX12_init 192 = .ok (.castore, 1) := by decide +kernel
theorem dX12_init_193 : decode cX12_init 193 = .ok (.dup, 1) := by decide +kernel
theorem dX12_init_194 : decode cX12_init 194 = .ok (.bipush 28, 2) := by decide +kernel
theorem dX12_init_196 : decode cX12_init 196 = .ok (.bipush 99, 2) := by decide +kernel
theorem dX12_init_198 : decode cX12_init 198 = .ok (.castore, 1) := by decide +kernel
theorem dX12_init_199 : decode cX12_init 199 = .ok (.dup, 1) := by decide +kernel
theorem dX12_init_200 : decode cX12_init 200 = .ok (.bipush 29, 2) := by decide +kernel
theorem dX12_init_202 : decode cX12_init 202 = .ok (.bipush 97, 2) := by decide +kernel
theorem dX12_init_204 : decode cX12_init 204 = .ok (.castore, 1) := by decide +kernel
theorem dX12_init_205 : decode cX12_init 205 = .ok (.dup, 1) := by decide +kernel
theorem dX12_init_206 : decode cX12_init 206 = .ok (.bipush 30, 2) := by decide +kernel
theorem dX12_init_208 : decode cX12_init 208 = .ok (.bipush 108, 2) := by decide +kernel
theorem dX12_init_210 : decode cX12_init 210 = .ok (.castore, 1) := by decide +kernel
theorem dX12_init_211 : decode cX12_init 211 = .ok (.dup, 1) := by decide +kernel
theorem dX12_init_212 : decode cX12_init 212 = .ok (.bipush 31, 2) := by decide +kernel
theorem dX12_init_214 : decode cX12_init 214 = .ok (.bipush 108, 2) := by decide +kernel
theorem dX12_init_216 : decode cX12_init 216 = .ok (.castore, 1) := by decide +kernel
theorem dX12_init_217 : decode cX12_init 217 = .ok (.dup, 1) := by decide +kernel
theorem dX12_init_218 : decode cX12_init 218 = .ok (.bipush 32, 2) := by decide +kernel
theorem dX12_init_220 : decode cX12_init 220 = .ok (.bipush 101, 2) := by decide +kernel
theorem dX12_init_222 : decode cX12_init 222 = .ok (.castore, 1) := by decide +kernel
theorem dX12_init_223 : decode cX12_init 223 = .ok (.dup, 1) := by decide +kernel
theorem dX12_init_224 : decode cX12_init 224 = .ok (.bipush 33, 2) := by decide +kernel
theorem dX12_init_226 : decode cX12_init 226 = .ok (.bipush 100, 2) := by decide +kernel
theorem dX12_init_228 : decode cX12_init 228 = .ok (.castore, 1) := by decide +kernel
theorem dX12_init_229 : decode cX12_init 229 = .ok (.dup, 1) := by decide +kernel
theorem dX12_init_230 : decode cX12_init 230 = .ok (.bipush 34, 2) := by decide +kernel
theorem dX12_init_232 : decode cX12_init 232 = .ok (.bipush 32, 2) := by decide +kernel
theorem dX12_init_234 : decode cX12_init 234 = .ok (.castore, 1) := by decide +kernel
theorem dX12_init_235 : decode cX12_init 235 = .ok (.putfield 20, 3) := by decide +kernel
theorem dX12_init_238 : decode cX12_init 238 = .ok (.aload_n 0, 1) := by decide +kernel
theorem dX12_init_239 : decode cX12_init 239 = .ok (.sipush 183, 3) := by decide +kernel
theorem dX12_init_242 : decode cX12_init 242 = .ok (.newarray .int, 2) := by decide +kernel
theorem dX12_init_244 : decode cX12_init 244 = .ok (.putfield 24, 3) := by decide +kernel
theorem dX12_init_247 : decode cX12_init 247 = .ok (.aload_n 0, 1) := by decide +kernel
theorem dX12_init_248 : decode cX12_init 248 = .ok (.sipush 183, 3) := by decide +kernel
theorem dX12_init_251 : decode cX12_init 251 = .ok (.newarray .int, 2) := by decide +kernel
theorem dX12_init_253 : decode cX12_init 253 = .ok (.putfield 27, 3) := by decide +kernel
theorem dX12_init_256 : decode cX12_init 256 = .ok (.aload_n 0, 1) := by decide +kernel
theorem dX12_init_257 : decode cX12_init 257 = .ok (.bipush 20, 2) := by decide +kernel
theorem dX12_init_259 : decode cX12_init 259 = .ok (.newarray .int, 2) := by decide +kernel
theorem dX12_init_261 : decode cX12_init 261 = .ok (.putfield 30, 3) := by decide +kernel
theorem dX12_init_264 : decode cX12_init 264 = .ok (.aload_n 0, 1) := by decide +kernel
theorem dX12_init_265 : decode cX12_init 265 = .ok (.bipush 20, 2) := by decide +kernel
theorem dX12_init_267 : decode cX12_init 267 = .ok (.newarray .int, 2) := by decide +kernel
theorem dX12_init_269 : decode cX12_init 269 = .ok (.putfield 33, 3) := by decide +kernel
theorem dX12_init_272 : decode cX12_init 272 = .ok (.aload_n 0, 1) := by decide +kernel
theorem dX12_init_273 : decode cX12_init 273 = .ok (.bipush 20, 2) := by decide +kernel
theorem dX12_init_275 : decode cX12_init 275 = .ok (.newarray .int, 2) := by decide +kernel
theorem dX12_init_277 : decode cX12_init 277 = .ok (.putfield 36, 3) := by decide +kernel
theorem dX12_init_280 : decode cX12_init 280 = .ok (.aload_n 0, 1) := by decide +kernel
theorem dX12_init_281 : decode cX12_init 281 = .ok (.bipush 20, 2) := by decide +kernel
theorem dX12_init_283 : decode cX12_init 283 = .ok (.newarray .int, 2) := by decide +kernel
theorem dX12_init_285 : decode cX12_init 285 = .ok (.putfield 39, 3) := by decide +kernel
theorem dX12_init_288 : decode cX12_init 288 = .ok (.aload_n 0, 1) := by decide +kernel
theorem dX12_init_289 : decode cX12_init 289 = .ok (.bipush 20, 2) := by decide +kernel
theorem dX12_init_291 : decode cX12_init 291 = .ok (.newarray .int, 2) := by decide +kernel
theorem dX12_init_293 : decode cX12_init 293 = .ok (.putfield 42, 3) := by decide +kernel
theorem dX12_init_296 : decode cX12_init 296 = .ok (.aload_n 0, 1) := by decide +kernel
theorem dX12_init_297 : decode cX12_init 297 = .ok (.bipush 20, 2) := by decide +kernel
theorem dX12_init_299 : decode cX12_init 299 = .ok (.newarray .int, 2) := by decide +kernel
theorem dX12_init_301 : decode cX12_init 301 = .ok (.putfield 45, 3) := by decide +kernel
theorem dX12_init_304 : decode cX12_init 304 = .ok (.aload_n 0, 1) := by decide +kernel
theorem dX12_init_305 : decode cX12_init 305 = .ok (.bipush 30, 2) := by decide +kernel
theorem dX12_init_307 : decode cX12_init 307 = .ok (.newarray .int, 2) := by decide +kernel
theorem dX12_init_309 : decode cX12_init 309 = .ok (.putfield 48, 3) := by decide +kernel
theorem dX12_init_312 : decode cX12_init 312 = .ok (.aload_n 0, 1) := by decide +kernel
theorem dX12_init_313 : decode cX12_init 313 = .ok (.bipush 20, 2) := by decide +kernel
theorem dX12_init_315 : decode cX12_init 315 = .ok (.newarray .int, 2) := by decide +kernel
theorem dX12_init_317 : decode cX12_init 317 = .ok (.putfield 51, 3) := by decide +kernel
theorem dX12_init_320 : decode cX12_init 320 = .ok (.aload_n 0, 1) := by decide +kernel
theorem dX12_init_321 : decode cX12_init 321 = .ok (.bipush 20, 2) := by decide +kernel
theorem dX12_init_323 : decode cX12_init 323 = .ok (.newarray .int, 2) := by decide +kernel
theorem dX12_init_325 : decode cX12_init 325 = .ok (.putfield 54, 3) := by decide +kernel
theorem dX12_init_328 : decode cX12_init 328 = .ok (.aload_n 0, 1) := by decide +kernel
theorem dX12_init_329 : decode cX12_init 329 = .ok (.bipush 30, 2) := by decide +kernel
theorem dX12_init_331 : decode cX12_init 331 = .ok (.newarray .int, 2) := by decide +kernel
theorem dX12_init_333 : decode cX12_init 333 = .ok (.putfield 57, 3) := by decide +kernel
theorem dX12_init_336 : decode cX12_init 336 = .ok (.aload_n 0, 1) := by decide +kernel
theorem dX12_init_337 : decode cX12_init 337 = .ok (.bipush 30, 2) := by decide +kernel
theorem dX12_init_339 : decode cX12_init 339 = .ok (.newarray .int, 2) := by decide +kernel
theorem dX12_init_341 : decode cX12_init 341 = .ok (.putfield 60, 3) := by decide +kernel
theorem dX12_init_344 : decode cX12_init 344 = .ok (.aload_n 0, 1) := by decide +kernel
theorem dX12_init_345 : decode cX12_init 345 = .ok (.bipush 90, 2) := by decide +kernel
theorem dX12_init_347 : decode cX12_init 347 = .ok (.newarray .int, 2) := by decide +kernel
theorem dX12_init_349 : decode cX12_init 349 = .ok (.putfield 63, 3) := by decide +kernel
theorem dX12_init_352 : decode cX12_init 352 = .ok (.aload_n 0, 1) := by decide +kernel
theorem dX12_init_353 : decode cX12_init 353 = .ok (.bipush 90, 2) := by decide +kernel
theorem dX12_init_355 : decode cX12_init 355 = .ok (.newarray .int, 2) := by decide +kernel
theorem dX12_init_357 : decode cX12_init 357 = .ok (.putfield 66, 3) := by decide +kernel
theorem dX12_init_360 : decode cX12_init 360 = .ok (.aload_n 0, 1) := by decide +kernel
theorem dX12_init_361 : decode cX12_init 361 = .ok (.bipush 90, 2) := by decide +kernel
theorem dX12_init_363 : decode cX12_init 363 = .ok (.newarray .int, 2) := by decide +kernel
theorem dX12_init_365 : decode cX12_init 365 = .ok (.putfield 69, 3) := by decide +kernel
theorem dX12_init_368 : decode cX12_init 368 = .ok (.aload_n 0, 1) := by decide +kernel
theorem dX12_init_369 : decode cX12_init 369 = .ok (.bipush 90, 2) := by decide +kernel
theorem dX12_init_371 : decode cX12_init 371 = .ok (.newarray .int, 2) := by decide +kernel
theorem dX12_init_373 : decode cX12_init 373 = .ok (.putfield 72, 3) := by decide +kernel
theorem dX12_init_376 : decode cX12_init 376 = .ok (.aload_n 0, 1) := by decide +kernel
theorem dX12_init_377 : decode cX12_init 377 = .ok (.bipush 20, 2) := by decide +kernel
theorem dX12_init_379 : decode cX12_init 379 = .ok (.newarray .long, 2) := by decide +kernel
theorem dX12_init_381 : decode cX12_init 381 = .ok (.putfield 75, 3) := by decide +kernel
theorem dX12_init_384 : decode cX12_init 384 = .ok (.aload_n 0, 1) := by decide +kernel
theorem dX12_init_385 : decode cX12_init 385 = .ok (.bipush 20, 2) := by decide +kernel
theorem dX12_init_387 : decode cX12_init 387 = .ok (.newarray .int, 2) := by decide +kernel
theorem dX12_init_389 : decode cX12_init 389 = .ok (.putfield 79, 3) := by decide +kernel
theorem dX12_init_392 : decode cX12_init 392 = .ok (.aload_n 0, 1) := by decide +kernel
theorem dX12_init_393 : decode cX12_init 393 = .ok (.bipush 30, 2) := by decide +kernel
theorem dX12_init_395 : decode cX12_init 395 = .ok (.newarray .int, 2) := by decide +kernel
theorem dX12_init_397 : decode cX12_init 397 = .ok (.putfield 82, 3) := by decide +kernel
theorem dX12_init_400 : decode cX12_init 400 = .ok (.aload_n 0, 1) := by decide +kernel
theorem dX12_init_401 : decode cX12_init 401 = .ok (.sipush 183, 3) := by decide +kernel
theorem dX12_init_404 : decode cX12_init 404 = .ok (.newarray .int, 2) := by decide +kernel
theorem dX12_init_406 : decode cX12_init 406 = .ok (.putfield 85, 3) := by decide +kernel
theorem dX12_init_409 : decode cX12_init 409 = .ok (.aload_n 0, 1) := by decide +kernel
theorem dX12_init_410 : decode cX12_init 410 = .ok (.bipush 30, 2) := by decide +kernel
theorem dX12_init_412 : decode cX12_init 412 = .ok (.newarray .int, 2) := by decide +kernel
theorem dX12_init_414 : decode cX12_init 414 = .ok (.putfield 88, 3) := by decide +kernel
theorem dX12_init_417 : decode cX12_init 417 = .ok (.aload_n 0, 1) := by decide +kernel
theorem dX12_init_418 : decode cX12_init 418 = .ok (.bipush 30, 2) := by decide +kernel
theorem dX12_init_420 : decode cX12_init 420 = .ok (.newarray .boolean, 2) := by decide +kernel
theorem dX12_init_422 : decode cX12_init 422 = .ok (.putfield 91, 3) := by decide +kernel
theorem dX12_init_425 : decode cX12_init 425 = .ok (.aload_n 0, 1) := by decide +kernel
theorem dX12_init_426 : decode cX12_init 426 = .ok (.bipush 20, 2) := by decide +kernel
theorem dX12_init_428 : decode cX12_init 428 = .ok (.newarray .int, 2) := by decide +kernel
theorem dX12_init_430 : decode cX12_init 430 = .ok (.putfield 95, 3) := by decide +kernel
theorem dX12_init_433 : decode cX12_init 433 = .ok (.aload_n 0, 1) := by decide +kernel
theorem dX12_init_434 : decode cX12_init 434 = .ok (.bipush 24, 2) := by decide +kernel
theorem dX12_init_436 : decode cX12_init 436 = .ok (.newarray .int, 2) := by decide +kernel
theorem dX12_init_438 : decode cX12_init 438 = .ok (.putfield 98, 3) := by decide +kernel
theorem dX12_init_441 : decode cX12_init 441 = .ok (.aload_n 0, 1) := by decide +kernel
theorem dX12_init_442 : decode cX12_init 442 = .ok (.sipush 3660, 3) := by decide +kernel
theorem dX12_init_445 : decode cX12_init 445 = .ok (.newarray .int, 2) := by decide +kernel
theorem dX12_init_447 : decode cX12_init 447 = .ok (.putfield 101, 3) := by decide +kernel
theorem dX12_init_450 : decode cX12_init 450 = .ok (.aload_n 0, 1) := by decide +kernel
theorem dX12_init_451 : decode cX12_init 451 = .ok (.bipush 120, 2) := by decide +kernel
theorem dX12_init_453 : decode cX12_init 453 = .ok (.newarray .int, 2) := by decide +kernel
theorem dX12_init_455 : decode cX12_init 455 = .ok (.putfield 104, 3) := by decide +kernel
theorem dX12_init_458 : decode cX12_init 458 = .ok (.aload_n 0, 1) := by decide +kernel
theorem dX12_init_459 : decode cX12_init 459 = .ok (.lconst 1, 1) := by decide +kernel
theorem dX12_init_460 : decode cX12_init 460 = .ok (.putfield 107, 3) := by decide +kernel
theorem dX12_init_463 : decode cX12_init 463 = .ok (.aload_n 0, 1) := by decide +kernel
theorem dX12_init_464 : decode cX12_init 464 = .ok (.sipush 153, 3) := by decide +kernel
theorem dX12_init_467 : decode cX12_init 467 = .ok (.newarray .int, 2) := by decide +kernel
theorem dX12_init_469 : decode cX12_init 469 = .ok (.putfield 111, 3) := by decide +kernel
theorem dX12_init_472 : decode cX12_init 472 = .ok (.return_, 1) := by decide +kernel
theorem dX12_isIn_0 : decode cX12_isIn 0 = .ok (.lload_n 0, 1) := by decide +kernel
theorem dX12_isIn_1 : decode cX12_isIn 1 = .ok (.lload_n 2, 1) := by decide +kernel
theorem dX12_isIn_2 : decode cX12_isIn 2 = .ok (.lcmp, 1) := by decide +kernel
theorem dX12_isIn_3 : decode cX12_isIn 3 = .ok (.ifCond .lt 14, 3) := by decide +kernel
theorem dX12_isIn_6 : decode cX12_isIn 6 = .ok (.lload_n 0, 1) := by decide +kernel
theorem dX12_isIn_7 : decode cX12_isIn 7 = .ok (.lload 4, 2) := by decide +kernel
theorem dX12_isIn_9 : decode cX12_isIn 9 = .ok (.lcmp, 1) := by decide +kernel
theorem dX12_isIn_10 : decode cX12_isIn 10 = .ok (.ifCond .gt 7, 3) := by decide +kernel
theorem dX12_isIn_13 : decode cX12_isIn 13 = .ok (.iconst 1, 1) := by decide +kernel
theorem dX12_isIn_14 : decode cX12_isIn 14 = .ok (.goto 4, 3) := by decide +kernel
theorem dX12_isIn_17 : decode cX12_isIn 17 = .ok (.iconst 0, 1) := by decide +kernel
theorem dX12_isIn_18 : decode cX12_isIn 18 = .ok (.ireturn, 1) := by decide +kernel
theorem dX12_flag_0 : decode cX12_flag 0 = .ok (.iload_n 0, 1) := by decide +kernel
theorem dX12_flag_1 : decode cX12_flag 1 = .ok (.ifCond .eq 7, 3) := by decide +kernel
theorem dX12_flag_4 : decode cX12_flag 4 = .ok (.iconst 1, 1) := by decide +kernel
theorem dX12_flag_5 : decode cX12_flag 5 = .ok (.goto 4, 3) := by decide +kernel
theorem dX12_flag_8 : decode cX12_flag 8 = .ok (.iconst 0, 1) := by decide +kernel
theorem dX12_flag_9 : decode cX12_flag 9 = .ok (.ireturn, 1) := by decide +kernel
theorem dX12_isOf_0 : decode cX12_isOf 0 = .ok (.iload_n 0, 1) := by decide +kernel
theorem dX12_isOf_1 : decode cX12_isOf 1 = .ok (.iload_n 1, 1) := by decide +kernel
theorem dX12_isOf_2 : decode cX12_isOf 2 = .ok (.ishr, 1) := by decide +kernel
theorem dX12_isOf_3 : decode cX12_isOf 3 = .ok (.iconst 1, 1) := by decide +kernel
theorem dX12_isOf_4 : decode cX12_isOf 4 = .ok (.iand, 1) := by decide +kernel
theorem dX12_isOf_5 : decode cX12_isOf 5 = .ok (.iconst 1, 1) := by decide +kernel
theorem dX12_isOf_6 : decode cX12_isOf 6 = .ok (.if_icmp .ne 7, 3) := by decide +kernel
theorem dX12_isOf_9 : decode cX12_isOf 9 = .ok (.iconst 1, 1) := by decide +kernel
theorem dX12_isOf_10 : decode cX12_isOf 10 = .ok (.goto 4, 3) := by decide +kernel
theorem dX12_isOf_13 : decode cX12_isOf 13 = .ok (.iconst 0, 1) := by decide +kernel
theorem dX12_isOf_14 : decode cX12_isOf 14 = .ok (.ireturn, 1) := by decide +kernel
theorem dX12_count_0 : decode cX12_count 0 = .ok (.iconst 0, 1) := by decide +kernel
theorem dX12_count_1 : decode cX12_count 1 = .ok (.istore_n 1, 1) := by decide +kernel
theorem dX12_count_2 : decode cX12_count 2 = .ok (.iconst 0, 1) := by decide +kernel
theorem dX12_count_3 : decode cX12_count 3 = .ok (.istore_n 2, 1) := by decide +kernel
theorem dX12_count_4 : decode cX12_count 4 = .ok (.iload_n 2, 1) := by decide +kernel
theorem dX12_count_5 : decode cX12_count 5 = .ok (.bipush 30, 2) := by decide +kernel
theorem dX12_count_7 : decode cX12_count 7 = .ok (.if_icmp .ge 17, 3) := by decide +kernel
theorem dX12_count_10 : decode cX12_count 10 = .ok (.iload_n 1, 1) := by decide +kernel
theorem dX12_count_11 : decode cX12_count 11 = .ok (.iload_n 0, 1) := by decide +kernel
theorem dX12_count_12 : decode cX12_count 12 = .ok (.iload_n 2, 1) := by decide +kernel
theorem dX12_count_13 : decode cX12_count 13 = .ok (.ishr, 1) := by decide +kernel
theorem dX12_count_14 : decode cX12_count 14 = .ok (.iconst 1, 1) := by decide +kernel
theorem dX12_count_15 : decode cX12_count 15 = .ok (.iand, 1) := by decide +kernel
theorem dX12_count_16 : decode cX12_count 16 = .ok (.iadd, 1) := by decide +kernel
theorem dX12_count_17 : decode cX12_count 17 = .ok (.istore_n 1, 1) := by decide +kernel
theorem dX12_count_18 : decode cX12_count 18 = .ok (.iinc 2 1, 3) := by decide +kernel
theorem dX12_count_21 : decode cX12_count 21 = .ok (.goto (-17), 3) := by decide +kernel
theorem dX12_count_24 : decode cX12_count 24 = .ok (.iload_n 1, 1) := by decide +kernel
theorem dX12_count_25 : decode cX12_count 25 = .ok (.ireturn, 1) := by decide +kernel
theorem dX12_refuses_0 : decode cX12_refuses 0 = .ok (.aload_n 0, 1) := by decide +kernel
theorem dX12_refuses_1 : decode cX12_refuses 1 = .ok (.getfield 17, 3) := by decide +kernel
theorem dX12_refuses_4 : decode cX12_refuses 4 = .ok (.iload_n 1, 1) := by decide +kernel
theorem dX12_refuses_5 : decode cX12_refuses 5 = .ok (.dup2, 1) := by decide +kernel
theorem dX12_refuses_6 : decode cX12_refuses 6 = .ok (.iaload, 1) := by decide +kernel
theorem dX12_refuses_7 : decode cX12_refuses 7 = .ok (.iconst 1, 1) := by decide +kernel
theorem dX12_refuses_8 : decode cX12_refuses 8 = .ok (.iadd, 1) := by decide +kernel
theorem dX12_refuses_9 : decode cX12_refuses 9 = .ok (.iastore, 1) := by decide +kernel
theorem dX12_refuses_10 : decode cX12_refuses 10 = .ok (.iconst (-1), 1) := by decide +kernel
theorem dX12_refuses_11 : decode cX12_refuses 11 = .ok (.ireturn, 1) := by decide +kernel
theorem dX12_isRefused_0 : decode cX12_isRefused 0 = .ok (.aload_n 0, 1) := by decide +kernel
theorem dX12_isRefused_1 : decode cX12_isRefused 1 = .ok (.getfield 17, 3) := by decide +kernel
theorem dX12_isRefused_4 : decode cX12_isRefused 4 = .ok (.iload_n 1, 1) := by decide +kernel
theorem dX12_isRefused_5 : decode cX12_isRefused 5 = .ok (.dup2, 1) := by decide +kernel
theorem dX12_isRefused_6 : decode cX12_isRefused 6 = .ok (.iaload, 1) := by decide +kernel
theorem dX12_isRefused_7 : decode cX12_isRefused 7 = .ok (.iconst 1, 1) := by decide +kernel
theorem dX12_isRefused_8 : decode cX12_isRefused 8 = .ok (.iadd, 1) := by decide +kernel
theorem dX12_isRefused_9 : decode cX12_isRefused 9 = .ok (.iastore, 1) := by decide +kernel
theorem dX12_isRefused_10 : decode cX12_isRefused 10 = .ok (.iconst 0, 1) := by decide +kernel
theorem dX12_isRefused_11 : decode cX12_isRefused 11 = .ok (.ireturn, 1) := by decide +kernel
theorem dX12_feed_0 : decode cX12_feed 0 = .ok (.aload_n 0, 1) := by decide +kernel
theorem dX12_feed_1 : decode cX12_feed 1 = .ok (.getfield 114, 3) := by decide +kernel
theorem dX12_feed_4 : decode cX12_feed 4 = .ok (.bipush 20, 2) := by decide +kernel
theorem dX12_feed_6 : decode cX12_feed 6 = .ok (.iadd, 1) := by decide +kernel
theorem dX12_feed_7 : decode cX12_feed 7 = .ok (.sipush 1600, 3) := by decide +kernel
theorem dX12_feed_10 : decode cX12_feed 10 = .ok (.if_icmp .le 9, 3) := by decide +kernel
theorem dX12_feed_13 : decode cX12_feed 13 = .ok (.aload_n 0, 1) := by decide +kernel
theorem dX12_feed_14 : decode cX12_feed 14 = .ok (.iconst 0, 1) := by decide +kernel
theorem dX12_feed_15 : decode cX12_feed 15 = .ok (.invokevirtual 117, 3) := by decide +kernel
theorem dX12_feed_18 : decode cX12_feed 18 = .ok (.ireturn, 1) := by decide +kernel
theorem dX12_feed_19 : decode cX12_feed 19 = .ok (.iconst 0, 1) := by decide +kernel
theorem dX12_feed_20 : decode cX12_feed 20 = .ok (.istore 6, 2) := by decide +kernel
theorem dX12_feed_22 : decode cX12_feed 22 = .ok (.iload 6, 2) := by decide +kernel
theorem dX12_feed_24 : decode cX12_feed 24 = .ok (.bipush 20, 2) := by decide +kernel
theorem dX12_feed_26 : decode cX12_feed 26 = .ok (.if_icmp .ge 92, 3) := by decide +kernel
theorem dX12_feed_29 : decode cX12_feed 29 = .ok (.iload 6, 2) := by decide +kernel
theorem dX12_feed_31 : decode cX12_feed 31 = .ok (.iconst 4, 1) := by decide +kernel
theorem dX12_feed_32 : decode cX12_feed 32 = .ok (.if_icmp .ge 7, 3) := by decide +kernel
theorem dX12_feed_35 : decode cX12_feed 35 = .ok (.iload_n 1, 1) := by decide +kernel
theorem dX12_feed_36 : decode cX12_feed 36 = .ok (.goto 39, 3) := by decide +kernel
theorem dX12_feed_39 : decode cX12_feed 39 = .ok (.iload 6, 2) := by decide +kernel
theorem dX12_feed_41 : decode cX12_feed 41 = .ok (.bipush 8, 2) := by decide +kernel
theorem dX12_feed_43 : decode cX12_feed 43 = .ok (.if_icmp .ge 7, 3) := by decide +kernel
theorem dX12_feed_46 : decode cX12_feed 46 = .ok (.iload_n 2, 1) := by decide +kernel
theorem dX12_feed_47 : decode cX12_feed 47 = .ok (.goto 28, 3) := by decide +kernel
theorem dX12_feed_50 : decode cX12_feed 50 = .ok (.iload 6, 2) := by decide +kernel
theorem dX12_feed_52 : decode cX12_feed 52 = .ok (.bipush 12, 2) := by decide +kernel
theorem dX12_feed_54 : decode cX12_feed 54 = .ok (.if_icmp .ge 7, 3) := by decide +kernel
theorem dX12_feed_57 : decode cX12_feed 57 = .ok (.iload_n 3, 1) := by decide +kernel
theorem dX12_feed_58 : decode cX12_feed 58 = .ok (.goto 17, 3) := by decide +kernel
theorem dX12_feed_61 : decode cX12_feed 61 = .ok (.iload 6, 2) := by decide +kernel
theorem dX12_feed_63 : decode cX12_feed 63 = .ok (.bipush 16, 2) := by decide +kernel
theorem dX12_feed_65 : decode cX12_feed 65 = .ok (.if_icmp .ge 8, 3) := by decide +kernel
theorem dX12_feed_68 : decode cX12_feed 68 = .ok (.iload 4, 2) := by decide +kernel
theorem dX12_feed_70 : decode cX12_feed 70 = .ok (.goto 5, 3) := by decide +kernel
theorem dX12_feed_73 : decode cX12_feed 73 = .ok (.iload 5, 2) := by decide +kernel
theorem dX12_feed_75 : decode cX12_feed 75 = .ok (.istore 7, 2) := by decide +kernel
theorem dX12_feed_77 : decode cX12_feed 77 = .ok (.aload_n 0, 1) := by decide +kernel
theorem dX12_feed_78 : decode cX12_feed 78 = .ok (.getfield 7, 3) := by decide +kernel
theorem dX12_feed_81 : decode cX12_feed 81 = .ok (.aload_n 0, 1) := by decide +kernel
theorem dX12_feed_82 : decode cX12_feed 82 = .ok (.getfield 114, 3) := by decide +kernel
theorem dX12_feed_85 : decode cX12_feed 85 = .ok (.iload 7, 2) := by decide +kernel
theorem dX12_feed_87 : decode cX12_feed 87 = .ok (.bipush 8, 2) := by decide +kernel
theorem dX12_feed_89 : decode cX12_feed 89 = .ok (.iconst 3, 1) := by decide +kernel
theorem dX12_feed_90 : decode cX12_feed 90 = .ok (.iload 6, 2) := by decide +kernel
theorem dX12_feed_92 : decode cX12_feed 92 = .ok (.iconst 4, 1) := by decide +kernel
theorem dX12_feed_93 : decode cX12_feed 93 = .ok (.irem, 1) := by decide +kernel
theorem dX12_feed_94 : decode cX12_feed 94 = .ok (.isub, 1) := by decide +kernel
theorem dX12_feed_95 : decode cX12_feed 95 = .ok (.imul, 1) := by decide +kernel
theorem dX12_feed_96 : decode cX12_feed 96 = .ok (.ishr, 1) := by decide +kernel
theorem dX12_feed_97 : decode cX12_feed 97 = .ok (.sipush 255, 3) := by decide +kernel
theorem dX12_feed_100 : decode cX12_feed 100 = .ok (.iand, 1) := by decide +kernel
theorem dX12_feed_101 : decode cX12_feed 101 = .ok (.iastore, 1) := by decide +kernel
theorem dX12_feed_102 : decode cX12_feed 102 = .ok (.aload_n 0, 1) := by decide +kernel
theorem dX12_feed_103 : decode cX12_feed 103 = .ok (.dup, 1) := by decide +kernel
theorem dX12_feed_104 : decode cX12_feed 104 = .ok (.getfield 114, 3) := by decide +kernel
theorem dX12_feed_107 : decode cX12_feed 107 = .ok (.iconst 1, 1) := by decide +kernel
theorem dX12_feed_108 : decode cX12_feed 108 = .ok (.iadd, 1) := by decide +kernel
theorem dX12_feed_109 : decode cX12_feed 109 = .ok (.putfield 114, 3) := by decide +kernel
theorem dX12_feed_112 : decode cX12_feed 112 = .ok (.iinc 6 1, 3) := by decide +kernel
theorem dX12_feed_115 : decode cX12_feed 115 = .ok (.goto (-93), 3) := by decide +kernel
theorem dX12_feed_118 : decode cX12_feed 118 = .ok (.aload_n 0, 1) := by decide +kernel
theorem dX12_feed_119 : decode cX12_feed 119 = .ok (.getfield 114, 3) := by decide +kernel
theorem dX12_feed_122 : decode cX12_feed 122 = .ok (.ireturn, 1) := by decide +kernel
theorem dX12_end_0 : decode cX12_end 0 = .ok (.iload_n 1, 1) := by decide +kernel
theorem dX12_end_1 : decode cX12_end 1 = .ok (.ifCond .lt 11, 3) := by decide +kernel
theorem dX12_end_4 : decode cX12_end 4 = .ok (.iload_n 1, 1) := by decide +kernel
theorem dX12_end_5 : decode cX12_end 5 = .ok (.aload_n 0, 1) := by decide +kernel
theorem dX12_end_6 : decode cX12_end 6 = .ok (.getfield 114, 3) := by decide +kernel
theorem dX12_end_9 : decode cX12_end 9 = .ok (.if_icmp .le 9, 3) := by decide +kernel
theorem dX12_end_12 : decode cX12_end 12 = .ok (.aload_n 0, 1) := by decide +kernel
theorem dX12_end_13 : decode cX12_end 13 = .ok (.iconst 0, 1) := by decide +kernel
theorem dX12_end_14 : decode cX12_end 14 = .ok (.invokevirtual 121, 3) := by decide +kernel
theorem dX12_end_17 : decode cX12_end 17 = .ok (.ireturn, 1) := by decide +kernel
theorem dX12_end_18 : decode cX12_end 18 = .ok (.aload_n 0, 1) := by decide +kernel
theorem dX12_end_19 : decode cX12_end 19 = .ok (.iload_n 1, 1) := by decide +kernel
theorem dX12_end_20 : decode cX12_end 20 = .ok (.putfield 114, 3) := by decide +kernel
theorem dX12_end_23 : decode cX12_end 23 = .ok (.iconst 1, 1) := by decide +kernel
theorem dX12_end_24 : decode cX12_end 24 = .ok (.ireturn, 1) := by decide +kernel
theorem dX12_status_0 : decode cX12_status 0 = .ok (.iload_n 1, 1) := by decide +kernel
theorem dX12_status_1 : decode cX12_status 1 = .ok (.i2l, 1) := by decide +kernel
theorem dX12_status_2 : decode cX12_status 2 = .ok (.lconst 0, 1) := by decide +kernel
theorem dX12_status_3 : decode cX12_status 3 = .ok (.ldc2_w 125, 3) := by decide +kernel
theorem dX12_status_6 : decode cX12_status 6 = .ok (.invokestatic 127, 3) := by decide +kernel
theorem dX12_status_9 : decode cX12_status 9 = .ok (.ifCond .eq 12, 3) := by decide +kernel
theorem dX12_status_12 : decode cX12_status 12 = .ok (.aload_n 0, 1) := by decide +kernel
theorem dX12_status_13 : decode cX12_status 13 = .ok (.getfield 17, 3) := by decide +kernel
theorem dX12_status_16 : decode cX12_status 16 = .ok (.iload_n 1, 1) := by decide +kernel
theorem dX12_status_17 : decode cX12_status 17 = .ok (.iaload, 1) := by decide +kernel
theorem dX12_status_18 : decode cX12_status 18 = .ok (.goto 4, 3) := by decide +kernel
theorem dX12_status_21 : decode cX12_status 21 = .ok (.iconst (-1), 1) := by decide +kernel
theorem dX12_status_22 : decode cX12_status 22 = .ok (.ireturn, 1) := by decide +kernel
theorem dX12_fault_0 : decode cX12_fault 0 = .ok (.iload_n 1, 1) := by decide +kernel
theorem dX12_fault_1 : decode cX12_fault 1 = .ok (.ifCond .ne 10, 3) := by decide +kernel
theorem dX12_fault_4 : decode cX12_fault 4 = .ok (.aload_n 0, 1) := by decide +kernel
theorem dX12_fault_5 : decode cX12_fault 5 = .ok (.getfield 131, 3) := by decide +kernel
theorem dX12_fault_8 : decode cX12_fault 8 = .ok (.goto 16, 3) := by decide +kernel
theorem dX12_fault_11 : decode cX12_fault 11 = .ok (.iload_n 1, 1) := by decide +kernel
theorem dX12_fault_12 : decode cX12_fault 12 = .ok (.iconst 1, 1) := by decide +kernel
theorem dX12_fault_13 : decode cX12_fault 13 = .ok (.if_icmp .ne 10, 3) := by decide +kernel
theorem dX12_fault_16 : decode cX12_fault 16 = .ok (.aload_n 0, 1) := by decide +kernel
theorem dX12_fault_17 : decode cX12_fault 17 = .ok (.getfield 13, 3) := by decide +kernel
theorem dX12_fault_20 : decode cX12_fault 20 = .ok (.goto 4, 3) := by decide +kernel
theorem dX12_fault_23 : decode cX12_fault 23 = .ok (.iconst (-1), 1) := by decide +kernel
theorem dX12_fault_24 : decode cX12_fault 24 = .ok (.ireturn, 1) := by decide +kernel
theorem dX12_fail_0 : decode cX12_fail 0 = .ok (.aload_n 0, 1) := by decide +kernel
theorem dX12_fail_1 : decode cX12_fail 1 = .ok (.getfield 134, 3) := by decide +kernel
theorem dX12_fail_4 : decode cX12_fail 4 = .ok (.ifCond .eq 4, 3) := by decide +kernel
theorem dX12_fail_7 : decode cX12_fail 7 = .ok (.return_, 1) := by decide +kernel
theorem dX12_fail_8 : decode cX12_fail 8 = .ok (.aload_n 0, 1) := by decide +kernel
theorem dX12_fail_9 : decode cX12_fail 9 = .ok (.iload_n 1, 1) := by decide +kernel
theorem dX12_fail_10 : decode cX12_fail 10 = .ok (.putfield 134, 3) := by decide +kernel
theorem dX12_fail_13 : decode cX12_fail 13 = .ok (.aload_n 0, 1) := by decide +kernel
theorem dX12_fail_14 : decode cX12_fail 14 = .ok (.iload_n 2, 1) := by decide +kernel
theorem dX12_fail_15 : decode cX12_fail 15 = .ok (.putfield 137, 3) := by decide +kernel
theorem dX12_fail_18 : decode cX12_fail 18 = .ok (.return_, 1) := by decide +kernel
theorem dX12_isLetter_0 : decode cX12_isLetter 0 = .ok (.iload_n 0, 1) := by decide +kernel
theorem dX12_isLetter_1 : decode cX12_isLetter 1 = .ok (.bipush 97, 2) := by decide +kernel
theorem dX12_isLetter_3 : decode cX12_isLetter 3 = .ok (.if_icmp .lt 13, 3) := by decide +kernel
theorem dX12_isLetter_6 : decode cX12_isLetter 6 = .ok (.iload_n 0, 1) := by decide +kernel
theorem dX12_isLetter_7 : decode cX12_isLetter 7 = .ok (.bipush 122, 2) := by decide +kernel
theorem dX12_isLetter_9 : decode cX12_isLetter 9 = .ok (.if_icmp .gt 7, 3) := by decide +kernel
theorem dX12_isLetter_12 : decode cX12_isLetter 12 = .ok (.iconst 1, 1) := by decide +kernel
theorem dX12_isLetter_13 : decode cX12_isLetter 13 = .ok (.goto 4, 3) := by decide +kernel
theorem dX12_isLetter_16 : decode cX12_isLetter 16 = .ok (.iconst 0, 1) := by decide +kernel
theorem dX12_isLetter_17 : decode cX12_isLetter 17 = .ok (.ireturn, 1) := by decide +kernel
theorem dX12_isDigit_0 : decode cX12_isDigit 0 = .ok (.iload_n 0, 1) := by decide +kernel
theorem dX12_isDigit_1 : decode cX12_isDigit 1 = .ok (.bipush 48, 2) := by decide +kernel
theorem dX12_isDigit_3 : decode cX12_isDigit 3 = .ok (.if_icmp .lt 13, 3) := by decide +kernel
theorem dX12_isDigit_6 : decode cX12_isDigit 6 = .ok (.iload_n 0, 1) := by decide +kernel
theorem dX12_isDigit_7 : decode cX12_isDigit 7 = .ok (.bipush 57, 2) := by decide +kernel
theorem dX12_isDigit_9 : decode cX12_isDigit 9 = .ok (.if_icmp .gt 7, 3) := by decide +kernel
theorem dX12_isDigit_12 : decode cX12_isDigit 12 = .ok (.iconst 1, 1) := by decide +kernel
theorem dX12_isDigit_13 : decode cX12_isDigit 13 = .ok (.goto 4, 3) := by decide +kernel
theorem dX12_isDigit_16 : decode cX12_isDigit 16 = .ok (.iconst 0, 1) := by decide +kernel
theorem dX12_isDigit_17 : decode cX12_isDigit 17 = .ok (.ireturn, 1) := by decide +kernel
theorem dX12_look_0 : decode cX12_look 0 = .ok (.aload_n 0, 1) := by decide +kernel
theorem dX12_look_1 : decode cX12_look 1 = .ok (.getfield 140, 3) := by decide +kernel
theorem dX12_look_4 : decode cX12_look 4 = .ok (.aload_n 0, 1) := by decide +kernel
theorem dX12_look_5 : decode cX12_look 5 = .ok (.getfield 143, 3) := by decide +kernel
theorem dX12_look_8 : decode cX12_look 8 = .ok (.if_icmp .ge 44, 3) := by decide +kernel
theorem dX12_look_11 : decode cX12_look 11 = .ok (.aload_n 0, 1) := by decide +kernel
theorem dX12_look_12 : decode cX12_look 12 = .ok (.getfield 7, 3) := by decide +kernel
theorem dX12_look_15 : decode cX12_look 15 = .ok (.aload_n 0, 1) := by decide +kernel
theorem dX12_look_16 : decode cX12_look 16 = .ok (.getfield 140, 3) := by decide +kernel
theorem dX12_look_19 : decode cX12_look 19 = .ok (.iaload, 1) := by decide +kernel
theorem dX12_look_20 : decode cX12_look 20 = .ok (.bipush 10, 2) := by decide +kernel
theorem dX12_look_22 : decode cX12_look 22 = .ok (.if_icmp .eq 17, 3) := by decide +kernel
theorem dX12_look_25 : decode cX12_look 25 = .ok (.aload_n 0, 1) := by decide +kernel
theorem dX12_look_26 : decode cX12_look 26 = .ok (.getfield 7, 3) := by decide +kernel
theorem dX12_look_29 : decode cX12_look 29 = .ok (.aload_n 0, 1) := by decide +kernel
theorem dX12_look_30 : decode cX12_look 30 = .ok (.getfield 140, 3) := by decide +kernel
theorem dX12_look_33 : decode cX12_look 33 = .ok (.iaload, 1) := by decide +kernel
theorem dX12_look_34 : decode cX12_look 34 = .ok (.bipush 32, 2) := by decide +kernel
theorem dX12_look_36 : decode cX12_look 36 = .ok (.if_icmp .ne 16, 3) := by decide +kernel
theorem dX12_look_39 : decode cX12_look 39 = .ok (.aload_n 0, 1) := by decide +kernel
theorem dX12_look_40 : decode cX12_look 40 = .ok (.dup, 1) := by decide +kernel
theorem dX12_look_41 : decode cX12_look 41 = .ok (.getfield 140, 3) := by decide +kernel
theorem dX12_look_44 : decode cX12_look 44 = .ok (.iconst 1, 1) := by decide +kernel
theorem dX12_look_45 : decode cX12_look 45 = .ok (.iadd, 1) := by decide +kernel
theorem dX12_look_46 : decode cX12_look 46 = .ok (.putfield 140, 3) := by decide +kernel
theorem dX12_look_49 : decode cX12_look 49 = .ok (.goto (-49), 3) := by decide +kernel
theorem dX12_look_52 : decode cX12_look 52 = .ok (.aload_n 0, 1) := by decide +kernel
theorem dX12_look_53 : decode cX12_look 53 = .ok (.getfield 140, 3) := by decide +kernel
theorem dX12_look_56 : decode cX12_look 56 = .ok (.aload_n 0, 1) := by decide +kernel
theorem dX12_look_57 : decode cX12_look 57 = .ok (.getfield 143, 3) := by decide +kernel
theorem dX12_look_60 : decode cX12_look 60 = .ok (.if_icmp .ge 15, 3) := by decide +kernel
theorem dX12_look_63 : decode cX12_look 63 = .ok (.aload_n 0, 1) := by decide +kernel
theorem dX12_look_64 : decode cX12_look 64 = .ok (.getfield 7, 3) := by decide +kernel
theorem dX12_look_67 : decode cX12_look 67 = .ok (.aload_n 0, 1) := by decide +kernel
theorem dX12_look_68 : decode cX12_look 68 = .ok (.getfield 140, 3) := by decide +kernel
theorem dX12_look_71 : decode cX12_look 71 = .ok (.iaload, 1) := by decide +kernel
theorem dX12_look_72 : decode cX12_look 72 = .ok (.goto 4, 3) := by decide +kernel
theorem dX12_look_75 : decode cX12_look 75 = .ok (.iconst (-1), 1) := by decide +kernel
theorem dX12_look_76 : decode cX12_look 76 = .ok (.ireturn, 1) := by decide +kernel
theorem dX12_isWordHere_0 : decode cX12_isWordHere 0 = .ok (.aload_n 0, 1) := by decide +kernel
theorem dX12_isWordHere_1 : decode cX12_isWordHere 1 = .ok (.getfield 134, 3) := by decide +kernel
theorem dX12_isWordHere_4 : decode cX12_isWordHere 4 = .ok (.ifCond .ne 28, 3) := by decide +kernel
theorem dX12_isWordHere_7 : decode cX12_isWordHere 7 = .ok (.aload_n 0, 1) := by decide +kernel
theorem dX12_isWordHere_8 : decode cX12_isWordHere 8 = .ok (.invokevirtual 146, 3) := by decide +kernel
theorem dX12_isWordHere_11 : decode cX12_isWordHere 11 = .ok (.invokestatic 150, 3) := by decide +kernel
theorem dX12_isWordHere_14 : decode cX12_isWordHere 14 = .ok (.ifCond .eq 18, 3) := by decide +kernel
theorem dX12_isWordHere_17 : decode cX12_isWordHere 17 = .ok (.aload_n 0, 1) := by decide +kernel
theorem dX12_isWordHere_18 : decode cX12_isWordHere 18 = .ok (.getfield 140, 3) := by decide +kernel
theorem dX12_isWordHere_21 : decode cX12_isWordHere 21 = .ok (.aload_n 0, 1) := by decide +kernel
theorem dX12_isWordHere_22 : decode cX12_isWordHere 22 = .ok (.getfield 153, 3) := by decide +kernel
theorem dX12_isWordHere_25 : decode cX12_isWordHere 25 = .ok (.if_icmp .eq 7, 3) := by decide +kernel
theorem dX12_isWordHere_28 : decode cX12_isWordHere 28 = .ok (.iconst 1, 1) := by decide +kernel
theorem dX12_isWordHere_29 : decode cX12_isWordHere 29 = .ok (.goto 4, 3) := by decide +kernel
theorem dX12_isWordHere_32 : decode cX12_isWordHere 32 = .ok (.iconst 0, 1) := by decide +kernel
theorem dX12_isWordHere_33 : decode cX12_isWordHere 33 = .ok (.ireturn, 1) := by decide +kernel
theorem dX12_takesSign_0 : decode cX12_takesSign 0 = .ok (.aload_n 0, 1) := by decide +kernel
theorem dX12_takesSign_1 : decode cX12_takesSign 1 = .ok (.getfield 134, 3) := by decide +kernel
theorem dX12_takesSign_4 : decode cX12_takesSign 4 = .ok (.ifCond .ne 11, 3) := by decide +kernel
theorem dX12_takesSign_7 : decode cX12_takesSign 7 = .ok (.aload_n 0, 1) := by decide +kernel
theorem dX12_takesSign_8 : decode cX12_takesSign 8 = .ok (.invokevirtual 146, 3) := by decide +kernel
theorem dX12_takesSign_11 : decode cX12_takesSign 11 = .ok (.iload_n 1, 1) := by decide +kernel
theorem dX12_takesSign_12 : decode cX12_takesSign 12 = .ok (.if_icmp .eq 5, 3) := by decide +kernel
theorem dX12_takesSign_15 : decode cX12_takesSign 15 = .ok (.iconst 0, 1) := by decide +kernel
theorem dX12_takesSign_16 : decode cX12_takesSign 16 = .ok (.ireturn, 1) := by decide +kernel
theorem dX12_takesSign_17 : decode cX12_takesSign 17 = .ok (.aload_n 0, 1) := by decide +kernel
theorem dX12_takesSign_18 : decode cX12_takesSign 18 = .ok (.dup, 1) := by decide +kernel
theorem dX12_takesSign_19 : decode cX12_takesSign 19 = .ok (.getfield 140, 3) := by decide +kernel
theorem dX12_takesSign_22 : decode cX12_takesSign 22 = .ok (.iconst 1, 1) := by decide +kernel
theorem dX12_takesSign_23 : decode cX12_takesSign 23 = .ok (.iadd, 1) := by decide +kernel
theorem dX12_takesSign_24 : decode cX12_takesSign 24 = .ok (.putfield 140, 3) := by decide +kernel
theorem dX12_takesSign_27 : decode cX12_takesSign 27 = .ok (.iconst 1, 1) := by decide +kernel
theorem dX12_takesSign_28 : decode cX12_takesSign 28 = .ok (.ireturn, 1) := by decide +kernel
theorem dX12_asksSign_0 : decode cX12_asksSign 0 = .ok (.aload_n 0, 1) := by decide +kernel
theorem dX12_asksSign_1 : decode cX12_asksSign 1 = .ok (.getfield 134, 3) := by decide +kernel
theorem dX12_asksSign_4 : decode cX12_asksSign 4 = .ok (.ifCond .ne 20, 3) := by decide +kernel
theorem dX12_asksSign_7 : decode cX12_asksSign 7 = .ok (.aload_n 0, 1) := by decide +kernel
theorem dX12_asksSign_8 : decode cX12_asksSign 8 = .ok (.iload_n 1, 1) := by decide +kernel
theorem dX12_asksSign_9 : decode cX12_asksSign 9 = .ok (.invokevirtual 156, 3) := by decide +kernel
theorem dX12_asksSign_12 : decode cX12_asksSign 12 = .ok (.ifCond .ne 12, 3) := by decide +kernel
theorem dX12_asksSign_15 : decode cX12_asksSign 15 = .ok (.aload_n 0, 1) := by decide +kernel
theorem dX12_asksSign_16 : decode cX12_asksSign 16 = .ok (.iconst 1, 1) := by decide +kernel
theorem dX12_asksSign_17 : decode cX12_asksSign 17 = .ok (.aload_n 0, 1) := by decide +kernel
theorem dX12_asksSign_18 : decode cX12_asksSign 18 = .ok (.getfield 140, 3) := by decide +kernel
theorem dX12_asksSign_21 : decode cX12_asksSign 21 = .ok (.invokevirtual 159, 3) := by decide +kernel
theorem dX12_asksSign_24 : decode cX12_asksSign 24 = .ok (.return_, 1) := by decide +kernel
theorem dX12_number_0 : decode cX12_number 0 = .ok (.aload_n 0, 1) := by decide +kernel
theorem dX12_number_1 : decode cX12_number 1 = .ok (.getfield 134, 3) := by decide +kernel
theorem dX12_number_4 : decode cX12_number 4 = .ok (.ifCond .eq 5, 3) := by decide +kernel
theorem dX12_number_7 : decode cX12_number 7 = .ok (.iload_n 1, 1) := by decide +kernel
theorem dX12_number_8 : decode cX12_number 8 = .ok (.ireturn, 1) := by decide +kernel
theorem dX12_number_9 : decode cX12_number 9 = .ok (.aload_n 0, 1) := by decide +kernel
theorem dX12_number_10 : decode cX12_number 10 = .ok (.invokevirtual 146, 3) := by decide +kernel
theorem dX12_number_13 : decode cX12_number 13 = .ok (.invokestatic 163, 3) := by decide +kernel
theorem dX12_number_16 : decode cX12_number 16 = .ok (.ifCond .eq 14, 3) := by decide +kernel
theorem dX12_number_19 : decode cX12_number 19 = .ok (.aload_n 0, 1) := by decide +kernel
theorem dX12_number_20 : decode cX12_number 20 = .ok (.getfield 140, 3) := by decide +kernel
theorem dX12_number_23 : decode cX12_number 23 = .ok (.aload_n 0, 1) := by decide +kernel
theorem dX12_number_24 : decode cX12_number 24 = .ok (.getfield 153, 3) := by decide +kernel
theorem dX12_number_27 : decode cX12_number 27 = .ok (.if_icmp .ne 14, 3) := by decide +kernel
theorem dX12_number_30 : decode cX12_number 30 = .ok (.aload_n 0, 1) := by decide +kernel
theorem dX12_number_31 : decode cX12_number 31 = .ok (.iconst 1, 1) := by decide +kernel
theorem dX12_number_32 : decode cX12_number 32 = .ok (.aload_n 0, 1) := by decide +kernel
theorem dX12_number_33 : decode cX12_number 33 = .ok (.getfield 140, 3) := by decide +kernel
theorem dX12_number_36 : decode cX12_number 36 = .ok (.invokevirtual 159, 3) := by decide +kernel
theorem dX12_number_39 : decode cX12_number 39 = .ok (.iload_n 1, 1) := by decide +kernel
theorem dX12_number_40 : decode cX12_number 40 = .ok (.ireturn, 1) := by decide +kernel
theorem dX12_number_41 : decode cX12_number 41 = .ok (.aload_n 0, 1) := by decide +kernel
theorem dX12_number_42 : decode cX12_number 42 = .ok (.getfield 140, 3) := by decide +kernel
theorem dX12_number_45 : decode cX12_number 45 = .ok (.istore_n 3, 1) := by decide +kernel
theorem dX12_number_46 : decode cX12_number 46 = .ok (.iconst 0, 1) := by decide +kernel
theorem dX12_number_47 : decode cX12_number 47 = .ok (.istore 4, 2) := by decide +kernel
theorem dX12_number_49 : decode cX12_number 49 = .ok (.aload_n 0, 1) := by decide +kernel
theorem dX12_number_50 : decode cX12_number 50 = .ok (.getfield 140, 3) := by decide +kernel
theorem dX12_number_53 : decode cX12_number 53 = .ok (.aload_n 0, 1) := by decide +kernel
theorem dX12_number_54 : decode cX12_number 54 = .ok (.getfield 143, 3) := by decide +kernel
theorem dX12_number_57 : decode cX12_number 57 = .ok (.if_icmp .ge 72, 3) := by decide +kernel
theorem dX12_number_60 : decode cX12_number 60 = .ok (.aload_n 0, 1) := by decide +kernel
theorem dX12_number_61 : decode cX12_number 61 = .ok (.getfield 7, 3) := by decide +kernel
theorem dX12_number_64 : decode cX12_number 64 = .ok (.aload_n 0, 1) := by decide +kernel
theorem dX12_number_65 : decode cX12_number 65 = .ok (.getfield 140, 3) := by decide +kernel
theorem dX12_number_68 : decode cX12_number 68 = .ok (.iaload, 1) := by decide +kernel
theorem dX12_number_69 : decode cX12_number 69 = .ok (.invokestatic 163, 3) := by decide +kernel
theorem dX12_number_72 : decode cX12_number 72 = .ok (.ifCond .eq 57, 3) := by decide +kernel
theorem dX12_number_75 : decode cX12_number 75 = .ok (.aload_n 0, 1) := by decide +kernel
theorem dX12_number_76 : decode cX12_number 76 = .ok (.getfield 140, 3) := by decide +kernel
theorem dX12_number_79 : decode cX12_number 79 = .ok (.iload_n 3, 1) := by decide +kernel
theorem dX12_number_80 : decode cX12_number 80 = .ok (.isub, 1) := by decide +kernel
theorem dX12_number_81 : decode cX12_number 81 = .ok (.iconst 2, 1) := by decide +kernel
theorem dX12_number_82 : decode cX12_number 82 = .ok (.if_icmp .ne 14, 3) := by decide +kernel
theorem dX12_number_85 : decode cX12_number 85 = .ok (.aload_n 0, 1) := by decide +kernel
theorem dX12_number_86 : decode cX12_number 86 = .ok (.iconst 1, 1) := by decide +kernel
theorem dX12_number_87 : decode cX12_number 87 = .ok (.aload_n 0, 1) := by decide +kernel
theorem dX12_number_88 : decode cX12_number 88 = .ok (.getfield 140, 3) := by decide +kernel
theorem dX12_number_91 : decode cX12_number 91 = .ok (.invokevirtual 159, 3) := by decide +kernel
theorem dX12_number_94 : decode cX12_number 94 = .ok (.iload_n 1, 1) := by decide +kernel
theorem dX12_number_95 : decode cX12_number 95 = .ok (.ireturn, 1) := by decide +kernel
theorem dX12_number_96 : decode cX12_number 96 = .ok (.bipush 10, 2) := by decide +kernel
theorem dX12_number_98 : decode cX12_number 98 = .ok (.iload 4, 2) := by decide +kernel
theorem dX12_number_100 : decode cX12_number 100 = .ok (.imul, 1) := by decide +kernel
theorem dX12_number_101 : decode cX12_number 101 = .ok (.aload_n 0, 1) := by decide +kernel
theorem dX12_number_102 : decode cX12_number 102 = .ok (.getfield 7, 3) := by decide +kernel
theorem dX12_number_105 : decode cX12_number 105 = .ok (.aload_n 0, 1) := by decide +kernel
theorem dX12_number_106 : decode cX12_number 106 = .ok (.getfield 140, 3) := by decide +kernel
theorem dX12_number_109 : decode cX12_number 109 = .ok (.iaload, 1) := by decide +kernel
theorem dX12_number_110 : decode cX12_number 110 = .ok (.iadd, 1) := by decide +kernel
theorem dX12_number_111 : decode cX12_number 111 = .ok (.bipush 48, 2) := by decide +kernel
theorem dX12_number_113 : decode cX12_number 113 = .ok (.isub, 1) := by decide +kernel
theorem dX12_number_114 : decode cX12_number 114 = .ok (.istore 4, 2) := by decide +kernel
theorem dX12_number_116 : decode cX12_number 116 = .ok (.aload_n 0, 1) := by decide +kernel
theorem dX12_number_117 : decode cX12_number 117 = .ok (.dup, 1) := by decide +kernel
theorem dX12_number_118 : decode cX12_number 118 = .ok (.getfield 140, 3) := by decide +kernel
theorem dX12_number_121 : decode cX12_number 121 = .ok (.iconst 1, 1) := by decide +kernel
theorem dX12_number_122 : decode cX12_number 122 = .ok (.iadd, 1) := by decide +kernel
theorem dX12_number_123 : decode cX12_number 123 = .ok (.putfield 140, 3) := by decide +kernel
theorem dX12_number_126 : decode cX12_number 126 = .ok (.goto (-77), 3) := by decide +kernel
theorem dX12_number_129 : decode cX12_number 129 = .ok (.aload_n 0, 1) := by decide +kernel
theorem dX12_number_130 : decode cX12_number 130 = .ok (.aload_n 0, 1) := by decide +kernel
theorem dX12_number_131 : decode cX12_number 131 = .ok (.getfield 140, 3) := by decide +kernel
theorem dX12_number_134 : decode cX12_number 134 = .ok (.putfield 153, 3) := by decide +kernel
theorem dX12_number_137 : decode cX12_number 137 = .ok (.iload 4, 2) := by decide +kernel
theorem dX12_number_139 : decode cX12_number 139 = .ok (.i2l, 1) := by decide +kernel
theorem dX12_number_140 : decode cX12_number 140 = .ok (.iload_n 1, 1) := by decide +kernel
theorem dX12_number_141 : decode cX12_number 141 = .ok (.i2l, 1) := by decide +kernel
theorem dX12_number_142 : decode cX12_number 142 = .ok (.iload_n 2, 1) := by decide +kernel
theorem dX12_number_143 : decode cX12_number 143 = .ok (.i2l, 1) := by decide +kernel
theorem dX12_number_144 : decode cX12_number 144 = .ok (.invokestatic 127, 3) := by decide +kernel
theorem dX12_number_147 : decode cX12_number 147 = .ok (.ifCond .ne 9, 3) := by decide +kernel
theorem dX12_number_150 : decode cX12_number 150 = .ok (.aload_n 0, 1) := by decide +kernel
theorem dX12_number_151 : decode cX12_number 151 = .ok (.iconst 2, 1) := by decide +kernel
theorem dX12_number_152 : decode cX12_number 152 = .ok (.iload_n 3, 1) := by decide +kernel
theorem dX12_number_153 : decode cX12_number 153 = .ok (.invokevirtual 159, 3) := by decide +kernel
theorem dX12_number_156 : decode cX12_number 156 = .ok (.iload 4, 2) := by decide +kernel
theorem dX12_number_158 : decode cX12_number 158 = .ok (.ireturn, 1) := by decide +kernel
theorem dX12_ownHere_0 : decode cX12_ownHere 0 = .ok (.aload_n 0, 1) := by decide +kernel
theorem dX12_ownHere_1 : decode cX12_ownHere 1 = .ok (.invokevirtual 166, 3) := by decide +kernel
theorem dX12_ownHere_4 : decode cX12_ownHere 4 = .ok (.ifCond .ne 5, 3) := by decide +kernel
theorem dX12_ownHere_7 : decode cX12_ownHere 7 = .ok (.iconst (-1), 1) := by decide +kernel
theorem dX12_ownHere_8 : decode cX12_ownHere 8 = .ok (.ireturn, 1) := by decide +kernel
theorem dX12_ownHere_9 : decode cX12_ownHere 9 = .ok (.iconst 0, 1) := by decide +kernel
theorem dX12_ownHere_10 : decode cX12_ownHere 10 = .ok (.istore_n 1, 1) := by decide +kernel
theorem dX12_ownHere_11 : decode cX12_ownHere 11 = .ok (.aload_n 0, 1) := by decide +kernel
theorem dX12_ownHere_12 : decode cX12_ownHere 12 = .ok (.getfield 140, 3) := by decide +kernel
theorem dX12_ownHere_15 : decode cX12_ownHere 15 = .ok (.iload_n 1, 1) := by decide +kernel
theorem dX12_ownHere_16 : decode cX12_ownHere 16 = .ok (.iadd, 1) := by decide +kernel
theorem dX12_ownHere_17 : decode cX12_ownHere 17 = .ok (.aload_n 0, 1) := by decide +kernel
theorem dX12_ownHere_18 : decode cX12_ownHere 18 = .ok (.getfield 143, 3) := by decide +kernel
theorem dX12_ownHere_21 : decode cX12_ownHere 21 = .ok (.if_icmp .ge 26, 3) := by decide +kernel
theorem dX12_ownHere_24 : decode cX12_ownHere 24 = .ok (.aload_n 0, 1) := by decide +kernel
theorem dX12_ownHere_25 : decode cX12_ownHere 25 = .ok (.getfield 7, 3) := by decide +kernel
theorem dX12_ownHere_28 : decode cX12_ownHere 28 = .ok (.aload_n 0, 1) := by decide +kernel
theorem dX12_ownHere_29 : decode cX12_ownHere 29 = .ok (.getfield 140, 3) := by decide +kernel
theorem dX12_ownHere_32 : decode cX12_ownHere 32 = .ok (.iload_n 1, 1) := by decide +kernel
theorem dX12_ownHere_33 : decode cX12_ownHere 33 = .ok (.iadd, 1) := by decide +kernel
theorem dX12_ownHere_34 : decode cX12_ownHere 34 = .ok (.iaload, 1) := by decide +kernel
theorem dX12_ownHere_35 : decode cX12_ownHere 35 = .ok (.invokestatic 150, 3) := by decide +kernel
theorem dX12_ownHere_38 : decode cX12_ownHere 38 = .ok (.ifCond .eq 9, 3) := by decide +kernel
theorem dX12_ownHere_41 : decode cX12_ownHere 41 = .ok (.iinc 1 1, 3) := by decide +kernel
theorem dX12_ownHere_44 : decode cX12_ownHere 44 = .ok (.goto (-33), 3) := by decide +kernel
theorem dX12_ownHere_47 : decode cX12_ownHere 47 = .ok (.iconst 0, 1) := by decide +kernel
theorem dX12_ownHere_48 : decode cX12_ownHere 48 = .ok (.istore_n 2, 1) := by decide +kernel
theorem dX12_ownHere_49 : decode cX12_ownHere 49 = .ok (.iconst 0, 1) := by decide +kernel
theorem dX12_ownHere_50 : decode cX12_ownHere 50 = .ok (.istore_n 3, 1) := by decide +kernel
theorem dX12_ownHere_51 : decode cX12_ownHere 51 = .ok (.iconst 0, 1) := by decide +kernel
theorem dX12_ownHere_52 : decode cX12_ownHere 52 = .ok (.istore 4, 2) := by decide +kernel
theorem dX12_ownHere_54 : decode cX12_ownHere 54 = .ok (.iload 4, 2) := by decide +kernel
theorem dX12_ownHere_56 : decode cX12_ownHere 56 = .ok (.aload_n 0, 1) := by decide +kernel
theorem dX12_ownHere_57 : decode cX12_ownHere 57 = .ok (.getfield 20, 3) := by decide +kernel
theorem dX12_ownHere_60 : decode cX12_ownHere 60 = .ok (.arraylength, 1) := by decide +kernel
theorem dX12_ownHere_61 : decode cX12_ownHere 61 = .ok (.if_icmp .ge 48, 3) := by decide +kernel
theorem dX12_ownHere_64 : decode cX12_ownHere 64 = .ok (.aload_n 0, 1) := by decide +kernel
theorem dX12_ownHere_65 : decode cX12_ownHere 65 = .ok (.getfield 20, 3) := by decide +kernel
theorem dX12_ownHere_68 : decode cX12_ownHere 68 = .ok (.iload 4, 2) := by decide +kernel
theorem dX12_ownHere_70 : decode cX12_ownHere 70 = .ok (.caload, 1) := by decide +kernel
theorem dX12_ownHere_71 : decode cX12_ownHere 71 = .ok (.bipush 32, 2) := by decide +kernel
theorem dX12_ownHere_73 : decode cX12_ownHere 73 = .ok (.if_icmp .ne 30, 3) := by decide +kernel
theorem dX12_ownHere_76 : decode cX12_ownHere 76 = .ok (.iload 4, 2) := by decide +kernel
theorem dX12_ownHere_78 : decode cX12_ownHere 78 = .ok (.iload_n 3, 1) := by decide +kernel
theorem dX12_ownHere_79 : decode cX12_ownHere 79 = .ok (.isub, 1) := by decide +kernel
theorem dX12_ownHere_80 : decode cX12_ownHere 80 = .ok (.iload_n 1, 1) := by decide +kernel
theorem dX12_ownHere_81 : decode cX12_ownHere 81 = .ok (.if_icmp .ne 14, 3) := by decide +kernel
theorem dX12_ownHere_84 : decode cX12_ownHere 84 = .ok (.aload_n 0, 1) := by decide +kernel
theorem dX12_ownHere_85 : decode cX12_ownHere 85 = .ok (.iload_n 3, 1) := by decide +kernel
theorem dX12_ownHere_86 : decode cX12_ownHere 86 = .ok (.iload_n 1, 1) := by decide +kernel
theorem dX12_ownHere_87 : decode cX12_ownHere 87 = .ok (.invokevirtual 170, 3) := by decide +kernel
theorem dX12_ownHere_90 : decode cX12_ownHere 90 = .ok (.ifCond .eq 5, 3) := by decide +kernel
theorem dX12_ownHere_93 : decode cX12_ownHere 93 = .ok (.iload_n 2, 1) := by decide +kernel
theorem dX12_ownHere_94 : decode cX12_ownHere 94 = .ok (.ireturn, 1) := by decide +kernel
theorem dX12_ownHere_95 : decode cX12_ownHere 95 = .ok (.iinc 2 1, 3) := by decide +kernel
theorem dX12_ownHere_98 : decode cX12_ownHere 98 = .ok (.iload 4, 2) := by decide +kernel
theorem dX12_ownHere_100 : decode cX12_ownHere 100 = .ok (.iconst 1, 1) := by decide +kernel
theorem dX12_ownHere_101 : decode cX12_ownHere 101 = .ok (.iadd, 1) := by decide +kernel
theorem dX12_ownHere_102 : decode cX12_ownHere 102 = .ok (.istore_n 3, 1) := by decide +kernel
theorem dX12_ownHere_103 : decode cX12_ownHere 103 = .ok (.iinc 4 1, 3) := by decide +kernel
theorem dX12_ownHere_106 : decode cX12_ownHere 106 = .ok (.goto (-52), 3) := by decide +kernel
theorem dX12_ownHere_109 : decode cX12_ownHere 109 = .ok (.iconst (-1), 1) := by decide +kernel
theorem dX12_ownHere_110 : decode cX12_ownHere 110 = .ok (.ireturn, 1) := by decide +kernel
theorem dX12_isLike_0 : decode cX12_isLike 0 = .ok (.iconst 0, 1) := by decide +kernel
theorem dX12_isLike_1 : decode cX12_isLike 1 = .ok (.istore_n 3, 1) := by decide +kernel
theorem dX12_isLike_2 : decode cX12_isLike 2 = .ok (.iload_n 3, 1) := by decide +kernel
theorem dX12_isLike_3 : decode cX12_isLike 3 = .ok (.iload_n 2, 1) := by decide +kernel
theorem dX12_isLike_4 : decode cX12_isLike 4 = .ok (.if_icmp .ge 33, 3) := by decide +kernel
theorem dX12_isLike_7 : decode cX12_isLike 7 = .ok (.aload_n 0, 1) := by decide +kernel
theorem dX12_isLike_8 : decode cX12_isLike 8 = .ok (.getfield 20, 3) := by decide +kernel
theorem dX12_isLike_11 : decode cX12_isLike 11 = .ok (.iload_n 1, 1) := by decide +kernel
theorem dX12_isLike_12 : decode cX12_isLike 12 = .ok (.iload_n 3, 1) := by decide +kernel
theorem dX12_isLike_13 : decode cX12_isLike 13 = .ok (.iadd, 1) := by decide +kernel
theorem dX12_isLike_14 : decode cX12_isLike 14 = .ok (.caload, 1) := by decide +kernel
theorem dX12_isLike_15 : decode cX12_isLike 15 = .ok (.aload_n 0, 1) := by decide +kernel
theorem dX12_isLike_16 : decode cX12_isLike 16 = .ok (.getfield 7, 3) := by decide +kernel
theorem dX12_isLike_19 : decode cX12_isLike 19 = .ok (.aload_n 0, 1) := by decide +kernel
theorem dX12_isLike_20 : decode cX12_isLike 20 = .ok (.getfield 140, 3) := by decide +kernel
theorem dX12_isLike_23 : decode cX12_isLike 23 = .ok (.iload_n 3, 1) := by decide +kernel
theorem dX12_isLike_24 : decode cX12_isLike 24 = .ok (.iadd, 1) := by decide +kernel
theorem dX12_isLike_25 : decode cX12_isLike 25 = .ok (.iaload, 1) := by decide +kernel
theorem dX12_isLike_26 : decode cX12_isLike 26 = .ok (.if_icmp .eq 5, 3) := by decide +kernel
theorem dX12_isLike_29 : decode cX12_isLike 29 = .ok (.iconst 0, 1) := by decide +kernel
theorem dX12_isLike_30 : decode cX12_isLike 30 = .ok (.ireturn, 1) := by decide +kernel
theorem dX12_isLike_31 : decode cX12_isLike 31 = .ok (.iinc 3 1, 3) := by decide +kernel
theorem dX12_isLike_34 : decode cX12_isLike 34 = .ok (.goto (-32), 3) := by decide +kernel
theorem dX12_isLike_37 : decode cX12_isLike 37 = .ok (.iconst 1, 1) := by decide +kernel
theorem dX12_isLike_38 : decode cX12_isLike 38 = .ok (.ireturn, 1) := by decide +kernel
theorem dX12_takes_0 : decode cX12_takes 0 = .ok (.aload_n 0, 1) := by decide +kernel
theorem dX12_takes_1 : decode cX12_takes 1 = .ok (.invokevirtual 174, 3) := by decide +kernel
theorem dX12_takes_4 : decode cX12_takes 4 = .ok (.iload_n 1, 1) := by decide +kernel
theorem dX12_takes_5 : decode cX12_takes 5 = .ok (.if_icmp .eq 5, 3) := by decide +kernel
theorem dX12_takes_8 : decode cX12_takes 8 = .ok (.iconst 0, 1) := by decide +kernel
theorem dX12_takes_9 : decode cX12_takes 9 = .ok (.ireturn, 1) := by decide +kernel
theorem dX12_takes_10 : decode cX12_takes 10 = .ok (.aload_n 0, 1) := by decide +kernel
theorem dX12_takes_11 : decode cX12_takes 11 = .ok (.getfield 140, 3) := by decide +kernel
theorem dX12_takes_14 : decode cX12_takes 14 = .ok (.aload_n 0, 1) := by decide +kernel
theorem dX12_takes_15 : decode cX12_takes 15 = .ok (.getfield 143, 3) := by decide +kernel
theorem dX12_takes_18 : decode cX12_takes 18 = .ok (.if_icmp .ge 31, 3) := by decide +kernel
theorem dX12_takes_21 : decode cX12_takes 21 = .ok (.aload_n 0, 1) := by decide +kernel
theorem dX12_takes_22 : decode cX12_takes 22 = .ok (.getfield 7, 3) := by decide +kernel
theorem dX12_takes_25 : decode cX12_takes 25 = .ok (.aload_n 0, 1) := by decide +kernel
theorem dX12_takes_26 : decode cX12_takes 26 = .ok (.getfield 140, 3) := by decide +kernel
theorem dX12_takes_29 : decode cX12_takes 29 = .ok (.iaload, 1) := by decide +kernel
theorem dX12_takes_30 : decode cX12_takes 30 = .ok (.invokestatic 150, 3) := by decide +kernel
theorem dX12_takes_33 : decode cX12_takes 33 = .ok (.ifCond .eq 16, 3) := by decide +kernel
theorem dX12_takes_36 : decode cX12_takes 36 = .ok (.aload_n 0, 1) := by decide +kernel
theorem dX12_takes_37 : decode cX12_takes 37 = .ok (.dup, 1) := by decide +kernel
theorem dX12_takes_38 : decode cX12_takes 38 = .ok (.getfield 140, 3) := by decide +kernel
theorem dX12_takes_41 : decode cX12_takes 41 = .ok (.iconst 1, 1) := by decide +kernel
theorem dX12_takes_42 : decode cX12_takes 42 = .ok (.iadd, 1) := by decide +kernel
theorem dX12_takes_43 : decode cX12_takes 43 = .ok (.putfield 140, 3) := by decide +kernel
theorem dX12_takes_46 : decode cX12_takes 46 = .ok (.goto (-36), 3) := by decide +kernel
theorem dX12_takes_49 : decode cX12_takes 49 = .ok (.aload_n 0, 1) := by decide +kernel
theorem dX12_takes_50 : decode cX12_takes 50 = .ok (.aload_n 0, 1) := by decide +kernel
theorem dX12_takes_51 : decode cX12_takes 51 = .ok (.getfield 140, 3) := by decide +kernel
theorem dX12_takes_54 : decode cX12_takes 54 = .ok (.putfield 153, 3) := by decide +kernel
theorem dX12_takes_57 : decode cX12_takes 57 = .ok (.iconst 1, 1) := by decide +kernel
theorem dX12_takes_58 : decode cX12_takes 58 = .ok (.ireturn, 1) := by decide +kernel
theorem dX12_asks_0 : decode cX12_asks 0 = .ok (.aload_n 0, 1) := by decide +kernel
theorem dX12_asks_1 : decode cX12_asks 1 = .ok (.getfield 134, 3) := by decide +kernel
theorem dX12_asks_4 : decode cX12_asks 4 = .ok (.ifCond .ne 20, 3) := by decide +kernel
theorem dX12_asks_7 : decode cX12_asks 7 = .ok (.aload_n 0, 1) := by decide +kernel
theorem dX12_asks_8 : decode cX12_asks 8 = .ok (.iload_n 1, 1) := by decide +kernel
theorem dX12_asks_9 : decode cX12_asks 9 = .ok (.invokevirtual 177, 3) := by decide +kernel
theorem dX12_asks_12 : decode cX12_asks 12 = .ok (.ifCond .ne 12, 3) := by decide +kernel
theorem dX12_asks_15 : decode cX12_asks 15 = .ok (.aload_n 0, 1) := by decide +kernel
theorem dX12_asks_16 : decode cX12_asks 16 = .ok (.iconst 1, 1) := by decide +kernel
theorem dX12_asks_17 : decode cX12_asks 17 = .ok (.aload_n 0, 1) := by decide +kernel
theorem dX12_asks_18 : decode cX12_asks 18 = .ok (.getfield 140, 3) := by decide +kernel
theorem dX12_asks_21 : decode cX12_asks 21 = .ok (.invokevirtual 159, 3) := by decide +kernel
theorem dX12_asks_24 : decode cX12_asks 24 = .ok (.return_, 1) := by decide +kernel
theorem dX12_name_0 : decode cX12_name 0 = .ok (.aload_n 0, 1) := by decide +kernel
theorem dX12_name_1 : decode cX12_name 1 = .ok (.getfield 134, 3) := by decide +kernel
theorem dX12_name_4 : decode cX12_name 4 = .ok (.ifCond .eq 5, 3) := by decide +kernel
theorem dX12_name_7 : decode cX12_name 7 = .ok (.iconst 0, 1) := by decide +kernel
theorem dX12_name_8 : decode cX12_name 8 = .ok (.ireturn, 1) := by decide +kernel
theorem dX12_name_9 : decode cX12_name 9 = .ok (.aload_n 0, 1) := by decide +kernel
theorem dX12_name_10 : decode cX12_name 10 = .ok (.invokevirtual 166, 3) := by decide +kernel
theorem dX12_name_13 : decode cX12_name 13 = .ok (.ifCond .eq 11, 3) := by decide +kernel
theorem dX12_name_16 : decode cX12_name 16 = .ok (.aload_n 0, 1) := by decide +kernel
theorem dX12_name_17 : decode cX12_name 17 = .ok (.invokevirtual 174, 3) := by decide +kernel
theorem dX12_name_20 : decode cX12_name 20 = .ok (.iconst (-1), 1) := by decide +kernel
theorem dX12_name_21 : decode cX12_name 21 = .ok (.if_icmp .eq 29, 3) := by decide +kernel
theorem dX12_name_24 : decode cX12_name 24 = .ok (.aload_n 0, 1) := by decide +kernel
theorem dX12_name_25 : decode cX12_name 25 = .ok (.iconst 1, 1) := by decide +kernel
theorem dX12_name_26 : decode cX12_name 26 = .ok (.aload_n 0, 1) := by decide +kernel
theorem dX12_name_27 : decode cX12_name 27 = .ok (.invokevirtual 146, 3) := by decide +kernel
theorem dX12_name_30 : decode cX12_name 30 = .ok (.iconst (-1), 1) := by decide +kernel
theorem dX12_name_31 : decode cX12_name 31 = .ok (.if_icmp .ne 10, 3) := by decide +kernel
theorem dX12_name_34 : decode cX12_name 34 = .ok (.aload_n 0, 1) := by decide +kernel
theorem dX12_name_35 : decode cX12_name 35 = .ok (.getfield 143, 3) := by decide +kernel
theorem dX12_name_38 : decode cX12_name 38 = .ok (.goto 7, 3) := by decide +kernel
theorem dX12_name_41 : decode cX12_name 41 = .ok (.aload_n 0, 1) := by decide +kernel
theorem dX12_name_42 : decode cX12_name 42 = .ok (.getfield 140, 3) := by decide +kernel
theorem dX12_name_45 : decode cX12_name 45 = .ok (.invokevirtual 159, 3) := by decide +kernel
theorem dX12_name_48 : decode cX12_name 48 = .ok (.iconst 0, 1) := by decide +kernel
theorem dX12_name_49 : decode cX12_name 49 = .ok (.ireturn, 1) := by decide +kernel
theorem dX12_name_50 : decode cX12_name 50 = .ok (.aload_n 0, 1) := by decide +kernel
theorem dX12_name_51 : decode cX12_name 51 = .ok (.aload_n 0, 1) := by decide +kernel
theorem dX12_name_52 : decode cX12_name 52 = .ok (.getfield 140, 3) := by decide +kernel
theorem dX12_name_55 : decode cX12_name 55 = .ok (.putfield 180, 3) := by decide +kernel
theorem dX12_name_58 : decode cX12_name 58 = .ok (.iconst 0, 1) := by decide +kernel
theorem dX12_name_59 : decode cX12_name 59 = .ok (.istore_n 1, 1) := by decide +kernel
theorem dX12_name_60 : decode cX12_name 60 = .ok (.aload_n 0, 1) := by decide +kernel
theorem dX12_name_61 : decode cX12_name 61 = .ok (.getfield 140, 3) := by decide +kernel
theorem dX12_name_64 : decode cX12_name 64 = .ok (.aload_n 0, 1) := by decide +kernel
theorem dX12_name_65 : decode cX12_name 65 = .ok (.getfield 143, 3) := by decide +kernel
theorem dX12_name_68 : decode cX12_name 68 = .ok (.if_icmp .ge 76, 3) := by decide +kernel
theorem dX12_name_71 : decode cX12_name 71 = .ok (.aload_n 0, 1) := by decide +kernel
theorem dX12_name_72 : decode cX12_name 72 = .ok (.getfield 7, 3) := by decide +kernel
theorem dX12_name_75 : decode cX12_name 75 = .ok (.aload_n 0, 1) := by decide +kernel
theorem dX12_name_76 : decode cX12_name 76 = .ok (.getfield 140, 3) := by decide +kernel
theorem dX12_name_79 : decode cX12_name 79 = .ok (.iaload, 1) := by decide +kernel
theorem dX12_name_80 : decode cX12_name 80 = .ok (.invokestatic 150, 3) := by decide +kernel
theorem dX12_name_83 : decode cX12_name 83 = .ok (.ifCond .eq 61, 3) := by decide +kernel
theorem dX12_name_86 : decode cX12_name 86 = .ok (.aload_n 0, 1) := by decide +kernel
theorem dX12_name_87 : decode cX12_name 87 = .ok (.getfield 140, 3) := by decide +kernel
theorem dX12_name_90 : decode cX12_name 90 = .ok (.aload_n 0, 1) := by decide +kernel
theorem dX12_name_91 : decode cX12_name 91 = .ok (.getfield 180, 3) := by decide +kernel
theorem dX12_name_94 : decode cX12_name 94 = .ok (.isub, 1) := by decide +kernel
theorem dX12_name_95 : decode cX12_name 95 = .ok (.bipush 6, 2) := by decide +kernel
theorem dX12_name_97 : decode cX12_name 97 = .ok (.if_icmp .ne 14, 3) := by decide +kernel
theorem dX12_name_100 : decode cX12_name 100 = .ok (.aload_n 0, 1) := by decide +kernel
theorem dX12_name_101 : decode cX12_name 101 = .ok (.iconst 1, 1) := by decide +kernel
theorem dX12_name_102 : decode cX12_name 102 = .ok (.aload_n 0, 1) := by decide +kernel
theorem dX12_name_103 : decode cX12_name 103 = .ok (.getfield 140, 3) := by decide +kernel
theorem dX12_name_106 : decode cX12_name 106 = .ok (.invokevirtual 159, 3) := by decide +kernel
theorem dX12_name_109 : decode cX12_name 109 = .ok (.iconst 0, 1) := by decide +kernel
theorem dX12_name_110 : decode cX12_name 110 = .ok (.ireturn, 1) := by decide +kernel
theorem dX12_name_111 : decode cX12_name 111 = .ok (.bipush 27, 2) := by decide +kernel
theorem dX12_name_113 : decode cX12_name 113 = .ok (.iload_n 1, 1) := by decide +kernel
theorem dX12_name_114 : decode cX12_name 114 = .ok (.imul, 1) := by decide +kernel
theorem dX12_name_115 : decode cX12_name 115 = .ok (.aload_n 0, 1) := by decide +kernel
theorem dX12_name_116 : decode cX12_name 116 = .ok (.getfield 7, 3) := by decide +kernel
theorem dX12_name_119 : decode cX12_name 119 = .ok (.aload_n 0, 1) := by decide +kernel
theorem dX12_name_120 : decode cX12_name 120 = .ok (.getfield 140, 3) := by decide +kernel
theorem dX12_name_123 : decode cX12_name 123 = .ok (.iaload, 1) := by decide +kernel
theorem dX12_name_124 : decode cX12_name 124 = .ok (.iadd, 1) := by decide +kernel
theorem dX12_name_125 : decode cX12_name 125 = .ok (.bipush 97, 2) := by decide +kernel
theorem dX12_name_127 : decode cX12_name 127 = .ok (.isub, 1) := by decide +kernel
theorem dX12_name_128 : decode cX12_name 128 = .ok (.iconst 1, 1) := by decide +kernel
theorem dX12_name_129 : decode cX12_name 129 = .ok (.iadd, 1) := by decide +kernel
theorem dX12_name_130 : decode cX12_name 130 = .ok (.istore_n 1, 1) := by decide +kernel
theorem dX12_name_131 : decode cX12_name 131 = .ok (.aload_n 0, 1) := by decide +kernel
theorem dX12_name_132 : decode cX12_name 132 = .ok (.dup, 1) := by decide +kernel
theorem dX12_name_133 : decode cX12_name 133 = .ok (.getfield 140, 3) := by decide +kernel
theorem dX12_name_136 : decode cX12_name 136 = .ok (.iconst 1, 1) := by decide +kernel
theorem dX12_name_137 : decode cX12_name 137 = .ok (.iadd, 1) := by decide +kernel
theorem dX12_name_138 : decode cX12_name 138 = .ok (.putfield 140, 3) := by decide +kernel
theorem dX12_name_141 : decode cX12_name 141 = .ok (.goto (-81), 3) := by decide +kernel
theorem dX12_name_144 : decode cX12_name 144 = .ok (.aload_n 0, 1) := by decide +kernel
theorem dX12_name_145 : decode cX12_name 145 = .ok (.aload_n 0, 1) := by decide +kernel
theorem dX12_name_146 : decode cX12_name 146 = .ok (.getfield 140, 3) := by decide +kernel
theorem dX12_name_149 : decode cX12_name 149 = .ok (.putfield 153, 3) := by decide +kernel
theorem dX12_name_152 : decode cX12_name 152 = .ok (.iload_n 1, 1) := by decide +kernel
theorem dX12_name_153 : decode cX12_name 153 = .ok (.ireturn, 1) := by decide +kernel
theorem dX12_named_0 : decode cX12_named 0 = .ok (.iconst 0, 1) := by decide +kernel
theorem dX12_named_1 : decode cX12_named 1 = .ok (.istore 4, 2) := by decide +kernel
theorem dX12_named_3 : decode cX12_named 3 = .ok (.iload 4, 2) := by decide +kernel
theorem dX12_named_5 : decode cX12_named 5 = .ok (.iload_n 2, 1) := by decide +kernel
theorem dX12_named_6 : decode cX12_named 6 = .ok (.if_icmp .ge 22, 3) := by decide +kernel
theorem dX12_named_9 : decode cX12_named 9 = .ok (.aload_n 0, 1) := by decide +kernel
theorem dX12_named_10 : decode cX12_named 10 = .ok (.iload_n 1, 1) := by decide +kernel
theorem dX12_named_11 : decode cX12_named 11 = .ok (.iload 4, 2) := by decide +kernel
theorem dX12_named_13 : decode cX12_named 13 = .ok (.iadd, 1) := by decide +kernel
theorem dX12_named_14 : decode cX12_named 14 = .ok (.iaload, 1) := by decide +kernel
theorem dX12_named_15 : decode cX12_named 15 = .ok (.iload_n 3, 1) := by decide +kernel
theorem dX12_named_16 : decode cX12_named 16 = .ok (.if_icmp .ne 6, 3) := by decide +kernel
theorem dX12_named_19 : decode cX12_named 19 = .ok (.iload 4, 2) := by decide +kernel
theorem dX12_named_21 : decode cX12_named 21 = .ok (.ireturn, 1) := by decide +kernel
theorem dX12_named_22 : decode cX12_named 22 = .ok (.iinc 4 1, 3) := by decide +kernel
theorem dX12_named_25 : decode cX12_named 25 = .ok (.goto (-22), 3) := by decide +kernel
theorem dX12_named_28 : decode cX12_named 28 = .ok (.iconst (-1), 1) := by decide +kernel
theorem dX12_named_29 : decode cX12_named 29 = .ok (.ireturn, 1) := by decide +kernel
theorem dX12_reachAt_0 : decode cX12_reachAt 0 = .ok (.bipush 33, 2) := by decide +kernel
theorem dX12_reachAt_2 : decode cX12_reachAt 2 = .ok (.iconst 5, 1) := by decide +kernel
theorem dX12_reachAt_3 : decode cX12_reachAt 3 = .ok (.iload_n 0, 1) := by decide +kernel
theorem dX12_reachAt_4 : decode cX12_reachAt 4 = .ok (.imul, 1) := by decide +kernel
theorem dX12_reachAt_5 : decode cX12_reachAt 5 = .ok (.iadd, 1) := by decide +kernel
theorem dX12_reachAt_6 : decode cX12_reachAt 6 = .ok (.iload_n 1, 1) := by decide +kernel
theorem dX12_reachAt_7 : decode cX12_reachAt 7 = .ok (.iadd, 1) := by decide +kernel
theorem dX12_reachAt_8 : decode cX12_reachAt 8 = .ok (.ireturn, 1) := by decide +kernel
theorem dX12_comes_0 : decode cX12_comes 0 = .ok (.iconst 1, 1) := by decide +kernel
theorem dX12_comes_1 : decode cX12_comes 1 = .ok (.iload_n 1, 1) := by decide +kernel
theorem dX12_comes_2 : decode cX12_comes 2 = .ok (.ishl, 1) := by decide +kernel
theorem dX12_comes_3 : decode cX12_comes 3 = .ok (.istore 4, 2) := by decide +kernel
theorem dX12_comes_5 : decode cX12_comes 5 = .ok (.iconst 0, 1) := by decide +kernel
theorem dX12_comes_6 : decode cX12_comes 6 = .ok (.istore 5, 2) := by decide +kernel
theorem dX12_comes_8 : decode cX12_comes 8 = .ok (.iload 5, 2) := by decide +kernel
theorem dX12_comes_10 : decode cX12_comes 10 = .ok (.iload 4, 2) := by decide +kernel
theorem dX12_comes_12 : decode cX12_comes 12 = .ok (.if_icmp .eq 64, 3) := by decide +kernel
theorem dX12_comes_15 : decode cX12_comes 15 = .ok (.iload 4, 2) := by decide +kernel
theorem dX12_comes_17 : decode cX12_comes 17 = .ok (.istore 5, 2) := by decide +kernel
theorem dX12_comes_19 : decode cX12_comes 19 = .ok (.iconst 0, 1) := by decide +kernel
theorem dX12_comes_20 : decode cX12_comes 20 = .ok (.istore 6, 2) := by decide +kernel
theorem dX12_comes_22 : decode cX12_comes 22 = .ok (.iload 6, 2) := by decide +kernel
theorem dX12_comes_24 : decode cX12_comes 24 = .ok (.aload_n 0, 1) := by decide +kernel
theorem dX12_comes_25 : decode cX12_comes 25 = .ok (.iconst 1, 1) := by decide +kernel
theorem dX12_comes_26 : decode cX12_comes 26 = .ok (.iaload, 1) := by decide +kernel
theorem dX12_comes_27 : decode cX12_comes 27 = .ok (.if_icmp .ge 46, 3) := by decide +kernel
theorem dX12_comes_30 : decode cX12_comes 30 = .ok (.iload 6, 2) := by decide +kernel
theorem dX12_comes_32 : decode cX12_comes 32 = .ok (.iload_n 3, 1) := by decide +kernel
theorem dX12_comes_33 : decode cX12_comes 33 = .ok (.if_icmp .eq 34, 3) := by decide +kernel
theorem dX12_comes_36 : decode cX12_comes 36 = .ok (.iload 4, 2) := by decide +kernel
theorem dX12_comes_38 : decode cX12_comes 38 = .ok (.aload_n 0, 1) := by decide +kernel
theorem dX12_comes_39 : decode cX12_comes 39 = .ok (.iload 6, 2) := by decide +kernel
theorem dX12_comes_41 : decode cX12_comes 41 = .ok (.iconst 0, 1) := by decide +kernel
theorem dX12_comes_42 : decode cX12_comes 42 = .ok (.invokestatic 183, 3) := by decide +kernel
theorem dX12_comes_45 : decode cX12_comes 45 = .ok (.iaload, 1) := by decide +kernel
theorem dX12_comes_46 : decode cX12_comes 46 = .ok (.invokestatic 187, 3) := by decide +kernel
theorem dX12_comes_49 : decode cX12_comes 49 = .ok (.ifCond .eq 18, 3) := by decide +kernel
theorem dX12_comes_52 : decode cX12_comes 52 = .ok (.iload 4, 2) := by decide +kernel
theorem dX12_comes_54 : decode cX12_comes 54 = .ok (.iconst 1, 1) := by decide +kernel
theorem dX12_comes_55 : decode cX12_comes 55 = .ok (.aload_n 0, 1) := by decide +kernel
theorem dX12_comes_56 : decode cX12_comes 56 = .ok (.iload 6, 2) := by decide +kernel
theorem dX12_comes_58 : decode cX12_comes 58 = .ok (.iconst 1, 1) := by decide +kernel
theorem dX12_comes_59 : decode cX12_comes 59 = .ok (.invokestatic 183, 3) := by decide +kernel
theorem dX12_comes_62 : decode cX12_comes 62 = .ok (.iaload, 1) := by decide +kernel
theorem dX12_comes_63 : decode cX12_comes 63 = .ok (.ishl, 1) := by decide +kernel
theorem dX12_comes_64 : decode cX12_comes 64 = .ok (.ior, 1) := by decide +kernel
theorem dX12_comes_65 : decode cX12_comes 65 = .ok (.istore 4, 2) := by decide +kernel
theorem dX12_comes_67 : decode cX12_comes 67 = .ok (.iinc 6 1, 3) := by decide +kernel
theorem dX12_comes_70 : decode cX12_comes 70 = .ok (.goto (-48), 3) := by decide +kernel
theorem dX12_comes_73 : decode cX12_comes 73 = .ok (.goto (-65), 3) := by decide +kernel
theorem dX12_comes_76 : decode cX12_comes 76 = .ok (.iload 4, 2) := by decide +kernel
theorem dX12_comes_78 : decode cX12_comes 78 = .ok (.iload_n 2, 1) := by decide +kernel
theorem dX12_comes_79 : decode cX12_comes 79 = .ok (.invokestatic 187, 3) := by decide +kernel
theorem dX12_comes_82 : decode cX12_comes 82 = .ok (.ireturn, 1) := by decide +kernel
theorem dX12_laysReach_0 : decode cX12_laysReach 0 = .ok (.aload_n 0, 1) := by decide +kernel
theorem dX12_laysReach_1 : decode cX12_laysReach 1 = .ok (.iconst 1, 1) := by decide +kernel
theorem dX12_laysReach_2 : decode cX12_laysReach 2 = .ok (.iaload, 1) := by decide +kernel
theorem dX12_laysReach_3 : decode cX12_laysReach 3 = .ok (.istore 6, 2) := by decide +kernel
theorem dX12_laysReach_5 : decode cX12_laysReach 5 = .ok (.aload_n 0, 1) := by decide +kernel
theorem dX12_laysReach_6 : decode cX12_laysReach 6 = .ok (.iload 6, 2) := by decide +kernel
theorem dX12_laysReach_8 : decode cX12_laysReach 8 = .ok (.iconst 0, 1) := by decide +kernel
theorem dX12_laysReach_9 : decode cX12_laysReach 9 = .ok (.invokestatic 183, 3) := by decide +kernel
theorem dX12_laysReach_12 : decode cX12_laysReach 12 = .ok (.iload_n 1, 1) := by decide +kernel
theorem dX12_laysReach_13 : decode cX12_laysReach 13 = .ok (.iastore, 1) := by decide +kernel
theorem dX12_laysReach_14 : decode cX12_laysReach 14 = .ok (.aload_n 0, 1) := by decide +kernel
theorem dX12_laysReach_15 : decode cX12_laysReach 15 = .ok (.iload 6, 2) := by decide +kernel
theorem dX12_laysReach_17 : decode cX12_laysReach 17 = .ok (.iconst 1, 1) := by decide +kernel
theorem dX12_laysReach_18 : decode cX12_laysReach 18 = .ok (.invokestatic 183, 3) := by decide +kernel
theorem dX12_laysReach_21 : decode cX12_laysReach 21 = .ok (.iload_n 2, 1) := by decide +kernel
theorem dX12_laysReach_22 : decode cX12_laysReach 22 = .ok (.iastore, 1) := by decide +kernel
theorem dX12_laysReach_23 : decode cX12_laysReach 23 = .ok (.aload_n 0, 1) := by decide +kernel
theorem dX12_laysReach_24 : decode cX12_laysReach 24 = .ok (.iload 6, 2) := by decide +kernel
theorem dX12_laysReach_26 : decode cX12_laysReach 26 = .ok (.iconst 2, 1) := by decide +kernel
theorem dX12_laysReach_27 : decode cX12_laysReach 27 = .ok (.invokestatic 183, 3) := by decide +kernel
theorem dX12_laysReach_30 : decode cX12_laysReach 30 = .ok (.iload_n 3, 1) := by decide +kernel
theorem dX12_laysReach_31 : decode cX12_laysReach 31 = .ok (.iastore, 1) := by decide +kernel
theorem dX12_laysReach_32 : decode cX12_laysReach 32 = .ok (.aload_n 0, 1) := by decide +kernel
theorem dX12_laysReach_33 : decode cX12_laysReach 33 = .ok (.iload 6, 2) := by decide +kernel
theorem dX12_laysReach_35 : decode cX12_laysReach 35 = .ok (.iconst 3, 1) := by decide +kernel
theorem dX12_laysReach_36 : decode cX12_laysReach 36 = .ok (.invokestatic 183, 3) := by decide +kernel
theorem dX12_laysReach_39 : decode cX12_laysReach 39 = .ok (.iload 4, 2) := by decide +kernel
theorem dX12_laysReach_41 : decode cX12_laysReach 41 = .ok (.iastore, 1) := by decide +kernel
theorem dX12_laysReach_42 : decode cX12_laysReach 42 = .ok (.aload_n 0, 1) := by decide +kernel
theorem dX12_laysReach_43 : decode cX12_laysReach 43 = .ok (.iload 6, 2) := by decide +kernel
theorem dX12_laysReach_45 : decode cX12_laysReach 45 = .ok (.iconst 4, 1) := by decide +kernel
theorem dX12_laysReach_46 : decode cX12_laysReach 46 = .ok (.invokestatic 183, 3) := by decide +kernel
theorem dX12_laysReach_49 : decode cX12_laysReach 49 = .ok (.iload 5, 2) := by decide +kernel
theorem dX12_laysReach_51 : decode cX12_laysReach 51 = .ok (.iastore, 1) := by decide +kernel
theorem dX12_laysReach_52 : decode cX12_laysReach 52 = .ok (.aload_n 0, 1) := by decide +kernel
theorem dX12_laysReach_53 : decode cX12_laysReach 53 = .ok (.iconst 1, 1) := by decide +kernel
theorem dX12_laysReach_54 : decode cX12_laysReach 54 = .ok (.dup2, 1) := by decide +kernel
theorem dX12_laysReach_55 : decode cX12_laysReach 55 = .ok (.iaload, 1) := by decide +kernel
theorem dX12_laysReach_56 : decode cX12_laysReach 56 = .ok (.iconst 1, 1) := by decide +kernel
theorem dX12_laysReach_57 : decode cX12_laysReach 57 = .ok (.iadd, 1) := by decide +kernel
theorem dX12_laysReach_58 : decode cX12_laysReach 58 = .ok (.iastore, 1) := by decide +kernel
theorem dX12_laysReach_59 : decode cX12_laysReach 59 = .ok (.return_, 1) := by decide +kernel
theorem dX12_placesTold_0 : decode cX12_placesTold 0 = .ok (.aload_n 0, 1) := by decide +kernel
theorem dX12_placesTold_1 : decode cX12_placesTold 1 = .ok (.getfield 134, 3) := by decide +kernel
theorem dX12_placesTold_4 : decode cX12_placesTold 4 = .ok (.ifCond .ne 7, 3) := by decide +kernel
theorem dX12_placesTold_7 : decode cX12_placesTold 7 = .ok (.iconst 1, 1) := by decide +kernel
theorem dX12_placesTold_8 : decode cX12_placesTold 8 = .ok (.goto 4, 3) := by decide +kernel
theorem dX12_placesTold_11 : decode cX12_placesTold 11 = .ok (.iconst 0, 1) := by decide +kernel
theorem dX12_placesTold_12 : decode cX12_placesTold 12 = .ok (.istore_n 1, 1) := by decide +kernel
theorem dX12_placesTold_13 : decode cX12_placesTold 13 = .ok (.iload_n 1, 1) := by decide +kernel
theorem dX12_placesTold_14 : decode cX12_placesTold 14 = .ok (.ifCond .eq 124, 3) := by decide +kernel
theorem dX12_placesTold_17 : decode cX12_placesTold 17 = .ok (.aload_n 0, 1) := by decide +kernel
theorem dX12_placesTold_18 : decode cX12_placesTold 18 = .ok (.invokevirtual 146, 3) := by decide +kernel
theorem dX12_placesTold_21 : decode cX12_placesTold 21 = .ok (.pop, 1) := by decide +kernel
theorem dX12_placesTold_22 : decode cX12_placesTold 22 = .ok (.aload_n 0, 1) := by decide +kernel
theorem dX12_placesTold_23 : decode cX12_placesTold 23 = .ok (.getfield 24, 3) := by decide +kernel
theorem dX12_placesTold_26 : decode cX12_placesTold 26 = .ok (.iconst 0, 1) := by decide +kernel
theorem dX12_placesTold_27 : decode cX12_placesTold 27 = .ok (.iaload, 1) := by decide +kernel
theorem dX12_placesTold_28 : decode cX12_placesTold 28 = .ok (.bipush 20, 2) := by decide +kernel
theorem dX12_placesTold_30 : decode cX12_placesTold 30 = .ok (.if_icmp .ne 27, 3) := by decide +kernel
theorem dX12_placesTold_33 : decode cX12_placesTold 33 = .ok (.aload_n 0, 1) := by decide +kernel
theorem dX12_placesTold_34 : decode cX12_placesTold 34 = .ok (.aload_n 0, 1) := by decide +kernel
theorem dX12_placesTold_35 : decode cX12_placesTold 35 = .ok (.getfield 140, 3) := by decide +kernel
theorem dX12_placesTold_38 : decode cX12_placesTold 38 = .ok (.aload_n 0, 1) := by decide +kernel
theorem dX12_placesTold_39 : decode cX12_placesTold 39 = .ok (.getfield 143, 3) := by decide +kernel
theorem dX12_placesTold_42 : decode cX12_placesTold 42 = .ok (.if_icmp .ne 7, 3) := by decide +kernel
theorem dX12_placesTold_45 : decode cX12_placesTold 45 = .ok (.iconst 1, 1) := by decide +kernel
theorem dX12_placesTold_46 : decode cX12_placesTold 46 = .ok (.goto 4, 3) := by decide +kernel
theorem dX12_placesTold_49 : decode cX12_placesTold 49 = .ok (.iconst 5, 1) := by decide +kernel
theorem dX12_placesTold_50 : decode cX12_placesTold 50 = .ok (.aload_n 0, 1) := by decide +kernel
theorem dX12_placesTold_51 : decode cX12_placesTold 51 = .ok (.getfield 140, 3) := by decide +kernel
theorem dX12_placesTold_54 : decode cX12_placesTold 54 = .ok (.invokevirtual 159, 3) := by decide +kernel
theorem dX12_placesTold_57 : decode cX12_placesTold 57 = .ok (.aload_n 0, 1) := by decide +kernel
theorem dX12_placesTold_58 : decode cX12_placesTold 58 = .ok (.invokevirtual 190, 3) := by decide +kernel
theorem dX12_placesTold_61 : decode cX12_placesTold 61 = .ok (.istore_n 2, 1) := by decide +kernel
theorem dX12_placesTold_62 : decode cX12_placesTold 62 = .ok (.aload_n 0, 1) := by decide +kernel
theorem dX12_placesTold_63 : decode cX12_placesTold 63 = .ok (.getfield 134, 3) := by decide +kernel
theorem dX12_placesTold_66 : decode cX12_placesTold 66 = .ok (.ifCond .ne 31, 3) := by decide +kernel
theorem dX12_placesTold_69 : decode cX12_placesTold 69 = .ok (.aload_n 0, 1) := by decide +kernel
theorem dX12_placesTold_70 : decode cX12_placesTold 70 = .ok (.getfield 24, 3) := by decide +kernel
theorem dX12_placesTold_73 : decode cX12_placesTold 73 = .ok (.iconst 3, 1) := by decide +kernel
theorem dX12_placesTold_74 : decode cX12_placesTold 74 = .ok (.aload_n 0, 1) := by decide +kernel
theorem dX12_placesTold_75 : decode cX12_placesTold 75 = .ok (.getfield 24, 3) := by decide +kernel
theorem dX12_placesTold_78 : decode cX12_placesTold 78 = .ok (.iconst 0, 1) := by decide +kernel
theorem dX12_placesTold_79 : decode cX12_placesTold 79 = .ok (.iaload, 1) := by decide +kernel
theorem dX12_placesTold_80 : decode cX12_placesTold 80 = .ok (.iload_n 2, 1) := by decide +kernel
theorem dX12_placesTold_81 : decode cX12_placesTold 81 = .ok (.invokestatic 193, 3) := by decide +kernel
theorem dX12_placesTold_84 : decode cX12_placesTold 84 = .ok (.iconst (-1), 1) := by decide +kernel
theorem dX12_placesTold_85 : decode cX12_placesTold 85 = .ok (.if_icmp .eq 12, 3) := by decide +kernel
theorem dX12_placesTold_88 : decode cX12_placesTold 88 = .ok (.aload_n 0, 1) := by decide +kernel
theorem dX12_placesTold_89 : decode cX12_placesTold 89 = .ok (.iconst 3, 1) := by decide +kernel
theorem dX12_placesTold_90 : decode cX12_placesTold 90 = .ok (.aload_n 0, 1) := by decide +kernel
theorem dX12_placesTold_91 : decode cX12_placesTold 91 = .ok (.getfield 180, 3) := by decide +kernel
theorem dX12_placesTold_94 : decode cX12_placesTold 94 = .ok (.invokevirtual 159, 3) := by decide +kernel
theorem dX12_placesTold_97 : decode cX12_placesTold 97 = .ok (.aload_n 0, 1) := by decide +kernel
theorem dX12_placesTold_98 : decode cX12_placesTold 98 = .ok (.getfield 134, 3) := by decide +kernel
theorem dX12_placesTold_101 : decode cX12_placesTold 101 = .ok (.ifCond .ne 27, 3) := by decide +kernel
theorem dX12_placesTold_104 : decode cX12_placesTold 104 = .ok (.aload_n 0, 1) := by decide +kernel
theorem dX12_placesTold_105 : decode cX12_placesTold 105 = .ok (.getfield 24, 3) := by decide +kernel
theorem dX12_placesTold_108 : decode cX12_placesTold 108 = .ok (.iconst 3, 1) := by decide +kernel
theorem dX12_placesTold_109 : decode cX12_placesTold 109 = .ok (.aload_n 0, 1) := by decide +kernel
theorem dX12_placesTold_110 : decode cX12_placesTold 110 = .ok (.getfield 24, 3) := by decide +kernel
theorem dX12_placesTold_113 : decode cX12_placesTold 113 = .ok (.iconst 0, 1) := by decide +kernel
theorem dX12_placesTold_114 : decode cX12_placesTold 114 = .ok (.iaload, 1) := by decide +kernel
theorem dX12_placesTold_115 : decode cX12_placesTold 115 = .ok (.iadd, 1) := by decide +kernel
theorem dX12_placesTold_116 : decode cX12_placesTold 116 = .ok (.iload_n 2, 1) := by decide +kernel
theorem dX12_placesTold_117 : decode cX12_placesTold 117 = .ok (.iastore, 1) := by decide +kernel
theorem dX12_placesTold_118 : decode cX12_placesTold 118 = .ok (.aload_n 0, 1) := by decide +kernel
theorem dX12_placesTold_119 : decode cX12_placesTold 119 = .ok (.getfield 24, 3) := by decide +kernel
theorem dX12_placesTold_122 : decode cX12_placesTold 122 = .ok (.iconst 0, 1) := by decide +kernel
theorem dX12_placesTold_123 : decode cX12_placesTold 123 = .ok (.dup2, 1) := by decide +kernel
theorem dX12_placesTold_124 : decode cX12_placesTold 124 = .ok (.iaload, 1) := by decide +kernel
theorem dX12_placesTold_125 : decode cX12_placesTold 125 = .ok (.iconst 1, 1) := by decide +kernel
theorem dX12_placesTold_126 : decode cX12_placesTold 126 = .ok (.iadd, 1) := by decide +kernel
theorem dX12_placesTold_127 : decode cX12_placesTold 127 = .ok (.iastore, 1) := by decide +kernel
theorem dX12_placesTold_128 : decode cX12_placesTold 128 = .ok (.aload_n 0, 1) := by decide +kernel
theorem dX12_placesTold_129 : decode cX12_placesTold 129 = .ok (.bipush 44, 2) := by decide +kernel
theorem dX12_placesTold_131 : decode cX12_placesTold 131 = .ok (.invokevirtual 156, 3) := by decide +kernel
theorem dX12_placesTold_134 : decode cX12_placesTold 134 = .ok (.istore_n 1, 1) := by decide +kernel
theorem dX12_placesTold_135 : decode cX12_placesTold 135 = .ok (.goto (-122), 3) := by decide +kernel
theorem dX12_placesTold_138 : decode cX12_placesTold 138 = .ok (.return_, 1) := by decide +kernel
theorem dX12_placeTold_0 : decode cX12_placeTold 0 = .ok (.aload_n 0, 1) := by decide +kernel
theorem dX12_placeTold_1 : decode cX12_placeTold 1 = .ok (.invokevirtual 190, 3) := by decide +kernel
theorem dX12_placeTold_4 : decode cX12_placeTold 4 = .ok (.istore_n 1, 1) := by decide +kernel
theorem dX12_placeTold_5 : decode cX12_placeTold 5 = .ok (.aload_n 0, 1) := by decide +kernel
theorem dX12_placeTold_6 : decode cX12_placeTold 6 = .ok (.getfield 134, 3) := by decide +kernel
theorem dX12_placeTold_9 : decode cX12_placeTold 9 = .ok (.ifCond .ne 21, 3) := by decide +kernel
theorem dX12_placeTold_12 : decode cX12_placeTold 12 = .ok (.aload_n 0, 1) := by decide +kernel
theorem dX12_placeTold_13 : decode cX12_placeTold 13 = .ok (.getfield 24, 3) := by decide +kernel
theorem dX12_placeTold_16 : decode cX12_placeTold 16 = .ok (.iconst 3, 1) := by decide +kernel
theorem dX12_placeTold_17 : decode cX12_placeTold 17 = .ok (.aload_n 0, 1) := by decide +kernel
theorem dX12_placeTold_18 : decode cX12_placeTold 18 = .ok (.getfield 24, 3) := by decide +kernel
theorem dX12_placeTold_21 : decode cX12_placeTold 21 = .ok (.iconst 0, 1) := by decide +kernel
theorem dX12_placeTold_22 : decode cX12_placeTold 22 = .ok (.iaload, 1) := by decide +kernel
theorem dX12_placeTold_23 : decode cX12_placeTold 23 = .ok (.iload_n 1, 1) := by decide +kernel
theorem dX12_placeTold_24 : decode cX12_placeTold 24 = .ok (.invokestatic 193, 3) := by decide +kernel
theorem dX12_placeTold_27 : decode cX12_placeTold 27 = .ok (.goto 4, 3) := by decide +kernel
theorem dX12_placeTold_30 : decode cX12_placeTold 30 = .ok (.iconst 0, 1) := by decide +kernel
theorem dX12_placeTold_31 : decode cX12_placeTold 31 = .ok (.istore_n 2, 1) := by decide +kernel
theorem dX12_placeTold_32 : decode cX12_placeTold 32 = .ok (.aload_n 0, 1) := by decide +kernel
theorem dX12_placeTold_33 : decode cX12_placeTold 33 = .ok (.getfield 134, 3) := by decide +kernel
theorem dX12_placeTold_36 : decode cX12_placeTold 36 = .ok (.ifCond .ne 17, 3) := by decide +kernel
theorem dX12_placeTold_39 : decode cX12_placeTold 39 = .ok (.iload_n 2, 1) := by decide +kernel
theorem dX12_placeTold_40 : decode cX12_placeTold 40 = .ok (.iconst (-1), 1) := by decide +kernel
theorem dX12_placeTold_41 : decode cX12_placeTold 41 = .ok (.if_icmp .ne 12, 3) := by decide +kernel
theorem dX12_placeTold_44 : decode cX12_placeTold 44 = .ok (.aload_n 0, 1) := by decide +kernel
theorem dX12_placeTold_45 : decode cX12_placeTold 45 = .ok (.iconst 3, 1) := by decide +kernel
theorem dX12_placeTold_46 : decode cX12_placeTold 46 = .ok (.aload_n 0, 1) := by decide +kernel
theorem dX12_placeTold_47 : decode cX12_placeTold 47 = .ok (.getfield 180, 3) := by decide +kernel
theorem dX12_placeTold_50 : decode cX12_placeTold 50 = .ok (.invokevirtual 159, 3) := by decide +kernel
theorem dX12_placeTold_53 : decode cX12_placeTold 53 = .ok (.aload_n 0, 1) := by decide +kernel
theorem dX12_placeTold_54 : decode cX12_placeTold 54 = .ok (.getfield 134, 3) := by decide +kernel
theorem dX12_placeTold_57 : decode cX12_placeTold 57 = .ok (.ifCond .ne 7, 3) := by decide +kernel
theorem dX12_placeTold_60 : decode cX12_placeTold 60 = .ok (.iload_n 2, 1) := by decide +kernel
theorem dX12_placeTold_61 : decode cX12_placeTold 61 = .ok (.goto 4, 3) := by decide +kernel
theorem dX12_placeTold_64 : decode cX12_placeTold 64 = .ok (.iconst 0, 1) := by decide +kernel
theorem dX12_placeTold_65 : decode cX12_placeTold 65 = .ok (.ireturn, 1) := by decide +kernel
theorem dX12_riverTold_0 : decode cX12_riverTold 0 = .ok (.aload_n 0, 1) := by decide +kernel
theorem dX12_riverTold_1 : decode cX12_riverTold 1 = .ok (.invokevirtual 190, 3) := by decide +kernel
theorem dX12_riverTold_4 : decode cX12_riverTold 4 = .ok (.istore_n 1, 1) := by decide +kernel
theorem dX12_riverTold_5 : decode cX12_riverTold 5 = .ok (.aload_n 0, 1) := by decide +kernel
theorem dX12_riverTold_6 : decode cX12_riverTold 6 = .ok (.getfield 134, 3) := by decide +kernel
theorem dX12_riverTold_9 : decode cX12_riverTold 9 = .ok (.ifCond .eq 5, 3) := by decide +kernel
theorem dX12_riverTold_12 : decode cX12_riverTold 12 = .ok (.iconst (-1), 1) := by decide +kernel
theorem dX12_riverTold_13 : decode cX12_riverTold 13 = .ok (.ireturn, 1) := by decide +kernel
theorem dX12_riverTold_14 : decode cX12_riverTold 14 = .ok (.aload_n 0, 1) := by decide +kernel
theorem dX12_riverTold_15 : decode cX12_riverTold 15 = .ok (.getfield 24, 3) := by decide +kernel
theorem dX12_riverTold_18 : decode cX12_riverTold 18 = .ok (.bipush 23, 2) := by decide +kernel
theorem dX12_riverTold_20 : decode cX12_riverTold 20 = .ok (.aload_n 0, 1) := by decide +kernel
theorem dX12_riverTold_21 : decode cX12_riverTold 21 = .ok (.getfield 24, 3) := by decide +kernel
theorem dX12_riverTold_24 : decode cX12_riverTold 24 = .ok (.iconst 2, 1) := by decide +kernel
theorem dX12_riverTold_25 : decode cX12_riverTold 25 = .ok (.iaload, 1) := by decide +kernel
theorem dX12_riverTold_26 : decode cX12_riverTold 26 = .ok (.iload_n 1, 1) := by decide +kernel
theorem dX12_riverTold_27 : decode cX12_riverTold 27 = .ok (.invokestatic 193, 3) := by decide +kernel
theorem dX12_riverTold_30 : decode cX12_riverTold 30 = .ok (.istore_n 2, 1) := by decide +kernel
theorem dX12_riverTold_31 : decode cX12_riverTold 31 = .ok (.iload_n 2, 1) := by decide +kernel
theorem dX12_riverTold_32 : decode cX12_riverTold 32 = .ok (.iconst (-1), 1) := by decide +kernel
theorem dX12_riverTold_33 : decode cX12_riverTold 33 = .ok (.if_icmp .ne 23, 3) := by decide +kernel
theorem dX12_riverTold_36 : decode cX12_riverTold 36 = .ok (.aload_n 0, 1) := by decide +kernel
theorem dX12_riverTold_37 : decode cX12_riverTold 37 = .ok (.getfield 24, 3) := by decide +kernel
theorem dX12_riverTold_40 : decode cX12_riverTold 40 = .ok (.iconst 2, 1) := by decide +kernel
theorem dX12_riverTold_41 : decode cX12_riverTold 41 = .ok (.iaload, 1) := by decide +kernel
theorem dX12_riverTold_42 : decode cX12_riverTold 42 = .ok (.bipush 10, 2) := by decide +kernel
theorem dX12_riverTold_44 : decode cX12_riverTold 44 = .ok (.if_icmp .ne 12, 3) := by decide +kernel
theorem dX12_riverTold_47 : decode cX12_riverTold 47 = .ok (.aload_n 0, 1) := by decide +kernel
theorem dX12_riverTold_48 : decode cX12_riverTold 48 = .ok (.iconst 5, 1) := by decide +kernel
theorem dX12_riverTold_49 : decode cX12_riverTold 49 = .ok (.aload_n 0, 1) := by decide +kernel
theorem dX12_riverTold_50 : decode cX12_riverTold 50 = .ok (.getfield 180, 3) := by decide +kernel
theorem dX12_riverTold_53 : decode cX12_riverTold 53 = .ok (.invokevirtual 159, 3) := by decide +kernel
theorem dX12_riverTold_56 : decode cX12_riverTold 56 = .ok (.aload_n 0, 1) := by decide +kernel
theorem dX12_riverTold_57 : decode cX12_riverTold 57 = .ok (.getfield 134, 3) := by decide +kernel
theorem dX12_riverTold_60 : decode cX12_riverTold 60 = .ok (.ifCond .ne 8, 3) := by decide +kernel
theorem dX12_riverTold_63 : decode cX12_riverTold 63 = .ok (.iload_n 2, 1) := by decide +kernel
theorem dX12_riverTold_64 : decode cX12_riverTold 64 = .ok (.iconst (-1), 1) := by decide +kernel
theorem dX12_riverTold_65 : decode cX12_riverTold 65 = .ok (.if_icmp .eq 5, 3) := by decide +kernel
theorem dX12_riverTold_68 : decode cX12_riverTold 68 = .ok (.iload_n 2, 1) := by decide +kernel
theorem dX12_riverTold_69 : decode cX12_riverTold 69 = .ok (.ireturn, 1) := by decide +kernel
theorem dX12_riverTold_70 : decode cX12_riverTold 70 = .ok (.aload_n 0, 1) := by decide +kernel
theorem dX12_riverTold_71 : decode cX12_riverTold 71 = .ok (.getfield 24, 3) := by decide +kernel
theorem dX12_riverTold_74 : decode cX12_riverTold 74 = .ok (.bipush 23, 2) := by decide +kernel
theorem dX12_riverTold_76 : decode cX12_riverTold 76 = .ok (.aload_n 0, 1) := by decide +kernel
theorem dX12_riverTold_77 : decode cX12_riverTold 77 = .ok (.getfield 24, 3) := by decide +kernel
theorem dX12_riverTold_80 : decode cX12_riverTold 80 = .ok (.iconst 2, 1) := by decide +kernel
theorem dX12_riverTold_81 : decode cX12_riverTold 81 = .ok (.iaload, 1) := by decide +kernel
theorem dX12_riverTold_82 : decode cX12_riverTold 82 = .ok (.iadd, 1) := by decide +kernel
theorem dX12_riverTold_83 : decode cX12_riverTold 83 = .ok (.iload_n 1, 1) := by decide +kernel
theorem dX12_riverTold_84 : decode cX12_riverTold 84 = .ok (.iastore, 1) := by decide +kernel
theorem dX12_riverTold_85 : decode cX12_riverTold 85 = .ok (.aload_n 0, 1) := by decide +kernel
theorem dX12_riverTold_86 : decode cX12_riverTold 86 = .ok (.getfield 24, 3) := by decide +kernel
theorem dX12_riverTold_89 : decode cX12_riverTold 89 = .ok (.iconst 2, 1) := by decide +kernel
theorem dX12_riverTold_90 : decode cX12_riverTold 90 = .ok (.dup2, 1) := by decide +kernel
theorem dX12_riverTold_91 : decode cX12_riverTold 91 = .ok (.iaload, 1) := by decide +kernel
theorem dX12_riverTold_92 : decode cX12_riverTold 92 = .ok (.iconst 1, 1) := by decide +kernel
theorem dX12_riverTold_93 : decode cX12_riverTold 93 = .ok (.iadd, 1) := by decide +kernel
theorem dX12_riverTold_94 : decode cX12_riverTold 94 = .ok (.iastore, 1) := by decide +kernel
theorem dX12_riverTold_95 : decode cX12_riverTold 95 = .ok (.aload_n 0, 1) := by decide +kernel
theorem dX12_riverTold_96 : decode cX12_riverTold 96 = .ok (.getfield 24, 3) := by decide +kernel
theorem dX12_riverTold_99 : decode cX12_riverTold 99 = .ok (.iconst 2, 1) := by decide +kernel
theorem dX12_riverTold_100 : decode cX12_riverTold 100 = .ok (.iaload, 1) := by decide +kernel
theorem dX12_riverTold_101 : decode cX12_riverTold 101 = .ok (.iconst 1, 1) := by decide +kernel
theorem dX12_riverTold_102 : decode cX12_riverTold 102 = .ok (.isub, 1) := by decide +kernel
theorem dX12_riverTold_103 : decode cX12_riverTold 103 = .ok (.ireturn, 1) := by decide +kernel
theorem dX12_reachTold_0 : decode cX12_reachTold 0 = .ok (.aload_n 0, 1) := by decide +kernel
theorem dX12_reachTold_1 : decode cX12_reachTold 1 = .ok (.getfield 24, 3) := by decide +kernel
theorem dX12_reachTold_4 : decode cX12_reachTold 4 = .ok (.iconst 1, 1) := by decide +kernel
theorem dX12_reachTold_5 : decode cX12_reachTold 5 = .ok (.iaload, 1) := by decide +kernel
theorem dX12_reachTold_6 : decode cX12_reachTold 6 = .ok (.bipush 30, 2) := by decide +kernel
theorem dX12_reachTold_8 : decode cX12_reachTold 8 = .ok (.if_icmp .ne 9, 3) := by decide +kernel
theorem dX12_reachTold_11 : decode cX12_reachTold 11 = .ok (.aload_n 0, 1) := by decide +kernel
theorem dX12_reachTold_12 : decode cX12_reachTold 12 = .ok (.iconst 5, 1) := by decide +kernel
theorem dX12_reachTold_13 : decode cX12_reachTold 13 = .ok (.iload_n 1, 1) := by decide +kernel
theorem dX12_reachTold_14 : decode cX12_reachTold 14 = .ok (.invokevirtual 159, 3) := by decide +kernel
theorem dX12_reachTold_17 : decode cX12_reachTold 17 = .ok (.aload_n 0, 1) := by decide +kernel
theorem dX12_reachTold_18 : decode cX12_reachTold 18 = .ok (.invokevirtual 197, 3) := by decide +kernel
theorem dX12_reachTold_21 : decode cX12_reachTold 21 = .ok (.istore_n 2, 1) := by decide +kernel
theorem dX12_reachTold_22 : decode cX12_reachTold 22 = .ok (.aload_n 0, 1) := by decide +kernel
theorem dX12_reachTold_23 : decode cX12_reachTold 23 = .ok (.iconst 2, 1) := by decide +kernel
theorem dX12_reachTold_24 : decode cX12_reachTold 24 = .ok (.invokevirtual 200, 3) := by decide +kernel
theorem dX12_reachTold_27 : decode cX12_reachTold 27 = .ok (.aload_n 0, 1) := by decide +kernel
theorem dX12_reachTold_28 : decode cX12_reachTold 28 = .ok (.invokevirtual 197, 3) := by decide +kernel
theorem dX12_reachTold_31 : decode cX12_reachTold 31 = .ok (.istore_n 3, 1) := by decide +kernel
theorem dX12_reachTold_32 : decode cX12_reachTold 32 = .ok (.aload_n 0, 1) := by decide +kernel
theorem dX12_reachTold_33 : decode cX12_reachTold 33 = .ok (.getfield 134, 3) := by decide +kernel
theorem dX12_reachTold_36 : decode cX12_reachTold 36 = .ok (.ifCond .ne 25, 3) := by decide +kernel
theorem dX12_reachTold_39 : decode cX12_reachTold 39 = .ok (.aload_n 0, 1) := by decide +kernel
theorem dX12_reachTold_40 : decode cX12_reachTold 40 = .ok (.getfield 24, 3) := by decide +kernel
theorem dX12_reachTold_43 : decode cX12_reachTold 43 = .ok (.iload_n 3, 1) := by decide +kernel
theorem dX12_reachTold_44 : decode cX12_reachTold 44 = .ok (.iload_n 2, 1) := by decide +kernel
theorem dX12_reachTold_45 : decode cX12_reachTold 45 = .ok (.iconst (-1), 1) := by decide +kernel
theorem dX12_reachTold_46 : decode cX12_reachTold 46 = .ok (.invokestatic 204, 3) := by decide +kernel
theorem dX12_reachTold_49 : decode cX12_reachTold 49 = .ok (.ifCond .eq 12, 3) := by decide +kernel
theorem dX12_reachTold_52 : decode cX12_reachTold 52 = .ok (.aload_n 0, 1) := by decide +kernel
theorem dX12_reachTold_53 : decode cX12_reachTold 53 = .ok (.iconst 4, 1) := by decide +kernel
theorem dX12_reachTold_54 : decode cX12_reachTold 54 = .ok (.aload_n 0, 1) := by decide +kernel
theorem dX12_reachTold_55 : decode cX12_reachTold 55 = .ok (.getfield 180, 3) := by decide +kernel
theorem dX12_reachTold_58 : decode cX12_reachTold 58 = .ok (.invokevirtual 159, 3) := by decide +kernel
theorem dX12_reachTold_61 : decode cX12_reachTold 61 = .ok (.aload_n 0, 1) := by decide +kernel
theorem dX12_reachTold_62 : decode cX12_reachTold 62 = .ok (.iconst 3, 1) := by decide +kernel
theorem dX12_reachTold_63 : decode cX12_reachTold 63 = .ok (.invokevirtual 200, 3) := by decide +kernel
theorem dX12_reachTold_66 : decode cX12_reachTold 66 = .ok (.aload_n 0, 1) := by decide +kernel
theorem dX12_reachTold_67 : decode cX12_reachTold 67 = .ok (.iconst 1, 1) := by decide +kernel
theorem dX12_reachTold_68 : decode cX12_reachTold 68 = .ok (.bipush 99, 2) := by decide +kernel
theorem dX12_reachTold_70 : decode cX12_reachTold 70 = .ok (.invokevirtual 208, 3) := by decide +kernel
theorem dX12_reachTold_73 : decode cX12_reachTold 73 = .ok (.istore 4, 2) := by decide +kernel
theorem dX12_reachTold_75 : decode cX12_reachTold 75 = .ok (.aload_n 0, 1) := by decide +kernel
theorem dX12_reachTold_76 : decode cX12_reachTold 76 = .ok (.iconst 4, 1) := by decide +kernel
theorem dX12_reachTold_77 : decode cX12_reachTold 77 = .ok (.invokevirtual 177, 3) := by decide +kernel
theorem dX12_reachTold_80 : decode cX12_reachTold 80 = .ok (.ifCond .eq 13, 3) := by decide +kernel
theorem dX12_reachTold_83 : decode cX12_reachTold 83 = .ok (.aload_n 0, 1) := by decide +kernel
theorem dX12_reachTold_84 : decode cX12_reachTold 84 = .ok (.iconst 0, 1) := by decide +kernel
theorem dX12_reachTold_85 : decode cX12_reachTold 85 = .ok (.bipush 99, 2) := by decide +kernel
theorem dX12_reachTold_87 : decode cX12_reachTold 87 = .ok (.invokevirtual 208, 3) := by decide +kernel
theorem dX12_reachTold_90 : decode cX12_reachTold 90 = .ok (.goto 4, 3) := by decide +kernel
theorem dX12_reachTold_93 : decode cX12_reachTold 93 = .ok (.iconst 0, 1) := by decide +kernel
theorem dX12_reachTold_94 : decode cX12_reachTold 94 = .ok (.istore 5, 2) := by decide +kernel
theorem dX12_reachTold_96 : decode cX12_reachTold 96 = .ok (.aload_n 0, 1) := by decide +kernel
theorem dX12_reachTold_97 : decode cX12_reachTold 97 = .ok (.iconst 5, 1) := by decide +kernel
theorem dX12_reachTold_98 : decode cX12_reachTold 98 = .ok (.invokevirtual 177, 3) := by decide +kernel
theorem dX12_reachTold_101 : decode cX12_reachTold 101 = .ok (.ifCond .eq 10, 3) := by decide +kernel
theorem dX12_reachTold_104 : decode cX12_reachTold 104 = .ok (.aload_n 0, 1) := by decide +kernel
theorem dX12_reachTold_105 : decode cX12_reachTold 105 = .ok (.invokevirtual 211, 3) := by decide +kernel
theorem dX12_reachTold_108 : decode cX12_reachTold 108 = .ok (.goto 4, 3) := by decide +kernel
theorem dX12_reachTold_111 : decode cX12_reachTold 111 = .ok (.iconst (-1), 1) := by decide +kernel
theorem dX12_reachTold_112 : decode cX12_reachTold 112 = .ok (.istore 6, 2) := by decide +kernel
theorem dX12_reachTold_114 : decode cX12_reachTold 114 = .ok (.aload_n 0, 1) := by decide +kernel
theorem dX12_reachTold_115 : decode cX12_reachTold 115 = .ok (.getfield 134, 3) := by decide +kernel
theorem dX12_reachTold_118 : decode cX12_reachTold 118 = .ok (.ifCond .ne 18, 3) := by decide +kernel
theorem dX12_reachTold_121 : decode cX12_reachTold 121 = .ok (.aload_n 0, 1) := by decide +kernel
theorem dX12_reachTold_122 : decode cX12_reachTold 122 = .ok (.getfield 24, 3) := by decide +kernel
theorem dX12_reachTold_125 : decode cX12_reachTold 125 = .ok (.iload_n 2, 1) := by decide +kernel
theorem dX12_reachTold_126 : decode cX12_reachTold 126 = .ok (.iload_n 3, 1) := by decide +kernel
theorem dX12_reachTold_127 : decode cX12_reachTold 127 = .ok (.iload 4, 2) := by decide +kernel
theorem dX12_reachTold_129 : decode cX12_reachTold 129 = .ok (.iload 5, 2) := by decide +kernel
theorem dX12_reachTold_131 : decode cX12_reachTold 131 = .ok (.iload 6, 2) := by decide +kernel
theorem dX12_reachTold_133 : decode cX12_reachTold 133 = .ok (.invokestatic 214, 3) := by decide +kernel
theorem dX12_reachTold_136 : decode cX12_reachTold 136 = .ok (.return_, 1) := by decide +kernel
theorem dX12_statementTold_0 : decode cX12_statementTold 0 = .ok (.aload_n 0, 1) := by decide +kernel
theorem dX12_statementTold_1 : decode cX12_statementTold 1 = .ok (.invokevirtual 146, 3) := by decide +kernel
theorem dX12_statementTold_4 : decode cX12_statementTold 4 = .ok (.pop, 1) := by decide +kernel
theorem dX12_statementTold_5 : decode cX12_statementTold 5 = .ok (.aload_n 0, 1) := by decide +kernel
theorem dX12_statementTold_6 : decode cX12_statementTold 6 = .ok (.getfield 140, 3) := by decide +kernel
theorem dX12_statementTold_9 : decode cX12_statementTold 9 = .ok (.istore_n 1, 1) := by decide +kernel
theorem dX12_statementTold_10 : decode cX12_statementTold 10 = .ok (.aload_n 0, 1) := by decide +kernel
theorem dX12_statementTold_11 : decode cX12_statementTold 11 = .ok (.invokevirtual 174, 3) := by decide +kernel
theorem dX12_statementTold_14 : decode cX12_statementTold 14 = .ok (.istore_n 2, 1) := by decide +kernel
theorem dX12_statementTold_15 : decode cX12_statementTold 15 = .ok (.iload_n 2, 1) := by decide +kernel
theorem dX12_statementTold_16 : decode cX12_statementTold 16 = .ok (.iconst (-1), 1) := by decide +kernel
theorem dX12_statementTold_17 : decode cX12_statementTold 17 = .ok (.if_icmp .eq 19, 3) := by decide +kernel
theorem dX12_statementTold_20 : decode cX12_statementTold 20 = .ok (.iload_n 2, 1) := by decide +kernel
theorem dX12_statementTold_21 : decode cX12_statementTold 21 = .ok (.aload_n 0, 1) := by decide +kernel
theorem dX12_statementTold_22 : decode cX12_statementTold 22 = .ok (.getfield 218, 3) := by decide +kernel
theorem dX12_statementTold_25 : decode cX12_statementTold 25 = .ok (.ifCond .ne 7, 3) := by decide +kernel
theorem dX12_statementTold_28 : decode cX12_statementTold 28 = .ok (.iconst 0, 1) := by decide +kernel
theorem dX12_statementTold_29 : decode cX12_statementTold 29 = .ok (.goto 4, 3) := by decide +kernel
theorem dX12_statementTold_32 : decode cX12_statementTold 32 = .ok (.iconst 1, 1) := by decide +kernel
theorem dX12_statementTold_33 : decode cX12_statementTold 33 = .ok (.if_icmp .eq 9, 3) := by decide +kernel
theorem dX12_statementTold_36 : decode cX12_statementTold 36 = .ok (.aload_n 0, 1) := by decide +kernel
theorem dX12_statementTold_37 : decode cX12_statementTold 37 = .ok (.iconst 1, 1) := by decide +kernel
theorem dX12_statementTold_38 : decode cX12_statementTold 38 = .ok (.iload_n 1, 1) := by decide +kernel
theorem dX12_statementTold_39 : decode cX12_statementTold 39 = .ok (.invokevirtual 159, 3) := by decide +kernel
theorem dX12_statementTold_42 : decode cX12_statementTold 42 = .ok (.aload_n 0, 1) := by decide +kernel
theorem dX12_statementTold_43 : decode cX12_statementTold 43 = .ok (.getfield 134, 3) := by decide +kernel
theorem dX12_statementTold_46 : decode cX12_statementTold 46 = .ok (.ifCond .ne 27, 3) := by decide +kernel
theorem dX12_statementTold_49 : decode cX12_statementTold 49 = .ok (.aload_n 0, 1) := by decide +kernel
theorem dX12_statementTold_50 : decode cX12_statementTold 50 = .ok (.iload_n 2, 1) := by decide +kernel
theorem dX12_statementTold_51 : decode cX12_statementTold 51 = .ok (.invokevirtual 177, 3) := by decide +kernel
theorem dX12_statementTold_54 : decode cX12_statementTold 54 = .ok (.ifCond .eq 19, 3) := by decide +kernel
theorem dX12_statementTold_57 : decode cX12_statementTold 57 = .ok (.iload_n 2, 1) := by decide +kernel
theorem dX12_statementTold_58 : decode cX12_statementTold 58 = .ok (.ifCond .ne 10, 3) := by decide +kernel
theorem dX12_statementTold_61 : decode cX12_statementTold 61 = .ok (.aload_n 0, 1) := by decide +kernel
theorem dX12_statementTold_62 : decode cX12_statementTold 62 = .ok (.invokevirtual 221, 3) := by decide +kernel
theorem dX12_statementTold_65 : decode cX12_statementTold 65 = .ok (.goto 8, 3) := by decide +kernel
theorem dX12_statementTold_68 : decode cX12_statementTold 68 = .ok (.aload_n 0, 1) := by decide +kernel
theorem dX12_statementTold_69 : decode cX12_statementTold 69 = .ok (.iload_n 1, 1) := by decide +kernel
theorem dX12_statementTold_70 : decode cX12_statementTold 70 = .ok (.invokevirtual 224, 3) := by decide +kernel
theorem dX12_statementTold_73 : decode cX12_statementTold 73 = .ok (.aload_n 0, 1) := by decide +kernel
theorem dX12_statementTold_74 : decode cX12_statementTold 74 = .ok (.bipush 59, 2) := by decide +kernel
theorem dX12_statementTold_76 : decode cX12_statementTold 76 = .ok (.invokevirtual 227, 3) := by decide +kernel
theorem dX12_statementTold_79 : decode cX12_statementTold 79 = .ok (.aload_n 0, 1) := by decide +kernel
theorem dX12_statementTold_80 : decode cX12_statementTold 80 = .ok (.dup, 1) := by decide +kernel
theorem dX12_statementTold_81 : decode cX12_statementTold 81 = .ok (.getfield 218, 3) := by decide +kernel
theorem dX12_statementTold_84 : decode cX12_statementTold 84 = .ok (.iconst 1, 1) := by decide +kernel
theorem dX12_statementTold_85 : decode cX12_statementTold 85 = .ok (.iadd, 1) := by decide +kernel
theorem dX12_statementTold_86 : decode cX12_statementTold 86 = .ok (.putfield 218, 3) := by decide +kernel
theorem dX12_statementTold_89 : decode cX12_statementTold 89 = .ok (.return_, 1) := by decide +kernel
theorem dX12_net_0 : decode cX12_net 0 = .ok (.aload_n 0, 1) := by decide +kernel
theorem dX12_net_1 : decode cX12_net 1 = .ok (.aload_n 0, 1) := by decide +kernel
theorem dX12_net_2 : decode cX12_net 2 = .ok (.getfield 114, 3) := by decide +kernel
theorem dX12_net_5 : decode cX12_net 5 = .ok (.putfield 143, 3) := by decide +kernel
theorem dX12_net_8 : decode cX12_net 8 = .ok (.aload_n 0, 1) := by decide +kernel
theorem dX12_net_9 : decode cX12_net 9 = .ok (.iconst 0, 1) := by decide +kernel
theorem dX12_net_10 : decode cX12_net 10 = .ok (.putfield 114, 3) := by decide +kernel
theorem dX12_net_13 : decode cX12_net 13 = .ok (.aload_n 0, 1) := by decide +kernel
theorem dX12_net_14 : decode cX12_net 14 = .ok (.iconst 0, 1) := by decide +kernel
theorem dX12_net_15 : decode cX12_net 15 = .ok (.putfield 140, 3) := by decide +kernel
theorem dX12_net_18 : decode cX12_net 18 = .ok (.aload_n 0, 1) := by decide +kernel
theorem dX12_net_19 : decode cX12_net 19 = .ok (.iconst (-1), 1) := by decide +kernel
theorem dX12_net_20 : decode cX12_net 20 = .ok (.putfield 153, 3) := by decide +kernel
theorem dX12_net_23 : decode cX12_net 23 = .ok (.aload_n 0, 1) := by decide +kernel
theorem dX12_net_24 : decode cX12_net 24 = .ok (.iconst 0, 1) := by decide +kernel
theorem dX12_net_25 : decode cX12_net 25 = .ok (.putfield 134, 3) := by decide +kernel
theorem dX12_net_28 : decode cX12_net 28 = .ok (.aload_n 0, 1) := by decide +kernel
theorem dX12_net_29 : decode cX12_net 29 = .ok (.iconst (-1), 1) := by decide +kernel
theorem dX12_net_30 : decode cX12_net 30 = .ok (.putfield 137, 3) := by decide +kernel
theorem dX12_net_33 : decode cX12_net 33 = .ok (.aload_n 0, 1) := by decide +kernel
theorem dX12_net_34 : decode cX12_net 34 = .ok (.iconst 0, 1) := by decide +kernel
theorem dX12_net_35 : decode cX12_net 35 = .ok (.putfield 218, 3) := by decide +kernel
theorem dX12_net_38 : decode cX12_net 38 = .ok (.iconst 0, 1) := by decide +kernel
theorem dX12_net_39 : decode cX12_net 39 = .ok (.istore_n 1, 1) := by decide +kernel
theorem dX12_net_40 : decode cX12_net 40 = .ok (.iload_n 1, 1) := by decide +kernel
theorem dX12_net_41 : decode cX12_net 41 = .ok (.sipush 183, 3) := by decide +kernel
theorem dX12_net_44 : decode cX12_net 44 = .ok (.if_icmp .ge 16, 3) := by decide +kernel
theorem dX12_net_47 : decode cX12_net 47 = .ok (.aload_n 0, 1) := by decide +kernel
theorem dX12_net_48 : decode cX12_net 48 = .ok (.getfield 24, 3) := by decide +kernel
theorem dX12_net_51 : decode cX12_net 51 = .ok (.iload_n 1, 1) := by decide +kernel
theorem dX12_net_52 : decode cX12_net 52 = .ok (.iconst 0, 1) := by decide +kernel
theorem dX12_net_53 : decode cX12_net 53 = .ok (.iastore, 1) := by decide +kernel
theorem dX12_net_54 : decode cX12_net 54 = .ok (.iinc 1 1, 3) := by decide +kernel
theorem dX12_net_57 : decode cX12_net 57 = .ok (.goto (-17), 3) := by decide +kernel
theorem dX12_net_60 : decode cX12_net 60 = .ok (.aload_n 0, 1) := by decide +kernel
theorem dX12_net_61 : decode cX12_net 61 = .ok (.invokevirtual 230, 3) := by decide +kernel
theorem dX12_net_64 : decode cX12_net 64 = .ok (.aload_n 0, 1) := by decide +kernel
theorem dX12_net_65 : decode cX12_net 65 = .ok (.getfield 134, 3) := by decide +kernel
theorem dX12_net_68 : decode cX12_net 68 = .ok (.ifCond .ne 18, 3) := by decide +kernel
theorem dX12_net_71 : decode cX12_net 71 = .ok (.aload_n 0, 1) := by decide +kernel
theorem dX12_net_72 : decode cX12_net 72 = .ok (.invokevirtual 146, 3) := by decide +kernel
theorem dX12_net_75 : decode cX12_net 75 = .ok (.iconst (-1), 1) := by decide +kernel
theorem dX12_net_76 : decode cX12_net 76 = .ok (.if_icmp .eq 10, 3) := by decide +kernel
theorem dX12_net_79 : decode cX12_net 79 = .ok (.aload_n 0, 1) := by decide +kernel
theorem dX12_net_80 : decode cX12_net 80 = .ok (.invokevirtual 230, 3) := by decide +kernel
theorem dX12_net_83 : decode cX12_net 83 = .ok (.goto (-19), 3) := by decide +kernel
theorem dX12_net_86 : decode cX12_net 86 = .ok (.aload_n 0, 1) := by decide +kernel
theorem dX12_net_87 : decode cX12_net 87 = .ok (.aload_n 0, 1) := by decide +kernel
theorem dX12_net_88 : decode cX12_net 88 = .ok (.getfield 134, 3) := by decide +kernel
theorem dX12_net_91 : decode cX12_net 91 = .ok (.putfield 131, 3) := by decide +kernel
theorem dX12_net_94 : decode cX12_net 94 = .ok (.aload_n 0, 1) := by decide +kernel
theorem dX12_net_95 : decode cX12_net 95 = .ok (.aload_n 0, 1) := by decide +kernel
theorem dX12_net_96 : decode cX12_net 96 = .ok (.getfield 137, 3) := by decide +kernel
theorem dX12_net_99 : decode cX12_net 99 = .ok (.putfield 13, 3) := by decide +kernel
theorem dX12_net_102 : decode cX12_net 102 = .ok (.aload_n 0, 1) := by decide +kernel
theorem dX12_net_103 : decode cX12_net 103 = .ok (.getfield 134, 3) := by decide +kernel
theorem dX12_net_106 : decode cX12_net 106 = .ok (.ifCond .eq 9, 3) := by decide +kernel
theorem dX12_net_109 : decode cX12_net 109 = .ok (.aload_n 0, 1) := by decide +kernel
theorem dX12_net_110 : decode cX12_net 110 = .ok (.iconst 1, 1) := by decide +kernel
theorem dX12_net_111 : decode cX12_net 111 = .ok (.invokevirtual 117, 3) := by decide +kernel
theorem dX12_net_114 : decode cX12_net 114 = .ok (.ireturn, 1) := by decide +kernel
theorem dX12_net_115 : decode cX12_net 115 = .ok (.iconst 0, 1) := by decide +kernel
theorem dX12_net_116 : decode cX12_net 116 = .ok (.istore_n 1, 1) := by decide +kernel
theorem dX12_net_117 : decode cX12_net 117 = .ok (.iload_n 1, 1) := by decide +kernel
theorem dX12_net_118 : decode cX12_net 118 = .ok (.sipush 183, 3) := by decide +kernel
theorem dX12_net_121 : decode cX12_net 121 = .ok (.if_icmp .ge 21, 3) := by decide +kernel
theorem dX12_net_124 : decode cX12_net 124 = .ok (.aload_n 0, 1) := by decide +kernel
theorem dX12_net_125 : decode cX12_net 125 = .ok (.getfield 27, 3) := by decide +kernel
theorem dX12_net_128 : decode cX12_net 128 = .ok (.iload_n 1, 1) := by decide +kernel
theorem dX12_net_129 : decode cX12_net 129 = .ok (.aload_n 0, 1) := by decide +kernel
theorem dX12_net_130 : decode cX12_net 130 = .ok (.getfield 24, 3) := by decide +kernel
theorem dX12_net_133 : decode cX12_net 133 = .ok (.iload_n 1, 1) := by decide +kernel
theorem dX12_net_134 : decode cX12_net 134 = .ok (.iaload, 1) := by decide +kernel
theorem dX12_net_135 : decode cX12_net 135 = .ok (.iastore, 1) := by decide +kernel
theorem dX12_net_136 : decode cX12_net 136 = .ok (.iinc 1 1, 3) := by decide +kernel
theorem dX12_net_139 : decode cX12_net 139 = .ok (.goto (-22), 3) := by decide +kernel
theorem dX12_net_142 : decode cX12_net 142 = .ok (.aload_n 0, 1) := by decide +kernel
theorem dX12_net_143 : decode cX12_net 143 = .ok (.iconst 0, 1) := by decide +kernel
theorem dX12_net_144 : decode cX12_net 144 = .ok (.putfield 233, 3) := by decide +kernel
theorem dX12_net_147 : decode cX12_net 147 = .ok (.aload_n 0, 1) := by decide +kernel
theorem dX12_net_148 : decode cX12_net 148 = .ok (.iconst 0, 1) := by decide +kernel
theorem dX12_net_149 : decode cX12_net 149 = .ok (.putfield 237, 3) := by decide +kernel
theorem dX12_net_152 : decode cX12_net 152 = .ok (.aload_n 0, 1) := by decide +kernel
theorem dX12_net_153 : decode cX12_net 153 = .ok (.iconst 0, 1) := by decide +kernel
theorem dX12_net_154 : decode cX12_net 154 = .ok (.putfield 240, 3) := by decide +kernel
theorem dX12_net_157 : decode cX12_net 157 = .ok (.aload_n 0, 1) := by decide +kernel
theorem dX12_net_158 : decode cX12_net 158 = .ok (.iconst 0, 1) := by decide +kernel
theorem dX12_net_159 : decode cX12_net 159 = .ok (.putfield 243, 3) := by decide +kernel
theorem dX12_net_162 : decode cX12_net 162 = .ok (.aload_n 0, 1) := by decide +kernel
theorem dX12_net_163 : decode cX12_net 163 = .ok (.getfield 218, 3) := by decide +kernel
theorem dX12_net_166 : decode cX12_net 166 = .ok (.ireturn, 1) := by decide +kernel
theorem dX12_places_0 : decode cX12_places 0 = .ok (.aload_n 0, 1) := by decide +kernel
theorem dX12_places_1 : decode cX12_places 1 = .ok (.getfield 27, 3) := by decide +kernel
theorem dX12_places_4 : decode cX12_places 4 = .ok (.iconst 0, 1) := by decide +kernel
theorem dX12_places_5 : decode cX12_places 5 = .ok (.iaload, 1) := by decide +kernel
theorem dX12_places_6 : decode cX12_places 6 = .ok (.ireturn, 1) := by decide +kernel
theorem dX12_reaches_0 : decode cX12_reaches 0 = .ok (.aload_n 0, 1) := by decide +kernel
theorem dX12_reaches_1 : decode cX12_reaches 1 = .ok (.getfield 27, 3) := by decide +kernel
theorem dX12_reaches_4 : decode cX12_reaches 4 = .ok (.iconst 1, 1) := by decide +kernel
theorem dX12_reaches_5 : decode cX12_reaches 5 = .ok (.iaload, 1) := by decide +kernel
theorem dX12_reaches_6 : decode cX12_reaches 6 = .ok (.ireturn, 1) := by decide +kernel
theorem dX12_isPlace_0 : decode cX12_isPlace 0 = .ok (.iload_n 1, 1) := by decide +kernel
theorem dX12_isPlace_1 : decode cX12_isPlace 1 = .ok (.i2l, 1) := by decide +kernel
theorem dX12_isPlace_2 : decode cX12_isPlace 2 = .ok (.lconst 0, 1) := by decide +kernel
theorem dX12_isPlace_3 : decode cX12_isPlace 3 = .ok (.aload_n 0, 1) := by decide +kernel
theorem dX12_isPlace_4 : decode cX12_isPlace 4 = .ok (.invokevirtual 246, 3) := by decide +kernel
theorem dX12_isPlace_7 : decode cX12_isPlace 7 = .ok (.iconst 1, 1) := by decide +kernel
theorem dX12_isPlace_8 : decode cX12_isPlace 8 = .ok (.isub, 1) := by decide +kernel
theorem dX12_isPlace_9 : decode cX12_isPlace 9 = .ok (.i2l, 1) := by decide +kernel
theorem dX12_isPlace_10 : decode cX12_isPlace 10 = .ok (.invokestatic 127, 3) := by decide +kernel
theorem dX12_isPlace_13 : decode cX12_isPlace 13 = .ok (.ireturn, 1) := by decide +kernel
theorem dX12_isReach_0 : decode cX12_isReach 0 = .ok (.iload_n 1, 1) := by decide +kernel
theorem dX12_isReach_1 : decode cX12_isReach 1 = .ok (.i2l, 1) := by decide +kernel
theorem dX12_isReach_2 : decode cX12_isReach 2 = .ok (.lconst 0, 1) := by decide +kernel
theorem dX12_isReach_3 : decode cX12_isReach 3 = .ok (.aload_n 0, 1) := by decide +kernel
theorem dX12_isReach_4 : decode cX12_isReach 4 = .ok (.invokevirtual 249, 3) := by decide +kernel
theorem dX12_isReach_7 : decode cX12_isReach 7 = .ok (.iconst 1, 1) := by decide +kernel
theorem dX12_isReach_8 : decode cX12_isReach 8 = .ok (.isub, 1) := by decide +kernel
theorem dX12_isReach_9 : decode cX12_isReach 9 = .ok (.i2l, 1) := by decide +kernel
theorem dX12_isReach_10 : decode cX12_isReach 10 = .ok (.invokestatic 127, 3) := by decide +kernel
theorem dX12_isReach_13 : decode cX12_isReach 13 = .ok (.ireturn, 1) := by decide +kernel
theorem dX12_its_0 : decode cX12_its 0 = .ok (.aload_n 0, 1) := by decide +kernel
theorem dX12_its_1 : decode cX12_its 1 = .ok (.getfield 27, 3) := by decide +kernel
theorem dX12_its_4 : decode cX12_its 4 = .ok (.iload_n 1, 1) := by decide +kernel
theorem dX12_its_5 : decode cX12_its 5 = .ok (.iload_n 2, 1) := by decide +kernel
theorem dX12_its_6 : decode cX12_its 6 = .ok (.invokestatic 183, 3) := by decide +kernel
theorem dX12_its_9 : decode cX12_its 9 = .ok (.iaload, 1) := by decide +kernel
theorem dX12_its_10 : decode cX12_its 10 = .ok (.ireturn, 1) := by decide +kernel
theorem dX12_isSource_0 : decode cX12_isSource 0 = .ok (.aload_n 0, 1) := by decide +kernel
theorem dX12_isSource_1 : decode cX12_isSource 1 = .ok (.getfield 33, 3) := by decide +kernel
theorem dX12_isSource_4 : decode cX12_isSource 4 = .ok (.iload_n 1, 1) := by decide +kernel
theorem dX12_isSource_5 : decode cX12_isSource 5 = .ok (.iaload, 1) := by decide +kernel
theorem dX12_isSource_6 : decode cX12_isSource 6 = .ok (.ifCond .ne 16, 3) := by decide +kernel
theorem dX12_isSource_9 : decode cX12_isSource 9 = .ok (.aload_n 0, 1) := by decide +kernel
theorem dX12_isSource_10 : decode cX12_isSource 10 = .ok (.getfield 36, 3) := by decide +kernel
theorem dX12_isSource_13 : decode cX12_isSource 13 = .ok (.iload_n 1, 1) := by decide +kernel
theorem dX12_isSource_14 : decode cX12_isSource 14 = .ok (.iaload, 1) := by decide +kernel
theorem dX12_isSource_15 : decode cX12_isSource 15 = .ok (.ifCond .le 7, 3) := by decide +kernel
theorem dX12_isSource_18 : decode cX12_isSource 18 = .ok (.iconst 1, 1) := by decide +kernel
theorem dX12_isSource_19 : decode cX12_isSource 19 = .ok (.goto 4, 3) := by decide +kernel
theorem dX12_isSource_22 : decode cX12_isSource 22 = .ok (.iconst 0, 1) := by decide +kernel
theorem dX12_isSource_23 : decode cX12_isSource 23 = .ok (.ireturn, 1) := by decide +kernel
theorem dX12_isMouth_0 : decode cX12_isMouth 0 = .ok (.aload_n 0, 1) := by decide +kernel
theorem dX12_isMouth_1 : decode cX12_isMouth 1 = .ok (.getfield 36, 3) := by decide +kernel
theorem dX12_isMouth_4 : decode cX12_isMouth 4 = .ok (.iload_n 1, 1) := by decide +kernel
theorem dX12_isMouth_5 : decode cX12_isMouth 5 = .ok (.iaload, 1) := by decide +kernel
theorem dX12_isMouth_6 : decode cX12_isMouth 6 = .ok (.ifCond .ne 16, 3) := by decide +kernel
theorem dX12_isMouth_9 : decode cX12_isMouth 9 = .ok (.aload_n 0, 1) := by decide +kernel
theorem dX12_isMouth_10 : decode cX12_isMouth 10 = .ok (.getfield 33, 3) := by decide +kernel
theorem dX12_isMouth_13 : decode cX12_isMouth 13 = .ok (.iload_n 1, 1) := by decide +kernel
theorem dX12_isMouth_14 : decode cX12_isMouth 14 = .ok (.iaload, 1) := by decide +kernel
theorem dX12_isMouth_15 : decode cX12_isMouth 15 = .ok (.ifCond .le 7, 3) := by decide +kernel
theorem dX12_isMouth_18 : decode cX12_isMouth 18 = .ok (.iconst 1, 1) := by decide +kernel
theorem dX12_isMouth_19 : decode cX12_isMouth 19 = .ok (.goto 4, 3) := by decide +kernel
theorem dX12_isMouth_22 : decode cX12_isMouth 22 = .ok (.iconst 0, 1) := by decide +kernel
theorem dX12_isMouth_23 : decode cX12_isMouth 23 = .ok (.ireturn, 1) := by decide +kernel
theorem dX12_laysOrder_0 : decode cX12_laysOrder 0 = .ok (.iconst 0, 1) := by decide +kernel
theorem dX12_laysOrder_1 : decode cX12_laysOrder 1 = .ok (.istore_n 1, 1) := by decide +kernel
theorem dX12_laysOrder_2 : decode cX12_laysOrder 2 = .ok (.iconst 0, 1) := by decide +kernel
theorem dX12_laysOrder_3 : decode cX12_laysOrder 3 = .ok (.istore_n 2, 1) := by decide +kernel
theorem dX12_laysOrder_4 : decode cX12_laysOrder 4 = .ok (.iconst 0, 1) := by decide +kernel
theorem dX12_laysOrder_5 : decode cX12_laysOrder 5 = .ok (.istore_n 3, 1) := by decide +kernel
theorem dX12_laysOrder_6 : decode cX12_laysOrder 6 = .ok (.iload_n 3, 1) := by decide +kernel
theorem dX12_laysOrder_7 : decode cX12_laysOrder 7 = .ok (.aload_n 0, 1) := by decide +kernel
theorem dX12_laysOrder_8 : decode cX12_laysOrder 8 = .ok (.invokevirtual 246, 3) := by decide +kernel
theorem dX12_laysOrder_11 : decode cX12_laysOrder 11 = .ok (.if_icmp .ge 23, 3) := by decide +kernel
theorem dX12_laysOrder_14 : decode cX12_laysOrder 14 = .ok (.aload_n 0, 1) := by decide +kernel
theorem dX12_laysOrder_15 : decode cX12_laysOrder 15 = .ok (.getfield 33, 3) := by decide +kernel
theorem dX12_laysOrder_18 : decode cX12_laysOrder 18 = .ok (.iload_n 3, 1) := by decide +kernel
theorem dX12_laysOrder_19 : decode cX12_laysOrder 19 = .ok (.iconst 0, 1) := by decide +kernel
theorem dX12_laysOrder_20 : decode cX12_laysOrder 20 = .ok (.iastore, 1) := by decide +kernel
theorem dX12_laysOrder_21 : decode cX12_laysOrder 21 = .ok (.aload_n 0, 1) := by decide +kernel
theorem dX12_laysOrder_22 : decode cX12_laysOrder 22 = .ok (.getfield 36, 3) := by decide +kernel
theorem dX12_laysOrder_25 : decode cX12_laysOrder 25 = .ok (.iload_n 3, 1) := by decide +kernel
theorem dX12_laysOrder_26 : decode cX12_laysOrder 26 = .ok (.iconst 0, 1) := by decide +kernel
theorem dX12_laysOrder_27 : decode cX12_laysOrder 27 = .ok (.iastore, 1) := by decide +kernel
theorem dX12_laysOrder_28 : decode cX12_laysOrder 28 = .ok (.iinc 3 1, 3) := by decide +kernel
theorem dX12_laysOrder_31 : decode cX12_laysOrder 31 = .ok (.goto (-25), 3) := by decide +kernel
theorem dX12_laysOrder_34 : decode cX12_laysOrder 34 = .ok (.iconst 0, 1) := by decide +kernel
theorem dX12_laysOrder_35 : decode cX12_laysOrder 35 = .ok (.istore_n 3, 1) := by decide +kernel
theorem dX12_laysOrder_36 : decode cX12_laysOrder 36 = .ok (.iload_n 3, 1) := by decide +kernel
theorem dX12_laysOrder_37 : decode cX12_laysOrder 37 = .ok (.aload_n 0, 1) := by decide +kernel
theorem dX12_laysOrder_38 : decode cX12_laysOrder 38 = .ok (.invokevirtual 249, 3) := by decide +kernel
theorem dX12_laysOrder_41 : decode cX12_laysOrder 41 = .ok (.if_icmp .ge 39, 3) := by decide +kernel
theorem dX12_laysOrder_44 : decode cX12_laysOrder 44 = .ok (.aload_n 0, 1) := by decide +kernel
theorem dX12_laysOrder_45 : decode cX12_laysOrder 45 = .ok (.getfield 33, 3) := by decide +kernel
theorem dX12_laysOrder_48 : decode cX12_laysOrder 48 = .ok (.aload_n 0, 1) := by decide +kernel
theorem dX12_laysOrder_49 : decode cX12_laysOrder 49 = .ok (.iload_n 3, 1) := by decide +kernel
theorem dX12_laysOrder_50 : decode cX12_laysOrder 50 = .ok (.iconst 1, 1) := by decide +kernel
theorem dX12_laysOrder_51 : decode cX12_laysOrder 51 = .ok (.invokevirtual 252, 3) := by decide +kernel
theorem dX12_laysOrder_54 : decode cX12_laysOrder 54 = .ok (.dup2, 1) := by decide +kernel
theorem dX12_laysOrder_55 : decode cX12_laysOrder 55 = .ok (.iaload, 1) := by decide +kernel
theorem dX12_laysOrder_56 : decode cX12_laysOrder 56 = .ok (.iconst 1, 1) := by decide +kernel
theorem dX12_laysOrder_57 : decode cX12_laysOrder 57 = .ok (.iadd, 1) := by decide +kernel
theorem dX12_laysOrder_58 : decode cX12_laysOrder 58 = .ok (.iastore, 1) := by decide +kernel
theorem dX12_laysOrder_59 : decode cX12_laysOrder 59 = .ok (.aload_n 0, 1) := by decide +kernel
theorem dX12_laysOrder_60 : decode cX12_laysOrder 60 = .ok (.getfield 36, 3) := by decide +kernel
theorem dX12_laysOrder_63 : decode cX12_laysOrder 63 = .ok (.aload_n 0, 1) := by decide +kernel
theorem dX12_laysOrder_64 : decode cX12_laysOrder 64 = .ok (.iload_n 3, 1) := by decide +kernel
theorem dX12_laysOrder_65 : decode cX12_laysOrder 65 = .ok (.iconst 0, 1) := by decide +kernel
theorem dX12_laysOrder_66 : decode cX12_laysOrder 66 = .ok (.invokevirtual 252, 3) := by decide +kernel
theorem dX12_laysOrder_69 : decode cX12_laysOrder 69 = .ok (.dup2, 1) := by decide +kernel
theorem dX12_laysOrder_70 : decode cX12_laysOrder 70 = .ok (.iaload, 1) := by decide +kernel
theorem dX12_laysOrder_71 : decode cX12_laysOrder 71 = .ok (.iconst 1, 1) := by decide +kernel
theorem dX12_laysOrder_72 : decode cX12_laysOrder 72 = .ok (.iadd, 1) := by decide +kernel
theorem dX12_laysOrder_73 : decode cX12_laysOrder 73 = .ok (.iastore, 1) := by decide +kernel
theorem dX12_laysOrder_74 : decode cX12_laysOrder 74 = .ok (.iinc 3 1, 3) := by decide +kernel
theorem dX12_laysOrder_77 : decode cX12_laysOrder 77 = .ok (.goto (-41), 3) := by decide +kernel
theorem dX12_laysOrder_80 : decode cX12_laysOrder 80 = .ok (.iload_n 2, 1) := by decide +kernel
theorem dX12_laysOrder_81 : decode cX12_laysOrder 81 = .ok (.aload_n 0, 1) := by decide +kernel
theorem dX12_laysOrder_82 : decode cX12_laysOrder 82 = .ok (.invokevirtual 246, 3) := by decide +kernel
theorem dX12_laysOrder_85 : decode cX12_laysOrder 85 = .ok (.if_icmp .ge 116, 3) := by decide +kernel
theorem dX12_laysOrder_88 : decode cX12_laysOrder 88 = .ok (.iconst 0, 1) := by decide +kernel
theorem dX12_laysOrder_89 : decode cX12_laysOrder 89 = .ok (.istore_n 3, 1) := by decide +kernel
theorem dX12_laysOrder_90 : decode cX12_laysOrder 90 = .ok (.iload_n 3, 1) := by decide +kernel
theorem dX12_laysOrder_91 : decode cX12_laysOrder 91 = .ok (.aload_n 0, 1) := by decide +kernel
theorem dX12_laysOrder_92 : decode cX12_laysOrder 92 = .ok (.invokevirtual 246, 3) := by decide +kernel
theorem dX12_laysOrder_95 : decode cX12_laysOrder 95 = .ok (.if_icmp .ge 103, 3) := by decide +kernel
theorem dX12_laysOrder_98 : decode cX12_laysOrder 98 = .ok (.iload_n 1, 1) := by decide +kernel
theorem dX12_laysOrder_99 : decode cX12_laysOrder 99 = .ok (.iload_n 3, 1) := by decide +kernel
theorem dX12_laysOrder_100 : decode cX12_laysOrder 100 = .ok (.invokestatic 187, 3) := by decide +kernel
theorem dX12_laysOrder_103 : decode cX12_laysOrder 103 = .ok (.ifCond .ne 7, 3) := by decide +kernel
theorem dX12_laysOrder_106 : decode cX12_laysOrder 106 = .ok (.iconst 1, 1) := by decide +kernel
theorem dX12_laysOrder_107 : decode cX12_laysOrder 107 = .ok (.goto 4, 3) := by decide +kernel
theorem dX12_laysOrder_110 : decode cX12_laysOrder 110 = .ok (.iconst 0, 1) := by decide +kernel
theorem dX12_laysOrder_111 : decode cX12_laysOrder 111 = .ok (.istore 4, 2) := by decide +kernel
theorem dX12_laysOrder_113 : decode cX12_laysOrder 113 = .ok (.iconst 0, 1) := by decide +kernel
theorem dX12_laysOrder_114 : decode cX12_laysOrder 114 = .ok (.istore 5, 2) := by decide +kernel
theorem dX12_laysOrder_116 : decode cX12_laysOrder 116 = .ok (.iload 5, 2) := by decide +kernel
theorem dX12_laysOrder_118 : decode cX12_laysOrder 118 = .ok (.aload_n 0, 1) := by decide +kernel
theorem dX12_laysOrder_119 : decode cX12_laysOrder 119 = .ok (.invokevirtual 249, 3) := by decide +kernel
theorem dX12_laysOrder_122 : decode cX12_laysOrder 122 = .ok (.if_icmp .ge 46, 3) := by decide +kernel
theorem dX12_laysOrder_125 : decode cX12_laysOrder 125 = .ok (.iload 4, 2) := by decide +kernel
theorem dX12_laysOrder_127 : decode cX12_laysOrder 127 = .ok (.ifCond .eq 41, 3) := by decide +kernel
theorem dX12_laysOrder_130 : decode cX12_laysOrder 130 = .ok (.aload_n 0, 1) := by decide +kernel
theorem dX12_laysOrder_131 : decode cX12_laysOrder 131 = .ok (.iload 5, 2) := by decide +kernel
theorem dX12_laysOrder_133 : decode cX12_laysOrder 133 = .ok (.iconst 1, 1) := by decide +kernel
theorem dX12_laysOrder_134 : decode cX12_laysOrder 134 = .ok (.invokevirtual 252, 3) := by decide +kernel
theorem dX12_laysOrder_137 : decode cX12_laysOrder 137 = .ok (.iload_n 3, 1) := by decide +kernel
theorem dX12_laysOrder_138 : decode cX12_laysOrder 138 = .ok (.if_icmp .ne 17, 3) := by decide +kernel
theorem dX12_laysOrder_141 : decode cX12_laysOrder 141 = .ok (.iload_n 1, 1) := by decide +kernel
theorem dX12_laysOrder_142 : decode cX12_laysOrder 142 = .ok (.aload_n 0, 1) := by decide +kernel
theorem dX12_laysOrder_143 : decode cX12_laysOrder 143 = .ok (.iload 5, 2) := by decide +kernel
theorem dX12_laysOrder_145 : decode cX12_laysOrder 145 = .ok (.iconst 0, 1) := by decide +kernel
theorem dX12_laysOrder_146 : decode cX12_laysOrder 146 = .ok (.invokevirtual 252, 3) := by decide +kernel
theorem dX12_laysOrder_149 : decode cX12_laysOrder 149 = .ok (.invokestatic 187, 3) := by decide +kernel
theorem dX12_laysOrder_152 : decode cX12_laysOrder 152 = .ok (.ifCond .eq 7, 3) := by decide +kernel
theorem dX12_laysOrder_155 : decode cX12_laysOrder 155 = .ok (.iconst 1, 1) := by decide +kernel
theorem dX12_laysOrder_156 : decode cX12_laysOrder 156 = .ok (.goto 4, 3) := by decide +kernel
theorem dX12_laysOrder_159 : decode cX12_laysOrder 159 = .ok (.iconst 0, 1) := by decide +kernel
theorem dX12_laysOrder_160 : decode cX12_laysOrder 160 = .ok (.istore 4, 2) := by decide +kernel
theorem dX12_laysOrder_162 : decode cX12_laysOrder 162 = .ok (.iinc 5 1, 3) := by decide +kernel
theorem dX12_laysOrder_165 : decode cX12_laysOrder 165 = .ok (.goto (-49), 3) := by decide +kernel
theorem dX12_laysOrder_168 : decode cX12_laysOrder 168 = .ok (.iload 4, 2) := by decide +kernel
theorem dX12_laysOrder_170 : decode cX12_laysOrder 170 = .ok (.ifCond .ne 6, 3) := by decide +kernel
theorem dX12_laysOrder_173 : decode cX12_laysOrder 173 = .ok (.goto 19, 3) := by decide +kernel
theorem dX12_laysOrder_176 : decode cX12_laysOrder 176 = .ok (.iload_n 1, 1) := by decide +kernel
theorem dX12_laysOrder_177 : decode cX12_laysOrder 177 = .ok (.iconst 1, 1) := by decide +kernel
theorem dX12_laysOrder_178 : decode cX12_laysOrder 178 = .ok (.iload_n 3, 1) := by decide +kernel
theorem dX12_laysOrder_179 : decode cX12_laysOrder 179 = .ok (.ishl, 1) := by decide +kernel
theorem dX12_laysOrder_180 : decode cX12_laysOrder 180 = .ok (.ior, 1) := by decide +kernel
theorem dX12_laysOrder_181 : decode cX12_laysOrder 181 = .ok (.istore_n 1, 1) := by decide +kernel
theorem dX12_laysOrder_182 : decode cX12_laysOrder 182 = .ok (.aload_n 0, 1) := by decide +kernel
theorem dX12_laysOrder_183 : decode cX12_laysOrder 183 = .ok (.getfield 30, 3) := by decide +kernel
theorem dX12_laysOrder_186 : decode cX12_laysOrder 186 = .ok (.iload_n 2, 1) := by decide +kernel
theorem dX12_laysOrder_187 : decode cX12_laysOrder 187 = .ok (.iload_n 3, 1) := by decide +kernel
theorem dX12_laysOrder_188 : decode cX12_laysOrder 188 = .ok (.iastore, 1) := by decide +kernel
theorem dX12_laysOrder_189 : decode cX12_laysOrder 189 = .ok (.iinc 2 1, 3) := by decide +kernel
theorem dX12_laysOrder_192 : decode cX12_laysOrder 192 = .ok (.iinc 3 1, 3) := by decide +kernel
theorem dX12_laysOrder_195 : decode cX12_laysOrder 195 = .ok (.goto (-105), 3) := by decide +kernel
theorem dX12_laysOrder_198 : decode cX12_laysOrder 198 = .ok (.goto (-118), 3) := by decide +kernel
theorem dX12_laysOrder_201 : decode cX12_laysOrder 201 = .ok (.return_, 1) := by decide +kernel
theorem dX12_laysBeyond_0 : decode cX12_laysBeyond 0 = .ok (.iconst 0, 1) := by decide +kernel
theorem dX12_laysBeyond_1 : decode cX12_laysBeyond 1 = .ok (.istore_n 1, 1) := by decide +kernel
theorem dX12_laysBeyond_2 : decode cX12_laysBeyond 2 = .ok (.iload_n 1, 1) := by decide +kernel
theorem dX12_laysBeyond_3 : decode cX12_laysBeyond 3 = .ok (.aload_n 0, 1) := by decide +kernel
theorem dX12_laysBeyond_4 : decode cX12_laysBeyond 4 = .ok (.invokevirtual 246, 3) := by decide +kernel
theorem dX12_laysBeyond_7 : decode cX12_laysBeyond 7 = .ok (.if_icmp .ge 37, 3) := by decide +kernel
theorem dX12_laysBeyond_10 : decode cX12_laysBeyond 10 = .ok (.aload_n 0, 1) := by decide +kernel
theorem dX12_laysBeyond_11 : decode cX12_laysBeyond 11 = .ok (.getfield 39, 3) := by decide +kernel
theorem dX12_laysBeyond_14 : decode cX12_laysBeyond 14 = .ok (.iload_n 1, 1) := by decide +kernel
theorem dX12_laysBeyond_15 : decode cX12_laysBeyond 15 = .ok (.iconst 0, 1) := by decide +kernel
theorem dX12_laysBeyond_16 : decode cX12_laysBeyond 16 = .ok (.iastore, 1) := by decide +kernel
theorem dX12_laysBeyond_17 : decode cX12_laysBeyond 17 = .ok (.aload_n 0, 1) := by decide +kernel
theorem dX12_laysBeyond_18 : decode cX12_laysBeyond 18 = .ok (.getfield 42, 3) := by decide +kernel
theorem dX12_laysBeyond_21 : decode cX12_laysBeyond 21 = .ok (.iload_n 1, 1) := by decide +kernel
theorem dX12_laysBeyond_22 : decode cX12_laysBeyond 22 = .ok (.iconst 0, 1) := by decide +kernel
theorem dX12_laysBeyond_23 : decode cX12_laysBeyond 23 = .ok (.iastore, 1) := by decide +kernel
theorem dX12_laysBeyond_24 : decode cX12_laysBeyond 24 = .ok (.aload_n 0, 1) := by decide +kernel
theorem dX12_laysBeyond_25 : decode cX12_laysBeyond 25 = .ok (.getfield 51, 3) := by decide +kernel
theorem dX12_laysBeyond_28 : decode cX12_laysBeyond 28 = .ok (.iload_n 1, 1) := by decide +kernel
theorem dX12_laysBeyond_29 : decode cX12_laysBeyond 29 = .ok (.iconst 0, 1) := by decide +kernel
theorem dX12_laysBeyond_30 : decode cX12_laysBeyond 30 = .ok (.iastore, 1) := by decide +kernel
theorem dX12_laysBeyond_31 : decode cX12_laysBeyond 31 = .ok (.aload_n 0, 1) := by decide +kernel
theorem dX12_laysBeyond_32 : decode cX12_laysBeyond 32 = .ok (.getfield 54, 3) := by decide +kernel
theorem dX12_laysBeyond_35 : decode cX12_laysBeyond 35 = .ok (.iload_n 1, 1) := by decide +kernel
theorem dX12_laysBeyond_36 : decode cX12_laysBeyond 36 = .ok (.iconst 0, 1) := by decide +kernel
theorem dX12_laysBeyond_37 : decode cX12_laysBeyond 37 = .ok (.iastore, 1) := by decide +kernel
theorem dX12_laysBeyond_38 : decode cX12_laysBeyond 38 = .ok (.iinc 1 1, 3) := by decide +kernel
theorem dX12_laysBeyond_41 : decode cX12_laysBeyond 41 = .ok (.goto (-39), 3) := by decide +kernel
theorem dX12_laysBeyond_44 : decode cX12_laysBeyond 44 = .ok (.iconst 0, 1) := by decide +kernel
theorem dX12_laysBeyond_45 : decode cX12_laysBeyond 45 = .ok (.istore_n 1, 1) := by decide +kernel
theorem dX12_laysBeyond_46 : decode cX12_laysBeyond 46 = .ok (.iload_n 1, 1) := by decide +kernel
theorem dX12_laysBeyond_47 : decode cX12_laysBeyond 47 = .ok (.aload_n 0, 1) := by decide +kernel
theorem dX12_laysBeyond_48 : decode cX12_laysBeyond 48 = .ok (.invokevirtual 246, 3) := by decide +kernel
theorem dX12_laysBeyond_51 : decode cX12_laysBeyond 51 = .ok (.if_icmp .ge 123, 3) := by decide +kernel
theorem dX12_laysBeyond_54 : decode cX12_laysBeyond 54 = .ok (.iconst 0, 1) := by decide +kernel
theorem dX12_laysBeyond_55 : decode cX12_laysBeyond 55 = .ok (.istore_n 2, 1) := by decide +kernel
theorem dX12_laysBeyond_56 : decode cX12_laysBeyond 56 = .ok (.iload_n 2, 1) := by decide +kernel
theorem dX12_laysBeyond_57 : decode cX12_laysBeyond 57 = .ok (.aload_n 0, 1) := by decide +kernel
theorem dX12_laysBeyond_58 : decode cX12_laysBeyond 58 = .ok (.invokevirtual 249, 3) := by decide +kernel
theorem dX12_laysBeyond_61 : decode cX12_laysBeyond 61 = .ok (.if_icmp .ge 107, 3) := by decide +kernel
theorem dX12_laysBeyond_64 : decode cX12_laysBeyond 64 = .ok (.aload_n 0, 1) := by decide +kernel
theorem dX12_laysBeyond_65 : decode cX12_laysBeyond 65 = .ok (.iload_n 2, 1) := by decide +kernel
theorem dX12_laysBeyond_66 : decode cX12_laysBeyond 66 = .ok (.iconst 1, 1) := by decide +kernel
theorem dX12_laysBeyond_67 : decode cX12_laysBeyond 67 = .ok (.invokevirtual 252, 3) := by decide +kernel
theorem dX12_laysBeyond_70 : decode cX12_laysBeyond 70 = .ok (.istore_n 3, 1) := by decide +kernel
theorem dX12_laysBeyond_71 : decode cX12_laysBeyond 71 = .ok (.aload_n 0, 1) := by decide +kernel
theorem dX12_laysBeyond_72 : decode cX12_laysBeyond 72 = .ok (.iload_n 2, 1) := by decide +kernel
theorem dX12_laysBeyond_73 : decode cX12_laysBeyond 73 = .ok (.iconst 0, 1) := by decide +kernel
theorem dX12_laysBeyond_74 : decode cX12_laysBeyond 74 = .ok (.invokevirtual 252, 3) := by decide +kernel
theorem dX12_laysBeyond_77 : decode cX12_laysBeyond 77 = .ok (.istore 4, 2) := by decide +kernel
theorem dX12_laysBeyond_79 : decode cX12_laysBeyond 79 = .ok (.iload_n 3, 1) := by decide +kernel
theorem dX12_laysBeyond_80 : decode cX12_laysBeyond 80 = .ok (.aload_n 0, 1) := by decide +kernel
theorem dX12_laysBeyond_81 : decode cX12_laysBeyond 81 = .ok (.getfield 30, 3) := by decide +kernel
theorem dX12_laysBeyond_84 : decode cX12_laysBeyond 84 = .ok (.iload_n 1, 1) := by decide +kernel
theorem dX12_laysBeyond_85 : decode cX12_laysBeyond 85 = .ok (.iaload, 1) := by decide +kernel
theorem dX12_laysBeyond_86 : decode cX12_laysBeyond 86 = .ok (.if_icmp .ne 76, 3) := by decide +kernel
theorem dX12_laysBeyond_89 : decode cX12_laysBeyond 89 = .ok (.aload_n 0, 1) := by decide +kernel
theorem dX12_laysBeyond_90 : decode cX12_laysBeyond 90 = .ok (.getfield 42, 3) := by decide +kernel
theorem dX12_laysBeyond_93 : decode cX12_laysBeyond 93 = .ok (.iload_n 3, 1) := by decide +kernel
theorem dX12_laysBeyond_94 : decode cX12_laysBeyond 94 = .ok (.dup2, 1) := by decide +kernel
theorem dX12_laysBeyond_95 : decode cX12_laysBeyond 95 = .ok (.iaload, 1) := by decide +kernel
theorem dX12_laysBeyond_96 : decode cX12_laysBeyond 96 = .ok (.aload_n 0, 1) := by decide +kernel
theorem dX12_laysBeyond_97 : decode cX12_laysBeyond 97 = .ok (.getfield 42, 3) := by decide +kernel
theorem dX12_laysBeyond_100 : decode cX12_laysBeyond 100 = .ok (.iload 4, 2) := by decide +kernel
theorem dX12_laysBeyond_102 : decode cX12_laysBeyond 102 = .ok (.iaload, 1) := by decide +kernel
theorem dX12_laysBeyond_103 : decode cX12_laysBeyond 103 = .ok (.iconst 1, 1) := by decide +kernel
theorem dX12_laysBeyond_104 : decode cX12_laysBeyond 104 = .ok (.iload 4, 2) := by decide +kernel
theorem dX12_laysBeyond_106 : decode cX12_laysBeyond 106 = .ok (.ishl, 1) := by decide +kernel
theorem dX12_laysBeyond_107 : decode cX12_laysBeyond 107 = .ok (.ior, 1) := by decide +kernel
theorem dX12_laysBeyond_108 : decode cX12_laysBeyond 108 = .ok (.ior, 1) := by decide +kernel
theorem dX12_laysBeyond_109 : decode cX12_laysBeyond 109 = .ok (.iastore, 1) := by decide +kernel
theorem dX12_laysBeyond_110 : decode cX12_laysBeyond 110 = .ok (.aload_n 0, 1) := by decide +kernel
theorem dX12_laysBeyond_111 : decode cX12_laysBeyond 111 = .ok (.getfield 51, 3) := by decide +kernel
theorem dX12_laysBeyond_114 : decode cX12_laysBeyond 114 = .ok (.iload_n 3, 1) := by decide +kernel
theorem dX12_laysBeyond_115 : decode cX12_laysBeyond 115 = .ok (.aload_n 0, 1) := by decide +kernel
theorem dX12_laysBeyond_116 : decode cX12_laysBeyond 116 = .ok (.getfield 51, 3) := by decide +kernel
theorem dX12_laysBeyond_119 : decode cX12_laysBeyond 119 = .ok (.iload 4, 2) := by decide +kernel
theorem dX12_laysBeyond_121 : decode cX12_laysBeyond 121 = .ok (.iaload, 1) := by decide +kernel
theorem dX12_laysBeyond_122 : decode cX12_laysBeyond 122 = .ok (.aload_n 0, 1) := by decide +kernel
theorem dX12_laysBeyond_123 : decode cX12_laysBeyond 123 = .ok (.iload_n 2, 1) := by decide +kernel
theorem dX12_laysBeyond_124 : decode cX12_laysBeyond 124 = .ok (.iconst 2, 1) := by decide +kernel
theorem dX12_laysBeyond_125 : decode cX12_laysBeyond 125 = .ok (.invokevirtual 252, 3) := by decide +kernel
theorem dX12_laysBeyond_128 : decode cX12_laysBeyond 128 = .ok (.iadd, 1) := by decide +kernel
theorem dX12_laysBeyond_129 : decode cX12_laysBeyond 129 = .ok (.aload_n 0, 1) := by decide +kernel
theorem dX12_laysBeyond_130 : decode cX12_laysBeyond 130 = .ok (.getfield 51, 3) := by decide +kernel
theorem dX12_laysBeyond_133 : decode cX12_laysBeyond 133 = .ok (.iload_n 3, 1) := by decide +kernel
theorem dX12_laysBeyond_134 : decode cX12_laysBeyond 134 = .ok (.iaload, 1) := by decide +kernel
theorem dX12_laysBeyond_135 : decode cX12_laysBeyond 135 = .ok (.if_icmp .le 20, 3) := by decide +kernel
theorem dX12_laysBeyond_138 : decode cX12_laysBeyond 138 = .ok (.aload_n 0, 1) := by decide +kernel
theorem dX12_laysBeyond_139 : decode cX12_laysBeyond 139 = .ok (.getfield 51, 3) := by decide +kernel
theorem dX12_laysBeyond_142 : decode cX12_laysBeyond 142 = .ok (.iload 4, 2) := by decide +kernel
theorem dX12_laysBeyond_144 : decode cX12_laysBeyond 144 = .ok (.iaload, 1) := by decide +kernel
theorem dX12_laysBeyond_145 : decode cX12_laysBeyond 145 = .ok (.aload_n 0, 1) := by decide +kernel
theorem dX12_laysBeyond_146 : decode cX12_laysBeyond 146 = .ok (.iload_n 2, 1) := by decide +kernel
theorem dX12_laysBeyond_147 : decode cX12_laysBeyond 147 = .ok (.iconst 2, 1) := by decide +kernel
theorem dX12_laysBeyond_148 : decode cX12_laysBeyond 148 = .ok (.invokevirtual 252, 3) := by decide +kernel
theorem dX12_laysBeyond_151 : decode cX12_laysBeyond 151 = .ok (.iadd, 1) := by decide +kernel
theorem dX12_laysBeyond_152 : decode cX12_laysBeyond 152 = .ok (.goto 9, 3) := by decide +kernel
theorem dX12_laysBeyond_155 : decode cX12_laysBeyond 155 = .ok (.aload_n 0, 1) := by decide +kernel
theorem dX12_laysBeyond_156 : decode cX12_laysBeyond 156 = .ok (.getfield 51, 3) := by decide +kernel
theorem dX12_laysBeyond_159 : decode cX12_laysBeyond 159 = .ok (.iload_n 3, 1) := by decide +kernel
theorem dX12_laysBeyond_160 : decode cX12_laysBeyond 160 = .ok (.iaload, 1) := by decide +kernel
theorem dX12_laysBeyond_161 : decode cX12_laysBeyond 161 = .ok (.iastore, 1) := by decide +kernel
theorem dX12_laysBeyond_162 : decode cX12_laysBeyond 162 = .ok (.iinc 2 1, 3) := by decide +kernel
theorem dX12_laysBeyond_165 : decode cX12_laysBeyond 165 = .ok (.goto (-109), 3) := by decide +kernel
theorem dX12_laysBeyond_168 : decode cX12_laysBeyond 168 = .ok (.iinc 1 1, 3) := by decide +kernel
theorem dX12_laysBeyond_171 : decode cX12_laysBeyond 171 = .ok (.goto (-125), 3) := by decide +kernel
theorem dX12_laysBeyond_174 : decode cX12_laysBeyond 174 = .ok (.aload_n 0, 1) := by decide +kernel
theorem dX12_laysBeyond_175 : decode cX12_laysBeyond 175 = .ok (.invokevirtual 246, 3) := by decide +kernel
theorem dX12_laysBeyond_178 : decode cX12_laysBeyond 178 = .ok (.iconst 1, 1) := by decide +kernel
theorem dX12_laysBeyond_179 : decode cX12_laysBeyond 179 = .ok (.isub, 1) := by decide +kernel
theorem dX12_laysBeyond_180 : decode cX12_laysBeyond 180 = .ok (.istore_n 1, 1) := by decide +kernel
theorem dX12_laysBeyond_181 : decode cX12_laysBeyond 181 = .ok (.iload_n 1, 1) := by decide +kernel
theorem dX12_laysBeyond_182 : decode cX12_laysBeyond 182 = .ok (.ifCond .lt 124, 3) := by decide +kernel
theorem dX12_laysBeyond_185 : decode cX12_laysBeyond 185 = .ok (.iconst 0, 1) := by decide +kernel
theorem dX12_laysBeyond_186 : decode cX12_laysBeyond 186 = .ok (.istore_n 2, 1) := by decide +kernel
theorem dX12_laysBeyond_187 : decode cX12_laysBeyond 187 = .ok (.iload_n 2, 1) := by decide +kernel
theorem dX12_laysBeyond_188 : decode cX12_laysBeyond 188 = .ok (.aload_n 0, 1) := by decide +kernel
theorem dX12_laysBeyond_189 : decode cX12_laysBeyond 189 = .ok (.invokevirtual 249, 3) := by decide +kernel
theorem dX12_laysBeyond_192 : decode cX12_laysBeyond 192 = .ok (.if_icmp .ge 108, 3) := by decide +kernel
theorem dX12_laysBeyond_195 : decode cX12_laysBeyond 195 = .ok (.aload_n 0, 1) := by decide +kernel
theorem dX12_laysBeyond_196 : decode cX12_laysBeyond 196 = .ok (.iload_n 2, 1) := by decide +kernel
theorem dX12_laysBeyond_197 : decode cX12_laysBeyond 197 = .ok (.iconst 1, 1) := by decide +kernel
theorem dX12_laysBeyond_198 : decode cX12_laysBeyond 198 = .ok (.invokevirtual 252, 3) := by decide +kernel
theorem dX12_laysBeyond_201 : decode cX12_laysBeyond 201 = .ok (.istore_n 3, 1) := by decide +kernel
theorem dX12_laysBeyond_202 : decode cX12_laysBeyond 202 = .ok (.aload_n 0, 1) := by decide +kernel
theorem dX12_laysBeyond_203 : decode cX12_laysBeyond 203 = .ok (.iload_n 2, 1) := by decide +kernel
theorem dX12_laysBeyond_204 : decode cX12_laysBeyond 204 = .ok (.iconst 0, 1) := by decide +kernel
theorem dX12_laysBeyond_205 : decode cX12_laysBeyond 205 = .ok (.invokevirtual 252, 3) := by decide +kernel
theorem dX12_laysBeyond_208 : decode cX12_laysBeyond 208 = .ok (.istore 4, 2) := by decide +kernel
theorem dX12_laysBeyond_210 : decode cX12_laysBeyond 210 = .ok (.iload 4, 2) := by decide +kernel
theorem dX12_laysBeyond_212 : decode cX12_laysBeyond 212 = .ok (.aload_n 0, 1) := by decide +kernel
theorem dX12_laysBeyond_213 : decode cX12_laysBeyond 213 = .ok (.getfield 30, 3) := by decide +kernel
theorem dX12_laysBeyond_216 : decode cX12_laysBeyond 216 = .ok (.iload_n 1, 1) := by decide +kernel
theorem dX12_laysBeyond_217 : decode cX12_laysBeyond 217 = .ok (.iaload, 1) := by decide +kernel
theorem dX12_laysBeyond_218 : decode cX12_laysBeyond 218 = .ok (.if_icmp .ne 76, 3) := by decide +kernel
theorem dX12_laysBeyond_221 : decode cX12_laysBeyond 221 = .ok (.aload_n 0, 1) := by decide +kernel
theorem dX12_laysBeyond_222 : decode cX12_laysBeyond 222 = .ok (.getfield 39, 3) := by decide +kernel
theorem dX12_laysBeyond_225 : decode cX12_laysBeyond 225 = .ok (.iload 4, 2) := by decide +kernel
theorem dX12_laysBeyond_227 : decode cX12_laysBeyond 227 = .ok (.dup2, 1) := by decide +kernel
theorem dX12_laysBeyond_228 : decode cX12_laysBeyond 228 = .ok (.iaload, 1) := by decide +kernel
theorem dX12_laysBeyond_229 : decode cX12_laysBeyond 229 = .ok (.aload_n 0, 1) := by decide +kernel
theorem dX12_laysBeyond_230 : decode cX12_laysBeyond 230 = .ok (.getfield 39, 3) := by decide +kernel
theorem dX12_laysBeyond_233 : decode cX12_laysBeyond 233 = .ok (.iload_n 3, 1) := by decide +kernel
theorem dX12_laysBeyond_234 : decode cX12_laysBeyond 234 = .ok (.iaload, 1) := by decide +kernel
theorem dX12_laysBeyond_235 : decode cX12_laysBeyond 235 = .ok (.iconst 1, 1) := by decide +kernel
theorem dX12_laysBeyond_236 : decode cX12_laysBeyond 236 = .ok (.iload_n 3, 1) := by decide +kernel
theorem dX12_laysBeyond_237 : decode cX12_laysBeyond 237 = .ok (.ishl, 1) := by decide +kernel
theorem dX12_laysBeyond_238 : decode cX12_laysBeyond 238 = .ok (.ior, 1) := by decide +kernel
theorem dX12_laysBeyond_239 : decode cX12_laysBeyond 239 = .ok (.ior, 1) := by decide +kernel
theorem dX12_laysBeyond_240 : decode cX12_laysBeyond 240 = .ok (.iastore, 1) := by decide +kernel
theorem dX12_laysBeyond_241 : decode cX12_laysBeyond 241 = .ok (.aload_n 0, 1) := by decide +kernel
theorem dX12_laysBeyond_242 : decode cX12_laysBeyond 242 = .ok (.getfield 54, 3) := by decide +kernel
theorem dX12_laysBeyond_245 : decode cX12_laysBeyond 245 = .ok (.iload 4, 2) := by decide +kernel
theorem dX12_laysBeyond_247 : decode cX12_laysBeyond 247 = .ok (.aload_n 0, 1) := by decide +kernel
theorem dX12_laysBeyond_248 : decode cX12_laysBeyond 248 = .ok (.getfield 54, 3) := by decide +kernel
theorem dX12_laysBeyond_251 : decode cX12_laysBeyond 251 = .ok (.iload_n 3, 1) := by decide +kernel
theorem dX12_laysBeyond_252 : decode cX12_laysBeyond 252 = .ok (.iaload, 1) := by decide +kernel
theorem dX12_laysBeyond_253 : decode cX12_laysBeyond 253 = .ok (.aload_n 0, 1) := by decide +kernel
theorem dX12_laysBeyond_254 : decode cX12_laysBeyond 254 = .ok (.iload_n 2, 1) := by decide +kernel
theorem dX12_laysBeyond_255 : decode cX12_laysBeyond 255 = .ok (.iconst 2, 1) := by decide +kernel
theorem dX12_laysBeyond_256 : decode cX12_laysBeyond 256 = .ok (.invokevirtual 252, 3) := by decide +kernel
theorem dX12_laysBeyond_259 : decode cX12_laysBeyond 259 = .ok (.iadd, 1) := by decide +kernel
theorem dX12_laysBeyond_260 : decode cX12_laysBeyond 260 = .ok (.aload_n 0, 1) := by decide +kernel
theorem dX12_laysBeyond_261 : decode cX12_laysBeyond 261 = .ok (.getfield 54, 3) := by decide +kernel
theorem dX12_laysBeyond_264 : decode cX12_laysBeyond 264 = .ok (.iload 4, 2) := by decide +kernel
theorem dX12_laysBeyond_266 : decode cX12_laysBeyond 266 = .ok (.iaload, 1) := by decide +kernel
theorem dX12_laysBeyond_267 : decode cX12_laysBeyond 267 = .ok (.if_icmp .le 19, 3) := by decide +kernel
theorem dX12_laysBeyond_270 : decode cX12_laysBeyond 270 = .ok (.aload_n 0, 1) := by decide +kernel
theorem dX12_laysBeyond_271 : decode cX12_laysBeyond 271 = .ok (.getfield 54, 3) := by decide +kernel
theorem dX12_laysBeyond_274 : decode cX12_laysBeyond 274 = .ok (.iload_n 3, 1) := by decide +kernel
theorem dX12_laysBeyond_275 : decode cX12_laysBeyond 275 = .ok (.iaload, 1) := by decide +kernel
theorem dX12_laysBeyond_276 : decode cX12_laysBeyond 276 = .ok (.aload_n 0, 1) := by decide +kernel
theorem dX12_laysBeyond_277 : decode cX12_laysBeyond 277 = .ok (.iload_n 2, 1) := by decide +kernel
theorem dX12_laysBeyond_278 : decode cX12_laysBeyond 278 = .ok (.iconst 2, 1) := by decide +kernel
theorem dX12_laysBeyond_279 : decode cX12_laysBeyond 279 = .ok (.invokevirtual 252, 3) := by decide +kernel
theorem dX12_laysBeyond_282 : decode cX12_laysBeyond 282 = .ok (.iadd, 1) := by decide +kernel
theorem dX12_laysBeyond_283 : decode cX12_laysBeyond 283 = .ok (.goto 10, 3) := by decide +kernel
theorem dX12_laysBeyond_286 : decode cX12_laysBeyond 286 = .ok (.aload_n 0, 1) := by decide +kernel
theorem dX12_laysBeyond_287 : decode cX12_laysBeyond 287 = .ok (.getfield 54, 3) := by decide +kernel
theorem dX12_laysBeyond_290 : decode cX12_laysBeyond 290 = .ok (.iload 4, 2) := by decide +kernel
theorem dX12_laysBeyond_292 : decode cX12_laysBeyond 292 = .ok (.iaload, 1) := by decide +kernel
theorem dX12_laysBeyond_293 : decode cX12_laysBeyond 293 = .ok (.iastore, 1) := by decide +kernel
theorem dX12_laysBeyond_294 : decode cX12_laysBeyond 294 = .ok (.iinc 2 1, 3) := by decide +kernel
theorem dX12_laysBeyond_297 : decode cX12_laysBeyond 297 = .ok (.goto (-110), 3) := by decide +kernel
theorem dX12_laysBeyond_300 : decode cX12_laysBeyond 300 = .ok (.iinc 1 (-1), 3) := by decide +kernel
theorem dX12_laysBeyond_303 : decode cX12_laysBeyond 303 = .ok (.goto (-122), 3) := by decide +kernel
theorem dX12_laysBeyond_306 : decode cX12_laysBeyond 306 = .ok (.return_, 1) := by decide +kernel
theorem dX12_sharesOut_0 : decode cX12_sharesOut 0 = .ok (.aload_n 0, 1) := by decide +kernel
theorem dX12_sharesOut_1 : decode cX12_sharesOut 1 = .ok (.getfield 36, 3) := by decide +kernel
theorem dX12_sharesOut_4 : decode cX12_sharesOut 4 = .ok (.iload_n 1, 1) := by decide +kernel
theorem dX12_sharesOut_5 : decode cX12_sharesOut 5 = .ok (.iaload, 1) := by decide +kernel
theorem dX12_sharesOut_6 : decode cX12_sharesOut 6 = .ok (.ifCond .ne 7, 3) := by decide +kernel
theorem dX12_sharesOut_9 : decode cX12_sharesOut 9 = .ok (.iconst 0, 1) := by decide +kernel
theorem dX12_sharesOut_10 : decode cX12_sharesOut 10 = .ok (.goto 16, 3) := by decide +kernel
theorem dX12_sharesOut_13 : decode cX12_sharesOut 13 = .ok (.aload_n 0, 1) := by decide +kernel
theorem dX12_sharesOut_14 : decode cX12_sharesOut 14 = .ok (.getfield 45, 3) := by decide +kernel
theorem dX12_sharesOut_17 : decode cX12_sharesOut 17 = .ok (.iload_n 1, 1) := by decide +kernel
theorem dX12_sharesOut_18 : decode cX12_sharesOut 18 = .ok (.iaload, 1) := by decide +kernel
theorem dX12_sharesOut_19 : decode cX12_sharesOut 19 = .ok (.aload_n 0, 1) := by decide +kernel
theorem dX12_sharesOut_20 : decode cX12_sharesOut 20 = .ok (.getfield 36, 3) := by decide +kernel
theorem dX12_sharesOut_23 : decode cX12_sharesOut 23 = .ok (.iload_n 1, 1) := by decide +kernel
theorem dX12_sharesOut_24 : decode cX12_sharesOut 24 = .ok (.iaload, 1) := by decide +kernel
theorem dX12_sharesOut_25 : decode cX12_sharesOut 25 = .ok (.irem, 1) := by decide +kernel
theorem dX12_sharesOut_26 : decode cX12_sharesOut 26 = .ok (.istore_n 2, 1) := by decide +kernel
theorem dX12_sharesOut_27 : decode cX12_sharesOut 27 = .ok (.iconst 0, 1) := by decide +kernel
theorem dX12_sharesOut_28 : decode cX12_sharesOut 28 = .ok (.istore_n 3, 1) := by decide +kernel
theorem dX12_sharesOut_29 : decode cX12_sharesOut 29 = .ok (.iload_n 3, 1) := by decide +kernel
theorem dX12_sharesOut_30 : decode cX12_sharesOut 30 = .ok (.aload_n 0, 1) := by decide +kernel
theorem dX12_sharesOut_31 : decode cX12_sharesOut 31 = .ok (.invokevirtual 249, 3) := by decide +kernel
theorem dX12_sharesOut_34 : decode cX12_sharesOut 34 = .ok (.if_icmp .ge 81, 3) := by decide +kernel
theorem dX12_sharesOut_37 : decode cX12_sharesOut 37 = .ok (.aload_n 0, 1) := by decide +kernel
theorem dX12_sharesOut_38 : decode cX12_sharesOut 38 = .ok (.iload_n 3, 1) := by decide +kernel
theorem dX12_sharesOut_39 : decode cX12_sharesOut 39 = .ok (.iconst 0, 1) := by decide +kernel
theorem dX12_sharesOut_40 : decode cX12_sharesOut 40 = .ok (.invokevirtual 252, 3) := by decide +kernel
theorem dX12_sharesOut_43 : decode cX12_sharesOut 43 = .ok (.iload_n 1, 1) := by decide +kernel
theorem dX12_sharesOut_44 : decode cX12_sharesOut 44 = .ok (.if_icmp .ne 65, 3) := by decide +kernel
theorem dX12_sharesOut_47 : decode cX12_sharesOut 47 = .ok (.aload_n 0, 1) := by decide +kernel
theorem dX12_sharesOut_48 : decode cX12_sharesOut 48 = .ok (.getfield 48, 3) := by decide +kernel
theorem dX12_sharesOut_51 : decode cX12_sharesOut 51 = .ok (.iload_n 3, 1) := by decide +kernel
theorem dX12_sharesOut_52 : decode cX12_sharesOut 52 = .ok (.aload_n 0, 1) := by decide +kernel
theorem dX12_sharesOut_53 : decode cX12_sharesOut 53 = .ok (.iload_n 3, 1) := by decide +kernel
theorem dX12_sharesOut_54 : decode cX12_sharesOut 54 = .ok (.iconst 3, 1) := by decide +kernel
theorem dX12_sharesOut_55 : decode cX12_sharesOut 55 = .ok (.invokevirtual 252, 3) := by decide +kernel
theorem dX12_sharesOut_58 : decode cX12_sharesOut 58 = .ok (.aload_n 0, 1) := by decide +kernel
theorem dX12_sharesOut_59 : decode cX12_sharesOut 59 = .ok (.getfield 45, 3) := by decide +kernel
theorem dX12_sharesOut_62 : decode cX12_sharesOut 62 = .ok (.iload_n 1, 1) := by decide +kernel
theorem dX12_sharesOut_63 : decode cX12_sharesOut 63 = .ok (.iaload, 1) := by decide +kernel
theorem dX12_sharesOut_64 : decode cX12_sharesOut 64 = .ok (.aload_n 0, 1) := by decide +kernel
theorem dX12_sharesOut_65 : decode cX12_sharesOut 65 = .ok (.getfield 36, 3) := by decide +kernel
theorem dX12_sharesOut_68 : decode cX12_sharesOut 68 = .ok (.iload_n 1, 1) := by decide +kernel
theorem dX12_sharesOut_69 : decode cX12_sharesOut 69 = .ok (.iaload, 1) := by decide +kernel
theorem dX12_sharesOut_70 : decode cX12_sharesOut 70 = .ok (.idiv, 1) := by decide +kernel
theorem dX12_sharesOut_71 : decode cX12_sharesOut 71 = .ok (.iadd, 1) := by decide +kernel
theorem dX12_sharesOut_72 : decode cX12_sharesOut 72 = .ok (.iload_n 2, 1) := by decide +kernel
theorem dX12_sharesOut_73 : decode cX12_sharesOut 73 = .ok (.ifCond .le 7, 3) := by decide +kernel
theorem dX12_sharesOut_76 : decode cX12_sharesOut 76 = .ok (.iconst 1, 1) := by decide +kernel
theorem dX12_sharesOut_77 : decode cX12_sharesOut 77 = .ok (.goto 4, 3) := by decide +kernel
theorem dX12_sharesOut_80 : decode cX12_sharesOut 80 = .ok (.iconst 0, 1) := by decide +kernel
theorem dX12_sharesOut_81 : decode cX12_sharesOut 81 = .ok (.invokestatic 255, 3) := by decide +kernel
theorem dX12_sharesOut_84 : decode cX12_sharesOut 84 = .ok (.iadd, 1) := by decide +kernel
theorem dX12_sharesOut_85 : decode cX12_sharesOut 85 = .ok (.iastore, 1) := by decide +kernel
theorem dX12_sharesOut_86 : decode cX12_sharesOut 86 = .ok (.iinc 2 (-1), 3) := by decide +kernel
theorem dX12_sharesOut_89 : decode cX12_sharesOut 89 = .ok (.aload_n 0, 1) := by decide +kernel
theorem dX12_sharesOut_90 : decode cX12_sharesOut 90 = .ok (.getfield 45, 3) := by decide +kernel
theorem dX12_sharesOut_93 : decode cX12_sharesOut 93 = .ok (.aload_n 0, 1) := by decide +kernel
theorem dX12_sharesOut_94 : decode cX12_sharesOut 94 = .ok (.iload_n 3, 1) := by decide +kernel
theorem dX12_sharesOut_95 : decode cX12_sharesOut 95 = .ok (.iconst 1, 1) := by decide +kernel
theorem dX12_sharesOut_96 : decode cX12_sharesOut 96 = .ok (.invokevirtual 252, 3) := by decide +kernel
theorem dX12_sharesOut_99 : decode cX12_sharesOut 99 = .ok (.dup2, 1) := by decide +kernel
theorem dX12_sharesOut_100 : decode cX12_sharesOut 100 = .ok (.iaload, 1) := by decide +kernel
theorem dX12_sharesOut_101 : decode cX12_sharesOut 101 = .ok (.aload_n 0, 1) := by decide +kernel
theorem dX12_sharesOut_102 : decode cX12_sharesOut 102 = .ok (.getfield 48, 3) := by decide +kernel
theorem dX12_sharesOut_105 : decode cX12_sharesOut 105 = .ok (.iload_n 3, 1) := by decide +kernel
theorem dX12_sharesOut_106 : decode cX12_sharesOut 106 = .ok (.iaload, 1) := by decide +kernel
theorem dX12_sharesOut_107 : decode cX12_sharesOut 107 = .ok (.iadd, 1) := by decide +kernel
theorem dX12_sharesOut_108 : decode cX12_sharesOut 108 = .ok (.iastore, 1) := by decide +kernel
theorem dX12_sharesOut_109 : decode cX12_sharesOut 109 = .ok (.iinc 3 1, 3) := by decide +kernel
theorem dX12_sharesOut_112 : decode cX12_sharesOut 112 = .ok (.goto (-83), 3) := by decide +kernel
theorem dX12_sharesOut_115 : decode cX12_sharesOut 115 = .ok (.return_, 1) := by decide +kernel
theorem dX12_laysFlow_0 : decode cX12_laysFlow 0 = .ok (.iconst 0, 1) := by decide +kernel
theorem dX12_laysFlow_1 : decode cX12_laysFlow 1 = .ok (.istore_n 1, 1) := by decide +kernel
theorem dX12_laysFlow_2 : decode cX12_laysFlow 2 = .ok (.iload_n 1, 1) := by decide +kernel
theorem dX12_laysFlow_3 : decode cX12_laysFlow 3 = .ok (.aload_n 0, 1) := by decide +kernel
theorem dX12_laysFlow_4 : decode cX12_laysFlow 4 = .ok (.invokevirtual 246, 3) := by decide +kernel
theorem dX12_laysFlow_7 : decode cX12_laysFlow 7 = .ok (.if_icmp .ge 16, 3) := by decide +kernel
theorem dX12_laysFlow_10 : decode cX12_laysFlow 10 = .ok (.aload_n 0, 1) := by decide +kernel
theorem dX12_laysFlow_11 : decode cX12_laysFlow 11 = .ok (.getfield 45, 3) := by decide +kernel
theorem dX12_laysFlow_14 : decode cX12_laysFlow 14 = .ok (.iload_n 1, 1) := by decide +kernel
theorem dX12_laysFlow_15 : decode cX12_laysFlow 15 = .ok (.iconst 0, 1) := by decide +kernel
theorem dX12_laysFlow_16 : decode cX12_laysFlow 16 = .ok (.iastore, 1) := by decide +kernel
theorem dX12_laysFlow_17 : decode cX12_laysFlow 17 = .ok (.iinc 1 1, 3) := by decide +kernel
theorem dX12_laysFlow_20 : decode cX12_laysFlow 20 = .ok (.goto (-18), 3) := by decide +kernel
theorem dX12_laysFlow_23 : decode cX12_laysFlow 23 = .ok (.iconst 0, 1) := by decide +kernel
theorem dX12_laysFlow_24 : decode cX12_laysFlow 24 = .ok (.istore_n 1, 1) := by decide +kernel
theorem dX12_laysFlow_25 : decode cX12_laysFlow 25 = .ok (.iload_n 1, 1) := by decide +kernel
theorem dX12_laysFlow_26 : decode cX12_laysFlow 26 = .ok (.aload_n 0, 1) := by decide +kernel
theorem dX12_laysFlow_27 : decode cX12_laysFlow 27 = .ok (.invokevirtual 246, 3) := by decide +kernel
theorem dX12_laysFlow_30 : decode cX12_laysFlow 30 = .ok (.if_icmp .ge 19, 3) := by decide +kernel
theorem dX12_laysFlow_33 : decode cX12_laysFlow 33 = .ok (.aload_n 0, 1) := by decide +kernel
theorem dX12_laysFlow_34 : decode cX12_laysFlow 34 = .ok (.aload_n 0, 1) := by decide +kernel
theorem dX12_laysFlow_35 : decode cX12_laysFlow 35 = .ok (.getfield 30, 3) := by decide +kernel
theorem dX12_laysFlow_38 : decode cX12_laysFlow 38 = .ok (.iload_n 1, 1) := by decide +kernel
theorem dX12_laysFlow_39 : decode cX12_laysFlow 39 = .ok (.iaload, 1) := by decide +kernel
theorem dX12_laysFlow_40 : decode cX12_laysFlow 40 = .ok (.invokevirtual 259, 3) := by decide +kernel
theorem dX12_laysFlow_43 : decode cX12_laysFlow 43 = .ok (.iinc 1 1, 3) := by decide +kernel
theorem dX12_laysFlow_46 : decode cX12_laysFlow 46 = .ok (.goto (-21), 3) := by decide +kernel
theorem dX12_laysFlow_49 : decode cX12_laysFlow 49 = .ok (.return_, 1) := by decide +kernel
theorem dX12_sources_0 : decode cX12_sources 0 = .ok (.iconst 0, 1) := by decide +kernel
theorem dX12_sources_1 : decode cX12_sources 1 = .ok (.istore_n 1, 1) := by decide +kernel
theorem dX12_sources_2 : decode cX12_sources 2 = .ok (.iconst 0, 1) := by decide +kernel
theorem dX12_sources_3 : decode cX12_sources 3 = .ok (.istore_n 2, 1) := by decide +kernel
theorem dX12_sources_4 : decode cX12_sources 4 = .ok (.iload_n 2, 1) := by decide +kernel
theorem dX12_sources_5 : decode cX12_sources 5 = .ok (.aload_n 0, 1) := by decide +kernel
theorem dX12_sources_6 : decode cX12_sources 6 = .ok (.invokevirtual 246, 3) := by decide +kernel
theorem dX12_sources_9 : decode cX12_sources 9 = .ok (.if_icmp .ge 23, 3) := by decide +kernel
theorem dX12_sources_12 : decode cX12_sources 12 = .ok (.aload_n 0, 1) := by decide +kernel
theorem dX12_sources_13 : decode cX12_sources 13 = .ok (.iload_n 2, 1) := by decide +kernel
theorem dX12_sources_14 : decode cX12_sources 14 = .ok (.invokevirtual 262, 3) := by decide +kernel
theorem dX12_sources_17 : decode cX12_sources 17 = .ok (.ifCond .eq 9, 3) := by decide +kernel
theorem dX12_sources_20 : decode cX12_sources 20 = .ok (.iload_n 1, 1) := by decide +kernel
theorem dX12_sources_21 : decode cX12_sources 21 = .ok (.iconst 1, 1) := by decide +kernel
theorem dX12_sources_22 : decode cX12_sources 22 = .ok (.iload_n 2, 1) := by decide +kernel
theorem dX12_sources_23 : decode cX12_sources 23 = .ok (.ishl, 1) := by decide +kernel
theorem dX12_sources_24 : decode cX12_sources 24 = .ok (.ior, 1) := by decide +kernel
theorem dX12_sources_25 : decode cX12_sources 25 = .ok (.istore_n 1, 1) := by decide +kernel
theorem dX12_sources_26 : decode cX12_sources 26 = .ok (.iinc 2 1, 3) := by decide +kernel
theorem dX12_sources_29 : decode cX12_sources 29 = .ok (.goto (-25), 3) := by decide +kernel
theorem dX12_sources_32 : decode cX12_sources 32 = .ok (.iload_n 1, 1) := by decide +kernel
theorem dX12_sources_33 : decode cX12_sources 33 = .ok (.ireturn, 1) := by decide +kernel
theorem dX12_areApart_0 : decode cX12_areApart 0 = .ok (.iconst 0, 1) := by decide +kernel
theorem dX12_areApart_1 : decode cX12_areApart 1 = .ok (.istore_n 3, 1) := by decide +kernel
theorem dX12_areApart_2 : decode cX12_areApart 2 = .ok (.iload_n 3, 1) := by decide +kernel
theorem dX12_areApart_3 : decode cX12_areApart 3 = .ok (.aload_n 0, 1) := by decide +kernel
theorem dX12_areApart_4 : decode cX12_areApart 4 = .ok (.invokevirtual 249, 3) := by decide +kernel
theorem dX12_areApart_7 : decode cX12_areApart 7 = .ok (.if_icmp .ge 85, 3) := by decide +kernel
theorem dX12_areApart_10 : decode cX12_areApart 10 = .ok (.iconst 0, 1) := by decide +kernel
theorem dX12_areApart_11 : decode cX12_areApart 11 = .ok (.istore 4, 2) := by decide +kernel
theorem dX12_areApart_13 : decode cX12_areApart 13 = .ok (.iload 4, 2) := by decide +kernel
theorem dX12_areApart_15 : decode cX12_areApart 15 = .ok (.iload_n 3, 1) := by decide +kernel
theorem dX12_areApart_16 : decode cX12_areApart 16 = .ok (.if_icmp .ge 70, 3) := by decide +kernel
theorem dX12_areApart_19 : decode cX12_areApart 19 = .ok (.aload_n 0, 1) := by decide +kernel
theorem dX12_areApart_20 : decode cX12_areApart 20 = .ok (.iload_n 3, 1) := by decide +kernel
theorem dX12_areApart_21 : decode cX12_areApart 21 = .ok (.iconst 1, 1) := by decide +kernel
theorem dX12_areApart_22 : decode cX12_areApart 22 = .ok (.invokevirtual 252, 3) := by decide +kernel
theorem dX12_areApart_25 : decode cX12_areApart 25 = .ok (.iload_n 1, 1) := by decide +kernel
theorem dX12_areApart_26 : decode cX12_areApart 26 = .ok (.if_icmp .ne 54, 3) := by decide +kernel
theorem dX12_areApart_29 : decode cX12_areApart 29 = .ok (.aload_n 0, 1) := by decide +kernel
theorem dX12_areApart_30 : decode cX12_areApart 30 = .ok (.iload 4, 2) := by decide +kernel
theorem dX12_areApart_32 : decode cX12_areApart 32 = .ok (.iconst 1, 1) := by decide +kernel
theorem dX12_areApart_33 : decode cX12_areApart 33 = .ok (.invokevirtual 252, 3) := by decide +kernel
theorem dX12_areApart_36 : decode cX12_areApart 36 = .ok (.iload_n 1, 1) := by decide +kernel
theorem dX12_areApart_37 : decode cX12_areApart 37 = .ok (.if_icmp .ne 43, 3) := by decide +kernel
theorem dX12_areApart_40 : decode cX12_areApart 40 = .ok (.aload_n 0, 1) := by decide +kernel
theorem dX12_areApart_41 : decode cX12_areApart 41 = .ok (.getfield 60, 3) := by decide +kernel
theorem dX12_areApart_44 : decode cX12_areApart 44 = .ok (.iload_n 3, 1) := by decide +kernel
theorem dX12_areApart_45 : decode cX12_areApart 45 = .ok (.iaload, 1) := by decide +kernel
theorem dX12_areApart_46 : decode cX12_areApart 46 = .ok (.iload_n 2, 1) := by decide +kernel
theorem dX12_areApart_47 : decode cX12_areApart 47 = .ok (.if_icmp .ne 33, 3) := by decide +kernel
theorem dX12_areApart_50 : decode cX12_areApart 50 = .ok (.aload_n 0, 1) := by decide +kernel
theorem dX12_areApart_51 : decode cX12_areApart 51 = .ok (.getfield 60, 3) := by decide +kernel
theorem dX12_areApart_54 : decode cX12_areApart 54 = .ok (.iload 4, 2) := by decide +kernel
theorem dX12_areApart_56 : decode cX12_areApart 56 = .ok (.iaload, 1) := by decide +kernel
theorem dX12_areApart_57 : decode cX12_areApart 57 = .ok (.iload_n 2, 1) := by decide +kernel
theorem dX12_areApart_58 : decode cX12_areApart 58 = .ok (.if_icmp .ne 22, 3) := by decide +kernel
theorem dX12_areApart_61 : decode cX12_areApart 61 = .ok (.aload_n 0, 1) := by decide +kernel
theorem dX12_areApart_62 : decode cX12_areApart 62 = .ok (.getfield 57, 3) := by decide +kernel
theorem dX12_areApart_65 : decode cX12_areApart 65 = .ok (.iload_n 3, 1) := by decide +kernel
theorem dX12_areApart_66 : decode cX12_areApart 66 = .ok (.iaload, 1) := by decide +kernel
theorem dX12_areApart_67 : decode cX12_areApart 67 = .ok (.aload_n 0, 1) := by decide +kernel
theorem dX12_areApart_68 : decode cX12_areApart 68 = .ok (.getfield 57, 3) := by decide +kernel
theorem dX12_areApart_71 : decode cX12_areApart 71 = .ok (.iload 4, 2) := by decide +kernel
theorem dX12_areApart_73 : decode cX12_areApart 73 = .ok (.iaload, 1) := by decide +kernel
theorem dX12_areApart_74 : decode cX12_areApart 74 = .ok (.iand, 1) := by decide +kernel
theorem dX12_areApart_75 : decode cX12_areApart 75 = .ok (.ifCond .ne 5, 3) := by decide +kernel
theorem dX12_areApart_78 : decode cX12_areApart 78 = .ok (.iconst 1, 1) := by decide +kernel
theorem dX12_areApart_79 : decode cX12_areApart 79 = .ok (.ireturn, 1) := by decide +kernel
theorem dX12_areApart_80 : decode cX12_areApart 80 = .ok (.iinc 4 1, 3) := by decide +kernel
theorem dX12_areApart_83 : decode cX12_areApart 83 = .ok (.goto (-70), 3) := by decide +kernel
theorem dX12_areApart_86 : decode cX12_areApart 86 = .ok (.iinc 3 1, 3) := by decide +kernel
theorem dX12_areApart_89 : decode cX12_areApart 89 = .ok (.goto (-87), 3) := by decide +kernel
theorem dX12_areApart_92 : decode cX12_areApart 92 = .ok (.iconst 0, 1) := by decide +kernel
theorem dX12_areApart_93 : decode cX12_areApart 93 = .ok (.ireturn, 1) := by decide +kernel
theorem dX12_metFrom_0 : decode cX12_metFrom 0 = .ok (.aload_n 0, 1) := by decide +kernel
theorem dX12_metFrom_1 : decode cX12_metFrom 1 = .ok (.iload_n 1, 1) := by decide +kernel
theorem dX12_metFrom_2 : decode cX12_metFrom 2 = .ok (.invokevirtual 262, 3) := by decide +kernel
theorem dX12_metFrom_5 : decode cX12_metFrom 5 = .ok (.ifCond .eq 5, 3) := by decide +kernel
theorem dX12_metFrom_8 : decode cX12_metFrom 8 = .ok (.iconst 1, 1) := by decide +kernel
theorem dX12_metFrom_9 : decode cX12_metFrom 9 = .ok (.ireturn, 1) := by decide +kernel
theorem dX12_metFrom_10 : decode cX12_metFrom 10 = .ok (.iconst 0, 1) := by decide +kernel
theorem dX12_metFrom_11 : decode cX12_metFrom 11 = .ok (.istore_n 2, 1) := by decide +kernel
theorem dX12_metFrom_12 : decode cX12_metFrom 12 = .ok (.iconst 0, 1) := by decide +kernel
theorem dX12_metFrom_13 : decode cX12_metFrom 13 = .ok (.istore_n 3, 1) := by decide +kernel
theorem dX12_metFrom_14 : decode cX12_metFrom 14 = .ok (.iload_n 3, 1) := by decide +kernel
theorem dX12_metFrom_15 : decode cX12_metFrom 15 = .ok (.aload_n 0, 1) := by decide +kernel
theorem dX12_metFrom_16 : decode cX12_metFrom 16 = .ok (.invokevirtual 249, 3) := by decide +kernel
theorem dX12_metFrom_19 : decode cX12_metFrom 19 = .ok (.if_icmp .ge 36, 3) := by decide +kernel
theorem dX12_metFrom_22 : decode cX12_metFrom 22 = .ok (.aload_n 0, 1) := by decide +kernel
theorem dX12_metFrom_23 : decode cX12_metFrom 23 = .ok (.iload_n 3, 1) := by decide +kernel
theorem dX12_metFrom_24 : decode cX12_metFrom 24 = .ok (.iconst 1, 1) := by decide +kernel
theorem dX12_metFrom_25 : decode cX12_metFrom 25 = .ok (.invokevirtual 252, 3) := by decide +kernel
theorem dX12_metFrom_28 : decode cX12_metFrom 28 = .ok (.iload_n 1, 1) := by decide +kernel
theorem dX12_metFrom_29 : decode cX12_metFrom 29 = .ok (.if_icmp .ne 20, 3) := by decide +kernel
theorem dX12_metFrom_32 : decode cX12_metFrom 32 = .ok (.aload_n 0, 1) := by decide +kernel
theorem dX12_metFrom_33 : decode cX12_metFrom 33 = .ok (.getfield 60, 3) := by decide +kernel
theorem dX12_metFrom_36 : decode cX12_metFrom 36 = .ok (.iload_n 3, 1) := by decide +kernel
theorem dX12_metFrom_37 : decode cX12_metFrom 37 = .ok (.iaload, 1) := by decide +kernel
theorem dX12_metFrom_38 : decode cX12_metFrom 38 = .ok (.iload_n 2, 1) := by decide +kernel
theorem dX12_metFrom_39 : decode cX12_metFrom 39 = .ok (.if_icmp .le 10, 3) := by decide +kernel
theorem dX12_metFrom_42 : decode cX12_metFrom 42 = .ok (.aload_n 0, 1) := by decide +kernel
theorem dX12_metFrom_43 : decode cX12_metFrom 43 = .ok (.getfield 60, 3) := by decide +kernel
theorem dX12_metFrom_46 : decode cX12_metFrom 46 = .ok (.iload_n 3, 1) := by decide +kernel
theorem dX12_metFrom_47 : decode cX12_metFrom 47 = .ok (.iaload, 1) := by decide +kernel
theorem dX12_metFrom_48 : decode cX12_metFrom 48 = .ok (.istore_n 2, 1) := by decide +kernel
theorem dX12_metFrom_49 : decode cX12_metFrom 49 = .ok (.iinc 3 1, 3) := by decide +kernel
theorem dX12_metFrom_52 : decode cX12_metFrom 52 = .ok (.goto (-38), 3) := by decide +kernel
theorem dX12_metFrom_55 : decode cX12_metFrom 55 = .ok (.iload_n 2, 1) := by decide +kernel
theorem dX12_metFrom_56 : decode cX12_metFrom 56 = .ok (.aload_n 0, 1) := by decide +kernel
theorem dX12_metFrom_57 : decode cX12_metFrom 57 = .ok (.iload_n 1, 1) := by decide +kernel
theorem dX12_metFrom_58 : decode cX12_metFrom 58 = .ok (.iload_n 2, 1) := by decide +kernel
theorem dX12_metFrom_59 : decode cX12_metFrom 59 = .ok (.invokevirtual 265, 3) := by decide +kernel
theorem dX12_metFrom_62 : decode cX12_metFrom 62 = .ok (.invokestatic 255, 3) := by decide +kernel
theorem dX12_metFrom_65 : decode cX12_metFrom 65 = .ok (.iadd, 1) := by decide +kernel
theorem dX12_metFrom_66 : decode cX12_metFrom 66 = .ok (.ireturn, 1) := by decide +kernel
theorem dX12_laysMet_0 : decode cX12_laysMet 0 = .ok (.aload_n 0, 1) := by decide +kernel
theorem dX12_laysMet_1 : decode cX12_laysMet 1 = .ok (.invokevirtual 268, 3) := by decide +kernel
theorem dX12_laysMet_4 : decode cX12_laysMet 4 = .ok (.istore_n 1, 1) := by decide +kernel
theorem dX12_laysMet_5 : decode cX12_laysMet 5 = .ok (.iconst 0, 1) := by decide +kernel
theorem dX12_laysMet_6 : decode cX12_laysMet 6 = .ok (.istore_n 2, 1) := by decide +kernel
theorem dX12_laysMet_7 : decode cX12_laysMet 7 = .ok (.iload_n 2, 1) := by decide +kernel
theorem dX12_laysMet_8 : decode cX12_laysMet 8 = .ok (.aload_n 0, 1) := by decide +kernel
theorem dX12_laysMet_9 : decode cX12_laysMet 9 = .ok (.invokevirtual 249, 3) := by decide +kernel
theorem dX12_laysMet_12 : decode cX12_laysMet 12 = .ok (.if_icmp .ge 37, 3) := by decide +kernel
theorem dX12_laysMet_15 : decode cX12_laysMet 15 = .ok (.aload_n 0, 1) := by decide +kernel
theorem dX12_laysMet_16 : decode cX12_laysMet 16 = .ok (.getfield 57, 3) := by decide +kernel
theorem dX12_laysMet_19 : decode cX12_laysMet 19 = .ok (.iload_n 2, 1) := by decide +kernel
theorem dX12_laysMet_20 : decode cX12_laysMet 20 = .ok (.aload_n 0, 1) := by decide +kernel
theorem dX12_laysMet_21 : decode cX12_laysMet 21 = .ok (.getfield 42, 3) := by decide +kernel
theorem dX12_laysMet_24 : decode cX12_laysMet 24 = .ok (.aload_n 0, 1) := by decide +kernel
theorem dX12_laysMet_25 : decode cX12_laysMet 25 = .ok (.iload_n 2, 1) := by decide +kernel
theorem dX12_laysMet_26 : decode cX12_laysMet 26 = .ok (.iconst 0, 1) := by decide +kernel
theorem dX12_laysMet_27 : decode cX12_laysMet 27 = .ok (.invokevirtual 252, 3) := by decide +kernel
theorem dX12_laysMet_30 : decode cX12_laysMet 30 = .ok (.iaload, 1) := by decide +kernel
theorem dX12_laysMet_31 : decode cX12_laysMet 31 = .ok (.iconst 1, 1) := by decide +kernel
theorem dX12_laysMet_32 : decode cX12_laysMet 32 = .ok (.aload_n 0, 1) := by decide +kernel
theorem dX12_laysMet_33 : decode cX12_laysMet 33 = .ok (.iload_n 2, 1) := by decide +kernel
theorem dX12_laysMet_34 : decode cX12_laysMet 34 = .ok (.iconst 0, 1) := by decide +kernel
theorem dX12_laysMet_35 : decode cX12_laysMet 35 = .ok (.invokevirtual 252, 3) := by decide +kernel
theorem dX12_laysMet_38 : decode cX12_laysMet 38 = .ok (.ishl, 1) := by decide +kernel
theorem dX12_laysMet_39 : decode cX12_laysMet 39 = .ok (.ior, 1) := by decide +kernel
theorem dX12_laysMet_40 : decode cX12_laysMet 40 = .ok (.iload_n 1, 1) := by decide +kernel
theorem dX12_laysMet_41 : decode cX12_laysMet 41 = .ok (.iand, 1) := by decide +kernel
theorem dX12_laysMet_42 : decode cX12_laysMet 42 = .ok (.iastore, 1) := by decide +kernel
theorem dX12_laysMet_43 : decode cX12_laysMet 43 = .ok (.iinc 2 1, 3) := by decide +kernel
theorem dX12_laysMet_46 : decode cX12_laysMet 46 = .ok (.goto (-39), 3) := by decide +kernel
theorem dX12_laysMet_49 : decode cX12_laysMet 49 = .ok (.iconst 0, 1) := by decide +kernel
theorem dX12_laysMet_50 : decode cX12_laysMet 50 = .ok (.istore_n 2, 1) := by decide +kernel
theorem dX12_laysMet_51 : decode cX12_laysMet 51 = .ok (.iload_n 2, 1) := by decide +kernel
theorem dX12_laysMet_52 : decode cX12_laysMet 52 = .ok (.aload_n 0, 1) := by decide +kernel
theorem dX12_laysMet_53 : decode cX12_laysMet 53 = .ok (.invokevirtual 246, 3) := by decide +kernel
theorem dX12_laysMet_56 : decode cX12_laysMet 56 = .ok (.if_icmp .ge 74, 3) := by decide +kernel
theorem dX12_laysMet_59 : decode cX12_laysMet 59 = .ok (.aload_n 0, 1) := by decide +kernel
theorem dX12_laysMet_60 : decode cX12_laysMet 60 = .ok (.getfield 30, 3) := by decide +kernel
theorem dX12_laysMet_63 : decode cX12_laysMet 63 = .ok (.iload_n 2, 1) := by decide +kernel
theorem dX12_laysMet_64 : decode cX12_laysMet 64 = .ok (.iaload, 1) := by decide +kernel
theorem dX12_laysMet_65 : decode cX12_laysMet 65 = .ok (.istore_n 3, 1) := by decide +kernel
theorem dX12_laysMet_66 : decode cX12_laysMet 66 = .ok (.aload_n 0, 1) := by decide +kernel
theorem dX12_laysMet_67 : decode cX12_laysMet 67 = .ok (.getfield 36, 3) := by decide +kernel
theorem dX12_laysMet_70 : decode cX12_laysMet 70 = .ok (.iload_n 3, 1) := by decide +kernel
theorem dX12_laysMet_71 : decode cX12_laysMet 71 = .ok (.iaload, 1) := by decide +kernel
theorem dX12_laysMet_72 : decode cX12_laysMet 72 = .ok (.ifCond .ne 7, 3) := by decide +kernel
theorem dX12_laysMet_75 : decode cX12_laysMet 75 = .ok (.iconst 0, 1) := by decide +kernel
theorem dX12_laysMet_76 : decode cX12_laysMet 76 = .ok (.goto 8, 3) := by decide +kernel
theorem dX12_laysMet_79 : decode cX12_laysMet 79 = .ok (.aload_n 0, 1) := by decide +kernel
theorem dX12_laysMet_80 : decode cX12_laysMet 80 = .ok (.iload_n 3, 1) := by decide +kernel
theorem dX12_laysMet_81 : decode cX12_laysMet 81 = .ok (.invokevirtual 271, 3) := by decide +kernel
theorem dX12_laysMet_84 : decode cX12_laysMet 84 = .ok (.istore 4, 2) := by decide +kernel
theorem dX12_laysMet_86 : decode cX12_laysMet 86 = .ok (.iconst 0, 1) := by decide +kernel
theorem dX12_laysMet_87 : decode cX12_laysMet 87 = .ok (.istore 5, 2) := by decide +kernel
theorem dX12_laysMet_89 : decode cX12_laysMet 89 = .ok (.iload 5, 2) := by decide +kernel
theorem dX12_laysMet_91 : decode cX12_laysMet 91 = .ok (.aload_n 0, 1) := by decide +kernel
theorem dX12_laysMet_92 : decode cX12_laysMet 92 = .ok (.invokevirtual 249, 3) := by decide +kernel
theorem dX12_laysMet_95 : decode cX12_laysMet 95 = .ok (.if_icmp .ge 29, 3) := by decide +kernel
theorem dX12_laysMet_98 : decode cX12_laysMet 98 = .ok (.aload_n 0, 1) := by decide +kernel
theorem dX12_laysMet_99 : decode cX12_laysMet 99 = .ok (.iload 5, 2) := by decide +kernel
theorem dX12_laysMet_101 : decode cX12_laysMet 101 = .ok (.iconst 0, 1) := by decide +kernel
theorem dX12_laysMet_102 : decode cX12_laysMet 102 = .ok (.invokevirtual 252, 3) := by decide +kernel
theorem dX12_laysMet_105 : decode cX12_laysMet 105 = .ok (.iload_n 3, 1) := by decide +kernel
theorem dX12_laysMet_106 : decode cX12_laysMet 106 = .ok (.if_icmp .ne 12, 3) := by decide +kernel
theorem dX12_laysMet_109 : decode cX12_laysMet 109 = .ok (.aload_n 0, 1) := by decide +kernel
theorem dX12_laysMet_110 : decode cX12_laysMet 110 = .ok (.getfield 60, 3) := by decide +kernel
theorem dX12_laysMet_113 : decode cX12_laysMet 113 = .ok (.iload 5, 2) := by decide +kernel
theorem dX12_laysMet_115 : decode cX12_laysMet 115 = .ok (.iload 4, 2) := by decide +kernel
theorem dX12_laysMet_117 : decode cX12_laysMet 117 = .ok (.iastore, 1) := by decide +kernel
theorem dX12_laysMet_118 : decode cX12_laysMet 118 = .ok (.iinc 5 1, 3) := by decide +kernel
theorem dX12_laysMet_121 : decode cX12_laysMet 121 = .ok (.goto (-32), 3) := by decide +kernel
theorem dX12_laysMet_124 : decode cX12_laysMet 124 = .ok (.iinc 2 1, 3) := by decide +kernel
theorem dX12_laysMet_127 : decode cX12_laysMet 127 = .ok (.goto (-76), 3) := by decide +kernel
theorem dX12_laysMet_130 : decode cX12_laysMet 130 = .ok (.return_, 1) := by decide +kernel
theorem dX12_greatest_0 : decode cX12_greatest 0 = .ok (.iconst (-1), 1) := by decide +kernel
theorem dX12_greatest_1 : decode cX12_greatest 1 = .ok (.istore 4, 2) := by decide +kernel
theorem dX12_greatest_3 : decode cX12_greatest 3 = .ok (.iconst 0, 1) := by decide +kernel
theorem dX12_greatest_4 : decode cX12_greatest 4 = .ok (.istore 5, 2) := by decide +kernel
theorem dX12_greatest_6 : decode cX12_greatest 6 = .ok (.iload 5, 2) := by decide +kernel
theorem dX12_greatest_8 : decode cX12_greatest 8 = .ok (.aload_n 0, 1) := by decide +kernel
theorem dX12_greatest_9 : decode cX12_greatest 9 = .ok (.invokevirtual 249, 3) := by decide +kernel
theorem dX12_greatest_12 : decode cX12_greatest 12 = .ok (.if_icmp .ge 100, 3) := by decide +kernel
theorem dX12_greatest_15 : decode cX12_greatest 15 = .ok (.aload_n 0, 1) := by decide +kernel
theorem dX12_greatest_16 : decode cX12_greatest 16 = .ok (.iload 5, 2) := by decide +kernel
theorem dX12_greatest_18 : decode cX12_greatest 18 = .ok (.iload_n 2, 1) := by decide +kernel
theorem dX12_greatest_19 : decode cX12_greatest 19 = .ok (.invokevirtual 252, 3) := by decide +kernel
theorem dX12_greatest_22 : decode cX12_greatest 22 = .ok (.iload_n 1, 1) := by decide +kernel
theorem dX12_greatest_23 : decode cX12_greatest 23 = .ok (.if_icmp .eq 6, 3) := by decide +kernel
theorem dX12_greatest_26 : decode cX12_greatest 26 = .ok (.goto 80, 3) := by decide +kernel
theorem dX12_greatest_29 : decode cX12_greatest 29 = .ok (.iload 4, 2) := by decide +kernel
theorem dX12_greatest_31 : decode cX12_greatest 31 = .ok (.iconst (-1), 1) := by decide +kernel
theorem dX12_greatest_32 : decode cX12_greatest 32 = .ok (.if_icmp .eq 70, 3) := by decide +kernel
theorem dX12_greatest_35 : decode cX12_greatest 35 = .ok (.iload_n 3, 1) := by decide +kernel
theorem dX12_greatest_36 : decode cX12_greatest 36 = .ok (.ifCond .eq 49, 3) := by decide +kernel
theorem dX12_greatest_39 : decode cX12_greatest 39 = .ok (.aload_n 0, 1) := by decide +kernel
theorem dX12_greatest_40 : decode cX12_greatest 40 = .ok (.getfield 51, 3) := by decide +kernel
theorem dX12_greatest_43 : decode cX12_greatest 43 = .ok (.aload_n 0, 1) := by decide +kernel
theorem dX12_greatest_44 : decode cX12_greatest 44 = .ok (.iload 5, 2) := by decide +kernel
theorem dX12_greatest_46 : decode cX12_greatest 46 = .ok (.iconst 0, 1) := by decide +kernel
theorem dX12_greatest_47 : decode cX12_greatest 47 = .ok (.invokevirtual 252, 3) := by decide +kernel
theorem dX12_greatest_50 : decode cX12_greatest 50 = .ok (.iaload, 1) := by decide +kernel
theorem dX12_greatest_51 : decode cX12_greatest 51 = .ok (.aload_n 0, 1) := by decide +kernel
theorem dX12_greatest_52 : decode cX12_greatest 52 = .ok (.iload 5, 2) := by decide +kernel
theorem dX12_greatest_54 : decode cX12_greatest 54 = .ok (.iconst 2, 1) := by decide +kernel
theorem dX12_greatest_55 : decode cX12_greatest 55 = .ok (.invokevirtual 252, 3) := by decide +kernel
theorem dX12_greatest_58 : decode cX12_greatest 58 = .ok (.iadd, 1) := by decide +kernel
theorem dX12_greatest_59 : decode cX12_greatest 59 = .ok (.aload_n 0, 1) := by decide +kernel
theorem dX12_greatest_60 : decode cX12_greatest 60 = .ok (.getfield 51, 3) := by decide +kernel
theorem dX12_greatest_63 : decode cX12_greatest 63 = .ok (.aload_n 0, 1) := by decide +kernel
theorem dX12_greatest_64 : decode cX12_greatest 64 = .ok (.iload 4, 2) := by decide +kernel
theorem dX12_greatest_66 : decode cX12_greatest 66 = .ok (.iconst 0, 1) := by decide +kernel
theorem dX12_greatest_67 : decode cX12_greatest 67 = .ok (.invokevirtual 252, 3) := by decide +kernel
theorem dX12_greatest_70 : decode cX12_greatest 70 = .ok (.iaload, 1) := by decide +kernel
theorem dX12_greatest_71 : decode cX12_greatest 71 = .ok (.aload_n 0, 1) := by decide +kernel
theorem dX12_greatest_72 : decode cX12_greatest 72 = .ok (.iload 4, 2) := by decide +kernel
theorem dX12_greatest_74 : decode cX12_greatest 74 = .ok (.iconst 2, 1) := by decide +kernel
theorem dX12_greatest_75 : decode cX12_greatest 75 = .ok (.invokevirtual 252, 3) := by decide +kernel
theorem dX12_greatest_78 : decode cX12_greatest 78 = .ok (.iadd, 1) := by decide +kernel
theorem dX12_greatest_79 : decode cX12_greatest 79 = .ok (.if_icmp .le 27, 3) := by decide +kernel
theorem dX12_greatest_82 : decode cX12_greatest 82 = .ok (.goto 20, 3) := by decide +kernel
theorem dX12_greatest_85 : decode cX12_greatest 85 = .ok (.aload_n 0, 1) := by decide +kernel
theorem dX12_greatest_86 : decode cX12_greatest 86 = .ok (.getfield 48, 3) := by decide +kernel
theorem dX12_greatest_89 : decode cX12_greatest 89 = .ok (.iload 5, 2) := by decide +kernel
theorem dX12_greatest_91 : decode cX12_greatest 91 = .ok (.iaload, 1) := by decide +kernel
theorem dX12_greatest_92 : decode cX12_greatest 92 = .ok (.aload_n 0, 1) := by decide +kernel
theorem dX12_greatest_93 : decode cX12_greatest 93 = .ok (.getfield 48, 3) := by decide +kernel
theorem dX12_greatest_96 : decode cX12_greatest 96 = .ok (.iload 4, 2) := by decide +kernel
theorem dX12_greatest_98 : decode cX12_greatest 98 = .ok (.iaload, 1) := by decide +kernel
theorem dX12_greatest_99 : decode cX12_greatest 99 = .ok (.if_icmp .le 7, 3) := by decide +kernel
theorem dX12_greatest_102 : decode cX12_greatest 102 = .ok (.iload 5, 2) := by decide +kernel
theorem dX12_greatest_104 : decode cX12_greatest 104 = .ok (.istore 4, 2) := by decide +kernel
theorem dX12_greatest_106 : decode cX12_greatest 106 = .ok (.iinc 5 1, 3) := by decide +kernel
theorem dX12_greatest_109 : decode cX12_greatest 109 = .ok (.goto (-103), 3) := by decide +kernel
theorem dX12_greatest_112 : decode cX12_greatest 112 = .ok (.iload 4, 2) := by decide +kernel
theorem dX12_greatest_114 : decode cX12_greatest 114 = .ok (.ireturn, 1) := by decide +kernel
theorem dX12_calledAs_0 : decode cX12_calledAs 0 = .ok (.iload_n 3, 1) := by decide +kernel
theorem dX12_calledAs_1 : decode cX12_calledAs 1 = .ok (.iconst (-1), 1) := by decide +kernel
theorem dX12_calledAs_2 : decode cX12_calledAs 2 = .ok (.if_icmp .eq 61, 3) := by decide +kernel
theorem dX12_calledAs_5 : decode cX12_calledAs 5 = .ok (.aload_n 0, 1) := by decide +kernel
theorem dX12_calledAs_6 : decode cX12_calledAs 6 = .ok (.iload_n 3, 1) := by decide +kernel
theorem dX12_calledAs_7 : decode cX12_calledAs 7 = .ok (.iconst 4, 1) := by decide +kernel
theorem dX12_calledAs_8 : decode cX12_calledAs 8 = .ok (.invokevirtual 252, 3) := by decide +kernel
theorem dX12_calledAs_11 : decode cX12_calledAs 11 = .ok (.iconst (-1), 1) := by decide +kernel
theorem dX12_calledAs_12 : decode cX12_calledAs 12 = .ok (.if_icmp .eq 51, 3) := by decide +kernel
theorem dX12_calledAs_15 : decode cX12_calledAs 15 = .ok (.iconst 0, 1) := by decide +kernel
theorem dX12_calledAs_16 : decode cX12_calledAs 16 = .ok (.istore 4, 2) := by decide +kernel
theorem dX12_calledAs_18 : decode cX12_calledAs 18 = .ok (.iload 4, 2) := by decide +kernel
theorem dX12_calledAs_20 : decode cX12_calledAs 20 = .ok (.aload_n 0, 1) := by decide +kernel
theorem dX12_calledAs_21 : decode cX12_calledAs 21 = .ok (.invokevirtual 249, 3) := by decide +kernel
theorem dX12_calledAs_24 : decode cX12_calledAs 24 = .ok (.if_icmp .ge 39, 3) := by decide +kernel
theorem dX12_calledAs_27 : decode cX12_calledAs 27 = .ok (.aload_n 0, 1) := by decide +kernel
theorem dX12_calledAs_28 : decode cX12_calledAs 28 = .ok (.iload 4, 2) := by decide +kernel
theorem dX12_calledAs_30 : decode cX12_calledAs 30 = .ok (.iload_n 2, 1) := by decide +kernel
theorem dX12_calledAs_31 : decode cX12_calledAs 31 = .ok (.invokevirtual 252, 3) := by decide +kernel
theorem dX12_calledAs_34 : decode cX12_calledAs 34 = .ok (.iload_n 1, 1) := by decide +kernel
theorem dX12_calledAs_35 : decode cX12_calledAs 35 = .ok (.if_icmp .ne 22, 3) := by decide +kernel
theorem dX12_calledAs_38 : decode cX12_calledAs 38 = .ok (.aload_n 0, 1) := by decide +kernel
theorem dX12_calledAs_39 : decode cX12_calledAs 39 = .ok (.iload 4, 2) := by decide +kernel
theorem dX12_calledAs_41 : decode cX12_calledAs 41 = .ok (.iconst 4, 1) := by decide +kernel
theorem dX12_calledAs_42 : decode cX12_calledAs 42 = .ok (.invokevirtual 252, 3) := by decide +kernel
theorem dX12_calledAs_45 : decode cX12_calledAs 45 = .ok (.aload_n 0, 1) := by decide +kernel
theorem dX12_calledAs_46 : decode cX12_calledAs 46 = .ok (.iload_n 3, 1) := by decide +kernel
theorem dX12_calledAs_47 : decode cX12_calledAs 47 = .ok (.iconst 4, 1) := by decide +kernel
theorem dX12_calledAs_48 : decode cX12_calledAs 48 = .ok (.invokevirtual 252, 3) := by decide +kernel
theorem dX12_calledAs_51 : decode cX12_calledAs 51 = .ok (.if_icmp .ne 6, 3) := by decide +kernel
theorem dX12_calledAs_54 : decode cX12_calledAs 54 = .ok (.iload 4, 2) := by decide +kernel
theorem dX12_calledAs_56 : decode cX12_calledAs 56 = .ok (.ireturn, 1) := by decide +kernel
theorem dX12_calledAs_57 : decode cX12_calledAs 57 = .ok (.iinc 4 1, 3) := by decide +kernel
theorem dX12_calledAs_60 : decode cX12_calledAs 60 = .ok (.goto (-42), 3) := by decide +kernel
theorem dX12_calledAs_63 : decode cX12_calledAs 63 = .ok (.aload_n 0, 1) := by decide +kernel
theorem dX12_calledAs_64 : decode cX12_calledAs 64 = .ok (.iload_n 1, 1) := by decide +kernel
theorem dX12_calledAs_65 : decode cX12_calledAs 65 = .ok (.iload_n 2, 1) := by decide +kernel
theorem dX12_calledAs_66 : decode cX12_calledAs 66 = .ok (.iconst 0, 1) := by decide +kernel
theorem dX12_calledAs_67 : decode cX12_calledAs 67 = .ok (.invokevirtual 274, 3) := by decide +kernel
theorem dX12_calledAs_70 : decode cX12_calledAs 70 = .ok (.ireturn, 1) := by decide +kernel
theorem dX12_mainIn_0 : decode cX12_mainIn 0 = .ok (.iload_n 2, 1) := by decide +kernel
theorem dX12_mainIn_1 : decode cX12_mainIn 1 = .ok (.iconst 2, 1) := by decide +kernel
theorem dX12_mainIn_2 : decode cX12_mainIn 2 = .ok (.if_icmp .ne 19, 3) := by decide +kernel
theorem dX12_mainIn_5 : decode cX12_mainIn 5 = .ok (.aload_n 0, 1) := by decide +kernel
theorem dX12_mainIn_6 : decode cX12_mainIn 6 = .ok (.iload_n 1, 1) := by decide +kernel
theorem dX12_mainIn_7 : decode cX12_mainIn 7 = .ok (.iconst 1, 1) := by decide +kernel
theorem dX12_mainIn_8 : decode cX12_mainIn 8 = .ok (.aload_n 0, 1) := by decide +kernel
theorem dX12_mainIn_9 : decode cX12_mainIn 9 = .ok (.iload_n 1, 1) := by decide +kernel
theorem dX12_mainIn_10 : decode cX12_mainIn 10 = .ok (.iconst 0, 1) := by decide +kernel
theorem dX12_mainIn_11 : decode cX12_mainIn 11 = .ok (.iconst 0, 1) := by decide +kernel
theorem dX12_mainIn_12 : decode cX12_mainIn 12 = .ok (.invokevirtual 274, 3) := by decide +kernel
theorem dX12_mainIn_15 : decode cX12_mainIn 15 = .ok (.invokevirtual 278, 3) := by decide +kernel
theorem dX12_mainIn_18 : decode cX12_mainIn 18 = .ok (.goto 19, 3) := by decide +kernel
theorem dX12_mainIn_21 : decode cX12_mainIn 21 = .ok (.aload_n 0, 1) := by decide +kernel
theorem dX12_mainIn_22 : decode cX12_mainIn 22 = .ok (.iload_n 1, 1) := by decide +kernel
theorem dX12_mainIn_23 : decode cX12_mainIn 23 = .ok (.iconst 1, 1) := by decide +kernel
theorem dX12_mainIn_24 : decode cX12_mainIn 24 = .ok (.iload_n 2, 1) := by decide +kernel
theorem dX12_mainIn_25 : decode cX12_mainIn 25 = .ok (.iconst 1, 1) := by decide +kernel
theorem dX12_mainIn_26 : decode cX12_mainIn 26 = .ok (.if_icmp .ne 7, 3) := by decide +kernel
theorem dX12_mainIn_29 : decode cX12_mainIn 29 = .ok (.iconst 1, 1) := by decide +kernel
theorem dX12_mainIn_30 : decode cX12_mainIn 30 = .ok (.goto 4, 3) := by decide +kernel
theorem dX12_mainIn_33 : decode cX12_mainIn 33 = .ok (.iconst 0, 1) := by decide +kernel
theorem dX12_mainIn_34 : decode cX12_mainIn 34 = .ok (.invokevirtual 274, 3) := by decide +kernel
theorem dX12_mainIn_37 : decode cX12_mainIn 37 = .ok (.ireturn, 1) := by decide +kernel
theorem dX12_mainOut_0 : decode cX12_mainOut 0 = .ok (.iload_n 2, 1) := by decide +kernel
theorem dX12_mainOut_1 : decode cX12_mainOut 1 = .ok (.iconst 2, 1) := by decide +kernel
theorem dX12_mainOut_2 : decode cX12_mainOut 2 = .ok (.if_icmp .ne 19, 3) := by decide +kernel
theorem dX12_mainOut_5 : decode cX12_mainOut 5 = .ok (.aload_n 0, 1) := by decide +kernel
theorem dX12_mainOut_6 : decode cX12_mainOut 6 = .ok (.iload_n 1, 1) := by decide +kernel
theorem dX12_mainOut_7 : decode cX12_mainOut 7 = .ok (.iconst 0, 1) := by decide +kernel
theorem dX12_mainOut_8 : decode cX12_mainOut 8 = .ok (.aload_n 0, 1) := by decide +kernel
theorem dX12_mainOut_9 : decode cX12_mainOut 9 = .ok (.iload_n 1, 1) := by decide +kernel
theorem dX12_mainOut_10 : decode cX12_mainOut 10 = .ok (.iconst 1, 1) := by decide +kernel
theorem dX12_mainOut_11 : decode cX12_mainOut 11 = .ok (.iconst 0, 1) := by decide +kernel
theorem dX12_mainOut_12 : decode cX12_mainOut 12 = .ok (.invokevirtual 274, 3) := by decide +kernel
theorem dX12_mainOut_15 : decode cX12_mainOut 15 = .ok (.invokevirtual 278, 3) := by decide +kernel
theorem dX12_mainOut_18 : decode cX12_mainOut 18 = .ok (.goto 10, 3) := by decide +kernel
theorem dX12_mainOut_21 : decode cX12_mainOut 21 = .ok (.aload_n 0, 1) := by decide +kernel
theorem dX12_mainOut_22 : decode cX12_mainOut 22 = .ok (.iload_n 1, 1) := by decide +kernel
theorem dX12_mainOut_23 : decode cX12_mainOut 23 = .ok (.iconst 0, 1) := by decide +kernel
theorem dX12_mainOut_24 : decode cX12_mainOut 24 = .ok (.iconst 0, 1) := by decide +kernel
theorem dX12_mainOut_25 : decode cX12_mainOut 25 = .ok (.invokevirtual 274, 3) := by decide +kernel
theorem dX12_mainOut_28 : decode cX12_mainOut 28 = .ok (.ireturn, 1) := by decide +kernel
theorem dX12_by_0 : decode cX12_by 0 = .ok (.bipush 30, 2) := by decide +kernel
theorem dX12_by_2 : decode cX12_by 2 = .ok (.iload_n 0, 1) := by decide +kernel
theorem dX12_by_3 : decode cX12_by 3 = .ok (.imul, 1) := by decide +kernel
theorem dX12_by_4 : decode cX12_by 4 = .ok (.iload_n 1, 1) := by decide +kernel
theorem dX12_by_5 : decode cX12_by 5 = .ok (.iadd, 1) := by decide +kernel
theorem dX12_by_6 : decode cX12_by 6 = .ok (.ireturn, 1) := by decide +kernel
theorem dX12_laysStems_0 : decode cX12_laysStems 0 = .ok (.iconst 0, 1) := by decide +kernel
theorem dX12_laysStems_1 : decode cX12_laysStems 1 = .ok (.istore_n 2, 1) := by decide +kernel
theorem dX12_laysStems_2 : decode cX12_laysStems 2 = .ok (.iload_n 2, 1) := by decide +kernel
theorem dX12_laysStems_3 : decode cX12_laysStems 3 = .ok (.aload_n 0, 1) := by decide +kernel
theorem dX12_laysStems_4 : decode cX12_laysStems 4 = .ok (.invokevirtual 249, 3) := by decide +kernel
theorem dX12_laysStems_7 : decode cX12_laysStems 7 = .ok (.if_icmp .ge 31, 3) := by decide +kernel
theorem dX12_laysStems_10 : decode cX12_laysStems 10 = .ok (.aload_n 0, 1) := by decide +kernel
theorem dX12_laysStems_11 : decode cX12_laysStems 11 = .ok (.getfield 63, 3) := by decide +kernel
theorem dX12_laysStems_14 : decode cX12_laysStems 14 = .ok (.iload_n 1, 1) := by decide +kernel
theorem dX12_laysStems_15 : decode cX12_laysStems 15 = .ok (.iload_n 2, 1) := by decide +kernel
theorem dX12_laysStems_16 : decode cX12_laysStems 16 = .ok (.invokestatic 282, 3) := by decide +kernel
theorem dX12_laysStems_19 : decode cX12_laysStems 19 = .ok (.iconst (-1), 1) := by decide +kernel
theorem dX12_laysStems_20 : decode cX12_laysStems 20 = .ok (.iastore, 1) := by decide +kernel
theorem dX12_laysStems_21 : decode cX12_laysStems 21 = .ok (.aload_n 0, 1) := by decide +kernel
theorem dX12_laysStems_22 : decode cX12_laysStems 22 = .ok (.getfield 66, 3) := by decide +kernel
theorem dX12_laysStems_25 : decode cX12_laysStems 25 = .ok (.iload_n 1, 1) := by decide +kernel
theorem dX12_laysStems_26 : decode cX12_laysStems 26 = .ok (.iload_n 2, 1) := by decide +kernel
theorem dX12_laysStems_27 : decode cX12_laysStems 27 = .ok (.invokestatic 282, 3) := by decide +kernel
theorem dX12_laysStems_30 : decode cX12_laysStems 30 = .ok (.iconst (-1), 1) := by decide +kernel
theorem dX12_laysStems_31 : decode cX12_laysStems 31 = .ok (.iastore, 1) := by decide +kernel
theorem dX12_laysStems_32 : decode cX12_laysStems 32 = .ok (.iinc 2 1, 3) := by decide +kernel
theorem dX12_laysStems_35 : decode cX12_laysStems 35 = .ok (.goto (-33), 3) := by decide +kernel
theorem dX12_laysStems_38 : decode cX12_laysStems 38 = .ok (.iconst 0, 1) := by decide +kernel
theorem dX12_laysStems_39 : decode cX12_laysStems 39 = .ok (.istore_n 2, 1) := by decide +kernel
theorem dX12_laysStems_40 : decode cX12_laysStems 40 = .ok (.iload_n 2, 1) := by decide +kernel
theorem dX12_laysStems_41 : decode cX12_laysStems 41 = .ok (.aload_n 0, 1) := by decide +kernel
theorem dX12_laysStems_42 : decode cX12_laysStems 42 = .ok (.invokevirtual 246, 3) := by decide +kernel
theorem dX12_laysStems_45 : decode cX12_laysStems 45 = .ok (.if_icmp .ge 62, 3) := by decide +kernel
theorem dX12_laysStems_48 : decode cX12_laysStems 48 = .ok (.aload_n 0, 1) := by decide +kernel
theorem dX12_laysStems_49 : decode cX12_laysStems 49 = .ok (.iload_n 2, 1) := by decide +kernel
theorem dX12_laysStems_50 : decode cX12_laysStems 50 = .ok (.iload_n 1, 1) := by decide +kernel
theorem dX12_laysStems_51 : decode cX12_laysStems 51 = .ok (.invokevirtual 284, 3) := by decide +kernel
theorem dX12_laysStems_54 : decode cX12_laysStems 54 = .ok (.istore_n 3, 1) := by decide +kernel
theorem dX12_laysStems_55 : decode cX12_laysStems 55 = .ok (.aload_n 0, 1) := by decide +kernel
theorem dX12_laysStems_56 : decode cX12_laysStems 56 = .ok (.iload_n 2, 1) := by decide +kernel
theorem dX12_laysStems_57 : decode cX12_laysStems 57 = .ok (.iload_n 1, 1) := by decide +kernel
theorem dX12_laysStems_58 : decode cX12_laysStems 58 = .ok (.invokevirtual 287, 3) := by decide +kernel
theorem dX12_laysStems_61 : decode cX12_laysStems 61 = .ok (.istore 4, 2) := by decide +kernel
theorem dX12_laysStems_63 : decode cX12_laysStems 63 = .ok (.iload_n 3, 1) := by decide +kernel
theorem dX12_laysStems_64 : decode cX12_laysStems 64 = .ok (.iconst (-1), 1) := by decide +kernel
theorem dX12_laysStems_65 : decode cX12_laysStems 65 = .ok (.if_icmp .eq 36, 3) := by decide +kernel
theorem dX12_laysStems_68 : decode cX12_laysStems 68 = .ok (.iload 4, 2) := by decide +kernel
theorem dX12_laysStems_70 : decode cX12_laysStems 70 = .ok (.iconst (-1), 1) := by decide +kernel
theorem dX12_laysStems_71 : decode cX12_laysStems 71 = .ok (.if_icmp .ne 6, 3) := by decide +kernel
theorem dX12_laysStems_74 : decode cX12_laysStems 74 = .ok (.goto 27, 3) := by decide +kernel
theorem dX12_laysStems_77 : decode cX12_laysStems 77 = .ok (.aload_n 0, 1) := by decide +kernel
theorem dX12_laysStems_78 : decode cX12_laysStems 78 = .ok (.getfield 63, 3) := by decide +kernel
theorem dX12_laysStems_81 : decode cX12_laysStems 81 = .ok (.iload_n 1, 1) := by decide +kernel
theorem dX12_laysStems_82 : decode cX12_laysStems 82 = .ok (.iload_n 3, 1) := by decide +kernel
theorem dX12_laysStems_83 : decode cX12_laysStems 83 = .ok (.invokestatic 282, 3) := by decide +kernel
theorem dX12_laysStems_86 : decode cX12_laysStems 86 = .ok (.iload 4, 2) := by decide +kernel
theorem dX12_laysStems_88 : decode cX12_laysStems 88 = .ok (.iastore, 1) := by decide +kernel
theorem dX12_laysStems_89 : decode cX12_laysStems 89 = .ok (.aload_n 0, 1) := by decide +kernel
theorem dX12_laysStems_90 : decode cX12_laysStems 90 = .ok (.getfield 66, 3) := by decide +kernel
theorem dX12_laysStems_93 : decode cX12_laysStems 93 = .ok (.iload_n 1, 1) := by decide +kernel
theorem dX12_laysStems_94 : decode cX12_laysStems 94 = .ok (.iload 4, 2) := by decide +kernel
theorem dX12_laysStems_96 : decode cX12_laysStems 96 = .ok (.invokestatic 282, 3) := by decide +kernel
theorem dX12_laysStems_99 : decode cX12_laysStems 99 = .ok (.iload_n 3, 1) := by decide +kernel
theorem dX12_laysStems_100 : decode cX12_laysStems 100 = .ok (.iastore, 1) := by decide +kernel
theorem dX12_laysStems_101 : decode cX12_laysStems 101 = .ok (.iinc 2 1, 3) := by decide +kernel
theorem dX12_laysStems_104 : decode cX12_laysStems 104 = .ok (.goto (-64), 3) := by decide +kernel
theorem dX12_laysStems_107 : decode cX12_laysStems 107 = .ok (.aload_n 0, 1) := by decide +kernel
theorem dX12_laysStems_108 : decode cX12_laysStems 108 = .ok (.iload_n 1, 1) := by decide +kernel
theorem dX12_laysStems_109 : decode cX12_laysStems 109 = .ok (.invokevirtual 290, 3) := by decide +kernel
theorem dX12_laysStems_112 : decode cX12_laysStems 112 = .ok (.aload_n 0, 1) := by decide +kernel
theorem dX12_laysStems_113 : decode cX12_laysStems 113 = .ok (.iload_n 1, 1) := by decide +kernel
theorem dX12_laysStems_114 : decode cX12_laysStems 114 = .ok (.invokevirtual 293, 3) := by decide +kernel
theorem dX12_laysStems_117 : decode cX12_laysStems 117 = .ok (.return_, 1) := by decide +kernel
theorem dX12_laysBranches_0 : decode cX12_laysBranches 0 = .ok (.aload_n 0, 1) := by decide +kernel
theorem dX12_laysBranches_1 : decode cX12_laysBranches 1 = .ok (.invokevirtual 246, 3) := by decide +kernel
theorem dX12_laysBranches_4 : decode cX12_laysBranches 4 = .ok (.iconst 1, 1) := by decide +kernel
theorem dX12_laysBranches_5 : decode cX12_laysBranches 5 = .ok (.isub, 1) := by decide +kernel
theorem dX12_laysBranches_6 : decode cX12_laysBranches 6 = .ok (.istore_n 2, 1) := by decide +kernel
theorem dX12_laysBranches_7 : decode cX12_laysBranches 7 = .ok (.iload_n 2, 1) := by decide +kernel
theorem dX12_laysBranches_8 : decode cX12_laysBranches 8 = .ok (.ifCond .lt 98, 3) := by decide +kernel
theorem dX12_laysBranches_11 : decode cX12_laysBranches 11 = .ok (.iconst 0, 1) := by decide +kernel
theorem dX12_laysBranches_12 : decode cX12_laysBranches 12 = .ok (.istore_n 3, 1) := by decide +kernel
theorem dX12_laysBranches_13 : decode cX12_laysBranches 13 = .ok (.iload_n 3, 1) := by decide +kernel
theorem dX12_laysBranches_14 : decode cX12_laysBranches 14 = .ok (.aload_n 0, 1) := by decide +kernel
theorem dX12_laysBranches_15 : decode cX12_laysBranches 15 = .ok (.invokevirtual 249, 3) := by decide +kernel
theorem dX12_laysBranches_18 : decode cX12_laysBranches 18 = .ok (.if_icmp .ge 82, 3) := by decide +kernel
theorem dX12_laysBranches_21 : decode cX12_laysBranches 21 = .ok (.aload_n 0, 1) := by decide +kernel
theorem dX12_laysBranches_22 : decode cX12_laysBranches 22 = .ok (.iload_n 3, 1) := by decide +kernel
theorem dX12_laysBranches_23 : decode cX12_laysBranches 23 = .ok (.iconst 1, 1) := by decide +kernel
theorem dX12_laysBranches_24 : decode cX12_laysBranches 24 = .ok (.invokevirtual 252, 3) := by decide +kernel
theorem dX12_laysBranches_27 : decode cX12_laysBranches 27 = .ok (.aload_n 0, 1) := by decide +kernel
theorem dX12_laysBranches_28 : decode cX12_laysBranches 28 = .ok (.getfield 30, 3) := by decide +kernel
theorem dX12_laysBranches_31 : decode cX12_laysBranches 31 = .ok (.iload_n 2, 1) := by decide +kernel
theorem dX12_laysBranches_32 : decode cX12_laysBranches 32 = .ok (.iaload, 1) := by decide +kernel
theorem dX12_laysBranches_33 : decode cX12_laysBranches 33 = .ok (.if_icmp .eq 6, 3) := by decide +kernel
theorem dX12_laysBranches_36 : decode cX12_laysBranches 36 = .ok (.goto 58, 3) := by decide +kernel
theorem dX12_laysBranches_39 : decode cX12_laysBranches 39 = .ok (.aload_n 0, 1) := by decide +kernel
theorem dX12_laysBranches_40 : decode cX12_laysBranches 40 = .ok (.getfield 63, 3) := by decide +kernel
theorem dX12_laysBranches_43 : decode cX12_laysBranches 43 = .ok (.iload_n 1, 1) := by decide +kernel
theorem dX12_laysBranches_44 : decode cX12_laysBranches 44 = .ok (.iload_n 3, 1) := by decide +kernel
theorem dX12_laysBranches_45 : decode cX12_laysBranches 45 = .ok (.invokestatic 282, 3) := by decide +kernel
theorem dX12_laysBranches_48 : decode cX12_laysBranches 48 = .ok (.iaload, 1) := by decide +kernel
theorem dX12_laysBranches_49 : decode cX12_laysBranches 49 = .ok (.istore 4, 2) := by decide +kernel
theorem dX12_laysBranches_51 : decode cX12_laysBranches 51 = .ok (.aload_n 0, 1) := by decide +kernel
theorem dX12_laysBranches_52 : decode cX12_laysBranches 52 = .ok (.getfield 69, 3) := by decide +kernel
theorem dX12_laysBranches_55 : decode cX12_laysBranches 55 = .ok (.iload_n 1, 1) := by decide +kernel
theorem dX12_laysBranches_56 : decode cX12_laysBranches 56 = .ok (.iload_n 3, 1) := by decide +kernel
theorem dX12_laysBranches_57 : decode cX12_laysBranches 57 = .ok (.invokestatic 282, 3) := by decide +kernel
theorem dX12_laysBranches_60 : decode cX12_laysBranches 60 = .ok (.iload 4, 2) := by decide +kernel
theorem dX12_laysBranches_62 : decode cX12_laysBranches 62 = .ok (.iconst (-1), 1) := by decide +kernel
theorem dX12_laysBranches_63 : decode cX12_laysBranches 63 = .ok (.if_icmp .eq 17, 3) := by decide +kernel
theorem dX12_laysBranches_66 : decode cX12_laysBranches 66 = .ok (.aload_n 0, 1) := by decide +kernel
theorem dX12_laysBranches_67 : decode cX12_laysBranches 67 = .ok (.getfield 69, 3) := by decide +kernel
theorem dX12_laysBranches_70 : decode cX12_laysBranches 70 = .ok (.iload_n 1, 1) := by decide +kernel
theorem dX12_laysBranches_71 : decode cX12_laysBranches 71 = .ok (.iload 4, 2) := by decide +kernel
theorem dX12_laysBranches_73 : decode cX12_laysBranches 73 = .ok (.invokestatic 282, 3) := by decide +kernel
theorem dX12_laysBranches_76 : decode cX12_laysBranches 76 = .ok (.iaload, 1) := by decide +kernel
theorem dX12_laysBranches_77 : decode cX12_laysBranches 77 = .ok (.goto 16, 3) := by decide +kernel
theorem dX12_laysBranches_80 : decode cX12_laysBranches 80 = .ok (.iconst 1, 1) := by decide +kernel
theorem dX12_laysBranches_81 : decode cX12_laysBranches 81 = .ok (.aload_n 0, 1) := by decide +kernel
theorem dX12_laysBranches_82 : decode cX12_laysBranches 82 = .ok (.aload_n 0, 1) := by decide +kernel
theorem dX12_laysBranches_83 : decode cX12_laysBranches 83 = .ok (.getfield 30, 3) := by decide +kernel
theorem dX12_laysBranches_86 : decode cX12_laysBranches 86 = .ok (.iload_n 2, 1) := by decide +kernel
theorem dX12_laysBranches_87 : decode cX12_laysBranches 87 = .ok (.iaload, 1) := by decide +kernel
theorem dX12_laysBranches_88 : decode cX12_laysBranches 88 = .ok (.iload_n 1, 1) := by decide +kernel
theorem dX12_laysBranches_89 : decode cX12_laysBranches 89 = .ok (.invokevirtual 296, 3) := by decide +kernel
theorem dX12_laysBranches_92 : decode cX12_laysBranches 92 = .ok (.iadd, 1) := by decide +kernel
theorem dX12_laysBranches_93 : decode cX12_laysBranches 93 = .ok (.iastore, 1) := by decide +kernel
theorem dX12_laysBranches_94 : decode cX12_laysBranches 94 = .ok (.iinc 3 1, 3) := by decide +kernel
theorem dX12_laysBranches_97 : decode cX12_laysBranches 97 = .ok (.goto (-84), 3) := by decide +kernel
theorem dX12_laysBranches_100 : decode cX12_laysBranches 100 = .ok (.iinc 2 (-1), 3) := by decide +kernel
theorem dX12_laysBranches_103 : decode cX12_laysBranches 103 = .ok (.goto (-96), 3) := by decide +kernel
theorem dX12_laysBranches_106 : decode cX12_laysBranches 106 = .ok (.return_, 1) := by decide +kernel
theorem dX12_leastBranch_0 : decode cX12_leastBranch 0 = .ok (.iconst 0, 1) := by decide +kernel
theorem dX12_leastBranch_1 : decode cX12_leastBranch 1 = .ok (.istore_n 3, 1) := by decide +kernel
theorem dX12_leastBranch_2 : decode cX12_leastBranch 2 = .ok (.iconst 0, 1) := by decide +kernel
theorem dX12_leastBranch_3 : decode cX12_leastBranch 3 = .ok (.istore 4, 2) := by decide +kernel
theorem dX12_leastBranch_5 : decode cX12_leastBranch 5 = .ok (.iload 4, 2) := by decide +kernel
theorem dX12_leastBranch_7 : decode cX12_leastBranch 7 = .ok (.aload_n 0, 1) := by decide +kernel
theorem dX12_leastBranch_8 : decode cX12_leastBranch 8 = .ok (.invokevirtual 249, 3) := by decide +kernel
theorem dX12_leastBranch_11 : decode cX12_leastBranch 11 = .ok (.if_icmp .ge 51, 3) := by decide +kernel
theorem dX12_leastBranch_14 : decode cX12_leastBranch 14 = .ok (.aload_n 0, 1) := by decide +kernel
theorem dX12_leastBranch_15 : decode cX12_leastBranch 15 = .ok (.iload 4, 2) := by decide +kernel
theorem dX12_leastBranch_17 : decode cX12_leastBranch 17 = .ok (.iconst 0, 1) := by decide +kernel
theorem dX12_leastBranch_18 : decode cX12_leastBranch 18 = .ok (.invokevirtual 252, 3) := by decide +kernel
theorem dX12_leastBranch_21 : decode cX12_leastBranch 21 = .ok (.iload_n 1, 1) := by decide +kernel
theorem dX12_leastBranch_22 : decode cX12_leastBranch 22 = .ok (.if_icmp .ne 34, 3) := by decide +kernel
theorem dX12_leastBranch_25 : decode cX12_leastBranch 25 = .ok (.iload_n 3, 1) := by decide +kernel
theorem dX12_leastBranch_26 : decode cX12_leastBranch 26 = .ok (.ifCond .eq 18, 3) := by decide +kernel
theorem dX12_leastBranch_29 : decode cX12_leastBranch 29 = .ok (.aload_n 0, 1) := by decide +kernel
theorem dX12_leastBranch_30 : decode cX12_leastBranch 30 = .ok (.getfield 69, 3) := by decide +kernel
theorem dX12_leastBranch_33 : decode cX12_leastBranch 33 = .ok (.iload_n 2, 1) := by decide +kernel
theorem dX12_leastBranch_34 : decode cX12_leastBranch 34 = .ok (.iload 4, 2) := by decide +kernel
theorem dX12_leastBranch_36 : decode cX12_leastBranch 36 = .ok (.invokestatic 282, 3) := by decide +kernel
theorem dX12_leastBranch_39 : decode cX12_leastBranch 39 = .ok (.iaload, 1) := by decide +kernel
theorem dX12_leastBranch_40 : decode cX12_leastBranch 40 = .ok (.iload_n 3, 1) := by decide +kernel
theorem dX12_leastBranch_41 : decode cX12_leastBranch 41 = .ok (.if_icmp .ge 15, 3) := by decide +kernel
theorem dX12_leastBranch_44 : decode cX12_leastBranch 44 = .ok (.aload_n 0, 1) := by decide +kernel
theorem dX12_leastBranch_45 : decode cX12_leastBranch 45 = .ok (.getfield 69, 3) := by decide +kernel
theorem dX12_leastBranch_48 : decode cX12_leastBranch 48 = .ok (.iload_n 2, 1) := by decide +kernel
theorem dX12_leastBranch_49 : decode cX12_leastBranch 49 = .ok (.iload 4, 2) := by decide +kernel
theorem dX12_leastBranch_51 : decode cX12_leastBranch 51 = .ok (.invokestatic 282, 3) := by decide +kernel
theorem dX12_leastBranch_54 : decode cX12_leastBranch 54 = .ok (.iaload, 1) := by decide +kernel
theorem dX12_leastBranch_55 : decode cX12_leastBranch 55 = .ok (.istore_n 3, 1) := by decide +kernel
theorem dX12_leastBranch_56 : decode cX12_leastBranch 56 = .ok (.iinc 4 1, 3) := by decide +kernel
theorem dX12_leastBranch_59 : decode cX12_leastBranch 59 = .ok (.goto (-54), 3) := by decide +kernel
theorem dX12_leastBranch_62 : decode cX12_leastBranch 62 = .ok (.iload_n 3, 1) := by decide +kernel
theorem dX12_leastBranch_63 : decode cX12_leastBranch 63 = .ok (.ireturn, 1) := by decide +kernel
theorem dX12_topOf_0 : decode cX12_topOf 0 = .ok (.iload_n 1, 1) := by decide +kernel
theorem dX12_topOf_1 : decode cX12_topOf 1 = .ok (.istore_n 3, 1) := by decide +kernel
theorem dX12_topOf_2 : decode cX12_topOf 2 = .ok (.aload_n 0, 1) := by decide +kernel
theorem dX12_topOf_3 : decode cX12_topOf 3 = .ok (.getfield 66, 3) := by decide +kernel
theorem dX12_topOf_6 : decode cX12_topOf 6 = .ok (.iload_n 2, 1) := by decide +kernel
theorem dX12_topOf_7 : decode cX12_topOf 7 = .ok (.iload_n 3, 1) := by decide +kernel
theorem dX12_topOf_8 : decode cX12_topOf 8 = .ok (.invokestatic 282, 3) := by decide +kernel
theorem dX12_topOf_11 : decode cX12_topOf 11 = .ok (.iaload, 1) := by decide +kernel
theorem dX12_topOf_12 : decode cX12_topOf 12 = .ok (.iconst (-1), 1) := by decide +kernel
theorem dX12_topOf_13 : decode cX12_topOf 13 = .ok (.if_icmp .eq 17, 3) := by decide +kernel
theorem dX12_topOf_16 : decode cX12_topOf 16 = .ok (.aload_n 0, 1) := by decide +kernel
theorem dX12_topOf_17 : decode cX12_topOf 17 = .ok (.getfield 66, 3) := by decide +kernel
theorem dX12_topOf_20 : decode cX12_topOf 20 = .ok (.iload_n 2, 1) := by decide +kernel
theorem dX12_topOf_21 : decode cX12_topOf 21 = .ok (.iload_n 3, 1) := by decide +kernel
theorem dX12_topOf_22 : decode cX12_topOf 22 = .ok (.invokestatic 282, 3) := by decide +kernel
theorem dX12_topOf_25 : decode cX12_topOf 25 = .ok (.iaload, 1) := by decide +kernel
theorem dX12_topOf_26 : decode cX12_topOf 26 = .ok (.istore_n 3, 1) := by decide +kernel
theorem dX12_topOf_27 : decode cX12_topOf 27 = .ok (.goto (-25), 3) := by decide +kernel
theorem dX12_topOf_30 : decode cX12_topOf 30 = .ok (.iload_n 3, 1) := by decide +kernel
theorem dX12_topOf_31 : decode cX12_topOf 31 = .ok (.ireturn, 1) := by decide +kernel
theorem dX12_laysCrowns_0 : decode cX12_laysCrowns 0 = .ok (.iconst 0, 1) := by decide +kernel
theorem dX12_laysCrowns_1 : decode cX12_laysCrowns 1 = .ok (.istore_n 2, 1) := by decide +kernel
theorem dX12_laysCrowns_2 : decode cX12_laysCrowns 2 = .ok (.iload_n 2, 1) := by decide +kernel
theorem dX12_laysCrowns_3 : decode cX12_laysCrowns 3 = .ok (.aload_n 0, 1) := by decide +kernel
theorem dX12_laysCrowns_4 : decode cX12_laysCrowns 4 = .ok (.invokevirtual 249, 3) := by decide +kernel
theorem dX12_laysCrowns_7 : decode cX12_laysCrowns 7 = .ok (.if_icmp .ge 71, 3) := by decide +kernel
theorem dX12_laysCrowns_10 : decode cX12_laysCrowns 10 = .ok (.iconst 0, 1) := by decide +kernel
theorem dX12_laysCrowns_11 : decode cX12_laysCrowns 11 = .ok (.istore_n 3, 1) := by decide +kernel
theorem dX12_laysCrowns_12 : decode cX12_laysCrowns 12 = .ok (.aload_n 0, 1) := by decide +kernel
theorem dX12_laysCrowns_13 : decode cX12_laysCrowns 13 = .ok (.iload_n 2, 1) := by decide +kernel
theorem dX12_laysCrowns_14 : decode cX12_laysCrowns 14 = .ok (.iload_n 1, 1) := by decide +kernel
theorem dX12_laysCrowns_15 : decode cX12_laysCrowns 15 = .ok (.invokevirtual 299, 3) := by decide +kernel
theorem dX12_laysCrowns_18 : decode cX12_laysCrowns 18 = .ok (.istore 4, 2) := by decide +kernel
theorem dX12_laysCrowns_20 : decode cX12_laysCrowns 20 = .ok (.iload 4, 2) := by decide +kernel
theorem dX12_laysCrowns_22 : decode cX12_laysCrowns 22 = .ok (.iconst (-1), 1) := by decide +kernel
theorem dX12_laysCrowns_23 : decode cX12_laysCrowns 23 = .ok (.if_icmp .eq 38, 3) := by decide +kernel
theorem dX12_laysCrowns_26 : decode cX12_laysCrowns 26 = .ok (.aload_n 0, 1) := by decide +kernel
theorem dX12_laysCrowns_27 : decode cX12_laysCrowns 27 = .ok (.getfield 60, 3) := by decide +kernel
theorem dX12_laysCrowns_30 : decode cX12_laysCrowns 30 = .ok (.iload 4, 2) := by decide +kernel
theorem dX12_laysCrowns_32 : decode cX12_laysCrowns 32 = .ok (.iaload, 1) := by decide +kernel
theorem dX12_laysCrowns_33 : decode cX12_laysCrowns 33 = .ok (.iload_n 3, 1) := by decide +kernel
theorem dX12_laysCrowns_34 : decode cX12_laysCrowns 34 = .ok (.if_icmp .le 11, 3) := by decide +kernel
theorem dX12_laysCrowns_37 : decode cX12_laysCrowns 37 = .ok (.aload_n 0, 1) := by decide +kernel
theorem dX12_laysCrowns_38 : decode cX12_laysCrowns 38 = .ok (.getfield 60, 3) := by decide +kernel
theorem dX12_laysCrowns_41 : decode cX12_laysCrowns 41 = .ok (.iload 4, 2) := by decide +kernel
theorem dX12_laysCrowns_43 : decode cX12_laysCrowns 43 = .ok (.iaload, 1) := by decide +kernel
theorem dX12_laysCrowns_44 : decode cX12_laysCrowns 44 = .ok (.istore_n 3, 1) := by decide +kernel
theorem dX12_laysCrowns_45 : decode cX12_laysCrowns 45 = .ok (.aload_n 0, 1) := by decide +kernel
theorem dX12_laysCrowns_46 : decode cX12_laysCrowns 46 = .ok (.getfield 63, 3) := by decide +kernel
theorem dX12_laysCrowns_49 : decode cX12_laysCrowns 49 = .ok (.iload_n 1, 1) := by decide +kernel
theorem dX12_laysCrowns_50 : decode cX12_laysCrowns 50 = .ok (.iload 4, 2) := by decide +kernel
theorem dX12_laysCrowns_52 : decode cX12_laysCrowns 52 = .ok (.invokestatic 282, 3) := by decide +kernel
theorem dX12_laysCrowns_55 : decode cX12_laysCrowns 55 = .ok (.iaload, 1) := by decide +kernel
theorem dX12_laysCrowns_56 : decode cX12_laysCrowns 56 = .ok (.istore 4, 2) := by decide +kernel
theorem dX12_laysCrowns_58 : decode cX12_laysCrowns 58 = .ok (.goto (-38), 3) := by decide +kernel
theorem dX12_laysCrowns_61 : decode cX12_laysCrowns 61 = .ok (.aload_n 0, 1) := by decide +kernel
theorem dX12_laysCrowns_62 : decode cX12_laysCrowns 62 = .ok (.getfield 72, 3) := by decide +kernel
theorem dX12_laysCrowns_65 : decode cX12_laysCrowns 65 = .ok (.iload_n 1, 1) := by decide +kernel
theorem dX12_laysCrowns_66 : decode cX12_laysCrowns 66 = .ok (.iload_n 2, 1) := by decide +kernel
theorem dX12_laysCrowns_67 : decode cX12_laysCrowns 67 = .ok (.invokestatic 282, 3) := by decide +kernel
theorem dX12_laysCrowns_70 : decode cX12_laysCrowns 70 = .ok (.iload_n 3, 1) := by decide +kernel
theorem dX12_laysCrowns_71 : decode cX12_laysCrowns 71 = .ok (.iastore, 1) := by decide +kernel
theorem dX12_laysCrowns_72 : decode cX12_laysCrowns 72 = .ok (.iinc 2 1, 3) := by decide +kernel
theorem dX12_laysCrowns_75 : decode cX12_laysCrowns 75 = .ok (.goto (-73), 3) := by decide +kernel
theorem dX12_laysCrowns_78 : decode cX12_laysCrowns 78 = .ok (.return_, 1) := by decide +kernel
theorem dX12_lays_0 : decode cX12_lays 0 = .ok (.aload_n 0, 1) := by decide +kernel
theorem dX12_lays_1 : decode cX12_lays 1 = .ok (.getfield 233, 3) := by decide +kernel
theorem dX12_lays_4 : decode cX12_lays 4 = .ok (.ifCond .eq 4, 3) := by decide +kernel
theorem dX12_lays_7 : decode cX12_lays 7 = .ok (.return_, 1) := by decide +kernel
theorem dX12_lays_8 : decode cX12_lays 8 = .ok (.aload_n 0, 1) := by decide +kernel
theorem dX12_lays_9 : decode cX12_lays 9 = .ok (.iconst 1, 1) := by decide +kernel
theorem dX12_lays_10 : decode cX12_lays 10 = .ok (.putfield 233, 3) := by decide +kernel
theorem dX12_lays_13 : decode cX12_lays 13 = .ok (.aload_n 0, 1) := by decide +kernel
theorem dX12_lays_14 : decode cX12_lays 14 = .ok (.invokevirtual 302, 3) := by decide +kernel
theorem dX12_lays_17 : decode cX12_lays 17 = .ok (.aload_n 0, 1) := by decide +kernel
theorem dX12_lays_18 : decode cX12_lays 18 = .ok (.invokevirtual 305, 3) := by decide +kernel
theorem dX12_lays_21 : decode cX12_lays 21 = .ok (.aload_n 0, 1) := by decide +kernel
theorem dX12_lays_22 : decode cX12_lays 22 = .ok (.invokevirtual 308, 3) := by decide +kernel
theorem dX12_lays_25 : decode cX12_lays 25 = .ok (.aload_n 0, 1) := by decide +kernel
theorem dX12_lays_26 : decode cX12_lays 26 = .ok (.invokevirtual 311, 3) := by decide +kernel
theorem dX12_lays_29 : decode cX12_lays 29 = .ok (.iconst 0, 1) := by decide +kernel
theorem dX12_lays_30 : decode cX12_lays 30 = .ok (.istore_n 1, 1) := by decide +kernel
theorem dX12_lays_31 : decode cX12_lays 31 = .ok (.iload_n 1, 1) := by decide +kernel
theorem dX12_lays_32 : decode cX12_lays 32 = .ok (.iconst 3, 1) := by decide +kernel
theorem dX12_lays_33 : decode cX12_lays 33 = .ok (.if_icmp .ge 14, 3) := by decide +kernel
theorem dX12_lays_36 : decode cX12_lays 36 = .ok (.aload_n 0, 1) := by decide +kernel
theorem dX12_lays_37 : decode cX12_lays 37 = .ok (.iload_n 1, 1) := by decide +kernel
theorem dX12_lays_38 : decode cX12_lays 38 = .ok (.invokevirtual 314, 3) := by decide +kernel
theorem dX12_lays_41 : decode cX12_lays 41 = .ok (.iinc 1 1, 3) := by decide +kernel
theorem dX12_lays_44 : decode cX12_lays 44 = .ok (.goto (-13), 3) := by decide +kernel
theorem dX12_lays_47 : decode cX12_lays 47 = .ok (.return_, 1) := by decide +kernel
theorem dX12_mouthFlow_0 : decode cX12_mouthFlow 0 = .ok (.iconst 0, 1) := by decide +kernel
theorem dX12_mouthFlow_1 : decode cX12_mouthFlow 1 = .ok (.istore_n 1, 1) := by decide +kernel
theorem dX12_mouthFlow_2 : decode cX12_mouthFlow 2 = .ok (.iconst 0, 1) := by decide +kernel
theorem dX12_mouthFlow_3 : decode cX12_mouthFlow 3 = .ok (.istore_n 2, 1) := by decide +kernel
theorem dX12_mouthFlow_4 : decode cX12_mouthFlow 4 = .ok (.iload_n 2, 1) := by decide +kernel
theorem dX12_mouthFlow_5 : decode cX12_mouthFlow 5 = .ok (.aload_n 0, 1) := by decide +kernel
theorem dX12_mouthFlow_6 : decode cX12_mouthFlow 6 = .ok (.invokevirtual 246, 3) := by decide +kernel
theorem dX12_mouthFlow_9 : decode cX12_mouthFlow 9 = .ok (.if_icmp .ge 26, 3) := by decide +kernel
theorem dX12_mouthFlow_12 : decode cX12_mouthFlow 12 = .ok (.aload_n 0, 1) := by decide +kernel
theorem dX12_mouthFlow_13 : decode cX12_mouthFlow 13 = .ok (.iload_n 2, 1) := by decide +kernel
theorem dX12_mouthFlow_14 : decode cX12_mouthFlow 14 = .ok (.invokevirtual 317, 3) := by decide +kernel
theorem dX12_mouthFlow_17 : decode cX12_mouthFlow 17 = .ok (.ifCond .eq 12, 3) := by decide +kernel
theorem dX12_mouthFlow_20 : decode cX12_mouthFlow 20 = .ok (.iload_n 1, 1) := by decide +kernel
theorem dX12_mouthFlow_21 : decode cX12_mouthFlow 21 = .ok (.aload_n 0, 1) := by decide +kernel
theorem dX12_mouthFlow_22 : decode cX12_mouthFlow 22 = .ok (.getfield 45, 3) := by decide +kernel
theorem dX12_mouthFlow_25 : decode cX12_mouthFlow 25 = .ok (.iload_n 2, 1) := by decide +kernel
theorem dX12_mouthFlow_26 : decode cX12_mouthFlow 26 = .ok (.iaload, 1) := by decide +kernel
theorem dX12_mouthFlow_27 : decode cX12_mouthFlow 27 = .ok (.iadd, 1) := by decide +kernel
theorem dX12_mouthFlow_28 : decode cX12_mouthFlow 28 = .ok (.istore_n 1, 1) := by decide +kernel
theorem dX12_mouthFlow_29 : decode cX12_mouthFlow 29 = .ok (.iinc 2 1, 3) := by decide +kernel
theorem dX12_mouthFlow_32 : decode cX12_mouthFlow 32 = .ok (.goto (-28), 3) := by decide +kernel
theorem dX12_mouthFlow_35 : decode cX12_mouthFlow 35 = .ok (.iload_n 1, 1) := by decide +kernel
theorem dX12_mouthFlow_36 : decode cX12_mouthFlow 36 = .ok (.ireturn, 1) := by decide +kernel
theorem dX12_greatestMet_0 : decode cX12_greatestMet 0 = .ok (.iconst 0, 1) := by decide +kernel
theorem dX12_greatestMet_1 : decode cX12_greatestMet 1 = .ok (.istore_n 1, 1) := by decide +kernel
theorem dX12_greatestMet_2 : decode cX12_greatestMet 2 = .ok (.iconst 0, 1) := by decide +kernel
theorem dX12_greatestMet_3 : decode cX12_greatestMet 3 = .ok (.istore_n 2, 1) := by decide +kernel
theorem dX12_greatestMet_4 : decode cX12_greatestMet 4 = .ok (.iload_n 2, 1) := by decide +kernel
theorem dX12_greatestMet_5 : decode cX12_greatestMet 5 = .ok (.aload_n 0, 1) := by decide +kernel
theorem dX12_greatestMet_6 : decode cX12_greatestMet 6 = .ok (.invokevirtual 249, 3) := by decide +kernel
theorem dX12_greatestMet_9 : decode cX12_greatestMet 9 = .ok (.if_icmp .ge 26, 3) := by decide +kernel
theorem dX12_greatestMet_12 : decode cX12_greatestMet 12 = .ok (.aload_n 0, 1) := by decide +kernel
theorem dX12_greatestMet_13 : decode cX12_greatestMet 13 = .ok (.getfield 60, 3) := by decide +kernel
theorem dX12_greatestMet_16 : decode cX12_greatestMet 16 = .ok (.iload_n 2, 1) := by decide +kernel
theorem dX12_greatestMet_17 : decode cX12_greatestMet 17 = .ok (.iaload, 1) := by decide +kernel
theorem dX12_greatestMet_18 : decode cX12_greatestMet 18 = .ok (.iload_n 1, 1) := by decide +kernel
theorem dX12_greatestMet_19 : decode cX12_greatestMet 19 = .ok (.if_icmp .le 10, 3) := by decide +kernel
theorem dX12_greatestMet_22 : decode cX12_greatestMet 22 = .ok (.aload_n 0, 1) := by decide +kernel
theorem dX12_greatestMet_23 : decode cX12_greatestMet 23 = .ok (.getfield 60, 3) := by decide +kernel
theorem dX12_greatestMet_26 : decode cX12_greatestMet 26 = .ok (.iload_n 2, 1) := by decide +kernel
theorem dX12_greatestMet_27 : decode cX12_greatestMet 27 = .ok (.iaload, 1) := by decide +kernel
theorem dX12_greatestMet_28 : decode cX12_greatestMet 28 = .ok (.istore_n 1, 1) := by decide +kernel
theorem dX12_greatestMet_29 : decode cX12_greatestMet 29 = .ok (.iinc 2 1, 3) := by decide +kernel
theorem dX12_greatestMet_32 : decode cX12_greatestMet 32 = .ok (.goto (-28), 3) := by decide +kernel
theorem dX12_greatestMet_35 : decode cX12_greatestMet 35 = .ok (.iload_n 1, 1) := by decide +kernel
theorem dX12_greatestMet_36 : decode cX12_greatestMet 36 = .ok (.ireturn, 1) := by decide +kernel
theorem dX12_mouths_0 : decode cX12_mouths 0 = .ok (.iconst 0, 1) := by decide +kernel
theorem dX12_mouths_1 : decode cX12_mouths 1 = .ok (.istore_n 1, 1) := by decide +kernel
theorem dX12_mouths_2 : decode cX12_mouths 2 = .ok (.iconst 0, 1) := by decide +kernel
theorem dX12_mouths_3 : decode cX12_mouths 3 = .ok (.istore_n 2, 1) := by decide +kernel
theorem dX12_mouths_4 : decode cX12_mouths 4 = .ok (.iload_n 2, 1) := by decide +kernel
theorem dX12_mouths_5 : decode cX12_mouths 5 = .ok (.aload_n 0, 1) := by decide +kernel
theorem dX12_mouths_6 : decode cX12_mouths 6 = .ok (.invokevirtual 246, 3) := by decide +kernel
theorem dX12_mouths_9 : decode cX12_mouths 9 = .ok (.if_icmp .ge 20, 3) := by decide +kernel
theorem dX12_mouths_12 : decode cX12_mouths 12 = .ok (.iload_n 1, 1) := by decide +kernel
theorem dX12_mouths_13 : decode cX12_mouths 13 = .ok (.aload_n 0, 1) := by decide +kernel
theorem dX12_mouths_14 : decode cX12_mouths 14 = .ok (.iload_n 2, 1) := by decide +kernel
theorem dX12_mouths_15 : decode cX12_mouths 15 = .ok (.invokevirtual 317, 3) := by decide +kernel
theorem dX12_mouths_18 : decode cX12_mouths 18 = .ok (.invokestatic 255, 3) := by decide +kernel
theorem dX12_mouths_21 : decode cX12_mouths 21 = .ok (.iadd, 1) := by decide +kernel
theorem dX12_mouths_22 : decode cX12_mouths 22 = .ok (.istore_n 1, 1) := by decide +kernel
theorem dX12_mouths_23 : decode cX12_mouths 23 = .ok (.iinc 2 1, 3) := by decide +kernel
theorem dX12_mouths_26 : decode cX12_mouths 26 = .ok (.goto (-22), 3) := by decide +kernel
theorem dX12_mouths_29 : decode cX12_mouths 29 = .ok (.iload_n 1, 1) := by decide +kernel
theorem dX12_mouths_30 : decode cX12_mouths 30 = .ok (.ireturn, 1) := by decide +kernel
theorem dX12_partings_0 : decode cX12_partings 0 = .ok (.iconst 0, 1) := by decide +kernel
theorem dX12_partings_1 : decode cX12_partings 1 = .ok (.istore_n 1, 1) := by decide +kernel
theorem dX12_partings_2 : decode cX12_partings 2 = .ok (.iconst 0, 1) := by decide +kernel
theorem dX12_partings_3 : decode cX12_partings 3 = .ok (.istore_n 2, 1) := by decide +kernel
theorem dX12_partings_4 : decode cX12_partings 4 = .ok (.iload_n 2, 1) := by decide +kernel
theorem dX12_partings_5 : decode cX12_partings 5 = .ok (.aload_n 0, 1) := by decide +kernel
theorem dX12_partings_6 : decode cX12_partings 6 = .ok (.invokevirtual 246, 3) := by decide +kernel
theorem dX12_partings_9 : decode cX12_partings 9 = .ok (.if_icmp .ge 30, 3) := by decide +kernel
theorem dX12_partings_12 : decode cX12_partings 12 = .ok (.iload_n 1, 1) := by decide +kernel
theorem dX12_partings_13 : decode cX12_partings 13 = .ok (.aload_n 0, 1) := by decide +kernel
theorem dX12_partings_14 : decode cX12_partings 14 = .ok (.getfield 36, 3) := by decide +kernel
theorem dX12_partings_17 : decode cX12_partings 17 = .ok (.iload_n 2, 1) := by decide +kernel
theorem dX12_partings_18 : decode cX12_partings 18 = .ok (.iaload, 1) := by decide +kernel
theorem dX12_partings_19 : decode cX12_partings 19 = .ok (.iconst 1, 1) := by decide +kernel
theorem dX12_partings_20 : decode cX12_partings 20 = .ok (.if_icmp .le 7, 3) := by decide +kernel
theorem dX12_partings_23 : decode cX12_partings 23 = .ok (.iconst 1, 1) := by decide +kernel
theorem dX12_partings_24 : decode cX12_partings 24 = .ok (.goto 4, 3) := by decide +kernel
theorem dX12_partings_27 : decode cX12_partings 27 = .ok (.iconst 0, 1) := by decide +kernel
theorem dX12_partings_28 : decode cX12_partings 28 = .ok (.invokestatic 255, 3) := by decide +kernel
theorem dX12_partings_31 : decode cX12_partings 31 = .ok (.iadd, 1) := by decide +kernel
theorem dX12_partings_32 : decode cX12_partings 32 = .ok (.istore_n 1, 1) := by decide +kernel
theorem dX12_partings_33 : decode cX12_partings 33 = .ok (.iinc 2 1, 3) := by decide +kernel
theorem dX12_partings_36 : decode cX12_partings 36 = .ok (.goto (-32), 3) := by decide +kernel
theorem dX12_partings_39 : decode cX12_partings 39 = .ok (.iload_n 1, 1) := by decide +kernel
theorem dX12_partings_40 : decode cX12_partings 40 = .ok (.ireturn, 1) := by decide +kernel
theorem dX12_has_0 : decode cX12_has 0 = .ok (.aload_n 0, 1) := by decide +kernel
theorem dX12_has_1 : decode cX12_has 1 = .ok (.invokevirtual 320, 3) := by decide +kernel
theorem dX12_has_4 : decode cX12_has 4 = .ok (.iload_n 1, 1) := by decide +kernel
theorem dX12_has_5 : decode cX12_has 5 = .ok (.tableswitch 110 0 9 #[55, 60, 65, 72, 80, 85, 90, 95, 100, 105], 55) := by decide +kernel
theorem dX12_has_60 : decode cX12_has 60 = .ok (.aload_n 0, 1) := by decide +kernel
theorem dX12_has_61 : decode cX12_has 61 = .ok (.invokevirtual 246, 3) := by decide +kernel
theorem dX12_has_64 : decode cX12_has 64 = .ok (.ireturn, 1) := by decide +kernel
theorem dX12_has_65 : decode cX12_has 65 = .ok (.aload_n 0, 1) := by decide +kernel
theorem dX12_has_66 : decode cX12_has 66 = .ok (.invokevirtual 249, 3) := by decide +kernel
theorem dX12_has_69 : decode cX12_has 69 = .ok (.ireturn, 1) := by decide +kernel
theorem dX12_has_70 : decode cX12_has 70 = .ok (.aload_n 0, 1) := by decide +kernel
theorem dX12_has_71 : decode cX12_has 71 = .ok (.getfield 27, 3) := by decide +kernel
theorem dX12_has_74 : decode cX12_has 74 = .ok (.iconst 2, 1) := by decide +kernel
theorem dX12_has_75 : decode cX12_has 75 = .ok (.iaload, 1) := by decide +kernel
theorem dX12_has_76 : decode cX12_has 76 = .ok (.ireturn, 1) := by decide +kernel
theorem dX12_has_77 : decode cX12_has 77 = .ok (.aload_n 0, 1) := by decide +kernel
theorem dX12_has_78 : decode cX12_has 78 = .ok (.invokevirtual 268, 3) := by decide +kernel
theorem dX12_has_81 : decode cX12_has 81 = .ok (.invokestatic 323, 3) := by decide +kernel
theorem dX12_has_84 : decode cX12_has 84 = .ok (.ireturn, 1) := by decide +kernel
theorem dX12_has_85 : decode cX12_has 85 = .ok (.aload_n 0, 1) := by decide +kernel
theorem dX12_has_86 : decode cX12_has 86 = .ok (.invokevirtual 326, 3) := by decide +kernel
theorem dX12_has_89 : decode cX12_has 89 = .ok (.ireturn, 1) := by decide +kernel
theorem dX12_has_90 : decode cX12_has 90 = .ok (.aload_n 0, 1) := by decide +kernel
theorem dX12_has_91 : decode cX12_has 91 = .ok (.invokevirtual 329, 3) := by decide +kernel
theorem dX12_has_94 : decode cX12_has 94 = .ok (.ireturn, 1) := by decide +kernel
theorem dX12_has_95 : decode cX12_has 95 = .ok (.aload_n 0, 1) := by decide +kernel
theorem dX12_has_96 : decode cX12_has 96 = .ok (.getfield 237, 3) := by decide +kernel
theorem dX12_has_99 : decode cX12_has 99 = .ok (.ireturn, 1) := by decide +kernel
theorem dX12_has_100 : decode cX12_has 100 = .ok (.aload_n 0, 1) := by decide +kernel
theorem dX12_has_101 : decode cX12_has 101 = .ok (.getfield 240, 3) := by decide +kernel
theorem dX12_has_104 : decode cX12_has 104 = .ok (.ireturn, 1) := by decide +kernel
theorem dX12_has_105 : decode cX12_has 105 = .ok (.aload_n 0, 1) := by decide +kernel
theorem dX12_has_106 : decode cX12_has 106 = .ok (.invokevirtual 332, 3) := by decide +kernel
theorem dX12_has_109 : decode cX12_has 109 = .ok (.ireturn, 1) := by decide +kernel
theorem dX12_has_110 : decode cX12_has 110 = .ok (.aload_n 0, 1) := by decide +kernel
theorem dX12_has_111 : decode cX12_has 111 = .ok (.invokevirtual 335, 3) := by decide +kernel
theorem dX12_has_114 : decode cX12_has 114 = .ok (.ireturn, 1) := by decide +kernel
theorem dX12_has_115 : decode cX12_has 115 = .ok (.iconst (-1), 1) := by decide +kernel
theorem dX12_has_116 : decode cX12_has 116 = .ok (.ireturn, 1) := by decide +kernel
theorem dX12_isRiver_0 : decode cX12_isRiver 0 = .ok (.iload_n 1, 1) := by decide +kernel
theorem dX12_isRiver_1 : decode cX12_isRiver 1 = .ok (.i2l, 1) := by decide +kernel
theorem dX12_isRiver_2 : decode cX12_isRiver 2 = .ok (.lconst 0, 1) := by decide +kernel
theorem dX12_isRiver_3 : decode cX12_isRiver 3 = .ok (.aload_n 0, 1) := by decide +kernel
theorem dX12_isRiver_4 : decode cX12_isRiver 4 = .ok (.getfield 27, 3) := by decide +kernel
theorem dX12_isRiver_7 : decode cX12_isRiver 7 = .ok (.iconst 2, 1) := by decide +kernel
theorem dX12_isRiver_8 : decode cX12_isRiver 8 = .ok (.iaload, 1) := by decide +kernel
theorem dX12_isRiver_9 : decode cX12_isRiver 9 = .ok (.iconst 1, 1) := by decide +kernel
theorem dX12_isRiver_10 : decode cX12_isRiver 10 = .ok (.isub, 1) := by decide +kernel
theorem dX12_isRiver_11 : decode cX12_isRiver 11 = .ok (.i2l, 1) := by decide +kernel
theorem dX12_isRiver_12 : decode cX12_isRiver 12 = .ok (.invokestatic 127, 3) := by decide +kernel
theorem dX12_isRiver_15 : decode cX12_isRiver 15 = .ok (.ireturn, 1) := by decide +kernel
theorem dX12_letter_0 : decode cX12_letter 0 = .ok (.iload_n 1, 1) := by decide +kernel
theorem dX12_letter_1 : decode cX12_letter 1 = .ok (.i2l, 1) := by decide +kernel
theorem dX12_letter_2 : decode cX12_letter 2 = .ok (.lconst 0, 1) := by decide +kernel
theorem dX12_letter_3 : decode cX12_letter 3 = .ok (.lconst 1, 1) := by decide +kernel
theorem dX12_letter_4 : decode cX12_letter 4 = .ok (.invokestatic 127, 3) := by decide +kernel
theorem dX12_letter_7 : decode cX12_letter 7 = .ok (.ifCond .eq 38, 3) := by decide +kernel
theorem dX12_letter_10 : decode cX12_letter 10 = .ok (.iload_n 3, 1) := by decide +kernel
theorem dX12_letter_11 : decode cX12_letter 11 = .ok (.i2l, 1) := by decide +kernel
theorem dX12_letter_12 : decode cX12_letter 12 = .ok (.lconst 0, 1) := by decide +kernel
theorem dX12_letter_13 : decode cX12_letter 13 = .ok (.ldc2_w 125, 3) := by decide +kernel
theorem dX12_letter_16 : decode cX12_letter 16 = .ok (.invokestatic 127, 3) := by decide +kernel
theorem dX12_letter_19 : decode cX12_letter 19 = .ok (.ifCond .eq 26, 3) := by decide +kernel
theorem dX12_letter_22 : decode cX12_letter 22 = .ok (.iload_n 1, 1) := by decide +kernel
theorem dX12_letter_23 : decode cX12_letter 23 = .ok (.ifCond .ne 14, 3) := by decide +kernel
theorem dX12_letter_26 : decode cX12_letter 26 = .ok (.aload_n 0, 1) := by decide +kernel
theorem dX12_letter_27 : decode cX12_letter 27 = .ok (.iload_n 2, 1) := by decide +kernel
theorem dX12_letter_28 : decode cX12_letter 28 = .ok (.invokevirtual 338, 3) := by decide +kernel
theorem dX12_letter_31 : decode cX12_letter 31 = .ok (.ifCond .eq 14, 3) := by decide +kernel
theorem dX12_letter_34 : decode cX12_letter 34 = .ok (.goto 13, 3) := by decide +kernel
theorem dX12_letter_37 : decode cX12_letter 37 = .ok (.aload_n 0, 1) := by decide +kernel
theorem dX12_letter_38 : decode cX12_letter 38 = .ok (.iload_n 2, 1) := by decide +kernel
theorem dX12_letter_39 : decode cX12_letter 39 = .ok (.invokevirtual 341, 3) := by decide +kernel
theorem dX12_letter_42 : decode cX12_letter 42 = .ok (.ifCond .ne 5, 3) := by decide +kernel
theorem dX12_letter_45 : decode cX12_letter 45 = .ok (.iconst (-1), 1) := by decide +kernel
theorem dX12_letter_46 : decode cX12_letter 46 = .ok (.ireturn, 1) := by decide +kernel
theorem dX12_letter_47 : decode cX12_letter 47 = .ok (.aload_n 0, 1) := by decide +kernel
theorem dX12_letter_48 : decode cX12_letter 48 = .ok (.getfield 27, 3) := by decide +kernel
theorem dX12_letter_51 : decode cX12_letter 51 = .ok (.iload_n 1, 1) := by decide +kernel
theorem dX12_letter_52 : decode cX12_letter 52 = .ok (.ifCond .ne 7, 3) := by decide +kernel
theorem dX12_letter_55 : decode cX12_letter 55 = .ok (.iconst 3, 1) := by decide +kernel
theorem dX12_letter_56 : decode cX12_letter 56 = .ok (.goto 5, 3) := by decide +kernel
theorem dX12_letter_59 : decode cX12_letter 59 = .ok (.bipush 23, 2) := by decide +kernel
theorem dX12_letter_61 : decode cX12_letter 61 = .ok (.iload_n 2, 1) := by decide +kernel
theorem dX12_letter_62 : decode cX12_letter 62 = .ok (.iadd, 1) := by decide +kernel
theorem dX12_letter_63 : decode cX12_letter 63 = .ok (.iaload, 1) := by decide +kernel
theorem dX12_letter_64 : decode cX12_letter 64 = .ok (.istore 4, 2) := by decide +kernel
theorem dX12_letter_66 : decode cX12_letter 66 = .ok (.iconst 0, 1) := by decide +kernel
theorem dX12_letter_67 : decode cX12_letter 67 = .ok (.istore 5, 2) := by decide +kernel
theorem dX12_letter_69 : decode cX12_letter 69 = .ok (.iload 4, 2) := by decide +kernel
theorem dX12_letter_71 : decode cX12_letter 71 = .ok (.istore 6, 2) := by decide +kernel
theorem dX12_letter_73 : decode cX12_letter 73 = .ok (.iload 6, 2) := by decide +kernel
theorem dX12_letter_75 : decode cX12_letter 75 = .ok (.ifCond .le 16, 3) := by decide +kernel
theorem dX12_letter_78 : decode cX12_letter 78 = .ok (.iinc 5 1, 3) := by decide +kernel
theorem dX12_letter_81 : decode cX12_letter 81 = .ok (.iload 6, 2) := by decide +kernel
theorem dX12_letter_83 : decode cX12_letter 83 = .ok (.bipush 27, 2) := by decide +kernel
theorem dX12_letter_85 : decode cX12_letter 85 = .ok (.idiv, 1) := by decide +kernel
theorem dX12_letter_86 : decode cX12_letter 86 = .ok (.istore 6, 2) := by decide +kernel
theorem dX12_letter_88 : decode cX12_letter 88 = .ok (.goto (-15), 3) := by decide +kernel
theorem dX12_letter_91 : decode cX12_letter 91 = .ok (.iload 5, 2) := by decide +kernel
theorem dX12_letter_93 : decode cX12_letter 93 = .ok (.iconst 1, 1) := by decide +kernel
theorem dX12_letter_94 : decode cX12_letter 94 = .ok (.isub, 1) := by decide +kernel
theorem dX12_letter_95 : decode cX12_letter 95 = .ok (.istore 6, 2) := by decide +kernel
theorem dX12_letter_97 : decode cX12_letter 97 = .ok (.iload 6, 2) := by decide +kernel
theorem dX12_letter_99 : decode cX12_letter 99 = .ok (.iload_n 3, 1) := by decide +kernel
theorem dX12_letter_100 : decode cX12_letter 100 = .ok (.if_icmp .le 16, 3) := by decide +kernel
theorem dX12_letter_103 : decode cX12_letter 103 = .ok (.iload 4, 2) := by decide +kernel
theorem dX12_letter_105 : decode cX12_letter 105 = .ok (.bipush 27, 2) := by decide +kernel
theorem dX12_letter_107 : decode cX12_letter 107 = .ok (.idiv, 1) := by decide +kernel
theorem dX12_letter_108 : decode cX12_letter 108 = .ok (.istore 4, 2) := by decide +kernel
theorem dX12_letter_110 : decode cX12_letter 110 = .ok (.iinc 6 (-1), 3) := by decide +kernel
theorem dX12_letter_113 : decode cX12_letter 113 = .ok (.goto (-16), 3) := by decide +kernel
theorem dX12_letter_116 : decode cX12_letter 116 = .ok (.iload_n 3, 1) := by decide +kernel
theorem dX12_letter_117 : decode cX12_letter 117 = .ok (.iload 5, 2) := by decide +kernel
theorem dX12_letter_119 : decode cX12_letter 119 = .ok (.if_icmp .ge 11, 3) := by decide +kernel
theorem dX12_letter_122 : decode cX12_letter 122 = .ok (.iload 4, 2) := by decide +kernel
theorem dX12_letter_124 : decode cX12_letter 124 = .ok (.bipush 27, 2) := by decide +kernel
theorem dX12_letter_126 : decode cX12_letter 126 = .ok (.irem, 1) := by decide +kernel
theorem dX12_letter_127 : decode cX12_letter 127 = .ok (.goto 4, 3) := by decide +kernel
theorem dX12_letter_130 : decode cX12_letter 130 = .ok (.iconst 0, 1) := by decide +kernel
theorem dX12_letter_131 : decode cX12_letter 131 = .ok (.ireturn, 1) := by decide +kernel
theorem dX12_reach_0 : decode cX12_reach 0 = .ok (.aload_n 0, 1) := by decide +kernel
theorem dX12_reach_1 : decode cX12_reach 1 = .ok (.iload_n 1, 1) := by decide +kernel
theorem dX12_reach_2 : decode cX12_reach 2 = .ok (.invokevirtual 344, 3) := by decide +kernel
theorem dX12_reach_5 : decode cX12_reach 5 = .ok (.ifCond .ne 5, 3) := by decide +kernel
theorem dX12_reach_8 : decode cX12_reach 8 = .ok (.iconst (-1), 1) := by decide +kernel
theorem dX12_reach_9 : decode cX12_reach 9 = .ok (.ireturn, 1) := by decide +kernel
theorem dX12_reach_10 : decode cX12_reach 10 = .ok (.aload_n 0, 1) := by decide +kernel
theorem dX12_reach_11 : decode cX12_reach 11 = .ok (.invokevirtual 320, 3) := by decide +kernel
theorem dX12_reach_14 : decode cX12_reach 14 = .ok (.iload_n 2, 1) := by decide +kernel
theorem dX12_reach_15 : decode cX12_reach 15 = .ok (.i2l, 1) := by decide +kernel
theorem dX12_reach_16 : decode cX12_reach 16 = .ok (.lconst 0, 1) := by decide +kernel
theorem dX12_reach_17 : decode cX12_reach 17 = .ok (.ldc2_w 347, 3) := by decide +kernel
theorem dX12_reach_20 : decode cX12_reach 20 = .ok (.invokestatic 127, 3) := by decide +kernel
theorem dX12_reach_23 : decode cX12_reach 23 = .ok (.ifCond .eq 12, 3) := by decide +kernel
theorem dX12_reach_26 : decode cX12_reach 26 = .ok (.aload_n 0, 1) := by decide +kernel
theorem dX12_reach_27 : decode cX12_reach 27 = .ok (.iload_n 1, 1) := by decide +kernel
theorem dX12_reach_28 : decode cX12_reach 28 = .ok (.iload_n 2, 1) := by decide +kernel
theorem dX12_reach_29 : decode cX12_reach 29 = .ok (.invokevirtual 252, 3) := by decide +kernel
theorem dX12_reach_32 : decode cX12_reach 32 = .ok (.goto 36, 3) := by decide +kernel
theorem dX12_reach_35 : decode cX12_reach 35 = .ok (.iload_n 2, 1) := by decide +kernel
theorem dX12_reach_36 : decode cX12_reach 36 = .ok (.iconst 5, 1) := by decide +kernel
theorem dX12_reach_37 : decode cX12_reach 37 = .ok (.if_icmp .ne 12, 3) := by decide +kernel
theorem dX12_reach_40 : decode cX12_reach 40 = .ok (.aload_n 0, 1) := by decide +kernel
theorem dX12_reach_41 : decode cX12_reach 41 = .ok (.getfield 48, 3) := by decide +kernel
theorem dX12_reach_44 : decode cX12_reach 44 = .ok (.iload_n 1, 1) := by decide +kernel
theorem dX12_reach_45 : decode cX12_reach 45 = .ok (.iaload, 1) := by decide +kernel
theorem dX12_reach_46 : decode cX12_reach 46 = .ok (.goto 22, 3) := by decide +kernel
theorem dX12_reach_49 : decode cX12_reach 49 = .ok (.iload_n 2, 1) := by decide +kernel
theorem dX12_reach_50 : decode cX12_reach 50 = .ok (.bipush 6, 2) := by decide +kernel
theorem dX12_reach_52 : decode cX12_reach 52 = .ok (.if_icmp .ne 15, 3) := by decide +kernel
theorem dX12_reach_55 : decode cX12_reach 55 = .ok (.aload_n 0, 1) := by decide +kernel
theorem dX12_reach_56 : decode cX12_reach 56 = .ok (.getfield 57, 3) := by decide +kernel
theorem dX12_reach_59 : decode cX12_reach 59 = .ok (.iload_n 1, 1) := by decide +kernel
theorem dX12_reach_60 : decode cX12_reach 60 = .ok (.iaload, 1) := by decide +kernel
theorem dX12_reach_61 : decode cX12_reach 61 = .ok (.invokestatic 323, 3) := by decide +kernel
theorem dX12_reach_64 : decode cX12_reach 64 = .ok (.goto 4, 3) := by decide +kernel
theorem dX12_reach_67 : decode cX12_reach 67 = .ok (.iconst (-1), 1) := by decide +kernel
theorem dX12_reach_68 : decode cX12_reach 68 = .ok (.ireturn, 1) := by decide +kernel
theorem dX12_place_0 : decode cX12_place 0 = .ok (.aload_n 0, 1) := by decide +kernel
theorem dX12_place_1 : decode cX12_place 1 = .ok (.iload_n 1, 1) := by decide +kernel
theorem dX12_place_2 : decode cX12_place 2 = .ok (.invokevirtual 338, 3) := by decide +kernel
theorem dX12_place_5 : decode cX12_place 5 = .ok (.ifCond .ne 5, 3) := by decide +kernel
theorem dX12_place_8 : decode cX12_place 8 = .ok (.iconst (-1), 1) := by decide +kernel
theorem dX12_place_9 : decode cX12_place 9 = .ok (.ireturn, 1) := by decide +kernel
theorem dX12_place_10 : decode cX12_place 10 = .ok (.aload_n 0, 1) := by decide +kernel
theorem dX12_place_11 : decode cX12_place 11 = .ok (.invokevirtual 320, 3) := by decide +kernel
theorem dX12_place_14 : decode cX12_place 14 = .ok (.iload_n 2, 1) := by decide +kernel
theorem dX12_place_15 : decode cX12_place 15 = .ok (.tableswitch 94 0 6 #[41, 48, 55, 64, 73, 80, 87], 41) := by decide +kernel
theorem dX12_place_56 : decode cX12_place 56 = .ok (.aload_n 0, 1) := by decide +kernel
theorem dX12_place_57 : decode cX12_place 57 = .ok (.getfield 33, 3) := by decide +kernel
theorem dX12_place_60 : decode cX12_place 60 = .ok (.iload_n 1, 1) := by decide +kernel
theorem dX12_place_61 : decode cX12_place 61 = .ok (.iaload, 1) := by decide +kernel
theorem dX12_place_62 : decode cX12_place 62 = .ok (.ireturn, 1) := by decide +kernel
theorem dX12_place_63 : decode cX12_place 63 = .ok (.aload_n 0, 1) := by decide +kernel
theorem dX12_place_64 : decode cX12_place 64 = .ok (.getfield 36, 3) := by decide +kernel
theorem dX12_place_67 : decode cX12_place 67 = .ok (.iload_n 1, 1) := by decide +kernel
theorem dX12_place_68 : decode cX12_place 68 = .ok (.iaload, 1) := by decide +kernel
theorem dX12_place_69 : decode cX12_place 69 = .ok (.ireturn, 1) := by decide +kernel
theorem dX12_place_70 : decode cX12_place 70 = .ok (.aload_n 0, 1) := by decide +kernel
theorem dX12_place_71 : decode cX12_place 71 = .ok (.iload_n 1, 1) := by decide +kernel
theorem dX12_place_72 : decode cX12_place 72 = .ok (.invokevirtual 262, 3) := by decide +kernel
theorem dX12_place_75 : decode cX12_place 75 = .ok (.invokestatic 255, 3) := by decide +kernel
theorem dX12_place_78 : decode cX12_place 78 = .ok (.ireturn, 1) := by decide +kernel
theorem dX12_place_79 : decode cX12_place 79 = .ok (.aload_n 0, 1) := by decide +kernel
theorem dX12_place_80 : decode cX12_place 80 = .ok (.iload_n 1, 1) := by decide +kernel
theorem dX12_place_81 : decode cX12_place 81 = .ok (.invokevirtual 317, 3) := by decide +kernel
theorem dX12_place_84 : decode cX12_place 84 = .ok (.invokestatic 255, 3) := by decide +kernel
theorem dX12_place_87 : decode cX12_place 87 = .ok (.ireturn, 1) := by decide +kernel
theorem dX12_place_88 : decode cX12_place 88 = .ok (.aload_n 0, 1) := by decide +kernel
theorem dX12_place_89 : decode cX12_place 89 = .ok (.getfield 45, 3) := by decide +kernel
theorem dX12_place_92 : decode cX12_place 92 = .ok (.iload_n 1, 1) := by decide +kernel
theorem dX12_place_93 : decode cX12_place 93 = .ok (.iaload, 1) := by decide +kernel
theorem dX12_place_94 : decode cX12_place 94 = .ok (.ireturn, 1) := by decide +kernel
theorem dX12_place_95 : decode cX12_place 95 = .ok (.aload_n 0, 1) := by decide +kernel
theorem dX12_place_96 : decode cX12_place 96 = .ok (.getfield 51, 3) := by decide +kernel
theorem dX12_place_99 : decode cX12_place 99 = .ok (.iload_n 1, 1) := by decide +kernel
theorem dX12_place_100 : decode cX12_place 100 = .ok (.iaload, 1) := by decide +kernel
theorem dX12_place_101 : decode cX12_place 101 = .ok (.ireturn, 1) := by decide +kernel
theorem dX12_place_102 : decode cX12_place 102 = .ok (.aload_n 0, 1) := by decide +kernel
theorem dX12_place_103 : decode cX12_place 103 = .ok (.getfield 54, 3) := by decide +kernel
theorem dX12_place_106 : decode cX12_place 106 = .ok (.iload_n 1, 1) := by decide +kernel
theorem dX12_place_107 : decode cX12_place 107 = .ok (.iaload, 1) := by decide +kernel
theorem dX12_place_108 : decode cX12_place 108 = .ok (.ireturn, 1) := by decide +kernel
theorem dX12_place_109 : decode cX12_place 109 = .ok (.iconst (-1), 1) := by decide +kernel
theorem dX12_place_110 : decode cX12_place 110 = .ok (.ireturn, 1) := by decide +kernel
theorem dX12_rankOf_0 : decode cX12_rankOf 0 = .ok (.iload_n 2, 1) := by decide +kernel
theorem dX12_rankOf_1 : decode cX12_rankOf 1 = .ok (.ifCond .ne 12, 3) := by decide +kernel
theorem dX12_rankOf_4 : decode cX12_rankOf 4 = .ok (.aload_n 0, 1) := by decide +kernel
theorem dX12_rankOf_5 : decode cX12_rankOf 5 = .ok (.getfield 60, 3) := by decide +kernel
theorem dX12_rankOf_8 : decode cX12_rankOf 8 = .ok (.iload_n 1, 1) := by decide +kernel
theorem dX12_rankOf_9 : decode cX12_rankOf 9 = .ok (.iaload, 1) := by decide +kernel
theorem dX12_rankOf_10 : decode cX12_rankOf 10 = .ok (.goto 48, 3) := by decide +kernel
theorem dX12_rankOf_13 : decode cX12_rankOf 13 = .ok (.iload_n 2, 1) := by decide +kernel
theorem dX12_rankOf_14 : decode cX12_rankOf 14 = .ok (.iconst 1, 1) := by decide +kernel
theorem dX12_rankOf_15 : decode cX12_rankOf 15 = .ok (.if_icmp .ne 15, 3) := by decide +kernel
theorem dX12_rankOf_18 : decode cX12_rankOf 18 = .ok (.aload_n 0, 1) := by decide +kernel
theorem dX12_rankOf_19 : decode cX12_rankOf 19 = .ok (.getfield 57, 3) := by decide +kernel
theorem dX12_rankOf_22 : decode cX12_rankOf 22 = .ok (.iload_n 1, 1) := by decide +kernel
theorem dX12_rankOf_23 : decode cX12_rankOf 23 = .ok (.iaload, 1) := by decide +kernel
theorem dX12_rankOf_24 : decode cX12_rankOf 24 = .ok (.invokestatic 323, 3) := by decide +kernel
theorem dX12_rankOf_27 : decode cX12_rankOf 27 = .ok (.goto 31, 3) := by decide +kernel
theorem dX12_rankOf_30 : decode cX12_rankOf 30 = .ok (.iload_n 2, 1) := by decide +kernel
theorem dX12_rankOf_31 : decode cX12_rankOf 31 = .ok (.iconst 2, 1) := by decide +kernel
theorem dX12_rankOf_32 : decode cX12_rankOf 32 = .ok (.if_icmp .ne 16, 3) := by decide +kernel
theorem dX12_rankOf_35 : decode cX12_rankOf 35 = .ok (.aload_n 0, 1) := by decide +kernel
theorem dX12_rankOf_36 : decode cX12_rankOf 36 = .ok (.getfield 69, 3) := by decide +kernel
theorem dX12_rankOf_39 : decode cX12_rankOf 39 = .ok (.iload_n 3, 1) := by decide +kernel
theorem dX12_rankOf_40 : decode cX12_rankOf 40 = .ok (.iload_n 1, 1) := by decide +kernel
theorem dX12_rankOf_41 : decode cX12_rankOf 41 = .ok (.invokestatic 282, 3) := by decide +kernel
theorem dX12_rankOf_44 : decode cX12_rankOf 44 = .ok (.iaload, 1) := by decide +kernel
theorem dX12_rankOf_45 : decode cX12_rankOf 45 = .ok (.goto 13, 3) := by decide +kernel
theorem dX12_rankOf_48 : decode cX12_rankOf 48 = .ok (.aload_n 0, 1) := by decide +kernel
theorem dX12_rankOf_49 : decode cX12_rankOf 49 = .ok (.getfield 72, 3) := by decide +kernel
theorem dX12_rankOf_52 : decode cX12_rankOf 52 = .ok (.iload_n 3, 1) := by decide +kernel
theorem dX12_rankOf_53 : decode cX12_rankOf 53 = .ok (.iload_n 1, 1) := by decide +kernel
theorem dX12_rankOf_54 : decode cX12_rankOf 54 = .ok (.invokestatic 282, 3) := by decide +kernel
theorem dX12_rankOf_57 : decode cX12_rankOf 57 = .ok (.iaload, 1) := by decide +kernel
theorem dX12_rankOf_58 : decode cX12_rankOf 58 = .ok (.ireturn, 1) := by decide +kernel
theorem dX12_rank_0 : decode cX12_rank 0 = .ok (.aload_n 0, 1) := by decide +kernel
theorem dX12_rank_1 : decode cX12_rank 1 = .ok (.iload_n 1, 1) := by decide +kernel
theorem dX12_rank_2 : decode cX12_rank 2 = .ok (.invokevirtual 344, 3) := by decide +kernel
theorem dX12_rank_5 : decode cX12_rank 5 = .ok (.ifCond .eq 32, 3) := by decide +kernel
theorem dX12_rank_8 : decode cX12_rank 8 = .ok (.iload_n 2, 1) := by decide +kernel
theorem dX12_rank_9 : decode cX12_rank 9 = .ok (.i2l, 1) := by decide +kernel
theorem dX12_rank_10 : decode cX12_rank 10 = .ok (.lconst 0, 1) := by decide +kernel
theorem dX12_rank_11 : decode cX12_rank 11 = .ok (.ldc2_w 349, 3) := by decide +kernel
theorem dX12_rank_14 : decode cX12_rank 14 = .ok (.invokestatic 127, 3) := by decide +kernel
theorem dX12_rank_17 : decode cX12_rank 17 = .ok (.ifCond .eq 20, 3) := by decide +kernel
theorem dX12_rank_20 : decode cX12_rank 20 = .ok (.iload_n 2, 1) := by decide +kernel
theorem dX12_rank_21 : decode cX12_rank 21 = .ok (.iconst 1, 1) := by decide +kernel
theorem dX12_rank_22 : decode cX12_rank 22 = .ok (.if_icmp .le 17, 3) := by decide +kernel
theorem dX12_rank_25 : decode cX12_rank 25 = .ok (.iload_n 3, 1) := by decide +kernel
theorem dX12_rank_26 : decode cX12_rank 26 = .ok (.i2l, 1) := by decide +kernel
theorem dX12_rank_27 : decode cX12_rank 27 = .ok (.lconst 0, 1) := by decide +kernel
theorem dX12_rank_28 : decode cX12_rank 28 = .ok (.ldc2_w 351, 3) := by decide +kernel
theorem dX12_rank_31 : decode cX12_rank 31 = .ok (.invokestatic 127, 3) := by decide +kernel
theorem dX12_rank_34 : decode cX12_rank 34 = .ok (.ifCond .ne 5, 3) := by decide +kernel
theorem dX12_rank_37 : decode cX12_rank 37 = .ok (.iconst (-1), 1) := by decide +kernel
theorem dX12_rank_38 : decode cX12_rank 38 = .ok (.ireturn, 1) := by decide +kernel
theorem dX12_rank_39 : decode cX12_rank 39 = .ok (.aload_n 0, 1) := by decide +kernel
theorem dX12_rank_40 : decode cX12_rank 40 = .ok (.invokevirtual 320, 3) := by decide +kernel
theorem dX12_rank_43 : decode cX12_rank 43 = .ok (.aload_n 0, 1) := by decide +kernel
theorem dX12_rank_44 : decode cX12_rank 44 = .ok (.iload_n 1, 1) := by decide +kernel
theorem dX12_rank_45 : decode cX12_rank 45 = .ok (.iload_n 2, 1) := by decide +kernel
theorem dX12_rank_46 : decode cX12_rank 46 = .ok (.iload_n 3, 1) := by decide +kernel
theorem dX12_rank_47 : decode cX12_rank 47 = .ok (.invokevirtual 353, 3) := by decide +kernel
theorem dX12_rank_50 : decode cX12_rank 50 = .ok (.ireturn, 1) := by decide +kernel
theorem dX12_goes_0 : decode cX12_goes 0 = .ok (.aload_n 0, 1) := by decide +kernel
theorem dX12_goes_1 : decode cX12_goes 1 = .ok (.iload_n 1, 1) := by decide +kernel
theorem dX12_goes_2 : decode cX12_goes 2 = .ok (.invokevirtual 344, 3) := by decide +kernel
theorem dX12_goes_5 : decode cX12_goes 5 = .ok (.ifCond .eq 25, 3) := by decide +kernel
theorem dX12_goes_8 : decode cX12_goes 8 = .ok (.iload_n 2, 1) := by decide +kernel
theorem dX12_goes_9 : decode cX12_goes 9 = .ok (.i2l, 1) := by decide +kernel
theorem dX12_goes_10 : decode cX12_goes 10 = .ok (.lconst 0, 1) := by decide +kernel
theorem dX12_goes_11 : decode cX12_goes 11 = .ok (.ldc2_w 351, 3) := by decide +kernel
theorem dX12_goes_14 : decode cX12_goes 14 = .ok (.invokestatic 127, 3) := by decide +kernel
theorem dX12_goes_17 : decode cX12_goes 17 = .ok (.ifCond .eq 13, 3) := by decide +kernel
theorem dX12_goes_20 : decode cX12_goes 20 = .ok (.iload_n 3, 1) := by decide +kernel
theorem dX12_goes_21 : decode cX12_goes 21 = .ok (.i2l, 1) := by decide +kernel
theorem dX12_goes_22 : decode cX12_goes 22 = .ok (.lconst 0, 1) := by decide +kernel
theorem dX12_goes_23 : decode cX12_goes 23 = .ok (.lconst 1, 1) := by decide +kernel
theorem dX12_goes_24 : decode cX12_goes 24 = .ok (.invokestatic 127, 3) := by decide +kernel
theorem dX12_goes_27 : decode cX12_goes 27 = .ok (.ifCond .ne 5, 3) := by decide +kernel
theorem dX12_goes_30 : decode cX12_goes 30 = .ok (.iconst (-1), 1) := by decide +kernel
theorem dX12_goes_31 : decode cX12_goes 31 = .ok (.ireturn, 1) := by decide +kernel
theorem dX12_goes_32 : decode cX12_goes 32 = .ok (.aload_n 0, 1) := by decide +kernel
theorem dX12_goes_33 : decode cX12_goes 33 = .ok (.invokevirtual 320, 3) := by decide +kernel
theorem dX12_goes_36 : decode cX12_goes 36 = .ok (.iload_n 3, 1) := by decide +kernel
theorem dX12_goes_37 : decode cX12_goes 37 = .ok (.ifCond .ne 16, 3) := by decide +kernel
theorem dX12_goes_40 : decode cX12_goes 40 = .ok (.aload_n 0, 1) := by decide +kernel
theorem dX12_goes_41 : decode cX12_goes 41 = .ok (.getfield 63, 3) := by decide +kernel
theorem dX12_goes_44 : decode cX12_goes 44 = .ok (.iload_n 2, 1) := by decide +kernel
theorem dX12_goes_45 : decode cX12_goes 45 = .ok (.iload_n 1, 1) := by decide +kernel
theorem dX12_goes_46 : decode cX12_goes 46 = .ok (.invokestatic 282, 3) := by decide +kernel
theorem dX12_goes_49 : decode cX12_goes 49 = .ok (.iaload, 1) := by decide +kernel
theorem dX12_goes_50 : decode cX12_goes 50 = .ok (.goto 13, 3) := by decide +kernel
theorem dX12_goes_53 : decode cX12_goes 53 = .ok (.aload_n 0, 1) := by decide +kernel
theorem dX12_goes_54 : decode cX12_goes 54 = .ok (.getfield 66, 3) := by decide +kernel
theorem dX12_goes_57 : decode cX12_goes 57 = .ok (.iload_n 2, 1) := by decide +kernel
theorem dX12_goes_58 : decode cX12_goes 58 = .ok (.iload_n 1, 1) := by decide +kernel
theorem dX12_goes_59 : decode cX12_goes 59 = .ok (.invokestatic 282, 3) := by decide +kernel
theorem dX12_goes_62 : decode cX12_goes 62 = .ok (.iaload, 1) := by decide +kernel
theorem dX12_goes_63 : decode cX12_goes 63 = .ok (.ireturn, 1) := by decide +kernel
theorem dX12_stem_0 : decode cX12_stem 0 = .ok (.aload_n 0, 1) := by decide +kernel
theorem dX12_stem_1 : decode cX12_stem 1 = .ok (.iload_n 1, 1) := by decide +kernel
theorem dX12_stem_2 : decode cX12_stem 2 = .ok (.invokevirtual 344, 3) := by decide +kernel
theorem dX12_stem_5 : decode cX12_stem 5 = .ok (.ifCond .eq 20, 3) := by decide +kernel
theorem dX12_stem_8 : decode cX12_stem 8 = .ok (.iload_n 2, 1) := by decide +kernel
theorem dX12_stem_9 : decode cX12_stem 9 = .ok (.i2l, 1) := by decide +kernel
theorem dX12_stem_10 : decode cX12_stem 10 = .ok (.lconst 0, 1) := by decide +kernel
theorem dX12_stem_11 : decode cX12_stem 11 = .ok (.ldc2_w 351, 3) := by decide +kernel
theorem dX12_stem_14 : decode cX12_stem 14 = .ok (.invokestatic 127, 3) := by decide +kernel
theorem dX12_stem_17 : decode cX12_stem 17 = .ok (.ifCond .eq 8, 3) := by decide +kernel
theorem dX12_stem_20 : decode cX12_stem 20 = .ok (.iload_n 3, 1) := by decide +kernel
theorem dX12_stem_21 : decode cX12_stem 21 = .ok (.iconst (-1), 1) := by decide +kernel
theorem dX12_stem_22 : decode cX12_stem 22 = .ok (.if_icmp .ge 5, 3) := by decide +kernel
theorem dX12_stem_25 : decode cX12_stem 25 = .ok (.iconst (-1), 1) := by decide +kernel
theorem dX12_stem_26 : decode cX12_stem 26 = .ok (.ireturn, 1) := by decide +kernel
theorem dX12_stem_27 : decode cX12_stem 27 = .ok (.aload_n 0, 1) := by decide +kernel
theorem dX12_stem_28 : decode cX12_stem 28 = .ok (.invokevirtual 320, 3) := by decide +kernel
theorem dX12_stem_31 : decode cX12_stem 31 = .ok (.iconst 0, 1) := by decide +kernel
theorem dX12_stem_32 : decode cX12_stem 32 = .ok (.istore 4, 2) := by decide +kernel
theorem dX12_stem_34 : decode cX12_stem 34 = .ok (.aload_n 0, 1) := by decide +kernel
theorem dX12_stem_35 : decode cX12_stem 35 = .ok (.iload_n 1, 1) := by decide +kernel
theorem dX12_stem_36 : decode cX12_stem 36 = .ok (.iload_n 2, 1) := by decide +kernel
theorem dX12_stem_37 : decode cX12_stem 37 = .ok (.invokevirtual 299, 3) := by decide +kernel
theorem dX12_stem_40 : decode cX12_stem 40 = .ok (.istore 5, 2) := by decide +kernel
theorem dX12_stem_42 : decode cX12_stem 42 = .ok (.iload 5, 2) := by decide +kernel
theorem dX12_stem_44 : decode cX12_stem 44 = .ok (.iconst (-1), 1) := by decide +kernel
theorem dX12_stem_45 : decode cX12_stem 45 = .ok (.if_icmp .eq 31, 3) := by decide +kernel
theorem dX12_stem_48 : decode cX12_stem 48 = .ok (.iload 4, 2) := by decide +kernel
theorem dX12_stem_50 : decode cX12_stem 50 = .ok (.iload_n 3, 1) := by decide +kernel
theorem dX12_stem_51 : decode cX12_stem 51 = .ok (.if_icmp .ne 6, 3) := by decide +kernel
theorem dX12_stem_54 : decode cX12_stem 54 = .ok (.iload 5, 2) := by decide +kernel
theorem dX12_stem_56 : decode cX12_stem 56 = .ok (.ireturn, 1) := by decide +kernel
theorem dX12_stem_57 : decode cX12_stem 57 = .ok (.iinc 4 1, 3) := by decide +kernel
theorem dX12_stem_60 : decode cX12_stem 60 = .ok (.aload_n 0, 1) := by decide +kernel
theorem dX12_stem_61 : decode cX12_stem 61 = .ok (.getfield 63, 3) := by decide +kernel
theorem dX12_stem_64 : decode cX12_stem 64 = .ok (.iload_n 2, 1) := by decide +kernel
theorem dX12_stem_65 : decode cX12_stem 65 = .ok (.iload 5, 2) := by decide +kernel
theorem dX12_stem_67 : decode cX12_stem 67 = .ok (.invokestatic 282, 3) := by decide +kernel
theorem dX12_stem_70 : decode cX12_stem 70 = .ok (.iaload, 1) := by decide +kernel
theorem dX12_stem_71 : decode cX12_stem 71 = .ok (.istore 5, 2) := by decide +kernel
theorem dX12_stem_73 : decode cX12_stem 73 = .ok (.goto (-31), 3) := by decide +kernel
theorem dX12_stem_76 : decode cX12_stem 76 = .ok (.iload_n 3, 1) := by decide +kernel
theorem dX12_stem_77 : decode cX12_stem 77 = .ok (.iconst (-1), 1) := by decide +kernel
theorem dX12_stem_78 : decode cX12_stem 78 = .ok (.if_icmp .ne 8, 3) := by decide +kernel
theorem dX12_stem_81 : decode cX12_stem 81 = .ok (.iload 4, 2) := by decide +kernel
theorem dX12_stem_83 : decode cX12_stem 83 = .ok (.goto 4, 3) := by decide +kernel
theorem dX12_stem_86 : decode cX12_stem 86 = .ok (.iconst (-1), 1) := by decide +kernel
theorem dX12_stem_87 : decode cX12_stem 87 = .ok (.ireturn, 1) := by decide +kernel
theorem dX12_stemOf_0 : decode cX12_stemOf 0 = .ok (.iconst 0, 1) := by decide +kernel
theorem dX12_stemOf_1 : decode cX12_stemOf 1 = .ok (.istore 4, 2) := by decide +kernel
theorem dX12_stemOf_3 : decode cX12_stemOf 3 = .ok (.iload_n 1, 1) := by decide +kernel
theorem dX12_stemOf_4 : decode cX12_stemOf 4 = .ok (.istore 5, 2) := by decide +kernel
theorem dX12_stemOf_6 : decode cX12_stemOf 6 = .ok (.iload 5, 2) := by decide +kernel
theorem dX12_stemOf_8 : decode cX12_stemOf 8 = .ok (.iconst (-1), 1) := by decide +kernel
theorem dX12_stemOf_9 : decode cX12_stemOf 9 = .ok (.if_icmp .eq 39, 3) := by decide +kernel
theorem dX12_stemOf_12 : decode cX12_stemOf 12 = .ok (.iload 4, 2) := by decide +kernel
theorem dX12_stemOf_14 : decode cX12_stemOf 14 = .ok (.iload_n 3, 1) := by decide +kernel
theorem dX12_stemOf_15 : decode cX12_stemOf 15 = .ok (.ifCond .eq 13, 3) := by decide +kernel
theorem dX12_stemOf_18 : decode cX12_stemOf 18 = .ok (.aload_n 0, 1) := by decide +kernel
theorem dX12_stemOf_19 : decode cX12_stemOf 19 = .ok (.iload 5, 2) := by decide +kernel
theorem dX12_stemOf_21 : decode cX12_stemOf 21 = .ok (.iconst 2, 1) := by decide +kernel
theorem dX12_stemOf_22 : decode cX12_stemOf 22 = .ok (.invokevirtual 252, 3) := by decide +kernel
theorem dX12_stemOf_25 : decode cX12_stemOf 25 = .ok (.goto 4, 3) := by decide +kernel
theorem dX12_stemOf_28 : decode cX12_stemOf 28 = .ok (.iconst 1, 1) := by decide +kernel
theorem dX12_stemOf_29 : decode cX12_stemOf 29 = .ok (.iadd, 1) := by decide +kernel
theorem dX12_stemOf_30 : decode cX12_stemOf 30 = .ok (.istore 4, 2) := by decide +kernel
theorem dX12_stemOf_32 : decode cX12_stemOf 32 = .ok (.aload_n 0, 1) := by decide +kernel
theorem dX12_stemOf_33 : decode cX12_stemOf 33 = .ok (.getfield 63, 3) := by decide +kernel
theorem dX12_stemOf_36 : decode cX12_stemOf 36 = .ok (.iload_n 2, 1) := by decide +kernel
theorem dX12_stemOf_37 : decode cX12_stemOf 37 = .ok (.iload 5, 2) := by decide +kernel
theorem dX12_stemOf_39 : decode cX12_stemOf 39 = .ok (.invokestatic 282, 3) := by decide +kernel
theorem dX12_stemOf_42 : decode cX12_stemOf 42 = .ok (.iaload, 1) := by decide +kernel
theorem dX12_stemOf_43 : decode cX12_stemOf 43 = .ok (.istore 5, 2) := by decide +kernel
theorem dX12_stemOf_45 : decode cX12_stemOf 45 = .ok (.goto (-39), 3) := by decide +kernel
theorem dX12_stemOf_48 : decode cX12_stemOf 48 = .ok (.iload 4, 2) := by decide +kernel
theorem dX12_stemOf_50 : decode cX12_stemOf 50 = .ok (.ireturn, 1) := by decide +kernel
theorem dX12_stems_0 : decode cX12_stems 0 = .ok (.iload_n 1, 1) := by decide +kernel
theorem dX12_stems_1 : decode cX12_stems 1 = .ok (.i2l, 1) := by decide +kernel
theorem dX12_stems_2 : decode cX12_stems 2 = .ok (.lconst 0, 1) := by decide +kernel
theorem dX12_stems_3 : decode cX12_stems 3 = .ok (.ldc2_w 351, 3) := by decide +kernel
theorem dX12_stems_6 : decode cX12_stems 6 = .ok (.invokestatic 127, 3) := by decide +kernel
theorem dX12_stems_9 : decode cX12_stems 9 = .ok (.ifCond .eq 15, 3) := by decide +kernel
theorem dX12_stems_12 : decode cX12_stems 12 = .ok (.iload_n 2, 1) := by decide +kernel
theorem dX12_stems_13 : decode cX12_stems 13 = .ok (.i2l, 1) := by decide +kernel
theorem dX12_stems_14 : decode cX12_stems 14 = .ok (.lconst 0, 1) := by decide +kernel
theorem dX12_stems_15 : decode cX12_stems 15 = .ok (.ldc2_w 349, 3) := by decide +kernel
theorem dX12_stems_18 : decode cX12_stems 18 = .ok (.invokestatic 127, 3) := by decide +kernel
theorem dX12_stems_21 : decode cX12_stems 21 = .ok (.ifCond .ne 5, 3) := by decide +kernel
theorem dX12_stems_24 : decode cX12_stems 24 = .ok (.iconst (-1), 1) := by decide +kernel
theorem dX12_stems_25 : decode cX12_stems 25 = .ok (.ireturn, 1) := by decide +kernel
theorem dX12_stems_26 : decode cX12_stems 26 = .ok (.aload_n 0, 1) := by decide +kernel
theorem dX12_stems_27 : decode cX12_stems 27 = .ok (.invokevirtual 320, 3) := by decide +kernel
theorem dX12_stems_30 : decode cX12_stems 30 = .ok (.iconst (-1), 1) := by decide +kernel
theorem dX12_stems_31 : decode cX12_stems 31 = .ok (.istore_n 3, 1) := by decide +kernel
theorem dX12_stems_32 : decode cX12_stems 32 = .ok (.iconst 0, 1) := by decide +kernel
theorem dX12_stems_33 : decode cX12_stems 33 = .ok (.istore 4, 2) := by decide +kernel
theorem dX12_stems_35 : decode cX12_stems 35 = .ok (.iconst 0, 1) := by decide +kernel
theorem dX12_stems_36 : decode cX12_stems 36 = .ok (.istore 5, 2) := by decide +kernel
theorem dX12_stems_38 : decode cX12_stems 38 = .ok (.iload 5, 2) := by decide +kernel
theorem dX12_stems_40 : decode cX12_stems 40 = .ok (.aload_n 0, 1) := by decide +kernel
theorem dX12_stems_41 : decode cX12_stems 41 = .ok (.invokevirtual 249, 3) := by decide +kernel
theorem dX12_stems_44 : decode cX12_stems 44 = .ok (.if_icmp .ge 53, 3) := by decide +kernel
theorem dX12_stems_47 : decode cX12_stems 47 = .ok (.aload_n 0, 1) := by decide +kernel
theorem dX12_stems_48 : decode cX12_stems 48 = .ok (.getfield 66, 3) := by decide +kernel
theorem dX12_stems_51 : decode cX12_stems 51 = .ok (.iload_n 1, 1) := by decide +kernel
theorem dX12_stems_52 : decode cX12_stems 52 = .ok (.iload 5, 2) := by decide +kernel
theorem dX12_stems_54 : decode cX12_stems 54 = .ok (.invokestatic 282, 3) := by decide +kernel
theorem dX12_stems_57 : decode cX12_stems 57 = .ok (.iaload, 1) := by decide +kernel
theorem dX12_stems_58 : decode cX12_stems 58 = .ok (.iconst (-1), 1) := by decide +kernel
theorem dX12_stems_59 : decode cX12_stems 59 = .ok (.if_icmp .ne 32, 3) := by decide +kernel
theorem dX12_stems_62 : decode cX12_stems 62 = .ok (.iinc 4 1, 3) := by decide +kernel
theorem dX12_stems_65 : decode cX12_stems 65 = .ok (.iload_n 3, 1) := by decide +kernel
theorem dX12_stems_66 : decode cX12_stems 66 = .ok (.iconst (-1), 1) := by decide +kernel
theorem dX12_stems_67 : decode cX12_stems 67 = .ok (.if_icmp .eq 21, 3) := by decide +kernel
theorem dX12_stems_70 : decode cX12_stems 70 = .ok (.aload_n 0, 1) := by decide +kernel
theorem dX12_stems_71 : decode cX12_stems 71 = .ok (.iload 5, 2) := by decide +kernel
theorem dX12_stems_73 : decode cX12_stems 73 = .ok (.iload_n 1, 1) := by decide +kernel
theorem dX12_stems_74 : decode cX12_stems 74 = .ok (.iconst 1, 1) := by decide +kernel
theorem dX12_stems_75 : decode cX12_stems 75 = .ok (.invokevirtual 356, 3) := by decide +kernel
theorem dX12_stems_78 : decode cX12_stems 78 = .ok (.aload_n 0, 1) := by decide +kernel
theorem dX12_stems_79 : decode cX12_stems 79 = .ok (.iload_n 3, 1) := by decide +kernel
theorem dX12_stems_80 : decode cX12_stems 80 = .ok (.iload_n 1, 1) := by decide +kernel
theorem dX12_stems_81 : decode cX12_stems 81 = .ok (.iconst 1, 1) := by decide +kernel
theorem dX12_stems_82 : decode cX12_stems 82 = .ok (.invokevirtual 356, 3) := by decide +kernel
theorem dX12_stems_85 : decode cX12_stems 85 = .ok (.if_icmp .le 6, 3) := by decide +kernel
theorem dX12_stems_88 : decode cX12_stems 88 = .ok (.iload 5, 2) := by decide +kernel
theorem dX12_stems_90 : decode cX12_stems 90 = .ok (.istore_n 3, 1) := by decide +kernel
theorem dX12_stems_91 : decode cX12_stems 91 = .ok (.iinc 5 1, 3) := by decide +kernel
theorem dX12_stems_94 : decode cX12_stems 94 = .ok (.goto (-56), 3) := by decide +kernel
theorem dX12_stems_97 : decode cX12_stems 97 = .ok (.iload_n 2, 1) := by decide +kernel
theorem dX12_stems_98 : decode cX12_stems 98 = .ok (.ifCond .ne 6, 3) := by decide +kernel
theorem dX12_stems_101 : decode cX12_stems 101 = .ok (.iload 4, 2) := by decide +kernel
theorem dX12_stems_103 : decode cX12_stems 103 = .ok (.ireturn, 1) := by decide +kernel
theorem dX12_stems_104 : decode cX12_stems 104 = .ok (.iload_n 3, 1) := by decide +kernel
theorem dX12_stems_105 : decode cX12_stems 105 = .ok (.iconst (-1), 1) := by decide +kernel
theorem dX12_stems_106 : decode cX12_stems 106 = .ok (.if_icmp .eq 8, 3) := by decide +kernel
theorem dX12_stems_109 : decode cX12_stems 109 = .ok (.iload_n 2, 1) := by decide +kernel
theorem dX12_stems_110 : decode cX12_stems 110 = .ok (.iconst 3, 1) := by decide +kernel
theorem dX12_stems_111 : decode cX12_stems 111 = .ok (.if_icmp .ne 7, 3) := by decide +kernel
theorem dX12_stems_114 : decode cX12_stems 114 = .ok (.iload_n 3, 1) := by decide +kernel
theorem dX12_stems_115 : decode cX12_stems 115 = .ok (.goto 19, 3) := by decide +kernel
theorem dX12_stems_118 : decode cX12_stems 118 = .ok (.aload_n 0, 1) := by decide +kernel
theorem dX12_stems_119 : decode cX12_stems 119 = .ok (.iload_n 3, 1) := by decide +kernel
theorem dX12_stems_120 : decode cX12_stems 120 = .ok (.iload_n 1, 1) := by decide +kernel
theorem dX12_stems_121 : decode cX12_stems 121 = .ok (.iload_n 2, 1) := by decide +kernel
theorem dX12_stems_122 : decode cX12_stems 122 = .ok (.iconst 2, 1) := by decide +kernel
theorem dX12_stems_123 : decode cX12_stems 123 = .ok (.if_icmp .ne 7, 3) := by decide +kernel
theorem dX12_stems_126 : decode cX12_stems 126 = .ok (.iconst 1, 1) := by decide +kernel
theorem dX12_stems_127 : decode cX12_stems 127 = .ok (.goto 4, 3) := by decide +kernel
theorem dX12_stems_130 : decode cX12_stems 130 = .ok (.iconst 0, 1) := by decide +kernel
theorem dX12_stems_131 : decode cX12_stems 131 = .ok (.invokevirtual 356, 3) := by decide +kernel
theorem dX12_stems_134 : decode cX12_stems 134 = .ok (.ireturn, 1) := by decide +kernel
theorem dX12_beyond_0 : decode cX12_beyond 0 = .ok (.aload_n 0, 1) := by decide +kernel
theorem dX12_beyond_1 : decode cX12_beyond 1 = .ok (.iload_n 1, 1) := by decide +kernel
theorem dX12_beyond_2 : decode cX12_beyond 2 = .ok (.invokevirtual 338, 3) := by decide +kernel
theorem dX12_beyond_5 : decode cX12_beyond 5 = .ok (.ifCond .eq 13, 3) := by decide +kernel
theorem dX12_beyond_8 : decode cX12_beyond 8 = .ok (.iload_n 2, 1) := by decide +kernel
theorem dX12_beyond_9 : decode cX12_beyond 9 = .ok (.i2l, 1) := by decide +kernel
theorem dX12_beyond_10 : decode cX12_beyond 10 = .ok (.lconst 0, 1) := by decide +kernel
theorem dX12_beyond_11 : decode cX12_beyond 11 = .ok (.lconst 1, 1) := by decide +kernel
theorem dX12_beyond_12 : decode cX12_beyond 12 = .ok (.invokestatic 127, 3) := by decide +kernel
theorem dX12_beyond_15 : decode cX12_beyond 15 = .ok (.ifCond .ne 5, 3) := by decide +kernel
theorem dX12_beyond_18 : decode cX12_beyond 18 = .ok (.iconst (-1), 1) := by decide +kernel
theorem dX12_beyond_19 : decode cX12_beyond 19 = .ok (.ireturn, 1) := by decide +kernel
theorem dX12_beyond_20 : decode cX12_beyond 20 = .ok (.aload_n 0, 1) := by decide +kernel
theorem dX12_beyond_21 : decode cX12_beyond 21 = .ok (.invokevirtual 320, 3) := by decide +kernel
theorem dX12_beyond_24 : decode cX12_beyond 24 = .ok (.iload_n 2, 1) := by decide +kernel
theorem dX12_beyond_25 : decode cX12_beyond 25 = .ok (.ifCond .ne 12, 3) := by decide +kernel
theorem dX12_beyond_28 : decode cX12_beyond 28 = .ok (.aload_n 0, 1) := by decide +kernel
theorem dX12_beyond_29 : decode cX12_beyond 29 = .ok (.getfield 42, 3) := by decide +kernel
theorem dX12_beyond_32 : decode cX12_beyond 32 = .ok (.iload_n 1, 1) := by decide +kernel
theorem dX12_beyond_33 : decode cX12_beyond 33 = .ok (.iaload, 1) := by decide +kernel
theorem dX12_beyond_34 : decode cX12_beyond 34 = .ok (.goto 9, 3) := by decide +kernel
theorem dX12_beyond_37 : decode cX12_beyond 37 = .ok (.aload_n 0, 1) := by decide +kernel
theorem dX12_beyond_38 : decode cX12_beyond 38 = .ok (.getfield 39, 3) := by decide +kernel
theorem dX12_beyond_41 : decode cX12_beyond 41 = .ok (.iload_n 1, 1) := by decide +kernel
theorem dX12_beyond_42 : decode cX12_beyond 42 = .ok (.iaload, 1) := by decide +kernel
theorem dX12_beyond_43 : decode cX12_beyond 43 = .ok (.ireturn, 1) := by decide +kernel
theorem dX12_springs_0 : decode cX12_springs 0 = .ok (.aload_n 0, 1) := by decide +kernel
theorem dX12_springs_1 : decode cX12_springs 1 = .ok (.iload_n 1, 1) := by decide +kernel
theorem dX12_springs_2 : decode cX12_springs 2 = .ok (.invokevirtual 344, 3) := by decide +kernel
theorem dX12_springs_5 : decode cX12_springs 5 = .ok (.ifCond .ne 5, 3) := by decide +kernel
theorem dX12_springs_8 : decode cX12_springs 8 = .ok (.iconst (-1), 1) := by decide +kernel
theorem dX12_springs_9 : decode cX12_springs 9 = .ok (.ireturn, 1) := by decide +kernel
theorem dX12_springs_10 : decode cX12_springs 10 = .ok (.aload_n 0, 1) := by decide +kernel
theorem dX12_springs_11 : decode cX12_springs 11 = .ok (.invokevirtual 320, 3) := by decide +kernel
theorem dX12_springs_14 : decode cX12_springs 14 = .ok (.aload_n 0, 1) := by decide +kernel
theorem dX12_springs_15 : decode cX12_springs 15 = .ok (.getfield 57, 3) := by decide +kernel
theorem dX12_springs_18 : decode cX12_springs 18 = .ok (.iload_n 1, 1) := by decide +kernel
theorem dX12_springs_19 : decode cX12_springs 19 = .ok (.iaload, 1) := by decide +kernel
theorem dX12_springs_20 : decode cX12_springs 20 = .ok (.ireturn, 1) := by decide +kernel
theorem dX12_laysWays_0 : decode cX12_laysWays 0 = .ok (.iconst 0, 1) := by decide +kernel
theorem dX12_laysWays_1 : decode cX12_laysWays 1 = .ok (.istore_n 2, 1) := by decide +kernel
theorem dX12_laysWays_2 : decode cX12_laysWays 2 = .ok (.iload_n 2, 1) := by decide +kernel
theorem dX12_laysWays_3 : decode cX12_laysWays 3 = .ok (.aload_n 0, 1) := by decide +kernel
theorem dX12_laysWays_4 : decode cX12_laysWays 4 = .ok (.invokevirtual 246, 3) := by decide +kernel
theorem dX12_laysWays_7 : decode cX12_laysWays 7 = .ok (.if_icmp .ge 29, 3) := by decide +kernel
theorem dX12_laysWays_10 : decode cX12_laysWays 10 = .ok (.aload_n 0, 1) := by decide +kernel
theorem dX12_laysWays_11 : decode cX12_laysWays 11 = .ok (.getfield 75, 3) := by decide +kernel
theorem dX12_laysWays_14 : decode cX12_laysWays 14 = .ok (.iload_n 2, 1) := by decide +kernel
theorem dX12_laysWays_15 : decode cX12_laysWays 15 = .ok (.iload_n 2, 1) := by decide +kernel
theorem dX12_laysWays_16 : decode cX12_laysWays 16 = .ok (.iload_n 1, 1) := by decide +kernel
theorem dX12_laysWays_17 : decode cX12_laysWays 17 = .ok (.if_icmp .ne 7, 3) := by decide +kernel
theorem dX12_laysWays_20 : decode cX12_laysWays 20 = .ok (.iconst 1, 1) := by decide +kernel
theorem dX12_laysWays_21 : decode cX12_laysWays 21 = .ok (.goto 4, 3) := by decide +kernel
theorem dX12_laysWays_24 : decode cX12_laysWays 24 = .ok (.iconst 0, 1) := by decide +kernel
theorem dX12_laysWays_25 : decode cX12_laysWays 25 = .ok (.invokestatic 255, 3) := by decide +kernel
theorem dX12_laysWays_28 : decode cX12_laysWays 28 = .ok (.i2l, 1) := by decide +kernel
theorem dX12_laysWays_29 : decode cX12_laysWays 29 = .ok (.lastore, 1) := by decide +kernel
theorem dX12_laysWays_30 : decode cX12_laysWays 30 = .ok (.iinc 2 1, 3) := by decide +kernel
theorem dX12_laysWays_33 : decode cX12_laysWays 33 = .ok (.goto (-31), 3) := by decide +kernel
theorem dX12_laysWays_36 : decode cX12_laysWays 36 = .ok (.iconst 0, 1) := by decide +kernel
theorem dX12_laysWays_37 : decode cX12_laysWays 37 = .ok (.istore_n 2, 1) := by decide +kernel
theorem dX12_laysWays_38 : decode cX12_laysWays 38 = .ok (.iload_n 2, 1) := by decide +kernel
theorem dX12_laysWays_39 : decode cX12_laysWays 39 = .ok (.aload_n 0, 1) := by decide +kernel
theorem dX12_laysWays_40 : decode cX12_laysWays 40 = .ok (.invokevirtual 246, 3) := by decide +kernel
theorem dX12_laysWays_43 : decode cX12_laysWays 43 = .ok (.if_icmp .ge 93, 3) := by decide +kernel
theorem dX12_laysWays_46 : decode cX12_laysWays 46 = .ok (.iconst 0, 1) := by decide +kernel
theorem dX12_laysWays_47 : decode cX12_laysWays 47 = .ok (.istore_n 3, 1) := by decide +kernel
theorem dX12_laysWays_48 : decode cX12_laysWays 48 = .ok (.iload_n 3, 1) := by decide +kernel
theorem dX12_laysWays_49 : decode cX12_laysWays 49 = .ok (.aload_n 0, 1) := by decide +kernel
theorem dX12_laysWays_50 : decode cX12_laysWays 50 = .ok (.invokevirtual 249, 3) := by decide +kernel
theorem dX12_laysWays_53 : decode cX12_laysWays 53 = .ok (.if_icmp .ge 77, 3) := by decide +kernel
theorem dX12_laysWays_56 : decode cX12_laysWays 56 = .ok (.aload_n 0, 1) := by decide +kernel
theorem dX12_laysWays_57 : decode cX12_laysWays 57 = .ok (.iload_n 3, 1) := by decide +kernel
theorem dX12_laysWays_58 : decode cX12_laysWays 58 = .ok (.iconst 1, 1) := by decide +kernel
theorem dX12_laysWays_59 : decode cX12_laysWays 59 = .ok (.invokevirtual 252, 3) := by decide +kernel
theorem dX12_laysWays_62 : decode cX12_laysWays 62 = .ok (.aload_n 0, 1) := by decide +kernel
theorem dX12_laysWays_63 : decode cX12_laysWays 63 = .ok (.getfield 30, 3) := by decide +kernel
theorem dX12_laysWays_66 : decode cX12_laysWays 66 = .ok (.iload_n 2, 1) := by decide +kernel
theorem dX12_laysWays_67 : decode cX12_laysWays 67 = .ok (.iaload, 1) := by decide +kernel
theorem dX12_laysWays_68 : decode cX12_laysWays 68 = .ok (.if_icmp .ne 56, 3) := by decide +kernel
theorem dX12_laysWays_71 : decode cX12_laysWays 71 = .ok (.aload_n 0, 1) := by decide +kernel
theorem dX12_laysWays_72 : decode cX12_laysWays 72 = .ok (.getfield 75, 3) := by decide +kernel
theorem dX12_laysWays_75 : decode cX12_laysWays 75 = .ok (.aload_n 0, 1) := by decide +kernel
theorem dX12_laysWays_76 : decode cX12_laysWays 76 = .ok (.getfield 30, 3) := by decide +kernel
theorem dX12_laysWays_79 : decode cX12_laysWays 79 = .ok (.iload_n 2, 1) := by decide +kernel
theorem dX12_laysWays_80 : decode cX12_laysWays 80 = .ok (.iaload, 1) := by decide +kernel
theorem dX12_laysWays_81 : decode cX12_laysWays 81 = .ok (.laload, 1) := by decide +kernel
theorem dX12_laysWays_82 : decode cX12_laysWays 82 = .ok (.aload_n 0, 1) := by decide +kernel
theorem dX12_laysWays_83 : decode cX12_laysWays 83 = .ok (.getfield 75, 3) := by decide +kernel
theorem dX12_laysWays_86 : decode cX12_laysWays 86 = .ok (.aload_n 0, 1) := by decide +kernel
theorem dX12_laysWays_87 : decode cX12_laysWays 87 = .ok (.iload_n 3, 1) := by decide +kernel
theorem dX12_laysWays_88 : decode cX12_laysWays 88 = .ok (.iconst 0, 1) := by decide +kernel
theorem dX12_laysWays_89 : decode cX12_laysWays 89 = .ok (.invokevirtual 252, 3) := by decide +kernel
theorem dX12_laysWays_92 : decode cX12_laysWays 92 = .ok (.laload, 1) := by decide +kernel
theorem dX12_laysWays_93 : decode cX12_laysWays 93 = .ok (.ladd, 1) := by decide +kernel
theorem dX12_laysWays_94 : decode cX12_laysWays 94 = .ok (.lstore 4, 2) := by decide +kernel
theorem dX12_laysWays_96 : decode cX12_laysWays 96 = .ok (.aload_n 0, 1) := by decide +kernel
theorem dX12_laysWays_97 : decode cX12_laysWays 97 = .ok (.getfield 75, 3) := by decide +kernel
theorem dX12_laysWays_100 : decode cX12_laysWays 100 = .ok (.aload_n 0, 1) := by decide +kernel
theorem dX12_laysWays_101 : decode cX12_laysWays 101 = .ok (.getfield 30, 3) := by decide +kernel
theorem dX12_laysWays_104 : decode cX12_laysWays 104 = .ok (.iload_n 2, 1) := by decide +kernel
theorem dX12_laysWays_105 : decode cX12_laysWays 105 = .ok (.iaload, 1) := by decide +kernel
theorem dX12_laysWays_106 : decode cX12_laysWays 106 = .ok (.lload 4, 2) := by decide +kernel
theorem dX12_laysWays_108 : decode cX12_laysWays 108 = .ok (.ldc2_w 359, 3) := by decide +kernel
theorem dX12_laysWays_111 : decode cX12_laysWays 111 = .ok (.lcmp, 1) := by decide +kernel
theorem dX12_laysWays_112 : decode cX12_laysWays 112 = .ok (.ifCond .le 9, 3) := by decide +kernel
theorem dX12_laysWays_115 : decode cX12_laysWays 115 = .ok (.ldc2_w 359, 3) := by decide +kernel
theorem dX12_laysWays_118 : decode cX12_laysWays 118 = .ok (.goto 5, 3) := by decide +kernel
theorem dX12_laysWays_121 : decode cX12_laysWays 121 = .ok (.lload 4, 2) := by decide +kernel
theorem dX12_laysWays_123 : decode cX12_laysWays 123 = .ok (.lastore, 1) := by decide +kernel
theorem dX12_laysWays_124 : decode cX12_laysWays 124 = .ok (.iinc 3 1, 3) := by decide +kernel
theorem dX12_laysWays_127 : decode cX12_laysWays 127 = .ok (.goto (-79), 3) := by decide +kernel
theorem dX12_laysWays_130 : decode cX12_laysWays 130 = .ok (.iinc 2 1, 3) := by decide +kernel
theorem dX12_laysWays_133 : decode cX12_laysWays 133 = .ok (.goto (-95), 3) := by decide +kernel
theorem dX12_laysWays_136 : decode cX12_laysWays 136 = .ok (.return_, 1) := by decide +kernel
theorem dX12_ways_0 : decode cX12_ways 0 = .ok (.aload_n 0, 1) := by decide +kernel
theorem dX12_ways_1 : decode cX12_ways 1 = .ok (.iload_n 1, 1) := by decide +kernel
theorem dX12_ways_2 : decode cX12_ways 2 = .ok (.invokevirtual 338, 3) := by decide +kernel
theorem dX12_ways_5 : decode cX12_ways 5 = .ok (.ifCond .eq 11, 3) := by decide +kernel
theorem dX12_ways_8 : decode cX12_ways 8 = .ok (.aload_n 0, 1) := by decide +kernel
theorem dX12_ways_9 : decode cX12_ways 9 = .ok (.iload_n 2, 1) := by decide +kernel
theorem dX12_ways_10 : decode cX12_ways 10 = .ok (.invokevirtual 338, 3) := by decide +kernel
theorem dX12_ways_13 : decode cX12_ways 13 = .ok (.ifCond .ne 5, 3) := by decide +kernel
theorem dX12_ways_16 : decode cX12_ways 16 = .ok (.iconst (-1), 1) := by decide +kernel
theorem dX12_ways_17 : decode cX12_ways 17 = .ok (.ireturn, 1) := by decide +kernel
theorem dX12_ways_18 : decode cX12_ways 18 = .ok (.aload_n 0, 1) := by decide +kernel
theorem dX12_ways_19 : decode cX12_ways 19 = .ok (.invokevirtual 320, 3) := by decide +kernel
theorem dX12_ways_22 : decode cX12_ways 22 = .ok (.aload_n 0, 1) := by decide +kernel
theorem dX12_ways_23 : decode cX12_ways 23 = .ok (.iload_n 1, 1) := by decide +kernel
theorem dX12_ways_24 : decode cX12_ways 24 = .ok (.invokevirtual 361, 3) := by decide +kernel
theorem dX12_ways_27 : decode cX12_ways 27 = .ok (.aload_n 0, 1) := by decide +kernel
theorem dX12_ways_28 : decode cX12_ways 28 = .ok (.getfield 75, 3) := by decide +kernel
theorem dX12_ways_31 : decode cX12_ways 31 = .ok (.iload_n 2, 1) := by decide +kernel
theorem dX12_ways_32 : decode cX12_ways 32 = .ok (.laload, 1) := by decide +kernel
theorem dX12_ways_33 : decode cX12_ways 33 = .ok (.l2i, 1) := by decide +kernel
theorem dX12_ways_34 : decode cX12_ways 34 = .ok (.ireturn, 1) := by decide +kernel
theorem dX12_laysFar_0 : decode cX12_laysFar 0 = .ok (.iconst 0, 1) := by decide +kernel
theorem dX12_laysFar_1 : decode cX12_laysFar 1 = .ok (.istore_n 3, 1) := by decide +kernel
theorem dX12_laysFar_2 : decode cX12_laysFar 2 = .ok (.iload_n 3, 1) := by decide +kernel
theorem dX12_laysFar_3 : decode cX12_laysFar 3 = .ok (.aload_n 0, 1) := by decide +kernel
theorem dX12_laysFar_4 : decode cX12_laysFar 4 = .ok (.invokevirtual 246, 3) := by decide +kernel
theorem dX12_laysFar_7 : decode cX12_laysFar 7 = .ok (.if_icmp .ge 27, 3) := by decide +kernel
theorem dX12_laysFar_10 : decode cX12_laysFar 10 = .ok (.aload_n 0, 1) := by decide +kernel
theorem dX12_laysFar_11 : decode cX12_laysFar 11 = .ok (.getfield 75, 3) := by decide +kernel
theorem dX12_laysFar_14 : decode cX12_laysFar 14 = .ok (.iload_n 3, 1) := by decide +kernel
theorem dX12_laysFar_15 : decode cX12_laysFar 15 = .ok (.iload_n 3, 1) := by decide +kernel
theorem dX12_laysFar_16 : decode cX12_laysFar 16 = .ok (.iload_n 1, 1) := by decide +kernel
theorem dX12_laysFar_17 : decode cX12_laysFar 17 = .ok (.if_icmp .ne 7, 3) := by decide +kernel
theorem dX12_laysFar_20 : decode cX12_laysFar 20 = .ok (.lconst 0, 1) := by decide +kernel
theorem dX12_laysFar_21 : decode cX12_laysFar 21 = .ok (.goto 6, 3) := by decide +kernel
theorem dX12_laysFar_24 : decode cX12_laysFar 24 = .ok (.ldc2_w 364, 3) := by decide +kernel
theorem dX12_laysFar_27 : decode cX12_laysFar 27 = .ok (.lastore, 1) := by decide +kernel
theorem dX12_laysFar_28 : decode cX12_laysFar 28 = .ok (.iinc 3 1, 3) := by decide +kernel
theorem dX12_laysFar_31 : decode cX12_laysFar 31 = .ok (.goto (-29), 3) := by decide +kernel
theorem dX12_laysFar_34 : decode cX12_laysFar 34 = .ok (.iconst 0, 1) := by decide +kernel
theorem dX12_laysFar_35 : decode cX12_laysFar 35 = .ok (.istore_n 3, 1) := by decide +kernel
theorem dX12_laysFar_36 : decode cX12_laysFar 36 = .ok (.iload_n 3, 1) := by decide +kernel
theorem dX12_laysFar_37 : decode cX12_laysFar 37 = .ok (.aload_n 0, 1) := by decide +kernel
theorem dX12_laysFar_38 : decode cX12_laysFar 38 = .ok (.invokevirtual 246, 3) := by decide +kernel
theorem dX12_laysFar_41 : decode cX12_laysFar 41 = .ok (.if_icmp .ge 155, 3) := by decide +kernel
theorem dX12_laysFar_44 : decode cX12_laysFar 44 = .ok (.iconst 0, 1) := by decide +kernel
theorem dX12_laysFar_45 : decode cX12_laysFar 45 = .ok (.istore 4, 2) := by decide +kernel
theorem dX12_laysFar_47 : decode cX12_laysFar 47 = .ok (.iload 4, 2) := by decide +kernel
theorem dX12_laysFar_49 : decode cX12_laysFar 49 = .ok (.aload_n 0, 1) := by decide +kernel
theorem dX12_laysFar_50 : decode cX12_laysFar 50 = .ok (.invokevirtual 249, 3) := by decide +kernel
theorem dX12_laysFar_53 : decode cX12_laysFar 53 = .ok (.if_icmp .ge 137, 3) := by decide +kernel
theorem dX12_laysFar_56 : decode cX12_laysFar 56 = .ok (.aload_n 0, 1) := by decide +kernel
theorem dX12_laysFar_57 : decode cX12_laysFar 57 = .ok (.iload 4, 2) := by decide +kernel
theorem dX12_laysFar_59 : decode cX12_laysFar 59 = .ok (.iconst 0, 1) := by decide +kernel
theorem dX12_laysFar_60 : decode cX12_laysFar 60 = .ok (.invokevirtual 252, 3) := by decide +kernel
theorem dX12_laysFar_63 : decode cX12_laysFar 63 = .ok (.istore 5, 2) := by decide +kernel
theorem dX12_laysFar_65 : decode cX12_laysFar 65 = .ok (.aload_n 0, 1) := by decide +kernel
theorem dX12_laysFar_66 : decode cX12_laysFar 66 = .ok (.iload 4, 2) := by decide +kernel
theorem dX12_laysFar_68 : decode cX12_laysFar 68 = .ok (.iconst 1, 1) := by decide +kernel
theorem dX12_laysFar_69 : decode cX12_laysFar 69 = .ok (.invokevirtual 252, 3) := by decide +kernel
theorem dX12_laysFar_72 : decode cX12_laysFar 72 = .ok (.aload_n 0, 1) := by decide +kernel
theorem dX12_laysFar_73 : decode cX12_laysFar 73 = .ok (.getfield 30, 3) := by decide +kernel
theorem dX12_laysFar_76 : decode cX12_laysFar 76 = .ok (.iload_n 3, 1) := by decide +kernel
theorem dX12_laysFar_77 : decode cX12_laysFar 77 = .ok (.iaload, 1) := by decide +kernel
theorem dX12_laysFar_78 : decode cX12_laysFar 78 = .ok (.if_icmp .ne 106, 3) := by decide +kernel
theorem dX12_laysFar_81 : decode cX12_laysFar 81 = .ok (.aload_n 0, 1) := by decide +kernel
theorem dX12_laysFar_82 : decode cX12_laysFar 82 = .ok (.getfield 75, 3) := by decide +kernel
theorem dX12_laysFar_85 : decode cX12_laysFar 85 = .ok (.iload 5, 2) := by decide +kernel
theorem dX12_laysFar_87 : decode cX12_laysFar 87 = .ok (.laload, 1) := by decide +kernel
theorem dX12_laysFar_88 : decode cX12_laysFar 88 = .ok (.lconst 0, 1) := by decide +kernel
theorem dX12_laysFar_89 : decode cX12_laysFar 89 = .ok (.lcmp, 1) := by decide +kernel
theorem dX12_laysFar_90 : decode cX12_laysFar 90 = .ok (.ifCond .ge 6, 3) := by decide +kernel
theorem dX12_laysFar_93 : decode cX12_laysFar 93 = .ok (.goto 91, 3) := by decide +kernel
theorem dX12_laysFar_96 : decode cX12_laysFar 96 = .ok (.aload_n 0, 1) := by decide +kernel
theorem dX12_laysFar_97 : decode cX12_laysFar 97 = .ok (.getfield 75, 3) := by decide +kernel
theorem dX12_laysFar_100 : decode cX12_laysFar 100 = .ok (.iload 5, 2) := by decide +kernel
theorem dX12_laysFar_102 : decode cX12_laysFar 102 = .ok (.laload, 1) := by decide +kernel
theorem dX12_laysFar_103 : decode cX12_laysFar 103 = .ok (.aload_n 0, 1) := by decide +kernel
theorem dX12_laysFar_104 : decode cX12_laysFar 104 = .ok (.iload 4, 2) := by decide +kernel
theorem dX12_laysFar_106 : decode cX12_laysFar 106 = .ok (.iconst 2, 1) := by decide +kernel
theorem dX12_laysFar_107 : decode cX12_laysFar 107 = .ok (.invokevirtual 252, 3) := by decide +kernel
theorem dX12_laysFar_110 : decode cX12_laysFar 110 = .ok (.i2l, 1) := by decide +kernel
theorem dX12_laysFar_111 : decode cX12_laysFar 111 = .ok (.ladd, 1) := by decide +kernel
theorem dX12_laysFar_112 : decode cX12_laysFar 112 = .ok (.lstore 6, 2) := by decide +kernel
theorem dX12_laysFar_114 : decode cX12_laysFar 114 = .ok (.aload_n 0, 1) := by decide +kernel
theorem dX12_laysFar_115 : decode cX12_laysFar 115 = .ok (.getfield 75, 3) := by decide +kernel
theorem dX12_laysFar_118 : decode cX12_laysFar 118 = .ok (.aload_n 0, 1) := by decide +kernel
theorem dX12_laysFar_119 : decode cX12_laysFar 119 = .ok (.getfield 30, 3) := by decide +kernel
theorem dX12_laysFar_122 : decode cX12_laysFar 122 = .ok (.iload_n 3, 1) := by decide +kernel
theorem dX12_laysFar_123 : decode cX12_laysFar 123 = .ok (.iaload, 1) := by decide +kernel
theorem dX12_laysFar_124 : decode cX12_laysFar 124 = .ok (.laload, 1) := by decide +kernel
theorem dX12_laysFar_125 : decode cX12_laysFar 125 = .ok (.lconst 0, 1) := by decide +kernel
theorem dX12_laysFar_126 : decode cX12_laysFar 126 = .ok (.lcmp, 1) := by decide +kernel
theorem dX12_laysFar_127 : decode cX12_laysFar 127 = .ok (.ifCond .lt 44, 3) := by decide +kernel
theorem dX12_laysFar_130 : decode cX12_laysFar 130 = .ok (.iload_n 2, 1) := by decide +kernel
theorem dX12_laysFar_131 : decode cX12_laysFar 131 = .ok (.ifCond .eq 23, 3) := by decide +kernel
theorem dX12_laysFar_134 : decode cX12_laysFar 134 = .ok (.lload 6, 2) := by decide +kernel
theorem dX12_laysFar_136 : decode cX12_laysFar 136 = .ok (.aload_n 0, 1) := by decide +kernel
theorem dX12_laysFar_137 : decode cX12_laysFar 137 = .ok (.getfield 75, 3) := by decide +kernel
theorem dX12_laysFar_140 : decode cX12_laysFar 140 = .ok (.aload_n 0, 1) := by decide +kernel
theorem dX12_laysFar_141 : decode cX12_laysFar 141 = .ok (.getfield 30, 3) := by decide +kernel
theorem dX12_laysFar_144 : decode cX12_laysFar 144 = .ok (.iload_n 3, 1) := by decide +kernel
theorem dX12_laysFar_145 : decode cX12_laysFar 145 = .ok (.iaload, 1) := by decide +kernel
theorem dX12_laysFar_146 : decode cX12_laysFar 146 = .ok (.laload, 1) := by decide +kernel
theorem dX12_laysFar_147 : decode cX12_laysFar 147 = .ok (.lcmp, 1) := by decide +kernel
theorem dX12_laysFar_148 : decode cX12_laysFar 148 = .ok (.ifCond .le 36, 3) := by decide +kernel
theorem dX12_laysFar_151 : decode cX12_laysFar 151 = .ok (.goto 20, 3) := by decide +kernel
theorem dX12_laysFar_154 : decode cX12_laysFar 154 = .ok (.lload 6, 2) := by decide +kernel
theorem dX12_laysFar_156 : decode cX12_laysFar 156 = .ok (.aload_n 0, 1) := by decide +kernel
theorem dX12_laysFar_157 : decode cX12_laysFar 157 = .ok (.getfield 75, 3) := by decide +kernel
theorem dX12_laysFar_160 : decode cX12_laysFar 160 = .ok (.aload_n 0, 1) := by decide +kernel
theorem dX12_laysFar_161 : decode cX12_laysFar 161 = .ok (.getfield 30, 3) := by decide +kernel
theorem dX12_laysFar_164 : decode cX12_laysFar 164 = .ok (.iload_n 3, 1) := by decide +kernel
theorem dX12_laysFar_165 : decode cX12_laysFar 165 = .ok (.iaload, 1) := by decide +kernel
theorem dX12_laysFar_166 : decode cX12_laysFar 166 = .ok (.laload, 1) := by decide +kernel
theorem dX12_laysFar_167 : decode cX12_laysFar 167 = .ok (.lcmp, 1) := by decide +kernel
theorem dX12_laysFar_168 : decode cX12_laysFar 168 = .ok (.ifCond .ge 16, 3) := by decide +kernel
theorem dX12_laysFar_171 : decode cX12_laysFar 171 = .ok (.aload_n 0, 1) := by decide +kernel
theorem dX12_laysFar_172 : decode cX12_laysFar 172 = .ok (.getfield 75, 3) := by decide +kernel
theorem dX12_laysFar_175 : decode cX12_laysFar 175 = .ok (.aload_n 0, 1) := by decide +kernel
theorem dX12_laysFar_176 : decode cX12_laysFar 176 = .ok (.getfield 30, 3) := by decide +kernel
theorem dX12_laysFar_179 : decode cX12_laysFar 179 = .ok (.iload_n 3, 1) := by decide +kernel
theorem dX12_laysFar_180 : decode cX12_laysFar 180 = .ok (.iaload, 1) := by decide +kernel
theorem dX12_laysFar_181 : decode cX12_laysFar 181 = .ok (.lload 6, 2) := by decide +kernel
theorem dX12_laysFar_183 : decode cX12_laysFar 183 = .ok (.lastore, 1) := by decide +kernel
theorem dX12_laysFar_184 : decode cX12_laysFar 184 = .ok (.iinc 4 1, 3) := by decide +kernel
theorem dX12_laysFar_187 : decode cX12_laysFar 187 = .ok (.goto (-140), 3) := by decide +kernel
theorem dX12_laysFar_190 : decode cX12_laysFar 190 = .ok (.iinc 3 1, 3) := by decide +kernel
theorem dX12_laysFar_193 : decode cX12_laysFar 193 = .ok (.goto (-157), 3) := by decide +kernel
theorem dX12_laysFar_196 : decode cX12_laysFar 196 = .ok (.return_, 1) := by decide +kernel
theorem dX12_far_0 : decode cX12_far 0 = .ok (.aload_n 0, 1) := by decide +kernel
theorem dX12_far_1 : decode cX12_far 1 = .ok (.iload_n 1, 1) := by decide +kernel
theorem dX12_far_2 : decode cX12_far 2 = .ok (.invokevirtual 338, 3) := by decide +kernel
theorem dX12_far_5 : decode cX12_far 5 = .ok (.ifCond .eq 21, 3) := by decide +kernel
theorem dX12_far_8 : decode cX12_far 8 = .ok (.aload_n 0, 1) := by decide +kernel
theorem dX12_far_9 : decode cX12_far 9 = .ok (.iload_n 2, 1) := by decide +kernel
theorem dX12_far_10 : decode cX12_far 10 = .ok (.invokevirtual 338, 3) := by decide +kernel
theorem dX12_far_13 : decode cX12_far 13 = .ok (.ifCond .eq 13, 3) := by decide +kernel
theorem dX12_far_16 : decode cX12_far 16 = .ok (.iload_n 3, 1) := by decide +kernel
theorem dX12_far_17 : decode cX12_far 17 = .ok (.i2l, 1) := by decide +kernel
theorem dX12_far_18 : decode cX12_far 18 = .ok (.lconst 0, 1) := by decide +kernel
theorem dX12_far_19 : decode cX12_far 19 = .ok (.lconst 1, 1) := by decide +kernel
theorem dX12_far_20 : decode cX12_far 20 = .ok (.invokestatic 127, 3) := by decide +kernel
theorem dX12_far_23 : decode cX12_far 23 = .ok (.ifCond .ne 5, 3) := by decide +kernel
theorem dX12_far_26 : decode cX12_far 26 = .ok (.iconst (-1), 1) := by decide +kernel
theorem dX12_far_27 : decode cX12_far 27 = .ok (.ireturn, 1) := by decide +kernel
theorem dX12_far_28 : decode cX12_far 28 = .ok (.aload_n 0, 1) := by decide +kernel
theorem dX12_far_29 : decode cX12_far 29 = .ok (.invokevirtual 320, 3) := by decide +kernel
theorem dX12_far_32 : decode cX12_far 32 = .ok (.aload_n 0, 1) := by decide +kernel
theorem dX12_far_33 : decode cX12_far 33 = .ok (.iload_n 1, 1) := by decide +kernel
theorem dX12_far_34 : decode cX12_far 34 = .ok (.iload_n 3, 1) := by decide +kernel
theorem dX12_far_35 : decode cX12_far 35 = .ok (.iconst 1, 1) := by decide +kernel
theorem dX12_far_36 : decode cX12_far 36 = .ok (.if_icmp .ne 7, 3) := by decide +kernel
theorem dX12_far_39 : decode cX12_far 39 = .ok (.iconst 1, 1) := by decide +kernel
theorem dX12_far_40 : decode cX12_far 40 = .ok (.goto 4, 3) := by decide +kernel
theorem dX12_far_43 : decode cX12_far 43 = .ok (.iconst 0, 1) := by decide +kernel
theorem dX12_far_44 : decode cX12_far 44 = .ok (.invokevirtual 366, 3) := by decide +kernel
theorem dX12_far_47 : decode cX12_far 47 = .ok (.aload_n 0, 1) := by decide +kernel
theorem dX12_far_48 : decode cX12_far 48 = .ok (.getfield 75, 3) := by decide +kernel
theorem dX12_far_51 : decode cX12_far 51 = .ok (.iload_n 2, 1) := by decide +kernel
theorem dX12_far_52 : decode cX12_far 52 = .ok (.laload, 1) := by decide +kernel
theorem dX12_far_53 : decode cX12_far 53 = .ok (.l2i, 1) := by decide +kernel
theorem dX12_far_54 : decode cX12_far 54 = .ok (.ireturn, 1) := by decide +kernel
theorem dX12_waters_0 : decode cX12_waters 0 = .ok (.aload_n 0, 1) := by decide +kernel
theorem dX12_waters_1 : decode cX12_waters 1 = .ok (.iload_n 1, 1) := by decide +kernel
theorem dX12_waters_2 : decode cX12_waters 2 = .ok (.invokevirtual 338, 3) := by decide +kernel
theorem dX12_waters_5 : decode cX12_waters 5 = .ok (.ifCond .eq 11, 3) := by decide +kernel
theorem dX12_waters_8 : decode cX12_waters 8 = .ok (.aload_n 0, 1) := by decide +kernel
theorem dX12_waters_9 : decode cX12_waters 9 = .ok (.iload_n 2, 1) := by decide +kernel
theorem dX12_waters_10 : decode cX12_waters 10 = .ok (.invokevirtual 338, 3) := by decide +kernel
theorem dX12_waters_13 : decode cX12_waters 13 = .ok (.ifCond .ne 5, 3) := by decide +kernel
theorem dX12_waters_16 : decode cX12_waters 16 = .ok (.iconst (-1), 1) := by decide +kernel
theorem dX12_waters_17 : decode cX12_waters 17 = .ok (.ireturn, 1) := by decide +kernel
theorem dX12_waters_18 : decode cX12_waters 18 = .ok (.aload_n 0, 1) := by decide +kernel
theorem dX12_waters_19 : decode cX12_waters 19 = .ok (.invokevirtual 320, 3) := by decide +kernel
theorem dX12_waters_22 : decode cX12_waters 22 = .ok (.aload_n 0, 1) := by decide +kernel
theorem dX12_waters_23 : decode cX12_waters 23 = .ok (.getfield 39, 3) := by decide +kernel
theorem dX12_waters_26 : decode cX12_waters 26 = .ok (.iload_n 1, 1) := by decide +kernel
theorem dX12_waters_27 : decode cX12_waters 27 = .ok (.iaload, 1) := by decide +kernel
theorem dX12_waters_28 : decode cX12_waters 28 = .ok (.iconst 1, 1) := by decide +kernel
theorem dX12_waters_29 : decode cX12_waters 29 = .ok (.iload_n 1, 1) := by decide +kernel
theorem dX12_waters_30 : decode cX12_waters 30 = .ok (.ishl, 1) := by decide +kernel
theorem dX12_waters_31 : decode cX12_waters 31 = .ok (.ior, 1) := by decide +kernel
theorem dX12_waters_32 : decode cX12_waters 32 = .ok (.aload_n 0, 1) := by decide +kernel
theorem dX12_waters_33 : decode cX12_waters 33 = .ok (.getfield 39, 3) := by decide +kernel
theorem dX12_waters_36 : decode cX12_waters 36 = .ok (.iload_n 2, 1) := by decide +kernel
theorem dX12_waters_37 : decode cX12_waters 37 = .ok (.iaload, 1) := by decide +kernel
theorem dX12_waters_38 : decode cX12_waters 38 = .ok (.iconst 1, 1) := by decide +kernel
theorem dX12_waters_39 : decode cX12_waters 39 = .ok (.iload_n 2, 1) := by decide +kernel
theorem dX12_waters_40 : decode cX12_waters 40 = .ok (.ishl, 1) := by decide +kernel
theorem dX12_waters_41 : decode cX12_waters 41 = .ok (.ior, 1) := by decide +kernel
theorem dX12_waters_42 : decode cX12_waters 42 = .ok (.iand, 1) := by decide +kernel
theorem dX12_waters_43 : decode cX12_waters 43 = .ok (.istore_n 3, 1) := by decide +kernel
theorem dX12_waters_44 : decode cX12_waters 44 = .ok (.iconst 0, 1) := by decide +kernel
theorem dX12_waters_45 : decode cX12_waters 45 = .ok (.istore 4, 2) := by decide +kernel
theorem dX12_waters_47 : decode cX12_waters 47 = .ok (.iload 4, 2) := by decide +kernel
theorem dX12_waters_49 : decode cX12_waters 49 = .ok (.aload_n 0, 1) := by decide +kernel
theorem dX12_waters_50 : decode cX12_waters 50 = .ok (.invokevirtual 246, 3) := by decide +kernel
theorem dX12_waters_53 : decode cX12_waters 53 = .ok (.if_icmp .ge 33, 3) := by decide +kernel
theorem dX12_waters_56 : decode cX12_waters 56 = .ok (.iload_n 3, 1) := by decide +kernel
theorem dX12_waters_57 : decode cX12_waters 57 = .ok (.iload 4, 2) := by decide +kernel
theorem dX12_waters_59 : decode cX12_waters 59 = .ok (.invokestatic 187, 3) := by decide +kernel
theorem dX12_waters_62 : decode cX12_waters 62 = .ok (.ifCond .eq 18, 3) := by decide +kernel
theorem dX12_waters_65 : decode cX12_waters 65 = .ok (.aload_n 0, 1) := by decide +kernel
theorem dX12_waters_66 : decode cX12_waters 66 = .ok (.getfield 42, 3) := by decide +kernel
theorem dX12_waters_69 : decode cX12_waters 69 = .ok (.iload 4, 2) := by decide +kernel
theorem dX12_waters_71 : decode cX12_waters 71 = .ok (.iaload, 1) := by decide +kernel
theorem dX12_waters_72 : decode cX12_waters 72 = .ok (.iload_n 3, 1) := by decide +kernel
theorem dX12_waters_73 : decode cX12_waters 73 = .ok (.iand, 1) := by decide +kernel
theorem dX12_waters_74 : decode cX12_waters 74 = .ok (.ifCond .ne 6, 3) := by decide +kernel
theorem dX12_waters_77 : decode cX12_waters 77 = .ok (.iload 4, 2) := by decide +kernel
theorem dX12_waters_79 : decode cX12_waters 79 = .ok (.ireturn, 1) := by decide +kernel
theorem dX12_waters_80 : decode cX12_waters 80 = .ok (.iinc 4 1, 3) := by decide +kernel
theorem dX12_waters_83 : decode cX12_waters 83 = .ok (.goto (-36), 3) := by decide +kernel
theorem dX12_waters_86 : decode cX12_waters 86 = .ok (.iconst (-1), 1) := by decide +kernel
theorem dX12_waters_87 : decode cX12_waters 87 = .ok (.ireturn, 1) := by decide +kernel
theorem dX12_laysThrough_0 : decode cX12_laysThrough 0 = .ok (.aload_n 0, 1) := by decide +kernel
theorem dX12_laysThrough_1 : decode cX12_laysThrough 1 = .ok (.invokevirtual 246, 3) := by decide +kernel
theorem dX12_laysThrough_4 : decode cX12_laysThrough 4 = .ok (.iconst 1, 1) := by decide +kernel
theorem dX12_laysThrough_5 : decode cX12_laysThrough 5 = .ok (.isub, 1) := by decide +kernel
theorem dX12_laysThrough_6 : decode cX12_laysThrough 6 = .ok (.istore_n 1, 1) := by decide +kernel
theorem dX12_laysThrough_7 : decode cX12_laysThrough 7 = .ok (.iload_n 1, 1) := by decide +kernel
theorem dX12_laysThrough_8 : decode cX12_laysThrough 8 = .ok (.ifCond .lt 86, 3) := by decide +kernel
theorem dX12_laysThrough_11 : decode cX12_laysThrough 11 = .ok (.aload_n 0, 1) := by decide +kernel
theorem dX12_laysThrough_12 : decode cX12_laysThrough 12 = .ok (.getfield 30, 3) := by decide +kernel
theorem dX12_laysThrough_15 : decode cX12_laysThrough 15 = .ok (.iload_n 1, 1) := by decide +kernel
theorem dX12_laysThrough_16 : decode cX12_laysThrough 16 = .ok (.iaload, 1) := by decide +kernel
theorem dX12_laysThrough_17 : decode cX12_laysThrough 17 = .ok (.istore_n 2, 1) := by decide +kernel
theorem dX12_laysThrough_18 : decode cX12_laysThrough 18 = .ok (.iconst (-1), 1) := by decide +kernel
theorem dX12_laysThrough_19 : decode cX12_laysThrough 19 = .ok (.istore_n 3, 1) := by decide +kernel
theorem dX12_laysThrough_20 : decode cX12_laysThrough 20 = .ok (.iconst 0, 1) := by decide +kernel
theorem dX12_laysThrough_21 : decode cX12_laysThrough 21 = .ok (.istore 4, 2) := by decide +kernel
theorem dX12_laysThrough_23 : decode cX12_laysThrough 23 = .ok (.iload 4, 2) := by decide +kernel
theorem dX12_laysThrough_25 : decode cX12_laysThrough 25 = .ok (.aload_n 0, 1) := by decide +kernel
theorem dX12_laysThrough_26 : decode cX12_laysThrough 26 = .ok (.invokevirtual 249, 3) := by decide +kernel
theorem dX12_laysThrough_29 : decode cX12_laysThrough 29 = .ok (.if_icmp .ge 35, 3) := by decide +kernel
theorem dX12_laysThrough_32 : decode cX12_laysThrough 32 = .ok (.aload_n 0, 1) := by decide +kernel
theorem dX12_laysThrough_33 : decode cX12_laysThrough 33 = .ok (.iload 4, 2) := by decide +kernel
theorem dX12_laysThrough_35 : decode cX12_laysThrough 35 = .ok (.iconst 0, 1) := by decide +kernel
theorem dX12_laysThrough_36 : decode cX12_laysThrough 36 = .ok (.invokevirtual 252, 3) := by decide +kernel
theorem dX12_laysThrough_39 : decode cX12_laysThrough 39 = .ok (.iload_n 2, 1) := by decide +kernel
theorem dX12_laysThrough_40 : decode cX12_laysThrough 40 = .ok (.if_icmp .ne 18, 3) := by decide +kernel
theorem dX12_laysThrough_43 : decode cX12_laysThrough 43 = .ok (.iload_n 3, 1) := by decide +kernel
theorem dX12_laysThrough_44 : decode cX12_laysThrough 44 = .ok (.aload_n 0, 1) := by decide +kernel
theorem dX12_laysThrough_45 : decode cX12_laysThrough 45 = .ok (.getfield 79, 3) := by decide +kernel
theorem dX12_laysThrough_48 : decode cX12_laysThrough 48 = .ok (.aload_n 0, 1) := by decide +kernel
theorem dX12_laysThrough_49 : decode cX12_laysThrough 49 = .ok (.iload 4, 2) := by decide +kernel
theorem dX12_laysThrough_51 : decode cX12_laysThrough 51 = .ok (.iconst 1, 1) := by decide +kernel
theorem dX12_laysThrough_52 : decode cX12_laysThrough 52 = .ok (.invokevirtual 252, 3) := by decide +kernel
theorem dX12_laysThrough_55 : decode cX12_laysThrough 55 = .ok (.iaload, 1) := by decide +kernel
theorem dX12_laysThrough_56 : decode cX12_laysThrough 56 = .ok (.iand, 1) := by decide +kernel
theorem dX12_laysThrough_57 : decode cX12_laysThrough 57 = .ok (.istore_n 3, 1) := by decide +kernel
theorem dX12_laysThrough_58 : decode cX12_laysThrough 58 = .ok (.iinc 4 1, 3) := by decide +kernel
theorem dX12_laysThrough_61 : decode cX12_laysThrough 61 = .ok (.goto (-38), 3) := by decide +kernel
theorem dX12_laysThrough_64 : decode cX12_laysThrough 64 = .ok (.aload_n 0, 1) := by decide +kernel
theorem dX12_laysThrough_65 : decode cX12_laysThrough 65 = .ok (.getfield 79, 3) := by decide +kernel
theorem dX12_laysThrough_68 : decode cX12_laysThrough 68 = .ok (.iload_n 2, 1) := by decide +kernel
theorem dX12_laysThrough_69 : decode cX12_laysThrough 69 = .ok (.aload_n 0, 1) := by decide +kernel
theorem dX12_laysThrough_70 : decode cX12_laysThrough 70 = .ok (.getfield 36, 3) := by decide +kernel
theorem dX12_laysThrough_73 : decode cX12_laysThrough 73 = .ok (.iload_n 2, 1) := by decide +kernel
theorem dX12_laysThrough_74 : decode cX12_laysThrough 74 = .ok (.iaload, 1) := by decide +kernel
theorem dX12_laysThrough_75 : decode cX12_laysThrough 75 = .ok (.ifCond .ne 7, 3) := by decide +kernel
theorem dX12_laysThrough_78 : decode cX12_laysThrough 78 = .ok (.iconst 0, 1) := by decide +kernel
theorem dX12_laysThrough_79 : decode cX12_laysThrough 79 = .ok (.goto 4, 3) := by decide +kernel
theorem dX12_laysThrough_82 : decode cX12_laysThrough 82 = .ok (.iload_n 3, 1) := by decide +kernel
theorem dX12_laysThrough_83 : decode cX12_laysThrough 83 = .ok (.iconst 1, 1) := by decide +kernel
theorem dX12_laysThrough_84 : decode cX12_laysThrough 84 = .ok (.iload_n 2, 1) := by decide +kernel
theorem dX12_laysThrough_85 : decode cX12_laysThrough 85 = .ok (.ishl, 1) := by decide +kernel
theorem dX12_laysThrough_86 : decode cX12_laysThrough 86 = .ok (.ior, 1) := by decide +kernel
theorem dX12_laysThrough_87 : decode cX12_laysThrough 87 = .ok (.iastore, 1) := by decide +kernel
theorem dX12_laysThrough_88 : decode cX12_laysThrough 88 = .ok (.iinc 1 (-1), 3) := by decide +kernel
theorem dX12_laysThrough_91 : decode cX12_laysThrough 91 = .ok (.goto (-84), 3) := by decide +kernel
theorem dX12_laysThrough_94 : decode cX12_laysThrough 94 = .ok (.return_, 1) := by decide +kernel
theorem dX12_braid_0 : decode cX12_braid 0 = .ok (.aload_n 0, 1) := by decide +kernel
theorem dX12_braid_1 : decode cX12_braid 1 = .ok (.iload_n 1, 1) := by decide +kernel
theorem dX12_braid_2 : decode cX12_braid 2 = .ok (.invokevirtual 338, 3) := by decide +kernel
theorem dX12_braid_5 : decode cX12_braid 5 = .ok (.ifCond .ne 5, 3) := by decide +kernel
theorem dX12_braid_8 : decode cX12_braid 8 = .ok (.iconst (-1), 1) := by decide +kernel
theorem dX12_braid_9 : decode cX12_braid 9 = .ok (.ireturn, 1) := by decide +kernel
theorem dX12_braid_10 : decode cX12_braid 10 = .ok (.aload_n 0, 1) := by decide +kernel
theorem dX12_braid_11 : decode cX12_braid 11 = .ok (.invokevirtual 320, 3) := by decide +kernel
theorem dX12_braid_14 : decode cX12_braid 14 = .ok (.aload_n 0, 1) := by decide +kernel
theorem dX12_braid_15 : decode cX12_braid 15 = .ok (.getfield 36, 3) := by decide +kernel
theorem dX12_braid_18 : decode cX12_braid 18 = .ok (.iload_n 1, 1) := by decide +kernel
theorem dX12_braid_19 : decode cX12_braid 19 = .ok (.iaload, 1) := by decide +kernel
theorem dX12_braid_20 : decode cX12_braid 20 = .ok (.iconst 2, 1) := by decide +kernel
theorem dX12_braid_21 : decode cX12_braid 21 = .ok (.if_icmp .ge 5, 3) := by decide +kernel
theorem dX12_braid_24 : decode cX12_braid 24 = .ok (.iconst (-1), 1) := by decide +kernel
theorem dX12_braid_25 : decode cX12_braid 25 = .ok (.ireturn, 1) := by decide +kernel
theorem dX12_braid_26 : decode cX12_braid 26 = .ok (.aload_n 0, 1) := by decide +kernel
theorem dX12_braid_27 : decode cX12_braid 27 = .ok (.invokevirtual 370, 3) := by decide +kernel
theorem dX12_braid_30 : decode cX12_braid 30 = .ok (.aload_n 0, 1) := by decide +kernel
theorem dX12_braid_31 : decode cX12_braid 31 = .ok (.getfield 79, 3) := by decide +kernel
theorem dX12_braid_34 : decode cX12_braid 34 = .ok (.iload_n 1, 1) := by decide +kernel
theorem dX12_braid_35 : decode cX12_braid 35 = .ok (.iaload, 1) := by decide +kernel
theorem dX12_braid_36 : decode cX12_braid 36 = .ok (.iconst 1, 1) := by decide +kernel
theorem dX12_braid_37 : decode cX12_braid 37 = .ok (.iload_n 1, 1) := by decide +kernel
theorem dX12_braid_38 : decode cX12_braid 38 = .ok (.ishl, 1) := by decide +kernel
theorem dX12_braid_39 : decode cX12_braid 39 = .ok (.iconst (-1), 1) := by decide +kernel
theorem dX12_braid_40 : decode cX12_braid 40 = .ok (.ixor, 1) := by decide +kernel
theorem dX12_braid_41 : decode cX12_braid 41 = .ok (.iand, 1) := by decide +kernel
theorem dX12_braid_42 : decode cX12_braid 42 = .ok (.istore_n 2, 1) := by decide +kernel
theorem dX12_braid_43 : decode cX12_braid 43 = .ok (.iconst 0, 1) := by decide +kernel
theorem dX12_braid_44 : decode cX12_braid 44 = .ok (.istore_n 3, 1) := by decide +kernel
theorem dX12_braid_45 : decode cX12_braid 45 = .ok (.iload_n 3, 1) := by decide +kernel
theorem dX12_braid_46 : decode cX12_braid 46 = .ok (.aload_n 0, 1) := by decide +kernel
theorem dX12_braid_47 : decode cX12_braid 47 = .ok (.invokevirtual 246, 3) := by decide +kernel
theorem dX12_braid_50 : decode cX12_braid 50 = .ok (.if_icmp .ge 30, 3) := by decide +kernel
theorem dX12_braid_53 : decode cX12_braid 53 = .ok (.iload_n 2, 1) := by decide +kernel
theorem dX12_braid_54 : decode cX12_braid 54 = .ok (.iload_n 3, 1) := by decide +kernel
theorem dX12_braid_55 : decode cX12_braid 55 = .ok (.invokestatic 187, 3) := by decide +kernel
theorem dX12_braid_58 : decode cX12_braid 58 = .ok (.ifCond .eq 16, 3) := by decide +kernel
theorem dX12_braid_61 : decode cX12_braid 61 = .ok (.aload_n 0, 1) := by decide +kernel
theorem dX12_braid_62 : decode cX12_braid 62 = .ok (.getfield 42, 3) := by decide +kernel
theorem dX12_braid_65 : decode cX12_braid 65 = .ok (.iload_n 3, 1) := by decide +kernel
theorem dX12_braid_66 : decode cX12_braid 66 = .ok (.iaload, 1) := by decide +kernel
theorem dX12_braid_67 : decode cX12_braid 67 = .ok (.iload_n 2, 1) := by decide +kernel
theorem dX12_braid_68 : decode cX12_braid 68 = .ok (.iand, 1) := by decide +kernel
theorem dX12_braid_69 : decode cX12_braid 69 = .ok (.ifCond .ne 5, 3) := by decide +kernel
theorem dX12_braid_72 : decode cX12_braid 72 = .ok (.iload_n 3, 1) := by decide +kernel
theorem dX12_braid_73 : decode cX12_braid 73 = .ok (.ireturn, 1) := by decide +kernel
theorem dX12_braid_74 : decode cX12_braid 74 = .ok (.iinc 3 1, 3) := by decide +kernel
theorem dX12_braid_77 : decode cX12_braid 77 = .ok (.goto (-32), 3) := by decide +kernel
theorem dX12_braid_80 : decode cX12_braid 80 = .ok (.iconst (-1), 1) := by decide +kernel
theorem dX12_braid_81 : decode cX12_braid 81 = .ok (.ireturn, 1) := by decide +kernel
theorem dX12_streamMany_0 : decode cX12_streamMany 0 = .ok (.iconst 0, 1) := by decide +kernel
theorem dX12_streamMany_1 : decode cX12_streamMany 1 = .ok (.istore_n 2, 1) := by decide +kernel
theorem dX12_streamMany_2 : decode cX12_streamMany 2 = .ok (.iload_n 2, 1) := by decide +kernel
theorem dX12_streamMany_3 : decode cX12_streamMany 3 = .ok (.aload_n 0, 1) := by decide +kernel
theorem dX12_streamMany_4 : decode cX12_streamMany 4 = .ok (.invokevirtual 249, 3) := by decide +kernel
theorem dX12_streamMany_7 : decode cX12_streamMany 7 = .ok (.if_icmp .ge 16, 3) := by decide +kernel
theorem dX12_streamMany_10 : decode cX12_streamMany 10 = .ok (.aload_n 0, 1) := by decide +kernel
theorem dX12_streamMany_11 : decode cX12_streamMany 11 = .ok (.getfield 82, 3) := by decide +kernel
theorem dX12_streamMany_14 : decode cX12_streamMany 14 = .ok (.iload_n 2, 1) := by decide +kernel
theorem dX12_streamMany_15 : decode cX12_streamMany 15 = .ok (.iload_n 2, 1) := by decide +kernel
theorem dX12_streamMany_16 : decode cX12_streamMany 16 = .ok (.iastore, 1) := by decide +kernel
theorem dX12_streamMany_17 : decode cX12_streamMany 17 = .ok (.iinc 2 1, 3) := by decide +kernel
theorem dX12_streamMany_20 : decode cX12_streamMany 20 = .ok (.goto (-18), 3) := by decide +kernel
theorem dX12_streamMany_23 : decode cX12_streamMany 23 = .ok (.iconst 1, 1) := by decide +kernel
theorem dX12_streamMany_24 : decode cX12_streamMany 24 = .ok (.istore_n 2, 1) := by decide +kernel
theorem dX12_streamMany_25 : decode cX12_streamMany 25 = .ok (.iload_n 2, 1) := by decide +kernel
theorem dX12_streamMany_26 : decode cX12_streamMany 26 = .ok (.ifCond .eq 151, 3) := by decide +kernel
theorem dX12_streamMany_29 : decode cX12_streamMany 29 = .ok (.iconst 0, 1) := by decide +kernel
theorem dX12_streamMany_30 : decode cX12_streamMany 30 = .ok (.istore_n 2, 1) := by decide +kernel
theorem dX12_streamMany_31 : decode cX12_streamMany 31 = .ok (.iconst 0, 1) := by decide +kernel
theorem dX12_streamMany_32 : decode cX12_streamMany 32 = .ok (.istore_n 3, 1) := by decide +kernel
theorem dX12_streamMany_33 : decode cX12_streamMany 33 = .ok (.iload_n 3, 1) := by decide +kernel
theorem dX12_streamMany_34 : decode cX12_streamMany 34 = .ok (.aload_n 0, 1) := by decide +kernel
theorem dX12_streamMany_35 : decode cX12_streamMany 35 = .ok (.invokevirtual 249, 3) := by decide +kernel
theorem dX12_streamMany_38 : decode cX12_streamMany 38 = .ok (.if_icmp .ge 136, 3) := by decide +kernel
theorem dX12_streamMany_41 : decode cX12_streamMany 41 = .ok (.iconst 0, 1) := by decide +kernel
theorem dX12_streamMany_42 : decode cX12_streamMany 42 = .ok (.istore 4, 2) := by decide +kernel
theorem dX12_streamMany_44 : decode cX12_streamMany 44 = .ok (.iload 4, 2) := by decide +kernel
theorem dX12_streamMany_46 : decode cX12_streamMany 46 = .ok (.aload_n 0, 1) := by decide +kernel
theorem dX12_streamMany_47 : decode cX12_streamMany 47 = .ok (.invokevirtual 249, 3) := by decide +kernel
theorem dX12_streamMany_50 : decode cX12_streamMany 50 = .ok (.if_icmp .ge 118, 3) := by decide +kernel
theorem dX12_streamMany_53 : decode cX12_streamMany 53 = .ok (.aload_n 0, 1) := by decide +kernel
theorem dX12_streamMany_54 : decode cX12_streamMany 54 = .ok (.getfield 60, 3) := by decide +kernel
theorem dX12_streamMany_57 : decode cX12_streamMany 57 = .ok (.iload_n 3, 1) := by decide +kernel
theorem dX12_streamMany_58 : decode cX12_streamMany 58 = .ok (.iaload, 1) := by decide +kernel
theorem dX12_streamMany_59 : decode cX12_streamMany 59 = .ok (.iload_n 1, 1) := by decide +kernel
theorem dX12_streamMany_60 : decode cX12_streamMany 60 = .ok (.if_icmp .ne 102, 3) := by decide +kernel
theorem dX12_streamMany_63 : decode cX12_streamMany 63 = .ok (.aload_n 0, 1) := by decide +kernel
theorem dX12_streamMany_64 : decode cX12_streamMany 64 = .ok (.getfield 60, 3) := by decide +kernel
theorem dX12_streamMany_67 : decode cX12_streamMany 67 = .ok (.iload 4, 2) := by decide +kernel
theorem dX12_streamMany_69 : decode cX12_streamMany 69 = .ok (.iaload, 1) := by decide +kernel
theorem dX12_streamMany_70 : decode cX12_streamMany 70 = .ok (.iload_n 1, 1) := by decide +kernel
theorem dX12_streamMany_71 : decode cX12_streamMany 71 = .ok (.if_icmp .ne 91, 3) := by decide +kernel
theorem dX12_streamMany_74 : decode cX12_streamMany 74 = .ok (.aload_n 0, 1) := by decide +kernel
theorem dX12_streamMany_75 : decode cX12_streamMany 75 = .ok (.iload_n 3, 1) := by decide +kernel
theorem dX12_streamMany_76 : decode cX12_streamMany 76 = .ok (.iconst 1, 1) := by decide +kernel
theorem dX12_streamMany_77 : decode cX12_streamMany 77 = .ok (.invokevirtual 252, 3) := by decide +kernel
theorem dX12_streamMany_80 : decode cX12_streamMany 80 = .ok (.aload_n 0, 1) := by decide +kernel
theorem dX12_streamMany_81 : decode cX12_streamMany 81 = .ok (.iload 4, 2) := by decide +kernel
theorem dX12_streamMany_83 : decode cX12_streamMany 83 = .ok (.iconst 0, 1) := by decide +kernel
theorem dX12_streamMany_84 : decode cX12_streamMany 84 = .ok (.invokevirtual 252, 3) := by decide +kernel
theorem dX12_streamMany_87 : decode cX12_streamMany 87 = .ok (.if_icmp .ne 75, 3) := by decide +kernel
theorem dX12_streamMany_90 : decode cX12_streamMany 90 = .ok (.aload_n 0, 1) := by decide +kernel
theorem dX12_streamMany_91 : decode cX12_streamMany 91 = .ok (.getfield 82, 3) := by decide +kernel
theorem dX12_streamMany_94 : decode cX12_streamMany 94 = .ok (.iload_n 3, 1) := by decide +kernel
theorem dX12_streamMany_95 : decode cX12_streamMany 95 = .ok (.iaload, 1) := by decide +kernel
theorem dX12_streamMany_96 : decode cX12_streamMany 96 = .ok (.aload_n 0, 1) := by decide +kernel
theorem dX12_streamMany_97 : decode cX12_streamMany 97 = .ok (.getfield 82, 3) := by decide +kernel
theorem dX12_streamMany_100 : decode cX12_streamMany 100 = .ok (.iload 4, 2) := by decide +kernel
theorem dX12_streamMany_102 : decode cX12_streamMany 102 = .ok (.iaload, 1) := by decide +kernel
theorem dX12_streamMany_103 : decode cX12_streamMany 103 = .ok (.if_icmp .ne 6, 3) := by decide +kernel
theorem dX12_streamMany_106 : decode cX12_streamMany 106 = .ok (.goto 56, 3) := by decide +kernel
theorem dX12_streamMany_109 : decode cX12_streamMany 109 = .ok (.aload_n 0, 1) := by decide +kernel
theorem dX12_streamMany_110 : decode cX12_streamMany 110 = .ok (.getfield 82, 3) := by decide +kernel
theorem dX12_streamMany_113 : decode cX12_streamMany 113 = .ok (.iload_n 3, 1) := by decide +kernel
theorem dX12_streamMany_114 : decode cX12_streamMany 114 = .ok (.iaload, 1) := by decide +kernel
theorem dX12_streamMany_115 : decode cX12_streamMany 115 = .ok (.aload_n 0, 1) := by decide +kernel
theorem dX12_streamMany_116 : decode cX12_streamMany 116 = .ok (.getfield 82, 3) := by decide +kernel
theorem dX12_streamMany_119 : decode cX12_streamMany 119 = .ok (.iload 4, 2) := by decide +kernel
theorem dX12_streamMany_121 : decode cX12_streamMany 121 = .ok (.iaload, 1) := by decide +kernel
theorem dX12_streamMany_122 : decode cX12_streamMany 122 = .ok (.if_icmp .ge 12, 3) := by decide +kernel
theorem dX12_streamMany_125 : decode cX12_streamMany 125 = .ok (.aload_n 0, 1) := by decide +kernel
theorem dX12_streamMany_126 : decode cX12_streamMany 126 = .ok (.getfield 82, 3) := by decide +kernel
theorem dX12_streamMany_129 : decode cX12_streamMany 129 = .ok (.iload_n 3, 1) := by decide +kernel
theorem dX12_streamMany_130 : decode cX12_streamMany 130 = .ok (.iaload, 1) := by decide +kernel
theorem dX12_streamMany_131 : decode cX12_streamMany 131 = .ok (.goto 10, 3) := by decide +kernel
theorem dX12_streamMany_134 : decode cX12_streamMany 134 = .ok (.aload_n 0, 1) := by decide +kernel
theorem dX12_streamMany_135 : decode cX12_streamMany 135 = .ok (.getfield 82, 3) := by decide +kernel
theorem dX12_streamMany_138 : decode cX12_streamMany 138 = .ok (.iload 4, 2) := by decide +kernel
theorem dX12_streamMany_140 : decode cX12_streamMany 140 = .ok (.iaload, 1) := by decide +kernel
theorem dX12_streamMany_141 : decode cX12_streamMany 141 = .ok (.istore 5, 2) := by decide +kernel
theorem dX12_streamMany_143 : decode cX12_streamMany 143 = .ok (.aload_n 0, 1) := by decide +kernel
theorem dX12_streamMany_144 : decode cX12_streamMany 144 = .ok (.getfield 82, 3) := by decide +kernel
theorem dX12_streamMany_147 : decode cX12_streamMany 147 = .ok (.iload_n 3, 1) := by decide +kernel
theorem dX12_streamMany_148 : decode cX12_streamMany 148 = .ok (.iload 5, 2) := by decide +kernel
theorem dX12_streamMany_150 : decode cX12_streamMany 150 = .ok (.iastore, 1) := by decide +kernel
theorem dX12_streamMany_151 : decode cX12_streamMany 151 = .ok (.aload_n 0, 1) := by decide +kernel
theorem dX12_streamMany_152 : decode cX12_streamMany 152 = .ok (.getfield 82, 3) := by decide +kernel
theorem dX12_streamMany_155 : decode cX12_streamMany 155 = .ok (.iload 4, 2) := by decide +kernel
theorem dX12_streamMany_157 : decode cX12_streamMany 157 = .ok (.iload 5, 2) := by decide +kernel
theorem dX12_streamMany_159 : decode cX12_streamMany 159 = .ok (.iastore, 1) := by decide +kernel
theorem dX12_streamMany_160 : decode cX12_streamMany 160 = .ok (.iconst 1, 1) := by decide +kernel
theorem dX12_streamMany_161 : decode cX12_streamMany 161 = .ok (.istore_n 2, 1) := by decide +kernel
theorem dX12_streamMany_162 : decode cX12_streamMany 162 = .ok (.iinc 4 1, 3) := by decide +kernel
theorem dX12_streamMany_165 : decode cX12_streamMany 165 = .ok (.goto (-121), 3) := by decide +kernel
theorem dX12_streamMany_168 : decode cX12_streamMany 168 = .ok (.iinc 3 1, 3) := by decide +kernel
theorem dX12_streamMany_171 : decode cX12_streamMany 171 = .ok (.goto (-138), 3) := by decide +kernel
theorem dX12_streamMany_174 : decode cX12_streamMany 174 = .ok (.goto (-149), 3) := by decide +kernel
theorem dX12_streamMany_177 : decode cX12_streamMany 177 = .ok (.iconst 0, 1) := by decide +kernel
theorem dX12_streamMany_178 : decode cX12_streamMany 178 = .ok (.istore_n 3, 1) := by decide +kernel
theorem dX12_streamMany_179 : decode cX12_streamMany 179 = .ok (.iconst 0, 1) := by decide +kernel
theorem dX12_streamMany_180 : decode cX12_streamMany 180 = .ok (.istore 4, 2) := by decide +kernel
theorem dX12_streamMany_182 : decode cX12_streamMany 182 = .ok (.iload 4, 2) := by decide +kernel
theorem dX12_streamMany_184 : decode cX12_streamMany 184 = .ok (.aload_n 0, 1) := by decide +kernel
theorem dX12_streamMany_185 : decode cX12_streamMany 185 = .ok (.invokevirtual 249, 3) := by decide +kernel
theorem dX12_streamMany_188 : decode cX12_streamMany 188 = .ok (.if_icmp .ge 43, 3) := by decide +kernel
theorem dX12_streamMany_191 : decode cX12_streamMany 191 = .ok (.iload_n 3, 1) := by decide +kernel
theorem dX12_streamMany_192 : decode cX12_streamMany 192 = .ok (.aload_n 0, 1) := by decide +kernel
theorem dX12_streamMany_193 : decode cX12_streamMany 193 = .ok (.getfield 60, 3) := by decide +kernel
theorem dX12_streamMany_196 : decode cX12_streamMany 196 = .ok (.iload 4, 2) := by decide +kernel
theorem dX12_streamMany_198 : decode cX12_streamMany 198 = .ok (.iaload, 1) := by decide +kernel
theorem dX12_streamMany_199 : decode cX12_streamMany 199 = .ok (.iload_n 1, 1) := by decide +kernel
theorem dX12_streamMany_200 : decode cX12_streamMany 200 = .ok (.if_icmp .ne 19, 3) := by decide +kernel
theorem dX12_streamMany_203 : decode cX12_streamMany 203 = .ok (.aload_n 0, 1) := by decide +kernel
theorem dX12_streamMany_204 : decode cX12_streamMany 204 = .ok (.getfield 82, 3) := by decide +kernel
theorem dX12_streamMany_207 : decode cX12_streamMany 207 = .ok (.iload 4, 2) := by decide +kernel
theorem dX12_streamMany_209 : decode cX12_streamMany 209 = .ok (.iaload, 1) := by decide +kernel
theorem dX12_streamMany_210 : decode cX12_streamMany 210 = .ok (.iload 4, 2) := by decide +kernel
theorem dX12_streamMany_212 : decode cX12_streamMany 212 = .ok (.if_icmp .ne 7, 3) := by decide +kernel
theorem dX12_streamMany_215 : decode cX12_streamMany 215 = .ok (.iconst 1, 1) := by decide +kernel
theorem dX12_streamMany_216 : decode cX12_streamMany 216 = .ok (.goto 4, 3) := by decide +kernel
theorem dX12_streamMany_219 : decode cX12_streamMany 219 = .ok (.iconst 0, 1) := by decide +kernel
theorem dX12_streamMany_220 : decode cX12_streamMany 220 = .ok (.invokestatic 255, 3) := by decide +kernel
theorem dX12_streamMany_223 : decode cX12_streamMany 223 = .ok (.iadd, 1) := by decide +kernel
theorem dX12_streamMany_224 : decode cX12_streamMany 224 = .ok (.istore_n 3, 1) := by decide +kernel
theorem dX12_streamMany_225 : decode cX12_streamMany 225 = .ok (.iinc 4 1, 3) := by decide +kernel
theorem dX12_streamMany_228 : decode cX12_streamMany 228 = .ok (.goto (-46), 3) := by decide +kernel
theorem dX12_streamMany_231 : decode cX12_streamMany 231 = .ok (.iload_n 3, 1) := by decide +kernel
theorem dX12_streamMany_232 : decode cX12_streamMany 232 = .ok (.ireturn, 1) := by decide +kernel
theorem dX12_streams_0 : decode cX12_streams 0 = .ok (.iload_n 1, 1) := by decide +kernel
theorem dX12_streams_1 : decode cX12_streams 1 = .ok (.iconst 1, 1) := by decide +kernel
theorem dX12_streams_2 : decode cX12_streams 2 = .ok (.if_icmp .lt 15, 3) := by decide +kernel
theorem dX12_streams_5 : decode cX12_streams 5 = .ok (.iload_n 2, 1) := by decide +kernel
theorem dX12_streams_6 : decode cX12_streams 6 = .ok (.i2l, 1) := by decide +kernel
theorem dX12_streams_7 : decode cX12_streams 7 = .ok (.lconst 0, 1) := by decide +kernel
theorem dX12_streams_8 : decode cX12_streams 8 = .ok (.ldc2_w 351, 3) := by decide +kernel
theorem dX12_streams_11 : decode cX12_streams 11 = .ok (.invokestatic 127, 3) := by decide +kernel
theorem dX12_streams_14 : decode cX12_streams 14 = .ok (.ifCond .ne 5, 3) := by decide +kernel
theorem dX12_streams_17 : decode cX12_streams 17 = .ok (.iconst (-1), 1) := by decide +kernel
theorem dX12_streams_18 : decode cX12_streams 18 = .ok (.ireturn, 1) := by decide +kernel
theorem dX12_streams_19 : decode cX12_streams 19 = .ok (.aload_n 0, 1) := by decide +kernel
theorem dX12_streams_20 : decode cX12_streams 20 = .ok (.invokevirtual 320, 3) := by decide +kernel
theorem dX12_streams_23 : decode cX12_streams 23 = .ok (.iload_n 2, 1) := by decide +kernel
theorem dX12_streams_24 : decode cX12_streams 24 = .ok (.ifCond .ne 9, 3) := by decide +kernel
theorem dX12_streams_27 : decode cX12_streams 27 = .ok (.aload_n 0, 1) := by decide +kernel
theorem dX12_streams_28 : decode cX12_streams 28 = .ok (.iload_n 1, 1) := by decide +kernel
theorem dX12_streams_29 : decode cX12_streams 29 = .ok (.invokevirtual 373, 3) := by decide +kernel
theorem dX12_streams_32 : decode cX12_streams 32 = .ok (.ireturn, 1) := by decide +kernel
theorem dX12_streams_33 : decode cX12_streams 33 = .ok (.iconst 0, 1) := by decide +kernel
theorem dX12_streams_34 : decode cX12_streams 34 = .ok (.istore_n 3, 1) := by decide +kernel
theorem dX12_streams_35 : decode cX12_streams 35 = .ok (.iconst 0, 1) := by decide +kernel
theorem dX12_streams_36 : decode cX12_streams 36 = .ok (.istore 4, 2) := by decide +kernel
theorem dX12_streams_38 : decode cX12_streams 38 = .ok (.iload 4, 2) := by decide +kernel
theorem dX12_streams_40 : decode cX12_streams 40 = .ok (.aload_n 0, 1) := by decide +kernel
theorem dX12_streams_41 : decode cX12_streams 41 = .ok (.invokevirtual 249, 3) := by decide +kernel
theorem dX12_streams_44 : decode cX12_streams 44 = .ok (.if_icmp .ge 39, 3) := by decide +kernel
theorem dX12_streams_47 : decode cX12_streams 47 = .ok (.aload_n 0, 1) := by decide +kernel
theorem dX12_streams_48 : decode cX12_streams 48 = .ok (.getfield 60, 3) := by decide +kernel
theorem dX12_streams_51 : decode cX12_streams 51 = .ok (.iload 4, 2) := by decide +kernel
theorem dX12_streams_53 : decode cX12_streams 53 = .ok (.iaload, 1) := by decide +kernel
theorem dX12_streams_54 : decode cX12_streams 54 = .ok (.iload_n 1, 1) := by decide +kernel
theorem dX12_streams_55 : decode cX12_streams 55 = .ok (.if_icmp .ne 22, 3) := by decide +kernel
theorem dX12_streams_58 : decode cX12_streams 58 = .ok (.iload_n 3, 1) := by decide +kernel
theorem dX12_streams_59 : decode cX12_streams 59 = .ok (.iload_n 2, 1) := by decide +kernel
theorem dX12_streams_60 : decode cX12_streams 60 = .ok (.iconst 1, 1) := by decide +kernel
theorem dX12_streams_61 : decode cX12_streams 61 = .ok (.if_icmp .ne 7, 3) := by decide +kernel
theorem dX12_streams_64 : decode cX12_streams 64 = .ok (.iconst 1, 1) := by decide +kernel
theorem dX12_streams_65 : decode cX12_streams 65 = .ok (.goto 10, 3) := by decide +kernel
theorem dX12_streams_68 : decode cX12_streams 68 = .ok (.aload_n 0, 1) := by decide +kernel
theorem dX12_streams_69 : decode cX12_streams 69 = .ok (.iload 4, 2) := by decide +kernel
theorem dX12_streams_71 : decode cX12_streams 71 = .ok (.iconst 2, 1) := by decide +kernel
theorem dX12_streams_72 : decode cX12_streams 72 = .ok (.invokevirtual 252, 3) := by decide +kernel
theorem dX12_streams_75 : decode cX12_streams 75 = .ok (.iadd, 1) := by decide +kernel
theorem dX12_streams_76 : decode cX12_streams 76 = .ok (.istore_n 3, 1) := by decide +kernel
theorem dX12_streams_77 : decode cX12_streams 77 = .ok (.iinc 4 1, 3) := by decide +kernel
theorem dX12_streams_80 : decode cX12_streams 80 = .ok (.goto (-42), 3) := by decide +kernel
theorem dX12_streams_83 : decode cX12_streams 83 = .ok (.iload_n 3, 1) := by decide +kernel
theorem dX12_streams_84 : decode cX12_streams 84 = .ok (.ireturn, 1) := by decide +kernel
theorem dX12_isTorn_0 : decode cX12_isTorn 0 = .ok (.iconst (-1), 1) := by decide +kernel
theorem dX12_isTorn_1 : decode cX12_isTorn 1 = .ok (.istore_n 2, 1) := by decide +kernel
theorem dX12_isTorn_2 : decode cX12_isTorn 2 = .ok (.iconst 0, 1) := by decide +kernel
theorem dX12_isTorn_3 : decode cX12_isTorn 3 = .ok (.istore_n 3, 1) := by decide +kernel
theorem dX12_isTorn_4 : decode cX12_isTorn 4 = .ok (.iload_n 3, 1) := by decide +kernel
theorem dX12_isTorn_5 : decode cX12_isTorn 5 = .ok (.aload_n 0, 1) := by decide +kernel
theorem dX12_isTorn_6 : decode cX12_isTorn 6 = .ok (.invokevirtual 246, 3) := by decide +kernel
theorem dX12_isTorn_9 : decode cX12_isTorn 9 = .ok (.if_icmp .ge 79, 3) := by decide +kernel
theorem dX12_isTorn_12 : decode cX12_isTorn 12 = .ok (.iconst 0, 1) := by decide +kernel
theorem dX12_isTorn_13 : decode cX12_isTorn 13 = .ok (.istore 4, 2) := by decide +kernel
theorem dX12_isTorn_15 : decode cX12_isTorn 15 = .ok (.iload 4, 2) := by decide +kernel
theorem dX12_isTorn_17 : decode cX12_isTorn 17 = .ok (.aload_n 0, 1) := by decide +kernel
theorem dX12_isTorn_18 : decode cX12_isTorn 18 = .ok (.invokevirtual 249, 3) := by decide +kernel
theorem dX12_isTorn_21 : decode cX12_isTorn 21 = .ok (.if_icmp .ge 61, 3) := by decide +kernel
theorem dX12_isTorn_24 : decode cX12_isTorn 24 = .ok (.aload_n 0, 1) := by decide +kernel
theorem dX12_isTorn_25 : decode cX12_isTorn 25 = .ok (.iload 4, 2) := by decide +kernel
theorem dX12_isTorn_27 : decode cX12_isTorn 27 = .ok (.iconst 4, 1) := by decide +kernel
theorem dX12_isTorn_28 : decode cX12_isTorn 28 = .ok (.invokevirtual 252, 3) := by decide +kernel
theorem dX12_isTorn_31 : decode cX12_isTorn 31 = .ok (.iload_n 1, 1) := by decide +kernel
theorem dX12_isTorn_32 : decode cX12_isTorn 32 = .ok (.if_icmp .ne 44, 3) := by decide +kernel
theorem dX12_isTorn_35 : decode cX12_isTorn 35 = .ok (.aload_n 0, 1) := by decide +kernel
theorem dX12_isTorn_36 : decode cX12_isTorn 36 = .ok (.iload 4, 2) := by decide +kernel
theorem dX12_isTorn_38 : decode cX12_isTorn 38 = .ok (.iconst 0, 1) := by decide +kernel
theorem dX12_isTorn_39 : decode cX12_isTorn 39 = .ok (.invokevirtual 252, 3) := by decide +kernel
theorem dX12_isTorn_42 : decode cX12_isTorn 42 = .ok (.aload_n 0, 1) := by decide +kernel
theorem dX12_isTorn_43 : decode cX12_isTorn 43 = .ok (.getfield 30, 3) := by decide +kernel
theorem dX12_isTorn_46 : decode cX12_isTorn 46 = .ok (.iload_n 3, 1) := by decide +kernel
theorem dX12_isTorn_47 : decode cX12_isTorn 47 = .ok (.iaload, 1) := by decide +kernel
theorem dX12_isTorn_48 : decode cX12_isTorn 48 = .ok (.if_icmp .ne 28, 3) := by decide +kernel
theorem dX12_isTorn_51 : decode cX12_isTorn 51 = .ok (.iload_n 2, 1) := by decide +kernel
theorem dX12_isTorn_52 : decode cX12_isTorn 52 = .ok (.iconst (-1), 1) := by decide +kernel
theorem dX12_isTorn_53 : decode cX12_isTorn 53 = .ok (.if_icmp .eq 20, 3) := by decide +kernel
theorem dX12_isTorn_56 : decode cX12_isTorn 56 = .ok (.aload_n 0, 1) := by decide +kernel
theorem dX12_isTorn_57 : decode cX12_isTorn 57 = .ok (.iload_n 2, 1) := by decide +kernel
theorem dX12_isTorn_58 : decode cX12_isTorn 58 = .ok (.iconst 1, 1) := by decide +kernel
theorem dX12_isTorn_59 : decode cX12_isTorn 59 = .ok (.invokevirtual 252, 3) := by decide +kernel
theorem dX12_isTorn_62 : decode cX12_isTorn 62 = .ok (.aload_n 0, 1) := by decide +kernel
theorem dX12_isTorn_63 : decode cX12_isTorn 63 = .ok (.getfield 30, 3) := by decide +kernel
theorem dX12_isTorn_66 : decode cX12_isTorn 66 = .ok (.iload_n 3, 1) := by decide +kernel
theorem dX12_isTorn_67 : decode cX12_isTorn 67 = .ok (.iaload, 1) := by decide +kernel
theorem dX12_isTorn_68 : decode cX12_isTorn 68 = .ok (.if_icmp .eq 5, 3) := by decide +kernel
theorem dX12_isTorn_71 : decode cX12_isTorn 71 = .ok (.iconst 1, 1) := by decide +kernel
theorem dX12_isTorn_72 : decode cX12_isTorn 72 = .ok (.ireturn, 1) := by decide +kernel
theorem dX12_isTorn_73 : decode cX12_isTorn 73 = .ok (.iload 4, 2) := by decide +kernel
theorem dX12_isTorn_75 : decode cX12_isTorn 75 = .ok (.istore_n 2, 1) := by decide +kernel
theorem dX12_isTorn_76 : decode cX12_isTorn 76 = .ok (.iinc 4 1, 3) := by decide +kernel
theorem dX12_isTorn_79 : decode cX12_isTorn 79 = .ok (.goto (-64), 3) := by decide +kernel
theorem dX12_isTorn_82 : decode cX12_isTorn 82 = .ok (.iinc 3 1, 3) := by decide +kernel
theorem dX12_isTorn_85 : decode cX12_isTorn 85 = .ok (.goto (-81), 3) := by decide +kernel
theorem dX12_isTorn_88 : decode cX12_isTorn 88 = .ok (.iconst 0, 1) := by decide +kernel
theorem dX12_isTorn_89 : decode cX12_isTorn 89 = .ok (.ireturn, 1) := by decide +kernel
theorem dX12_river_0 : decode cX12_river 0 = .ok (.aload_n 0, 1) := by decide +kernel
theorem dX12_river_1 : decode cX12_river 1 = .ok (.iload_n 1, 1) := by decide +kernel
theorem dX12_river_2 : decode cX12_river 2 = .ok (.invokevirtual 341, 3) := by decide +kernel
theorem dX12_river_5 : decode cX12_river 5 = .ok (.ifCond .eq 15, 3) := by decide +kernel
theorem dX12_river_8 : decode cX12_river 8 = .ok (.iload_n 2, 1) := by decide +kernel
theorem dX12_river_9 : decode cX12_river 9 = .ok (.i2l, 1) := by decide +kernel
theorem dX12_river_10 : decode cX12_river 10 = .ok (.lconst 0, 1) := by decide +kernel
theorem dX12_river_11 : decode cX12_river 11 = .ok (.ldc2_w 349, 3) := by decide +kernel
theorem dX12_river_14 : decode cX12_river 14 = .ok (.invokestatic 127, 3) := by decide +kernel
theorem dX12_river_17 : decode cX12_river 17 = .ok (.ifCond .ne 5, 3) := by decide +kernel
theorem dX12_river_20 : decode cX12_river 20 = .ok (.iconst (-1), 1) := by decide +kernel
theorem dX12_river_21 : decode cX12_river 21 = .ok (.ireturn, 1) := by decide +kernel
theorem dX12_river_22 : decode cX12_river 22 = .ok (.aload_n 0, 1) := by decide +kernel
theorem dX12_river_23 : decode cX12_river 23 = .ok (.invokevirtual 320, 3) := by decide +kernel
theorem dX12_river_26 : decode cX12_river 26 = .ok (.iconst 0, 1) := by decide +kernel
theorem dX12_river_27 : decode cX12_river 27 = .ok (.istore_n 3, 1) := by decide +kernel
theorem dX12_river_28 : decode cX12_river 28 = .ok (.iconst 0, 1) := by decide +kernel
theorem dX12_river_29 : decode cX12_river 29 = .ok (.istore 4, 2) := by decide +kernel
theorem dX12_river_31 : decode cX12_river 31 = .ok (.iconst (-1), 1) := by decide +kernel
theorem dX12_river_32 : decode cX12_river 32 = .ok (.istore 5, 2) := by decide +kernel
theorem dX12_river_34 : decode cX12_river 34 = .ok (.aload_n 0, 1) := by decide +kernel
theorem dX12_river_35 : decode cX12_river 35 = .ok (.invokevirtual 249, 3) := by decide +kernel
theorem dX12_river_38 : decode cX12_river 38 = .ok (.iconst 1, 1) := by decide +kernel
theorem dX12_river_39 : decode cX12_river 39 = .ok (.isub, 1) := by decide +kernel
theorem dX12_river_40 : decode cX12_river 40 = .ok (.istore 6, 2) := by decide +kernel
theorem dX12_river_42 : decode cX12_river 42 = .ok (.iload 6, 2) := by decide +kernel
theorem dX12_river_44 : decode cX12_river 44 = .ok (.ifCond .lt 39, 3) := by decide +kernel
theorem dX12_river_47 : decode cX12_river 47 = .ok (.aload_n 0, 1) := by decide +kernel
theorem dX12_river_48 : decode cX12_river 48 = .ok (.iload 6, 2) := by decide +kernel
theorem dX12_river_50 : decode cX12_river 50 = .ok (.iconst 4, 1) := by decide +kernel
theorem dX12_river_51 : decode cX12_river 51 = .ok (.invokevirtual 252, 3) := by decide +kernel
theorem dX12_river_54 : decode cX12_river 54 = .ok (.iload_n 1, 1) := by decide +kernel
theorem dX12_river_55 : decode cX12_river 55 = .ok (.if_icmp .ne 22, 3) := by decide +kernel
theorem dX12_river_58 : decode cX12_river 58 = .ok (.iinc 3 1, 3) := by decide +kernel
theorem dX12_river_61 : decode cX12_river 61 = .ok (.iload 4, 2) := by decide +kernel
theorem dX12_river_63 : decode cX12_river 63 = .ok (.aload_n 0, 1) := by decide +kernel
theorem dX12_river_64 : decode cX12_river 64 = .ok (.iload 6, 2) := by decide +kernel
theorem dX12_river_66 : decode cX12_river 66 = .ok (.iconst 2, 1) := by decide +kernel
theorem dX12_river_67 : decode cX12_river 67 = .ok (.invokevirtual 252, 3) := by decide +kernel
theorem dX12_river_70 : decode cX12_river 70 = .ok (.iadd, 1) := by decide +kernel
theorem dX12_river_71 : decode cX12_river 71 = .ok (.istore 4, 2) := by decide +kernel
theorem dX12_river_73 : decode cX12_river 73 = .ok (.iload 6, 2) := by decide +kernel
theorem dX12_river_75 : decode cX12_river 75 = .ok (.istore 5, 2) := by decide +kernel
theorem dX12_river_77 : decode cX12_river 77 = .ok (.iinc 6 (-1), 3) := by decide +kernel
theorem dX12_river_80 : decode cX12_river 80 = .ok (.goto (-38), 3) := by decide +kernel
theorem dX12_river_83 : decode cX12_river 83 = .ok (.iload_n 2, 1) := by decide +kernel
theorem dX12_river_84 : decode cX12_river 84 = .ok (.ifCond .ne 7, 3) := by decide +kernel
theorem dX12_river_87 : decode cX12_river 87 = .ok (.iload_n 3, 1) := by decide +kernel
theorem dX12_river_88 : decode cX12_river 88 = .ok (.goto 31, 3) := by decide +kernel
theorem dX12_river_91 : decode cX12_river 91 = .ok (.iload_n 2, 1) := by decide +kernel
theorem dX12_river_92 : decode cX12_river 92 = .ok (.iconst 1, 1) := by decide +kernel
theorem dX12_river_93 : decode cX12_river 93 = .ok (.if_icmp .ne 8, 3) := by decide +kernel
theorem dX12_river_96 : decode cX12_river 96 = .ok (.iload 4, 2) := by decide +kernel
theorem dX12_river_98 : decode cX12_river 98 = .ok (.goto 21, 3) := by decide +kernel
theorem dX12_river_101 : decode cX12_river 101 = .ok (.iload_n 2, 1) := by decide +kernel
theorem dX12_river_102 : decode cX12_river 102 = .ok (.iconst 2, 1) := by decide +kernel
theorem dX12_river_103 : decode cX12_river 103 = .ok (.if_icmp .ne 14, 3) := by decide +kernel
theorem dX12_river_106 : decode cX12_river 106 = .ok (.aload_n 0, 1) := by decide +kernel
theorem dX12_river_107 : decode cX12_river 107 = .ok (.iload_n 1, 1) := by decide +kernel
theorem dX12_river_108 : decode cX12_river 108 = .ok (.invokevirtual 376, 3) := by decide +kernel
theorem dX12_river_111 : decode cX12_river 111 = .ok (.invokestatic 255, 3) := by decide +kernel
theorem dX12_river_114 : decode cX12_river 114 = .ok (.goto 5, 3) := by decide +kernel
theorem dX12_river_117 : decode cX12_river 117 = .ok (.iload 5, 2) := by decide +kernel
theorem dX12_river_119 : decode cX12_river 119 = .ok (.ireturn, 1) := by decide +kernel
theorem dX12_putsAside_0 : decode cX12_putsAside 0 = .ok (.iconst 0, 1) := by decide +kernel
theorem dX12_putsAside_1 : decode cX12_putsAside 1 = .ok (.istore_n 1, 1) := by decide +kernel
theorem dX12_putsAside_2 : decode cX12_putsAside 2 = .ok (.iload_n 1, 1) := by decide +kernel
theorem dX12_putsAside_3 : decode cX12_putsAside 3 = .ok (.sipush 183, 3) := by decide +kernel
theorem dX12_putsAside_6 : decode cX12_putsAside 6 = .ok (.if_icmp .ge 21, 3) := by decide +kernel
theorem dX12_putsAside_9 : decode cX12_putsAside 9 = .ok (.aload_n 0, 1) := by decide +kernel
theorem dX12_putsAside_10 : decode cX12_putsAside 10 = .ok (.getfield 85, 3) := by decide +kernel
theorem dX12_putsAside_13 : decode cX12_putsAside 13 = .ok (.iload_n 1, 1) := by decide +kernel
theorem dX12_putsAside_14 : decode cX12_putsAside 14 = .ok (.aload_n 0, 1) := by decide +kernel
theorem dX12_putsAside_15 : decode cX12_putsAside 15 = .ok (.getfield 27, 3) := by decide +kernel
theorem dX12_putsAside_18 : decode cX12_putsAside 18 = .ok (.iload_n 1, 1) := by decide +kernel
theorem dX12_putsAside_19 : decode cX12_putsAside 19 = .ok (.iaload, 1) := by decide +kernel
theorem dX12_putsAside_20 : decode cX12_putsAside 20 = .ok (.iastore, 1) := by decide +kernel
theorem dX12_putsAside_21 : decode cX12_putsAside 21 = .ok (.iinc 1 1, 3) := by decide +kernel
theorem dX12_putsAside_24 : decode cX12_putsAside 24 = .ok (.goto (-22), 3) := by decide +kernel
theorem dX12_putsAside_27 : decode cX12_putsAside 27 = .ok (.return_, 1) := by decide +kernel
theorem dX12_takesBack_0 : decode cX12_takesBack 0 = .ok (.iconst 0, 1) := by decide +kernel
theorem dX12_takesBack_1 : decode cX12_takesBack 1 = .ok (.istore_n 1, 1) := by decide +kernel
theorem dX12_takesBack_2 : decode cX12_takesBack 2 = .ok (.iload_n 1, 1) := by decide +kernel
theorem dX12_takesBack_3 : decode cX12_takesBack 3 = .ok (.sipush 183, 3) := by decide +kernel
theorem dX12_takesBack_6 : decode cX12_takesBack 6 = .ok (.if_icmp .ge 21, 3) := by decide +kernel
theorem dX12_takesBack_9 : decode cX12_takesBack 9 = .ok (.aload_n 0, 1) := by decide +kernel
theorem dX12_takesBack_10 : decode cX12_takesBack 10 = .ok (.getfield 27, 3) := by decide +kernel
theorem dX12_takesBack_13 : decode cX12_takesBack 13 = .ok (.iload_n 1, 1) := by decide +kernel
theorem dX12_takesBack_14 : decode cX12_takesBack 14 = .ok (.aload_n 0, 1) := by decide +kernel
theorem dX12_takesBack_15 : decode cX12_takesBack 15 = .ok (.getfield 85, 3) := by decide +kernel
theorem dX12_takesBack_18 : decode cX12_takesBack 18 = .ok (.iload_n 1, 1) := by decide +kernel
theorem dX12_takesBack_19 : decode cX12_takesBack 19 = .ok (.iaload, 1) := by decide +kernel
theorem dX12_takesBack_20 : decode cX12_takesBack 20 = .ok (.iastore, 1) := by decide +kernel
theorem dX12_takesBack_21 : decode cX12_takesBack 21 = .ok (.iinc 1 1, 3) := by decide +kernel
theorem dX12_takesBack_24 : decode cX12_takesBack 24 = .ok (.goto (-22), 3) := by decide +kernel
theorem dX12_takesBack_27 : decode cX12_takesBack 27 = .ok (.aload_n 0, 1) := by decide +kernel
theorem dX12_takesBack_28 : decode cX12_takesBack 28 = .ok (.iconst 0, 1) := by decide +kernel
theorem dX12_takesBack_29 : decode cX12_takesBack 29 = .ok (.putfield 233, 3) := by decide +kernel
theorem dX12_takesBack_32 : decode cX12_takesBack 32 = .ok (.aload_n 0, 1) := by decide +kernel
theorem dX12_takesBack_33 : decode cX12_takesBack 33 = .ok (.invokevirtual 320, 3) := by decide +kernel
theorem dX12_takesBack_36 : decode cX12_takesBack 36 = .ok (.return_, 1) := by decide +kernel
theorem dX12_isOther_0 : decode cX12_isOther 0 = .ok (.aload_n 0, 1) := by decide +kernel
theorem dX12_isOther_1 : decode cX12_isOther 1 = .ok (.iconst 0, 1) := by decide +kernel
theorem dX12_isOther_2 : decode cX12_isOther 2 = .ok (.putfield 233, 3) := by decide +kernel
theorem dX12_isOther_5 : decode cX12_isOther 5 = .ok (.return_, 1) := by decide +kernel
theorem dX12_canTurnIt_0 : decode cX12_canTurnIt 0 = .ok (.aload_n 0, 1) := by decide +kernel
theorem dX12_canTurnIt_1 : decode cX12_canTurnIt 1 = .ok (.iload_n 1, 1) := by decide +kernel
theorem dX12_canTurnIt_2 : decode cX12_canTurnIt 2 = .ok (.invokevirtual 344, 3) := by decide +kernel
theorem dX12_canTurnIt_5 : decode cX12_canTurnIt 5 = .ok (.ifCond .eq 30, 3) := by decide +kernel
theorem dX12_canTurnIt_8 : decode cX12_canTurnIt 8 = .ok (.aload_n 0, 1) := by decide +kernel
theorem dX12_canTurnIt_9 : decode cX12_canTurnIt 9 = .ok (.getfield 27, 3) := by decide +kernel
theorem dX12_canTurnIt_12 : decode cX12_canTurnIt 12 = .ok (.aload_n 0, 1) := by decide +kernel
theorem dX12_canTurnIt_13 : decode cX12_canTurnIt 13 = .ok (.iload_n 1, 1) := by decide +kernel
theorem dX12_canTurnIt_14 : decode cX12_canTurnIt 14 = .ok (.iconst 0, 1) := by decide +kernel
theorem dX12_canTurnIt_15 : decode cX12_canTurnIt 15 = .ok (.invokevirtual 252, 3) := by decide +kernel
theorem dX12_canTurnIt_18 : decode cX12_canTurnIt 18 = .ok (.aload_n 0, 1) := by decide +kernel
theorem dX12_canTurnIt_19 : decode cX12_canTurnIt 19 = .ok (.iload_n 1, 1) := by decide +kernel
theorem dX12_canTurnIt_20 : decode cX12_canTurnIt 20 = .ok (.iconst 1, 1) := by decide +kernel
theorem dX12_canTurnIt_21 : decode cX12_canTurnIt 21 = .ok (.invokevirtual 252, 3) := by decide +kernel
theorem dX12_canTurnIt_24 : decode cX12_canTurnIt 24 = .ok (.iload_n 1, 1) := by decide +kernel
theorem dX12_canTurnIt_25 : decode cX12_canTurnIt 25 = .ok (.invokestatic 204, 3) := by decide +kernel
theorem dX12_canTurnIt_28 : decode cX12_canTurnIt 28 = .ok (.ifCond .ne 7, 3) := by decide +kernel
theorem dX12_canTurnIt_31 : decode cX12_canTurnIt 31 = .ok (.iconst 1, 1) := by decide +kernel
theorem dX12_canTurnIt_32 : decode cX12_canTurnIt 32 = .ok (.goto 4, 3) := by decide +kernel
theorem dX12_canTurnIt_35 : decode cX12_canTurnIt 35 = .ok (.iconst 0, 1) := by decide +kernel
theorem dX12_canTurnIt_36 : decode cX12_canTurnIt 36 = .ok (.ireturn, 1) := by decide +kernel
theorem dX12_turns_0 : decode cX12_turns 0 = .ok (.aload_n 0, 1) := by decide +kernel
theorem dX12_turns_1 : decode cX12_turns 1 = .ok (.iload_n 1, 1) := by decide +kernel
theorem dX12_turns_2 : decode cX12_turns 2 = .ok (.iconst 0, 1) := by decide +kernel
theorem dX12_turns_3 : decode cX12_turns 3 = .ok (.invokevirtual 252, 3) := by decide +kernel
theorem dX12_turns_6 : decode cX12_turns 6 = .ok (.istore_n 2, 1) := by decide +kernel
theorem dX12_turns_7 : decode cX12_turns 7 = .ok (.aload_n 0, 1) := by decide +kernel
theorem dX12_turns_8 : decode cX12_turns 8 = .ok (.getfield 27, 3) := by decide +kernel
theorem dX12_turns_11 : decode cX12_turns 11 = .ok (.iload_n 1, 1) := by decide +kernel
theorem dX12_turns_12 : decode cX12_turns 12 = .ok (.iconst 0, 1) := by decide +kernel
theorem dX12_turns_13 : decode cX12_turns 13 = .ok (.invokestatic 183, 3) := by decide +kernel
theorem dX12_turns_16 : decode cX12_turns 16 = .ok (.aload_n 0, 1) := by decide +kernel
theorem dX12_turns_17 : decode cX12_turns 17 = .ok (.iload_n 1, 1) := by decide +kernel
theorem dX12_turns_18 : decode cX12_turns 18 = .ok (.iconst 1, 1) := by decide +kernel
theorem dX12_turns_19 : decode cX12_turns 19 = .ok (.invokevirtual 252, 3) := by decide +kernel
theorem dX12_turns_22 : decode cX12_turns 22 = .ok (.iastore, 1) := by decide +kernel
theorem dX12_turns_23 : decode cX12_turns 23 = .ok (.aload_n 0, 1) := by decide +kernel
theorem dX12_turns_24 : decode cX12_turns 24 = .ok (.getfield 27, 3) := by decide +kernel
theorem dX12_turns_27 : decode cX12_turns 27 = .ok (.iload_n 1, 1) := by decide +kernel
theorem dX12_turns_28 : decode cX12_turns 28 = .ok (.iconst 1, 1) := by decide +kernel
theorem dX12_turns_29 : decode cX12_turns 29 = .ok (.invokestatic 183, 3) := by decide +kernel
theorem dX12_turns_32 : decode cX12_turns 32 = .ok (.iload_n 2, 1) := by decide +kernel
theorem dX12_turns_33 : decode cX12_turns 33 = .ok (.iastore, 1) := by decide +kernel
theorem dX12_turns_34 : decode cX12_turns 34 = .ok (.aload_n 0, 1) := by decide +kernel
theorem dX12_turns_35 : decode cX12_turns 35 = .ok (.invokevirtual 379, 3) := by decide +kernel
theorem dX12_turns_38 : decode cX12_turns 38 = .ok (.return_, 1) := by decide +kernel
theorem dX12_canTurn_0 : decode cX12_canTurn 0 = .ok (.aload_n 0, 1) := by decide +kernel
theorem dX12_canTurn_1 : decode cX12_canTurn 1 = .ok (.iload_n 1, 1) := by decide +kernel
theorem dX12_canTurn_2 : decode cX12_canTurn 2 = .ok (.invokevirtual 344, 3) := by decide +kernel
theorem dX12_canTurn_5 : decode cX12_canTurn 5 = .ok (.ifCond .eq 14, 3) := by decide +kernel
theorem dX12_canTurn_8 : decode cX12_canTurn 8 = .ok (.aload_n 0, 1) := by decide +kernel
theorem dX12_canTurn_9 : decode cX12_canTurn 9 = .ok (.iload_n 1, 1) := by decide +kernel
theorem dX12_canTurn_10 : decode cX12_canTurn 10 = .ok (.invokevirtual 382, 3) := by decide +kernel
theorem dX12_canTurn_13 : decode cX12_canTurn 13 = .ok (.invokestatic 255, 3) := by decide +kernel
theorem dX12_canTurn_16 : decode cX12_canTurn 16 = .ok (.goto 4, 3) := by decide +kernel
theorem dX12_canTurn_19 : decode cX12_canTurn 19 = .ok (.iconst (-1), 1) := by decide +kernel
theorem dX12_canTurn_20 : decode cX12_canTurn 20 = .ok (.ireturn, 1) := by decide +kernel
theorem dX12_would_0 : decode cX12_would 0 = .ok (.aload_n 0, 1) := by decide +kernel
theorem dX12_would_1 : decode cX12_would 1 = .ok (.iload_n 1, 1) := by decide +kernel
theorem dX12_would_2 : decode cX12_would 2 = .ok (.invokevirtual 382, 3) := by decide +kernel
theorem dX12_would_5 : decode cX12_would 5 = .ok (.ifCond .eq 15, 3) := by decide +kernel
theorem dX12_would_8 : decode cX12_would 8 = .ok (.iload_n 2, 1) := by decide +kernel
theorem dX12_would_9 : decode cX12_would 9 = .ok (.i2l, 1) := by decide +kernel
theorem dX12_would_10 : decode cX12_would 10 = .ok (.lconst 0, 1) := by decide +kernel
theorem dX12_would_11 : decode cX12_would 11 = .ok (.ldc2_w 351, 3) := by decide +kernel
theorem dX12_would_14 : decode cX12_would 14 = .ok (.invokestatic 127, 3) := by decide +kernel
theorem dX12_would_17 : decode cX12_would 17 = .ok (.ifCond .ne 5, 3) := by decide +kernel
theorem dX12_would_20 : decode cX12_would 20 = .ok (.iconst (-1), 1) := by decide +kernel
theorem dX12_would_21 : decode cX12_would 21 = .ok (.ireturn, 1) := by decide +kernel
theorem dX12_would_22 : decode cX12_would 22 = .ok (.aload_n 0, 1) := by decide +kernel
theorem dX12_would_23 : decode cX12_would 23 = .ok (.invokevirtual 320, 3) := by decide +kernel
theorem dX12_would_26 : decode cX12_would 26 = .ok (.iconst 0, 1) := by decide +kernel
theorem dX12_would_27 : decode cX12_would 27 = .ok (.istore_n 3, 1) := by decide +kernel
theorem dX12_would_28 : decode cX12_would 28 = .ok (.iload_n 3, 1) := by decide +kernel
theorem dX12_would_29 : decode cX12_would 29 = .ok (.aload_n 0, 1) := by decide +kernel
theorem dX12_would_30 : decode cX12_would 30 = .ok (.invokevirtual 249, 3) := by decide +kernel
theorem dX12_would_33 : decode cX12_would 33 = .ok (.if_icmp .ge 21, 3) := by decide +kernel
theorem dX12_would_36 : decode cX12_would 36 = .ok (.aload_n 0, 1) := by decide +kernel
theorem dX12_would_37 : decode cX12_would 37 = .ok (.getfield 88, 3) := by decide +kernel
theorem dX12_would_40 : decode cX12_would 40 = .ok (.iload_n 3, 1) := by decide +kernel
theorem dX12_would_41 : decode cX12_would 41 = .ok (.aload_n 0, 1) := by decide +kernel
theorem dX12_would_42 : decode cX12_would 42 = .ok (.getfield 60, 3) := by decide +kernel
theorem dX12_would_45 : decode cX12_would 45 = .ok (.iload_n 3, 1) := by decide +kernel
theorem dX12_would_46 : decode cX12_would 46 = .ok (.iaload, 1) := by decide +kernel
theorem dX12_would_47 : decode cX12_would 47 = .ok (.iastore, 1) := by decide +kernel
theorem dX12_would_48 : decode cX12_would 48 = .ok (.iinc 3 1, 3) := by decide +kernel
theorem dX12_would_51 : decode cX12_would 51 = .ok (.goto (-23), 3) := by decide +kernel
theorem dX12_would_54 : decode cX12_would 54 = .ok (.aload_n 0, 1) := by decide +kernel
theorem dX12_would_55 : decode cX12_would 55 = .ok (.invokevirtual 385, 3) := by decide +kernel
theorem dX12_would_58 : decode cX12_would 58 = .ok (.aload_n 0, 1) := by decide +kernel
theorem dX12_would_59 : decode cX12_would 59 = .ok (.iload_n 1, 1) := by decide +kernel
theorem dX12_would_60 : decode cX12_would 60 = .ok (.invokevirtual 388, 3) := by decide +kernel
theorem dX12_would_63 : decode cX12_would 63 = .ok (.aload_n 0, 1) := by decide +kernel
theorem dX12_would_64 : decode cX12_would 64 = .ok (.invokevirtual 320, 3) := by decide +kernel
theorem dX12_would_67 : decode cX12_would 67 = .ok (.iconst 0, 1) := by decide +kernel
theorem dX12_would_68 : decode cX12_would 68 = .ok (.istore_n 3, 1) := by decide +kernel
theorem dX12_would_69 : decode cX12_would 69 = .ok (.iconst 0, 1) := by decide +kernel
theorem dX12_would_70 : decode cX12_would 70 = .ok (.istore 4, 2) := by decide +kernel
theorem dX12_would_72 : decode cX12_would 72 = .ok (.iload 4, 2) := by decide +kernel
theorem dX12_would_74 : decode cX12_would 74 = .ok (.aload_n 0, 1) := by decide +kernel
theorem dX12_would_75 : decode cX12_would 75 = .ok (.invokevirtual 249, 3) := by decide +kernel
theorem dX12_would_78 : decode cX12_would 78 = .ok (.if_icmp .ge 37, 3) := by decide +kernel
theorem dX12_would_81 : decode cX12_would 81 = .ok (.iload_n 3, 1) := by decide +kernel
theorem dX12_would_82 : decode cX12_would 82 = .ok (.aload_n 0, 1) := by decide +kernel
theorem dX12_would_83 : decode cX12_would 83 = .ok (.getfield 60, 3) := by decide +kernel
theorem dX12_would_86 : decode cX12_would 86 = .ok (.iload 4, 2) := by decide +kernel
theorem dX12_would_88 : decode cX12_would 88 = .ok (.iaload, 1) := by decide +kernel
theorem dX12_would_89 : decode cX12_would 89 = .ok (.aload_n 0, 1) := by decide +kernel
theorem dX12_would_90 : decode cX12_would 90 = .ok (.getfield 88, 3) := by decide +kernel
theorem dX12_would_93 : decode cX12_would 93 = .ok (.iload 4, 2) := by decide +kernel
theorem dX12_would_95 : decode cX12_would 95 = .ok (.iaload, 1) := by decide +kernel
theorem dX12_would_96 : decode cX12_would 96 = .ok (.if_icmp .eq 7, 3) := by decide +kernel
theorem dX12_would_99 : decode cX12_would 99 = .ok (.iconst 1, 1) := by decide +kernel
theorem dX12_would_100 : decode cX12_would 100 = .ok (.goto 4, 3) := by decide +kernel
theorem dX12_would_103 : decode cX12_would 103 = .ok (.iconst 0, 1) := by decide +kernel
theorem dX12_would_104 : decode cX12_would 104 = .ok (.invokestatic 255, 3) := by decide +kernel
theorem dX12_would_107 : decode cX12_would 107 = .ok (.iadd, 1) := by decide +kernel
theorem dX12_would_108 : decode cX12_would 108 = .ok (.istore_n 3, 1) := by decide +kernel
theorem dX12_would_109 : decode cX12_would 109 = .ok (.iinc 4 1, 3) := by decide +kernel
theorem dX12_would_112 : decode cX12_would 112 = .ok (.goto (-40), 3) := by decide +kernel
theorem dX12_would_115 : decode cX12_would 115 = .ok (.iload_n 2, 1) := by decide +kernel
theorem dX12_would_116 : decode cX12_would 116 = .ok (.ifCond .ne 10, 3) := by decide +kernel
theorem dX12_would_119 : decode cX12_would 119 = .ok (.aload_n 0, 1) := by decide +kernel
theorem dX12_would_120 : decode cX12_would 120 = .ok (.invokevirtual 335, 3) := by decide +kernel
theorem dX12_would_123 : decode cX12_would 123 = .ok (.goto 16, 3) := by decide +kernel
theorem dX12_would_126 : decode cX12_would 126 = .ok (.iload_n 2, 1) := by decide +kernel
theorem dX12_would_127 : decode cX12_would 127 = .ok (.iconst 1, 1) := by decide +kernel
theorem dX12_would_128 : decode cX12_would 128 = .ok (.if_icmp .ne 10, 3) := by decide +kernel
theorem dX12_would_131 : decode cX12_would 131 = .ok (.aload_n 0, 1) := by decide +kernel
theorem dX12_would_132 : decode cX12_would 132 = .ok (.invokevirtual 326, 3) := by decide +kernel
theorem dX12_would_135 : decode cX12_would 135 = .ok (.goto 4, 3) := by decide +kernel
theorem dX12_would_138 : decode cX12_would 138 = .ok (.iload_n 3, 1) := by decide +kernel
theorem dX12_would_139 : decode cX12_would 139 = .ok (.istore 4, 2) := by decide +kernel
theorem dX12_would_141 : decode cX12_would 141 = .ok (.aload_n 0, 1) := by decide +kernel
theorem dX12_would_142 : decode cX12_would 142 = .ok (.invokevirtual 391, 3) := by decide +kernel
theorem dX12_would_145 : decode cX12_would 145 = .ok (.iload 4, 2) := by decide +kernel
theorem dX12_would_147 : decode cX12_would 147 = .ok (.ireturn, 1) := by decide +kernel
theorem dX12_removes_0 : decode cX12_removes 0 = .ok (.iload_n 1, 1) := by decide +kernel
theorem dX12_removes_1 : decode cX12_removes 1 = .ok (.iconst 0, 1) := by decide +kernel
theorem dX12_removes_2 : decode cX12_removes 2 = .ok (.invokestatic 183, 3) := by decide +kernel
theorem dX12_removes_5 : decode cX12_removes 5 = .ok (.istore_n 2, 1) := by decide +kernel
theorem dX12_removes_6 : decode cX12_removes 6 = .ok (.iload_n 2, 1) := by decide +kernel
theorem dX12_removes_7 : decode cX12_removes 7 = .ok (.aload_n 0, 1) := by decide +kernel
theorem dX12_removes_8 : decode cX12_removes 8 = .ok (.invokevirtual 249, 3) := by decide +kernel
theorem dX12_removes_11 : decode cX12_removes 11 = .ok (.iconst 1, 1) := by decide +kernel
theorem dX12_removes_12 : decode cX12_removes 12 = .ok (.isub, 1) := by decide +kernel
theorem dX12_removes_13 : decode cX12_removes 13 = .ok (.iconst 0, 1) := by decide +kernel
theorem dX12_removes_14 : decode cX12_removes 14 = .ok (.invokestatic 183, 3) := by decide +kernel
theorem dX12_removes_17 : decode cX12_removes 17 = .ok (.if_icmp .ge 23, 3) := by decide +kernel
theorem dX12_removes_20 : decode cX12_removes 20 = .ok (.aload_n 0, 1) := by decide +kernel
theorem dX12_removes_21 : decode cX12_removes 21 = .ok (.getfield 27, 3) := by decide +kernel
theorem dX12_removes_24 : decode cX12_removes 24 = .ok (.iload_n 2, 1) := by decide +kernel
theorem dX12_removes_25 : decode cX12_removes 25 = .ok (.aload_n 0, 1) := by decide +kernel
theorem dX12_removes_26 : decode cX12_removes 26 = .ok (.getfield 27, 3) := by decide +kernel
theorem dX12_removes_29 : decode cX12_removes 29 = .ok (.iload_n 2, 1) := by decide +kernel
theorem dX12_removes_30 : decode cX12_removes 30 = .ok (.iconst 5, 1) := by decide +kernel
theorem dX12_removes_31 : decode cX12_removes 31 = .ok (.iadd, 1) := by decide +kernel
theorem dX12_removes_32 : decode cX12_removes 32 = .ok (.iaload, 1) := by decide +kernel
theorem dX12_removes_33 : decode cX12_removes 33 = .ok (.iastore, 1) := by decide +kernel
theorem dX12_removes_34 : decode cX12_removes 34 = .ok (.iinc 2 1, 3) := by decide +kernel
theorem dX12_removes_37 : decode cX12_removes 37 = .ok (.goto (-31), 3) := by decide +kernel
theorem dX12_removes_40 : decode cX12_removes 40 = .ok (.aload_n 0, 1) := by decide +kernel
theorem dX12_removes_41 : decode cX12_removes 41 = .ok (.getfield 27, 3) := by decide +kernel
theorem dX12_removes_44 : decode cX12_removes 44 = .ok (.iconst 1, 1) := by decide +kernel
theorem dX12_removes_45 : decode cX12_removes 45 = .ok (.dup2, 1) := by decide +kernel
theorem dX12_removes_46 : decode cX12_removes 46 = .ok (.iaload, 1) := by decide +kernel
theorem dX12_removes_47 : decode cX12_removes 47 = .ok (.iconst 1, 1) := by decide +kernel
theorem dX12_removes_48 : decode cX12_removes 48 = .ok (.isub, 1) := by decide +kernel
theorem dX12_removes_49 : decode cX12_removes 49 = .ok (.iastore, 1) := by decide +kernel
theorem dX12_removes_50 : decode cX12_removes 50 = .ok (.aload_n 0, 1) := by decide +kernel
theorem dX12_removes_51 : decode cX12_removes 51 = .ok (.invokevirtual 379, 3) := by decide +kernel
theorem dX12_removes_54 : decode cX12_removes 54 = .ok (.return_, 1) := by decide +kernel
theorem dX12_lossOf_0 : decode cX12_lossOf 0 = .ok (.iconst 0, 1) := by decide +kernel
theorem dX12_lossOf_1 : decode cX12_lossOf 1 = .ok (.istore_n 2, 1) := by decide +kernel
theorem dX12_lossOf_2 : decode cX12_lossOf 2 = .ok (.aload_n 0, 1) := by decide +kernel
theorem dX12_lossOf_3 : decode cX12_lossOf 3 = .ok (.invokevirtual 320, 3) := by decide +kernel
theorem dX12_lossOf_6 : decode cX12_lossOf 6 = .ok (.iconst 0, 1) := by decide +kernel
theorem dX12_lossOf_7 : decode cX12_lossOf 7 = .ok (.istore_n 3, 1) := by decide +kernel
theorem dX12_lossOf_8 : decode cX12_lossOf 8 = .ok (.iload_n 3, 1) := by decide +kernel
theorem dX12_lossOf_9 : decode cX12_lossOf 9 = .ok (.aload_n 0, 1) := by decide +kernel
theorem dX12_lossOf_10 : decode cX12_lossOf 10 = .ok (.invokevirtual 246, 3) := by decide +kernel
theorem dX12_lossOf_13 : decode cX12_lossOf 13 = .ok (.if_icmp .ge 23, 3) := by decide +kernel
theorem dX12_lossOf_16 : decode cX12_lossOf 16 = .ok (.aload_n 0, 1) := by decide +kernel
theorem dX12_lossOf_17 : decode cX12_lossOf 17 = .ok (.iload_n 3, 1) := by decide +kernel
theorem dX12_lossOf_18 : decode cX12_lossOf 18 = .ok (.invokevirtual 317, 3) := by decide +kernel
theorem dX12_lossOf_21 : decode cX12_lossOf 21 = .ok (.ifCond .eq 9, 3) := by decide +kernel
theorem dX12_lossOf_24 : decode cX12_lossOf 24 = .ok (.iload_n 2, 1) := by decide +kernel
theorem dX12_lossOf_25 : decode cX12_lossOf 25 = .ok (.iconst 1, 1) := by decide +kernel
theorem dX12_lossOf_26 : decode cX12_lossOf 26 = .ok (.iload_n 3, 1) := by decide +kernel
theorem dX12_lossOf_27 : decode cX12_lossOf 27 = .ok (.ishl, 1) := by decide +kernel
theorem dX12_lossOf_28 : decode cX12_lossOf 28 = .ok (.ior, 1) := by decide +kernel
theorem dX12_lossOf_29 : decode cX12_lossOf 29 = .ok (.istore_n 2, 1) := by decide +kernel
theorem dX12_lossOf_30 : decode cX12_lossOf 30 = .ok (.iinc 3 1, 3) := by decide +kernel
theorem dX12_lossOf_33 : decode cX12_lossOf 33 = .ok (.goto (-25), 3) := by decide +kernel
theorem dX12_lossOf_36 : decode cX12_lossOf 36 = .ok (.aload_n 0, 1) := by decide +kernel
theorem dX12_lossOf_37 : decode cX12_lossOf 37 = .ok (.invokevirtual 332, 3) := by decide +kernel
theorem dX12_lossOf_40 : decode cX12_lossOf 40 = .ok (.istore_n 3, 1) := by decide +kernel
theorem dX12_lossOf_41 : decode cX12_lossOf 41 = .ok (.aload_n 0, 1) := by decide +kernel
theorem dX12_lossOf_42 : decode cX12_lossOf 42 = .ok (.invokevirtual 385, 3) := by decide +kernel
theorem dX12_lossOf_45 : decode cX12_lossOf 45 = .ok (.aload_n 0, 1) := by decide +kernel
theorem dX12_lossOf_46 : decode cX12_lossOf 46 = .ok (.iload_n 1, 1) := by decide +kernel
theorem dX12_lossOf_47 : decode cX12_lossOf 47 = .ok (.invokevirtual 394, 3) := by decide +kernel
theorem dX12_lossOf_50 : decode cX12_lossOf 50 = .ok (.aload_n 0, 1) := by decide +kernel
theorem dX12_lossOf_51 : decode cX12_lossOf 51 = .ok (.invokevirtual 320, 3) := by decide +kernel
theorem dX12_lossOf_54 : decode cX12_lossOf 54 = .ok (.iconst 0, 1) := by decide +kernel
theorem dX12_lossOf_55 : decode cX12_lossOf 55 = .ok (.istore 4, 2) := by decide +kernel
theorem dX12_lossOf_57 : decode cX12_lossOf 57 = .ok (.iload 4, 2) := by decide +kernel
theorem dX12_lossOf_59 : decode cX12_lossOf 59 = .ok (.aload_n 0, 1) := by decide +kernel
theorem dX12_lossOf_60 : decode cX12_lossOf 60 = .ok (.invokevirtual 246, 3) := by decide +kernel
theorem dX12_lossOf_63 : decode cX12_lossOf 63 = .ok (.if_icmp .ge 28, 3) := by decide +kernel
theorem dX12_lossOf_66 : decode cX12_lossOf 66 = .ok (.iload_n 2, 1) := by decide +kernel
theorem dX12_lossOf_67 : decode cX12_lossOf 67 = .ok (.iload 4, 2) := by decide +kernel
theorem dX12_lossOf_69 : decode cX12_lossOf 69 = .ok (.invokestatic 187, 3) := by decide +kernel
theorem dX12_lossOf_72 : decode cX12_lossOf 72 = .ok (.ifCond .eq 13, 3) := by decide +kernel
theorem dX12_lossOf_75 : decode cX12_lossOf 75 = .ok (.iload_n 3, 1) := by decide +kernel
theorem dX12_lossOf_76 : decode cX12_lossOf 76 = .ok (.aload_n 0, 1) := by decide +kernel
theorem dX12_lossOf_77 : decode cX12_lossOf 77 = .ok (.getfield 45, 3) := by decide +kernel
theorem dX12_lossOf_80 : decode cX12_lossOf 80 = .ok (.iload 4, 2) := by decide +kernel
theorem dX12_lossOf_82 : decode cX12_lossOf 82 = .ok (.iaload, 1) := by decide +kernel
theorem dX12_lossOf_83 : decode cX12_lossOf 83 = .ok (.isub, 1) := by decide +kernel
theorem dX12_lossOf_84 : decode cX12_lossOf 84 = .ok (.istore_n 3, 1) := by decide +kernel
theorem dX12_lossOf_85 : decode cX12_lossOf 85 = .ok (.iinc 4 1, 3) := by decide +kernel
theorem dX12_lossOf_88 : decode cX12_lossOf 88 = .ok (.goto (-31), 3) := by decide +kernel
theorem dX12_lossOf_91 : decode cX12_lossOf 91 = .ok (.aload_n 0, 1) := by decide +kernel
theorem dX12_lossOf_92 : decode cX12_lossOf 92 = .ok (.invokevirtual 391, 3) := by decide +kernel
theorem dX12_lossOf_95 : decode cX12_lossOf 95 = .ok (.iload_n 3, 1) := by decide +kernel
theorem dX12_lossOf_96 : decode cX12_lossOf 96 = .ok (.ireturn, 1) := by decide +kernel
theorem dX12_loss_0 : decode cX12_loss 0 = .ok (.aload_n 0, 1) := by decide +kernel
theorem dX12_loss_1 : decode cX12_loss 1 = .ok (.iload_n 1, 1) := by decide +kernel
theorem dX12_loss_2 : decode cX12_loss 2 = .ok (.invokevirtual 344, 3) := by decide +kernel
theorem dX12_loss_5 : decode cX12_loss 5 = .ok (.ifCond .eq 11, 3) := by decide +kernel
theorem dX12_loss_8 : decode cX12_loss 8 = .ok (.aload_n 0, 1) := by decide +kernel
theorem dX12_loss_9 : decode cX12_loss 9 = .ok (.iload_n 1, 1) := by decide +kernel
theorem dX12_loss_10 : decode cX12_loss 10 = .ok (.invokevirtual 397, 3) := by decide +kernel
theorem dX12_loss_13 : decode cX12_loss 13 = .ok (.goto 4, 3) := by decide +kernel
theorem dX12_loss_16 : decode cX12_loss 16 = .ok (.iconst (-1), 1) := by decide +kernel
theorem dX12_loss_17 : decode cX12_loss 17 = .ok (.ireturn, 1) := by decide +kernel
theorem dX12_starves_0 : decode cX12_starves 0 = .ok (.aload_n 0, 1) := by decide +kernel
theorem dX12_starves_1 : decode cX12_starves 1 = .ok (.invokevirtual 249, 3) := by decide +kernel
theorem dX12_starves_4 : decode cX12_starves 4 = .ok (.ifCond .eq 13, 3) := by decide +kernel
theorem dX12_starves_7 : decode cX12_starves 7 = .ok (.iload_n 1, 1) := by decide +kernel
theorem dX12_starves_8 : decode cX12_starves 8 = .ok (.i2l, 1) := by decide +kernel
theorem dX12_starves_9 : decode cX12_starves 9 = .ok (.lconst 0, 1) := by decide +kernel
theorem dX12_starves_10 : decode cX12_starves 10 = .ok (.lconst 1, 1) := by decide +kernel
theorem dX12_starves_11 : decode cX12_starves 11 = .ok (.invokestatic 127, 3) := by decide +kernel
theorem dX12_starves_14 : decode cX12_starves 14 = .ok (.ifCond .ne 5, 3) := by decide +kernel
theorem dX12_starves_17 : decode cX12_starves 17 = .ok (.iconst (-1), 1) := by decide +kernel
theorem dX12_starves_18 : decode cX12_starves 18 = .ok (.ireturn, 1) := by decide +kernel
theorem dX12_starves_19 : decode cX12_starves 19 = .ok (.iconst 0, 1) := by decide +kernel
theorem dX12_starves_20 : decode cX12_starves 20 = .ok (.istore_n 2, 1) := by decide +kernel
theorem dX12_starves_21 : decode cX12_starves 21 = .ok (.aload_n 0, 1) := by decide +kernel
theorem dX12_starves_22 : decode cX12_starves 22 = .ok (.iconst 0, 1) := by decide +kernel
theorem dX12_starves_23 : decode cX12_starves 23 = .ok (.invokevirtual 397, 3) := by decide +kernel
theorem dX12_starves_26 : decode cX12_starves 26 = .ok (.istore_n 3, 1) := by decide +kernel
theorem dX12_starves_27 : decode cX12_starves 27 = .ok (.iconst 1, 1) := by decide +kernel
theorem dX12_starves_28 : decode cX12_starves 28 = .ok (.istore 4, 2) := by decide +kernel
theorem dX12_starves_30 : decode cX12_starves 30 = .ok (.iload 4, 2) := by decide +kernel
theorem dX12_starves_32 : decode cX12_starves 32 = .ok (.aload_n 0, 1) := by decide +kernel
theorem dX12_starves_33 : decode cX12_starves 33 = .ok (.invokevirtual 249, 3) := by decide +kernel
theorem dX12_starves_36 : decode cX12_starves 36 = .ok (.if_icmp .ge 32, 3) := by decide +kernel
theorem dX12_starves_39 : decode cX12_starves 39 = .ok (.aload_n 0, 1) := by decide +kernel
theorem dX12_starves_40 : decode cX12_starves 40 = .ok (.iload 4, 2) := by decide +kernel
theorem dX12_starves_42 : decode cX12_starves 42 = .ok (.invokevirtual 397, 3) := by decide +kernel
theorem dX12_starves_45 : decode cX12_starves 45 = .ok (.istore 5, 2) := by decide +kernel
theorem dX12_starves_47 : decode cX12_starves 47 = .ok (.iload 5, 2) := by decide +kernel
theorem dX12_starves_49 : decode cX12_starves 49 = .ok (.iload_n 3, 1) := by decide +kernel
theorem dX12_starves_50 : decode cX12_starves 50 = .ok (.if_icmp .gt 6, 3) := by decide +kernel
theorem dX12_starves_53 : decode cX12_starves 53 = .ok (.goto 9, 3) := by decide +kernel
theorem dX12_starves_56 : decode cX12_starves 56 = .ok (.iload 4, 2) := by decide +kernel
theorem dX12_starves_58 : decode cX12_starves 58 = .ok (.istore_n 2, 1) := by decide +kernel
theorem dX12_starves_59 : decode cX12_starves 59 = .ok (.iload 5, 2) := by decide +kernel
theorem dX12_starves_61 : decode cX12_starves 61 = .ok (.istore_n 3, 1) := by decide +kernel
theorem dX12_starves_62 : decode cX12_starves 62 = .ok (.iinc 4 1, 3) := by decide +kernel
theorem dX12_starves_65 : decode cX12_starves 65 = .ok (.goto (-35), 3) := by decide +kernel
theorem dX12_starves_68 : decode cX12_starves 68 = .ok (.iload_n 1, 1) := by decide +kernel
theorem dX12_starves_69 : decode cX12_starves 69 = .ok (.ifCond .ne 7, 3) := by decide +kernel
theorem dX12_starves_72 : decode cX12_starves 72 = .ok (.iload_n 2, 1) := by decide +kernel
theorem dX12_starves_73 : decode cX12_starves 73 = .ok (.goto 4, 3) := by decide +kernel
theorem dX12_starves_76 : decode cX12_starves 76 = .ok (.iload_n 3, 1) := by decide +kernel
theorem dX12_starves_77 : decode cX12_starves 77 = .ok (.ireturn, 1) := by decide +kernel
theorem dX12_findsWay_0 : decode cX12_findsWay 0 = .ok (.aload_n 0, 1) := by decide +kernel
theorem dX12_findsWay_1 : decode cX12_findsWay 1 = .ok (.invokevirtual 268, 3) := by decide +kernel
theorem dX12_findsWay_4 : decode cX12_findsWay 4 = .ok (.istore_n 2, 1) := by decide +kernel
theorem dX12_findsWay_5 : decode cX12_findsWay 5 = .ok (.iconst 0, 1) := by decide +kernel
theorem dX12_findsWay_6 : decode cX12_findsWay 6 = .ok (.istore_n 3, 1) := by decide +kernel
theorem dX12_findsWay_7 : decode cX12_findsWay 7 = .ok (.iload_n 3, 1) := by decide +kernel
theorem dX12_findsWay_8 : decode cX12_findsWay 8 = .ok (.aload_n 0, 1) := by decide +kernel
theorem dX12_findsWay_9 : decode cX12_findsWay 9 = .ok (.invokevirtual 246, 3) := by decide +kernel
theorem dX12_findsWay_12 : decode cX12_findsWay 12 = .ok (.if_icmp .ge 16, 3) := by decide +kernel
theorem dX12_findsWay_15 : decode cX12_findsWay 15 = .ok (.aload_n 0, 1) := by decide +kernel
theorem dX12_findsWay_16 : decode cX12_findsWay 16 = .ok (.getfield 95, 3) := by decide +kernel
theorem dX12_findsWay_19 : decode cX12_findsWay 19 = .ok (.iload_n 3, 1) := by decide +kernel
theorem dX12_findsWay_20 : decode cX12_findsWay 20 = .ok (.iconst (-1), 1) := by decide +kernel
theorem dX12_findsWay_21 : decode cX12_findsWay 21 = .ok (.iastore, 1) := by decide +kernel
theorem dX12_findsWay_22 : decode cX12_findsWay 22 = .ok (.iinc 3 1, 3) := by decide +kernel
theorem dX12_findsWay_25 : decode cX12_findsWay 25 = .ok (.goto (-18), 3) := by decide +kernel
theorem dX12_findsWay_28 : decode cX12_findsWay 28 = .ok (.iconst 0, 1) := by decide +kernel
theorem dX12_findsWay_29 : decode cX12_findsWay 29 = .ok (.istore_n 3, 1) := by decide +kernel
theorem dX12_findsWay_30 : decode cX12_findsWay 30 = .ok (.iload_n 3, 1) := by decide +kernel
theorem dX12_findsWay_31 : decode cX12_findsWay 31 = .ok (.iload_n 2, 1) := by decide +kernel
theorem dX12_findsWay_32 : decode cX12_findsWay 32 = .ok (.if_icmp .eq 117, 3) := by decide +kernel
theorem dX12_findsWay_35 : decode cX12_findsWay 35 = .ok (.iload_n 2, 1) := by decide +kernel
theorem dX12_findsWay_36 : decode cX12_findsWay 36 = .ok (.iload_n 1, 1) := by decide +kernel
theorem dX12_findsWay_37 : decode cX12_findsWay 37 = .ok (.invokestatic 187, 3) := by decide +kernel
theorem dX12_findsWay_40 : decode cX12_findsWay 40 = .ok (.ifCond .ne 109, 3) := by decide +kernel
theorem dX12_findsWay_43 : decode cX12_findsWay 43 = .ok (.iload_n 2, 1) := by decide +kernel
theorem dX12_findsWay_44 : decode cX12_findsWay 44 = .ok (.istore_n 3, 1) := by decide +kernel
theorem dX12_findsWay_45 : decode cX12_findsWay 45 = .ok (.iconst 0, 1) := by decide +kernel
theorem dX12_findsWay_46 : decode cX12_findsWay 46 = .ok (.istore 4, 2) := by decide +kernel
theorem dX12_findsWay_48 : decode cX12_findsWay 48 = .ok (.iload 4, 2) := by decide +kernel
theorem dX12_findsWay_50 : decode cX12_findsWay 50 = .ok (.aload_n 0, 1) := by decide +kernel
theorem dX12_findsWay_51 : decode cX12_findsWay 51 = .ok (.invokevirtual 249, 3) := by decide +kernel
theorem dX12_findsWay_54 : decode cX12_findsWay 54 = .ok (.if_icmp .ge 92, 3) := by decide +kernel
theorem dX12_findsWay_57 : decode cX12_findsWay 57 = .ok (.aload_n 0, 1) := by decide +kernel
theorem dX12_findsWay_58 : decode cX12_findsWay 58 = .ok (.iload 4, 2) := by decide +kernel
theorem dX12_findsWay_60 : decode cX12_findsWay 60 = .ok (.aload_n 0, 1) := by decide +kernel
theorem dX12_findsWay_61 : decode cX12_findsWay 61 = .ok (.getfield 91, 3) := by decide +kernel
theorem dX12_findsWay_64 : decode cX12_findsWay 64 = .ok (.iload 4, 2) := by decide +kernel
theorem dX12_findsWay_66 : decode cX12_findsWay 66 = .ok (.baload, 1) := by decide +kernel
theorem dX12_findsWay_67 : decode cX12_findsWay 67 = .ok (.ifCond .eq 7, 3) := by decide +kernel
theorem dX12_findsWay_70 : decode cX12_findsWay 70 = .ok (.iconst 1, 1) := by decide +kernel
theorem dX12_findsWay_71 : decode cX12_findsWay 71 = .ok (.goto 4, 3) := by decide +kernel
theorem dX12_findsWay_74 : decode cX12_findsWay 74 = .ok (.iconst 0, 1) := by decide +kernel
theorem dX12_findsWay_75 : decode cX12_findsWay 75 = .ok (.invokevirtual 252, 3) := by decide +kernel
theorem dX12_findsWay_78 : decode cX12_findsWay 78 = .ok (.istore 5, 2) := by decide +kernel
theorem dX12_findsWay_80 : decode cX12_findsWay 80 = .ok (.aload_n 0, 1) := by decide +kernel
theorem dX12_findsWay_81 : decode cX12_findsWay 81 = .ok (.iload 4, 2) := by decide +kernel
theorem dX12_findsWay_83 : decode cX12_findsWay 83 = .ok (.aload_n 0, 1) := by decide +kernel
theorem dX12_findsWay_84 : decode cX12_findsWay 84 = .ok (.getfield 91, 3) := by decide +kernel
theorem dX12_findsWay_87 : decode cX12_findsWay 87 = .ok (.iload 4, 2) := by decide +kernel
theorem dX12_findsWay_89 : decode cX12_findsWay 89 = .ok (.baload, 1) := by decide +kernel
theorem dX12_findsWay_90 : decode cX12_findsWay 90 = .ok (.ifCond .eq 7, 3) := by decide +kernel
theorem dX12_findsWay_93 : decode cX12_findsWay 93 = .ok (.iconst 0, 1) := by decide +kernel
theorem dX12_findsWay_94 : decode cX12_findsWay 94 = .ok (.goto 4, 3) := by decide +kernel
theorem dX12_findsWay_97 : decode cX12_findsWay 97 = .ok (.iconst 1, 1) := by decide +kernel
theorem dX12_findsWay_98 : decode cX12_findsWay 98 = .ok (.invokevirtual 252, 3) := by decide +kernel
theorem dX12_findsWay_101 : decode cX12_findsWay 101 = .ok (.istore 6, 2) := by decide +kernel
theorem dX12_findsWay_103 : decode cX12_findsWay 103 = .ok (.iload_n 2, 1) := by decide +kernel
theorem dX12_findsWay_104 : decode cX12_findsWay 104 = .ok (.iload 5, 2) := by decide +kernel
theorem dX12_findsWay_106 : decode cX12_findsWay 106 = .ok (.invokestatic 187, 3) := by decide +kernel
theorem dX12_findsWay_109 : decode cX12_findsWay 109 = .ok (.ifCond .eq 31, 3) := by decide +kernel
theorem dX12_findsWay_112 : decode cX12_findsWay 112 = .ok (.iload_n 2, 1) := by decide +kernel
theorem dX12_findsWay_113 : decode cX12_findsWay 113 = .ok (.iload 6, 2) := by decide +kernel
theorem dX12_findsWay_115 : decode cX12_findsWay 115 = .ok (.invokestatic 187, 3) := by decide +kernel
theorem dX12_findsWay_118 : decode cX12_findsWay 118 = .ok (.ifCond .eq 6, 3) := by decide +kernel
theorem dX12_findsWay_121 : decode cX12_findsWay 121 = .ok (.goto 19, 3) := by decide +kernel
theorem dX12_findsWay_124 : decode cX12_findsWay 124 = .ok (.iload_n 2, 1) := by decide +kernel
theorem dX12_findsWay_125 : decode cX12_findsWay 125 = .ok (.iconst 1, 1) := by decide +kernel
theorem dX12_findsWay_126 : decode cX12_findsWay 126 = .ok (.iload 6, 2) := by decide +kernel
theorem dX12_findsWay_128 : decode cX12_findsWay 128 = .ok (.ishl, 1) := by decide +kernel
theorem dX12_findsWay_129 : decode cX12_findsWay 129 = .ok (.ior, 1) := by decide +kernel
theorem dX12_findsWay_130 : decode cX12_findsWay 130 = .ok (.istore_n 2, 1) := by decide +kernel
theorem dX12_findsWay_131 : decode cX12_findsWay 131 = .ok (.aload_n 0, 1) := by decide +kernel
theorem dX12_findsWay_132 : decode cX12_findsWay 132 = .ok (.getfield 95, 3) := by decide +kernel
theorem dX12_findsWay_135 : decode cX12_findsWay 135 = .ok (.iload 6, 2) := by decide +kernel
theorem dX12_findsWay_137 : decode cX12_findsWay 137 = .ok (.iload 4, 2) := by decide +kernel
theorem dX12_findsWay_139 : decode cX12_findsWay 139 = .ok (.iastore, 1) := by decide +kernel
theorem dX12_findsWay_140 : decode cX12_findsWay 140 = .ok (.iinc 4 1, 3) := by decide +kernel
theorem dX12_findsWay_143 : decode cX12_findsWay 143 = .ok (.goto (-95), 3) := by decide +kernel
theorem dX12_findsWay_146 : decode cX12_findsWay 146 = .ok (.goto (-116), 3) := by decide +kernel
theorem dX12_findsWay_149 : decode cX12_findsWay 149 = .ok (.iload_n 2, 1) := by decide +kernel
theorem dX12_findsWay_150 : decode cX12_findsWay 150 = .ok (.iload_n 1, 1) := by decide +kernel
theorem dX12_findsWay_151 : decode cX12_findsWay 151 = .ok (.invokestatic 187, 3) := by decide +kernel
theorem dX12_findsWay_154 : decode cX12_findsWay 154 = .ok (.ifCond .ne 5, 3) := by decide +kernel
theorem dX12_findsWay_157 : decode cX12_findsWay 157 = .ok (.iconst 0, 1) := by decide +kernel
theorem dX12_findsWay_158 : decode cX12_findsWay 158 = .ok (.ireturn, 1) := by decide +kernel
theorem dX12_findsWay_159 : decode cX12_findsWay 159 = .ok (.iload_n 1, 1) := by decide +kernel
theorem dX12_findsWay_160 : decode cX12_findsWay 160 = .ok (.istore 4, 2) := by decide +kernel
theorem dX12_findsWay_162 : decode cX12_findsWay 162 = .ok (.aload_n 0, 1) := by decide +kernel
theorem dX12_findsWay_163 : decode cX12_findsWay 163 = .ok (.getfield 95, 3) := by decide +kernel
theorem dX12_findsWay_166 : decode cX12_findsWay 166 = .ok (.iload 4, 2) := by decide +kernel
theorem dX12_findsWay_168 : decode cX12_findsWay 168 = .ok (.iaload, 1) := by decide +kernel
theorem dX12_findsWay_169 : decode cX12_findsWay 169 = .ok (.iconst (-1), 1) := by decide +kernel
theorem dX12_findsWay_170 : decode cX12_findsWay 170 = .ok (.if_icmp .eq 60, 3) := by decide +kernel
theorem dX12_findsWay_173 : decode cX12_findsWay 173 = .ok (.aload_n 0, 1) := by decide +kernel
theorem dX12_findsWay_174 : decode cX12_findsWay 174 = .ok (.getfield 95, 3) := by decide +kernel
theorem dX12_findsWay_177 : decode cX12_findsWay 177 = .ok (.iload 4, 2) := by decide +kernel
theorem dX12_findsWay_179 : decode cX12_findsWay 179 = .ok (.iaload, 1) := by decide +kernel
theorem dX12_findsWay_180 : decode cX12_findsWay 180 = .ok (.istore 5, 2) := by decide +kernel
theorem dX12_findsWay_182 : decode cX12_findsWay 182 = .ok (.aload_n 0, 1) := by decide +kernel
theorem dX12_findsWay_183 : decode cX12_findsWay 183 = .ok (.iload 5, 2) := by decide +kernel
theorem dX12_findsWay_185 : decode cX12_findsWay 185 = .ok (.aload_n 0, 1) := by decide +kernel
theorem dX12_findsWay_186 : decode cX12_findsWay 186 = .ok (.getfield 91, 3) := by decide +kernel
theorem dX12_findsWay_189 : decode cX12_findsWay 189 = .ok (.iload 5, 2) := by decide +kernel
theorem dX12_findsWay_191 : decode cX12_findsWay 191 = .ok (.baload, 1) := by decide +kernel
theorem dX12_findsWay_192 : decode cX12_findsWay 192 = .ok (.ifCond .eq 7, 3) := by decide +kernel
theorem dX12_findsWay_195 : decode cX12_findsWay 195 = .ok (.iconst 1, 1) := by decide +kernel
theorem dX12_findsWay_196 : decode cX12_findsWay 196 = .ok (.goto 4, 3) := by decide +kernel
theorem dX12_findsWay_199 : decode cX12_findsWay 199 = .ok (.iconst 0, 1) := by decide +kernel
theorem dX12_findsWay_200 : decode cX12_findsWay 200 = .ok (.invokevirtual 252, 3) := by decide +kernel
theorem dX12_findsWay_203 : decode cX12_findsWay 203 = .ok (.istore 4, 2) := by decide +kernel
theorem dX12_findsWay_205 : decode cX12_findsWay 205 = .ok (.aload_n 0, 1) := by decide +kernel
theorem dX12_findsWay_206 : decode cX12_findsWay 206 = .ok (.getfield 91, 3) := by decide +kernel
theorem dX12_findsWay_209 : decode cX12_findsWay 209 = .ok (.iload 5, 2) := by decide +kernel
theorem dX12_findsWay_211 : decode cX12_findsWay 211 = .ok (.aload_n 0, 1) := by decide +kernel
theorem dX12_findsWay_212 : decode cX12_findsWay 212 = .ok (.getfield 91, 3) := by decide +kernel
theorem dX12_findsWay_215 : decode cX12_findsWay 215 = .ok (.iload 5, 2) := by decide +kernel
theorem dX12_findsWay_217 : decode cX12_findsWay 217 = .ok (.baload, 1) := by decide +kernel
theorem dX12_findsWay_218 : decode cX12_findsWay 218 = .ok (.ifCond .ne 7, 3) := by decide +kernel
theorem dX12_findsWay_221 : decode cX12_findsWay 221 = .ok (.iconst 1, 1) := by decide +kernel
theorem dX12_findsWay_222 : decode cX12_findsWay 222 = .ok (.goto 4, 3) := by decide +kernel
theorem dX12_findsWay_225 : decode cX12_findsWay 225 = .ok (.iconst 0, 1) := by decide +kernel
theorem dX12_findsWay_226 : decode cX12_findsWay 226 = .ok (.bastore, 1) := by decide +kernel
theorem dX12_findsWay_227 : decode cX12_findsWay 227 = .ok (.goto (-65), 3) := by decide +kernel
theorem dX12_findsWay_230 : decode cX12_findsWay 230 = .ok (.iconst 1, 1) := by decide +kernel
theorem dX12_findsWay_231 : decode cX12_findsWay 231 = .ok (.ireturn, 1) := by decide +kernel
theorem dX12_fewest_0 : decode cX12_fewest 0 = .ok (.aload_n 0, 1) := by decide +kernel
theorem dX12_fewest_1 : decode cX12_fewest 1 = .ok (.iload_n 1, 1) := by decide +kernel
theorem dX12_fewest_2 : decode cX12_fewest 2 = .ok (.invokevirtual 338, 3) := by decide +kernel
theorem dX12_fewest_5 : decode cX12_fewest 5 = .ok (.ifCond .ne 5, 3) := by decide +kernel
theorem dX12_fewest_8 : decode cX12_fewest 8 = .ok (.iconst (-1), 1) := by decide +kernel
theorem dX12_fewest_9 : decode cX12_fewest 9 = .ok (.ireturn, 1) := by decide +kernel
theorem dX12_fewest_10 : decode cX12_fewest 10 = .ok (.aload_n 0, 1) := by decide +kernel
theorem dX12_fewest_11 : decode cX12_fewest 11 = .ok (.invokevirtual 320, 3) := by decide +kernel
theorem dX12_fewest_14 : decode cX12_fewest 14 = .ok (.aload_n 0, 1) := by decide +kernel
theorem dX12_fewest_15 : decode cX12_fewest 15 = .ok (.iload_n 1, 1) := by decide +kernel
theorem dX12_fewest_16 : decode cX12_fewest 16 = .ok (.invokevirtual 262, 3) := by decide +kernel
theorem dX12_fewest_19 : decode cX12_fewest 19 = .ok (.ifCond .eq 5, 3) := by decide +kernel
theorem dX12_fewest_22 : decode cX12_fewest 22 = .ok (.iconst (-1), 1) := by decide +kernel
theorem dX12_fewest_23 : decode cX12_fewest 23 = .ok (.ireturn, 1) := by decide +kernel
theorem dX12_fewest_24 : decode cX12_fewest 24 = .ok (.iconst 0, 1) := by decide +kernel
theorem dX12_fewest_25 : decode cX12_fewest 25 = .ok (.istore_n 2, 1) := by decide +kernel
theorem dX12_fewest_26 : decode cX12_fewest 26 = .ok (.iload_n 2, 1) := by decide +kernel
theorem dX12_fewest_27 : decode cX12_fewest 27 = .ok (.aload_n 0, 1) := by decide +kernel
theorem dX12_fewest_28 : decode cX12_fewest 28 = .ok (.invokevirtual 249, 3) := by decide +kernel
theorem dX12_fewest_31 : decode cX12_fewest 31 = .ok (.if_icmp .ge 16, 3) := by decide +kernel
theorem dX12_fewest_34 : decode cX12_fewest 34 = .ok (.aload_n 0, 1) := by decide +kernel
theorem dX12_fewest_35 : decode cX12_fewest 35 = .ok (.getfield 91, 3) := by decide +kernel
theorem dX12_fewest_38 : decode cX12_fewest 38 = .ok (.iload_n 2, 1) := by decide +kernel
theorem dX12_fewest_39 : decode cX12_fewest 39 = .ok (.iconst 0, 1) := by decide +kernel
theorem dX12_fewest_40 : decode cX12_fewest 40 = .ok (.bastore, 1) := by decide +kernel
theorem dX12_fewest_41 : decode cX12_fewest 41 = .ok (.iinc 2 1, 3) := by decide +kernel
theorem dX12_fewest_44 : decode cX12_fewest 44 = .ok (.goto (-18), 3) := by decide +kernel
theorem dX12_fewest_47 : decode cX12_fewest 47 = .ok (.iconst 0, 1) := by decide +kernel
theorem dX12_fewest_48 : decode cX12_fewest 48 = .ok (.istore_n 2, 1) := by decide +kernel
theorem dX12_fewest_49 : decode cX12_fewest 49 = .ok (.aload_n 0, 1) := by decide +kernel
theorem dX12_fewest_50 : decode cX12_fewest 50 = .ok (.iload_n 1, 1) := by decide +kernel
theorem dX12_fewest_51 : decode cX12_fewest 51 = .ok (.invokevirtual 400, 3) := by decide +kernel
theorem dX12_fewest_54 : decode cX12_fewest 54 = .ok (.ifCond .eq 9, 3) := by decide +kernel
theorem dX12_fewest_57 : decode cX12_fewest 57 = .ok (.iinc 2 1, 3) := by decide +kernel
theorem dX12_fewest_60 : decode cX12_fewest 60 = .ok (.goto (-11), 3) := by decide +kernel
theorem dX12_fewest_63 : decode cX12_fewest 63 = .ok (.iload_n 2, 1) := by decide +kernel
theorem dX12_fewest_64 : decode cX12_fewest 64 = .ok (.ireturn, 1) := by decide +kernel
theorem dX12_hourOf_0 : decode cX12_hourOf 0 = .ok (.iload_n 1, 1) := by decide +kernel
theorem dX12_hourOf_1 : decode cX12_hourOf 1 = .ok (.istore_n 3, 1) := by decide +kernel
theorem dX12_hourOf_2 : decode cX12_hourOf 2 = .ok (.iconst 0, 1) := by decide +kernel
theorem dX12_hourOf_3 : decode cX12_hourOf 3 = .ok (.istore 4, 2) := by decide +kernel
theorem dX12_hourOf_5 : decode cX12_hourOf 5 = .ok (.iload_n 3, 1) := by decide +kernel
theorem dX12_hourOf_6 : decode cX12_hourOf 6 = .ok (.iload_n 2, 1) := by decide +kernel
theorem dX12_hourOf_7 : decode cX12_hourOf 7 = .ok (.if_icmp .eq 42, 3) := by decide +kernel
theorem dX12_hourOf_10 : decode cX12_hourOf 10 = .ok (.aload_n 0, 1) := by decide +kernel
theorem dX12_hourOf_11 : decode cX12_hourOf 11 = .ok (.iload_n 3, 1) := by decide +kernel
theorem dX12_hourOf_12 : decode cX12_hourOf 12 = .ok (.iconst 0, 1) := by decide +kernel
theorem dX12_hourOf_13 : decode cX12_hourOf 13 = .ok (.invokevirtual 287, 3) := by decide +kernel
theorem dX12_hourOf_16 : decode cX12_hourOf 16 = .ok (.istore 5, 2) := by decide +kernel
theorem dX12_hourOf_18 : decode cX12_hourOf 18 = .ok (.iload 5, 2) := by decide +kernel
theorem dX12_hourOf_20 : decode cX12_hourOf 20 = .ok (.iconst (-1), 1) := by decide +kernel
theorem dX12_hourOf_21 : decode cX12_hourOf 21 = .ok (.if_icmp .ne 5, 3) := by decide +kernel
theorem dX12_hourOf_24 : decode cX12_hourOf 24 = .ok (.iconst (-1), 1) := by decide +kernel
theorem dX12_hourOf_25 : decode cX12_hourOf 25 = .ok (.ireturn, 1) := by decide +kernel
theorem dX12_hourOf_26 : decode cX12_hourOf 26 = .ok (.iload 4, 2) := by decide +kernel
theorem dX12_hourOf_28 : decode cX12_hourOf 28 = .ok (.aload_n 0, 1) := by decide +kernel
theorem dX12_hourOf_29 : decode cX12_hourOf 29 = .ok (.iload 5, 2) := by decide +kernel
theorem dX12_hourOf_31 : decode cX12_hourOf 31 = .ok (.iconst 2, 1) := by decide +kernel
theorem dX12_hourOf_32 : decode cX12_hourOf 32 = .ok (.invokevirtual 252, 3) := by decide +kernel
theorem dX12_hourOf_35 : decode cX12_hourOf 35 = .ok (.iadd, 1) := by decide +kernel
theorem dX12_hourOf_36 : decode cX12_hourOf 36 = .ok (.istore 4, 2) := by decide +kernel
theorem dX12_hourOf_38 : decode cX12_hourOf 38 = .ok (.aload_n 0, 1) := by decide +kernel
theorem dX12_hourOf_39 : decode cX12_hourOf 39 = .ok (.iload 5, 2) := by decide +kernel
theorem dX12_hourOf_41 : decode cX12_hourOf 41 = .ok (.iconst 1, 1) := by decide +kernel
theorem dX12_hourOf_42 : decode cX12_hourOf 42 = .ok (.invokevirtual 252, 3) := by decide +kernel
theorem dX12_hourOf_45 : decode cX12_hourOf 45 = .ok (.istore_n 3, 1) := by decide +kernel
theorem dX12_hourOf_46 : decode cX12_hourOf 46 = .ok (.goto (-41), 3) := by decide +kernel
theorem dX12_hourOf_49 : decode cX12_hourOf 49 = .ok (.iload 4, 2) := by decide +kernel
theorem dX12_hourOf_51 : decode cX12_hourOf 51 = .ok (.ireturn, 1) := by decide +kernel
theorem dX12_waveMany_0 : decode cX12_waveMany 0 = .ok (.iconst 0, 1) := by decide +kernel
theorem dX12_waveMany_1 : decode cX12_waveMany 1 = .ok (.istore_n 3, 1) := by decide +kernel
theorem dX12_waveMany_2 : decode cX12_waveMany 2 = .ok (.iconst 0, 1) := by decide +kernel
theorem dX12_waveMany_3 : decode cX12_waveMany 3 = .ok (.istore 4, 2) := by decide +kernel
theorem dX12_waveMany_5 : decode cX12_waveMany 5 = .ok (.iload 4, 2) := by decide +kernel
theorem dX12_waveMany_7 : decode cX12_waveMany 7 = .ok (.aload_n 0, 1) := by decide +kernel
theorem dX12_waveMany_8 : decode cX12_waveMany 8 = .ok (.invokevirtual 246, 3) := by decide +kernel
theorem dX12_waveMany_11 : decode cX12_waveMany 11 = .ok (.if_icmp .ge 59, 3) := by decide +kernel
theorem dX12_waveMany_14 : decode cX12_waveMany 14 = .ok (.aload_n 0, 1) := by decide +kernel
theorem dX12_waveMany_15 : decode cX12_waveMany 15 = .ok (.iload 4, 2) := by decide +kernel
theorem dX12_waveMany_17 : decode cX12_waveMany 17 = .ok (.invokevirtual 262, 3) := by decide +kernel
theorem dX12_waveMany_20 : decode cX12_waveMany 20 = .ok (.ifCond .eq 13, 3) := by decide +kernel
theorem dX12_waveMany_23 : decode cX12_waveMany 23 = .ok (.aload_n 0, 1) := by decide +kernel
theorem dX12_waveMany_24 : decode cX12_waveMany 24 = .ok (.iload 4, 2) := by decide +kernel
theorem dX12_waveMany_26 : decode cX12_waveMany 26 = .ok (.iload_n 1, 1) := by decide +kernel
theorem dX12_waveMany_27 : decode cX12_waveMany 27 = .ok (.invokevirtual 403, 3) := by decide +kernel
theorem dX12_waveMany_30 : decode cX12_waveMany 30 = .ok (.goto 4, 3) := by decide +kernel
theorem dX12_waveMany_33 : decode cX12_waveMany 33 = .ok (.iconst (-1), 1) := by decide +kernel
theorem dX12_waveMany_34 : decode cX12_waveMany 34 = .ok (.istore 5, 2) := by decide +kernel
theorem dX12_waveMany_36 : decode cX12_waveMany 36 = .ok (.iload_n 3, 1) := by decide +kernel
theorem dX12_waveMany_37 : decode cX12_waveMany 37 = .ok (.iload 5, 2) := by decide +kernel
theorem dX12_waveMany_39 : decode cX12_waveMany 39 = .ok (.iconst (-1), 1) := by decide +kernel
theorem dX12_waveMany_40 : decode cX12_waveMany 40 = .ok (.if_icmp .eq 18, 3) := by decide +kernel
theorem dX12_waveMany_43 : decode cX12_waveMany 43 = .ok (.iload_n 2, 1) := by decide +kernel
theorem dX12_waveMany_44 : decode cX12_waveMany 44 = .ok (.iconst (-1), 1) := by decide +kernel
theorem dX12_waveMany_45 : decode cX12_waveMany 45 = .ok (.if_icmp .eq 9, 3) := by decide +kernel
theorem dX12_waveMany_48 : decode cX12_waveMany 48 = .ok (.iload 5, 2) := by decide +kernel
theorem dX12_waveMany_50 : decode cX12_waveMany 50 = .ok (.iload_n 2, 1) := by decide +kernel
theorem dX12_waveMany_51 : decode cX12_waveMany 51 = .ok (.if_icmp .ne 7, 3) := by decide +kernel
theorem dX12_waveMany_54 : decode cX12_waveMany 54 = .ok (.iconst 1, 1) := by decide +kernel
theorem dX12_waveMany_55 : decode cX12_waveMany 55 = .ok (.goto 4, 3) := by decide +kernel
theorem dX12_waveMany_58 : decode cX12_waveMany 58 = .ok (.iconst 0, 1) := by decide +kernel
theorem dX12_waveMany_59 : decode cX12_waveMany 59 = .ok (.invokestatic 255, 3) := by decide +kernel
theorem dX12_waveMany_62 : decode cX12_waveMany 62 = .ok (.iadd, 1) := by decide +kernel
theorem dX12_waveMany_63 : decode cX12_waveMany 63 = .ok (.istore_n 3, 1) := by decide +kernel
theorem dX12_waveMany_64 : decode cX12_waveMany 64 = .ok (.iinc 4 1, 3) := by decide +kernel
theorem dX12_waveMany_67 : decode cX12_waveMany 67 = .ok (.goto (-62), 3) := by decide +kernel
theorem dX12_waveMany_70 : decode cX12_waveMany 70 = .ok (.iload_n 3, 1) := by decide +kernel
theorem dX12_waveMany_71 : decode cX12_waveMany 71 = .ok (.ireturn, 1) := by decide +kernel
theorem dX12_wave_0 : decode cX12_wave 0 = .ok (.aload_n 0, 1) := by decide +kernel
theorem dX12_wave_1 : decode cX12_wave 1 = .ok (.iload_n 1, 1) := by decide +kernel
theorem dX12_wave_2 : decode cX12_wave 2 = .ok (.invokevirtual 338, 3) := by decide +kernel
theorem dX12_wave_5 : decode cX12_wave 5 = .ok (.ifCond .eq 15, 3) := by decide +kernel
theorem dX12_wave_8 : decode cX12_wave 8 = .ok (.iload_n 2, 1) := by decide +kernel
theorem dX12_wave_9 : decode cX12_wave 9 = .ok (.i2l, 1) := by decide +kernel
theorem dX12_wave_10 : decode cX12_wave 10 = .ok (.lconst 0, 1) := by decide +kernel
theorem dX12_wave_11 : decode cX12_wave 11 = .ok (.ldc2_w 349, 3) := by decide +kernel
theorem dX12_wave_14 : decode cX12_wave 14 = .ok (.invokestatic 127, 3) := by decide +kernel
theorem dX12_wave_17 : decode cX12_wave 17 = .ok (.ifCond .ne 5, 3) := by decide +kernel
theorem dX12_wave_20 : decode cX12_wave 20 = .ok (.iconst (-1), 1) := by decide +kernel
theorem dX12_wave_21 : decode cX12_wave 21 = .ok (.ireturn, 1) := by decide +kernel
theorem dX12_wave_22 : decode cX12_wave 22 = .ok (.aload_n 0, 1) := by decide +kernel
theorem dX12_wave_23 : decode cX12_wave 23 = .ok (.invokevirtual 320, 3) := by decide +kernel
theorem dX12_wave_26 : decode cX12_wave 26 = .ok (.iload_n 2, 1) := by decide +kernel
theorem dX12_wave_27 : decode cX12_wave 27 = .ok (.iconst 3, 1) := by decide +kernel
theorem dX12_wave_28 : decode cX12_wave 28 = .ok (.if_icmp .ne 10, 3) := by decide +kernel
theorem dX12_wave_31 : decode cX12_wave 31 = .ok (.aload_n 0, 1) := by decide +kernel
theorem dX12_wave_32 : decode cX12_wave 32 = .ok (.iload_n 1, 1) := by decide +kernel
theorem dX12_wave_33 : decode cX12_wave 33 = .ok (.iconst (-1), 1) := by decide +kernel
theorem dX12_wave_34 : decode cX12_wave 34 = .ok (.invokevirtual 406, 3) := by decide +kernel
theorem dX12_wave_37 : decode cX12_wave 37 = .ok (.ireturn, 1) := by decide +kernel
theorem dX12_wave_38 : decode cX12_wave 38 = .ok (.iconst (-1), 1) := by decide +kernel
theorem dX12_wave_39 : decode cX12_wave 39 = .ok (.istore_n 3, 1) := by decide +kernel
theorem dX12_wave_40 : decode cX12_wave 40 = .ok (.iconst (-1), 1) := by decide +kernel
theorem dX12_wave_41 : decode cX12_wave 41 = .ok (.istore 4, 2) := by decide +kernel
theorem dX12_wave_43 : decode cX12_wave 43 = .ok (.iconst (-1), 1) := by decide +kernel
theorem dX12_wave_44 : decode cX12_wave 44 = .ok (.istore 5, 2) := by decide +kernel
theorem dX12_wave_46 : decode cX12_wave 46 = .ok (.iconst 0, 1) := by decide +kernel
theorem dX12_wave_47 : decode cX12_wave 47 = .ok (.istore 6, 2) := by decide +kernel
theorem dX12_wave_49 : decode cX12_wave 49 = .ok (.iload 6, 2) := by decide +kernel
theorem dX12_wave_51 : decode cX12_wave 51 = .ok (.aload_n 0, 1) := by decide +kernel
theorem dX12_wave_52 : decode cX12_wave 52 = .ok (.invokevirtual 246, 3) := by decide +kernel
theorem dX12_wave_55 : decode cX12_wave 55 = .ok (.if_icmp .ge 91, 3) := by decide +kernel
theorem dX12_wave_58 : decode cX12_wave 58 = .ok (.aload_n 0, 1) := by decide +kernel
theorem dX12_wave_59 : decode cX12_wave 59 = .ok (.iload 6, 2) := by decide +kernel
theorem dX12_wave_61 : decode cX12_wave 61 = .ok (.invokevirtual 262, 3) := by decide +kernel
theorem dX12_wave_64 : decode cX12_wave 64 = .ok (.ifCond .eq 13, 3) := by decide +kernel
theorem dX12_wave_67 : decode cX12_wave 67 = .ok (.aload_n 0, 1) := by decide +kernel
theorem dX12_wave_68 : decode cX12_wave 68 = .ok (.iload 6, 2) := by decide +kernel
theorem dX12_wave_70 : decode cX12_wave 70 = .ok (.iload_n 1, 1) := by decide +kernel
theorem dX12_wave_71 : decode cX12_wave 71 = .ok (.invokevirtual 403, 3) := by decide +kernel
theorem dX12_wave_74 : decode cX12_wave 74 = .ok (.goto 4, 3) := by decide +kernel
theorem dX12_wave_77 : decode cX12_wave 77 = .ok (.iconst (-1), 1) := by decide +kernel
theorem dX12_wave_78 : decode cX12_wave 78 = .ok (.istore 7, 2) := by decide +kernel
theorem dX12_wave_80 : decode cX12_wave 80 = .ok (.iload 7, 2) := by decide +kernel
theorem dX12_wave_82 : decode cX12_wave 82 = .ok (.iconst (-1), 1) := by decide +kernel
theorem dX12_wave_83 : decode cX12_wave 83 = .ok (.if_icmp .ne 6, 3) := by decide +kernel
theorem dX12_wave_86 : decode cX12_wave 86 = .ok (.goto 54, 3) := by decide +kernel
theorem dX12_wave_89 : decode cX12_wave 89 = .ok (.aload_n 0, 1) := by decide +kernel
theorem dX12_wave_90 : decode cX12_wave 90 = .ok (.iload_n 1, 1) := by decide +kernel
theorem dX12_wave_91 : decode cX12_wave 91 = .ok (.iload 7, 2) := by decide +kernel
theorem dX12_wave_93 : decode cX12_wave 93 = .ok (.invokevirtual 406, 3) := by decide +kernel
theorem dX12_wave_96 : decode cX12_wave 96 = .ok (.istore 8, 2) := by decide +kernel
theorem dX12_wave_98 : decode cX12_wave 98 = .ok (.iload 8, 2) := by decide +kernel
theorem dX12_wave_100 : decode cX12_wave 100 = .ok (.iload_n 3, 1) := by decide +kernel
theorem dX12_wave_101 : decode cX12_wave 101 = .ok (.if_icmp .gt 16, 3) := by decide +kernel
theorem dX12_wave_104 : decode cX12_wave 104 = .ok (.iload 8, 2) := by decide +kernel
theorem dX12_wave_106 : decode cX12_wave 106 = .ok (.iload_n 3, 1) := by decide +kernel
theorem dX12_wave_107 : decode cX12_wave 107 = .ok (.if_icmp .ne 17, 3) := by decide +kernel
theorem dX12_wave_110 : decode cX12_wave 110 = .ok (.iload 7, 2) := by decide +kernel
theorem dX12_wave_112 : decode cX12_wave 112 = .ok (.iload 4, 2) := by decide +kernel
theorem dX12_wave_114 : decode cX12_wave 114 = .ok (.if_icmp .ge 10, 3) := by decide +kernel
theorem dX12_wave_117 : decode cX12_wave 117 = .ok (.iload 8, 2) := by decide +kernel
theorem dX12_wave_119 : decode cX12_wave 119 = .ok (.istore_n 3, 1) := by decide +kernel
theorem dX12_wave_120 : decode cX12_wave 120 = .ok (.iload 7, 2) := by decide +kernel
theorem dX12_wave_122 : decode cX12_wave 122 = .ok (.istore 4, 2) := by decide +kernel
theorem dX12_wave_124 : decode cX12_wave 124 = .ok (.iload 7, 2) := by decide +kernel
theorem dX12_wave_126 : decode cX12_wave 126 = .ok (.iload 5, 2) := by decide +kernel
theorem dX12_wave_128 : decode cX12_wave 128 = .ok (.if_icmp .le 8, 3) := by decide +kernel
theorem dX12_wave_131 : decode cX12_wave 131 = .ok (.iload 7, 2) := by decide +kernel
theorem dX12_wave_133 : decode cX12_wave 133 = .ok (.goto 5, 3) := by decide +kernel
theorem dX12_wave_136 : decode cX12_wave 136 = .ok (.iload 5, 2) := by decide +kernel
theorem dX12_wave_138 : decode cX12_wave 138 = .ok (.istore 5, 2) := by decide +kernel
theorem dX12_wave_140 : decode cX12_wave 140 = .ok (.iinc 6 1, 3) := by decide +kernel
theorem dX12_wave_143 : decode cX12_wave 143 = .ok (.goto (-94), 3) := by decide +kernel
theorem dX12_wave_146 : decode cX12_wave 146 = .ok (.iload_n 2, 1) := by decide +kernel
theorem dX12_wave_147 : decode cX12_wave 147 = .ok (.ifCond .ne 7, 3) := by decide +kernel
theorem dX12_wave_150 : decode cX12_wave 150 = .ok (.iload_n 3, 1) := by decide +kernel
theorem dX12_wave_151 : decode cX12_wave 151 = .ok (.goto 15, 3) := by decide +kernel
theorem dX12_wave_154 : decode cX12_wave 154 = .ok (.iload_n 2, 1) := by decide +kernel
theorem dX12_wave_155 : decode cX12_wave 155 = .ok (.iconst 1, 1) := by decide +kernel
theorem dX12_wave_156 : decode cX12_wave 156 = .ok (.if_icmp .ne 8, 3) := by decide +kernel
theorem dX12_wave_159 : decode cX12_wave 159 = .ok (.iload 4, 2) := by decide +kernel
theorem dX12_wave_161 : decode cX12_wave 161 = .ok (.goto 5, 3) := by decide +kernel
theorem dX12_wave_164 : decode cX12_wave 164 = .ok (.iload 5, 2) := by decide +kernel
theorem dX12_wave_166 : decode cX12_wave 166 = .ok (.ireturn, 1) := by decide +kernel
theorem dX12_see_0 : decode cX12_see 0 = .ok (.aload_n 0, 1) := by decide +kernel
theorem dX12_see_1 : decode cX12_see 1 = .ok (.getfield 114, 3) := by decide +kernel
theorem dX12_see_4 : decode cX12_see 4 = .ok (.istore_n 1, 1) := by decide +kernel
theorem dX12_see_5 : decode cX12_see 5 = .ok (.aload_n 0, 1) := by decide +kernel
theorem dX12_see_6 : decode cX12_see 6 = .ok (.iconst 0, 1) := by decide +kernel
theorem dX12_see_7 : decode cX12_see 7 = .ok (.putfield 114, 3) := by decide +kernel
theorem dX12_see_10 : decode cX12_see 10 = .ok (.iload_n 1, 1) := by decide +kernel
theorem dX12_see_11 : decode cX12_see 11 = .ok (.ifCond .le 21, 3) := by decide +kernel
theorem dX12_see_14 : decode cX12_see 14 = .ok (.iload_n 1, 1) := by decide +kernel
theorem dX12_see_15 : decode cX12_see 15 = .ok (.iconst 2, 1) := by decide +kernel
theorem dX12_see_16 : decode cX12_see 16 = .ok (.irem, 1) := by decide +kernel
theorem dX12_see_17 : decode cX12_see 17 = .ok (.ifCond .ne 15, 3) := by decide +kernel
theorem dX12_see_20 : decode cX12_see 20 = .ok (.iload_n 1, 1) := by decide +kernel
theorem dX12_see_21 : decode cX12_see 21 = .ok (.iconst 2, 1) := by decide +kernel
theorem dX12_see_22 : decode cX12_see 22 = .ok (.idiv, 1) := by decide +kernel
theorem dX12_see_23 : decode cX12_see 23 = .ok (.bipush 12, 2) := by decide +kernel
theorem dX12_see_25 : decode cX12_see 25 = .ok (.if_icmp .gt 7, 3) := by decide +kernel
theorem dX12_see_28 : decode cX12_see 28 = .ok (.iconst 1, 1) := by decide +kernel
theorem dX12_see_29 : decode cX12_see 29 = .ok (.goto 4, 3) := by decide +kernel
theorem dX12_see_32 : decode cX12_see 32 = .ok (.iconst 0, 1) := by decide +kernel
theorem dX12_see_33 : decode cX12_see 33 = .ok (.istore_n 2, 1) := by decide +kernel
theorem dX12_see_34 : decode cX12_see 34 = .ok (.iconst 0, 1) := by decide +kernel
theorem dX12_see_35 : decode cX12_see 35 = .ok (.istore_n 3, 1) := by decide +kernel
theorem dX12_see_36 : decode cX12_see 36 = .ok (.iload_n 3, 1) := by decide +kernel
theorem dX12_see_37 : decode cX12_see 37 = .ok (.iload_n 1, 1) := by decide +kernel
theorem dX12_see_38 : decode cX12_see 38 = .ok (.if_icmp .ge 44, 3) := by decide +kernel
theorem dX12_see_41 : decode cX12_see 41 = .ok (.iload_n 2, 1) := by decide +kernel
theorem dX12_see_42 : decode cX12_see 42 = .ok (.ifCond .eq 40, 3) := by decide +kernel
theorem dX12_see_45 : decode cX12_see 45 = .ok (.aload_n 0, 1) := by decide +kernel
theorem dX12_see_46 : decode cX12_see 46 = .ok (.aload_n 0, 1) := by decide +kernel
theorem dX12_see_47 : decode cX12_see 47 = .ok (.getfield 7, 3) := by decide +kernel
theorem dX12_see_50 : decode cX12_see 50 = .ok (.iload_n 3, 1) := by decide +kernel
theorem dX12_see_51 : decode cX12_see 51 = .ok (.iaload, 1) := by decide +kernel
theorem dX12_see_52 : decode cX12_see 52 = .ok (.invokevirtual 344, 3) := by decide +kernel
theorem dX12_see_55 : decode cX12_see 55 = .ok (.ifCond .eq 19, 3) := by decide +kernel
theorem dX12_see_58 : decode cX12_see 58 = .ok (.aload_n 0, 1) := by decide +kernel
theorem dX12_see_59 : decode cX12_see 59 = .ok (.getfield 7, 3) := by decide +kernel
theorem dX12_see_62 : decode cX12_see 62 = .ok (.iload_n 3, 1) := by decide +kernel
theorem dX12_see_63 : decode cX12_see 63 = .ok (.iconst 1, 1) := by decide +kernel
theorem dX12_see_64 : decode cX12_see 64 = .ok (.iadd, 1) := by decide +kernel
theorem dX12_see_65 : decode cX12_see 65 = .ok (.iaload, 1) := by decide +kernel
theorem dX12_see_66 : decode cX12_see 66 = .ok (.iconst 1, 1) := by decide +kernel
theorem dX12_see_67 : decode cX12_see 67 = .ok (.if_icmp .gt 7, 3) := by decide +kernel
theorem dX12_see_70 : decode cX12_see 70 = .ok (.iconst 1, 1) := by decide +kernel
theorem dX12_see_71 : decode cX12_see 71 = .ok (.goto 4, 3) := by decide +kernel
theorem dX12_see_74 : decode cX12_see 74 = .ok (.iconst 0, 1) := by decide +kernel
theorem dX12_see_75 : decode cX12_see 75 = .ok (.istore_n 2, 1) := by decide +kernel
theorem dX12_see_76 : decode cX12_see 76 = .ok (.iinc 3 2, 3) := by decide +kernel
theorem dX12_see_79 : decode cX12_see 79 = .ok (.goto (-43), 3) := by decide +kernel
theorem dX12_see_82 : decode cX12_see 82 = .ok (.iload_n 2, 1) := by decide +kernel
theorem dX12_see_83 : decode cX12_see 83 = .ok (.ifCond .ne 9, 3) := by decide +kernel
theorem dX12_see_86 : decode cX12_see 86 = .ok (.aload_n 0, 1) := by decide +kernel
theorem dX12_see_87 : decode cX12_see 87 = .ok (.iconst 1, 1) := by decide +kernel
theorem dX12_see_88 : decode cX12_see 88 = .ok (.invokevirtual 117, 3) := by decide +kernel
theorem dX12_see_91 : decode cX12_see 91 = .ok (.ireturn, 1) := by decide +kernel
theorem dX12_see_92 : decode cX12_see 92 = .ok (.iconst 0, 1) := by decide +kernel
theorem dX12_see_93 : decode cX12_see 93 = .ok (.istore_n 3, 1) := by decide +kernel
theorem dX12_see_94 : decode cX12_see 94 = .ok (.iload_n 3, 1) := by decide +kernel
theorem dX12_see_95 : decode cX12_see 95 = .ok (.iload_n 1, 1) := by decide +kernel
theorem dX12_see_96 : decode cX12_see 96 = .ok (.if_icmp .ge 21, 3) := by decide +kernel
theorem dX12_see_99 : decode cX12_see 99 = .ok (.aload_n 0, 1) := by decide +kernel
theorem dX12_see_100 : decode cX12_see 100 = .ok (.getfield 98, 3) := by decide +kernel
theorem dX12_see_103 : decode cX12_see 103 = .ok (.iload_n 3, 1) := by decide +kernel
theorem dX12_see_104 : decode cX12_see 104 = .ok (.aload_n 0, 1) := by decide +kernel
theorem dX12_see_105 : decode cX12_see 105 = .ok (.getfield 7, 3) := by decide +kernel
theorem dX12_see_108 : decode cX12_see 108 = .ok (.iload_n 3, 1) := by decide +kernel
theorem dX12_see_109 : decode cX12_see 109 = .ok (.iaload, 1) := by decide +kernel
theorem dX12_see_110 : decode cX12_see 110 = .ok (.iastore, 1) := by decide +kernel
theorem dX12_see_111 : decode cX12_see 111 = .ok (.iinc 3 1, 3) := by decide +kernel
theorem dX12_see_114 : decode cX12_see 114 = .ok (.goto (-20), 3) := by decide +kernel
theorem dX12_see_117 : decode cX12_see 117 = .ok (.aload_n 0, 1) := by decide +kernel
theorem dX12_see_118 : decode cX12_see 118 = .ok (.iload_n 1, 1) := by decide +kernel
theorem dX12_see_119 : decode cX12_see 119 = .ok (.iconst 2, 1) := by decide +kernel
theorem dX12_see_120 : decode cX12_see 120 = .ok (.idiv, 1) := by decide +kernel
theorem dX12_see_121 : decode cX12_see 121 = .ok (.putfield 240, 3) := by decide +kernel
theorem dX12_see_124 : decode cX12_see 124 = .ok (.aload_n 0, 1) := by decide +kernel
theorem dX12_see_125 : decode cX12_see 125 = .ok (.getfield 240, 3) := by decide +kernel
theorem dX12_see_128 : decode cX12_see 128 = .ok (.ireturn, 1) := by decide +kernel
theorem dX12_isDyed_0 : decode cX12_isDyed 0 = .ok (.aload_n 0, 1) := by decide +kernel
theorem dX12_isDyed_1 : decode cX12_isDyed 1 = .ok (.iload_n 1, 1) := by decide +kernel
theorem dX12_isDyed_2 : decode cX12_isDyed 2 = .ok (.iconst 0, 1) := by decide +kernel
theorem dX12_isDyed_3 : decode cX12_isDyed 3 = .ok (.invokevirtual 252, 3) := by decide +kernel
theorem dX12_isDyed_6 : decode cX12_isDyed 6 = .ok (.iload_n 2, 1) := by decide +kernel
theorem dX12_isDyed_7 : decode cX12_isDyed 7 = .ok (.if_icmp .eq 21, 3) := by decide +kernel
theorem dX12_isDyed_10 : decode cX12_isDyed 10 = .ok (.aload_n 0, 1) := by decide +kernel
theorem dX12_isDyed_11 : decode cX12_isDyed 11 = .ok (.getfield 39, 3) := by decide +kernel
theorem dX12_isDyed_14 : decode cX12_isDyed 14 = .ok (.iload_n 2, 1) := by decide +kernel
theorem dX12_isDyed_15 : decode cX12_isDyed 15 = .ok (.iaload, 1) := by decide +kernel
theorem dX12_isDyed_16 : decode cX12_isDyed 16 = .ok (.aload_n 0, 1) := by decide +kernel
theorem dX12_isDyed_17 : decode cX12_isDyed 17 = .ok (.iload_n 1, 1) := by decide +kernel
theorem dX12_isDyed_18 : decode cX12_isDyed 18 = .ok (.iconst 0, 1) := by decide +kernel
theorem dX12_isDyed_19 : decode cX12_isDyed 19 = .ok (.invokevirtual 252, 3) := by decide +kernel
theorem dX12_isDyed_22 : decode cX12_isDyed 22 = .ok (.invokestatic 187, 3) := by decide +kernel
theorem dX12_isDyed_25 : decode cX12_isDyed 25 = .ok (.ifCond .eq 7, 3) := by decide +kernel
theorem dX12_isDyed_28 : decode cX12_isDyed 28 = .ok (.iconst 1, 1) := by decide +kernel
theorem dX12_isDyed_29 : decode cX12_isDyed 29 = .ok (.goto 4, 3) := by decide +kernel
theorem dX12_isDyed_32 : decode cX12_isDyed 32 = .ok (.iconst 0, 1) := by decide +kernel
theorem dX12_isDyed_33 : decode cX12_isDyed 33 = .ok (.ireturn, 1) := by decide +kernel
theorem dX12_canFit_0 : decode cX12_canFit 0 = .ok (.iconst 0, 1) := by decide +kernel
theorem dX12_canFit_1 : decode cX12_canFit 1 = .ok (.istore_n 1, 1) := by decide +kernel
theorem dX12_canFit_2 : decode cX12_canFit 2 = .ok (.iload_n 1, 1) := by decide +kernel
theorem dX12_canFit_3 : decode cX12_canFit 3 = .ok (.aload_n 0, 1) := by decide +kernel
theorem dX12_canFit_4 : decode cX12_canFit 4 = .ok (.getfield 240, 3) := by decide +kernel
theorem dX12_canFit_7 : decode cX12_canFit 7 = .ok (.if_icmp .ge 26, 3) := by decide +kernel
theorem dX12_canFit_10 : decode cX12_canFit 10 = .ok (.aload_n 0, 1) := by decide +kernel
theorem dX12_canFit_11 : decode cX12_canFit 11 = .ok (.aload_n 0, 1) := by decide +kernel
theorem dX12_canFit_12 : decode cX12_canFit 12 = .ok (.getfield 98, 3) := by decide +kernel
theorem dX12_canFit_15 : decode cX12_canFit 15 = .ok (.iconst 2, 1) := by decide +kernel
theorem dX12_canFit_16 : decode cX12_canFit 16 = .ok (.iload_n 1, 1) := by decide +kernel
theorem dX12_canFit_17 : decode cX12_canFit 17 = .ok (.imul, 1) := by decide +kernel
theorem dX12_canFit_18 : decode cX12_canFit 18 = .ok (.iaload, 1) := by decide +kernel
theorem dX12_canFit_19 : decode cX12_canFit 19 = .ok (.invokevirtual 344, 3) := by decide +kernel
theorem dX12_canFit_22 : decode cX12_canFit 22 = .ok (.ifCond .ne 5, 3) := by decide +kernel
theorem dX12_canFit_25 : decode cX12_canFit 25 = .ok (.iconst 0, 1) := by decide +kernel
theorem dX12_canFit_26 : decode cX12_canFit 26 = .ok (.ireturn, 1) := by decide +kernel
theorem dX12_canFit_27 : decode cX12_canFit 27 = .ok (.iinc 1 1, 3) := by decide +kernel
theorem dX12_canFit_30 : decode cX12_canFit 30 = .ok (.goto (-28), 3) := by decide +kernel
theorem dX12_canFit_33 : decode cX12_canFit 33 = .ok (.aload_n 0, 1) := by decide +kernel
theorem dX12_canFit_34 : decode cX12_canFit 34 = .ok (.getfield 240, 3) := by decide +kernel
theorem dX12_canFit_37 : decode cX12_canFit 37 = .ok (.ifCond .le 7, 3) := by decide +kernel
theorem dX12_canFit_40 : decode cX12_canFit 40 = .ok (.iconst 1, 1) := by decide +kernel
theorem dX12_canFit_41 : decode cX12_canFit 41 = .ok (.goto 4, 3) := by decide +kernel
theorem dX12_canFit_44 : decode cX12_canFit 44 = .ok (.iconst 0, 1) := by decide +kernel
theorem dX12_canFit_45 : decode cX12_canFit 45 = .ok (.ireturn, 1) := by decide +kernel
theorem dX12_fitting_0 : decode cX12_fitting 0 = .ok (.iconst 0, 1) := by decide +kernel
theorem dX12_fitting_1 : decode cX12_fitting 1 = .ok (.istore_n 1, 1) := by decide +kernel
theorem dX12_fitting_2 : decode cX12_fitting 2 = .ok (.aload_n 0, 1) := by decide +kernel
theorem dX12_fitting_3 : decode cX12_fitting 3 = .ok (.invokevirtual 320, 3) := by decide +kernel
theorem dX12_fitting_6 : decode cX12_fitting 6 = .ok (.iconst 0, 1) := by decide +kernel
theorem dX12_fitting_7 : decode cX12_fitting 7 = .ok (.istore_n 2, 1) := by decide +kernel
theorem dX12_fitting_8 : decode cX12_fitting 8 = .ok (.iload_n 2, 1) := by decide +kernel
theorem dX12_fitting_9 : decode cX12_fitting 9 = .ok (.aload_n 0, 1) := by decide +kernel
theorem dX12_fitting_10 : decode cX12_fitting 10 = .ok (.invokevirtual 246, 3) := by decide +kernel
theorem dX12_fitting_13 : decode cX12_fitting 13 = .ok (.if_icmp .ge 79, 3) := by decide +kernel
theorem dX12_fitting_16 : decode cX12_fitting 16 = .ok (.iconst 1, 1) := by decide +kernel
theorem dX12_fitting_17 : decode cX12_fitting 17 = .ok (.istore_n 3, 1) := by decide +kernel
theorem dX12_fitting_18 : decode cX12_fitting 18 = .ok (.iconst 0, 1) := by decide +kernel
theorem dX12_fitting_19 : decode cX12_fitting 19 = .ok (.istore 4, 2) := by decide +kernel
theorem dX12_fitting_21 : decode cX12_fitting 21 = .ok (.iload 4, 2) := by decide +kernel
theorem dX12_fitting_23 : decode cX12_fitting 23 = .ok (.aload_n 0, 1) := by decide +kernel
theorem dX12_fitting_24 : decode cX12_fitting 24 = .ok (.getfield 240, 3) := by decide +kernel
theorem dX12_fitting_27 : decode cX12_fitting 27 = .ok (.if_icmp .ge 50, 3) := by decide +kernel
theorem dX12_fitting_30 : decode cX12_fitting 30 = .ok (.iload_n 3, 1) := by decide +kernel
theorem dX12_fitting_31 : decode cX12_fitting 31 = .ok (.ifCond .eq 38, 3) := by decide +kernel
theorem dX12_fitting_34 : decode cX12_fitting 34 = .ok (.aload_n 0, 1) := by decide +kernel
theorem dX12_fitting_35 : decode cX12_fitting 35 = .ok (.aload_n 0, 1) := by decide +kernel
theorem dX12_fitting_36 : decode cX12_fitting 36 = .ok (.getfield 98, 3) := by decide +kernel
theorem dX12_fitting_39 : decode cX12_fitting 39 = .ok (.iconst 2, 1) := by decide +kernel
theorem dX12_fitting_40 : decode cX12_fitting 40 = .ok (.iload 4, 2) := by decide +kernel
theorem dX12_fitting_42 : decode cX12_fitting 42 = .ok (.imul, 1) := by decide +kernel
theorem dX12_fitting_43 : decode cX12_fitting 43 = .ok (.iaload, 1) := by decide +kernel
theorem dX12_fitting_44 : decode cX12_fitting 44 = .ok (.iload_n 2, 1) := by decide +kernel
theorem dX12_fitting_45 : decode cX12_fitting 45 = .ok (.invokevirtual 409, 3) := by decide +kernel
theorem dX12_fitting_48 : decode cX12_fitting 48 = .ok (.invokestatic 255, 3) := by decide +kernel
theorem dX12_fitting_51 : decode cX12_fitting 51 = .ok (.aload_n 0, 1) := by decide +kernel
theorem dX12_fitting_52 : decode cX12_fitting 52 = .ok (.getfield 98, 3) := by decide +kernel
theorem dX12_fitting_55 : decode cX12_fitting 55 = .ok (.iconst 2, 1) := by decide +kernel
theorem dX12_fitting_56 : decode cX12_fitting 56 = .ok (.iload 4, 2) := by decide +kernel
theorem dX12_fitting_58 : decode cX12_fitting 58 = .ok (.imul, 1) := by decide +kernel
theorem dX12_fitting_59 : decode cX12_fitting 59 = .ok (.iconst 1, 1) := by decide +kernel
theorem dX12_fitting_60 : decode cX12_fitting 60 = .ok (.iadd, 1) := by decide +kernel
theorem dX12_fitting_61 : decode cX12_fitting 61 = .ok (.iaload, 1) := by decide +kernel
theorem dX12_fitting_62 : decode cX12_fitting 62 = .ok (.if_icmp .ne 7, 3) := by decide +kernel
theorem dX12_fitting_65 : decode cX12_fitting 65 = .ok (.iconst 1, 1) := by decide +kernel
theorem dX12_fitting_66 : decode cX12_fitting 66 = .ok (.goto 4, 3) := by decide +kernel
theorem dX12_fitting_69 : decode cX12_fitting 69 = .ok (.iconst 0, 1) := by decide +kernel
theorem dX12_fitting_70 : decode cX12_fitting 70 = .ok (.istore_n 3, 1) := by decide +kernel
theorem dX12_fitting_71 : decode cX12_fitting 71 = .ok (.iinc 4 1, 3) := by decide +kernel
theorem dX12_fitting_74 : decode cX12_fitting 74 = .ok (.goto (-53), 3) := by decide +kernel
theorem dX12_fitting_77 : decode cX12_fitting 77 = .ok (.iload_n 1, 1) := by decide +kernel
theorem dX12_fitting_78 : decode cX12_fitting 78 = .ok (.iload_n 3, 1) := by decide +kernel
theorem dX12_fitting_79 : decode cX12_fitting 79 = .ok (.invokestatic 255, 3) := by decide +kernel
theorem dX12_fitting_82 : decode cX12_fitting 82 = .ok (.iload_n 2, 1) := by decide +kernel
theorem dX12_fitting_83 : decode cX12_fitting 83 = .ok (.ishl, 1) := by decide +kernel
theorem dX12_fitting_84 : decode cX12_fitting 84 = .ok (.ior, 1) := by decide +kernel
theorem dX12_fitting_85 : decode cX12_fitting 85 = .ok (.istore_n 1, 1) := by decide +kernel
theorem dX12_fitting_86 : decode cX12_fitting 86 = .ok (.iinc 2 1, 3) := by decide +kernel
theorem dX12_fitting_89 : decode cX12_fitting 89 = .ok (.goto (-81), 3) := by decide +kernel
theorem dX12_fitting_92 : decode cX12_fitting 92 = .ok (.iload_n 1, 1) := by decide +kernel
theorem dX12_fitting_93 : decode cX12_fitting 93 = .ok (.ireturn, 1) := by decide +kernel
theorem dX12_fits_0 : decode cX12_fits 0 = .ok (.aload_n 0, 1) := by decide +kernel
theorem dX12_fits_1 : decode cX12_fits 1 = .ok (.invokevirtual 412, 3) := by decide +kernel
theorem dX12_fits_4 : decode cX12_fits 4 = .ok (.ifCond .eq 10, 3) := by decide +kernel
theorem dX12_fits_7 : decode cX12_fits 7 = .ok (.aload_n 0, 1) := by decide +kernel
theorem dX12_fits_8 : decode cX12_fits 8 = .ok (.invokevirtual 415, 3) := by decide +kernel
theorem dX12_fits_11 : decode cX12_fits 11 = .ok (.goto 4, 3) := by decide +kernel
theorem dX12_fits_14 : decode cX12_fits 14 = .ok (.iconst (-1), 1) := by decide +kernel
theorem dX12_fits_15 : decode cX12_fits 15 = .ok (.ireturn, 1) := by decide +kernel
theorem dX12_mostBy_0 : decode cX12_mostBy 0 = .ok (.iconst 0, 1) := by decide +kernel
theorem dX12_mostBy_1 : decode cX12_mostBy 1 = .ok (.istore_n 3, 1) := by decide +kernel
theorem dX12_mostBy_2 : decode cX12_mostBy 2 = .ok (.iconst 0, 1) := by decide +kernel
theorem dX12_mostBy_3 : decode cX12_mostBy 3 = .ok (.istore 4, 2) := by decide +kernel
theorem dX12_mostBy_5 : decode cX12_mostBy 5 = .ok (.iload 4, 2) := by decide +kernel
theorem dX12_mostBy_7 : decode cX12_mostBy 7 = .ok (.aload_n 0, 1) := by decide +kernel
theorem dX12_mostBy_8 : decode cX12_mostBy 8 = .ok (.invokevirtual 246, 3) := by decide +kernel
theorem dX12_mostBy_11 : decode cX12_mostBy 11 = .ok (.if_icmp .ge 39, 3) := by decide +kernel
theorem dX12_mostBy_14 : decode cX12_mostBy 14 = .ok (.iload_n 3, 1) := by decide +kernel
theorem dX12_mostBy_15 : decode cX12_mostBy 15 = .ok (.iload_n 2, 1) := by decide +kernel
theorem dX12_mostBy_16 : decode cX12_mostBy 16 = .ok (.iload 4, 2) := by decide +kernel
theorem dX12_mostBy_18 : decode cX12_mostBy 18 = .ok (.invokestatic 187, 3) := by decide +kernel
theorem dX12_mostBy_21 : decode cX12_mostBy 21 = .ok (.ifCond .eq 17, 3) := by decide +kernel
theorem dX12_mostBy_24 : decode cX12_mostBy 24 = .ok (.aload_n 0, 1) := by decide +kernel
theorem dX12_mostBy_25 : decode cX12_mostBy 25 = .ok (.iload_n 1, 1) := by decide +kernel
theorem dX12_mostBy_26 : decode cX12_mostBy 26 = .ok (.iload 4, 2) := by decide +kernel
theorem dX12_mostBy_28 : decode cX12_mostBy 28 = .ok (.invokevirtual 409, 3) := by decide +kernel
theorem dX12_mostBy_31 : decode cX12_mostBy 31 = .ok (.ifCond .eq 7, 3) := by decide +kernel
theorem dX12_mostBy_34 : decode cX12_mostBy 34 = .ok (.iconst 1, 1) := by decide +kernel
theorem dX12_mostBy_35 : decode cX12_mostBy 35 = .ok (.goto 4, 3) := by decide +kernel
theorem dX12_mostBy_38 : decode cX12_mostBy 38 = .ok (.iconst 0, 1) := by decide +kernel
theorem dX12_mostBy_39 : decode cX12_mostBy 39 = .ok (.invokestatic 255, 3) := by decide +kernel
theorem dX12_mostBy_42 : decode cX12_mostBy 42 = .ok (.iadd, 1) := by decide +kernel
theorem dX12_mostBy_43 : decode cX12_mostBy 43 = .ok (.istore_n 3, 1) := by decide +kernel
theorem dX12_mostBy_44 : decode cX12_mostBy 44 = .ok (.iinc 4 1, 3) := by decide +kernel
theorem dX12_mostBy_47 : decode cX12_mostBy 47 = .ok (.goto (-42), 3) := by decide +kernel
theorem dX12_mostBy_50 : decode cX12_mostBy 50 = .ok (.iload_n 2, 1) := by decide +kernel
theorem dX12_mostBy_51 : decode cX12_mostBy 51 = .ok (.invokestatic 323, 3) := by decide +kernel
theorem dX12_mostBy_54 : decode cX12_mostBy 54 = .ok (.iload_n 3, 1) := by decide +kernel
theorem dX12_mostBy_55 : decode cX12_mostBy 55 = .ok (.isub, 1) := by decide +kernel
theorem dX12_mostBy_56 : decode cX12_mostBy 56 = .ok (.istore 4, 2) := by decide +kernel
theorem dX12_mostBy_58 : decode cX12_mostBy 58 = .ok (.iload_n 3, 1) := by decide +kernel
theorem dX12_mostBy_59 : decode cX12_mostBy 59 = .ok (.iload 4, 2) := by decide +kernel
theorem dX12_mostBy_61 : decode cX12_mostBy 61 = .ok (.if_icmp .le 7, 3) := by decide +kernel
theorem dX12_mostBy_64 : decode cX12_mostBy 64 = .ok (.iload_n 3, 1) := by decide +kernel
theorem dX12_mostBy_65 : decode cX12_mostBy 65 = .ok (.goto 5, 3) := by decide +kernel
theorem dX12_mostBy_68 : decode cX12_mostBy 68 = .ok (.iload 4, 2) := by decide +kernel
theorem dX12_mostBy_70 : decode cX12_mostBy 70 = .ok (.ireturn, 1) := by decide +kernel
theorem dX12_tells_0 : decode cX12_tells 0 = .ok (.aload_n 0, 1) := by decide +kernel
theorem dX12_tells_1 : decode cX12_tells 1 = .ok (.invokevirtual 412, 3) := by decide +kernel
theorem dX12_tells_4 : decode cX12_tells 4 = .ok (.ifCond .eq 13, 3) := by decide +kernel
theorem dX12_tells_7 : decode cX12_tells 7 = .ok (.iload_n 1, 1) := by decide +kernel
theorem dX12_tells_8 : decode cX12_tells 8 = .ok (.i2l, 1) := by decide +kernel
theorem dX12_tells_9 : decode cX12_tells 9 = .ok (.lconst 0, 1) := by decide +kernel
theorem dX12_tells_10 : decode cX12_tells 10 = .ok (.lconst 1, 1) := by decide +kernel
theorem dX12_tells_11 : decode cX12_tells 11 = .ok (.invokestatic 127, 3) := by decide +kernel
theorem dX12_tells_14 : decode cX12_tells 14 = .ok (.ifCond .ne 5, 3) := by decide +kernel
theorem dX12_tells_17 : decode cX12_tells 17 = .ok (.iconst (-1), 1) := by decide +kernel
theorem dX12_tells_18 : decode cX12_tells 18 = .ok (.ireturn, 1) := by decide +kernel
theorem dX12_tells_19 : decode cX12_tells 19 = .ok (.aload_n 0, 1) := by decide +kernel
theorem dX12_tells_20 : decode cX12_tells 20 = .ok (.invokevirtual 415, 3) := by decide +kernel
theorem dX12_tells_23 : decode cX12_tells 23 = .ok (.istore_n 2, 1) := by decide +kernel
theorem dX12_tells_24 : decode cX12_tells 24 = .ok (.iload_n 2, 1) := by decide +kernel
theorem dX12_tells_25 : decode cX12_tells 25 = .ok (.ifCond .ne 5, 3) := by decide +kernel
theorem dX12_tells_28 : decode cX12_tells 28 = .ok (.iconst (-1), 1) := by decide +kernel
theorem dX12_tells_29 : decode cX12_tells 29 = .ok (.ireturn, 1) := by decide +kernel
theorem dX12_tells_30 : decode cX12_tells 30 = .ok (.iconst 0, 1) := by decide +kernel
theorem dX12_tells_31 : decode cX12_tells 31 = .ok (.istore_n 3, 1) := by decide +kernel
theorem dX12_tells_32 : decode cX12_tells 32 = .ok (.iconst 1, 1) := by decide +kernel
theorem dX12_tells_33 : decode cX12_tells 33 = .ok (.istore 4, 2) := by decide +kernel
theorem dX12_tells_35 : decode cX12_tells 35 = .ok (.iload 4, 2) := by decide +kernel
theorem dX12_tells_37 : decode cX12_tells 37 = .ok (.aload_n 0, 1) := by decide +kernel
theorem dX12_tells_38 : decode cX12_tells 38 = .ok (.invokevirtual 249, 3) := by decide +kernel
theorem dX12_tells_41 : decode cX12_tells 41 = .ok (.if_icmp .ge 28, 3) := by decide +kernel
theorem dX12_tells_44 : decode cX12_tells 44 = .ok (.aload_n 0, 1) := by decide +kernel
theorem dX12_tells_45 : decode cX12_tells 45 = .ok (.iload 4, 2) := by decide +kernel
theorem dX12_tells_47 : decode cX12_tells 47 = .ok (.iload_n 2, 1) := by decide +kernel
theorem dX12_tells_48 : decode cX12_tells 48 = .ok (.invokevirtual 418, 3) := by decide +kernel
theorem dX12_tells_51 : decode cX12_tells 51 = .ok (.aload_n 0, 1) := by decide +kernel
theorem dX12_tells_52 : decode cX12_tells 52 = .ok (.iload_n 3, 1) := by decide +kernel
theorem dX12_tells_53 : decode cX12_tells 53 = .ok (.iload_n 2, 1) := by decide +kernel
theorem dX12_tells_54 : decode cX12_tells 54 = .ok (.invokevirtual 418, 3) := by decide +kernel
theorem dX12_tells_57 : decode cX12_tells 57 = .ok (.if_icmp .ge 6, 3) := by decide +kernel
theorem dX12_tells_60 : decode cX12_tells 60 = .ok (.iload 4, 2) := by decide +kernel
theorem dX12_tells_62 : decode cX12_tells 62 = .ok (.istore_n 3, 1) := by decide +kernel
theorem dX12_tells_63 : decode cX12_tells 63 = .ok (.iinc 4 1, 3) := by decide +kernel
theorem dX12_tells_66 : decode cX12_tells 66 = .ok (.goto (-31), 3) := by decide +kernel
theorem dX12_tells_69 : decode cX12_tells 69 = .ok (.iload_n 1, 1) := by decide +kernel
theorem dX12_tells_70 : decode cX12_tells 70 = .ok (.ifCond .ne 7, 3) := by decide +kernel
theorem dX12_tells_73 : decode cX12_tells 73 = .ok (.iload_n 3, 1) := by decide +kernel
theorem dX12_tells_74 : decode cX12_tells 74 = .ok (.goto 9, 3) := by decide +kernel
theorem dX12_tells_77 : decode cX12_tells 77 = .ok (.aload_n 0, 1) := by decide +kernel
theorem dX12_tells_78 : decode cX12_tells 78 = .ok (.iload_n 3, 1) := by decide +kernel
theorem dX12_tells_79 : decode cX12_tells 79 = .ok (.iload_n 2, 1) := by decide +kernel
theorem dX12_tells_80 : decode cX12_tells 80 = .ok (.invokevirtual 418, 3) := by decide +kernel
theorem dX12_tells_83 : decode cX12_tells 83 = .ok (.ireturn, 1) := by decide +kernel
theorem dX12_keeps_0 : decode cX12_keeps 0 = .ok (.aload_n 0, 1) := by decide +kernel
theorem dX12_keeps_1 : decode cX12_keeps 1 = .ok (.aload_n 0, 1) := by decide +kernel
theorem dX12_keeps_2 : decode cX12_keeps 2 = .ok (.getfield 421, 3) := by decide +kernel
theorem dX12_keeps_5 : decode cX12_keeps 5 = .ok (.iconst 1, 1) := by decide +kernel
theorem dX12_keeps_6 : decode cX12_keeps 6 = .ok (.iadd, 1) := by decide +kernel
theorem dX12_keeps_7 : decode cX12_keeps 7 = .ok (.bipush 20, 2) := by decide +kernel
theorem dX12_keeps_9 : decode cX12_keeps 9 = .ok (.irem, 1) := by decide +kernel
theorem dX12_keeps_10 : decode cX12_keeps 10 = .ok (.putfield 421, 3) := by decide +kernel
theorem dX12_keeps_13 : decode cX12_keeps 13 = .ok (.iconst 0, 1) := by decide +kernel
theorem dX12_keeps_14 : decode cX12_keeps 14 = .ok (.istore_n 1, 1) := by decide +kernel
theorem dX12_keeps_15 : decode cX12_keeps 15 = .ok (.iload_n 1, 1) := by decide +kernel
theorem dX12_keeps_16 : decode cX12_keeps 16 = .ok (.sipush 183, 3) := by decide +kernel
theorem dX12_keeps_19 : decode cX12_keeps 19 = .ok (.if_icmp .ge 30, 3) := by decide +kernel
theorem dX12_keeps_22 : decode cX12_keeps 22 = .ok (.aload_n 0, 1) := by decide +kernel
theorem dX12_keeps_23 : decode cX12_keeps 23 = .ok (.getfield 101, 3) := by decide +kernel
theorem dX12_keeps_26 : decode cX12_keeps 26 = .ok (.sipush 183, 3) := by decide +kernel
theorem dX12_keeps_29 : decode cX12_keeps 29 = .ok (.aload_n 0, 1) := by decide +kernel
theorem dX12_keeps_30 : decode cX12_keeps 30 = .ok (.getfield 421, 3) := by decide +kernel
theorem dX12_keeps_33 : decode cX12_keeps 33 = .ok (.imul, 1) := by decide +kernel
theorem dX12_keeps_34 : decode cX12_keeps 34 = .ok (.iload_n 1, 1) := by decide +kernel
theorem dX12_keeps_35 : decode cX12_keeps 35 = .ok (.iadd, 1) := by decide +kernel
theorem dX12_keeps_36 : decode cX12_keeps 36 = .ok (.aload_n 0, 1) := by decide +kernel
theorem dX12_keeps_37 : decode cX12_keeps 37 = .ok (.getfield 27, 3) := by decide +kernel
theorem dX12_keeps_40 : decode cX12_keeps 40 = .ok (.iload_n 1, 1) := by decide +kernel
theorem dX12_keeps_41 : decode cX12_keeps 41 = .ok (.iaload, 1) := by decide +kernel
theorem dX12_keeps_42 : decode cX12_keeps 42 = .ok (.iastore, 1) := by decide +kernel
theorem dX12_keeps_43 : decode cX12_keeps 43 = .ok (.iinc 1 1, 3) := by decide +kernel
theorem dX12_keeps_46 : decode cX12_keeps 46 = .ok (.goto (-31), 3) := by decide +kernel
theorem dX12_keeps_49 : decode cX12_keeps 49 = .ok (.aload_n 0, 1) := by decide +kernel
theorem dX12_keeps_50 : decode cX12_keeps 50 = .ok (.getfield 237, 3) := by decide +kernel
theorem dX12_keeps_53 : decode cX12_keeps 53 = .ok (.bipush 20, 2) := by decide +kernel
theorem dX12_keeps_55 : decode cX12_keeps 55 = .ok (.if_icmp .ge 13, 3) := by decide +kernel
theorem dX12_keeps_58 : decode cX12_keeps 58 = .ok (.aload_n 0, 1) := by decide +kernel
theorem dX12_keeps_59 : decode cX12_keeps 59 = .ok (.dup, 1) := by decide +kernel
theorem dX12_keeps_60 : decode cX12_keeps 60 = .ok (.getfield 237, 3) := by decide +kernel
theorem dX12_keeps_63 : decode cX12_keeps 63 = .ok (.iconst 1, 1) := by decide +kernel
theorem dX12_keeps_64 : decode cX12_keeps 64 = .ok (.iadd, 1) := by decide +kernel
theorem dX12_keeps_65 : decode cX12_keeps 65 = .ok (.putfield 237, 3) := by decide +kernel
theorem dX12_keeps_68 : decode cX12_keeps 68 = .ok (.aload_n 0, 1) := by decide +kernel
theorem dX12_keeps_69 : decode cX12_keeps 69 = .ok (.invokevirtual 320, 3) := by decide +kernel
theorem dX12_keeps_72 : decode cX12_keeps 72 = .ok (.aload_n 0, 1) := by decide +kernel
theorem dX12_keeps_73 : decode cX12_keeps 73 = .ok (.iconst 1, 1) := by decide +kernel
theorem dX12_keeps_74 : decode cX12_keeps 74 = .ok (.putfield 243, 3) := by decide +kernel
theorem dX12_keeps_77 : decode cX12_keeps 77 = .ok (.aload_n 0, 1) := by decide +kernel
theorem dX12_keeps_78 : decode cX12_keeps 78 = .ok (.aload_n 0, 1) := by decide +kernel
theorem dX12_keeps_79 : decode cX12_keeps 79 = .ok (.invokevirtual 249, 3) := by decide +kernel
theorem dX12_keeps_82 : decode cX12_keeps 82 = .ok (.putfield 424, 3) := by decide +kernel
theorem dX12_keeps_85 : decode cX12_keeps 85 = .ok (.iconst 0, 1) := by decide +kernel
theorem dX12_keeps_86 : decode cX12_keeps 86 = .ok (.istore_n 1, 1) := by decide +kernel
theorem dX12_keeps_87 : decode cX12_keeps 87 = .ok (.iload_n 1, 1) := by decide +kernel
theorem dX12_keeps_88 : decode cX12_keeps 88 = .ok (.iconst 4, 1) := by decide +kernel
theorem dX12_keeps_89 : decode cX12_keeps 89 = .ok (.if_icmp .ge 43, 3) := by decide +kernel
theorem dX12_keeps_92 : decode cX12_keeps 92 = .ok (.iconst 0, 1) := by decide +kernel
theorem dX12_keeps_93 : decode cX12_keeps 93 = .ok (.istore_n 2, 1) := by decide +kernel
theorem dX12_keeps_94 : decode cX12_keeps 94 = .ok (.iload_n 2, 1) := by decide +kernel
theorem dX12_keeps_95 : decode cX12_keeps 95 = .ok (.aload_n 0, 1) := by decide +kernel
theorem dX12_keeps_96 : decode cX12_keeps 96 = .ok (.invokevirtual 249, 3) := by decide +kernel
theorem dX12_keeps_99 : decode cX12_keeps 99 = .ok (.if_icmp .ge 27, 3) := by decide +kernel
theorem dX12_keeps_102 : decode cX12_keeps 102 = .ok (.aload_n 0, 1) := by decide +kernel
theorem dX12_keeps_103 : decode cX12_keeps 103 = .ok (.getfield 104, 3) := by decide +kernel
theorem dX12_keeps_106 : decode cX12_keeps 106 = .ok (.bipush 30, 2) := by decide +kernel
theorem dX12_keeps_108 : decode cX12_keeps 108 = .ok (.iload_n 1, 1) := by decide +kernel
theorem dX12_keeps_109 : decode cX12_keeps 109 = .ok (.imul, 1) := by decide +kernel
theorem dX12_keeps_110 : decode cX12_keeps 110 = .ok (.iload_n 2, 1) := by decide +kernel
theorem dX12_keeps_111 : decode cX12_keeps 111 = .ok (.iadd, 1) := by decide +kernel
theorem dX12_keeps_112 : decode cX12_keeps 112 = .ok (.aload_n 0, 1) := by decide +kernel
theorem dX12_keeps_113 : decode cX12_keeps 113 = .ok (.iload_n 2, 1) := by decide +kernel
theorem dX12_keeps_114 : decode cX12_keeps 114 = .ok (.iload_n 1, 1) := by decide +kernel
theorem dX12_keeps_115 : decode cX12_keeps 115 = .ok (.iconst 0, 1) := by decide +kernel
theorem dX12_keeps_116 : decode cX12_keeps 116 = .ok (.invokevirtual 353, 3) := by decide +kernel
theorem dX12_keeps_119 : decode cX12_keeps 119 = .ok (.iastore, 1) := by decide +kernel
theorem dX12_keeps_120 : decode cX12_keeps 120 = .ok (.iinc 2 1, 3) := by decide +kernel
theorem dX12_keeps_123 : decode cX12_keeps 123 = .ok (.goto (-29), 3) := by decide +kernel
theorem dX12_keeps_126 : decode cX12_keeps 126 = .ok (.iinc 1 1, 3) := by decide +kernel
theorem dX12_keeps_129 : decode cX12_keeps 129 = .ok (.goto (-42), 3) := by decide +kernel
theorem dX12_keeps_132 : decode cX12_keeps 132 = .ok (.return_, 1) := by decide +kernel
theorem dX12_changed_0 : decode cX12_changed 0 = .ok (.aload_n 0, 1) := by decide +kernel
theorem dX12_changed_1 : decode cX12_changed 1 = .ok (.getfield 243, 3) := by decide +kernel
theorem dX12_changed_4 : decode cX12_changed 4 = .ok (.ifCond .eq 15, 3) := by decide +kernel
theorem dX12_changed_7 : decode cX12_changed 7 = .ok (.iload_n 1, 1) := by decide +kernel
theorem dX12_changed_8 : decode cX12_changed 8 = .ok (.i2l, 1) := by decide +kernel
theorem dX12_changed_9 : decode cX12_changed 9 = .ok (.lconst 0, 1) := by decide +kernel
theorem dX12_changed_10 : decode cX12_changed 10 = .ok (.ldc2_w 349, 3) := by decide +kernel
theorem dX12_changed_13 : decode cX12_changed 13 = .ok (.invokestatic 127, 3) := by decide +kernel
theorem dX12_changed_16 : decode cX12_changed 16 = .ok (.ifCond .ne 5, 3) := by decide +kernel
theorem dX12_changed_19 : decode cX12_changed 19 = .ok (.iconst (-1), 1) := by decide +kernel
theorem dX12_changed_20 : decode cX12_changed 20 = .ok (.ireturn, 1) := by decide +kernel
theorem dX12_changed_21 : decode cX12_changed 21 = .ok (.aload_n 0, 1) := by decide +kernel
theorem dX12_changed_22 : decode cX12_changed 22 = .ok (.invokevirtual 320, 3) := by decide +kernel
theorem dX12_changed_25 : decode cX12_changed 25 = .ok (.iconst 0, 1) := by decide +kernel
theorem dX12_changed_26 : decode cX12_changed 26 = .ok (.istore_n 2, 1) := by decide +kernel
theorem dX12_changed_27 : decode cX12_changed 27 = .ok (.iconst 0, 1) := by decide +kernel
theorem dX12_changed_28 : decode cX12_changed 28 = .ok (.istore_n 3, 1) := by decide +kernel
theorem dX12_changed_29 : decode cX12_changed 29 = .ok (.iload_n 3, 1) := by decide +kernel
theorem dX12_changed_30 : decode cX12_changed 30 = .ok (.aload_n 0, 1) := by decide +kernel
theorem dX12_changed_31 : decode cX12_changed 31 = .ok (.invokevirtual 249, 3) := by decide +kernel
theorem dX12_changed_34 : decode cX12_changed 34 = .ok (.if_icmp .ge 49, 3) := by decide +kernel
theorem dX12_changed_37 : decode cX12_changed 37 = .ok (.iload_n 3, 1) := by decide +kernel
theorem dX12_changed_38 : decode cX12_changed 38 = .ok (.aload_n 0, 1) := by decide +kernel
theorem dX12_changed_39 : decode cX12_changed 39 = .ok (.getfield 424, 3) := by decide +kernel
theorem dX12_changed_42 : decode cX12_changed 42 = .ok (.if_icmp .ge 41, 3) := by decide +kernel
theorem dX12_changed_45 : decode cX12_changed 45 = .ok (.iload_n 2, 1) := by decide +kernel
theorem dX12_changed_46 : decode cX12_changed 46 = .ok (.aload_n 0, 1) := by decide +kernel
theorem dX12_changed_47 : decode cX12_changed 47 = .ok (.iload_n 3, 1) := by decide +kernel
theorem dX12_changed_48 : decode cX12_changed 48 = .ok (.iload_n 1, 1) := by decide +kernel
theorem dX12_changed_49 : decode cX12_changed 49 = .ok (.iconst 0, 1) := by decide +kernel
theorem dX12_changed_50 : decode cX12_changed 50 = .ok (.invokevirtual 353, 3) := by decide +kernel
theorem dX12_changed_53 : decode cX12_changed 53 = .ok (.aload_n 0, 1) := by decide +kernel
theorem dX12_changed_54 : decode cX12_changed 54 = .ok (.getfield 104, 3) := by decide +kernel
theorem dX12_changed_57 : decode cX12_changed 57 = .ok (.bipush 30, 2) := by decide +kernel
theorem dX12_changed_59 : decode cX12_changed 59 = .ok (.iload_n 1, 1) := by decide +kernel
theorem dX12_changed_60 : decode cX12_changed 60 = .ok (.imul, 1) := by decide +kernel
theorem dX12_changed_61 : decode cX12_changed 61 = .ok (.iload_n 3, 1) := by decide +kernel
theorem dX12_changed_62 : decode cX12_changed 62 = .ok (.iadd, 1) := by decide +kernel
theorem dX12_changed_63 : decode cX12_changed 63 = .ok (.iaload, 1) := by decide +kernel
theorem dX12_changed_64 : decode cX12_changed 64 = .ok (.if_icmp .eq 7, 3) := by decide +kernel
theorem dX12_changed_67 : decode cX12_changed 67 = .ok (.iconst 1, 1) := by decide +kernel
theorem dX12_changed_68 : decode cX12_changed 68 = .ok (.goto 4, 3) := by decide +kernel
theorem dX12_changed_71 : decode cX12_changed 71 = .ok (.iconst 0, 1) := by decide +kernel
theorem dX12_changed_72 : decode cX12_changed 72 = .ok (.invokestatic 255, 3) := by decide +kernel
theorem dX12_changed_75 : decode cX12_changed 75 = .ok (.iadd, 1) := by decide +kernel
theorem dX12_changed_76 : decode cX12_changed 76 = .ok (.istore_n 2, 1) := by decide +kernel
theorem dX12_changed_77 : decode cX12_changed 77 = .ok (.iinc 3 1, 3) := by decide +kernel
theorem dX12_changed_80 : decode cX12_changed 80 = .ok (.goto (-51), 3) := by decide +kernel
theorem dX12_changed_83 : decode cX12_changed 83 = .ok (.iload_n 2, 1) := by decide +kernel
theorem dX12_changed_84 : decode cX12_changed 84 = .ok (.ireturn, 1) := by decide +kernel
theorem dX12_undo_0 : decode cX12_undo 0 = .ok (.aload_n 0, 1) := by decide +kernel
theorem dX12_undo_1 : decode cX12_undo 1 = .ok (.getfield 237, 3) := by decide +kernel
theorem dX12_undo_4 : decode cX12_undo 4 = .ok (.ifCond .ne 9, 3) := by decide +kernel
theorem dX12_undo_7 : decode cX12_undo 7 = .ok (.aload_n 0, 1) := by decide +kernel
theorem dX12_undo_8 : decode cX12_undo 8 = .ok (.iconst 4, 1) := by decide +kernel
theorem dX12_undo_9 : decode cX12_undo 9 = .ok (.invokevirtual 121, 3) := by decide +kernel
theorem dX12_undo_12 : decode cX12_undo 12 = .ok (.ireturn, 1) := by decide +kernel
theorem dX12_undo_13 : decode cX12_undo 13 = .ok (.iconst 0, 1) := by decide +kernel
theorem dX12_undo_14 : decode cX12_undo 14 = .ok (.istore_n 1, 1) := by decide +kernel
theorem dX12_undo_15 : decode cX12_undo 15 = .ok (.iload_n 1, 1) := by decide +kernel
theorem dX12_undo_16 : decode cX12_undo 16 = .ok (.sipush 183, 3) := by decide +kernel
theorem dX12_undo_19 : decode cX12_undo 19 = .ok (.if_icmp .ge 30, 3) := by decide +kernel
theorem dX12_undo_22 : decode cX12_undo 22 = .ok (.aload_n 0, 1) := by decide +kernel
theorem dX12_undo_23 : decode cX12_undo 23 = .ok (.getfield 27, 3) := by decide +kernel
theorem dX12_undo_26 : decode cX12_undo 26 = .ok (.iload_n 1, 1) := by decide +kernel
theorem dX12_undo_27 : decode cX12_undo 27 = .ok (.aload_n 0, 1) := by decide +kernel
theorem dX12_undo_28 : decode cX12_undo 28 = .ok (.getfield 101, 3) := by decide +kernel
theorem dX12_undo_31 : decode cX12_undo 31 = .ok (.sipush 183, 3) := by decide +kernel
theorem dX12_undo_34 : decode cX12_undo 34 = .ok (.aload_n 0, 1) := by decide +kernel
theorem dX12_undo_35 : decode cX12_undo 35 = .ok (.getfield 421, 3) := by decide +kernel
theorem dX12_undo_38 : decode cX12_undo 38 = .ok (.imul, 1) := by decide +kernel
theorem dX12_undo_39 : decode cX12_undo 39 = .ok (.iload_n 1, 1) := by decide +kernel
theorem dX12_undo_40 : decode cX12_undo 40 = .ok (.iadd, 1) := by decide +kernel
theorem dX12_undo_41 : decode cX12_undo 41 = .ok (.iaload, 1) := by decide +kernel
theorem dX12_undo_42 : decode cX12_undo 42 = .ok (.iastore, 1) := by decide +kernel
theorem dX12_undo_43 : decode cX12_undo 43 = .ok (.iinc 1 1, 3) := by decide +kernel
theorem dX12_undo_46 : decode cX12_undo 46 = .ok (.goto (-31), 3) := by decide +kernel
theorem dX12_undo_49 : decode cX12_undo 49 = .ok (.aload_n 0, 1) := by decide +kernel
theorem dX12_undo_50 : decode cX12_undo 50 = .ok (.aload_n 0, 1) := by decide +kernel
theorem dX12_undo_51 : decode cX12_undo 51 = .ok (.getfield 421, 3) := by decide +kernel
theorem dX12_undo_54 : decode cX12_undo 54 = .ok (.bipush 20, 2) := by decide +kernel
theorem dX12_undo_56 : decode cX12_undo 56 = .ok (.iadd, 1) := by decide +kernel
theorem dX12_undo_57 : decode cX12_undo 57 = .ok (.iconst 1, 1) := by decide +kernel
theorem dX12_undo_58 : decode cX12_undo 58 = .ok (.isub, 1) := by decide +kernel
theorem dX12_undo_59 : decode cX12_undo 59 = .ok (.bipush 20, 2) := by decide +kernel
theorem dX12_undo_61 : decode cX12_undo 61 = .ok (.irem, 1) := by decide +kernel
theorem dX12_undo_62 : decode cX12_undo 62 = .ok (.putfield 421, 3) := by decide +kernel
theorem dX12_undo_65 : decode cX12_undo 65 = .ok (.aload_n 0, 1) := by decide +kernel
theorem dX12_undo_66 : decode cX12_undo 66 = .ok (.dup, 1) := by decide +kernel
theorem dX12_undo_67 : decode cX12_undo 67 = .ok (.getfield 237, 3) := by decide +kernel
theorem dX12_undo_70 : decode cX12_undo 70 = .ok (.iconst 1, 1) := by decide +kernel
theorem dX12_undo_71 : decode cX12_undo 71 = .ok (.isub, 1) := by decide +kernel
theorem dX12_undo_72 : decode cX12_undo 72 = .ok (.putfield 237, 3) := by decide +kernel
theorem dX12_undo_75 : decode cX12_undo 75 = .ok (.aload_n 0, 1) := by decide +kernel
theorem dX12_undo_76 : decode cX12_undo 76 = .ok (.iconst 0, 1) := by decide +kernel
theorem dX12_undo_77 : decode cX12_undo 77 = .ok (.putfield 243, 3) := by decide +kernel
theorem dX12_undo_80 : decode cX12_undo 80 = .ok (.aload_n 0, 1) := by decide +kernel
theorem dX12_undo_81 : decode cX12_undo 81 = .ok (.invokevirtual 379, 3) := by decide +kernel
theorem dX12_undo_84 : decode cX12_undo 84 = .ok (.iconst 1, 1) := by decide +kernel
theorem dX12_undo_85 : decode cX12_undo 85 = .ok (.ireturn, 1) := by decide +kernel
theorem dX12_canAdd_0 : decode cX12_canAdd 0 = .ok (.aload_n 0, 1) := by decide +kernel
theorem dX12_canAdd_1 : decode cX12_canAdd 1 = .ok (.iload_n 1, 1) := by decide +kernel
theorem dX12_canAdd_2 : decode cX12_canAdd 2 = .ok (.invokevirtual 338, 3) := by decide +kernel
theorem dX12_canAdd_5 : decode cX12_canAdd 5 = .ok (.ifCond .eq 37, 3) := by decide +kernel
theorem dX12_canAdd_8 : decode cX12_canAdd 8 = .ok (.aload_n 0, 1) := by decide +kernel
theorem dX12_canAdd_9 : decode cX12_canAdd 9 = .ok (.iload_n 2, 1) := by decide +kernel
theorem dX12_canAdd_10 : decode cX12_canAdd 10 = .ok (.invokevirtual 338, 3) := by decide +kernel
theorem dX12_canAdd_13 : decode cX12_canAdd 13 = .ok (.ifCond .eq 29, 3) := by decide +kernel
theorem dX12_canAdd_16 : decode cX12_canAdd 16 = .ok (.aload_n 0, 1) := by decide +kernel
theorem dX12_canAdd_17 : decode cX12_canAdd 17 = .ok (.invokevirtual 249, 3) := by decide +kernel
theorem dX12_canAdd_20 : decode cX12_canAdd 20 = .ok (.bipush 30, 2) := by decide +kernel
theorem dX12_canAdd_22 : decode cX12_canAdd 22 = .ok (.if_icmp .ge 20, 3) := by decide +kernel
theorem dX12_canAdd_25 : decode cX12_canAdd 25 = .ok (.aload_n 0, 1) := by decide +kernel
theorem dX12_canAdd_26 : decode cX12_canAdd 26 = .ok (.getfield 27, 3) := by decide +kernel
theorem dX12_canAdd_29 : decode cX12_canAdd 29 = .ok (.iload_n 2, 1) := by decide +kernel
theorem dX12_canAdd_30 : decode cX12_canAdd 30 = .ok (.iload_n 1, 1) := by decide +kernel
theorem dX12_canAdd_31 : decode cX12_canAdd 31 = .ok (.iconst (-1), 1) := by decide +kernel
theorem dX12_canAdd_32 : decode cX12_canAdd 32 = .ok (.invokestatic 204, 3) := by decide +kernel
theorem dX12_canAdd_35 : decode cX12_canAdd 35 = .ok (.ifCond .ne 7, 3) := by decide +kernel
theorem dX12_canAdd_38 : decode cX12_canAdd 38 = .ok (.iconst 1, 1) := by decide +kernel
theorem dX12_canAdd_39 : decode cX12_canAdd 39 = .ok (.goto 4, 3) := by decide +kernel
theorem dX12_canAdd_42 : decode cX12_canAdd 42 = .ok (.iconst 0, 1) := by decide +kernel
theorem dX12_canAdd_43 : decode cX12_canAdd 43 = .ok (.ireturn, 1) := by decide +kernel
theorem dX12_add_0 : decode cX12_add 0 = .ok (.aload_n 0, 1) := by decide +kernel
theorem dX12_add_1 : decode cX12_add 1 = .ok (.iload_n 1, 1) := by decide +kernel
theorem dX12_add_2 : decode cX12_add 2 = .ok (.iload_n 2, 1) := by decide +kernel
theorem dX12_add_3 : decode cX12_add 3 = .ok (.invokevirtual 427, 3) := by decide +kernel
theorem dX12_add_6 : decode cX12_add 6 = .ok (.ifCond .eq 28, 3) := by decide +kernel
theorem dX12_add_9 : decode cX12_add 9 = .ok (.iload_n 3, 1) := by decide +kernel
theorem dX12_add_10 : decode cX12_add 10 = .ok (.i2l, 1) := by decide +kernel
theorem dX12_add_11 : decode cX12_add 11 = .ok (.lconst 1, 1) := by decide +kernel
theorem dX12_add_12 : decode cX12_add 12 = .ok (.ldc2_w 430, 3) := by decide +kernel
theorem dX12_add_15 : decode cX12_add 15 = .ok (.invokestatic 127, 3) := by decide +kernel
theorem dX12_add_18 : decode cX12_add 18 = .ok (.ifCond .eq 16, 3) := by decide +kernel
theorem dX12_add_21 : decode cX12_add 21 = .ok (.iload 4, 2) := by decide +kernel
theorem dX12_add_23 : decode cX12_add 23 = .ok (.i2l, 1) := by decide +kernel
theorem dX12_add_24 : decode cX12_add 24 = .ok (.lconst 0, 1) := by decide +kernel
theorem dX12_add_25 : decode cX12_add 25 = .ok (.ldc2_w 430, 3) := by decide +kernel
theorem dX12_add_28 : decode cX12_add 28 = .ok (.invokestatic 127, 3) := by decide +kernel
theorem dX12_add_31 : decode cX12_add 31 = .ok (.ifCond .ne 9, 3) := by decide +kernel
theorem dX12_add_34 : decode cX12_add 34 = .ok (.aload_n 0, 1) := by decide +kernel
theorem dX12_add_35 : decode cX12_add 35 = .ok (.iconst 2, 1) := by decide +kernel
theorem dX12_add_36 : decode cX12_add 36 = .ok (.invokevirtual 117, 3) := by decide +kernel
theorem dX12_add_39 : decode cX12_add 39 = .ok (.ireturn, 1) := by decide +kernel
theorem dX12_add_40 : decode cX12_add 40 = .ok (.aload_n 0, 1) := by decide +kernel
theorem dX12_add_41 : decode cX12_add 41 = .ok (.invokevirtual 432, 3) := by decide +kernel
theorem dX12_add_44 : decode cX12_add 44 = .ok (.aload_n 0, 1) := by decide +kernel
theorem dX12_add_45 : decode cX12_add 45 = .ok (.getfield 27, 3) := by decide +kernel
theorem dX12_add_48 : decode cX12_add 48 = .ok (.iload_n 1, 1) := by decide +kernel
theorem dX12_add_49 : decode cX12_add 49 = .ok (.iload_n 2, 1) := by decide +kernel
theorem dX12_add_50 : decode cX12_add 50 = .ok (.iload_n 3, 1) := by decide +kernel
theorem dX12_add_51 : decode cX12_add 51 = .ok (.iload 4, 2) := by decide +kernel
theorem dX12_add_53 : decode cX12_add 53 = .ok (.iconst (-1), 1) := by decide +kernel
theorem dX12_add_54 : decode cX12_add 54 = .ok (.invokestatic 214, 3) := by decide +kernel
theorem dX12_add_57 : decode cX12_add 57 = .ok (.aload_n 0, 1) := by decide +kernel
theorem dX12_add_58 : decode cX12_add 58 = .ok (.invokevirtual 379, 3) := by decide +kernel
theorem dX12_add_61 : decode cX12_add 61 = .ok (.aload_n 0, 1) := by decide +kernel
theorem dX12_add_62 : decode cX12_add 62 = .ok (.invokevirtual 249, 3) := by decide +kernel
theorem dX12_add_65 : decode cX12_add 65 = .ok (.iconst 1, 1) := by decide +kernel
theorem dX12_add_66 : decode cX12_add 66 = .ok (.isub, 1) := by decide +kernel
theorem dX12_add_67 : decode cX12_add 67 = .ok (.ireturn, 1) := by decide +kernel
theorem dX12_drop_0 : decode cX12_drop 0 = .ok (.aload_n 0, 1) := by decide +kernel
theorem dX12_drop_1 : decode cX12_drop 1 = .ok (.iload_n 1, 1) := by decide +kernel
theorem dX12_drop_2 : decode cX12_drop 2 = .ok (.invokevirtual 344, 3) := by decide +kernel
theorem dX12_drop_5 : decode cX12_drop 5 = .ok (.ifCond .ne 9, 3) := by decide +kernel
theorem dX12_drop_8 : decode cX12_drop 8 = .ok (.aload_n 0, 1) := by decide +kernel
theorem dX12_drop_9 : decode cX12_drop 9 = .ok (.iconst 2, 1) := by decide +kernel
theorem dX12_drop_10 : decode cX12_drop 10 = .ok (.invokevirtual 121, 3) := by decide +kernel
theorem dX12_drop_13 : decode cX12_drop 13 = .ok (.ireturn, 1) := by decide +kernel
theorem dX12_drop_14 : decode cX12_drop 14 = .ok (.aload_n 0, 1) := by decide +kernel
theorem dX12_drop_15 : decode cX12_drop 15 = .ok (.invokevirtual 432, 3) := by decide +kernel
theorem dX12_drop_18 : decode cX12_drop 18 = .ok (.aload_n 0, 1) := by decide +kernel
theorem dX12_drop_19 : decode cX12_drop 19 = .ok (.iload_n 1, 1) := by decide +kernel
theorem dX12_drop_20 : decode cX12_drop 20 = .ok (.invokevirtual 394, 3) := by decide +kernel
theorem dX12_drop_23 : decode cX12_drop 23 = .ok (.iconst 1, 1) := by decide +kernel
theorem dX12_drop_24 : decode cX12_drop 24 = .ok (.ireturn, 1) := by decide +kernel
theorem dX12_canCut_0 : decode cX12_canCut 0 = .ok (.aload_n 0, 1) := by decide +kernel
theorem dX12_canCut_1 : decode cX12_canCut 1 = .ok (.iload_n 1, 1) := by decide +kernel
theorem dX12_canCut_2 : decode cX12_canCut 2 = .ok (.invokevirtual 344, 3) := by decide +kernel
theorem dX12_canCut_5 : decode cX12_canCut 5 = .ok (.ifCond .eq 43, 3) := by decide +kernel
theorem dX12_canCut_8 : decode cX12_canCut 8 = .ok (.iload_n 2, 1) := by decide +kernel
theorem dX12_canCut_9 : decode cX12_canCut 9 = .ok (.i2l, 1) := by decide +kernel
theorem dX12_canCut_10 : decode cX12_canCut 10 = .ok (.lconst 1, 1) := by decide +kernel
theorem dX12_canCut_11 : decode cX12_canCut 11 = .ok (.aload_n 0, 1) := by decide +kernel
theorem dX12_canCut_12 : decode cX12_canCut 12 = .ok (.iload_n 1, 1) := by decide +kernel
theorem dX12_canCut_13 : decode cX12_canCut 13 = .ok (.iconst 2, 1) := by decide +kernel
theorem dX12_canCut_14 : decode cX12_canCut 14 = .ok (.invokevirtual 252, 3) := by decide +kernel
theorem dX12_canCut_17 : decode cX12_canCut 17 = .ok (.iconst 1, 1) := by decide +kernel
theorem dX12_canCut_18 : decode cX12_canCut 18 = .ok (.isub, 1) := by decide +kernel
theorem dX12_canCut_19 : decode cX12_canCut 19 = .ok (.i2l, 1) := by decide +kernel
theorem dX12_canCut_20 : decode cX12_canCut 20 = .ok (.invokestatic 127, 3) := by decide +kernel
theorem dX12_canCut_23 : decode cX12_canCut 23 = .ok (.ifCond .eq 25, 3) := by decide +kernel
theorem dX12_canCut_26 : decode cX12_canCut 26 = .ok (.aload_n 0, 1) := by decide +kernel
theorem dX12_canCut_27 : decode cX12_canCut 27 = .ok (.invokevirtual 246, 3) := by decide +kernel
theorem dX12_canCut_30 : decode cX12_canCut 30 = .ok (.bipush 20, 2) := by decide +kernel
theorem dX12_canCut_32 : decode cX12_canCut 32 = .ok (.if_icmp .ge 16, 3) := by decide +kernel
theorem dX12_canCut_35 : decode cX12_canCut 35 = .ok (.aload_n 0, 1) := by decide +kernel
theorem dX12_canCut_36 : decode cX12_canCut 36 = .ok (.invokevirtual 249, 3) := by decide +kernel
theorem dX12_canCut_39 : decode cX12_canCut 39 = .ok (.bipush 30, 2) := by decide +kernel
theorem dX12_canCut_41 : decode cX12_canCut 41 = .ok (.if_icmp .ge 7, 3) := by decide +kernel
theorem dX12_canCut_44 : decode cX12_canCut 44 = .ok (.iconst 1, 1) := by decide +kernel
theorem dX12_canCut_45 : decode cX12_canCut 45 = .ok (.goto 4, 3) := by decide +kernel
theorem dX12_canCut_48 : decode cX12_canCut 48 = .ok (.iconst 0, 1) := by decide +kernel
theorem dX12_canCut_49 : decode cX12_canCut 49 = .ok (.ireturn, 1) := by decide +kernel
theorem dX12_cuts_0 : decode cX12_cuts 0 = .ok (.aload_n 0, 1) := by decide +kernel
theorem dX12_cuts_1 : decode cX12_cuts 1 = .ok (.invokevirtual 246, 3) := by decide +kernel
theorem dX12_cuts_4 : decode cX12_cuts 4 = .ok (.istore_n 3, 1) := by decide +kernel
theorem dX12_cuts_5 : decode cX12_cuts 5 = .ok (.aload_n 0, 1) := by decide +kernel
theorem dX12_cuts_6 : decode cX12_cuts 6 = .ok (.getfield 27, 3) := by decide +kernel
theorem dX12_cuts_9 : decode cX12_cuts 9 = .ok (.iconst 3, 1) := by decide +kernel
theorem dX12_cuts_10 : decode cX12_cuts 10 = .ok (.iload_n 3, 1) := by decide +kernel
theorem dX12_cuts_11 : decode cX12_cuts 11 = .ok (.iadd, 1) := by decide +kernel
theorem dX12_cuts_12 : decode cX12_cuts 12 = .ok (.iconst 0, 1) := by decide +kernel
theorem dX12_cuts_13 : decode cX12_cuts 13 = .ok (.iastore, 1) := by decide +kernel
theorem dX12_cuts_14 : decode cX12_cuts 14 = .ok (.aload_n 0, 1) := by decide +kernel
theorem dX12_cuts_15 : decode cX12_cuts 15 = .ok (.getfield 27, 3) := by decide +kernel
theorem dX12_cuts_18 : decode cX12_cuts 18 = .ok (.iconst 0, 1) := by decide +kernel
theorem dX12_cuts_19 : decode cX12_cuts 19 = .ok (.dup2, 1) := by decide +kernel
theorem dX12_cuts_20 : decode cX12_cuts 20 = .ok (.iaload, 1) := by decide +kernel
theorem dX12_cuts_21 : decode cX12_cuts 21 = .ok (.iconst 1, 1) := by decide +kernel
theorem dX12_cuts_22 : decode cX12_cuts 22 = .ok (.iadd, 1) := by decide +kernel
theorem dX12_cuts_23 : decode cX12_cuts 23 = .ok (.iastore, 1) := by decide +kernel
theorem dX12_cuts_24 : decode cX12_cuts 24 = .ok (.aload_n 0, 1) := by decide +kernel
theorem dX12_cuts_25 : decode cX12_cuts 25 = .ok (.getfield 27, 3) := by decide +kernel
theorem dX12_cuts_28 : decode cX12_cuts 28 = .ok (.iload_n 3, 1) := by decide +kernel
theorem dX12_cuts_29 : decode cX12_cuts 29 = .ok (.aload_n 0, 1) := by decide +kernel
theorem dX12_cuts_30 : decode cX12_cuts 30 = .ok (.iload_n 1, 1) := by decide +kernel
theorem dX12_cuts_31 : decode cX12_cuts 31 = .ok (.iconst 1, 1) := by decide +kernel
theorem dX12_cuts_32 : decode cX12_cuts 32 = .ok (.invokevirtual 252, 3) := by decide +kernel
theorem dX12_cuts_35 : decode cX12_cuts 35 = .ok (.aload_n 0, 1) := by decide +kernel
theorem dX12_cuts_36 : decode cX12_cuts 36 = .ok (.iload_n 1, 1) := by decide +kernel
theorem dX12_cuts_37 : decode cX12_cuts 37 = .ok (.iconst 2, 1) := by decide +kernel
theorem dX12_cuts_38 : decode cX12_cuts 38 = .ok (.invokevirtual 252, 3) := by decide +kernel
theorem dX12_cuts_41 : decode cX12_cuts 41 = .ok (.iload_n 2, 1) := by decide +kernel
theorem dX12_cuts_42 : decode cX12_cuts 42 = .ok (.isub, 1) := by decide +kernel
theorem dX12_cuts_43 : decode cX12_cuts 43 = .ok (.iconst 0, 1) := by decide +kernel
theorem dX12_cuts_44 : decode cX12_cuts 44 = .ok (.aload_n 0, 1) := by decide +kernel
theorem dX12_cuts_45 : decode cX12_cuts 45 = .ok (.iload_n 1, 1) := by decide +kernel
theorem dX12_cuts_46 : decode cX12_cuts 46 = .ok (.iconst 4, 1) := by decide +kernel
theorem dX12_cuts_47 : decode cX12_cuts 47 = .ok (.invokevirtual 252, 3) := by decide +kernel
theorem dX12_cuts_50 : decode cX12_cuts 50 = .ok (.invokestatic 214, 3) := by decide +kernel
theorem dX12_cuts_53 : decode cX12_cuts 53 = .ok (.aload_n 0, 1) := by decide +kernel
theorem dX12_cuts_54 : decode cX12_cuts 54 = .ok (.getfield 27, 3) := by decide +kernel
theorem dX12_cuts_57 : decode cX12_cuts 57 = .ok (.iload_n 1, 1) := by decide +kernel
theorem dX12_cuts_58 : decode cX12_cuts 58 = .ok (.iconst 1, 1) := by decide +kernel
theorem dX12_cuts_59 : decode cX12_cuts 59 = .ok (.invokestatic 183, 3) := by decide +kernel
theorem dX12_cuts_62 : decode cX12_cuts 62 = .ok (.iload_n 3, 1) := by decide +kernel
theorem dX12_cuts_63 : decode cX12_cuts 63 = .ok (.iastore, 1) := by decide +kernel
theorem dX12_cuts_64 : decode cX12_cuts 64 = .ok (.aload_n 0, 1) := by decide +kernel
theorem dX12_cuts_65 : decode cX12_cuts 65 = .ok (.getfield 27, 3) := by decide +kernel
theorem dX12_cuts_68 : decode cX12_cuts 68 = .ok (.iload_n 1, 1) := by decide +kernel
theorem dX12_cuts_69 : decode cX12_cuts 69 = .ok (.iconst 2, 1) := by decide +kernel
theorem dX12_cuts_70 : decode cX12_cuts 70 = .ok (.invokestatic 183, 3) := by decide +kernel
theorem dX12_cuts_73 : decode cX12_cuts 73 = .ok (.iload_n 2, 1) := by decide +kernel
theorem dX12_cuts_74 : decode cX12_cuts 74 = .ok (.iastore, 1) := by decide +kernel
theorem dX12_cuts_75 : decode cX12_cuts 75 = .ok (.aload_n 0, 1) := by decide +kernel
theorem dX12_cuts_76 : decode cX12_cuts 76 = .ok (.invokevirtual 379, 3) := by decide +kernel
theorem dX12_cuts_79 : decode cX12_cuts 79 = .ok (.return_, 1) := by decide +kernel
theorem dX12_cut_0 : decode cX12_cut 0 = .ok (.aload_n 0, 1) := by decide +kernel
theorem dX12_cut_1 : decode cX12_cut 1 = .ok (.iload_n 1, 1) := by decide +kernel
theorem dX12_cut_2 : decode cX12_cut 2 = .ok (.iload_n 2, 1) := by decide +kernel
theorem dX12_cut_3 : decode cX12_cut 3 = .ok (.invokevirtual 435, 3) := by decide +kernel
theorem dX12_cut_6 : decode cX12_cut 6 = .ok (.ifCond .ne 9, 3) := by decide +kernel
theorem dX12_cut_9 : decode cX12_cut 9 = .ok (.aload_n 0, 1) := by decide +kernel
theorem dX12_cut_10 : decode cX12_cut 10 = .ok (.iconst 2, 1) := by decide +kernel
theorem dX12_cut_11 : decode cX12_cut 11 = .ok (.invokevirtual 117, 3) := by decide +kernel
theorem dX12_cut_14 : decode cX12_cut 14 = .ok (.ireturn, 1) := by decide +kernel
theorem dX12_cut_15 : decode cX12_cut 15 = .ok (.aload_n 0, 1) := by decide +kernel
theorem dX12_cut_16 : decode cX12_cut 16 = .ok (.invokevirtual 432, 3) := by decide +kernel
theorem dX12_cut_19 : decode cX12_cut 19 = .ok (.aload_n 0, 1) := by decide +kernel
theorem dX12_cut_20 : decode cX12_cut 20 = .ok (.iload_n 1, 1) := by decide +kernel
theorem dX12_cut_21 : decode cX12_cut 21 = .ok (.iload_n 2, 1) := by decide +kernel
theorem dX12_cut_22 : decode cX12_cut 22 = .ok (.invokevirtual 438, 3) := by decide +kernel
theorem dX12_cut_25 : decode cX12_cut 25 = .ok (.aload_n 0, 1) := by decide +kernel
theorem dX12_cut_26 : decode cX12_cut 26 = .ok (.invokevirtual 246, 3) := by decide +kernel
theorem dX12_cut_29 : decode cX12_cut 29 = .ok (.iconst 1, 1) := by decide +kernel
theorem dX12_cut_30 : decode cX12_cut 30 = .ok (.isub, 1) := by decide +kernel
theorem dX12_cut_31 : decode cX12_cut 31 = .ok (.ireturn, 1) := by decide +kernel
theorem dX12_turn_0 : decode cX12_turn 0 = .ok (.aload_n 0, 1) := by decide +kernel
theorem dX12_turn_1 : decode cX12_turn 1 = .ok (.iload_n 1, 1) := by decide +kernel
theorem dX12_turn_2 : decode cX12_turn 2 = .ok (.invokevirtual 382, 3) := by decide +kernel
theorem dX12_turn_5 : decode cX12_turn 5 = .ok (.ifCond .ne 9, 3) := by decide +kernel
theorem dX12_turn_8 : decode cX12_turn 8 = .ok (.aload_n 0, 1) := by decide +kernel
theorem dX12_turn_9 : decode cX12_turn 9 = .ok (.iconst 3, 1) := by decide +kernel
theorem dX12_turn_10 : decode cX12_turn 10 = .ok (.invokevirtual 121, 3) := by decide +kernel
theorem dX12_turn_13 : decode cX12_turn 13 = .ok (.ireturn, 1) := by decide +kernel
theorem dX12_turn_14 : decode cX12_turn 14 = .ok (.aload_n 0, 1) := by decide +kernel
theorem dX12_turn_15 : decode cX12_turn 15 = .ok (.invokevirtual 432, 3) := by decide +kernel
theorem dX12_turn_18 : decode cX12_turn 18 = .ok (.aload_n 0, 1) := by decide +kernel
theorem dX12_turn_19 : decode cX12_turn 19 = .ok (.iload_n 1, 1) := by decide +kernel
theorem dX12_turn_20 : decode cX12_turn 20 = .ok (.invokevirtual 388, 3) := by decide +kernel
theorem dX12_turn_23 : decode cX12_turn 23 = .ok (.iconst 1, 1) := by decide +kernel
theorem dX12_turn_24 : decode cX12_turn 24 = .ok (.ireturn, 1) := by decide +kernel
theorem dX12_gives_0 : decode cX12_gives 0 = .ok (.aload_n 0, 1) := by decide +kernel
theorem dX12_gives_1 : decode cX12_gives 1 = .ok (.iload_n 1, 1) := by decide +kernel
theorem dX12_gives_2 : decode cX12_gives 2 = .ok (.invokevirtual 344, 3) := by decide +kernel
theorem dX12_gives_5 : decode cX12_gives 5 = .ok (.ifCond .eq 25, 3) := by decide +kernel
theorem dX12_gives_8 : decode cX12_gives 8 = .ok (.iload_n 2, 1) := by decide +kernel
theorem dX12_gives_9 : decode cX12_gives 9 = .ok (.i2l, 1) := by decide +kernel
theorem dX12_gives_10 : decode cX12_gives 10 = .ok (.lconst 0, 1) := by decide +kernel
theorem dX12_gives_11 : decode cX12_gives 11 = .ok (.ldc2_w 430, 3) := by decide +kernel
theorem dX12_gives_14 : decode cX12_gives 14 = .ok (.invokestatic 127, 3) := by decide +kernel
theorem dX12_gives_17 : decode cX12_gives 17 = .ok (.ifCond .eq 13, 3) := by decide +kernel
theorem dX12_gives_20 : decode cX12_gives 20 = .ok (.aload_n 0, 1) := by decide +kernel
theorem dX12_gives_21 : decode cX12_gives 21 = .ok (.iload_n 1, 1) := by decide +kernel
theorem dX12_gives_22 : decode cX12_gives 22 = .ok (.iconst 3, 1) := by decide +kernel
theorem dX12_gives_23 : decode cX12_gives 23 = .ok (.invokevirtual 252, 3) := by decide +kernel
theorem dX12_gives_26 : decode cX12_gives 26 = .ok (.iload_n 2, 1) := by decide +kernel
theorem dX12_gives_27 : decode cX12_gives 27 = .ok (.if_icmp .ne 9, 3) := by decide +kernel
theorem dX12_gives_30 : decode cX12_gives 30 = .ok (.aload_n 0, 1) := by decide +kernel
theorem dX12_gives_31 : decode cX12_gives 31 = .ok (.iconst 3, 1) := by decide +kernel
theorem dX12_gives_32 : decode cX12_gives 32 = .ok (.invokevirtual 121, 3) := by decide +kernel
theorem dX12_gives_35 : decode cX12_gives 35 = .ok (.ireturn, 1) := by decide +kernel
theorem dX12_gives_36 : decode cX12_gives 36 = .ok (.aload_n 0, 1) := by decide +kernel
theorem dX12_gives_37 : decode cX12_gives 37 = .ok (.invokevirtual 432, 3) := by decide +kernel
theorem dX12_gives_40 : decode cX12_gives 40 = .ok (.aload_n 0, 1) := by decide +kernel
theorem dX12_gives_41 : decode cX12_gives 41 = .ok (.getfield 27, 3) := by decide +kernel
theorem dX12_gives_44 : decode cX12_gives 44 = .ok (.iload_n 1, 1) := by decide +kernel
theorem dX12_gives_45 : decode cX12_gives 45 = .ok (.iconst 3, 1) := by decide +kernel
theorem dX12_gives_46 : decode cX12_gives 46 = .ok (.invokestatic 183, 3) := by decide +kernel
theorem dX12_gives_49 : decode cX12_gives 49 = .ok (.iload_n 2, 1) := by decide +kernel
theorem dX12_gives_50 : decode cX12_gives 50 = .ok (.iastore, 1) := by decide +kernel
theorem dX12_gives_51 : decode cX12_gives 51 = .ok (.aload_n 0, 1) := by decide +kernel
theorem dX12_gives_52 : decode cX12_gives 52 = .ok (.invokevirtual 379, 3) := by decide +kernel
theorem dX12_gives_55 : decode cX12_gives 55 = .ok (.iconst 1, 1) := by decide +kernel
theorem dX12_gives_56 : decode cX12_gives 56 = .ok (.ireturn, 1) := by decide +kernel
theorem dX12_call_0 : decode cX12_call 0 = .ok (.aload_n 0, 1) := by decide +kernel
theorem dX12_call_1 : decode cX12_call 1 = .ok (.iload_n 1, 1) := by decide +kernel
theorem dX12_call_2 : decode cX12_call 2 = .ok (.invokevirtual 344, 3) := by decide +kernel
theorem dX12_call_5 : decode cX12_call 5 = .ok (.ifCond .eq 26, 3) := by decide +kernel
theorem dX12_call_8 : decode cX12_call 8 = .ok (.iload_n 2, 1) := by decide +kernel
theorem dX12_call_9 : decode cX12_call 9 = .ok (.iconst (-1), 1) := by decide +kernel
theorem dX12_call_10 : decode cX12_call 10 = .ok (.if_icmp .eq 11, 3) := by decide +kernel
theorem dX12_call_13 : decode cX12_call 13 = .ok (.aload_n 0, 1) := by decide +kernel
theorem dX12_call_14 : decode cX12_call 14 = .ok (.iload_n 2, 1) := by decide +kernel
theorem dX12_call_15 : decode cX12_call 15 = .ok (.invokevirtual 341, 3) := by decide +kernel
theorem dX12_call_18 : decode cX12_call 18 = .ok (.ifCond .eq 13, 3) := by decide +kernel
theorem dX12_call_21 : decode cX12_call 21 = .ok (.aload_n 0, 1) := by decide +kernel
theorem dX12_call_22 : decode cX12_call 22 = .ok (.iload_n 1, 1) := by decide +kernel
theorem dX12_call_23 : decode cX12_call 23 = .ok (.iconst 4, 1) := by decide +kernel
theorem dX12_call_24 : decode cX12_call 24 = .ok (.invokevirtual 252, 3) := by decide +kernel
theorem dX12_call_27 : decode cX12_call 27 = .ok (.iload_n 2, 1) := by decide +kernel
theorem dX12_call_28 : decode cX12_call 28 = .ok (.if_icmp .ne 9, 3) := by decide +kernel
theorem dX12_call_31 : decode cX12_call 31 = .ok (.aload_n 0, 1) := by decide +kernel
theorem dX12_call_32 : decode cX12_call 32 = .ok (.iconst 3, 1) := by decide +kernel
theorem dX12_call_33 : decode cX12_call 33 = .ok (.invokevirtual 121, 3) := by decide +kernel
theorem dX12_call_36 : decode cX12_call 36 = .ok (.ireturn, 1) := by decide +kernel
theorem dX12_call_37 : decode cX12_call 37 = .ok (.aload_n 0, 1) := by decide +kernel
theorem dX12_call_38 : decode cX12_call 38 = .ok (.invokevirtual 432, 3) := by decide +kernel
theorem dX12_call_41 : decode cX12_call 41 = .ok (.aload_n 0, 1) := by decide +kernel
theorem dX12_call_42 : decode cX12_call 42 = .ok (.getfield 27, 3) := by decide +kernel
theorem dX12_call_45 : decode cX12_call 45 = .ok (.iload_n 1, 1) := by decide +kernel
theorem dX12_call_46 : decode cX12_call 46 = .ok (.iconst 4, 1) := by decide +kernel
theorem dX12_call_47 : decode cX12_call 47 = .ok (.invokestatic 183, 3) := by decide +kernel
theorem dX12_call_50 : decode cX12_call 50 = .ok (.iload_n 2, 1) := by decide +kernel
theorem dX12_call_51 : decode cX12_call 51 = .ok (.iastore, 1) := by decide +kernel
theorem dX12_call_52 : decode cX12_call 52 = .ok (.aload_n 0, 1) := by decide +kernel
theorem dX12_call_53 : decode cX12_call 53 = .ok (.invokevirtual 379, 3) := by decide +kernel
theorem dX12_call_56 : decode cX12_call 56 = .ok (.iconst 1, 1) := by decide +kernel
theorem dX12_call_57 : decode cX12_call 57 = .ok (.ireturn, 1) := by decide +kernel
theorem dX12_seed_0 : decode cX12_seed 0 = .ok (.iload_n 1, 1) := by decide +kernel
theorem dX12_seed_1 : decode cX12_seed 1 = .ok (.ifCond .ge 9, 3) := by decide +kernel
theorem dX12_seed_4 : decode cX12_seed 4 = .ok (.aload_n 0, 1) := by decide +kernel
theorem dX12_seed_5 : decode cX12_seed 5 = .ok (.iconst 5, 1) := by decide +kernel
theorem dX12_seed_6 : decode cX12_seed 6 = .ok (.invokevirtual 121, 3) := by decide +kernel
theorem dX12_seed_9 : decode cX12_seed 9 = .ok (.ireturn, 1) := by decide +kernel
theorem dX12_seed_10 : decode cX12_seed 10 = .ok (.aload_n 0, 1) := by decide +kernel
theorem dX12_seed_11 : decode cX12_seed 11 = .ok (.iload_n 1, 1) := by decide +kernel
theorem dX12_seed_12 : decode cX12_seed 12 = .ok (.i2l, 1) := by decide +kernel
theorem dX12_seed_13 : decode cX12_seed 13 = .ok (.putfield 107, 3) := by decide +kernel
theorem dX12_seed_16 : decode cX12_seed 16 = .ok (.iconst 1, 1) := by decide +kernel
theorem dX12_seed_17 : decode cX12_seed 17 = .ok (.ireturn, 1) := by decide +kernel
theorem dX12_drawOf_0 : decode cX12_drawOf 0 = .ok (.aload_n 0, 1) := by decide +kernel
theorem dX12_drawOf_1 : decode cX12_drawOf 1 = .ok (.ldc2_w 441, 3) := by decide +kernel
theorem dX12_drawOf_4 : decode cX12_drawOf 4 = .ok (.aload_n 0, 1) := by decide +kernel
theorem dX12_drawOf_5 : decode cX12_drawOf 5 = .ok (.getfield 107, 3) := by decide +kernel
theorem dX12_drawOf_8 : decode cX12_drawOf 8 = .ok (.lmul, 1) := by decide +kernel
theorem dX12_drawOf_9 : decode cX12_drawOf 9 = .ok (.ldc2_w 443, 3) := by decide +kernel
theorem dX12_drawOf_12 : decode cX12_drawOf 12 = .ok (.ladd, 1) := by decide +kernel
theorem dX12_drawOf_13 : decode cX12_drawOf 13 = .ok (.ldc2_w 445, 3) := by decide +kernel
theorem dX12_drawOf_16 : decode cX12_drawOf 16 = .ok (.lrem, 1) := by decide +kernel
theorem dX12_drawOf_17 : decode cX12_drawOf 17 = .ok (.putfield 107, 3) := by decide +kernel
theorem dX12_drawOf_20 : decode cX12_drawOf 20 = .ok (.aload_n 0, 1) := by decide +kernel
theorem dX12_drawOf_21 : decode cX12_drawOf 21 = .ok (.getfield 107, 3) := by decide +kernel
theorem dX12_drawOf_24 : decode cX12_drawOf 24 = .ok (.ldc2_w 447, 3) := by decide +kernel
theorem dX12_drawOf_27 : decode cX12_drawOf 27 = .ok (.ldiv, 1) := by decide +kernel
theorem dX12_drawOf_28 : decode cX12_drawOf 28 = .ok (.iload_n 1, 1) := by decide +kernel
theorem dX12_drawOf_29 : decode cX12_drawOf 29 = .ok (.i2l, 1) := by decide +kernel
theorem dX12_drawOf_30 : decode cX12_drawOf 30 = .ok (.lrem, 1) := by decide +kernel
theorem dX12_drawOf_31 : decode cX12_drawOf 31 = .ok (.l2i, 1) := by decide +kernel
theorem dX12_drawOf_32 : decode cX12_drawOf 32 = .ok (.ireturn, 1) := by decide +kernel
theorem dX12_stirs_0 : decode cX12_stirs 0 = .ok (.aload_n 0, 1) := by decide +kernel
theorem dX12_stirs_1 : decode cX12_stirs 1 = .ok (.iconst 4, 1) := by decide +kernel
theorem dX12_stirs_2 : decode cX12_stirs 2 = .ok (.invokevirtual 449, 3) := by decide +kernel
theorem dX12_stirs_5 : decode cX12_stirs 5 = .ok (.istore_n 1, 1) := by decide +kernel
theorem dX12_stirs_6 : decode cX12_stirs 6 = .ok (.aload_n 0, 1) := by decide +kernel
theorem dX12_stirs_7 : decode cX12_stirs 7 = .ok (.aload_n 0, 1) := by decide +kernel
theorem dX12_stirs_8 : decode cX12_stirs 8 = .ok (.invokevirtual 249, 3) := by decide +kernel
theorem dX12_stirs_11 : decode cX12_stirs 11 = .ok (.invokevirtual 449, 3) := by decide +kernel
theorem dX12_stirs_14 : decode cX12_stirs 14 = .ok (.istore_n 2, 1) := by decide +kernel
theorem dX12_stirs_15 : decode cX12_stirs 15 = .ok (.iload_n 1, 1) := by decide +kernel
theorem dX12_stirs_16 : decode cX12_stirs 16 = .ok (.tableswitch 95 0 2 #[28, 44, 63], 28) := by decide +kernel
theorem dX12_stirs_44 : decode cX12_stirs 44 = .ok (.aload_n 0, 1) := by decide +kernel
theorem dX12_stirs_45 : decode cX12_stirs 45 = .ok (.iload_n 2, 1) := by decide +kernel
theorem dX12_stirs_46 : decode cX12_stirs 46 = .ok (.invokevirtual 382, 3) := by decide +kernel
theorem dX12_stirs_49 : decode cX12_stirs 49 = .ok (.ifCond .eq 103, 3) := by decide +kernel
theorem dX12_stirs_52 : decode cX12_stirs 52 = .ok (.aload_n 0, 1) := by decide +kernel
theorem dX12_stirs_53 : decode cX12_stirs 53 = .ok (.iload_n 2, 1) := by decide +kernel
theorem dX12_stirs_54 : decode cX12_stirs 54 = .ok (.invokevirtual 388, 3) := by decide +kernel
theorem dX12_stirs_57 : decode cX12_stirs 57 = .ok (.goto 95, 3) := by decide +kernel
theorem dX12_stirs_60 : decode cX12_stirs 60 = .ok (.aload_n 0, 1) := by decide +kernel
theorem dX12_stirs_61 : decode cX12_stirs 61 = .ok (.getfield 27, 3) := by decide +kernel
theorem dX12_stirs_64 : decode cX12_stirs 64 = .ok (.iload_n 2, 1) := by decide +kernel
theorem dX12_stirs_65 : decode cX12_stirs 65 = .ok (.iconst 3, 1) := by decide +kernel
theorem dX12_stirs_66 : decode cX12_stirs 66 = .ok (.invokestatic 183, 3) := by decide +kernel
theorem dX12_stirs_69 : decode cX12_stirs 69 = .ok (.aload_n 0, 1) := by decide +kernel
theorem dX12_stirs_70 : decode cX12_stirs 70 = .ok (.bipush 100, 2) := by decide +kernel
theorem dX12_stirs_72 : decode cX12_stirs 72 = .ok (.invokevirtual 449, 3) := by decide +kernel
theorem dX12_stirs_75 : decode cX12_stirs 75 = .ok (.iastore, 1) := by decide +kernel
theorem dX12_stirs_76 : decode cX12_stirs 76 = .ok (.goto 76, 3) := by decide +kernel
theorem dX12_stirs_79 : decode cX12_stirs 79 = .ok (.aload_n 0, 1) := by decide +kernel
theorem dX12_stirs_80 : decode cX12_stirs 80 = .ok (.iload_n 2, 1) := by decide +kernel
theorem dX12_stirs_81 : decode cX12_stirs 81 = .ok (.aload_n 0, 1) := by decide +kernel
theorem dX12_stirs_82 : decode cX12_stirs 82 = .ok (.iload_n 2, 1) := by decide +kernel
theorem dX12_stirs_83 : decode cX12_stirs 83 = .ok (.iconst 2, 1) := by decide +kernel
theorem dX12_stirs_84 : decode cX12_stirs 84 = .ok (.invokevirtual 252, 3) := by decide +kernel
theorem dX12_stirs_87 : decode cX12_stirs 87 = .ok (.iconst 2, 1) := by decide +kernel
theorem dX12_stirs_88 : decode cX12_stirs 88 = .ok (.idiv, 1) := by decide +kernel
theorem dX12_stirs_89 : decode cX12_stirs 89 = .ok (.invokevirtual 435, 3) := by decide +kernel
theorem dX12_stirs_92 : decode cX12_stirs 92 = .ok (.ifCond .eq 60, 3) := by decide +kernel
theorem dX12_stirs_95 : decode cX12_stirs 95 = .ok (.aload_n 0, 1) := by decide +kernel
theorem dX12_stirs_96 : decode cX12_stirs 96 = .ok (.iload_n 2, 1) := by decide +kernel
theorem dX12_stirs_97 : decode cX12_stirs 97 = .ok (.aload_n 0, 1) := by decide +kernel
theorem dX12_stirs_98 : decode cX12_stirs 98 = .ok (.iload_n 2, 1) := by decide +kernel
theorem dX12_stirs_99 : decode cX12_stirs 99 = .ok (.iconst 2, 1) := by decide +kernel
theorem dX12_stirs_100 : decode cX12_stirs 100 = .ok (.invokevirtual 252, 3) := by decide +kernel
theorem dX12_stirs_103 : decode cX12_stirs 103 = .ok (.iconst 2, 1) := by decide +kernel
theorem dX12_stirs_104 : decode cX12_stirs 104 = .ok (.idiv, 1) := by decide +kernel
theorem dX12_stirs_105 : decode cX12_stirs 105 = .ok (.invokevirtual 438, 3) := by decide +kernel
theorem dX12_stirs_108 : decode cX12_stirs 108 = .ok (.goto 44, 3) := by decide +kernel
theorem dX12_stirs_111 : decode cX12_stirs 111 = .ok (.aload_n 0, 1) := by decide +kernel
theorem dX12_stirs_112 : decode cX12_stirs 112 = .ok (.aload_n 0, 1) := by decide +kernel
theorem dX12_stirs_113 : decode cX12_stirs 113 = .ok (.invokevirtual 246, 3) := by decide +kernel
theorem dX12_stirs_116 : decode cX12_stirs 116 = .ok (.invokevirtual 449, 3) := by decide +kernel
theorem dX12_stirs_119 : decode cX12_stirs 119 = .ok (.istore_n 3, 1) := by decide +kernel
theorem dX12_stirs_120 : decode cX12_stirs 120 = .ok (.aload_n 0, 1) := by decide +kernel
theorem dX12_stirs_121 : decode cX12_stirs 121 = .ok (.aload_n 0, 1) := by decide +kernel
theorem dX12_stirs_122 : decode cX12_stirs 122 = .ok (.iload_n 2, 1) := by decide +kernel
theorem dX12_stirs_123 : decode cX12_stirs 123 = .ok (.iconst 1, 1) := by decide +kernel
theorem dX12_stirs_124 : decode cX12_stirs 124 = .ok (.invokevirtual 252, 3) := by decide +kernel
theorem dX12_stirs_127 : decode cX12_stirs 127 = .ok (.iload_n 3, 1) := by decide +kernel
theorem dX12_stirs_128 : decode cX12_stirs 128 = .ok (.invokevirtual 427, 3) := by decide +kernel
theorem dX12_stirs_131 : decode cX12_stirs 131 = .ok (.ifCond .eq 21, 3) := by decide +kernel
theorem dX12_stirs_134 : decode cX12_stirs 134 = .ok (.aload_n 0, 1) := by decide +kernel
theorem dX12_stirs_135 : decode cX12_stirs 135 = .ok (.getfield 27, 3) := by decide +kernel
theorem dX12_stirs_138 : decode cX12_stirs 138 = .ok (.aload_n 0, 1) := by decide +kernel
theorem dX12_stirs_139 : decode cX12_stirs 139 = .ok (.iload_n 2, 1) := by decide +kernel
theorem dX12_stirs_140 : decode cX12_stirs 140 = .ok (.iconst 1, 1) := by decide +kernel
theorem dX12_stirs_141 : decode cX12_stirs 141 = .ok (.invokevirtual 252, 3) := by decide +kernel
theorem dX12_stirs_144 : decode cX12_stirs 144 = .ok (.iload_n 3, 1) := by decide +kernel
theorem dX12_stirs_145 : decode cX12_stirs 145 = .ok (.bipush 10, 2) := by decide +kernel
theorem dX12_stirs_147 : decode cX12_stirs 147 = .ok (.iconst 0, 1) := by decide +kernel
theorem dX12_stirs_148 : decode cX12_stirs 148 = .ok (.iconst (-1), 1) := by decide +kernel
theorem dX12_stirs_149 : decode cX12_stirs 149 = .ok (.invokestatic 214, 3) := by decide +kernel
theorem dX12_stirs_152 : decode cX12_stirs 152 = .ok (.aload_n 0, 1) := by decide +kernel
theorem dX12_stirs_153 : decode cX12_stirs 153 = .ok (.invokevirtual 379, 3) := by decide +kernel
theorem dX12_stirs_156 : decode cX12_stirs 156 = .ok (.return_, 1) := by decide +kernel
theorem dX12_chance_0 : decode cX12_chance 0 = .ok (.iload_n 1, 1) := by decide +kernel
theorem dX12_chance_1 : decode cX12_chance 1 = .ok (.i2l, 1) := by decide +kernel
theorem dX12_chance_2 : decode cX12_chance 2 = .ok (.lconst 1, 1) := by decide +kernel
theorem dX12_chance_3 : decode cX12_chance 3 = .ok (.ldc2_w 452, 3) := by decide +kernel
theorem dX12_chance_6 : decode cX12_chance 6 = .ok (.invokestatic 127, 3) := by decide +kernel
theorem dX12_chance_9 : decode cX12_chance 9 = .ok (.ifCond .eq 10, 3) := by decide +kernel
theorem dX12_chance_12 : decode cX12_chance 12 = .ok (.aload_n 0, 1) := by decide +kernel
theorem dX12_chance_13 : decode cX12_chance 13 = .ok (.invokevirtual 249, 3) := by decide +kernel
theorem dX12_chance_16 : decode cX12_chance 16 = .ok (.ifCond .ne 9, 3) := by decide +kernel
theorem dX12_chance_19 : decode cX12_chance 19 = .ok (.aload_n 0, 1) := by decide +kernel
theorem dX12_chance_20 : decode cX12_chance 20 = .ok (.iconst 3, 1) := by decide +kernel
theorem dX12_chance_21 : decode cX12_chance 21 = .ok (.invokevirtual 117, 3) := by decide +kernel
theorem dX12_chance_24 : decode cX12_chance 24 = .ok (.ireturn, 1) := by decide +kernel
theorem dX12_chance_25 : decode cX12_chance 25 = .ok (.aload_n 0, 1) := by decide +kernel
theorem dX12_chance_26 : decode cX12_chance 26 = .ok (.invokevirtual 432, 3) := by decide +kernel
theorem dX12_chance_29 : decode cX12_chance 29 = .ok (.iconst 0, 1) := by decide +kernel
theorem dX12_chance_30 : decode cX12_chance 30 = .ok (.istore_n 2, 1) := by decide +kernel
theorem dX12_chance_31 : decode cX12_chance 31 = .ok (.iload_n 2, 1) := by decide +kernel
theorem dX12_chance_32 : decode cX12_chance 32 = .ok (.iload_n 1, 1) := by decide +kernel
theorem dX12_chance_33 : decode cX12_chance 33 = .ok (.if_icmp .ge 13, 3) := by decide +kernel
theorem dX12_chance_36 : decode cX12_chance 36 = .ok (.aload_n 0, 1) := by decide +kernel
theorem dX12_chance_37 : decode cX12_chance 37 = .ok (.invokevirtual 454, 3) := by decide +kernel
theorem dX12_chance_40 : decode cX12_chance 40 = .ok (.iinc 2 1, 3) := by decide +kernel
theorem dX12_chance_43 : decode cX12_chance 43 = .ok (.goto (-12), 3) := by decide +kernel
theorem dX12_chance_46 : decode cX12_chance 46 = .ok (.aload_n 0, 1) := by decide +kernel
theorem dX12_chance_47 : decode cX12_chance 47 = .ok (.invokevirtual 249, 3) := by decide +kernel
theorem dX12_chance_50 : decode cX12_chance 50 = .ok (.ireturn, 1) := by decide +kernel
theorem dX12_last_0 : decode cX12_last 0 = .ok (.sipush 191, 3) := by decide +kernel
theorem dX12_last_3 : decode cX12_last 3 = .ok (.istore_n 2, 1) := by decide +kernel
theorem dX12_last_4 : decode cX12_last 4 = .ok (.iconst 0, 1) := by decide +kernel
theorem dX12_last_5 : decode cX12_last 5 = .ok (.istore_n 3, 1) := by decide +kernel
theorem dX12_last_6 : decode cX12_last 6 = .ok (.iload_n 3, 1) := by decide +kernel
theorem dX12_last_7 : decode cX12_last 7 = .ok (.iload_n 1, 1) := by decide +kernel
theorem dX12_last_8 : decode cX12_last 8 = .ok (.if_icmp .ge 21, 3) := by decide +kernel
theorem dX12_last_11 : decode cX12_last 11 = .ok (.iconst 3, 1) := by decide +kernel
theorem dX12_last_12 : decode cX12_last 12 = .ok (.iload_n 2, 1) := by decide +kernel
theorem dX12_last_13 : decode cX12_last 13 = .ok (.imul, 1) := by decide +kernel
theorem dX12_last_14 : decode cX12_last 14 = .ok (.aload_n 0, 1) := by decide +kernel
theorem dX12_last_15 : decode cX12_last 15 = .ok (.iload_n 3, 1) := by decide +kernel
theorem dX12_last_16 : decode cX12_last 16 = .ok (.iaload, 1) := by decide +kernel
theorem dX12_last_17 : decode cX12_last 17 = .ok (.iadd, 1) := by decide +kernel
theorem dX12_last_18 : decode cX12_last 18 = .ok (.sipush 251, 3) := by decide +kernel
theorem dX12_last_21 : decode cX12_last 21 = .ok (.irem, 1) := by decide +kernel
theorem dX12_last_22 : decode cX12_last 22 = .ok (.istore_n 2, 1) := by decide +kernel
theorem dX12_last_23 : decode cX12_last 23 = .ok (.iinc 3 1, 3) := by decide +kernel
theorem dX12_last_26 : decode cX12_last 26 = .ok (.goto (-20), 3) := by decide +kernel
theorem dX12_last_29 : decode cX12_last 29 = .ok (.iload_n 2, 1) := by decide +kernel
theorem dX12_last_30 : decode cX12_last 30 = .ok (.ireturn, 1) := by decide +kernel
theorem dX12_image_0 : decode cX12_image 0 = .ok (.aload_n 0, 1) := by decide +kernel
theorem dX12_image_1 : decode cX12_image 1 = .ok (.getfield 111, 3) := by decide +kernel
theorem dX12_image_4 : decode cX12_image 4 = .ok (.iconst 0, 1) := by decide +kernel
theorem dX12_image_5 : decode cX12_image 5 = .ok (.aload_n 0, 1) := by decide +kernel
theorem dX12_image_6 : decode cX12_image 6 = .ok (.invokevirtual 246, 3) := by decide +kernel
theorem dX12_image_9 : decode cX12_image 9 = .ok (.iastore, 1) := by decide +kernel
theorem dX12_image_10 : decode cX12_image 10 = .ok (.aload_n 0, 1) := by decide +kernel
theorem dX12_image_11 : decode cX12_image 11 = .ok (.getfield 111, 3) := by decide +kernel
theorem dX12_image_14 : decode cX12_image 14 = .ok (.iconst 1, 1) := by decide +kernel
theorem dX12_image_15 : decode cX12_image 15 = .ok (.aload_n 0, 1) := by decide +kernel
theorem dX12_image_16 : decode cX12_image 16 = .ok (.invokevirtual 249, 3) := by decide +kernel
theorem dX12_image_19 : decode cX12_image 19 = .ok (.iastore, 1) := by decide +kernel
theorem dX12_image_20 : decode cX12_image 20 = .ok (.aload_n 0, 1) := by decide +kernel
theorem dX12_image_21 : decode cX12_image 21 = .ok (.iconst 2, 1) := by decide +kernel
theorem dX12_image_22 : decode cX12_image 22 = .ok (.iconst 5, 1) := by decide +kernel
theorem dX12_image_23 : decode cX12_image 23 = .ok (.aload_n 0, 1) := by decide +kernel
theorem dX12_image_24 : decode cX12_image 24 = .ok (.invokevirtual 249, 3) := by decide +kernel
theorem dX12_image_27 : decode cX12_image 27 = .ok (.imul, 1) := by decide +kernel
theorem dX12_image_28 : decode cX12_image 28 = .ok (.iadd, 1) := by decide +kernel
theorem dX12_image_29 : decode cX12_image 29 = .ok (.putfield 457, 3) := by decide +kernel
theorem dX12_image_32 : decode cX12_image 32 = .ok (.iconst 0, 1) := by decide +kernel
theorem dX12_image_33 : decode cX12_image 33 = .ok (.istore_n 1, 1) := by decide +kernel
theorem dX12_image_34 : decode cX12_image 34 = .ok (.iload_n 1, 1) := by decide +kernel
theorem dX12_image_35 : decode cX12_image 35 = .ok (.iconst 5, 1) := by decide +kernel
theorem dX12_image_36 : decode cX12_image 36 = .ok (.aload_n 0, 1) := by decide +kernel
theorem dX12_image_37 : decode cX12_image 37 = .ok (.invokevirtual 249, 3) := by decide +kernel
theorem dX12_image_40 : decode cX12_image 40 = .ok (.imul, 1) := by decide +kernel
theorem dX12_image_41 : decode cX12_image 41 = .ok (.if_icmp .ge 30, 3) := by decide +kernel
theorem dX12_image_44 : decode cX12_image 44 = .ok (.aload_n 0, 1) := by decide +kernel
theorem dX12_image_45 : decode cX12_image 45 = .ok (.getfield 111, 3) := by decide +kernel
theorem dX12_image_48 : decode cX12_image 48 = .ok (.iconst 2, 1) := by decide +kernel
theorem dX12_image_49 : decode cX12_image 49 = .ok (.iload_n 1, 1) := by decide +kernel
theorem dX12_image_50 : decode cX12_image 50 = .ok (.iadd, 1) := by decide +kernel
theorem dX12_image_51 : decode cX12_image 51 = .ok (.aload_n 0, 1) := by decide +kernel
theorem dX12_image_52 : decode cX12_image 52 = .ok (.getfield 27, 3) := by decide +kernel
theorem dX12_image_55 : decode cX12_image 55 = .ok (.bipush 33, 2) := by decide +kernel
theorem dX12_image_57 : decode cX12_image 57 = .ok (.iload_n 1, 1) := by decide +kernel
theorem dX12_image_58 : decode cX12_image 58 = .ok (.iadd, 1) := by decide +kernel
theorem dX12_image_59 : decode cX12_image 59 = .ok (.iaload, 1) := by decide +kernel
theorem dX12_image_60 : decode cX12_image 60 = .ok (.sipush 255, 3) := by decide +kernel
theorem dX12_image_63 : decode cX12_image 63 = .ok (.iand, 1) := by decide +kernel
theorem dX12_image_64 : decode cX12_image 64 = .ok (.iastore, 1) := by decide +kernel
theorem dX12_image_65 : decode cX12_image 65 = .ok (.iinc 1 1, 3) := by decide +kernel
theorem dX12_image_68 : decode cX12_image 68 = .ok (.goto (-34), 3) := by decide +kernel
theorem dX12_image_71 : decode cX12_image 71 = .ok (.aload_n 0, 1) := by decide +kernel
theorem dX12_image_72 : decode cX12_image 72 = .ok (.getfield 111, 3) := by decide +kernel
theorem dX12_image_75 : decode cX12_image 75 = .ok (.aload_n 0, 1) := by decide +kernel
theorem dX12_image_76 : decode cX12_image 76 = .ok (.getfield 457, 3) := by decide +kernel
theorem dX12_image_79 : decode cX12_image 79 = .ok (.aload_n 0, 1) := by decide +kernel
theorem dX12_image_80 : decode cX12_image 80 = .ok (.getfield 111, 3) := by decide +kernel
theorem dX12_image_83 : decode cX12_image 83 = .ok (.aload_n 0, 1) := by decide +kernel
theorem dX12_image_84 : decode cX12_image 84 = .ok (.getfield 457, 3) := by decide +kernel
theorem dX12_image_87 : decode cX12_image 87 = .ok (.invokestatic 460, 3) := by decide +kernel
theorem dX12_image_90 : decode cX12_image 90 = .ok (.iastore, 1) := by decide +kernel
theorem dX12_image_91 : decode cX12_image 91 = .ok (.aload_n 0, 1) := by decide +kernel
theorem dX12_image_92 : decode cX12_image 92 = .ok (.dup, 1) := by decide +kernel
theorem dX12_image_93 : decode cX12_image 93 = .ok (.getfield 457, 3) := by decide +kernel
theorem dX12_image_96 : decode cX12_image 96 = .ok (.iconst 1, 1) := by decide +kernel
theorem dX12_image_97 : decode cX12_image 97 = .ok (.iadd, 1) := by decide +kernel
theorem dX12_image_98 : decode cX12_image 98 = .ok (.putfield 457, 3) := by decide +kernel
theorem dX12_image_101 : decode cX12_image 101 = .ok (.aload_n 0, 1) := by decide +kernel
theorem dX12_image_102 : decode cX12_image 102 = .ok (.getfield 457, 3) := by decide +kernel
theorem dX12_image_105 : decode cX12_image 105 = .ok (.ireturn, 1) := by decide +kernel
theorem dX12_octet_0 : decode cX12_octet 0 = .ok (.iload_n 1, 1) := by decide +kernel
theorem dX12_octet_1 : decode cX12_octet 1 = .ok (.i2l, 1) := by decide +kernel
theorem dX12_octet_2 : decode cX12_octet 2 = .ok (.lconst 0, 1) := by decide +kernel
theorem dX12_octet_3 : decode cX12_octet 3 = .ok (.aload_n 0, 1) := by decide +kernel
theorem dX12_octet_4 : decode cX12_octet 4 = .ok (.getfield 457, 3) := by decide +kernel
theorem dX12_octet_7 : decode cX12_octet 7 = .ok (.iconst 1, 1) := by decide +kernel
theorem dX12_octet_8 : decode cX12_octet 8 = .ok (.isub, 1) := by decide +kernel
theorem dX12_octet_9 : decode cX12_octet 9 = .ok (.i2l, 1) := by decide +kernel
theorem dX12_octet_10 : decode cX12_octet 10 = .ok (.invokestatic 127, 3) := by decide +kernel
theorem dX12_octet_13 : decode cX12_octet 13 = .ok (.ifCond .eq 12, 3) := by decide +kernel
theorem dX12_octet_16 : decode cX12_octet 16 = .ok (.aload_n 0, 1) := by decide +kernel
theorem dX12_octet_17 : decode cX12_octet 17 = .ok (.getfield 111, 3) := by decide +kernel
theorem dX12_octet_20 : decode cX12_octet 20 = .ok (.iload_n 1, 1) := by decide +kernel
theorem dX12_octet_21 : decode cX12_octet 21 = .ok (.iaload, 1) := by decide +kernel
theorem dX12_octet_22 : decode cX12_octet 22 = .ok (.goto 4, 3) := by decide +kernel
theorem dX12_octet_25 : decode cX12_octet 25 = .ok (.iconst (-1), 1) := by decide +kernel
theorem dX12_octet_26 : decode cX12_octet 26 = .ok (.ireturn, 1) := by decide +kernel
theorem dX12_isReachAt_0 : decode cX12_isReachAt 0 = .ok (.aload_n 0, 1) := by decide +kernel
theorem dX12_isReachAt_1 : decode cX12_isReachAt 1 = .ok (.getfield 7, 3) := by decide +kernel
theorem dX12_isReachAt_4 : decode cX12_isReachAt 4 = .ok (.iload_n 1, 1) := by decide +kernel
theorem dX12_isReachAt_5 : decode cX12_isReachAt 5 = .ok (.iaload, 1) := by decide +kernel
theorem dX12_isReachAt_6 : decode cX12_isReachAt 6 = .ok (.istore_n 2, 1) := by decide +kernel
theorem dX12_isReachAt_7 : decode cX12_isReachAt 7 = .ok (.aload_n 0, 1) := by decide +kernel
theorem dX12_isReachAt_8 : decode cX12_isReachAt 8 = .ok (.getfield 7, 3) := by decide +kernel
theorem dX12_isReachAt_11 : decode cX12_isReachAt 11 = .ok (.iload_n 1, 1) := by decide +kernel
theorem dX12_isReachAt_12 : decode cX12_isReachAt 12 = .ok (.iconst 1, 1) := by decide +kernel
theorem dX12_isReachAt_13 : decode cX12_isReachAt 13 = .ok (.iadd, 1) := by decide +kernel
theorem dX12_isReachAt_14 : decode cX12_isReachAt 14 = .ok (.iaload, 1) := by decide +kernel
theorem dX12_isReachAt_15 : decode cX12_isReachAt 15 = .ok (.istore_n 3, 1) := by decide +kernel
theorem dX12_isReachAt_16 : decode cX12_isReachAt 16 = .ok (.iload_n 2, 1) := by decide +kernel
theorem dX12_isReachAt_17 : decode cX12_isReachAt 17 = .ok (.aload_n 0, 1) := by decide +kernel
theorem dX12_isReachAt_18 : decode cX12_isReachAt 18 = .ok (.getfield 7, 3) := by decide +kernel
theorem dX12_isReachAt_21 : decode cX12_isReachAt 21 = .ok (.iconst 0, 1) := by decide +kernel
theorem dX12_isReachAt_22 : decode cX12_isReachAt 22 = .ok (.iaload, 1) := by decide +kernel
theorem dX12_isReachAt_23 : decode cX12_isReachAt 23 = .ok (.if_icmp .ge 26, 3) := by decide +kernel
theorem dX12_isReachAt_26 : decode cX12_isReachAt 26 = .ok (.iload_n 3, 1) := by decide +kernel
theorem dX12_isReachAt_27 : decode cX12_isReachAt 27 = .ok (.aload_n 0, 1) := by decide +kernel
theorem dX12_isReachAt_28 : decode cX12_isReachAt 28 = .ok (.getfield 7, 3) := by decide +kernel
theorem dX12_isReachAt_31 : decode cX12_isReachAt 31 = .ok (.iconst 0, 1) := by decide +kernel
theorem dX12_isReachAt_32 : decode cX12_isReachAt 32 = .ok (.iaload, 1) := by decide +kernel
theorem dX12_isReachAt_33 : decode cX12_isReachAt 33 = .ok (.if_icmp .ge 16, 3) := by decide +kernel
theorem dX12_isReachAt_36 : decode cX12_isReachAt 36 = .ok (.aload_n 0, 1) := by decide +kernel
theorem dX12_isReachAt_37 : decode cX12_isReachAt 37 = .ok (.getfield 24, 3) := by decide +kernel
theorem dX12_isReachAt_40 : decode cX12_isReachAt 40 = .ok (.iload_n 3, 1) := by decide +kernel
theorem dX12_isReachAt_41 : decode cX12_isReachAt 41 = .ok (.iload_n 2, 1) := by decide +kernel
theorem dX12_isReachAt_42 : decode cX12_isReachAt 42 = .ok (.iconst (-1), 1) := by decide +kernel
theorem dX12_isReachAt_43 : decode cX12_isReachAt 43 = .ok (.invokestatic 204, 3) := by decide +kernel
theorem dX12_isReachAt_46 : decode cX12_isReachAt 46 = .ok (.ifCond .eq 5, 3) := by decide +kernel
theorem dX12_isReachAt_49 : decode cX12_isReachAt 49 = .ok (.iconst 0, 1) := by decide +kernel
theorem dX12_isReachAt_50 : decode cX12_isReachAt 50 = .ok (.ireturn, 1) := by decide +kernel
theorem dX12_isReachAt_51 : decode cX12_isReachAt 51 = .ok (.aload_n 0, 1) := by decide +kernel
theorem dX12_isReachAt_52 : decode cX12_isReachAt 52 = .ok (.getfield 7, 3) := by decide +kernel
theorem dX12_isReachAt_55 : decode cX12_isReachAt 55 = .ok (.iload_n 1, 1) := by decide +kernel
theorem dX12_isReachAt_56 : decode cX12_isReachAt 56 = .ok (.iconst 2, 1) := by decide +kernel
theorem dX12_isReachAt_57 : decode cX12_isReachAt 57 = .ok (.iadd, 1) := by decide +kernel
theorem dX12_isReachAt_58 : decode cX12_isReachAt 58 = .ok (.iaload, 1) := by decide +kernel
theorem dX12_isReachAt_59 : decode cX12_isReachAt 59 = .ok (.i2l, 1) := by decide +kernel
theorem dX12_isReachAt_60 : decode cX12_isReachAt 60 = .ok (.lconst 1, 1) := by decide +kernel
theorem dX12_isReachAt_61 : decode cX12_isReachAt 61 = .ok (.ldc2_w 430, 3) := by decide +kernel
theorem dX12_isReachAt_64 : decode cX12_isReachAt 64 = .ok (.invokestatic 127, 3) := by decide +kernel
theorem dX12_isReachAt_67 : decode cX12_isReachAt 67 = .ok (.ifCond .eq 49, 3) := by decide +kernel
theorem dX12_isReachAt_70 : decode cX12_isReachAt 70 = .ok (.aload_n 0, 1) := by decide +kernel
theorem dX12_isReachAt_71 : decode cX12_isReachAt 71 = .ok (.getfield 7, 3) := by decide +kernel
theorem dX12_isReachAt_74 : decode cX12_isReachAt 74 = .ok (.iload_n 1, 1) := by decide +kernel
theorem dX12_isReachAt_75 : decode cX12_isReachAt 75 = .ok (.iconst 3, 1) := by decide +kernel
theorem dX12_isReachAt_76 : decode cX12_isReachAt 76 = .ok (.iadd, 1) := by decide +kernel
theorem dX12_isReachAt_77 : decode cX12_isReachAt 77 = .ok (.iaload, 1) := by decide +kernel
theorem dX12_isReachAt_78 : decode cX12_isReachAt 78 = .ok (.bipush 99, 2) := by decide +kernel
theorem dX12_isReachAt_80 : decode cX12_isReachAt 80 = .ok (.if_icmp .gt 36, 3) := by decide +kernel
theorem dX12_isReachAt_83 : decode cX12_isReachAt 83 = .ok (.aload_n 0, 1) := by decide +kernel
theorem dX12_isReachAt_84 : decode cX12_isReachAt 84 = .ok (.getfield 7, 3) := by decide +kernel
theorem dX12_isReachAt_87 : decode cX12_isReachAt 87 = .ok (.iload_n 1, 1) := by decide +kernel
theorem dX12_isReachAt_88 : decode cX12_isReachAt 88 = .ok (.iconst 4, 1) := by decide +kernel
theorem dX12_isReachAt_89 : decode cX12_isReachAt 89 = .ok (.iadd, 1) := by decide +kernel
theorem dX12_isReachAt_90 : decode cX12_isReachAt 90 = .ok (.iaload, 1) := by decide +kernel
theorem dX12_isReachAt_91 : decode cX12_isReachAt 91 = .ok (.sipush 255, 3) := by decide +kernel
theorem dX12_isReachAt_94 : decode cX12_isReachAt 94 = .ok (.if_icmp .eq 18, 3) := by decide +kernel
theorem dX12_isReachAt_97 : decode cX12_isReachAt 97 = .ok (.aload_n 0, 1) := by decide +kernel
theorem dX12_isReachAt_98 : decode cX12_isReachAt 98 = .ok (.aload_n 0, 1) := by decide +kernel
theorem dX12_isReachAt_99 : decode cX12_isReachAt 99 = .ok (.getfield 7, 3) := by decide +kernel
theorem dX12_isReachAt_102 : decode cX12_isReachAt 102 = .ok (.iload_n 1, 1) := by decide +kernel
theorem dX12_isReachAt_103 : decode cX12_isReachAt 103 = .ok (.iconst 4, 1) := by decide +kernel
theorem dX12_isReachAt_104 : decode cX12_isReachAt 104 = .ok (.iadd, 1) := by decide +kernel
theorem dX12_isReachAt_105 : decode cX12_isReachAt 105 = .ok (.iaload, 1) := by decide +kernel
theorem dX12_isReachAt_106 : decode cX12_isReachAt 106 = .ok (.invokevirtual 341, 3) := by decide +kernel
theorem dX12_isReachAt_109 : decode cX12_isReachAt 109 = .ok (.ifCond .eq 7, 3) := by decide +kernel
theorem dX12_isReachAt_112 : decode cX12_isReachAt 112 = .ok (.iconst 1, 1) := by decide +kernel
theorem dX12_isReachAt_113 : decode cX12_isReachAt 113 = .ok (.goto 4, 3) := by decide +kernel
theorem dX12_isReachAt_116 : decode cX12_isReachAt 116 = .ok (.iconst 0, 1) := by decide +kernel
theorem dX12_isReachAt_117 : decode cX12_isReachAt 117 = .ok (.ireturn, 1) := by decide +kernel
theorem dX12_isImage_0 : decode cX12_isImage 0 = .ok (.iload_n 1, 1) := by decide +kernel
theorem dX12_isImage_1 : decode cX12_isImage 1 = .ok (.iconst 3, 1) := by decide +kernel
theorem dX12_isImage_2 : decode cX12_isImage 2 = .ok (.if_icmp .lt 66, 3) := by decide +kernel
theorem dX12_isImage_5 : decode cX12_isImage 5 = .ok (.aload_n 0, 1) := by decide +kernel
theorem dX12_isImage_6 : decode cX12_isImage 6 = .ok (.getfield 7, 3) := by decide +kernel
theorem dX12_isImage_9 : decode cX12_isImage 9 = .ok (.iconst 0, 1) := by decide +kernel
theorem dX12_isImage_10 : decode cX12_isImage 10 = .ok (.iaload, 1) := by decide +kernel
theorem dX12_isImage_11 : decode cX12_isImage 11 = .ok (.i2l, 1) := by decide +kernel
theorem dX12_isImage_12 : decode cX12_isImage 12 = .ok (.lconst 1, 1) := by decide +kernel
theorem dX12_isImage_13 : decode cX12_isImage 13 = .ok (.ldc2_w 464, 3) := by decide +kernel
theorem dX12_isImage_16 : decode cX12_isImage 16 = .ok (.invokestatic 127, 3) := by decide +kernel
theorem dX12_isImage_19 : decode cX12_isImage 19 = .ok (.ifCond .eq 49, 3) := by decide +kernel
theorem dX12_isImage_22 : decode cX12_isImage 22 = .ok (.aload_n 0, 1) := by decide +kernel
theorem dX12_isImage_23 : decode cX12_isImage 23 = .ok (.getfield 7, 3) := by decide +kernel
theorem dX12_isImage_26 : decode cX12_isImage 26 = .ok (.iconst 1, 1) := by decide +kernel
theorem dX12_isImage_27 : decode cX12_isImage 27 = .ok (.iaload, 1) := by decide +kernel
theorem dX12_isImage_28 : decode cX12_isImage 28 = .ok (.bipush 30, 2) := by decide +kernel
theorem dX12_isImage_30 : decode cX12_isImage 30 = .ok (.if_icmp .gt 38, 3) := by decide +kernel
theorem dX12_isImage_33 : decode cX12_isImage 33 = .ok (.iload_n 1, 1) := by decide +kernel
theorem dX12_isImage_34 : decode cX12_isImage 34 = .ok (.iconst 3, 1) := by decide +kernel
theorem dX12_isImage_35 : decode cX12_isImage 35 = .ok (.iconst 5, 1) := by decide +kernel
theorem dX12_isImage_36 : decode cX12_isImage 36 = .ok (.aload_n 0, 1) := by decide +kernel
theorem dX12_isImage_37 : decode cX12_isImage 37 = .ok (.getfield 7, 3) := by decide +kernel
theorem dX12_isImage_40 : decode cX12_isImage 40 = .ok (.iconst 1, 1) := by decide +kernel
theorem dX12_isImage_41 : decode cX12_isImage 41 = .ok (.iaload, 1) := by decide +kernel
theorem dX12_isImage_42 : decode cX12_isImage 42 = .ok (.imul, 1) := by decide +kernel
theorem dX12_isImage_43 : decode cX12_isImage 43 = .ok (.iadd, 1) := by decide +kernel
theorem dX12_isImage_44 : decode cX12_isImage 44 = .ok (.if_icmp .ne 24, 3) := by decide +kernel
theorem dX12_isImage_47 : decode cX12_isImage 47 = .ok (.aload_n 0, 1) := by decide +kernel
theorem dX12_isImage_48 : decode cX12_isImage 48 = .ok (.getfield 7, 3) := by decide +kernel
theorem dX12_isImage_51 : decode cX12_isImage 51 = .ok (.iload_n 1, 1) := by decide +kernel
theorem dX12_isImage_52 : decode cX12_isImage 52 = .ok (.iconst 1, 1) := by decide +kernel
theorem dX12_isImage_53 : decode cX12_isImage 53 = .ok (.isub, 1) := by decide +kernel
theorem dX12_isImage_54 : decode cX12_isImage 54 = .ok (.iaload, 1) := by decide +kernel
theorem dX12_isImage_55 : decode cX12_isImage 55 = .ok (.aload_n 0, 1) := by decide +kernel
theorem dX12_isImage_56 : decode cX12_isImage 56 = .ok (.getfield 7, 3) := by decide +kernel
theorem dX12_isImage_59 : decode cX12_isImage 59 = .ok (.iload_n 1, 1) := by decide +kernel
theorem dX12_isImage_60 : decode cX12_isImage 60 = .ok (.iconst 1, 1) := by decide +kernel
theorem dX12_isImage_61 : decode cX12_isImage 61 = .ok (.isub, 1) := by decide +kernel
theorem dX12_isImage_62 : decode cX12_isImage 62 = .ok (.invokestatic 460, 3) := by decide +kernel
theorem dX12_isImage_65 : decode cX12_isImage 65 = .ok (.if_icmp .eq 5, 3) := by decide +kernel
theorem dX12_isImage_68 : decode cX12_isImage 68 = .ok (.iconst 0, 1) := by decide +kernel
theorem dX12_isImage_69 : decode cX12_isImage 69 = .ok (.ireturn, 1) := by decide +kernel
theorem dX12_isImage_70 : decode cX12_isImage 70 = .ok (.iconst 0, 1) := by decide +kernel
theorem dX12_isImage_71 : decode cX12_isImage 71 = .ok (.istore_n 2, 1) := by decide +kernel
theorem dX12_isImage_72 : decode cX12_isImage 72 = .ok (.iload_n 2, 1) := by decide +kernel
theorem dX12_isImage_73 : decode cX12_isImage 73 = .ok (.sipush 183, 3) := by decide +kernel
theorem dX12_isImage_76 : decode cX12_isImage 76 = .ok (.if_icmp .ge 42, 3) := by decide +kernel
theorem dX12_isImage_79 : decode cX12_isImage 79 = .ok (.aload_n 0, 1) := by decide +kernel
theorem dX12_isImage_80 : decode cX12_isImage 80 = .ok (.getfield 24, 3) := by decide +kernel
theorem dX12_isImage_83 : decode cX12_isImage 83 = .ok (.iload_n 2, 1) := by decide +kernel
theorem dX12_isImage_84 : decode cX12_isImage 84 = .ok (.iload_n 2, 1) := by decide +kernel
theorem dX12_isImage_85 : decode cX12_isImage 85 = .ok (.bipush 23, 2) := by decide +kernel
theorem dX12_isImage_87 : decode cX12_isImage 87 = .ok (.if_icmp .lt 9, 3) := by decide +kernel
theorem dX12_isImage_90 : decode cX12_isImage 90 = .ok (.iload_n 2, 1) := by decide +kernel
theorem dX12_isImage_91 : decode cX12_isImage 91 = .ok (.bipush 33, 2) := by decide +kernel
theorem dX12_isImage_93 : decode cX12_isImage 93 = .ok (.if_icmp .lt 8, 3) := by decide +kernel
theorem dX12_isImage_96 : decode cX12_isImage 96 = .ok (.iload_n 2, 1) := by decide +kernel
theorem dX12_isImage_97 : decode cX12_isImage 97 = .ok (.iconst 2, 1) := by decide +kernel
theorem dX12_isImage_98 : decode cX12_isImage 98 = .ok (.if_icmp .ne 12, 3) := by decide +kernel
theorem dX12_isImage_101 : decode cX12_isImage 101 = .ok (.aload_n 0, 1) := by decide +kernel
theorem dX12_isImage_102 : decode cX12_isImage 102 = .ok (.getfield 27, 3) := by decide +kernel
theorem dX12_isImage_105 : decode cX12_isImage 105 = .ok (.iload_n 2, 1) := by decide +kernel
theorem dX12_isImage_106 : decode cX12_isImage 106 = .ok (.iaload, 1) := by decide +kernel
theorem dX12_isImage_107 : decode cX12_isImage 107 = .ok (.goto 4, 3) := by decide +kernel
theorem dX12_isImage_110 : decode cX12_isImage 110 = .ok (.iconst 0, 1) := by decide +kernel
theorem dX12_isImage_111 : decode cX12_isImage 111 = .ok (.iastore, 1) := by decide +kernel
theorem dX12_isImage_112 : decode cX12_isImage 112 = .ok (.iinc 2 1, 3) := by decide +kernel
theorem dX12_isImage_115 : decode cX12_isImage 115 = .ok (.goto (-43), 3) := by decide +kernel
theorem dX12_isImage_118 : decode cX12_isImage 118 = .ok (.aload_n 0, 1) := by decide +kernel
theorem dX12_isImage_119 : decode cX12_isImage 119 = .ok (.getfield 24, 3) := by decide +kernel
theorem dX12_isImage_122 : decode cX12_isImage 122 = .ok (.iconst 0, 1) := by decide +kernel
theorem dX12_isImage_123 : decode cX12_isImage 123 = .ok (.aload_n 0, 1) := by decide +kernel
theorem dX12_isImage_124 : decode cX12_isImage 124 = .ok (.getfield 7, 3) := by decide +kernel
theorem dX12_isImage_127 : decode cX12_isImage 127 = .ok (.iconst 0, 1) := by decide +kernel
theorem dX12_isImage_128 : decode cX12_isImage 128 = .ok (.iaload, 1) := by decide +kernel
theorem dX12_isImage_129 : decode cX12_isImage 129 = .ok (.iastore, 1) := by decide +kernel
theorem dX12_isImage_130 : decode cX12_isImage 130 = .ok (.iconst 2, 1) := by decide +kernel
theorem dX12_isImage_131 : decode cX12_isImage 131 = .ok (.istore_n 2, 1) := by decide +kernel
theorem dX12_isImage_132 : decode cX12_isImage 132 = .ok (.iload_n 2, 1) := by decide +kernel
theorem dX12_isImage_133 : decode cX12_isImage 133 = .ok (.iload_n 1, 1) := by decide +kernel
theorem dX12_isImage_134 : decode cX12_isImage 134 = .ok (.iconst 1, 1) := by decide +kernel
theorem dX12_isImage_135 : decode cX12_isImage 135 = .ok (.isub, 1) := by decide +kernel
theorem dX12_isImage_136 : decode cX12_isImage 136 = .ok (.if_icmp .ge 82, 3) := by decide +kernel
theorem dX12_isImage_139 : decode cX12_isImage 139 = .ok (.aload_n 0, 1) := by decide +kernel
theorem dX12_isImage_140 : decode cX12_isImage 140 = .ok (.iload_n 2, 1) := by decide +kernel
theorem dX12_isImage_141 : decode cX12_isImage 141 = .ok (.invokevirtual 466, 3) := by decide +kernel
theorem dX12_isImage_144 : decode cX12_isImage 144 = .ok (.ifCond .ne 5, 3) := by decide +kernel
theorem dX12_isImage_147 : decode cX12_isImage 147 = .ok (.iconst 0, 1) := by decide +kernel
theorem dX12_isImage_148 : decode cX12_isImage 148 = .ok (.ireturn, 1) := by decide +kernel
theorem dX12_isImage_149 : decode cX12_isImage 149 = .ok (.aload_n 0, 1) := by decide +kernel
theorem dX12_isImage_150 : decode cX12_isImage 150 = .ok (.getfield 24, 3) := by decide +kernel
theorem dX12_isImage_153 : decode cX12_isImage 153 = .ok (.aload_n 0, 1) := by decide +kernel
theorem dX12_isImage_154 : decode cX12_isImage 154 = .ok (.getfield 7, 3) := by decide +kernel
theorem dX12_isImage_157 : decode cX12_isImage 157 = .ok (.iload_n 2, 1) := by decide +kernel
theorem dX12_isImage_158 : decode cX12_isImage 158 = .ok (.iaload, 1) := by decide +kernel
theorem dX12_isImage_159 : decode cX12_isImage 159 = .ok (.aload_n 0, 1) := by decide +kernel
theorem dX12_isImage_160 : decode cX12_isImage 160 = .ok (.getfield 7, 3) := by decide +kernel
theorem dX12_isImage_163 : decode cX12_isImage 163 = .ok (.iload_n 2, 1) := by decide +kernel
theorem dX12_isImage_164 : decode cX12_isImage 164 = .ok (.iconst 1, 1) := by decide +kernel
theorem dX12_isImage_165 : decode cX12_isImage 165 = .ok (.iadd, 1) := by decide +kernel
theorem dX12_isImage_166 : decode cX12_isImage 166 = .ok (.iaload, 1) := by decide +kernel
theorem dX12_isImage_167 : decode cX12_isImage 167 = .ok (.aload_n 0, 1) := by decide +kernel
theorem dX12_isImage_168 : decode cX12_isImage 168 = .ok (.getfield 7, 3) := by decide +kernel
theorem dX12_isImage_171 : decode cX12_isImage 171 = .ok (.iload_n 2, 1) := by decide +kernel
theorem dX12_isImage_172 : decode cX12_isImage 172 = .ok (.iconst 2, 1) := by decide +kernel
theorem dX12_isImage_173 : decode cX12_isImage 173 = .ok (.iadd, 1) := by decide +kernel
theorem dX12_isImage_174 : decode cX12_isImage 174 = .ok (.iaload, 1) := by decide +kernel
theorem dX12_isImage_175 : decode cX12_isImage 175 = .ok (.aload_n 0, 1) := by decide +kernel
theorem dX12_isImage_176 : decode cX12_isImage 176 = .ok (.getfield 7, 3) := by decide +kernel
theorem dX12_isImage_179 : decode cX12_isImage 179 = .ok (.iload_n 2, 1) := by decide +kernel
theorem dX12_isImage_180 : decode cX12_isImage 180 = .ok (.iconst 3, 1) := by decide +kernel
theorem dX12_isImage_181 : decode cX12_isImage 181 = .ok (.iadd, 1) := by decide +kernel
theorem dX12_isImage_182 : decode cX12_isImage 182 = .ok (.iaload, 1) := by decide +kernel
theorem dX12_isImage_183 : decode cX12_isImage 183 = .ok (.aload_n 0, 1) := by decide +kernel
theorem dX12_isImage_184 : decode cX12_isImage 184 = .ok (.getfield 7, 3) := by decide +kernel
theorem dX12_isImage_187 : decode cX12_isImage 187 = .ok (.iload_n 2, 1) := by decide +kernel
theorem dX12_isImage_188 : decode cX12_isImage 188 = .ok (.iconst 4, 1) := by decide +kernel
theorem dX12_isImage_189 : decode cX12_isImage 189 = .ok (.iadd, 1) := by decide +kernel
theorem dX12_isImage_190 : decode cX12_isImage 190 = .ok (.iaload, 1) := by decide +kernel
theorem dX12_isImage_191 : decode cX12_isImage 191 = .ok (.sipush 255, 3) := by decide +kernel
theorem dX12_isImage_194 : decode cX12_isImage 194 = .ok (.if_icmp .ne 7, 3) := by decide +kernel
theorem dX12_isImage_197 : decode cX12_isImage 197 = .ok (.iconst (-1), 1) := by decide +kernel
theorem dX12_isImage_198 : decode cX12_isImage 198 = .ok (.goto 11, 3) := by decide +kernel
theorem dX12_isImage_201 : decode cX12_isImage 201 = .ok (.aload_n 0, 1) := by decide +kernel
theorem dX12_isImage_202 : decode cX12_isImage 202 = .ok (.getfield 7, 3) := by decide +kernel
theorem dX12_isImage_205 : decode cX12_isImage 205 = .ok (.iload_n 2, 1) := by decide +kernel
theorem dX12_isImage_206 : decode cX12_isImage 206 = .ok (.iconst 4, 1) := by decide +kernel
theorem dX12_isImage_207 : decode cX12_isImage 207 = .ok (.iadd, 1) := by decide +kernel
theorem dX12_isImage_208 : decode cX12_isImage 208 = .ok (.iaload, 1) := by decide +kernel
theorem dX12_isImage_209 : decode cX12_isImage 209 = .ok (.invokestatic 214, 3) := by decide +kernel
theorem dX12_isImage_212 : decode cX12_isImage 212 = .ok (.iinc 2 5, 3) := by decide +kernel
theorem dX12_isImage_215 : decode cX12_isImage 215 = .ok (.goto (-83), 3) := by decide +kernel
theorem dX12_isImage_218 : decode cX12_isImage 218 = .ok (.iconst 1, 1) := by decide +kernel
theorem dX12_isImage_219 : decode cX12_isImage 219 = .ok (.ireturn, 1) := by decide +kernel
theorem dX12_on_0 : decode cX12_on 0 = .ok (.aload_n 0, 1) := by decide +kernel
theorem dX12_on_1 : decode cX12_on 1 = .ok (.getfield 114, 3) := by decide +kernel
theorem dX12_on_4 : decode cX12_on 4 = .ok (.istore_n 1, 1) := by decide +kernel
theorem dX12_on_5 : decode cX12_on 5 = .ok (.aload_n 0, 1) := by decide +kernel
theorem dX12_on_6 : decode cX12_on 6 = .ok (.iconst 0, 1) := by decide +kernel
theorem dX12_on_7 : decode cX12_on 7 = .ok (.putfield 114, 3) := by decide +kernel
theorem dX12_on_10 : decode cX12_on 10 = .ok (.aload_n 0, 1) := by decide +kernel
theorem dX12_on_11 : decode cX12_on 11 = .ok (.iload_n 1, 1) := by decide +kernel
theorem dX12_on_12 : decode cX12_on 12 = .ok (.invokevirtual 469, 3) := by decide +kernel
theorem dX12_on_15 : decode cX12_on 15 = .ok (.ifCond .ne 9, 3) := by decide +kernel
theorem dX12_on_18 : decode cX12_on 18 = .ok (.aload_n 0, 1) := by decide +kernel
theorem dX12_on_19 : decode cX12_on 19 = .ok (.iconst 5, 1) := by decide +kernel
theorem dX12_on_20 : decode cX12_on 20 = .ok (.invokevirtual 121, 3) := by decide +kernel
theorem dX12_on_23 : decode cX12_on 23 = .ok (.ireturn, 1) := by decide +kernel
theorem dX12_on_24 : decode cX12_on 24 = .ok (.iconst 0, 1) := by decide +kernel
theorem dX12_on_25 : decode cX12_on 25 = .ok (.istore_n 2, 1) := by decide +kernel
theorem dX12_on_26 : decode cX12_on 26 = .ok (.iload_n 2, 1) := by decide +kernel
theorem dX12_on_27 : decode cX12_on 27 = .ok (.sipush 183, 3) := by decide +kernel
theorem dX12_on_30 : decode cX12_on 30 = .ok (.if_icmp .ge 21, 3) := by decide +kernel
theorem dX12_on_33 : decode cX12_on 33 = .ok (.aload_n 0, 1) := by decide +kernel
theorem dX12_on_34 : decode cX12_on 34 = .ok (.getfield 27, 3) := by decide +kernel
theorem dX12_on_37 : decode cX12_on 37 = .ok (.iload_n 2, 1) := by decide +kernel
theorem dX12_on_38 : decode cX12_on 38 = .ok (.aload_n 0, 1) := by decide +kernel
theorem dX12_on_39 : decode cX12_on 39 = .ok (.getfield 24, 3) := by decide +kernel
theorem dX12_on_42 : decode cX12_on 42 = .ok (.iload_n 2, 1) := by decide +kernel
theorem dX12_on_43 : decode cX12_on 43 = .ok (.iaload, 1) := by decide +kernel
theorem dX12_on_44 : decode cX12_on 44 = .ok (.iastore, 1) := by decide +kernel
theorem dX12_on_45 : decode cX12_on 45 = .ok (.iinc 2 1, 3) := by decide +kernel
theorem dX12_on_48 : decode cX12_on 48 = .ok (.goto (-22), 3) := by decide +kernel
theorem dX12_on_51 : decode cX12_on 51 = .ok (.aload_n 0, 1) := by decide +kernel
theorem dX12_on_52 : decode cX12_on 52 = .ok (.iconst 0, 1) := by decide +kernel
theorem dX12_on_53 : decode cX12_on 53 = .ok (.putfield 237, 3) := by decide +kernel
theorem dX12_on_56 : decode cX12_on 56 = .ok (.aload_n 0, 1) := by decide +kernel
theorem dX12_on_57 : decode cX12_on 57 = .ok (.iconst 0, 1) := by decide +kernel
theorem dX12_on_58 : decode cX12_on 58 = .ok (.putfield 243, 3) := by decide +kernel
theorem dX12_on_61 : decode cX12_on 61 = .ok (.aload_n 0, 1) := by decide +kernel
theorem dX12_on_62 : decode cX12_on 62 = .ok (.invokevirtual 379, 3) := by decide +kernel
theorem dX12_on_65 : decode cX12_on 65 = .ok (.iconst 1, 1) := by decide +kernel
theorem dX12_on_66 : decode cX12_on 66 = .ok (.ireturn, 1) := by decide +kernel
