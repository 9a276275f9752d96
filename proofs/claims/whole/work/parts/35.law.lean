abbrev b_Lw_law : ByteArray := code
theorem d_Lw_law_0 : decode b_Lw_law 0 = .ok (.new 8, 3) := by decide +kernel
theorem d_Lw_law_3 : decode b_Lw_law 3 = .ok (.dup, 1) := by decide +kernel
theorem d_Lw_law_4 : decode b_Lw_law 4 = .ok (.invokespecial 22, 3) := by decide +kernel
theorem d_Lw_law_7 : decode b_Lw_law 7 = .ok (.astore_n 1, 1) := by decide +kernel
theorem d_Lw_law_8 : decode b_Lw_law 8 = .ok (.new 23, 3) := by decide +kernel
theorem d_Lw_law_11 : decode b_Lw_law 11 = .ok (.dup, 1) := by decide +kernel
theorem d_Lw_law_12 : decode b_Lw_law 12 = .ok (.invokespecial 25, 3) := by decide +kernel
theorem d_Lw_law_15 : decode b_Lw_law 15 = .ok (.astore_n 2, 1) := by decide +kernel
theorem d_Lw_law_16 : decode b_Lw_law 16 = .ok (.iconst 1, 1) := by decide +kernel
theorem d_Lw_law_17 : decode b_Lw_law 17 = .ok (.newarray .long, 2) := by decide +kernel
theorem d_Lw_law_19 : decode b_Lw_law 19 = .ok (.astore_n 3, 1) := by decide +kernel
theorem d_Lw_law_20 : decode b_Lw_law 20 = .ok (.iconst 0, 1) := by decide +kernel
theorem d_Lw_law_21 : decode b_Lw_law 21 = .ok (.istore 4, 2) := by decide +kernel
theorem d_Lw_law_23 : decode b_Lw_law 23 = .ok (.iload 4, 2) := by decide +kernel
theorem d_Lw_law_25 : decode b_Lw_law 25 = .ok (.aload_n 0, 1) := by decide +kernel
theorem d_Lw_law_26 : decode b_Lw_law 26 = .ok (.arraylength, 1) := by decide +kernel
theorem d_Lw_law_27 : decode b_Lw_law 27 = .ok (.bipush 6, 2) := by decide +kernel
theorem d_Lw_law_29 : decode b_Lw_law 29 = .ok (.isub, 1) := by decide +kernel
theorem d_Lw_law_30 : decode b_Lw_law 30 = .ok (.if_icmp .gt 625, 3) := by decide +kernel
theorem d_Lw_law_33 : decode b_Lw_law 33 = .ok (.aload_n 0, 1) := by decide +kernel
theorem d_Lw_law_34 : decode b_Lw_law 34 = .ok (.iload 4, 2) := by decide +kernel
theorem d_Lw_law_36 : decode b_Lw_law 36 = .ok (.iaload, 1) := by decide +kernel
theorem d_Lw_law_37 : decode b_Lw_law 37 = .ok (.bipush 15, 2) := by decide +kernel
theorem d_Lw_law_39 : decode b_Lw_law 39 = .ok (.iand, 1) := by decide +kernel
theorem d_Lw_law_40 : decode b_Lw_law 40 = .ok (.tableswitch 609 0 14 #[76, 149, 174, 199, 236, 273, 298, 323, 360, 416, 429, 490, 503, 540, 596], 76) := by decide +kernel
theorem d_Lw_law_116 : decode b_Lw_law 116 = .ok (.aload_n 1, 1) := by decide +kernel
theorem d_Lw_law_117 : decode b_Lw_law 117 = .ok (.aload_n 0, 1) := by decide +kernel
theorem d_Lw_law_118 : decode b_Lw_law 118 = .ok (.iload 4, 2) := by decide +kernel
theorem d_Lw_law_120 : decode b_Lw_law 120 = .ok (.iconst 1, 1) := by decide +kernel
theorem d_Lw_law_121 : decode b_Lw_law 121 = .ok (.iadd, 1) := by decide +kernel
theorem d_Lw_law_122 : decode b_Lw_law 122 = .ok (.iaload, 1) := by decide +kernel
theorem d_Lw_law_123 : decode b_Lw_law 123 = .ok (.aload_n 0, 1) := by decide +kernel
theorem d_Lw_law_124 : decode b_Lw_law 124 = .ok (.iload 4, 2) := by decide +kernel
theorem d_Lw_law_126 : decode b_Lw_law 126 = .ok (.iconst 2, 1) := by decide +kernel
theorem d_Lw_law_127 : decode b_Lw_law 127 = .ok (.iadd, 1) := by decide +kernel
theorem d_Lw_law_128 : decode b_Lw_law 128 = .ok (.iaload, 1) := by decide +kernel
theorem d_Lw_law_129 : decode b_Lw_law 129 = .ok (.aload_n 0, 1) := by decide +kernel
theorem d_Lw_law_130 : decode b_Lw_law 130 = .ok (.iload 4, 2) := by decide +kernel
theorem d_Lw_law_132 : decode b_Lw_law 132 = .ok (.iconst 3, 1) := by decide +kernel
theorem d_Lw_law_133 : decode b_Lw_law 133 = .ok (.iadd, 1) := by decide +kernel
theorem d_Lw_law_134 : decode b_Lw_law 134 = .ok (.iaload, 1) := by decide +kernel
theorem d_Lw_law_135 : decode b_Lw_law 135 = .ok (.aload_n 0, 1) := by decide +kernel
theorem d_Lw_law_136 : decode b_Lw_law 136 = .ok (.iload 4, 2) := by decide +kernel
theorem d_Lw_law_138 : decode b_Lw_law 138 = .ok (.iconst 4, 1) := by decide +kernel
theorem d_Lw_law_139 : decode b_Lw_law 139 = .ok (.iadd, 1) := by decide +kernel
theorem d_Lw_law_140 : decode b_Lw_law 140 = .ok (.iaload, 1) := by decide +kernel
theorem d_Lw_law_141 : decode b_Lw_law 141 = .ok (.aload_n 0, 1) := by decide +kernel
theorem d_Lw_law_142 : decode b_Lw_law 142 = .ok (.iload 4, 2) := by decide +kernel
theorem d_Lw_law_144 : decode b_Lw_law 144 = .ok (.iconst 5, 1) := by decide +kernel
theorem d_Lw_law_145 : decode b_Lw_law 145 = .ok (.iadd, 1) := by decide +kernel
theorem d_Lw_law_146 : decode b_Lw_law 146 = .ok (.iaload, 1) := by decide +kernel
theorem d_Lw_law_147 : decode b_Lw_law 147 = .ok (.invokevirtual 26, 3) := by decide +kernel
theorem d_Lw_law_150 : decode b_Lw_law 150 = .ok (.aload_n 2, 1) := by decide +kernel
theorem d_Lw_law_151 : decode b_Lw_law 151 = .ok (.aload_n 0, 1) := by decide +kernel
theorem d_Lw_law_152 : decode b_Lw_law 152 = .ok (.iload 4, 2) := by decide +kernel
theorem d_Lw_law_154 : decode b_Lw_law 154 = .ok (.iconst 1, 1) := by decide +kernel
theorem d_Lw_law_155 : decode b_Lw_law 155 = .ok (.iadd, 1) := by decide +kernel
theorem d_Lw_law_156 : decode b_Lw_law 156 = .ok (.iaload, 1) := by decide +kernel
theorem d_Lw_law_157 : decode b_Lw_law 157 = .ok (.aload_n 0, 1) := by decide +kernel
theorem d_Lw_law_158 : decode b_Lw_law 158 = .ok (.iload 4, 2) := by decide +kernel
theorem d_Lw_law_160 : decode b_Lw_law 160 = .ok (.iconst 2, 1) := by decide +kernel
theorem d_Lw_law_161 : decode b_Lw_law 161 = .ok (.iadd, 1) := by decide +kernel
theorem d_Lw_law_162 : decode b_Lw_law 162 = .ok (.iaload, 1) := by decide +kernel
theorem d_Lw_law_163 : decode b_Lw_law 163 = .ok (.aload_n 0, 1) := by decide +kernel
theorem d_Lw_law_164 : decode b_Lw_law 164 = .ok (.iload 4, 2) := by decide +kernel
theorem d_Lw_law_166 : decode b_Lw_law 166 = .ok (.iconst 3, 1) := by decide +kernel
theorem d_Lw_law_167 : decode b_Lw_law 167 = .ok (.iadd, 1) := by decide +kernel
theorem d_Lw_law_168 : decode b_Lw_law 168 = .ok (.iaload, 1) := by decide +kernel
theorem d_Lw_law_169 : decode b_Lw_law 169 = .ok (.aload_n 0, 1) := by decide +kernel
theorem d_Lw_law_170 : decode b_Lw_law 170 = .ok (.iload 4, 2) := by decide +kernel
theorem d_Lw_law_172 : decode b_Lw_law 172 = .ok (.iconst 4, 1) := by decide +kernel
theorem d_Lw_law_173 : decode b_Lw_law 173 = .ok (.iadd, 1) := by decide +kernel
theorem d_Lw_law_174 : decode b_Lw_law 174 = .ok (.iaload, 1) := by decide +kernel
theorem d_Lw_law_175 : decode b_Lw_law 175 = .ok (.aload_n 0, 1) := by decide +kernel
theorem d_Lw_law_176 : decode b_Lw_law 176 = .ok (.iload 4, 2) := by decide +kernel
theorem d_Lw_law_178 : decode b_Lw_law 178 = .ok (.iconst 5, 1) := by decide +kernel
theorem d_Lw_law_179 : decode b_Lw_law 179 = .ok (.iadd, 1) := by decide +kernel
theorem d_Lw_law_180 : decode b_Lw_law 180 = .ok (.iaload, 1) := by decide +kernel
theorem d_Lw_law_181 : decode b_Lw_law 181 = .ok (.invokevirtual 30, 3) := by decide +kernel
theorem d_Lw_law_184 : decode b_Lw_law 184 = .ok (.if_icmp .eq 465, 3) := by decide +kernel
theorem d_Lw_law_187 : decode b_Lw_law 187 = .ok (.iconst 0, 1) := by decide +kernel
theorem d_Lw_law_188 : decode b_Lw_law 188 = .ok (.ireturn, 1) := by decide +kernel
theorem d_Lw_law_189 : decode b_Lw_law 189 = .ok (.aload_n 1, 1) := by decide +kernel
theorem d_Lw_law_190 : decode b_Lw_law 190 = .ok (.aload_n 0, 1) := by decide +kernel
theorem d_Lw_law_191 : decode b_Lw_law 191 = .ok (.iload 4, 2) := by decide +kernel
theorem d_Lw_law_193 : decode b_Lw_law 193 = .ok (.iconst 1, 1) := by decide +kernel
theorem d_Lw_law_194 : decode b_Lw_law 194 = .ok (.iadd, 1) := by decide +kernel
theorem d_Lw_law_195 : decode b_Lw_law 195 = .ok (.iaload, 1) := by decide +kernel
theorem d_Lw_law_196 : decode b_Lw_law 196 = .ok (.invokevirtual 31, 3) := by decide +kernel
theorem d_Lw_law_199 : decode b_Lw_law 199 = .ok (.aload_n 2, 1) := by decide +kernel
theorem d_Lw_law_200 : decode b_Lw_law 200 = .ok (.aload_n 0, 1) := by decide +kernel
theorem d_Lw_law_201 : decode b_Lw_law 201 = .ok (.iload 4, 2) := by decide +kernel
theorem d_Lw_law_203 : decode b_Lw_law 203 = .ok (.iconst 1, 1) := by decide +kernel
theorem d_Lw_law_204 : decode b_Lw_law 204 = .ok (.iadd, 1) := by decide +kernel
theorem d_Lw_law_205 : decode b_Lw_law 205 = .ok (.iaload, 1) := by decide +kernel
theorem d_Lw_law_206 : decode b_Lw_law 206 = .ok (.invokevirtual 34, 3) := by decide +kernel
theorem d_Lw_law_209 : decode b_Lw_law 209 = .ok (.if_icmp .eq 440, 3) := by decide +kernel
theorem d_Lw_law_212 : decode b_Lw_law 212 = .ok (.iconst 0, 1) := by decide +kernel
theorem d_Lw_law_213 : decode b_Lw_law 213 = .ok (.ireturn, 1) := by decide +kernel
theorem d_Lw_law_214 : decode b_Lw_law 214 = .ok (.aload_n 1, 1) := by decide +kernel
theorem d_Lw_law_215 : decode b_Lw_law 215 = .ok (.aload_n 0, 1) := by decide +kernel
theorem d_Lw_law_216 : decode b_Lw_law 216 = .ok (.iload 4, 2) := by decide +kernel
theorem d_Lw_law_218 : decode b_Lw_law 218 = .ok (.iconst 1, 1) := by decide +kernel
theorem d_Lw_law_219 : decode b_Lw_law 219 = .ok (.iadd, 1) := by decide +kernel
theorem d_Lw_law_220 : decode b_Lw_law 220 = .ok (.iaload, 1) := by decide +kernel
theorem d_Lw_law_221 : decode b_Lw_law 221 = .ok (.invokevirtual 35, 3) := by decide +kernel
theorem d_Lw_law_224 : decode b_Lw_law 224 = .ok (.aload_n 2, 1) := by decide +kernel
theorem d_Lw_law_225 : decode b_Lw_law 225 = .ok (.aload_n 0, 1) := by decide +kernel
theorem d_Lw_law_226 : decode b_Lw_law 226 = .ok (.iload 4, 2) := by decide +kernel
theorem d_Lw_law_228 : decode b_Lw_law 228 = .ok (.iconst 1, 1) := by decide +kernel
theorem d_Lw_law_229 : decode b_Lw_law 229 = .ok (.iadd, 1) := by decide +kernel
theorem d_Lw_law_230 : decode b_Lw_law 230 = .ok (.iaload, 1) := by decide +kernel
theorem d_Lw_law_231 : decode b_Lw_law 231 = .ok (.invokevirtual 38, 3) := by decide +kernel
theorem d_Lw_law_234 : decode b_Lw_law 234 = .ok (.if_icmp .eq 415, 3) := by decide +kernel
theorem d_Lw_law_237 : decode b_Lw_law 237 = .ok (.iconst 0, 1) := by decide +kernel
theorem d_Lw_law_238 : decode b_Lw_law 238 = .ok (.ireturn, 1) := by decide +kernel
theorem d_Lw_law_239 : decode b_Lw_law 239 = .ok (.aload_n 1, 1) := by decide +kernel
theorem d_Lw_law_240 : decode b_Lw_law 240 = .ok (.aload_n 0, 1) := by decide +kernel
theorem d_Lw_law_241 : decode b_Lw_law 241 = .ok (.iload 4, 2) := by decide +kernel
theorem d_Lw_law_243 : decode b_Lw_law 243 = .ok (.iconst 1, 1) := by decide +kernel
theorem d_Lw_law_244 : decode b_Lw_law 244 = .ok (.iadd, 1) := by decide +kernel
theorem d_Lw_law_245 : decode b_Lw_law 245 = .ok (.iaload, 1) := by decide +kernel
theorem d_Lw_law_246 : decode b_Lw_law 246 = .ok (.aload_n 0, 1) := by decide +kernel
theorem d_Lw_law_247 : decode b_Lw_law 247 = .ok (.iload 4, 2) := by decide +kernel
theorem d_Lw_law_249 : decode b_Lw_law 249 = .ok (.iconst 2, 1) := by decide +kernel
theorem d_Lw_law_250 : decode b_Lw_law 250 = .ok (.iadd, 1) := by decide +kernel
theorem d_Lw_law_251 : decode b_Lw_law 251 = .ok (.iaload, 1) := by decide +kernel
theorem d_Lw_law_252 : decode b_Lw_law 252 = .ok (.invokevirtual 39, 3) := by decide +kernel
theorem d_Lw_law_255 : decode b_Lw_law 255 = .ok (.aload_n 2, 1) := by decide +kernel
theorem d_Lw_law_256 : decode b_Lw_law 256 = .ok (.aload_n 0, 1) := by decide +kernel
theorem d_Lw_law_257 : decode b_Lw_law 257 = .ok (.iload 4, 2) := by decide +kernel
theorem d_Lw_law_259 : decode b_Lw_law 259 = .ok (.iconst 1, 1) := by decide +kernel
theorem d_Lw_law_260 : decode b_Lw_law 260 = .ok (.iadd, 1) := by decide +kernel
theorem d_Lw_law_261 : decode b_Lw_law 261 = .ok (.iaload, 1) := by decide +kernel
theorem d_Lw_law_262 : decode b_Lw_law 262 = .ok (.aload_n 0, 1) := by decide +kernel
theorem d_Lw_law_263 : decode b_Lw_law 263 = .ok (.iload 4, 2) := by decide +kernel
theorem d_Lw_law_265 : decode b_Lw_law 265 = .ok (.iconst 2, 1) := by decide +kernel
theorem d_Lw_law_266 : decode b_Lw_law 266 = .ok (.iadd, 1) := by decide +kernel
theorem d_Lw_law_267 : decode b_Lw_law 267 = .ok (.iaload, 1) := by decide +kernel
theorem d_Lw_law_268 : decode b_Lw_law 268 = .ok (.invokevirtual 43, 3) := by decide +kernel
theorem d_Lw_law_271 : decode b_Lw_law 271 = .ok (.if_icmp .eq 378, 3) := by decide +kernel
theorem d_Lw_law_274 : decode b_Lw_law 274 = .ok (.iconst 0, 1) := by decide +kernel
theorem d_Lw_law_275 : decode b_Lw_law 275 = .ok (.ireturn, 1) := by decide +kernel
theorem d_Lw_law_276 : decode b_Lw_law 276 = .ok (.aload_n 1, 1) := by decide +kernel
theorem d_Lw_law_277 : decode b_Lw_law 277 = .ok (.aload_n 0, 1) := by decide +kernel
theorem d_Lw_law_278 : decode b_Lw_law 278 = .ok (.iload 4, 2) := by decide +kernel
theorem d_Lw_law_280 : decode b_Lw_law 280 = .ok (.iconst 1, 1) := by decide +kernel
theorem d_Lw_law_281 : decode b_Lw_law 281 = .ok (.iadd, 1) := by decide +kernel
theorem d_Lw_law_282 : decode b_Lw_law 282 = .ok (.iaload, 1) := by decide +kernel
theorem d_Lw_law_283 : decode b_Lw_law 283 = .ok (.aload_n 0, 1) := by decide +kernel
theorem d_Lw_law_284 : decode b_Lw_law 284 = .ok (.iload 4, 2) := by decide +kernel
theorem d_Lw_law_286 : decode b_Lw_law 286 = .ok (.iconst 2, 1) := by decide +kernel
theorem d_Lw_law_287 : decode b_Lw_law 287 = .ok (.iadd, 1) := by decide +kernel
theorem d_Lw_law_288 : decode b_Lw_law 288 = .ok (.iaload, 1) := by decide +kernel
theorem d_Lw_law_289 : decode b_Lw_law 289 = .ok (.invokevirtual 44, 3) := by decide +kernel
theorem d_Lw_law_292 : decode b_Lw_law 292 = .ok (.aload_n 2, 1) := by decide +kernel
theorem d_Lw_law_293 : decode b_Lw_law 293 = .ok (.aload_n 0, 1) := by decide +kernel
theorem d_Lw_law_294 : decode b_Lw_law 294 = .ok (.iload 4, 2) := by decide +kernel
theorem d_Lw_law_296 : decode b_Lw_law 296 = .ok (.iconst 1, 1) := by decide +kernel
theorem d_Lw_law_297 : decode b_Lw_law 297 = .ok (.iadd, 1) := by decide +kernel
theorem d_Lw_law_298 : decode b_Lw_law 298 = .ok (.iaload, 1) := by decide +kernel
theorem d_Lw_law_299 : decode b_Lw_law 299 = .ok (.aload_n 0, 1) := by decide +kernel
theorem d_Lw_law_300 : decode b_Lw_law 300 = .ok (.iload 4, 2) := by decide +kernel
theorem d_Lw_law_302 : decode b_Lw_law 302 = .ok (.iconst 2, 1) := by decide +kernel
theorem d_Lw_law_303 : decode b_Lw_law 303 = .ok (.iadd, 1) := by decide +kernel
theorem d_Lw_law_304 : decode b_Lw_law 304 = .ok (.iaload, 1) := by decide +kernel
theorem d_Lw_law_305 : decode b_Lw_law 305 = .ok (.invokevirtual 47, 3) := by decide +kernel
theorem d_Lw_law_308 : decode b_Lw_law 308 = .ok (.if_icmp .eq 341, 3) := by decide +kernel
theorem d_Lw_law_311 : decode b_Lw_law 311 = .ok (.iconst 0, 1) := by decide +kernel
theorem d_Lw_law_312 : decode b_Lw_law 312 = .ok (.ireturn, 1) := by decide +kernel
theorem d_Lw_law_313 : decode b_Lw_law 313 = .ok (.aload_n 1, 1) := by decide +kernel
theorem d_Lw_law_314 : decode b_Lw_law 314 = .ok (.aload_n 0, 1) := by decide +kernel
theorem d_Lw_law_315 : decode b_Lw_law 315 = .ok (.iload 4, 2) := by decide +kernel
theorem d_Lw_law_317 : decode b_Lw_law 317 = .ok (.iconst 1, 1) := by decide +kernel
theorem d_Lw_law_318 : decode b_Lw_law 318 = .ok (.iadd, 1) := by decide +kernel
theorem d_Lw_law_319 : decode b_Lw_law 319 = .ok (.iaload, 1) := by decide +kernel
theorem d_Lw_law_320 : decode b_Lw_law 320 = .ok (.invokevirtual 48, 3) := by decide +kernel
theorem d_Lw_law_323 : decode b_Lw_law 323 = .ok (.aload_n 2, 1) := by decide +kernel
theorem d_Lw_law_324 : decode b_Lw_law 324 = .ok (.aload_n 0, 1) := by decide +kernel
theorem d_Lw_law_325 : decode b_Lw_law 325 = .ok (.iload 4, 2) := by decide +kernel
theorem d_Lw_law_327 : decode b_Lw_law 327 = .ok (.iconst 1, 1) := by decide +kernel
theorem d_Lw_law_328 : decode b_Lw_law 328 = .ok (.iadd, 1) := by decide +kernel
theorem d_Lw_law_329 : decode b_Lw_law 329 = .ok (.iaload, 1) := by decide +kernel
theorem d_Lw_law_330 : decode b_Lw_law 330 = .ok (.invokevirtual 51, 3) := by decide +kernel
theorem d_Lw_law_333 : decode b_Lw_law 333 = .ok (.if_icmp .eq 316, 3) := by decide +kernel
theorem d_Lw_law_336 : decode b_Lw_law 336 = .ok (.iconst 0, 1) := by decide +kernel
theorem d_Lw_law_337 : decode b_Lw_law 337 = .ok (.ireturn, 1) := by decide +kernel
theorem d_Lw_law_338 : decode b_Lw_law 338 = .ok (.aload_n 1, 1) := by decide +kernel
theorem d_Lw_law_339 : decode b_Lw_law 339 = .ok (.aload_n 0, 1) := by decide +kernel
theorem d_Lw_law_340 : decode b_Lw_law 340 = .ok (.iload 4, 2) := by decide +kernel
theorem d_Lw_law_342 : decode b_Lw_law 342 = .ok (.iconst 1, 1) := by decide +kernel
theorem d_Lw_law_343 : decode b_Lw_law 343 = .ok (.iadd, 1) := by decide +kernel
theorem d_Lw_law_344 : decode b_Lw_law 344 = .ok (.iaload, 1) := by decide +kernel
theorem d_Lw_law_345 : decode b_Lw_law 345 = .ok (.invokevirtual 52, 3) := by decide +kernel
theorem d_Lw_law_348 : decode b_Lw_law 348 = .ok (.aload_n 2, 1) := by decide +kernel
theorem d_Lw_law_349 : decode b_Lw_law 349 = .ok (.aload_n 0, 1) := by decide +kernel
theorem d_Lw_law_350 : decode b_Lw_law 350 = .ok (.iload 4, 2) := by decide +kernel
theorem d_Lw_law_352 : decode b_Lw_law 352 = .ok (.iconst 1, 1) := by decide +kernel
theorem d_Lw_law_353 : decode b_Lw_law 353 = .ok (.iadd, 1) := by decide +kernel
theorem d_Lw_law_354 : decode b_Lw_law 354 = .ok (.iaload, 1) := by decide +kernel
theorem d_Lw_law_355 : decode b_Lw_law 355 = .ok (.invokevirtual 55, 3) := by decide +kernel
theorem d_Lw_law_358 : decode b_Lw_law 358 = .ok (.if_icmp .eq 291, 3) := by decide +kernel
theorem d_Lw_law_361 : decode b_Lw_law 361 = .ok (.iconst 0, 1) := by decide +kernel
theorem d_Lw_law_362 : decode b_Lw_law 362 = .ok (.ireturn, 1) := by decide +kernel
theorem d_Lw_law_363 : decode b_Lw_law 363 = .ok (.aload_n 1, 1) := by decide +kernel
theorem d_Lw_law_364 : decode b_Lw_law 364 = .ok (.aload_n 0, 1) := by decide +kernel
theorem d_Lw_law_365 : decode b_Lw_law 365 = .ok (.iload 4, 2) := by decide +kernel
theorem d_Lw_law_367 : decode b_Lw_law 367 = .ok (.iconst 1, 1) := by decide +kernel
theorem d_Lw_law_368 : decode b_Lw_law 368 = .ok (.iadd, 1) := by decide +kernel
theorem d_Lw_law_369 : decode b_Lw_law 369 = .ok (.iaload, 1) := by decide +kernel
theorem d_Lw_law_370 : decode b_Lw_law 370 = .ok (.aload_n 0, 1) := by decide +kernel
theorem d_Lw_law_371 : decode b_Lw_law 371 = .ok (.iload 4, 2) := by decide +kernel
theorem d_Lw_law_373 : decode b_Lw_law 373 = .ok (.iconst 2, 1) := by decide +kernel
theorem d_Lw_law_374 : decode b_Lw_law 374 = .ok (.iadd, 1) := by decide +kernel
theorem d_Lw_law_375 : decode b_Lw_law 375 = .ok (.iaload, 1) := by decide +kernel
theorem d_Lw_law_376 : decode b_Lw_law 376 = .ok (.invokevirtual 56, 3) := by decide +kernel
theorem d_Lw_law_379 : decode b_Lw_law 379 = .ok (.aload_n 2, 1) := by decide +kernel
theorem d_Lw_law_380 : decode b_Lw_law 380 = .ok (.aload_n 0, 1) := by decide +kernel
theorem d_Lw_law_381 : decode b_Lw_law 381 = .ok (.iload 4, 2) := by decide +kernel
theorem d_Lw_law_383 : decode b_Lw_law 383 = .ok (.iconst 1, 1) := by decide +kernel
theorem d_Lw_law_384 : decode b_Lw_law 384 = .ok (.iadd, 1) := by decide +kernel
theorem d_Lw_law_385 : decode b_Lw_law 385 = .ok (.iaload, 1) := by decide +kernel
theorem d_Lw_law_386 : decode b_Lw_law 386 = .ok (.aload_n 0, 1) := by decide +kernel
theorem d_Lw_law_387 : decode b_Lw_law 387 = .ok (.iload 4, 2) := by decide +kernel
theorem d_Lw_law_389 : decode b_Lw_law 389 = .ok (.iconst 2, 1) := by decide +kernel
theorem d_Lw_law_390 : decode b_Lw_law 390 = .ok (.iadd, 1) := by decide +kernel
theorem d_Lw_law_391 : decode b_Lw_law 391 = .ok (.iaload, 1) := by decide +kernel
theorem d_Lw_law_392 : decode b_Lw_law 392 = .ok (.invokevirtual 59, 3) := by decide +kernel
theorem d_Lw_law_395 : decode b_Lw_law 395 = .ok (.if_icmp .eq 254, 3) := by decide +kernel
theorem d_Lw_law_398 : decode b_Lw_law 398 = .ok (.iconst 0, 1) := by decide +kernel
theorem d_Lw_law_399 : decode b_Lw_law 399 = .ok (.ireturn, 1) := by decide +kernel
theorem d_Lw_law_400 : decode b_Lw_law 400 = .ok (.aload_n 1, 1) := by decide +kernel
theorem d_Lw_law_401 : decode b_Lw_law 401 = .ok (.aload_n 0, 1) := by decide +kernel
theorem d_Lw_law_402 : decode b_Lw_law 402 = .ok (.iload 4, 2) := by decide +kernel
theorem d_Lw_law_404 : decode b_Lw_law 404 = .ok (.iconst 1, 1) := by decide +kernel
theorem d_Lw_law_405 : decode b_Lw_law 405 = .ok (.iadd, 1) := by decide +kernel
theorem d_Lw_law_406 : decode b_Lw_law 406 = .ok (.iaload, 1) := by decide +kernel
theorem d_Lw_law_407 : decode b_Lw_law 407 = .ok (.aload_n 3, 1) := by decide +kernel
theorem d_Lw_law_408 : decode b_Lw_law 408 = .ok (.invokestatic 60, 3) := by decide +kernel
theorem d_Lw_law_411 : decode b_Lw_law 411 = .ok (.istore 5, 2) := by decide +kernel
theorem d_Lw_law_413 : decode b_Lw_law 413 = .ok (.aload_n 2, 1) := by decide +kernel
theorem d_Lw_law_414 : decode b_Lw_law 414 = .ok (.aload_n 0, 1) := by decide +kernel
theorem d_Lw_law_415 : decode b_Lw_law 415 = .ok (.iload 4, 2) := by decide +kernel
theorem d_Lw_law_417 : decode b_Lw_law 417 = .ok (.iconst 1, 1) := by decide +kernel
theorem d_Lw_law_418 : decode b_Lw_law 418 = .ok (.iadd, 1) := by decide +kernel
theorem d_Lw_law_419 : decode b_Lw_law 419 = .ok (.iaload, 1) := by decide +kernel
theorem d_Lw_law_420 : decode b_Lw_law 420 = .ok (.invokevirtual 65, 3) := by decide +kernel
theorem d_Lw_law_423 : decode b_Lw_law 423 = .ok (.istore 6, 2) := by decide +kernel
theorem d_Lw_law_425 : decode b_Lw_law 425 = .ok (.aload_n 2, 1) := by decide +kernel
theorem d_Lw_law_426 : decode b_Lw_law 426 = .ok (.invokevirtual 66, 3) := by decide +kernel
theorem d_Lw_law_429 : decode b_Lw_law 429 = .ok (.iload 5, 2) := by decide +kernel
theorem d_Lw_law_431 : decode b_Lw_law 431 = .ok (.if_icmp .eq 5, 3) := by decide +kernel
theorem d_Lw_law_434 : decode b_Lw_law 434 = .ok (.iconst 0, 1) := by decide +kernel
theorem d_Lw_law_435 : decode b_Lw_law 435 = .ok (.ireturn, 1) := by decide +kernel
theorem d_Lw_law_436 : decode b_Lw_law 436 = .ok (.iload 5, 2) := by decide +kernel
theorem d_Lw_law_438 : decode b_Lw_law 438 = .ok (.ifCond .ne 15, 3) := by decide +kernel
theorem d_Lw_law_441 : decode b_Lw_law 441 = .ok (.aload_n 3, 1) := by decide +kernel
theorem d_Lw_law_442 : decode b_Lw_law 442 = .ok (.iconst 0, 1) := by decide +kernel
theorem d_Lw_law_443 : decode b_Lw_law 443 = .ok (.laload, 1) := by decide +kernel
theorem d_Lw_law_444 : decode b_Lw_law 444 = .ok (.iload 6, 2) := by decide +kernel
theorem d_Lw_law_446 : decode b_Lw_law 446 = .ok (.i2l, 1) := by decide +kernel
theorem d_Lw_law_447 : decode b_Lw_law 447 = .ok (.lcmp, 1) := by decide +kernel
theorem d_Lw_law_448 : decode b_Lw_law 448 = .ok (.ifCond .eq 5, 3) := by decide +kernel
theorem d_Lw_law_451 : decode b_Lw_law 451 = .ok (.iconst 0, 1) := by decide +kernel
theorem d_Lw_law_452 : decode b_Lw_law 452 = .ok (.ireturn, 1) := by decide +kernel
theorem d_Lw_law_453 : decode b_Lw_law 453 = .ok (.goto 196, 3) := by decide +kernel
theorem d_Lw_law_456 : decode b_Lw_law 456 = .ok (.aload_n 1, 1) := by decide +kernel
theorem d_Lw_law_457 : decode b_Lw_law 457 = .ok (.invokevirtual 70, 3) := by decide +kernel
theorem d_Lw_law_460 : decode b_Lw_law 460 = .ok (.aload_n 2, 1) := by decide +kernel
theorem d_Lw_law_461 : decode b_Lw_law 461 = .ok (.invokevirtual 73, 3) := by decide +kernel
theorem d_Lw_law_464 : decode b_Lw_law 464 = .ok (.if_icmp .eq 185, 3) := by decide +kernel
theorem d_Lw_law_467 : decode b_Lw_law 467 = .ok (.iconst 0, 1) := by decide +kernel
theorem d_Lw_law_468 : decode b_Lw_law 468 = .ok (.ireturn, 1) := by decide +kernel
theorem d_Lw_law_469 : decode b_Lw_law 469 = .ok (.aload_n 1, 1) := by decide +kernel
theorem d_Lw_law_470 : decode b_Lw_law 470 = .ok (.aload_n 0, 1) := by decide +kernel
theorem d_Lw_law_471 : decode b_Lw_law 471 = .ok (.iload 4, 2) := by decide +kernel
theorem d_Lw_law_473 : decode b_Lw_law 473 = .ok (.iconst 1, 1) := by decide +kernel
theorem d_Lw_law_474 : decode b_Lw_law 474 = .ok (.iadd, 1) := by decide +kernel
theorem d_Lw_law_475 : decode b_Lw_law 475 = .ok (.iaload, 1) := by decide +kernel
theorem d_Lw_law_476 : decode b_Lw_law 476 = .ok (.aload_n 0, 1) := by decide +kernel
theorem d_Lw_law_477 : decode b_Lw_law 477 = .ok (.iload 4, 2) := by decide +kernel
theorem d_Lw_law_479 : decode b_Lw_law 479 = .ok (.iconst 2, 1) := by decide +kernel
theorem d_Lw_law_480 : decode b_Lw_law 480 = .ok (.iadd, 1) := by decide +kernel
theorem d_Lw_law_481 : decode b_Lw_law 481 = .ok (.iaload, 1) := by decide +kernel
theorem d_Lw_law_482 : decode b_Lw_law 482 = .ok (.aload_n 0, 1) := by decide +kernel
theorem d_Lw_law_483 : decode b_Lw_law 483 = .ok (.iload 4, 2) := by decide +kernel
theorem d_Lw_law_485 : decode b_Lw_law 485 = .ok (.iconst 3, 1) := by decide +kernel
theorem d_Lw_law_486 : decode b_Lw_law 486 = .ok (.iadd, 1) := by decide +kernel
theorem d_Lw_law_487 : decode b_Lw_law 487 = .ok (.iaload, 1) := by decide +kernel
theorem d_Lw_law_488 : decode b_Lw_law 488 = .ok (.aload_n 0, 1) := by decide +kernel
theorem d_Lw_law_489 : decode b_Lw_law 489 = .ok (.iload 4, 2) := by decide +kernel
theorem d_Lw_law_491 : decode b_Lw_law 491 = .ok (.iconst 4, 1) := by decide +kernel
theorem d_Lw_law_492 : decode b_Lw_law 492 = .ok (.iadd, 1) := by decide +kernel
theorem d_Lw_law_493 : decode b_Lw_law 493 = .ok (.iaload, 1) := by decide +kernel
theorem d_Lw_law_494 : decode b_Lw_law 494 = .ok (.invokevirtual 74, 3) := by decide +kernel
theorem d_Lw_law_497 : decode b_Lw_law 497 = .ok (.aload_n 2, 1) := by decide +kernel
theorem d_Lw_law_498 : decode b_Lw_law 498 = .ok (.aload_n 0, 1) := by decide +kernel
theorem d_Lw_law_499 : decode b_Lw_law 499 = .ok (.iload 4, 2) := by decide +kernel
theorem d_Lw_law_501 : decode b_Lw_law 501 = .ok (.iconst 1, 1) := by decide +kernel
theorem d_Lw_law_502 : decode b_Lw_law 502 = .ok (.iadd, 1) := by decide +kernel
theorem d_Lw_law_503 : decode b_Lw_law 503 = .ok (.iaload, 1) := by decide +kernel
theorem d_Lw_law_504 : decode b_Lw_law 504 = .ok (.aload_n 0, 1) := by decide +kernel
theorem d_Lw_law_505 : decode b_Lw_law 505 = .ok (.iload 4, 2) := by decide +kernel
theorem d_Lw_law_507 : decode b_Lw_law 507 = .ok (.iconst 2, 1) := by decide +kernel
theorem d_Lw_law_508 : decode b_Lw_law 508 = .ok (.iadd, 1) := by decide +kernel
theorem d_Lw_law_509 : decode b_Lw_law 509 = .ok (.iaload, 1) := by decide +kernel
theorem d_Lw_law_510 : decode b_Lw_law 510 = .ok (.aload_n 0, 1) := by decide +kernel
theorem d_Lw_law_511 : decode b_Lw_law 511 = .ok (.iload 4, 2) := by decide +kernel
theorem d_Lw_law_513 : decode b_Lw_law 513 = .ok (.iconst 3, 1) := by decide +kernel
theorem d_Lw_law_514 : decode b_Lw_law 514 = .ok (.iadd, 1) := by decide +kernel
theorem d_Lw_law_515 : decode b_Lw_law 515 = .ok (.iaload, 1) := by decide +kernel
theorem d_Lw_law_516 : decode b_Lw_law 516 = .ok (.aload_n 0, 1) := by decide +kernel
theorem d_Lw_law_517 : decode b_Lw_law 517 = .ok (.iload 4, 2) := by decide +kernel
theorem d_Lw_law_519 : decode b_Lw_law 519 = .ok (.iconst 4, 1) := by decide +kernel
theorem d_Lw_law_520 : decode b_Lw_law 520 = .ok (.iadd, 1) := by decide +kernel
theorem d_Lw_law_521 : decode b_Lw_law 521 = .ok (.iaload, 1) := by decide +kernel
theorem d_Lw_law_522 : decode b_Lw_law 522 = .ok (.invokevirtual 78, 3) := by decide +kernel
theorem d_Lw_law_525 : decode b_Lw_law 525 = .ok (.if_icmp .eq 124, 3) := by decide +kernel
theorem d_Lw_law_528 : decode b_Lw_law 528 = .ok (.iconst 0, 1) := by decide +kernel
theorem d_Lw_law_529 : decode b_Lw_law 529 = .ok (.ireturn, 1) := by decide +kernel
theorem d_Lw_law_530 : decode b_Lw_law 530 = .ok (.aload_n 1, 1) := by decide +kernel
theorem d_Lw_law_531 : decode b_Lw_law 531 = .ok (.invokevirtual 79, 3) := by decide +kernel
theorem d_Lw_law_534 : decode b_Lw_law 534 = .ok (.aload_n 2, 1) := by decide +kernel
theorem d_Lw_law_535 : decode b_Lw_law 535 = .ok (.invokevirtual 82, 3) := by decide +kernel
theorem d_Lw_law_538 : decode b_Lw_law 538 = .ok (.if_icmp .eq 111, 3) := by decide +kernel
theorem d_Lw_law_541 : decode b_Lw_law 541 = .ok (.iconst 0, 1) := by decide +kernel
theorem d_Lw_law_542 : decode b_Lw_law 542 = .ok (.ireturn, 1) := by decide +kernel
theorem d_Lw_law_543 : decode b_Lw_law 543 = .ok (.aload_n 1, 1) := by decide +kernel
theorem d_Lw_law_544 : decode b_Lw_law 544 = .ok (.aload_n 0, 1) := by decide +kernel
theorem d_Lw_law_545 : decode b_Lw_law 545 = .ok (.iload 4, 2) := by decide +kernel
theorem d_Lw_law_547 : decode b_Lw_law 547 = .ok (.iconst 1, 1) := by decide +kernel
theorem d_Lw_law_548 : decode b_Lw_law 548 = .ok (.iadd, 1) := by decide +kernel
theorem d_Lw_law_549 : decode b_Lw_law 549 = .ok (.iaload, 1) := by decide +kernel
theorem d_Lw_law_550 : decode b_Lw_law 550 = .ok (.aload_n 0, 1) := by decide +kernel
theorem d_Lw_law_551 : decode b_Lw_law 551 = .ok (.iload 4, 2) := by decide +kernel
theorem d_Lw_law_553 : decode b_Lw_law 553 = .ok (.iconst 2, 1) := by decide +kernel
theorem d_Lw_law_554 : decode b_Lw_law 554 = .ok (.iadd, 1) := by decide +kernel
theorem d_Lw_law_555 : decode b_Lw_law 555 = .ok (.iaload, 1) := by decide +kernel
theorem d_Lw_law_556 : decode b_Lw_law 556 = .ok (.invokevirtual 83, 3) := by decide +kernel
theorem d_Lw_law_559 : decode b_Lw_law 559 = .ok (.aload_n 2, 1) := by decide +kernel
theorem d_Lw_law_560 : decode b_Lw_law 560 = .ok (.aload_n 0, 1) := by decide +kernel
theorem d_Lw_law_561 : decode b_Lw_law 561 = .ok (.iload 4, 2) := by decide +kernel
theorem d_Lw_law_563 : decode b_Lw_law 563 = .ok (.iconst 1, 1) := by decide +kernel
theorem d_Lw_law_564 : decode b_Lw_law 564 = .ok (.iadd, 1) := by decide +kernel
theorem d_Lw_law_565 : decode b_Lw_law 565 = .ok (.iaload, 1) := by decide +kernel
theorem d_Lw_law_566 : decode b_Lw_law 566 = .ok (.aload_n 0, 1) := by decide +kernel
theorem d_Lw_law_567 : decode b_Lw_law 567 = .ok (.iload 4, 2) := by decide +kernel
theorem d_Lw_law_569 : decode b_Lw_law 569 = .ok (.iconst 2, 1) := by decide +kernel
theorem d_Lw_law_570 : decode b_Lw_law 570 = .ok (.iadd, 1) := by decide +kernel
theorem d_Lw_law_571 : decode b_Lw_law 571 = .ok (.iaload, 1) := by decide +kernel
theorem d_Lw_law_572 : decode b_Lw_law 572 = .ok (.invokevirtual 86, 3) := by decide +kernel
theorem d_Lw_law_575 : decode b_Lw_law 575 = .ok (.if_icmp .eq 74, 3) := by decide +kernel
theorem d_Lw_law_578 : decode b_Lw_law 578 = .ok (.iconst 0, 1) := by decide +kernel
theorem d_Lw_law_579 : decode b_Lw_law 579 = .ok (.ireturn, 1) := by decide +kernel
theorem d_Lw_law_580 : decode b_Lw_law 580 = .ok (.aload_n 1, 1) := by decide +kernel
theorem d_Lw_law_581 : decode b_Lw_law 581 = .ok (.aload_n 0, 1) := by decide +kernel
theorem d_Lw_law_582 : decode b_Lw_law 582 = .ok (.iload 4, 2) := by decide +kernel
theorem d_Lw_law_584 : decode b_Lw_law 584 = .ok (.iconst 1, 1) := by decide +kernel
theorem d_Lw_law_585 : decode b_Lw_law 585 = .ok (.iadd, 1) := by decide +kernel
theorem d_Lw_law_586 : decode b_Lw_law 586 = .ok (.iaload, 1) := by decide +kernel
theorem d_Lw_law_587 : decode b_Lw_law 587 = .ok (.aload_n 3, 1) := by decide +kernel
theorem d_Lw_law_588 : decode b_Lw_law 588 = .ok (.invokestatic 87, 3) := by decide +kernel
theorem d_Lw_law_591 : decode b_Lw_law 591 = .ok (.istore 5, 2) := by decide +kernel
theorem d_Lw_law_593 : decode b_Lw_law 593 = .ok (.aload_n 2, 1) := by decide +kernel
theorem d_Lw_law_594 : decode b_Lw_law 594 = .ok (.aload_n 0, 1) := by decide +kernel
theorem d_Lw_law_595 : decode b_Lw_law 595 = .ok (.iload 4, 2) := by decide +kernel
theorem d_Lw_law_597 : decode b_Lw_law 597 = .ok (.iconst 1, 1) := by decide +kernel
theorem d_Lw_law_598 : decode b_Lw_law 598 = .ok (.iadd, 1) := by decide +kernel
theorem d_Lw_law_599 : decode b_Lw_law 599 = .ok (.iaload, 1) := by decide +kernel
theorem d_Lw_law_600 : decode b_Lw_law 600 = .ok (.invokevirtual 89, 3) := by decide +kernel
theorem d_Lw_law_603 : decode b_Lw_law 603 = .ok (.istore 6, 2) := by decide +kernel
theorem d_Lw_law_605 : decode b_Lw_law 605 = .ok (.aload_n 2, 1) := by decide +kernel
theorem d_Lw_law_606 : decode b_Lw_law 606 = .ok (.invokevirtual 66, 3) := by decide +kernel
theorem d_Lw_law_609 : decode b_Lw_law 609 = .ok (.iload 5, 2) := by decide +kernel
theorem d_Lw_law_611 : decode b_Lw_law 611 = .ok (.if_icmp .eq 5, 3) := by decide +kernel
theorem d_Lw_law_614 : decode b_Lw_law 614 = .ok (.iconst 0, 1) := by decide +kernel
theorem d_Lw_law_615 : decode b_Lw_law 615 = .ok (.ireturn, 1) := by decide +kernel
theorem d_Lw_law_616 : decode b_Lw_law 616 = .ok (.iload 5, 2) := by decide +kernel
theorem d_Lw_law_618 : decode b_Lw_law 618 = .ok (.ifCond .ne 15, 3) := by decide +kernel
theorem d_Lw_law_621 : decode b_Lw_law 621 = .ok (.aload_n 3, 1) := by decide +kernel
theorem d_Lw_law_622 : decode b_Lw_law 622 = .ok (.iconst 0, 1) := by decide +kernel
theorem d_Lw_law_623 : decode b_Lw_law 623 = .ok (.laload, 1) := by decide +kernel
theorem d_Lw_law_624 : decode b_Lw_law 624 = .ok (.iload 6, 2) := by decide +kernel
theorem d_Lw_law_626 : decode b_Lw_law 626 = .ok (.i2l, 1) := by decide +kernel
theorem d_Lw_law_627 : decode b_Lw_law 627 = .ok (.lcmp, 1) := by decide +kernel
theorem d_Lw_law_628 : decode b_Lw_law 628 = .ok (.ifCond .eq 5, 3) := by decide +kernel
theorem d_Lw_law_631 : decode b_Lw_law 631 = .ok (.iconst 0, 1) := by decide +kernel
theorem d_Lw_law_632 : decode b_Lw_law 632 = .ok (.ireturn, 1) := by decide +kernel
theorem d_Lw_law_633 : decode b_Lw_law 633 = .ok (.goto 16, 3) := by decide +kernel
theorem d_Lw_law_636 : decode b_Lw_law 636 = .ok (.aload_n 1, 1) := by decide +kernel
theorem d_Lw_law_637 : decode b_Lw_law 637 = .ok (.invokevirtual 90, 3) := by decide +kernel
theorem d_Lw_law_640 : decode b_Lw_law 640 = .ok (.aload_n 2, 1) := by decide +kernel
theorem d_Lw_law_641 : decode b_Lw_law 641 = .ok (.invokevirtual 93, 3) := by decide +kernel
theorem d_Lw_law_644 : decode b_Lw_law 644 = .ok (.if_icmp .eq 5, 3) := by decide +kernel
theorem d_Lw_law_647 : decode b_Lw_law 647 = .ok (.iconst 0, 1) := by decide +kernel
theorem d_Lw_law_648 : decode b_Lw_law 648 = .ok (.ireturn, 1) := by decide +kernel
theorem d_Lw_law_649 : decode b_Lw_law 649 = .ok (.iinc 4 6, 3) := by decide +kernel
theorem d_Lw_law_652 : decode b_Lw_law 652 = .ok (.goto (-629), 3) := by decide +kernel
theorem d_Lw_law_655 : decode b_Lw_law 655 = .ok (.iconst 1, 1) := by decide +kernel
theorem d_Lw_law_656 : decode b_Lw_law 656 = .ok (.ireturn, 1) := by decide +kernel
theorem law_and15 (x : Int32) : ∃ t, t < 16 ∧ x &&& nI 15 = nI t := by
  refine ⟨(x.toBitVec &&& 15#32).toNat, ?_, ?_⟩
  · rw [BitVec.toNat_and]
    exact Nat.lt_of_le_of_lt Nat.and_le_right (by decide)
  · rw [← Int32.toBitVec_inj, Int32.toBitVec_and]
    show x.toBitVec &&& 15#32 = BitVec.ofNat 32 (x.toBitVec &&& 15#32).toNat
    rw [BitVec.ofNat_toNat, BitVec.setWidth_eq]
theorem law_le {L i : Nat} (hL : L ≤ 3072) (hi : i ≤ 3078) (h : ¬ (nI L - nI 6 < nI i)) : i + 6 ≤ L := by
  by_cases h6 : 6 ≤ L
  · rw [pk_sub h6, nI_ltI (by omega) (by omega)] at h
    omega
  · refine absurd ?_ h
    rw [Int32.lt_iff_toInt_lt, nI_toInt (n := i) (by omega)]
    rcases (show L = 0 ∨ L = 1 ∨ L = 2 ∨ L = 3 ∨ L = 4 ∨ L = 5 from by omega) with rfl | rfl | rfl | rfl | rfl | rfl
    · rw [show (nI 0 - nI 6).toInt = -6 from by decide]; omega
    · rw [show (nI 1 - nI 6).toInt = -5 from by decide]; omega
    · rw [show (nI 2 - nI 6).toInt = -4 from by decide]; omega
    · rw [show (nI 3 - nI 6).toInt = -3 from by decide]; omega
    · rw [show (nI 4 - nI 6).toInt = -2 from by decide]; omega
    · rw [show (nI 5 - nI 6).toInt = -1 from by decide]; omega
theorem law_eq {r r' : Int32} {a a' : fx_A} {q : Int32 × fx_A} (h : (r, a) = q) (h' : (r', a') = q) : r = r' ∧ a = a' := by
  have e := h.trans h'.symm
  exact ⟨congrArg Prod.fst e, congrArg Prod.snd e⟩
theorem law_fi {r : Int32} {a : fx_A} {q : Int32 × fx_A} (h : (r, a) = q) (hq : fx_AI q.2) : fx_AI a := by
  subst h
  exact hq
theorem fi_size {A : fx_A} (h : fx_AI A) (f : Int32) : fx_AI (fa_size A f).2 := by
  unfold fa_size
  split
  · exact h
  · exact h
theorem fi_shape {A : fx_A} (h : fx_AI A) (f i : Int32) : fx_AI (fa_shape A f i).2 := by
  unfold fa_shape
  split
  · split <;> exact h
  · exact h
theorem fi_number {A : fx_A} (h : fx_AI A) (f i : Int32) : fx_AI (fa_number A f i).2 := by
  unfold fa_number
  split
  · split <;> exact h
  · exact h
theorem fi_fault {A : fx_A} (h : fx_AI A) (f : Int32) : fx_AI (fa_fault A f).2 := by
  unfold fa_fault
  split
  · exact h
  · exact h
theorem fi_place {A : fx_A} (h : fx_AI A) (f : Int32) : fx_AI (fa_place A f).2 := by
  unfold fa_place
  split
  · exact h
  · exact h
theorem law_ws {cw : Cond} {args : Array Value} {s : State} (hc : cw ∈ fs_T) (hts : ∀ w ∈ fs_T, w.before args s = true) : ∀ w ∈ cw :: fs_T, ∀ (a' : Array Value) (U : State), s.WarmedH U.vm → w.before a' U = true := by
  intro w hw a' U hW
  rcases List.mem_cons.mp hw with rfl | h
  · exact word_at hW (good_of_word (List.mem_filter.mp hc).2) (hts _ hc)
  · exact word_at hW (good_of_word (List.mem_filter.mp h).2) (hts _ h)
theorem fi_steps {A : fx_A} (h : fx_AI A) : fx_AI (fa_steps A).2 := h
def R_law : String := "FilterStackLaw"
def lw_P (b : Addr) (xs : List Int32) (args : Array Value) (s : State) : Prop := args = #[.ref b] ∧ s.IntsAt b xs ∧ xs.length ≤ 3072 ∧ (Jvm.Cond.and given_1 narrow_1).before args s = true
def lw_Q (_ : Array Value) (s : State) (o : Outcome) (t : State) : Prop := o = .returned (some (.int 1)) ∧ Framed s o t [] 601024 7293034
def lw_Z (below : List Frame) (a : Array Value) (s : State) : State → Prop := fun t => ∃ o, t.status = .running ∧ Ended t below o ∧ lw_Q a s o t
/-- the law's own end, with 1 on the stack, nothing written that was there before, its room as the claim has it -/
theorem lw_ret {p : Program} {l : Launch} {e : Env} {s : State} {m : MethodId} {below : List Frame} {meth : Method} {c : Code} {b : Nat} (hx : p.tables.exec = Jvm.exec) (hb : c.code = code) (hr : meth.sig.returnType = ret) (hlocks : meth.locks = false) {pc : Nat} {H : Heap} {ls : Array Slot} (hdg : decode code pc = .ok (.ireturn, 1)) : W p l e room_1 s m #[Value.ref b] below meth c H [] 601024 7293034 (lw_Z below #[Value.ref b] s) (F0 m pc ls [.int 1]) := by
  intro T hT X
  obtain ⟨fs, hret, hrun, hended, hW, hframe⟩ := X.leave (v := some (.int 1)) (hlocks := hlocks) (fun h => by rw [hr] at h; cases h)
  have hmeth' : T.vm.method? m = some meth := X.method'
  refine ⟨T.setFrames fs, ?_, .returned (some (.int 1)), hrun, hended, rfl, ⟨_, rfl⟩, hW, hframe⟩
  jvm_step X.here [X.here.top, hx, hb, hdg, hmeth', hr, ret, narrow_b1]
  (try refine ⟨rfl, ?_⟩); (try refine ⟨rfl, ?_⟩)
  first | (intro acts; rw [hret _ acts rfl rfl rfl]) | rw [hret _ _ rfl rfl rfl]
  exact Steps.refl _
/-- what holds at the law's entry: the machine, the code, the tables' words (any of lw_tbl by 'hts w (by decide +kernel)'), the script of L ints xs at the cell b, what the Statement gives of the start (any of its parts by flat_of_before) -/
def lw_At (p : Program) (s : State) (m : MethodId) (meth : Method) (c : Code) (b L : Nat) (xs : Nat → Int32) : Prop :=
  p.tables.exec = Jvm.exec ∧ c.code = code ∧ meth.sig.returnType = ret ∧ c.maxLocals = 7 ∧ s.vm.findClass R_law = some m.cls ∧ (∀ w ∈ lw_tbl, w.before #[Value.ref b] s = true) ∧ va_X b L xs s s.heap ∧ b < s.heap.size ∧ meth.locks = false ∧ (Jvm.Cond.and given_1 narrow_1).before #[Value.ref b] s = true

theorem law_cmp (x : Int64) : lg_cmp x x = 0 := by
  unfold lg_cmp
  simp
set_option maxHeartbeats 8000000 in
set_option maxRecDepth 100000 in
theorem law_loop {p : Program} {l : Launch} {e : Env} {s : State} {m : MethodId} {below : List Frame} {meth : Method} {c : Code} {b L : Nat} {xs : Nat → Int32} {dC : Nat → ClassId} {dI : Nat → Nat → Nat} {cI cZ cJ cF : ClassId} {fs mo o : Nat} {u v : Nat → Nat} (hL : L ≤ 3072) (hx : p.tables.exec = Jvm.exec) (hb : c.code = b_Lw_law) (hr : meth.sig.returnType = ret) (hml : c.maxLocals = 7) (hown : s.vm.findClass R_Lw = some m.cls) (hts : ∀ w ∈ fs_T, w.before #[Value.ref b] s = true) (hXs : va_X b L xs s s.heap) (hbl : b < s.heap.size) (hlocks : meth.locks = false) (htr : l.stackTraces = false) (hk0 : th_law #[Value.ref b] s) (hK : va_K (dC, dI) vwCl (fs_tys cI cZ cJ cF) s) :
    ∀ (n i : Nat) (A : fx_A) (J : fx_J) (M : fx_M) (k : Nat → Int64) (H : Heap) (locs : List Loc) (ls : Array Slot), L + 6 < i + n → i ≤ L + 6 → fx_AI A → fx_cr A J → fx_mr A M → va_P (dC, dI) vwCl (XC cI cF fs u J ++ (MC cI cZ mo v M ++ OC cJ o k)) H → va_D (fun q => s.heap.size ≤ q) (XC cI cF fs u J ++ (MC cI cZ mo v M ++ OC cJ o k)) → va_S (fun q => s.heap.size ≤ q) s.heap H locs → lv_has ls 7 [(0, .ref b), (1, .ref fs), (2, .ref mo), (3, .ref o), (4, .int (nI i))] →
      W p l e room_1 s m #[Value.ref b] below meth c H locs (100 + i) (3000 + i) (lw_Z below #[Value.ref b] s) (F0 m 23 ls []) := by
  intro n
  induction n with
  | zero => intro i A J M k H locs ls h1 h2; omega
  | succ n ih =>
    intro i A J M k H locs ls hn hi hI hJ hM hP hD hS hl
    have hbA : ¬ (fun q => s.heap.size ≤ q) b := fun h => absurd hbl (Nat.not_lt.mpr h)
    have hA : ∀ q, s.heap.size ≤ q → (fun q => s.heap.size ≤ q) q := fun q h => h
    have hX0 : th_X s s := ⟨State.WarmedH.refl s, Nat.le_refl _, fun _ _ => rfl⟩
    refine lv_iload hx hb d_Lw_law_23 (lv_at hl 4 rfl) ?_
    refine lv_aload_n hx hb d_Lw_law_25 rfl (lv_at hl 0 rfl) ?_
    refine va_slen (b := b) hx hb hXs hbl hbA hS d_Lw_law_26 ?_
    refine fs_eqi (v := nI L) rfl ?_
    refine lv_bipush (v := nI 6) hx hb d_Lw_law_27 (by decide) ?_
    refine lv_isub hx hb d_Lw_law_29 ?_
    refine lv_icmp_gt (tgt := 655) hx hb d_Lw_law_30 (by decide) (fun _ => ?_) (fun hc30 => ?_)
    · refine lv_iconst (v := 1) hx hb d_Lw_law_655 (by decide) ?_
      refine va_forget hS.2.2 ?_
      refine W.widen (k := 601024) (n := 7293034) (by omega) (by omega) ?_
      exact lw_ret hx hb hr hlocks d_Lw_law_656
    have hi6 := law_le hL (by omega) hc30
    refine lv_aload_n hx hb d_Lw_law_33 rfl (lv_at hl 0 rfl) ?_
    refine lv_iload hx hb d_Lw_law_34 (lv_at hl 4 rfl) ?_
    refine va_sld (b := b) hx hb hXs hbl hbA hS (vp_in_nI (by omega) (by omega)) d_Lw_law_36 ?_
    refine fs_eqi (v := xs (i)) (by rw [nI_clamp (by omega)]) ?_
    refine lv_bipush (v := nI 15) hx hb d_Lw_law_37 (by decide) ?_
    refine lv_iand hx hb d_Lw_law_39 ?_
    obtain ⟨t, ht16, ht⟩ := law_and15 (xs i)
    refine fs_eqi ht ?_
    clear ht
    rcases (show t = 0 ∨ t = 1 ∨ t = 2 ∨ t = 3 ∨ t = 4 ∨ t = 5 ∨ t = 6 ∨ t = 7 ∨ t = 8 ∨ t = 9 ∨ t = 10 ∨ t = 11 ∨ t = 12 ∨ t = 13 ∨ t = 14 ∨ t = 15 from by omega) with rfl | rfl | rfl | rfl | rfl | rfl | rfl | rfl | rfl | rfl | rfl | rfl | rfl | rfl | rfl | rfl
    · refine lv_tableIn (off := 76) (tgt := 116) hx hb d_Lw_law_40 (by decide) (by decide) rfl (by decide) ?_
      refine lv_aload_n hx hb d_Lw_law_116 rfl (lv_at hl 1 rfl) ?_
      refine lv_aload_n hx hb d_Lw_law_117 rfl (lv_at hl 0 rfl) ?_
      refine lv_iload hx hb d_Lw_law_118 (lv_at hl 4 rfl) ?_
      refine lv_iconst (v := nI 1) hx hb d_Lw_law_120 (by decide) ?_
      refine lv_iadd hx hb d_Lw_law_121 ?_
      refine fs_eqi (nI_add _ _) ?_
      refine va_sld (b := b) hx hb hXs hbl hbA hS (vp_in_nI (by omega) (by omega)) d_Lw_law_122 ?_
      refine fs_eqi (v := xs (i + 1)) (by rw [nI_clamp (by omega)]) ?_
      refine lv_aload_n hx hb d_Lw_law_123 rfl (lv_at hl 0 rfl) ?_
      refine lv_iload hx hb d_Lw_law_124 (lv_at hl 4 rfl) ?_
      refine lv_iconst (v := nI 2) hx hb d_Lw_law_126 (by decide) ?_
      refine lv_iadd hx hb d_Lw_law_127 ?_
      refine fs_eqi (nI_add _ _) ?_
      refine va_sld (b := b) hx hb hXs hbl hbA hS (vp_in_nI (by omega) (by omega)) d_Lw_law_128 ?_
      refine fs_eqi (v := xs (i + 2)) (by rw [nI_clamp (by omega)]) ?_
      refine lv_aload_n hx hb d_Lw_law_129 rfl (lv_at hl 0 rfl) ?_
      refine lv_iload hx hb d_Lw_law_130 (lv_at hl 4 rfl) ?_
      refine lv_iconst (v := nI 3) hx hb d_Lw_law_132 (by decide) ?_
      refine lv_iadd hx hb d_Lw_law_133 ?_
      refine fs_eqi (nI_add _ _) ?_
      refine va_sld (b := b) hx hb hXs hbl hbA hS (vp_in_nI (by omega) (by omega)) d_Lw_law_134 ?_
      refine fs_eqi (v := xs (i + 3)) (by rw [nI_clamp (by omega)]) ?_
      refine lv_aload_n hx hb d_Lw_law_135 rfl (lv_at hl 0 rfl) ?_
      refine lv_iload hx hb d_Lw_law_136 (lv_at hl 4 rfl) ?_
      refine lv_iconst (v := nI 4) hx hb d_Lw_law_138 (by decide) ?_
      refine lv_iadd hx hb d_Lw_law_139 ?_
      refine fs_eqi (nI_add _ _) ?_
      refine va_sld (b := b) hx hb hXs hbl hbA hS (vp_in_nI (by omega) (by omega)) d_Lw_law_140 ?_
      refine fs_eqi (v := xs (i + 4)) (by rw [nI_clamp (by omega)]) ?_
      refine lv_aload_n hx hb d_Lw_law_141 rfl (lv_at hl 0 rfl) ?_
      refine lv_iload hx hb d_Lw_law_142 (lv_at hl 4 rfl) ?_
      refine lv_iconst (v := nI 5) hx hb d_Lw_law_144 (by decide) ?_
      refine lv_iadd hx hb d_Lw_law_145 ?_
      refine fs_eqi (nI_add _ _) ?_
      refine va_sld (b := b) hx hb hXs hbl hbA hS (vp_in_nI (by omega) (by omega)) d_Lw_law_146 ?_
      refine fs_eqi (v := xs (i + 5)) (by rw [nI_clamp (by omega)]) ?_
      refine fs_calli (wc := XC cI cF fs u J) (wr := MC cI cZ mo v M ++ OC cJ o k) [0, 1, 2, 3, 4, 5, 6, 7, 8, 9, 10, 11, 12, 13, 14, 15, 16, 17, 18, 19, 20, 21, 22, 23, 24, 25, 26, 27, 28, 29, 30, 31, 32, 33, 34, 35, 36, 37, 38, 39, 40, 41, 42, 43, 44, 45, 46, 47, 48, 49, 50, 51, 52] [53, 54, 55, 56, 57, 58, 59, 60, 61, 62, 63, 64, 65, 66] hP hD hK hS hA rfl rfl rfl (by decide) (fun hPc hDc => va_runV (C := R_Fs) (As := [.int (xs (i + 1)), .int (xs (i + 2)), .int (xs (i + 3)), .int (xs (i + 4)), .int (xs (i + 5))]) (rest := []) ⟨hx, hb, hml, hown, hts⟩ (x_Fs_add fs u A J (xs (i + 1)) (xs (i + 2)) (xs (i + 3)) (xs (i + 4)) (xs (i + 5)) _ hI hJ) (⟨callB_of 5 hts (fs_g kin_Fs_add) rfl rfl rfl (hts _ wi_1) (hts _ wi_136) (by decide +kernel) ⟨Nat.le_of_ble_eq_true rfl, Nat.le_of_ble_eq_true rfl⟩, hts _ wi_137, hts _ wi_138⟩) (fs_preV (q0 := 0) rfl rfl hPc hK hDc) rfl rfl hl.1 rfl (lv_room (Nat.le_of_ble_eq_true rfl)) d_Lw_law_147 ⟨by show _ ≤ 601024; omega, by show _ ≤ 7293034; omega⟩) rfl (fun r147 z147 H locs hp147 hP hD hS => ?_)
      have hP : va_P (dC, dI) vwCl (XC cI cF fs u z147.2 ++ (MC cI cZ mo v M ++ OC cJ o k)) H := hP.sub [14, 15, 16, 17, 18, 19, 20, 21, 22, 23, 24, 25, 26, 27, 28, 29, 30, 31, 32, 33, 34, 35, 36, 37, 38, 39, 40, 41, 42, 43, 44, 45, 46, 47, 48, 49, 50, 51, 52, 53, 54, 55, 56, 57, 58, 59, 60, 61, 62, 63, 64, 65, 66, 0, 1, 2, 3, 4, 5, 6, 7, 8, 9, 10, 11, 12, 13] rfl
      have hD : va_D (fun q => s.heap.size ≤ q) (XC cI cF fs u z147.2 ++ (MC cI cZ mo v M ++ OC cJ o k)) := hD.sub [14, 15, 16, 17, 18, 19, 20, 21, 22, 23, 24, 25, 26, 27, 28, 29, 30, 31, 32, 33, 34, 35, 36, 37, 38, 39, 40, 41, 42, 43, 44, 45, 46, 47, 48, 49, 50, 51, 52, 53, 54, 55, 56, 57, 58, 59, 60, 61, 62, 63, 64, 65, 66, 0, 1, 2, 3, 4, 5, 6, 7, 8, 9, 10, 11, 12, 13] (by decide) rfl
      refine lv_aload_n hx hb d_Lw_law_150 rfl (lv_at hl 2 rfl) ?_
      refine lv_aload_n hx hb d_Lw_law_151 rfl (lv_at hl 0 rfl) ?_
      refine lv_iload hx hb d_Lw_law_152 (lv_at hl 4 rfl) ?_
      refine lv_iconst (v := nI 1) hx hb d_Lw_law_154 (by decide) ?_
      refine lv_iadd hx hb d_Lw_law_155 ?_
      refine fs_eqi (nI_add _ _) ?_
      refine va_sld (b := b) hx hb hXs hbl hbA hS (vp_in_nI (by omega) (by omega)) d_Lw_law_156 ?_
      refine fs_eqi (v := xs (i + 1)) (by rw [nI_clamp (by omega)]) ?_
      refine lv_aload_n hx hb d_Lw_law_157 rfl (lv_at hl 0 rfl) ?_
      refine lv_iload hx hb d_Lw_law_158 (lv_at hl 4 rfl) ?_
      refine lv_iconst (v := nI 2) hx hb d_Lw_law_160 (by decide) ?_
      refine lv_iadd hx hb d_Lw_law_161 ?_
      refine fs_eqi (nI_add _ _) ?_
      refine va_sld (b := b) hx hb hXs hbl hbA hS (vp_in_nI (by omega) (by omega)) d_Lw_law_162 ?_
      refine fs_eqi (v := xs (i + 2)) (by rw [nI_clamp (by omega)]) ?_
      refine lv_aload_n hx hb d_Lw_law_163 rfl (lv_at hl 0 rfl) ?_
      refine lv_iload hx hb d_Lw_law_164 (lv_at hl 4 rfl) ?_
      refine lv_iconst (v := nI 3) hx hb d_Lw_law_166 (by decide) ?_
      refine lv_iadd hx hb d_Lw_law_167 ?_
      refine fs_eqi (nI_add _ _) ?_
      refine va_sld (b := b) hx hb hXs hbl hbA hS (vp_in_nI (by omega) (by omega)) d_Lw_law_168 ?_
      refine fs_eqi (v := xs (i + 3)) (by rw [nI_clamp (by omega)]) ?_
      refine lv_aload_n hx hb d_Lw_law_169 rfl (lv_at hl 0 rfl) ?_
      refine lv_iload hx hb d_Lw_law_170 (lv_at hl 4 rfl) ?_
      refine lv_iconst (v := nI 4) hx hb d_Lw_law_172 (by decide) ?_
      refine lv_iadd hx hb d_Lw_law_173 ?_
      refine fs_eqi (nI_add _ _) ?_
      refine va_sld (b := b) hx hb hXs hbl hbA hS (vp_in_nI (by omega) (by omega)) d_Lw_law_174 ?_
      refine fs_eqi (v := xs (i + 4)) (by rw [nI_clamp (by omega)]) ?_
      refine lv_aload_n hx hb d_Lw_law_175 rfl (lv_at hl 0 rfl) ?_
      refine lv_iload hx hb d_Lw_law_176 (lv_at hl 4 rfl) ?_
      refine lv_iconst (v := nI 5) hx hb d_Lw_law_178 (by decide) ?_
      refine lv_iadd hx hb d_Lw_law_179 ?_
      refine fs_eqi (nI_add _ _) ?_
      refine va_sld (b := b) hx hb hXs hbl hbA hS (vp_in_nI (by omega) (by omega)) d_Lw_law_180 ?_
      refine fs_eqi (v := xs (i + 5)) (by rw [nI_clamp (by omega)]) ?_
      refine fs_calli (wc := MC cI cZ mo v M) (wr := XC cI cF fs u z147.2 ++ OC cJ o k) [53, 54, 55, 56, 57, 58, 59, 60, 61, 62, 63, 64, 65] [0, 1, 2, 3, 4, 5, 6, 7, 8, 9, 10, 11, 12, 13, 14, 15, 16, 17, 18, 19, 20, 21, 22, 23, 24, 25, 26, 27, 28, 29, 30, 31, 32, 33, 34, 35, 36, 37, 38, 39, 40, 41, 42, 43, 44, 45, 46, 47, 48, 49, 50, 51, 52, 66] hP hD hK hS hA rfl rfl rfl (by decide) (fun hPc hDc => va_runV (C := R_Mo) (As := [.int (xs (i + 1)), .int (xs (i + 2)), .int (xs (i + 3)), .int (xs (i + 4)), .int (xs (i + 5))]) (rest := [.int r147]) ⟨hx, hb, hml, hown, hts⟩ (x_Mo_add mo v A M (xs (i + 1)) (xs (i + 2)) (xs (i + 3)) (xs (i + 4)) (xs (i + 5)) _ hI hM) (⟨callB_of 5 hts (fs_g kin_Mo_add) rfl rfl rfl (hts _ wi_6) (hts _ wi_484) (by decide +kernel) ⟨Nat.le_of_ble_eq_true rfl, Nat.le_of_ble_eq_true rfl⟩, hts _ wi_485, hts _ wi_486⟩) (fs_preV (q0 := 0) rfl rfl hPc hK hDc) rfl rfl hl.1 rfl (lv_room (Nat.le_of_ble_eq_true rfl)) d_Lw_law_181 ⟨by show _ ≤ 601024; omega, by show _ ≤ 7293034; omega⟩) rfl (fun r181 z181 H locs hp181 hP hD hS => ?_)
      have hP : va_P (dC, dI) vwCl (XC cI cF fs u z147.2 ++ (MC cI cZ mo v z181.2 ++ OC cJ o k)) H := hP.sub [0, 1, 2, 3, 4, 5, 6, 7, 8, 9, 10, 11, 12, 13, 14, 15, 16, 17, 18, 19, 20, 21, 22, 23, 24, 25, 26, 27, 28, 29, 30, 31, 32, 33, 34, 35, 36, 37, 38, 39, 40, 41, 42, 43, 44, 45, 46, 47, 48, 49, 50, 51, 52, 54, 55, 56, 57, 58, 59, 60, 61, 62, 63, 64, 65, 66, 53] rfl
      have hD : va_D (fun q => s.heap.size ≤ q) (XC cI cF fs u z147.2 ++ (MC cI cZ mo v z181.2 ++ OC cJ o k)) := hD.sub [0, 1, 2, 3, 4, 5, 6, 7, 8, 9, 10, 11, 12, 13, 14, 15, 16, 17, 18, 19, 20, 21, 22, 23, 24, 25, 26, 27, 28, 29, 30, 31, 32, 33, 34, 35, 36, 37, 38, 39, 40, 41, 42, 43, 44, 45, 46, 47, 48, 49, 50, 51, 52, 54, 55, 56, 57, 58, 59, 60, 61, 62, 63, 64, 65, 66, 53] (by decide) rfl
      obtain ⟨hre, hae⟩ := law_eq hp147.1 hp181.1
      refine lv_icmp_eq (tgt := 649) hx hb d_Lw_law_184 (by decide) (fun _ => ?_) (fun hc => absurd hre hc)
      have hJ2 : fx_cr z181.1 z147.2 := by rw [← hae]; exact hp147.2
      have hI2 : fx_AI z181.1 := law_fi hp181.1 (fi_add hI (xs (i + 1)) (xs (i + 2)) (xs (i + 3)) (xs (i + 4)) (xs (i + 5)))
      refine lv_iinc (v := nI (i + 6)) (k := 4) hx hb d_Lw_law_649 hl rfl (fs_incN i 6) (by decide) (lv' := [(4, .int (nI (i + 6))), (0, .ref b), (1, .ref fs), (2, .ref mo), (3, .ref o)]) rfl (fun ls hl => ?_)
      refine lv_goto (tgt := 23) hx hb d_Lw_law_652 (by decide) ?_
      refine W.widen (k := 100 + (i + 6)) (n := 3000 + (i + 6)) (by omega) (by omega) ?_
      exact ih (i + 6) z181.1 z147.2 z181.2 k _ _ _ (by omega) (by omega) hI2 hJ2 hp181.2 hP hD hS (lv_sub hl [1, 2, 3, 4, 0] rfl)
    · refine lv_tableIn (off := 149) (tgt := 189) hx hb d_Lw_law_40 (by decide) (by decide) rfl (by decide) ?_
      refine lv_aload_n hx hb d_Lw_law_189 rfl (lv_at hl 1 rfl) ?_
      refine lv_aload_n hx hb d_Lw_law_190 rfl (lv_at hl 0 rfl) ?_
      refine lv_iload hx hb d_Lw_law_191 (lv_at hl 4 rfl) ?_
      refine lv_iconst (v := nI 1) hx hb d_Lw_law_193 (by decide) ?_
      refine lv_iadd hx hb d_Lw_law_194 ?_
      refine fs_eqi (nI_add _ _) ?_
      refine va_sld (b := b) hx hb hXs hbl hbA hS (vp_in_nI (by omega) (by omega)) d_Lw_law_195 ?_
      refine fs_eqi (v := xs (i + 1)) (by rw [nI_clamp (by omega)]) ?_
      refine fs_calli (wc := XC cI cF fs u J) (wr := MC cI cZ mo v M ++ OC cJ o k) [0, 1, 2, 3, 4, 5, 6, 7, 8, 9, 10, 11, 12, 13, 14, 15, 16, 17, 18, 19, 20, 21, 22, 23, 24, 25, 26, 27, 28, 29, 30, 31, 32, 33, 34, 35, 36, 37, 38, 39, 40, 41, 42, 43, 44, 45, 46, 47, 48, 49, 50, 51, 52] [53, 54, 55, 56, 57, 58, 59, 60, 61, 62, 63, 64, 65, 66] hP hD hK hS hA rfl rfl rfl (by decide) (fun hPc hDc => va_runV (C := R_Fs) (As := [.int (xs (i + 1))]) (rest := []) ⟨hx, hb, hml, hown, hts⟩ (x_Fs_clear fs u A J (xs (i + 1)) _ hI hJ) (⟨callB_of 1 hts (fs_g kin_Fs_clear) rfl rfl rfl (hts _ wi_1) (hts _ wi_150) (by decide +kernel) ⟨Nat.le_of_ble_eq_true rfl, Nat.le_of_ble_eq_true rfl⟩, hts _ wi_151, hts _ wi_152⟩) (fs_preV (q0 := 0) rfl rfl hPc hK hDc) rfl rfl hl.1 rfl (lv_room (Nat.le_of_ble_eq_true rfl)) d_Lw_law_196 ⟨by show _ ≤ 601024; omega, by show _ ≤ 7293034; omega⟩) rfl (fun r196 z196 H locs hp196 hP hD hS => ?_)
      have hP : va_P (dC, dI) vwCl (XC cI cF fs u z196.2 ++ (MC cI cZ mo v M ++ OC cJ o k)) H := hP.sub [14, 15, 16, 17, 18, 19, 20, 21, 22, 23, 24, 25, 26, 27, 28, 29, 30, 31, 32, 33, 34, 35, 36, 37, 38, 39, 40, 41, 42, 43, 44, 45, 46, 47, 48, 49, 50, 51, 52, 53, 54, 55, 56, 57, 58, 59, 60, 61, 62, 63, 64, 65, 66, 0, 1, 2, 3, 4, 5, 6, 7, 8, 9, 10, 11, 12, 13] rfl
      have hD : va_D (fun q => s.heap.size ≤ q) (XC cI cF fs u z196.2 ++ (MC cI cZ mo v M ++ OC cJ o k)) := hD.sub [14, 15, 16, 17, 18, 19, 20, 21, 22, 23, 24, 25, 26, 27, 28, 29, 30, 31, 32, 33, 34, 35, 36, 37, 38, 39, 40, 41, 42, 43, 44, 45, 46, 47, 48, 49, 50, 51, 52, 53, 54, 55, 56, 57, 58, 59, 60, 61, 62, 63, 64, 65, 66, 0, 1, 2, 3, 4, 5, 6, 7, 8, 9, 10, 11, 12, 13] (by decide) rfl
      refine lv_aload_n hx hb d_Lw_law_199 rfl (lv_at hl 2 rfl) ?_
      refine lv_aload_n hx hb d_Lw_law_200 rfl (lv_at hl 0 rfl) ?_
      refine lv_iload hx hb d_Lw_law_201 (lv_at hl 4 rfl) ?_
      refine lv_iconst (v := nI 1) hx hb d_Lw_law_203 (by decide) ?_
      refine lv_iadd hx hb d_Lw_law_204 ?_
      refine fs_eqi (nI_add _ _) ?_
      refine va_sld (b := b) hx hb hXs hbl hbA hS (vp_in_nI (by omega) (by omega)) d_Lw_law_205 ?_
      refine fs_eqi (v := xs (i + 1)) (by rw [nI_clamp (by omega)]) ?_
      refine fs_calli (wc := MC cI cZ mo v M) (wr := XC cI cF fs u z196.2 ++ OC cJ o k) [53, 54, 55, 56, 57, 58, 59, 60, 61, 62, 63, 64, 65] [0, 1, 2, 3, 4, 5, 6, 7, 8, 9, 10, 11, 12, 13, 14, 15, 16, 17, 18, 19, 20, 21, 22, 23, 24, 25, 26, 27, 28, 29, 30, 31, 32, 33, 34, 35, 36, 37, 38, 39, 40, 41, 42, 43, 44, 45, 46, 47, 48, 49, 50, 51, 52, 66] hP hD hK hS hA rfl rfl rfl (by decide) (fun hPc hDc => va_runV (C := R_Mo) (As := [.int (xs (i + 1))]) (rest := [.int r196]) ⟨hx, hb, hml, hown, hts⟩ (x_Mo_clear mo v A M (xs (i + 1)) _ hI hM) (⟨callB_of 1 hts (fs_g kin_Mo_clear) rfl rfl rfl (hts _ wi_6) (hts _ wi_495) (by decide +kernel) ⟨Nat.le_of_ble_eq_true rfl, Nat.le_of_ble_eq_true rfl⟩, hts _ wi_496, hts _ wi_497⟩) (fs_preV (q0 := 0) rfl rfl hPc hK hDc) rfl rfl hl.1 rfl (lv_room (Nat.le_of_ble_eq_true rfl)) d_Lw_law_206 ⟨by show _ ≤ 601024; omega, by show _ ≤ 7293034; omega⟩) rfl (fun r206 z206 H locs hp206 hP hD hS => ?_)
      have hP : va_P (dC, dI) vwCl (XC cI cF fs u z196.2 ++ (MC cI cZ mo v z206.2 ++ OC cJ o k)) H := hP.sub [0, 1, 2, 3, 4, 5, 6, 7, 8, 9, 10, 11, 12, 13, 14, 15, 16, 17, 18, 19, 20, 21, 22, 23, 24, 25, 26, 27, 28, 29, 30, 31, 32, 33, 34, 35, 36, 37, 38, 39, 40, 41, 42, 43, 44, 45, 46, 47, 48, 49, 50, 51, 52, 54, 55, 56, 57, 58, 59, 60, 61, 62, 63, 64, 65, 66, 53] rfl
      have hD : va_D (fun q => s.heap.size ≤ q) (XC cI cF fs u z196.2 ++ (MC cI cZ mo v z206.2 ++ OC cJ o k)) := hD.sub [0, 1, 2, 3, 4, 5, 6, 7, 8, 9, 10, 11, 12, 13, 14, 15, 16, 17, 18, 19, 20, 21, 22, 23, 24, 25, 26, 27, 28, 29, 30, 31, 32, 33, 34, 35, 36, 37, 38, 39, 40, 41, 42, 43, 44, 45, 46, 47, 48, 49, 50, 51, 52, 54, 55, 56, 57, 58, 59, 60, 61, 62, 63, 64, 65, 66, 53] (by decide) rfl
      obtain ⟨hre, hae⟩ := law_eq hp196.1 hp206.1
      refine lv_icmp_eq (tgt := 649) hx hb d_Lw_law_209 (by decide) (fun _ => ?_) (fun hc => absurd hre hc)
      have hJ2 : fx_cr z206.1 z196.2 := by rw [← hae]; exact hp196.2
      have hI2 : fx_AI z206.1 := law_fi hp206.1 (fi_clear hI (xs (i + 1)))
      refine lv_iinc (v := nI (i + 6)) (k := 4) hx hb d_Lw_law_649 hl rfl (fs_incN i 6) (by decide) (lv' := [(4, .int (nI (i + 6))), (0, .ref b), (1, .ref fs), (2, .ref mo), (3, .ref o)]) rfl (fun ls hl => ?_)
      refine lv_goto (tgt := 23) hx hb d_Lw_law_652 (by decide) ?_
      refine W.widen (k := 100 + (i + 6)) (n := 3000 + (i + 6)) (by omega) (by omega) ?_
      exact ih (i + 6) z206.1 z196.2 z206.2 k _ _ _ (by omega) (by omega) hI2 hJ2 hp206.2 hP hD hS (lv_sub hl [1, 2, 3, 4, 0] rfl)
    · refine lv_tableIn (off := 174) (tgt := 214) hx hb d_Lw_law_40 (by decide) (by decide) rfl (by decide) ?_
      refine lv_aload_n hx hb d_Lw_law_214 rfl (lv_at hl 1 rfl) ?_
      refine lv_aload_n hx hb d_Lw_law_215 rfl (lv_at hl 0 rfl) ?_
      refine lv_iload hx hb d_Lw_law_216 (lv_at hl 4 rfl) ?_
      refine lv_iconst (v := nI 1) hx hb d_Lw_law_218 (by decide) ?_
      refine lv_iadd hx hb d_Lw_law_219 ?_
      refine fs_eqi (nI_add _ _) ?_
      refine va_sld (b := b) hx hb hXs hbl hbA hS (vp_in_nI (by omega) (by omega)) d_Lw_law_220 ?_
      refine fs_eqi (v := xs (i + 1)) (by rw [nI_clamp (by omega)]) ?_
      refine fs_calli (wc := XC cI cF fs u J) (wr := MC cI cZ mo v M ++ OC cJ o k) [0, 1, 2, 3, 4, 5, 6, 7, 8, 9, 10, 11, 12, 13, 14, 15, 16, 17, 18, 19, 20, 21, 22, 23, 24, 25, 26, 27, 28, 29, 30, 31, 32, 33, 34, 35, 36, 37, 38, 39, 40, 41, 42, 43, 44, 45, 46, 47, 48, 49, 50, 51, 52] [53, 54, 55, 56, 57, 58, 59, 60, 61, 62, 63, 64, 65, 66] hP hD hK hS hA rfl rfl rfl (by decide) (fun hPc hDc => va_runV (C := R_Fs) (As := [.int (xs (i + 1))]) (rest := []) ⟨hx, hb, hml, hown, hts⟩ (x_Fs_size fs u A J (xs (i + 1)) _ hI hJ) (⟨callB_of 1 hts (fs_g kin_Fs_size) rfl rfl rfl (hts _ wi_1) (hts _ wi_158) (by decide +kernel) ⟨Nat.le_of_ble_eq_true rfl, Nat.le_of_ble_eq_true rfl⟩, hts _ wi_159, hts _ wi_160⟩) (fs_preV (q0 := 0) rfl rfl hPc hK hDc) rfl rfl hl.1 rfl (lv_room (Nat.le_of_ble_eq_true rfl)) d_Lw_law_221 ⟨by show _ ≤ 601024; omega, by show _ ≤ 7293034; omega⟩) rfl (fun r221 z221 H locs hp221 hP hD hS => ?_)
      have hP : va_P (dC, dI) vwCl (XC cI cF fs u z221.2 ++ (MC cI cZ mo v M ++ OC cJ o k)) H := hP.sub [14, 15, 16, 17, 18, 19, 20, 21, 22, 23, 24, 25, 26, 27, 28, 29, 30, 31, 32, 33, 34, 35, 36, 37, 38, 39, 40, 41, 42, 43, 44, 45, 46, 47, 48, 49, 50, 51, 52, 53, 54, 55, 56, 57, 58, 59, 60, 61, 62, 63, 64, 65, 66, 0, 1, 2, 3, 4, 5, 6, 7, 8, 9, 10, 11, 12, 13] rfl
      have hD : va_D (fun q => s.heap.size ≤ q) (XC cI cF fs u z221.2 ++ (MC cI cZ mo v M ++ OC cJ o k)) := hD.sub [14, 15, 16, 17, 18, 19, 20, 21, 22, 23, 24, 25, 26, 27, 28, 29, 30, 31, 32, 33, 34, 35, 36, 37, 38, 39, 40, 41, 42, 43, 44, 45, 46, 47, 48, 49, 50, 51, 52, 53, 54, 55, 56, 57, 58, 59, 60, 61, 62, 63, 64, 65, 66, 0, 1, 2, 3, 4, 5, 6, 7, 8, 9, 10, 11, 12, 13] (by decide) rfl
      refine lv_aload_n hx hb d_Lw_law_224 rfl (lv_at hl 2 rfl) ?_
      refine lv_aload_n hx hb d_Lw_law_225 rfl (lv_at hl 0 rfl) ?_
      refine lv_iload hx hb d_Lw_law_226 (lv_at hl 4 rfl) ?_
      refine lv_iconst (v := nI 1) hx hb d_Lw_law_228 (by decide) ?_
      refine lv_iadd hx hb d_Lw_law_229 ?_
      refine fs_eqi (nI_add _ _) ?_
      refine va_sld (b := b) hx hb hXs hbl hbA hS (vp_in_nI (by omega) (by omega)) d_Lw_law_230 ?_
      refine fs_eqi (v := xs (i + 1)) (by rw [nI_clamp (by omega)]) ?_
      refine fs_calli (wc := MC cI cZ mo v M) (wr := XC cI cF fs u z221.2 ++ OC cJ o k) [53, 54, 55, 56, 57, 58, 59, 60, 61, 62, 63, 64, 65] [0, 1, 2, 3, 4, 5, 6, 7, 8, 9, 10, 11, 12, 13, 14, 15, 16, 17, 18, 19, 20, 21, 22, 23, 24, 25, 26, 27, 28, 29, 30, 31, 32, 33, 34, 35, 36, 37, 38, 39, 40, 41, 42, 43, 44, 45, 46, 47, 48, 49, 50, 51, 52, 66] hP hD hK hS hA rfl rfl rfl (by decide) (fun hPc hDc => va_runV (C := R_Mo) (As := [.int (xs (i + 1))]) (rest := [.int r221]) ⟨hx, hb, hml, hown, hts⟩ (x_Mo_size mo v A M (xs (i + 1)) _ hI hM) (⟨callB_of 1 hts (fs_g kin_Mo_size) rfl rfl rfl (hts _ wi_6) (hts _ wi_499) (by decide +kernel) ⟨Nat.le_of_ble_eq_true rfl, Nat.le_of_ble_eq_true rfl⟩, hts _ wi_500, hts _ wi_501⟩) (fs_preV (q0 := 0) rfl rfl hPc hK hDc) rfl rfl hl.1 rfl (lv_room (Nat.le_of_ble_eq_true rfl)) d_Lw_law_231 ⟨by show _ ≤ 601024; omega, by show _ ≤ 7293034; omega⟩) rfl (fun r231 z231 H locs hp231 hP hD hS => ?_)
      have hP : va_P (dC, dI) vwCl (XC cI cF fs u z221.2 ++ (MC cI cZ mo v z231.2 ++ OC cJ o k)) H := hP.sub [0, 1, 2, 3, 4, 5, 6, 7, 8, 9, 10, 11, 12, 13, 14, 15, 16, 17, 18, 19, 20, 21, 22, 23, 24, 25, 26, 27, 28, 29, 30, 31, 32, 33, 34, 35, 36, 37, 38, 39, 40, 41, 42, 43, 44, 45, 46, 47, 48, 49, 50, 51, 52, 54, 55, 56, 57, 58, 59, 60, 61, 62, 63, 64, 65, 66, 53] rfl
      have hD : va_D (fun q => s.heap.size ≤ q) (XC cI cF fs u z221.2 ++ (MC cI cZ mo v z231.2 ++ OC cJ o k)) := hD.sub [0, 1, 2, 3, 4, 5, 6, 7, 8, 9, 10, 11, 12, 13, 14, 15, 16, 17, 18, 19, 20, 21, 22, 23, 24, 25, 26, 27, 28, 29, 30, 31, 32, 33, 34, 35, 36, 37, 38, 39, 40, 41, 42, 43, 44, 45, 46, 47, 48, 49, 50, 51, 52, 54, 55, 56, 57, 58, 59, 60, 61, 62, 63, 64, 65, 66, 53] (by decide) rfl
      obtain ⟨hre, hae⟩ := law_eq hp221.1 hp231.1
      refine lv_icmp_eq (tgt := 649) hx hb d_Lw_law_234 (by decide) (fun _ => ?_) (fun hc => absurd hre hc)
      have hJ2 : fx_cr z231.1 z221.2 := by rw [← hae]; exact hp221.2
      have hI2 : fx_AI z231.1 := law_fi hp231.1 (fi_size hI (xs (i + 1)))
      refine lv_iinc (v := nI (i + 6)) (k := 4) hx hb d_Lw_law_649 hl rfl (fs_incN i 6) (by decide) (lv' := [(4, .int (nI (i + 6))), (0, .ref b), (1, .ref fs), (2, .ref mo), (3, .ref o)]) rfl (fun ls hl => ?_)
      refine lv_goto (tgt := 23) hx hb d_Lw_law_652 (by decide) ?_
      refine W.widen (k := 100 + (i + 6)) (n := 3000 + (i + 6)) (by omega) (by omega) ?_
      exact ih (i + 6) z231.1 z221.2 z231.2 k _ _ _ (by omega) (by omega) hI2 hJ2 hp231.2 hP hD hS (lv_sub hl [1, 2, 3, 4, 0] rfl)
    · refine lv_tableIn (off := 199) (tgt := 239) hx hb d_Lw_law_40 (by decide) (by decide) rfl (by decide) ?_
      refine lv_aload_n hx hb d_Lw_law_239 rfl (lv_at hl 1 rfl) ?_
      refine lv_aload_n hx hb d_Lw_law_240 rfl (lv_at hl 0 rfl) ?_
      refine lv_iload hx hb d_Lw_law_241 (lv_at hl 4 rfl) ?_
      refine lv_iconst (v := nI 1) hx hb d_Lw_law_243 (by decide) ?_
      refine lv_iadd hx hb d_Lw_law_244 ?_
      refine fs_eqi (nI_add _ _) ?_
      refine va_sld (b := b) hx hb hXs hbl hbA hS (vp_in_nI (by omega) (by omega)) d_Lw_law_245 ?_
      refine fs_eqi (v := xs (i + 1)) (by rw [nI_clamp (by omega)]) ?_
      refine lv_aload_n hx hb d_Lw_law_246 rfl (lv_at hl 0 rfl) ?_
      refine lv_iload hx hb d_Lw_law_247 (lv_at hl 4 rfl) ?_
      refine lv_iconst (v := nI 2) hx hb d_Lw_law_249 (by decide) ?_
      refine lv_iadd hx hb d_Lw_law_250 ?_
      refine fs_eqi (nI_add _ _) ?_
      refine va_sld (b := b) hx hb hXs hbl hbA hS (vp_in_nI (by omega) (by omega)) d_Lw_law_251 ?_
      refine fs_eqi (v := xs (i + 2)) (by rw [nI_clamp (by omega)]) ?_
      refine fs_calli (wc := XC cI cF fs u J) (wr := MC cI cZ mo v M ++ OC cJ o k) [0, 1, 2, 3, 4, 5, 6, 7, 8, 9, 10, 11, 12, 13, 14, 15, 16, 17, 18, 19, 20, 21, 22, 23, 24, 25, 26, 27, 28, 29, 30, 31, 32, 33, 34, 35, 36, 37, 38, 39, 40, 41, 42, 43, 44, 45, 46, 47, 48, 49, 50, 51, 52] [53, 54, 55, 56, 57, 58, 59, 60, 61, 62, 63, 64, 65, 66] hP hD hK hS hA rfl rfl rfl (by decide) (fun hPc hDc => va_runV (C := R_Fs) (As := [.int (xs (i + 1)), .int (xs (i + 2))]) (rest := []) ⟨hx, hb, hml, hown, hts⟩ (x_Fs_shape fs u A J (xs (i + 1)) (xs (i + 2)) _ hI hJ) (⟨callB_of 2 hts (fs_g kin_Fs_shape) rfl rfl rfl (hts _ wi_1) (hts _ wi_162) (by decide +kernel) ⟨Nat.le_of_ble_eq_true rfl, Nat.le_of_ble_eq_true rfl⟩, hts _ wi_163, hts _ wi_164⟩) (fs_preV (q0 := 0) rfl rfl hPc hK hDc) rfl rfl hl.1 rfl (lv_room (Nat.le_of_ble_eq_true rfl)) d_Lw_law_252 ⟨by show _ ≤ 601024; omega, by show _ ≤ 7293034; omega⟩) rfl (fun r252 z252 H locs hp252 hP hD hS => ?_)
      have hP : va_P (dC, dI) vwCl (XC cI cF fs u z252.2 ++ (MC cI cZ mo v M ++ OC cJ o k)) H := hP.sub [14, 15, 16, 17, 18, 19, 20, 21, 22, 23, 24, 25, 26, 27, 28, 29, 30, 31, 32, 33, 34, 35, 36, 37, 38, 39, 40, 41, 42, 43, 44, 45, 46, 47, 48, 49, 50, 51, 52, 53, 54, 55, 56, 57, 58, 59, 60, 61, 62, 63, 64, 65, 66, 0, 1, 2, 3, 4, 5, 6, 7, 8, 9, 10, 11, 12, 13] rfl
      have hD : va_D (fun q => s.heap.size ≤ q) (XC cI cF fs u z252.2 ++ (MC cI cZ mo v M ++ OC cJ o k)) := hD.sub [14, 15, 16, 17, 18, 19, 20, 21, 22, 23, 24, 25, 26, 27, 28, 29, 30, 31, 32, 33, 34, 35, 36, 37, 38, 39, 40, 41, 42, 43, 44, 45, 46, 47, 48, 49, 50, 51, 52, 53, 54, 55, 56, 57, 58, 59, 60, 61, 62, 63, 64, 65, 66, 0, 1, 2, 3, 4, 5, 6, 7, 8, 9, 10, 11, 12, 13] (by decide) rfl
      refine lv_aload_n hx hb d_Lw_law_255 rfl (lv_at hl 2 rfl) ?_
      refine lv_aload_n hx hb d_Lw_law_256 rfl (lv_at hl 0 rfl) ?_
      refine lv_iload hx hb d_Lw_law_257 (lv_at hl 4 rfl) ?_
      refine lv_iconst (v := nI 1) hx hb d_Lw_law_259 (by decide) ?_
      refine lv_iadd hx hb d_Lw_law_260 ?_
      refine fs_eqi (nI_add _ _) ?_
      refine va_sld (b := b) hx hb hXs hbl hbA hS (vp_in_nI (by omega) (by omega)) d_Lw_law_261 ?_
      refine fs_eqi (v := xs (i + 1)) (by rw [nI_clamp (by omega)]) ?_
      refine lv_aload_n hx hb d_Lw_law_262 rfl (lv_at hl 0 rfl) ?_
      refine lv_iload hx hb d_Lw_law_263 (lv_at hl 4 rfl) ?_
      refine lv_iconst (v := nI 2) hx hb d_Lw_law_265 (by decide) ?_
      refine lv_iadd hx hb d_Lw_law_266 ?_
      refine fs_eqi (nI_add _ _) ?_
      refine va_sld (b := b) hx hb hXs hbl hbA hS (vp_in_nI (by omega) (by omega)) d_Lw_law_267 ?_
      refine fs_eqi (v := xs (i + 2)) (by rw [nI_clamp (by omega)]) ?_
      refine fs_calli (wc := MC cI cZ mo v M) (wr := XC cI cF fs u z252.2 ++ OC cJ o k) [53, 54, 55, 56, 57, 58, 59, 60, 61, 62, 63, 64, 65] [0, 1, 2, 3, 4, 5, 6, 7, 8, 9, 10, 11, 12, 13, 14, 15, 16, 17, 18, 19, 20, 21, 22, 23, 24, 25, 26, 27, 28, 29, 30, 31, 32, 33, 34, 35, 36, 37, 38, 39, 40, 41, 42, 43, 44, 45, 46, 47, 48, 49, 50, 51, 52, 66] hP hD hK hS hA rfl rfl rfl (by decide) (fun hPc hDc => va_runV (C := R_Mo) (As := [.int (xs (i + 1)), .int (xs (i + 2))]) (rest := [.int r252]) ⟨hx, hb, hml, hown, hts⟩ (x_Mo_shape mo v A M (xs (i + 1)) (xs (i + 2)) _ hI hM) (⟨callB_of 2 hts (fs_g kin_Mo_shape) rfl rfl rfl (hts _ wi_6) (hts _ wi_503) (by decide +kernel) ⟨Nat.le_of_ble_eq_true rfl, Nat.le_of_ble_eq_true rfl⟩, hts _ wi_504, hts _ wi_505⟩) (fs_preV (q0 := 0) rfl rfl hPc hK hDc) rfl rfl hl.1 rfl (lv_room (Nat.le_of_ble_eq_true rfl)) d_Lw_law_268 ⟨by show _ ≤ 601024; omega, by show _ ≤ 7293034; omega⟩) rfl (fun r268 z268 H locs hp268 hP hD hS => ?_)
      have hP : va_P (dC, dI) vwCl (XC cI cF fs u z252.2 ++ (MC cI cZ mo v z268.2 ++ OC cJ o k)) H := hP.sub [0, 1, 2, 3, 4, 5, 6, 7, 8, 9, 10, 11, 12, 13, 14, 15, 16, 17, 18, 19, 20, 21, 22, 23, 24, 25, 26, 27, 28, 29, 30, 31, 32, 33, 34, 35, 36, 37, 38, 39, 40, 41, 42, 43, 44, 45, 46, 47, 48, 49, 50, 51, 52, 54, 55, 56, 57, 58, 59, 60, 61, 62, 63, 64, 65, 66, 53] rfl
      have hD : va_D (fun q => s.heap.size ≤ q) (XC cI cF fs u z252.2 ++ (MC cI cZ mo v z268.2 ++ OC cJ o k)) := hD.sub [0, 1, 2, 3, 4, 5, 6, 7, 8, 9, 10, 11, 12, 13, 14, 15, 16, 17, 18, 19, 20, 21, 22, 23, 24, 25, 26, 27, 28, 29, 30, 31, 32, 33, 34, 35, 36, 37, 38, 39, 40, 41, 42, 43, 44, 45, 46, 47, 48, 49, 50, 51, 52, 54, 55, 56, 57, 58, 59, 60, 61, 62, 63, 64, 65, 66, 53] (by decide) rfl
      obtain ⟨hre, hae⟩ := law_eq hp252.1 hp268.1
      refine lv_icmp_eq (tgt := 649) hx hb d_Lw_law_271 (by decide) (fun _ => ?_) (fun hc => absurd hre hc)
      have hJ2 : fx_cr z268.1 z252.2 := by rw [← hae]; exact hp252.2
      have hI2 : fx_AI z268.1 := law_fi hp268.1 (fi_shape hI (xs (i + 1)) (xs (i + 2)))
      refine lv_iinc (v := nI (i + 6)) (k := 4) hx hb d_Lw_law_649 hl rfl (fs_incN i 6) (by decide) (lv' := [(4, .int (nI (i + 6))), (0, .ref b), (1, .ref fs), (2, .ref mo), (3, .ref o)]) rfl (fun ls hl => ?_)
      refine lv_goto (tgt := 23) hx hb d_Lw_law_652 (by decide) ?_
      refine W.widen (k := 100 + (i + 6)) (n := 3000 + (i + 6)) (by omega) (by omega) ?_
      exact ih (i + 6) z268.1 z252.2 z268.2 k _ _ _ (by omega) (by omega) hI2 hJ2 hp268.2 hP hD hS (lv_sub hl [1, 2, 3, 4, 0] rfl)
    · refine lv_tableIn (off := 236) (tgt := 276) hx hb d_Lw_law_40 (by decide) (by decide) rfl (by decide) ?_
      refine lv_aload_n hx hb d_Lw_law_276 rfl (lv_at hl 1 rfl) ?_
      refine lv_aload_n hx hb d_Lw_law_277 rfl (lv_at hl 0 rfl) ?_
      refine lv_iload hx hb d_Lw_law_278 (lv_at hl 4 rfl) ?_
      refine lv_iconst (v := nI 1) hx hb d_Lw_law_280 (by decide) ?_
      refine lv_iadd hx hb d_Lw_law_281 ?_
      refine fs_eqi (nI_add _ _) ?_
      refine va_sld (b := b) hx hb hXs hbl hbA hS (vp_in_nI (by omega) (by omega)) d_Lw_law_282 ?_
      refine fs_eqi (v := xs (i + 1)) (by rw [nI_clamp (by omega)]) ?_
      refine lv_aload_n hx hb d_Lw_law_283 rfl (lv_at hl 0 rfl) ?_
      refine lv_iload hx hb d_Lw_law_284 (lv_at hl 4 rfl) ?_
      refine lv_iconst (v := nI 2) hx hb d_Lw_law_286 (by decide) ?_
      refine lv_iadd hx hb d_Lw_law_287 ?_
      refine fs_eqi (nI_add _ _) ?_
      refine va_sld (b := b) hx hb hXs hbl hbA hS (vp_in_nI (by omega) (by omega)) d_Lw_law_288 ?_
      refine fs_eqi (v := xs (i + 2)) (by rw [nI_clamp (by omega)]) ?_
      refine fs_calli (wc := XC cI cF fs u J) (wr := MC cI cZ mo v M ++ OC cJ o k) [0, 1, 2, 3, 4, 5, 6, 7, 8, 9, 10, 11, 12, 13, 14, 15, 16, 17, 18, 19, 20, 21, 22, 23, 24, 25, 26, 27, 28, 29, 30, 31, 32, 33, 34, 35, 36, 37, 38, 39, 40, 41, 42, 43, 44, 45, 46, 47, 48, 49, 50, 51, 52] [53, 54, 55, 56, 57, 58, 59, 60, 61, 62, 63, 64, 65, 66] hP hD hK hS hA rfl rfl rfl (by decide) (fun hPc hDc => va_runV (C := R_Fs) (As := [.int (xs (i + 1)), .int (xs (i + 2))]) (rest := []) ⟨hx, hb, hml, hown, hts⟩ (x_Fs_number fs u A J (xs (i + 1)) (xs (i + 2)) _ hI hJ) (⟨callB_of 2 hts (fs_g kin_Fs_number) rfl rfl rfl (hts _ wi_1) (hts _ wi_170) (by decide +kernel) ⟨Nat.le_of_ble_eq_true rfl, Nat.le_of_ble_eq_true rfl⟩, hts _ wi_171, hts _ wi_172⟩) (fs_preV (q0 := 0) rfl rfl hPc hK hDc) rfl rfl hl.1 rfl (lv_room (Nat.le_of_ble_eq_true rfl)) d_Lw_law_289 ⟨by show _ ≤ 601024; omega, by show _ ≤ 7293034; omega⟩) rfl (fun r289 z289 H locs hp289 hP hD hS => ?_)
      have hP : va_P (dC, dI) vwCl (XC cI cF fs u z289.2 ++ (MC cI cZ mo v M ++ OC cJ o k)) H := hP.sub [14, 15, 16, 17, 18, 19, 20, 21, 22, 23, 24, 25, 26, 27, 28, 29, 30, 31, 32, 33, 34, 35, 36, 37, 38, 39, 40, 41, 42, 43, 44, 45, 46, 47, 48, 49, 50, 51, 52, 53, 54, 55, 56, 57, 58, 59, 60, 61, 62, 63, 64, 65, 66, 0, 1, 2, 3, 4, 5, 6, 7, 8, 9, 10, 11, 12, 13] rfl
      have hD : va_D (fun q => s.heap.size ≤ q) (XC cI cF fs u z289.2 ++ (MC cI cZ mo v M ++ OC cJ o k)) := hD.sub [14, 15, 16, 17, 18, 19, 20, 21, 22, 23, 24, 25, 26, 27, 28, 29, 30, 31, 32, 33, 34, 35, 36, 37, 38, 39, 40, 41, 42, 43, 44, 45, 46, 47, 48, 49, 50, 51, 52, 53, 54, 55, 56, 57, 58, 59, 60, 61, 62, 63, 64, 65, 66, 0, 1, 2, 3, 4, 5, 6, 7, 8, 9, 10, 11, 12, 13] (by decide) rfl
      refine lv_aload_n hx hb d_Lw_law_292 rfl (lv_at hl 2 rfl) ?_
      refine lv_aload_n hx hb d_Lw_law_293 rfl (lv_at hl 0 rfl) ?_
      refine lv_iload hx hb d_Lw_law_294 (lv_at hl 4 rfl) ?_
      refine lv_iconst (v := nI 1) hx hb d_Lw_law_296 (by decide) ?_
      refine lv_iadd hx hb d_Lw_law_297 ?_
      refine fs_eqi (nI_add _ _) ?_
      refine va_sld (b := b) hx hb hXs hbl hbA hS (vp_in_nI (by omega) (by omega)) d_Lw_law_298 ?_
      refine fs_eqi (v := xs (i + 1)) (by rw [nI_clamp (by omega)]) ?_
      refine lv_aload_n hx hb d_Lw_law_299 rfl (lv_at hl 0 rfl) ?_
      refine lv_iload hx hb d_Lw_law_300 (lv_at hl 4 rfl) ?_
      refine lv_iconst (v := nI 2) hx hb d_Lw_law_302 (by decide) ?_
      refine lv_iadd hx hb d_Lw_law_303 ?_
      refine fs_eqi (nI_add _ _) ?_
      refine va_sld (b := b) hx hb hXs hbl hbA hS (vp_in_nI (by omega) (by omega)) d_Lw_law_304 ?_
      refine fs_eqi (v := xs (i + 2)) (by rw [nI_clamp (by omega)]) ?_
      refine fs_calli (wc := MC cI cZ mo v M) (wr := XC cI cF fs u z289.2 ++ OC cJ o k) [53, 54, 55, 56, 57, 58, 59, 60, 61, 62, 63, 64, 65] [0, 1, 2, 3, 4, 5, 6, 7, 8, 9, 10, 11, 12, 13, 14, 15, 16, 17, 18, 19, 20, 21, 22, 23, 24, 25, 26, 27, 28, 29, 30, 31, 32, 33, 34, 35, 36, 37, 38, 39, 40, 41, 42, 43, 44, 45, 46, 47, 48, 49, 50, 51, 52, 66] hP hD hK hS hA rfl rfl rfl (by decide) (fun hPc hDc => va_runV (C := R_Mo) (As := [.int (xs (i + 1)), .int (xs (i + 2))]) (rest := [.int r289]) ⟨hx, hb, hml, hown, hts⟩ (x_Mo_number mo v A M (xs (i + 1)) (xs (i + 2)) _ hI hM) (⟨callB_of 2 hts (fs_g kin_Mo_number) rfl rfl rfl (hts _ wi_6) (hts _ wi_511) (by decide +kernel) ⟨Nat.le_of_ble_eq_true rfl, Nat.le_of_ble_eq_true rfl⟩, hts _ wi_512, hts _ wi_513⟩) (fs_preV (q0 := 0) rfl rfl hPc hK hDc) rfl rfl hl.1 rfl (lv_room (Nat.le_of_ble_eq_true rfl)) d_Lw_law_305 ⟨by show _ ≤ 601024; omega, by show _ ≤ 7293034; omega⟩) rfl (fun r305 z305 H locs hp305 hP hD hS => ?_)
      have hP : va_P (dC, dI) vwCl (XC cI cF fs u z289.2 ++ (MC cI cZ mo v z305.2 ++ OC cJ o k)) H := hP.sub [0, 1, 2, 3, 4, 5, 6, 7, 8, 9, 10, 11, 12, 13, 14, 15, 16, 17, 18, 19, 20, 21, 22, 23, 24, 25, 26, 27, 28, 29, 30, 31, 32, 33, 34, 35, 36, 37, 38, 39, 40, 41, 42, 43, 44, 45, 46, 47, 48, 49, 50, 51, 52, 54, 55, 56, 57, 58, 59, 60, 61, 62, 63, 64, 65, 66, 53] rfl
      have hD : va_D (fun q => s.heap.size ≤ q) (XC cI cF fs u z289.2 ++ (MC cI cZ mo v z305.2 ++ OC cJ o k)) := hD.sub [0, 1, 2, 3, 4, 5, 6, 7, 8, 9, 10, 11, 12, 13, 14, 15, 16, 17, 18, 19, 20, 21, 22, 23, 24, 25, 26, 27, 28, 29, 30, 31, 32, 33, 34, 35, 36, 37, 38, 39, 40, 41, 42, 43, 44, 45, 46, 47, 48, 49, 50, 51, 52, 54, 55, 56, 57, 58, 59, 60, 61, 62, 63, 64, 65, 66, 53] (by decide) rfl
      obtain ⟨hre, hae⟩ := law_eq hp289.1 hp305.1
      refine lv_icmp_eq (tgt := 649) hx hb d_Lw_law_308 (by decide) (fun _ => ?_) (fun hc => absurd hre hc)
      have hJ2 : fx_cr z305.1 z289.2 := by rw [← hae]; exact hp289.2
      have hI2 : fx_AI z305.1 := law_fi hp305.1 (fi_number hI (xs (i + 1)) (xs (i + 2)))
      refine lv_iinc (v := nI (i + 6)) (k := 4) hx hb d_Lw_law_649 hl rfl (fs_incN i 6) (by decide) (lv' := [(4, .int (nI (i + 6))), (0, .ref b), (1, .ref fs), (2, .ref mo), (3, .ref o)]) rfl (fun ls hl => ?_)
      refine lv_goto (tgt := 23) hx hb d_Lw_law_652 (by decide) ?_
      refine W.widen (k := 100 + (i + 6)) (n := 3000 + (i + 6)) (by omega) (by omega) ?_
      exact ih (i + 6) z305.1 z289.2 z305.2 k _ _ _ (by omega) (by omega) hI2 hJ2 hp305.2 hP hD hS (lv_sub hl [1, 2, 3, 4, 0] rfl)
    · refine lv_tableIn (off := 273) (tgt := 313) hx hb d_Lw_law_40 (by decide) (by decide) rfl (by decide) ?_
      refine lv_aload_n hx hb d_Lw_law_313 rfl (lv_at hl 1 rfl) ?_
      refine lv_aload_n hx hb d_Lw_law_314 rfl (lv_at hl 0 rfl) ?_
      refine lv_iload hx hb d_Lw_law_315 (lv_at hl 4 rfl) ?_
      refine lv_iconst (v := nI 1) hx hb d_Lw_law_317 (by decide) ?_
      refine lv_iadd hx hb d_Lw_law_318 ?_
      refine fs_eqi (nI_add _ _) ?_
      refine va_sld (b := b) hx hb hXs hbl hbA hS (vp_in_nI (by omega) (by omega)) d_Lw_law_319 ?_
      refine fs_eqi (v := xs (i + 1)) (by rw [nI_clamp (by omega)]) ?_
      refine fs_calli (wc := XC cI cF fs u J) (wr := MC cI cZ mo v M ++ OC cJ o k) [0, 1, 2, 3, 4, 5, 6, 7, 8, 9, 10, 11, 12, 13, 14, 15, 16, 17, 18, 19, 20, 21, 22, 23, 24, 25, 26, 27, 28, 29, 30, 31, 32, 33, 34, 35, 36, 37, 38, 39, 40, 41, 42, 43, 44, 45, 46, 47, 48, 49, 50, 51, 52] [53, 54, 55, 56, 57, 58, 59, 60, 61, 62, 63, 64, 65, 66] hP hD hK hS hA rfl rfl rfl (by decide) (fun hPc hDc => va_runV (C := R_Fs) (As := [.int (xs (i + 1))]) (rest := []) ⟨hx, hb, hml, hown, hts⟩ (x_Fs_fault fs u A J (xs (i + 1)) _ hI hJ) (⟨callB_of 1 hts (fs_g kin_Fs_fault) rfl rfl rfl (hts _ wi_1) (hts _ wi_174) (by decide +kernel) ⟨Nat.le_of_ble_eq_true rfl, Nat.le_of_ble_eq_true rfl⟩, hts _ wi_175, hts _ wi_176⟩) (fs_preV (q0 := 0) rfl rfl hPc hK hDc) rfl rfl hl.1 rfl (lv_room (Nat.le_of_ble_eq_true rfl)) d_Lw_law_320 ⟨by show _ ≤ 601024; omega, by show _ ≤ 7293034; omega⟩) rfl (fun r320 z320 H locs hp320 hP hD hS => ?_)
      have hP : va_P (dC, dI) vwCl (XC cI cF fs u z320.2 ++ (MC cI cZ mo v M ++ OC cJ o k)) H := hP.sub [14, 15, 16, 17, 18, 19, 20, 21, 22, 23, 24, 25, 26, 27, 28, 29, 30, 31, 32, 33, 34, 35, 36, 37, 38, 39, 40, 41, 42, 43, 44, 45, 46, 47, 48, 49, 50, 51, 52, 53, 54, 55, 56, 57, 58, 59, 60, 61, 62, 63, 64, 65, 66, 0, 1, 2, 3, 4, 5, 6, 7, 8, 9, 10, 11, 12, 13] rfl
      have hD : va_D (fun q => s.heap.size ≤ q) (XC cI cF fs u z320.2 ++ (MC cI cZ mo v M ++ OC cJ o k)) := hD.sub [14, 15, 16, 17, 18, 19, 20, 21, 22, 23, 24, 25, 26, 27, 28, 29, 30, 31, 32, 33, 34, 35, 36, 37, 38, 39, 40, 41, 42, 43, 44, 45, 46, 47, 48, 49, 50, 51, 52, 53, 54, 55, 56, 57, 58, 59, 60, 61, 62, 63, 64, 65, 66, 0, 1, 2, 3, 4, 5, 6, 7, 8, 9, 10, 11, 12, 13] (by decide) rfl
      refine lv_aload_n hx hb d_Lw_law_323 rfl (lv_at hl 2 rfl) ?_
      refine lv_aload_n hx hb d_Lw_law_324 rfl (lv_at hl 0 rfl) ?_
      refine lv_iload hx hb d_Lw_law_325 (lv_at hl 4 rfl) ?_
      refine lv_iconst (v := nI 1) hx hb d_Lw_law_327 (by decide) ?_
      refine lv_iadd hx hb d_Lw_law_328 ?_
      refine fs_eqi (nI_add _ _) ?_
      refine va_sld (b := b) hx hb hXs hbl hbA hS (vp_in_nI (by omega) (by omega)) d_Lw_law_329 ?_
      refine fs_eqi (v := xs (i + 1)) (by rw [nI_clamp (by omega)]) ?_
      refine fs_calli (wc := MC cI cZ mo v M) (wr := XC cI cF fs u z320.2 ++ OC cJ o k) [53, 54, 55, 56, 57, 58, 59, 60, 61, 62, 63, 64, 65] [0, 1, 2, 3, 4, 5, 6, 7, 8, 9, 10, 11, 12, 13, 14, 15, 16, 17, 18, 19, 20, 21, 22, 23, 24, 25, 26, 27, 28, 29, 30, 31, 32, 33, 34, 35, 36, 37, 38, 39, 40, 41, 42, 43, 44, 45, 46, 47, 48, 49, 50, 51, 52, 66] hP hD hK hS hA rfl rfl rfl (by decide) (fun hPc hDc => va_runV (C := R_Mo) (As := [.int (xs (i + 1))]) (rest := [.int r320]) ⟨hx, hb, hml, hown, hts⟩ (x_Mo_fault mo v A M (xs (i + 1)) _ hI hM) (⟨callB_of 1 hts (fs_g kin_Mo_fault) rfl rfl rfl (hts _ wi_6) (hts _ wi_515) (by decide +kernel) ⟨Nat.le_of_ble_eq_true rfl, Nat.le_of_ble_eq_true rfl⟩, hts _ wi_516, hts _ wi_517⟩) (fs_preV (q0 := 0) rfl rfl hPc hK hDc) rfl rfl hl.1 rfl (lv_room (Nat.le_of_ble_eq_true rfl)) d_Lw_law_330 ⟨by show _ ≤ 601024; omega, by show _ ≤ 7293034; omega⟩) rfl (fun r330 z330 H locs hp330 hP hD hS => ?_)
      have hP : va_P (dC, dI) vwCl (XC cI cF fs u z320.2 ++ (MC cI cZ mo v z330.2 ++ OC cJ o k)) H := hP.sub [0, 1, 2, 3, 4, 5, 6, 7, 8, 9, 10, 11, 12, 13, 14, 15, 16, 17, 18, 19, 20, 21, 22, 23, 24, 25, 26, 27, 28, 29, 30, 31, 32, 33, 34, 35, 36, 37, 38, 39, 40, 41, 42, 43, 44, 45, 46, 47, 48, 49, 50, 51, 52, 54, 55, 56, 57, 58, 59, 60, 61, 62, 63, 64, 65, 66, 53] rfl
      have hD : va_D (fun q => s.heap.size ≤ q) (XC cI cF fs u z320.2 ++ (MC cI cZ mo v z330.2 ++ OC cJ o k)) := hD.sub [0, 1, 2, 3, 4, 5, 6, 7, 8, 9, 10, 11, 12, 13, 14, 15, 16, 17, 18, 19, 20, 21, 22, 23, 24, 25, 26, 27, 28, 29, 30, 31, 32, 33, 34, 35, 36, 37, 38, 39, 40, 41, 42, 43, 44, 45, 46, 47, 48, 49, 50, 51, 52, 54, 55, 56, 57, 58, 59, 60, 61, 62, 63, 64, 65, 66, 53] (by decide) rfl
      obtain ⟨hre, hae⟩ := law_eq hp320.1 hp330.1
      refine lv_icmp_eq (tgt := 649) hx hb d_Lw_law_333 (by decide) (fun _ => ?_) (fun hc => absurd hre hc)
      have hJ2 : fx_cr z330.1 z320.2 := by rw [← hae]; exact hp320.2
      have hI2 : fx_AI z330.1 := law_fi hp330.1 (fi_fault hI (xs (i + 1)))
      refine lv_iinc (v := nI (i + 6)) (k := 4) hx hb d_Lw_law_649 hl rfl (fs_incN i 6) (by decide) (lv' := [(4, .int (nI (i + 6))), (0, .ref b), (1, .ref fs), (2, .ref mo), (3, .ref o)]) rfl (fun ls hl => ?_)
      refine lv_goto (tgt := 23) hx hb d_Lw_law_652 (by decide) ?_
      refine W.widen (k := 100 + (i + 6)) (n := 3000 + (i + 6)) (by omega) (by omega) ?_
      exact ih (i + 6) z330.1 z320.2 z330.2 k _ _ _ (by omega) (by omega) hI2 hJ2 hp330.2 hP hD hS (lv_sub hl [1, 2, 3, 4, 0] rfl)
    · refine lv_tableIn (off := 298) (tgt := 338) hx hb d_Lw_law_40 (by decide) (by decide) rfl (by decide) ?_
      refine lv_aload_n hx hb d_Lw_law_338 rfl (lv_at hl 1 rfl) ?_
      refine lv_aload_n hx hb d_Lw_law_339 rfl (lv_at hl 0 rfl) ?_
      refine lv_iload hx hb d_Lw_law_340 (lv_at hl 4 rfl) ?_
      refine lv_iconst (v := nI 1) hx hb d_Lw_law_342 (by decide) ?_
      refine lv_iadd hx hb d_Lw_law_343 ?_
      refine fs_eqi (nI_add _ _) ?_
      refine va_sld (b := b) hx hb hXs hbl hbA hS (vp_in_nI (by omega) (by omega)) d_Lw_law_344 ?_
      refine fs_eqi (v := xs (i + 1)) (by rw [nI_clamp (by omega)]) ?_
      refine fs_calli (wc := XC cI cF fs u J) (wr := MC cI cZ mo v M ++ OC cJ o k) [0, 1, 2, 3, 4, 5, 6, 7, 8, 9, 10, 11, 12, 13, 14, 15, 16, 17, 18, 19, 20, 21, 22, 23, 24, 25, 26, 27, 28, 29, 30, 31, 32, 33, 34, 35, 36, 37, 38, 39, 40, 41, 42, 43, 44, 45, 46, 47, 48, 49, 50, 51, 52] [53, 54, 55, 56, 57, 58, 59, 60, 61, 62, 63, 64, 65, 66] hP hD hK hS hA rfl rfl rfl (by decide) (fun hPc hDc => va_runV (C := R_Fs) (As := [.int (xs (i + 1))]) (rest := []) ⟨hx, hb, hml, hown, hts⟩ (x_Fs_place fs u A J (xs (i + 1)) _ hI hJ) (⟨callB_of 1 hts (fs_g kin_Fs_place) rfl rfl rfl (hts _ wi_1) (hts _ wi_217) (by decide +kernel) ⟨Nat.le_of_ble_eq_true rfl, Nat.le_of_ble_eq_true rfl⟩, hts _ wi_218, hts _ wi_219⟩) (fs_preV (q0 := 0) rfl rfl hPc hK hDc) rfl rfl hl.1 rfl (lv_room (Nat.le_of_ble_eq_true rfl)) d_Lw_law_345 ⟨by show _ ≤ 601024; omega, by show _ ≤ 7293034; omega⟩) rfl (fun r345 z345 H locs hp345 hP hD hS => ?_)
      have hP : va_P (dC, dI) vwCl (XC cI cF fs u z345.2 ++ (MC cI cZ mo v M ++ OC cJ o k)) H := hP.sub [14, 15, 16, 17, 18, 19, 20, 21, 22, 23, 24, 25, 26, 27, 28, 29, 30, 31, 32, 33, 34, 35, 36, 37, 38, 39, 40, 41, 42, 43, 44, 45, 46, 47, 48, 49, 50, 51, 52, 53, 54, 55, 56, 57, 58, 59, 60, 61, 62, 63, 64, 65, 66, 0, 1, 2, 3, 4, 5, 6, 7, 8, 9, 10, 11, 12, 13] rfl
      have hD : va_D (fun q => s.heap.size ≤ q) (XC cI cF fs u z345.2 ++ (MC cI cZ mo v M ++ OC cJ o k)) := hD.sub [14, 15, 16, 17, 18, 19, 20, 21, 22, 23, 24, 25, 26, 27, 28, 29, 30, 31, 32, 33, 34, 35, 36, 37, 38, 39, 40, 41, 42, 43, 44, 45, 46, 47, 48, 49, 50, 51, 52, 53, 54, 55, 56, 57, 58, 59, 60, 61, 62, 63, 64, 65, 66, 0, 1, 2, 3, 4, 5, 6, 7, 8, 9, 10, 11, 12, 13] (by decide) rfl
      refine lv_aload_n hx hb d_Lw_law_348 rfl (lv_at hl 2 rfl) ?_
      refine lv_aload_n hx hb d_Lw_law_349 rfl (lv_at hl 0 rfl) ?_
      refine lv_iload hx hb d_Lw_law_350 (lv_at hl 4 rfl) ?_
      refine lv_iconst (v := nI 1) hx hb d_Lw_law_352 (by decide) ?_
      refine lv_iadd hx hb d_Lw_law_353 ?_
      refine fs_eqi (nI_add _ _) ?_
      refine va_sld (b := b) hx hb hXs hbl hbA hS (vp_in_nI (by omega) (by omega)) d_Lw_law_354 ?_
      refine fs_eqi (v := xs (i + 1)) (by rw [nI_clamp (by omega)]) ?_
      refine fs_calli (wc := MC cI cZ mo v M) (wr := XC cI cF fs u z345.2 ++ OC cJ o k) [53, 54, 55, 56, 57, 58, 59, 60, 61, 62, 63, 64, 65] [0, 1, 2, 3, 4, 5, 6, 7, 8, 9, 10, 11, 12, 13, 14, 15, 16, 17, 18, 19, 20, 21, 22, 23, 24, 25, 26, 27, 28, 29, 30, 31, 32, 33, 34, 35, 36, 37, 38, 39, 40, 41, 42, 43, 44, 45, 46, 47, 48, 49, 50, 51, 52, 66] hP hD hK hS hA rfl rfl rfl (by decide) (fun hPc hDc => va_runV (C := R_Mo) (As := [.int (xs (i + 1))]) (rest := [.int r345]) ⟨hx, hb, hml, hown, hts⟩ (x_Mo_place mo v A M (xs (i + 1)) _ hI hM) (⟨callB_of 1 hts (fs_g kin_Mo_place) rfl rfl rfl (hts _ wi_6) (hts _ wi_531) (by decide +kernel) ⟨Nat.le_of_ble_eq_true rfl, Nat.le_of_ble_eq_true rfl⟩, hts _ wi_532, hts _ wi_533⟩) (fs_preV (q0 := 0) rfl rfl hPc hK hDc) rfl rfl hl.1 rfl (lv_room (Nat.le_of_ble_eq_true rfl)) d_Lw_law_355 ⟨by show _ ≤ 601024; omega, by show _ ≤ 7293034; omega⟩) rfl (fun r355 z355 H locs hp355 hP hD hS => ?_)
      have hP : va_P (dC, dI) vwCl (XC cI cF fs u z345.2 ++ (MC cI cZ mo v z355.2 ++ OC cJ o k)) H := hP.sub [0, 1, 2, 3, 4, 5, 6, 7, 8, 9, 10, 11, 12, 13, 14, 15, 16, 17, 18, 19, 20, 21, 22, 23, 24, 25, 26, 27, 28, 29, 30, 31, 32, 33, 34, 35, 36, 37, 38, 39, 40, 41, 42, 43, 44, 45, 46, 47, 48, 49, 50, 51, 52, 54, 55, 56, 57, 58, 59, 60, 61, 62, 63, 64, 65, 66, 53] rfl
      have hD : va_D (fun q => s.heap.size ≤ q) (XC cI cF fs u z345.2 ++ (MC cI cZ mo v z355.2 ++ OC cJ o k)) := hD.sub [0, 1, 2, 3, 4, 5, 6, 7, 8, 9, 10, 11, 12, 13, 14, 15, 16, 17, 18, 19, 20, 21, 22, 23, 24, 25, 26, 27, 28, 29, 30, 31, 32, 33, 34, 35, 36, 37, 38, 39, 40, 41, 42, 43, 44, 45, 46, 47, 48, 49, 50, 51, 52, 54, 55, 56, 57, 58, 59, 60, 61, 62, 63, 64, 65, 66, 53] (by decide) rfl
      obtain ⟨hre, hae⟩ := law_eq hp345.1 hp355.1
      refine lv_icmp_eq (tgt := 649) hx hb d_Lw_law_358 (by decide) (fun _ => ?_) (fun hc => absurd hre hc)
      have hJ2 : fx_cr z355.1 z345.2 := by rw [← hae]; exact hp345.2
      have hI2 : fx_AI z355.1 := law_fi hp355.1 (fi_place hI (xs (i + 1)))
      refine lv_iinc (v := nI (i + 6)) (k := 4) hx hb d_Lw_law_649 hl rfl (fs_incN i 6) (by decide) (lv' := [(4, .int (nI (i + 6))), (0, .ref b), (1, .ref fs), (2, .ref mo), (3, .ref o)]) rfl (fun ls hl => ?_)
      refine lv_goto (tgt := 23) hx hb d_Lw_law_652 (by decide) ?_
      refine W.widen (k := 100 + (i + 6)) (n := 3000 + (i + 6)) (by omega) (by omega) ?_
      exact ih (i + 6) z355.1 z345.2 z355.2 k _ _ _ (by omega) (by omega) hI2 hJ2 hp355.2 hP hD hS (lv_sub hl [1, 2, 3, 4, 0] rfl)
    · refine lv_tableIn (off := 323) (tgt := 363) hx hb d_Lw_law_40 (by decide) (by decide) rfl (by decide) ?_
      refine lv_aload_n hx hb d_Lw_law_363 rfl (lv_at hl 1 rfl) ?_
      refine lv_aload_n hx hb d_Lw_law_364 rfl (lv_at hl 0 rfl) ?_
      refine lv_iload hx hb d_Lw_law_365 (lv_at hl 4 rfl) ?_
      refine lv_iconst (v := nI 1) hx hb d_Lw_law_367 (by decide) ?_
      refine lv_iadd hx hb d_Lw_law_368 ?_
      refine fs_eqi (nI_add _ _) ?_
      refine va_sld (b := b) hx hb hXs hbl hbA hS (vp_in_nI (by omega) (by omega)) d_Lw_law_369 ?_
      refine fs_eqi (v := xs (i + 1)) (by rw [nI_clamp (by omega)]) ?_
      refine lv_aload_n hx hb d_Lw_law_370 rfl (lv_at hl 0 rfl) ?_
      refine lv_iload hx hb d_Lw_law_371 (lv_at hl 4 rfl) ?_
      refine lv_iconst (v := nI 2) hx hb d_Lw_law_373 (by decide) ?_
      refine lv_iadd hx hb d_Lw_law_374 ?_
      refine fs_eqi (nI_add _ _) ?_
      refine va_sld (b := b) hx hb hXs hbl hbA hS (vp_in_nI (by omega) (by omega)) d_Lw_law_375 ?_
      refine fs_eqi (v := xs (i + 2)) (by rw [nI_clamp (by omega)]) ?_
      refine fs_calli (wc := XC cI cF fs u J) (wr := MC cI cZ mo v M ++ OC cJ o k) [0, 1, 2, 3, 4, 5, 6, 7, 8, 9, 10, 11, 12, 13, 14, 15, 16, 17, 18, 19, 20, 21, 22, 23, 24, 25, 26, 27, 28, 29, 30, 31, 32, 33, 34, 35, 36, 37, 38, 39, 40, 41, 42, 43, 44, 45, 46, 47, 48, 49, 50, 51, 52] [53, 54, 55, 56, 57, 58, 59, 60, 61, 62, 63, 64, 65, 66] hP hD hK hS hA rfl rfl rfl (by decide) (fun hPc hDc => va_runV (C := R_Fs) (As := [.int (xs (i + 1)), .int (xs (i + 2))]) (rest := []) ⟨hx, hb, hml, hown, hts⟩ (x_Fs_set fs u A J (xs (i + 1)) (xs (i + 2)) _ hI hJ) (⟨callB_of 2 hts (fs_g kin_Fs_set) rfl rfl rfl (hts _ wi_1) (hts _ wi_222) (by decide +kernel) ⟨Nat.le_of_ble_eq_true rfl, Nat.le_of_ble_eq_true rfl⟩, hts _ wi_223, hts _ wi_224⟩) (fs_preV (q0 := 0) rfl rfl hPc hK hDc) rfl rfl hl.1 rfl (lv_room (Nat.le_of_ble_eq_true rfl)) d_Lw_law_376 ⟨by show _ ≤ 601024; omega, by show _ ≤ 7293034; omega⟩) rfl (fun r376 z376 H locs hp376 hP hD hS => ?_)
      have hP : va_P (dC, dI) vwCl (XC cI cF fs u z376.2 ++ (MC cI cZ mo v M ++ OC cJ o k)) H := hP.sub [14, 15, 16, 17, 18, 19, 20, 21, 22, 23, 24, 25, 26, 27, 28, 29, 30, 31, 32, 33, 34, 35, 36, 37, 38, 39, 40, 41, 42, 43, 44, 45, 46, 47, 48, 49, 50, 51, 52, 53, 54, 55, 56, 57, 58, 59, 60, 61, 62, 63, 64, 65, 66, 0, 1, 2, 3, 4, 5, 6, 7, 8, 9, 10, 11, 12, 13] rfl
      have hD : va_D (fun q => s.heap.size ≤ q) (XC cI cF fs u z376.2 ++ (MC cI cZ mo v M ++ OC cJ o k)) := hD.sub [14, 15, 16, 17, 18, 19, 20, 21, 22, 23, 24, 25, 26, 27, 28, 29, 30, 31, 32, 33, 34, 35, 36, 37, 38, 39, 40, 41, 42, 43, 44, 45, 46, 47, 48, 49, 50, 51, 52, 53, 54, 55, 56, 57, 58, 59, 60, 61, 62, 63, 64, 65, 66, 0, 1, 2, 3, 4, 5, 6, 7, 8, 9, 10, 11, 12, 13] (by decide) rfl
      refine lv_aload_n hx hb d_Lw_law_379 rfl (lv_at hl 2 rfl) ?_
      refine lv_aload_n hx hb d_Lw_law_380 rfl (lv_at hl 0 rfl) ?_
      refine lv_iload hx hb d_Lw_law_381 (lv_at hl 4 rfl) ?_
      refine lv_iconst (v := nI 1) hx hb d_Lw_law_383 (by decide) ?_
      refine lv_iadd hx hb d_Lw_law_384 ?_
      refine fs_eqi (nI_add _ _) ?_
      refine va_sld (b := b) hx hb hXs hbl hbA hS (vp_in_nI (by omega) (by omega)) d_Lw_law_385 ?_
      refine fs_eqi (v := xs (i + 1)) (by rw [nI_clamp (by omega)]) ?_
      refine lv_aload_n hx hb d_Lw_law_386 rfl (lv_at hl 0 rfl) ?_
      refine lv_iload hx hb d_Lw_law_387 (lv_at hl 4 rfl) ?_
      refine lv_iconst (v := nI 2) hx hb d_Lw_law_389 (by decide) ?_
      refine lv_iadd hx hb d_Lw_law_390 ?_
      refine fs_eqi (nI_add _ _) ?_
      refine va_sld (b := b) hx hb hXs hbl hbA hS (vp_in_nI (by omega) (by omega)) d_Lw_law_391 ?_
      refine fs_eqi (v := xs (i + 2)) (by rw [nI_clamp (by omega)]) ?_
      refine fs_calli (wc := MC cI cZ mo v M) (wr := XC cI cF fs u z376.2 ++ OC cJ o k) [53, 54, 55, 56, 57, 58, 59, 60, 61, 62, 63, 64, 65] [0, 1, 2, 3, 4, 5, 6, 7, 8, 9, 10, 11, 12, 13, 14, 15, 16, 17, 18, 19, 20, 21, 22, 23, 24, 25, 26, 27, 28, 29, 30, 31, 32, 33, 34, 35, 36, 37, 38, 39, 40, 41, 42, 43, 44, 45, 46, 47, 48, 49, 50, 51, 52, 66] hP hD hK hS hA rfl rfl rfl (by decide) (fun hPc hDc => va_runV (C := R_Mo) (As := [.int (xs (i + 1)), .int (xs (i + 2))]) (rest := [.int r376]) ⟨hx, hb, hml, hown, hts⟩ (x_Mo_set mo v A M (xs (i + 1)) (xs (i + 2)) _ hI hM) (⟨callB_of 2 hts (fs_g kin_Mo_set) rfl rfl rfl (hts _ wi_6) (hts _ wi_535) (by decide +kernel) ⟨Nat.le_of_ble_eq_true rfl, Nat.le_of_ble_eq_true rfl⟩, hts _ wi_536, hts _ wi_537⟩) (fs_preV (q0 := 0) rfl rfl hPc hK hDc) rfl rfl hl.1 rfl (lv_room (Nat.le_of_ble_eq_true rfl)) d_Lw_law_392 ⟨by show _ ≤ 601024; omega, by show _ ≤ 7293034; omega⟩) rfl (fun r392 z392 H locs hp392 hP hD hS => ?_)
      have hP : va_P (dC, dI) vwCl (XC cI cF fs u z376.2 ++ (MC cI cZ mo v z392.2 ++ OC cJ o k)) H := hP.sub [0, 1, 2, 3, 4, 5, 6, 7, 8, 9, 10, 11, 12, 13, 14, 15, 16, 17, 18, 19, 20, 21, 22, 23, 24, 25, 26, 27, 28, 29, 30, 31, 32, 33, 34, 35, 36, 37, 38, 39, 40, 41, 42, 43, 44, 45, 46, 47, 48, 49, 50, 51, 52, 54, 55, 56, 57, 58, 59, 60, 61, 62, 63, 64, 65, 66, 53] rfl
      have hD : va_D (fun q => s.heap.size ≤ q) (XC cI cF fs u z376.2 ++ (MC cI cZ mo v z392.2 ++ OC cJ o k)) := hD.sub [0, 1, 2, 3, 4, 5, 6, 7, 8, 9, 10, 11, 12, 13, 14, 15, 16, 17, 18, 19, 20, 21, 22, 23, 24, 25, 26, 27, 28, 29, 30, 31, 32, 33, 34, 35, 36, 37, 38, 39, 40, 41, 42, 43, 44, 45, 46, 47, 48, 49, 50, 51, 52, 54, 55, 56, 57, 58, 59, 60, 61, 62, 63, 64, 65, 66, 53] (by decide) rfl
      obtain ⟨hre, hae⟩ := law_eq hp376.1 hp392.1
      refine lv_icmp_eq (tgt := 649) hx hb d_Lw_law_395 (by decide) (fun _ => ?_) (fun hc => absurd hre hc)
      have hJ2 : fx_cr z392.1 z376.2 := by rw [← hae]; exact hp376.2
      have hI2 : fx_AI z392.1 := law_fi hp392.1 (fi_set hI (xs (i + 1)) (xs (i + 2)))
      refine lv_iinc (v := nI (i + 6)) (k := 4) hx hb d_Lw_law_649 hl rfl (fs_incN i 6) (by decide) (lv' := [(4, .int (nI (i + 6))), (0, .ref b), (1, .ref fs), (2, .ref mo), (3, .ref o)]) rfl (fun ls hl => ?_)
      refine lv_goto (tgt := 23) hx hb d_Lw_law_652 (by decide) ?_
      refine W.widen (k := 100 + (i + 6)) (n := 3000 + (i + 6)) (by omega) (by omega) ?_
      exact ih (i + 6) z392.1 z376.2 z392.2 k _ _ _ (by omega) (by omega) hI2 hJ2 hp392.2 hP hD hS (lv_sub hl [1, 2, 3, 4, 0] rfl)
    · refine lv_tableIn (off := 360) (tgt := 400) hx hb d_Lw_law_40 (by decide) (by decide) rfl (by decide) ?_
      refine lv_aload_n hx hb d_Lw_law_400 rfl (lv_at hl 1 rfl) ?_
      refine lv_aload_n hx hb d_Lw_law_401 rfl (lv_at hl 0 rfl) ?_
      refine lv_iload hx hb d_Lw_law_402 (lv_at hl 4 rfl) ?_
      refine lv_iconst (v := nI 1) hx hb d_Lw_law_404 (by decide) ?_
      refine lv_iadd hx hb d_Lw_law_405 ?_
      refine fs_eqi (nI_add _ _) ?_
      refine va_sld (b := b) hx hb hXs hbl hbA hS (vp_in_nI (by omega) (by omega)) d_Lw_law_406 ?_
      refine fs_eqi (v := xs (i + 1)) (by rw [nI_clamp (by omega)]) ?_
      refine lv_aload_n hx hb d_Lw_law_407 rfl (lv_at hl 3 rfl) ?_
      refine fs_calli (wc := XC cI cF fs u J ++ OC cJ o k) (wr := MC cI cZ mo v M) [0, 1, 2, 3, 4, 5, 6, 7, 8, 9, 10, 11, 12, 13, 14, 15, 16, 17, 18, 19, 20, 21, 22, 23, 24, 25, 26, 27, 28, 29, 30, 31, 32, 33, 34, 35, 36, 37, 38, 39, 40, 41, 42, 43, 44, 45, 46, 47, 48, 49, 50, 51, 52, 66] [53, 54, 55, 56, 57, 58, 59, 60, 61, 62, 63, 64, 65] hP hD hK hS hA rfl rfl rfl (by decide) (fun hPc hDc => th_runS (As := [.ref fs, .int (xs (i + 1)), .ref o]) (rest := []) ⟨hx, hb, hml, hown, hts⟩ (x_Lw_test fs u A J o k (xs (i + 1)) _ s #[Value.ref b] htr hk0 (fun q h => va_free (wc := XC cI cF fs u J ++ OC cJ o k) hD hS hA [0, 1, 2, 3, 4, 5, 6, 7, 8, 9, 10, 11, 12, 13, 14, 15, 16, 17, 18, 19, 20, 21, 22, 23, 24, 25, 26, 27, 28, 29, 30, 31, 32, 33, 34, 35, 36, 37, 38, 39, 40, 41, 42, 43, 44, 45, 46, 47, 48, 49, 50, 51, 52, 66] rfl q h) hI hJ) rfl rfl (Nat.le_of_ble_eq_true rfl) (Nat.le_of_ble_eq_true rfl) (law_ws wi_305 hts) (hts _ wi_305) (hts _ wi_0) (by decide +kernel) rfl (hts _ wi_303) (hts _ wi_304) (th_preS (fun U hU hW => th_Xgo hX0 hS (fun q h => h) hW hU) hPc hK hDc) rfl rfl hl.1 rfl (lv_room (Nat.le_of_ble_eq_true rfl)) d_Lw_law_408 ⟨by show _ ≤ 601024; omega, by show _ ≤ 7293034; omega⟩) rfl (fun r408 z408 H locs hp408 hP hD hS => ?_)
      have hP : va_P (dC, dI) vwCl (XC cI cF fs u z408.2.1 ++ (MC cI cZ mo v M ++ OC cJ o z408.2.2)) H := hP.sub [13, 14, 15, 16, 17, 18, 19, 20, 21, 22, 23, 24, 25, 26, 27, 28, 29, 30, 31, 32, 33, 34, 35, 36, 37, 38, 39, 40, 41, 42, 43, 44, 45, 46, 47, 48, 49, 50, 51, 52, 53, 54, 55, 56, 57, 58, 59, 60, 61, 62, 63, 64, 65, 0, 1, 2, 3, 4, 5, 6, 7, 8, 9, 10, 11, 12, 66] rfl
      have hD : va_D (fun q => s.heap.size ≤ q) (XC cI cF fs u z408.2.1 ++ (MC cI cZ mo v M ++ OC cJ o z408.2.2)) := hD.sub [13, 14, 15, 16, 17, 18, 19, 20, 21, 22, 23, 24, 25, 26, 27, 28, 29, 30, 31, 32, 33, 34, 35, 36, 37, 38, 39, 40, 41, 42, 43, 44, 45, 46, 47, 48, 49, 50, 51, 52, 53, 54, 55, 56, 57, 58, 59, 60, 61, 62, 63, 64, 65, 0, 1, 2, 3, 4, 5, 6, 7, 8, 9, 10, 11, 12, 66] (by decide) rfl
      refine lv_istore hx hb d_Lw_law_411 hl (by decide) (lv' := [(5, .int r408), (0, .ref b), (1, .ref fs), (2, .ref mo), (3, .ref o), (4, .int (nI i))]) rfl (fun ls hl => ?_)
      refine lv_aload_n hx hb d_Lw_law_413 rfl (lv_at hl 3 rfl) ?_
      refine lv_aload_n hx hb d_Lw_law_414 rfl (lv_at hl 1 rfl) ?_
      refine lv_iload hx hb d_Lw_law_415 (lv_at hl 5 rfl) ?_
      refine lv_iconst (v := nI 1) hx hb d_Lw_law_417 (by decide) ?_
      refine lv_iadd hx hb d_Lw_law_418 ?_
      refine fs_eqi (nI_add _ _) ?_
      refine va_sld (b := b) hx hb hXs hbl hbA hS (vp_in_nI (by omega) (by omega)) d_Lw_law_419 ?_
      refine fs_eqi (v := xs (i + 1)) (by rw [nI_clamp (by omega)]) ?_
      refine fs_calli (wc := MC cI cZ mo v M) (wr := XC cI cF fs u z408.2.1 ++ OC cJ o z408.2.2) [53, 54, 55, 56, 57, 58, 59, 60, 61, 62, 63, 64, 65] [0, 1, 2, 3, 4, 5, 6, 7, 8, 9, 10, 11, 12, 13, 14, 15, 16, 17, 18, 19, 20, 21, 22, 23, 24, 25, 26, 27, 28, 29, 30, 31, 32, 33, 34, 35, 36, 37, 38, 39, 40, 41, 42, 43, 44, 45, 46, 47, 48, 49, 50, 51, 52, 66] hP hD hK hS hA rfl rfl rfl (by decide) (fun hPc hDc => va_runV (C := R_Mo) (As := [.int (xs (i + 1))]) (rest := []) ⟨hx, hb, hml, hown, hts⟩ (x_Mo_test mo v A M (xs (i + 1)) _ hI hM) (⟨callB_of 1 hts (fs_g kin_Mo_test) rfl rfl rfl (hts _ wi_6) (hts _ wi_539) (by decide +kernel) ⟨Nat.le_of_ble_eq_true rfl, Nat.le_of_ble_eq_true rfl⟩, hts _ wi_540, hts _ wi_541⟩) (fs_preV (q0 := 0) rfl rfl hPc hK hDc) rfl rfl hl.1 rfl (lv_room (Nat.le_of_ble_eq_true rfl)) d_Lw_law_420 ⟨by show _ ≤ 601024; omega, by show _ ≤ 7293034; omega⟩) rfl (fun r420 z420 H locs hp420 hP hD hS => ?_)
      have hP : va_P (dC, dI) vwCl (XC cI cF fs u z408.2.1 ++ (MC cI cZ mo v z420.2 ++ OC cJ o z408.2.2)) H := hP.sub [0, 1, 2, 3, 4, 5, 6, 7, 8, 9, 10, 11, 12, 13, 14, 15, 16, 17, 18, 19, 20, 21, 22, 23, 24, 25, 26, 27, 28, 29, 30, 31, 32, 33, 34, 35, 36, 37, 38, 39, 40, 41, 42, 43, 44, 45, 46, 47, 48, 49, 50, 51, 52, 54, 55, 56, 57, 58, 59, 60, 61, 62, 63, 64, 65, 66, 53] rfl
      have hD : va_D (fun q => s.heap.size ≤ q) (XC cI cF fs u z408.2.1 ++ (MC cI cZ mo v z420.2 ++ OC cJ o z408.2.2)) := hD.sub [0, 1, 2, 3, 4, 5, 6, 7, 8, 9, 10, 11, 12, 13, 14, 15, 16, 17, 18, 19, 20, 21, 22, 23, 24, 25, 26, 27, 28, 29, 30, 31, 32, 33, 34, 35, 36, 37, 38, 39, 40, 41, 42, 43, 44, 45, 46, 47, 48, 49, 50, 51, 52, 54, 55, 56, 57, 58, 59, 60, 61, 62, 63, 64, 65, 66, 53] (by decide) rfl
      have hI3 : fx_AI z420.1 := by rw [hp420.2.2.1]; exact fi_test hI (xs (i + 1))
      refine lv_istore hx hb d_Lw_law_423 hl (by decide) (lv' := [(6, .int r420), (5, .int r408), (0, .ref b), (1, .ref fs), (2, .ref mo), (3, .ref o), (4, .int (nI i))]) rfl (fun ls hl => ?_)
      refine lv_aload_n hx hb d_Lw_law_425 rfl (lv_at hl 4 rfl) ?_
      refine fs_calli (wc := MC cI cZ mo v z420.2) (wr := XC cI cF fs u z408.2.1 ++ OC cJ o z408.2.2) [53, 54, 55, 56, 57, 58, 59, 60, 61, 62, 63, 64, 65] [0, 1, 2, 3, 4, 5, 6, 7, 8, 9, 10, 11, 12, 13, 14, 15, 16, 17, 18, 19, 20, 21, 22, 23, 24, 25, 26, 27, 28, 29, 30, 31, 32, 33, 34, 35, 36, 37, 38, 39, 40, 41, 42, 43, 44, 45, 46, 47, 48, 49, 50, 51, 52, 66] hP hD hK hS hA rfl rfl rfl (by decide) (fun hPc hDc => va_runV (C := R_Mo) (As := []) (rest := []) ⟨hx, hb, hml, hown, hts⟩ (x_Mo_thrown mo v z420.1 z420.2  _ hI3 hp420.2.2.2) (⟨callB_of 0 hts (fs_g kin_Mo_thrown) rfl rfl rfl (hts _ wi_6) (hts _ wi_480) (by decide +kernel) ⟨Nat.le_of_ble_eq_true rfl, Nat.le_of_ble_eq_true rfl⟩, hts _ wi_481, hts _ wi_482⟩) (fs_preV (q0 := 0) rfl rfl hPc hK hDc) rfl rfl hl.1 rfl (lv_room (Nat.le_of_ble_eq_true rfl)) d_Lw_law_426 ⟨by show _ ≤ 601024; omega, by show _ ≤ 7293034; omega⟩) rfl (fun r426 z426 H locs hp426 hP hD hS => ?_)
      obtain ⟨hq426, rfl⟩ := hp426
      have hP : va_P (dC, dI) vwCl (XC cI cF fs u z408.2.1 ++ (MC cI cZ mo v z420.2 ++ OC cJ o z408.2.2)) H := hP.sub [0, 1, 2, 3, 4, 5, 6, 7, 8, 9, 10, 11, 12, 13, 14, 15, 16, 17, 18, 19, 20, 21, 22, 23, 24, 25, 26, 27, 28, 29, 30, 31, 32, 33, 34, 35, 36, 37, 38, 39, 40, 41, 42, 43, 44, 45, 46, 47, 48, 49, 50, 51, 52, 54, 55, 56, 57, 58, 59, 60, 61, 62, 63, 64, 65, 66, 53] rfl
      have hD : va_D (fun q => s.heap.size ≤ q) (XC cI cF fs u z408.2.1 ++ (MC cI cZ mo v z420.2 ++ OC cJ o z408.2.2)) := hD.sub [0, 1, 2, 3, 4, 5, 6, 7, 8, 9, 10, 11, 12, 13, 14, 15, 16, 17, 18, 19, 20, 21, 22, 23, 24, 25, 26, 27, 28, 29, 30, 31, 32, 33, 34, 35, 36, 37, 38, 39, 40, 41, 42, 43, 44, 45, 46, 47, 48, 49, 50, 51, 52, 54, 55, 56, 57, 58, 59, 60, 61, 62, 63, 64, 65, 66, 53] (by decide) rfl
      refine lv_iload hx hb d_Lw_law_429 (lv_at hl 1 rfl) ?_
      have hth : r426 = r408 := by rw [hq426, hp420.2.1, hp408.1]
      refine lv_icmp_eq (tgt := 436) hx hb d_Lw_law_431 (by decide) (fun _ => ?_) (fun hc => absurd hth hc)
      have hae : z408.1 = z420.1 := by rw [hp408.2.1, hp420.2.2.1]
      have hJ2 : fx_cr z420.1 z408.2.1 := by rw [← hae]; exact hp408.2.2.1
      have hI2 : fx_AI z420.1 := by rw [hp420.2.2.1]; exact fi_test hI (xs (i + 1))
      refine lv_iload hx hb d_Lw_law_436 (lv_at hl 1 rfl) ?_
      refine lv_if_ne (tgt := 453) hx hb d_Lw_law_438 (by decide) (fun _ => ?_) (fun hc0 => ?_)
      · refine lv_goto (tgt := 649) hx hb d_Lw_law_453 (by decide) ?_
        refine lv_iinc (v := nI (i + 6)) (k := 6) hx hb d_Lw_law_649 hl rfl (fs_incN i 6) (by decide) (lv' := [(4, .int (nI (i + 6))), (6, .int r420), (5, .int r408), (0, .ref b), (1, .ref fs), (2, .ref mo), (3, .ref o)]) rfl (fun ls hl => ?_)
        refine lv_goto (tgt := 23) hx hb d_Lw_law_652 (by decide) ?_
        refine W.widen (k := 100 + (i + 6)) (n := 3000 + (i + 6)) (by omega) (by omega) ?_
        exact ih (i + 6) z420.1 z408.2.1 z420.2 z408.2.2 _ _ _ (by omega) (by omega) hI2 hJ2 hp420.2.2.2 hP hD hS (lv_sub hl [3, 4, 5, 6, 0] rfl)
      refine lv_aload_n hx hb d_Lw_law_441 rfl (lv_at hl 5 rfl) ?_
      refine lv_iconst (v := nI 0) hx hb d_Lw_law_442 (by decide) ?_
      refine va_lald (a := o) hx hb hK hP 66 2 rfl rfl (vp_in_nI (by decide) (by decide)) d_Lw_law_443 ?_
      refine fs_eql (v := r420.toInt64) (by rw [show (nI 0).toNatClampNeg = 0 from by decide, hp408.2.2.2 (by rw [← hp408.1, nI_0]; exact hc0), hp420.1]) ?_
      refine lv_iload hx hb d_Lw_law_444 (lv_at hl 0 rfl) ?_
      refine lv_i2l hx hb d_Lw_law_446 rfl ?_
      refine W.lcmp hx hb d_Lw_law_447 ?_
      refine lv_if_eq (tgt := 453) hx hb d_Lw_law_448 (by decide) (fun _ => ?_) (fun hc => absurd (law_cmp _) hc)
      refine lv_goto (tgt := 649) hx hb d_Lw_law_453 (by decide) ?_
      refine lv_iinc (v := nI (i + 6)) (k := 6) hx hb d_Lw_law_649 hl rfl (fs_incN i 6) (by decide) (lv' := [(4, .int (nI (i + 6))), (6, .int r420), (5, .int r408), (0, .ref b), (1, .ref fs), (2, .ref mo), (3, .ref o)]) rfl (fun ls hl => ?_)
      refine lv_goto (tgt := 23) hx hb d_Lw_law_652 (by decide) ?_
      refine W.widen (k := 100 + (i + 6)) (n := 3000 + (i + 6)) (by omega) (by omega) ?_
      exact ih (i + 6) z420.1 z408.2.1 z420.2 z408.2.2 _ _ _ (by omega) (by omega) hI2 hJ2 hp420.2.2.2 hP hD hS (lv_sub hl [3, 4, 5, 6, 0] rfl)
    · refine lv_tableIn (off := 416) (tgt := 456) hx hb d_Lw_law_40 (by decide) (by decide) rfl (by decide) ?_
      refine lv_aload_n hx hb d_Lw_law_456 rfl (lv_at hl 1 rfl) ?_
      refine fs_calli (wc := XC cI cF fs u J) (wr := MC cI cZ mo v M ++ OC cJ o k) [0, 1, 2, 3, 4, 5, 6, 7, 8, 9, 10, 11, 12, 13, 14, 15, 16, 17, 18, 19, 20, 21, 22, 23, 24, 25, 26, 27, 28, 29, 30, 31, 32, 33, 34, 35, 36, 37, 38, 39, 40, 41, 42, 43, 44, 45, 46, 47, 48, 49, 50, 51, 52] [53, 54, 55, 56, 57, 58, 59, 60, 61, 62, 63, 64, 65, 66] hP hD hK hS hA rfl rfl rfl (by decide) (fun hPc hDc => va_runV (C := R_Fs) (As := []) (rest := []) ⟨hx, hb, hml, hown, hts⟩ (x_Fs_steps fs u A J  _ hI hJ) (⟨callB_of 0 hts (fs_g kin_Fs_steps) rfl rfl rfl (hts _ wi_1) (hts _ wi_226) (by decide +kernel) ⟨Nat.le_of_ble_eq_true rfl, Nat.le_of_ble_eq_true rfl⟩, hts _ wi_227, hts _ wi_228⟩) (fs_preV (q0 := 0) rfl rfl hPc hK hDc) rfl rfl hl.1 rfl (lv_room (Nat.le_of_ble_eq_true rfl)) d_Lw_law_457 ⟨by show _ ≤ 601024; omega, by show _ ≤ 7293034; omega⟩) rfl (fun r457 z457 H locs hp457 hP hD hS => ?_)
      have hP : va_P (dC, dI) vwCl (XC cI cF fs u z457.2 ++ (MC cI cZ mo v M ++ OC cJ o k)) H := hP.sub [14, 15, 16, 17, 18, 19, 20, 21, 22, 23, 24, 25, 26, 27, 28, 29, 30, 31, 32, 33, 34, 35, 36, 37, 38, 39, 40, 41, 42, 43, 44, 45, 46, 47, 48, 49, 50, 51, 52, 53, 54, 55, 56, 57, 58, 59, 60, 61, 62, 63, 64, 65, 66, 0, 1, 2, 3, 4, 5, 6, 7, 8, 9, 10, 11, 12, 13] rfl
      have hD : va_D (fun q => s.heap.size ≤ q) (XC cI cF fs u z457.2 ++ (MC cI cZ mo v M ++ OC cJ o k)) := hD.sub [14, 15, 16, 17, 18, 19, 20, 21, 22, 23, 24, 25, 26, 27, 28, 29, 30, 31, 32, 33, 34, 35, 36, 37, 38, 39, 40, 41, 42, 43, 44, 45, 46, 47, 48, 49, 50, 51, 52, 53, 54, 55, 56, 57, 58, 59, 60, 61, 62, 63, 64, 65, 66, 0, 1, 2, 3, 4, 5, 6, 7, 8, 9, 10, 11, 12, 13] (by decide) rfl
      refine lv_aload_n hx hb d_Lw_law_460 rfl (lv_at hl 2 rfl) ?_
      refine fs_calli (wc := MC cI cZ mo v M) (wr := XC cI cF fs u z457.2 ++ OC cJ o k) [53, 54, 55, 56, 57, 58, 59, 60, 61, 62, 63, 64, 65] [0, 1, 2, 3, 4, 5, 6, 7, 8, 9, 10, 11, 12, 13, 14, 15, 16, 17, 18, 19, 20, 21, 22, 23, 24, 25, 26, 27, 28, 29, 30, 31, 32, 33, 34, 35, 36, 37, 38, 39, 40, 41, 42, 43, 44, 45, 46, 47, 48, 49, 50, 51, 52, 66] hP hD hK hS hA rfl rfl rfl (by decide) (fun hPc hDc => va_runV (C := R_Mo) (As := []) (rest := [.int r457]) ⟨hx, hb, hml, hown, hts⟩ (x_Mo_steps mo v A M  _ hI hM) (⟨callB_of 0 hts (fs_g kin_Mo_steps) rfl rfl rfl (hts _ wi_6) (hts _ wi_557) (by decide +kernel) ⟨Nat.le_of_ble_eq_true rfl, Nat.le_of_ble_eq_true rfl⟩, hts _ wi_558, hts _ wi_559⟩) (fs_preV (q0 := 0) rfl rfl hPc hK hDc) rfl rfl hl.1 rfl (lv_room (Nat.le_of_ble_eq_true rfl)) d_Lw_law_461 ⟨by show _ ≤ 601024; omega, by show _ ≤ 7293034; omega⟩) rfl (fun r461 z461 H locs hp461 hP hD hS => ?_)
      have hP : va_P (dC, dI) vwCl (XC cI cF fs u z457.2 ++ (MC cI cZ mo v z461.2 ++ OC cJ o k)) H := hP.sub [0, 1, 2, 3, 4, 5, 6, 7, 8, 9, 10, 11, 12, 13, 14, 15, 16, 17, 18, 19, 20, 21, 22, 23, 24, 25, 26, 27, 28, 29, 30, 31, 32, 33, 34, 35, 36, 37, 38, 39, 40, 41, 42, 43, 44, 45, 46, 47, 48, 49, 50, 51, 52, 54, 55, 56, 57, 58, 59, 60, 61, 62, 63, 64, 65, 66, 53] rfl
      have hD : va_D (fun q => s.heap.size ≤ q) (XC cI cF fs u z457.2 ++ (MC cI cZ mo v z461.2 ++ OC cJ o k)) := hD.sub [0, 1, 2, 3, 4, 5, 6, 7, 8, 9, 10, 11, 12, 13, 14, 15, 16, 17, 18, 19, 20, 21, 22, 23, 24, 25, 26, 27, 28, 29, 30, 31, 32, 33, 34, 35, 36, 37, 38, 39, 40, 41, 42, 43, 44, 45, 46, 47, 48, 49, 50, 51, 52, 54, 55, 56, 57, 58, 59, 60, 61, 62, 63, 64, 65, 66, 53] (by decide) rfl
      obtain ⟨hre, hae⟩ := law_eq hp457.1 hp461.1
      refine lv_icmp_eq (tgt := 649) hx hb d_Lw_law_464 (by decide) (fun _ => ?_) (fun hc => absurd hre hc)
      have hJ2 : fx_cr z461.1 z457.2 := by rw [← hae]; exact hp457.2
      have hI2 : fx_AI z461.1 := law_fi hp461.1 (fi_steps hI )
      refine lv_iinc (v := nI (i + 6)) (k := 4) hx hb d_Lw_law_649 hl rfl (fs_incN i 6) (by decide) (lv' := [(4, .int (nI (i + 6))), (0, .ref b), (1, .ref fs), (2, .ref mo), (3, .ref o)]) rfl (fun ls hl => ?_)
      refine lv_goto (tgt := 23) hx hb d_Lw_law_652 (by decide) ?_
      refine W.widen (k := 100 + (i + 6)) (n := 3000 + (i + 6)) (by omega) (by omega) ?_
      exact ih (i + 6) z461.1 z457.2 z461.2 k _ _ _ (by omega) (by omega) hI2 hJ2 hp461.2 hP hD hS (lv_sub hl [1, 2, 3, 4, 0] rfl)
    · refine lv_tableIn (off := 429) (tgt := 469) hx hb d_Lw_law_40 (by decide) (by decide) rfl (by decide) ?_
      refine lv_aload_n hx hb d_Lw_law_469 rfl (lv_at hl 1 rfl) ?_
      refine lv_aload_n hx hb d_Lw_law_470 rfl (lv_at hl 0 rfl) ?_
      refine lv_iload hx hb d_Lw_law_471 (lv_at hl 4 rfl) ?_
      refine lv_iconst (v := nI 1) hx hb d_Lw_law_473 (by decide) ?_
      refine lv_iadd hx hb d_Lw_law_474 ?_
      refine fs_eqi (nI_add _ _) ?_
      refine va_sld (b := b) hx hb hXs hbl hbA hS (vp_in_nI (by omega) (by omega)) d_Lw_law_475 ?_
      refine fs_eqi (v := xs (i + 1)) (by rw [nI_clamp (by omega)]) ?_
      refine lv_aload_n hx hb d_Lw_law_476 rfl (lv_at hl 0 rfl) ?_
      refine lv_iload hx hb d_Lw_law_477 (lv_at hl 4 rfl) ?_
      refine lv_iconst (v := nI 2) hx hb d_Lw_law_479 (by decide) ?_
      refine lv_iadd hx hb d_Lw_law_480 ?_
      refine fs_eqi (nI_add _ _) ?_
      refine va_sld (b := b) hx hb hXs hbl hbA hS (vp_in_nI (by omega) (by omega)) d_Lw_law_481 ?_
      refine fs_eqi (v := xs (i + 2)) (by rw [nI_clamp (by omega)]) ?_
      refine lv_aload_n hx hb d_Lw_law_482 rfl (lv_at hl 0 rfl) ?_
      refine lv_iload hx hb d_Lw_law_483 (lv_at hl 4 rfl) ?_
      refine lv_iconst (v := nI 3) hx hb d_Lw_law_485 (by decide) ?_
      refine lv_iadd hx hb d_Lw_law_486 ?_
      refine fs_eqi (nI_add _ _) ?_
      refine va_sld (b := b) hx hb hXs hbl hbA hS (vp_in_nI (by omega) (by omega)) d_Lw_law_487 ?_
      refine fs_eqi (v := xs (i + 3)) (by rw [nI_clamp (by omega)]) ?_
      refine lv_aload_n hx hb d_Lw_law_488 rfl (lv_at hl 0 rfl) ?_
      refine lv_iload hx hb d_Lw_law_489 (lv_at hl 4 rfl) ?_
      refine lv_iconst (v := nI 4) hx hb d_Lw_law_491 (by decide) ?_
      refine lv_iadd hx hb d_Lw_law_492 ?_
      refine fs_eqi (nI_add _ _) ?_
      refine va_sld (b := b) hx hb hXs hbl hbA hS (vp_in_nI (by omega) (by omega)) d_Lw_law_493 ?_
      refine fs_eqi (v := xs (i + 4)) (by rw [nI_clamp (by omega)]) ?_
      refine fs_calli (wc := XC cI cF fs u J) (wr := MC cI cZ mo v M ++ OC cJ o k) [0, 1, 2, 3, 4, 5, 6, 7, 8, 9, 10, 11, 12, 13, 14, 15, 16, 17, 18, 19, 20, 21, 22, 23, 24, 25, 26, 27, 28, 29, 30, 31, 32, 33, 34, 35, 36, 37, 38, 39, 40, 41, 42, 43, 44, 45, 46, 47, 48, 49, 50, 51, 52] [53, 54, 55, 56, 57, 58, 59, 60, 61, 62, 63, 64, 65, 66] hP hD hK hS hA rfl rfl rfl (by decide) (fun hPc hDc => va_runV (C := R_Fs) (As := [.int (xs (i + 1)), .int (xs (i + 2)), .int (xs (i + 3)), .int (xs (i + 4))]) (rest := []) ⟨hx, hb, hml, hown, hts⟩ (x_Fs_rule fs u A J (xs (i + 1)) (xs (i + 2)) (xs (i + 3)) (xs (i + 4)) _ hI hJ) (⟨callB_of 4 hts (fs_g kin_Fs_rule) rfl rfl rfl (hts _ wi_1) (hts _ wi_230) (by decide +kernel) ⟨Nat.le_of_ble_eq_true rfl, Nat.le_of_ble_eq_true rfl⟩, hts _ wi_231, hts _ wi_232⟩) (fs_preV (q0 := 0) rfl rfl hPc hK hDc) rfl rfl hl.1 rfl (lv_room (Nat.le_of_ble_eq_true rfl)) d_Lw_law_494 ⟨by show _ ≤ 601024; omega, by show _ ≤ 7293034; omega⟩) rfl (fun r494 z494 H locs hp494 hP hD hS => ?_)
      have hP : va_P (dC, dI) vwCl (XC cI cF fs u z494.2 ++ (MC cI cZ mo v M ++ OC cJ o k)) H := hP.sub [14, 15, 16, 17, 18, 19, 20, 21, 22, 23, 24, 25, 26, 27, 28, 29, 30, 31, 32, 33, 34, 35, 36, 37, 38, 39, 40, 41, 42, 43, 44, 45, 46, 47, 48, 49, 50, 51, 52, 53, 54, 55, 56, 57, 58, 59, 60, 61, 62, 63, 64, 65, 66, 0, 1, 2, 3, 4, 5, 6, 7, 8, 9, 10, 11, 12, 13] rfl
      have hD : va_D (fun q => s.heap.size ≤ q) (XC cI cF fs u z494.2 ++ (MC cI cZ mo v M ++ OC cJ o k)) := hD.sub [14, 15, 16, 17, 18, 19, 20, 21, 22, 23, 24, 25, 26, 27, 28, 29, 30, 31, 32, 33, 34, 35, 36, 37, 38, 39, 40, 41, 42, 43, 44, 45, 46, 47, 48, 49, 50, 51, 52, 53, 54, 55, 56, 57, 58, 59, 60, 61, 62, 63, 64, 65, 66, 0, 1, 2, 3, 4, 5, 6, 7, 8, 9, 10, 11, 12, 13] (by decide) rfl
      refine lv_aload_n hx hb d_Lw_law_497 rfl (lv_at hl 2 rfl) ?_
      refine lv_aload_n hx hb d_Lw_law_498 rfl (lv_at hl 0 rfl) ?_
      refine lv_iload hx hb d_Lw_law_499 (lv_at hl 4 rfl) ?_
      refine lv_iconst (v := nI 1) hx hb d_Lw_law_501 (by decide) ?_
      refine lv_iadd hx hb d_Lw_law_502 ?_
      refine fs_eqi (nI_add _ _) ?_
      refine va_sld (b := b) hx hb hXs hbl hbA hS (vp_in_nI (by omega) (by omega)) d_Lw_law_503 ?_
      refine fs_eqi (v := xs (i + 1)) (by rw [nI_clamp (by omega)]) ?_
      refine lv_aload_n hx hb d_Lw_law_504 rfl (lv_at hl 0 rfl) ?_
      refine lv_iload hx hb d_Lw_law_505 (lv_at hl 4 rfl) ?_
      refine lv_iconst (v := nI 2) hx hb d_Lw_law_507 (by decide) ?_
      refine lv_iadd hx hb d_Lw_law_508 ?_
      refine fs_eqi (nI_add _ _) ?_
      refine va_sld (b := b) hx hb hXs hbl hbA hS (vp_in_nI (by omega) (by omega)) d_Lw_law_509 ?_
      refine fs_eqi (v := xs (i + 2)) (by rw [nI_clamp (by omega)]) ?_
      refine lv_aload_n hx hb d_Lw_law_510 rfl (lv_at hl 0 rfl) ?_
      refine lv_iload hx hb d_Lw_law_511 (lv_at hl 4 rfl) ?_
      refine lv_iconst (v := nI 3) hx hb d_Lw_law_513 (by decide) ?_
      refine lv_iadd hx hb d_Lw_law_514 ?_
      refine fs_eqi (nI_add _ _) ?_
      refine va_sld (b := b) hx hb hXs hbl hbA hS (vp_in_nI (by omega) (by omega)) d_Lw_law_515 ?_
      refine fs_eqi (v := xs (i + 3)) (by rw [nI_clamp (by omega)]) ?_
      refine lv_aload_n hx hb d_Lw_law_516 rfl (lv_at hl 0 rfl) ?_
      refine lv_iload hx hb d_Lw_law_517 (lv_at hl 4 rfl) ?_
      refine lv_iconst (v := nI 4) hx hb d_Lw_law_519 (by decide) ?_
      refine lv_iadd hx hb d_Lw_law_520 ?_
      refine fs_eqi (nI_add _ _) ?_
      refine va_sld (b := b) hx hb hXs hbl hbA hS (vp_in_nI (by omega) (by omega)) d_Lw_law_521 ?_
      refine fs_eqi (v := xs (i + 4)) (by rw [nI_clamp (by omega)]) ?_
      refine fs_calli (wc := MC cI cZ mo v M) (wr := XC cI cF fs u z494.2 ++ OC cJ o k) [53, 54, 55, 56, 57, 58, 59, 60, 61, 62, 63, 64, 65] [0, 1, 2, 3, 4, 5, 6, 7, 8, 9, 10, 11, 12, 13, 14, 15, 16, 17, 18, 19, 20, 21, 22, 23, 24, 25, 26, 27, 28, 29, 30, 31, 32, 33, 34, 35, 36, 37, 38, 39, 40, 41, 42, 43, 44, 45, 46, 47, 48, 49, 50, 51, 52, 66] hP hD hK hS hA rfl rfl rfl (by decide) (fun hPc hDc => va_runV (C := R_Mo) (As := [.int (xs (i + 1)), .int (xs (i + 2)), .int (xs (i + 3)), .int (xs (i + 4))]) (rest := [.int r494]) ⟨hx, hb, hml, hown, hts⟩ (x_Mo_rule mo v A M (xs (i + 1)) (xs (i + 2)) (xs (i + 3)) (xs (i + 4)) _ hI hM) (⟨callB_of 4 hts (fs_g kin_Mo_rule) rfl rfl rfl (hts _ wi_6) (hts _ wi_561) (by decide +kernel) ⟨Nat.le_of_ble_eq_true rfl, Nat.le_of_ble_eq_true rfl⟩, hts _ wi_562, hts _ wi_563⟩) (fs_preV (q0 := 0) rfl rfl hPc hK hDc) rfl rfl hl.1 rfl (lv_room (Nat.le_of_ble_eq_true rfl)) d_Lw_law_522 ⟨by show _ ≤ 601024; omega, by show _ ≤ 7293034; omega⟩) rfl (fun r522 z522 H locs hp522 hP hD hS => ?_)
      have hP : va_P (dC, dI) vwCl (XC cI cF fs u z494.2 ++ (MC cI cZ mo v z522.2 ++ OC cJ o k)) H := hP.sub [0, 1, 2, 3, 4, 5, 6, 7, 8, 9, 10, 11, 12, 13, 14, 15, 16, 17, 18, 19, 20, 21, 22, 23, 24, 25, 26, 27, 28, 29, 30, 31, 32, 33, 34, 35, 36, 37, 38, 39, 40, 41, 42, 43, 44, 45, 46, 47, 48, 49, 50, 51, 52, 54, 55, 56, 57, 58, 59, 60, 61, 62, 63, 64, 65, 66, 53] rfl
      have hD : va_D (fun q => s.heap.size ≤ q) (XC cI cF fs u z494.2 ++ (MC cI cZ mo v z522.2 ++ OC cJ o k)) := hD.sub [0, 1, 2, 3, 4, 5, 6, 7, 8, 9, 10, 11, 12, 13, 14, 15, 16, 17, 18, 19, 20, 21, 22, 23, 24, 25, 26, 27, 28, 29, 30, 31, 32, 33, 34, 35, 36, 37, 38, 39, 40, 41, 42, 43, 44, 45, 46, 47, 48, 49, 50, 51, 52, 54, 55, 56, 57, 58, 59, 60, 61, 62, 63, 64, 65, 66, 53] (by decide) rfl
      obtain ⟨hre, hae⟩ := law_eq hp494.1 hp522.1
      refine lv_icmp_eq (tgt := 649) hx hb d_Lw_law_525 (by decide) (fun _ => ?_) (fun hc => absurd hre hc)
      have hJ2 : fx_cr z522.1 z494.2 := by rw [← hae]; exact hp494.2
      have hI2 : fx_AI z522.1 := law_fi hp522.1 (fi_rule hI (xs (i + 1)) (xs (i + 2)) (xs (i + 3)) (xs (i + 4)))
      refine lv_iinc (v := nI (i + 6)) (k := 4) hx hb d_Lw_law_649 hl rfl (fs_incN i 6) (by decide) (lv' := [(4, .int (nI (i + 6))), (0, .ref b), (1, .ref fs), (2, .ref mo), (3, .ref o)]) rfl (fun ls hl => ?_)
      refine lv_goto (tgt := 23) hx hb d_Lw_law_652 (by decide) ?_
      refine W.widen (k := 100 + (i + 6)) (n := 3000 + (i + 6)) (by omega) (by omega) ?_
      exact ih (i + 6) z522.1 z494.2 z522.2 k _ _ _ (by omega) (by omega) hI2 hJ2 hp522.2 hP hD hS (lv_sub hl [1, 2, 3, 4, 0] rfl)
    · refine lv_tableIn (off := 490) (tgt := 530) hx hb d_Lw_law_40 (by decide) (by decide) rfl (by decide) ?_
      refine lv_aload_n hx hb d_Lw_law_530 rfl (lv_at hl 1 rfl) ?_
      refine fs_calli (wc := XC cI cF fs u J) (wr := MC cI cZ mo v M ++ OC cJ o k) [0, 1, 2, 3, 4, 5, 6, 7, 8, 9, 10, 11, 12, 13, 14, 15, 16, 17, 18, 19, 20, 21, 22, 23, 24, 25, 26, 27, 28, 29, 30, 31, 32, 33, 34, 35, 36, 37, 38, 39, 40, 41, 42, 43, 44, 45, 46, 47, 48, 49, 50, 51, 52] [53, 54, 55, 56, 57, 58, 59, 60, 61, 62, 63, 64, 65, 66] hP hD hK hS hA rfl rfl rfl (by decide) (fun hPc hDc => va_runV (C := R_Fs) (As := []) (rest := []) ⟨hx, hb, hml, hown, hts⟩ (x_Fs_forget fs u A J  _ hI hJ) (⟨callB_of 0 hts (fs_g kin_Fs_forget) rfl rfl rfl (hts _ wi_1) (hts _ wi_238) (by decide +kernel) ⟨Nat.le_of_ble_eq_true rfl, Nat.le_of_ble_eq_true rfl⟩, hts _ wi_239, hts _ wi_240⟩) (fs_preV (q0 := 0) rfl rfl hPc hK hDc) rfl rfl hl.1 rfl (lv_room (Nat.le_of_ble_eq_true rfl)) d_Lw_law_531 ⟨by show _ ≤ 601024; omega, by show _ ≤ 7293034; omega⟩) rfl (fun r531 z531 H locs hp531 hP hD hS => ?_)
      have hP : va_P (dC, dI) vwCl (XC cI cF fs u z531.2 ++ (MC cI cZ mo v M ++ OC cJ o k)) H := hP.sub [14, 15, 16, 17, 18, 19, 20, 21, 22, 23, 24, 25, 26, 27, 28, 29, 30, 31, 32, 33, 34, 35, 36, 37, 38, 39, 40, 41, 42, 43, 44, 45, 46, 47, 48, 49, 50, 51, 52, 53, 54, 55, 56, 57, 58, 59, 60, 61, 62, 63, 64, 65, 66, 0, 1, 2, 3, 4, 5, 6, 7, 8, 9, 10, 11, 12, 13] rfl
      have hD : va_D (fun q => s.heap.size ≤ q) (XC cI cF fs u z531.2 ++ (MC cI cZ mo v M ++ OC cJ o k)) := hD.sub [14, 15, 16, 17, 18, 19, 20, 21, 22, 23, 24, 25, 26, 27, 28, 29, 30, 31, 32, 33, 34, 35, 36, 37, 38, 39, 40, 41, 42, 43, 44, 45, 46, 47, 48, 49, 50, 51, 52, 53, 54, 55, 56, 57, 58, 59, 60, 61, 62, 63, 64, 65, 66, 0, 1, 2, 3, 4, 5, 6, 7, 8, 9, 10, 11, 12, 13] (by decide) rfl
      refine lv_aload_n hx hb d_Lw_law_534 rfl (lv_at hl 2 rfl) ?_
      refine fs_calli (wc := MC cI cZ mo v M) (wr := XC cI cF fs u z531.2 ++ OC cJ o k) [53, 54, 55, 56, 57, 58, 59, 60, 61, 62, 63, 64, 65] [0, 1, 2, 3, 4, 5, 6, 7, 8, 9, 10, 11, 12, 13, 14, 15, 16, 17, 18, 19, 20, 21, 22, 23, 24, 25, 26, 27, 28, 29, 30, 31, 32, 33, 34, 35, 36, 37, 38, 39, 40, 41, 42, 43, 44, 45, 46, 47, 48, 49, 50, 51, 52, 66] hP hD hK hS hA rfl rfl rfl (by decide) (fun hPc hDc => va_runV (C := R_Mo) (As := []) (rest := [.int r531]) ⟨hx, hb, hml, hown, hts⟩ (x_Mo_forget mo v A M  _ hI hM) (⟨callB_of 0 hts (fs_g kin_Mo_forget) rfl rfl rfl (hts _ wi_6) (hts _ wi_565) (by decide +kernel) ⟨Nat.le_of_ble_eq_true rfl, Nat.le_of_ble_eq_true rfl⟩, hts _ wi_566, hts _ wi_567⟩) (fs_preV (q0 := 0) rfl rfl hPc hK hDc) rfl rfl hl.1 rfl (lv_room (Nat.le_of_ble_eq_true rfl)) d_Lw_law_535 ⟨by show _ ≤ 601024; omega, by show _ ≤ 7293034; omega⟩) rfl (fun r535 z535 H locs hp535 hP hD hS => ?_)
      have hP : va_P (dC, dI) vwCl (XC cI cF fs u z531.2 ++ (MC cI cZ mo v z535.2 ++ OC cJ o k)) H := hP.sub [0, 1, 2, 3, 4, 5, 6, 7, 8, 9, 10, 11, 12, 13, 14, 15, 16, 17, 18, 19, 20, 21, 22, 23, 24, 25, 26, 27, 28, 29, 30, 31, 32, 33, 34, 35, 36, 37, 38, 39, 40, 41, 42, 43, 44, 45, 46, 47, 48, 49, 50, 51, 52, 54, 55, 56, 57, 58, 59, 60, 61, 62, 63, 64, 65, 66, 53] rfl
      have hD : va_D (fun q => s.heap.size ≤ q) (XC cI cF fs u z531.2 ++ (MC cI cZ mo v z535.2 ++ OC cJ o k)) := hD.sub [0, 1, 2, 3, 4, 5, 6, 7, 8, 9, 10, 11, 12, 13, 14, 15, 16, 17, 18, 19, 20, 21, 22, 23, 24, 25, 26, 27, 28, 29, 30, 31, 32, 33, 34, 35, 36, 37, 38, 39, 40, 41, 42, 43, 44, 45, 46, 47, 48, 49, 50, 51, 52, 54, 55, 56, 57, 58, 59, 60, 61, 62, 63, 64, 65, 66, 53] (by decide) rfl
      obtain ⟨hre, hae⟩ := law_eq hp531.1 hp535.1
      refine lv_icmp_eq (tgt := 649) hx hb d_Lw_law_538 (by decide) (fun _ => ?_) (fun hc => absurd hre hc)
      have hJ2 : fx_cr z535.1 z531.2 := by rw [← hae]; exact hp531.2
      have hI2 : fx_AI z535.1 := law_fi hp535.1 (fi_forget hI )
      refine lv_iinc (v := nI (i + 6)) (k := 4) hx hb d_Lw_law_649 hl rfl (fs_incN i 6) (by decide) (lv' := [(4, .int (nI (i + 6))), (0, .ref b), (1, .ref fs), (2, .ref mo), (3, .ref o)]) rfl (fun ls hl => ?_)
      refine lv_goto (tgt := 23) hx hb d_Lw_law_652 (by decide) ?_
      refine W.widen (k := 100 + (i + 6)) (n := 3000 + (i + 6)) (by omega) (by omega) ?_
      exact ih (i + 6) z535.1 z531.2 z535.2 k _ _ _ (by omega) (by omega) hI2 hJ2 hp535.2 hP hD hS (lv_sub hl [1, 2, 3, 4, 0] rfl)
    · refine lv_tableIn (off := 503) (tgt := 543) hx hb d_Lw_law_40 (by decide) (by decide) rfl (by decide) ?_
      refine lv_aload_n hx hb d_Lw_law_543 rfl (lv_at hl 1 rfl) ?_
      refine lv_aload_n hx hb d_Lw_law_544 rfl (lv_at hl 0 rfl) ?_
      refine lv_iload hx hb d_Lw_law_545 (lv_at hl 4 rfl) ?_
      refine lv_iconst (v := nI 1) hx hb d_Lw_law_547 (by decide) ?_
      refine lv_iadd hx hb d_Lw_law_548 ?_
      refine fs_eqi (nI_add _ _) ?_
      refine va_sld (b := b) hx hb hXs hbl hbA hS (vp_in_nI (by omega) (by omega)) d_Lw_law_549 ?_
      refine fs_eqi (v := xs (i + 1)) (by rw [nI_clamp (by omega)]) ?_
      refine lv_aload_n hx hb d_Lw_law_550 rfl (lv_at hl 0 rfl) ?_
      refine lv_iload hx hb d_Lw_law_551 (lv_at hl 4 rfl) ?_
      refine lv_iconst (v := nI 2) hx hb d_Lw_law_553 (by decide) ?_
      refine lv_iadd hx hb d_Lw_law_554 ?_
      refine fs_eqi (nI_add _ _) ?_
      refine va_sld (b := b) hx hb hXs hbl hbA hS (vp_in_nI (by omega) (by omega)) d_Lw_law_555 ?_
      refine fs_eqi (v := xs (i + 2)) (by rw [nI_clamp (by omega)]) ?_
      refine fs_calli (wc := XC cI cF fs u J) (wr := MC cI cZ mo v M ++ OC cJ o k) [0, 1, 2, 3, 4, 5, 6, 7, 8, 9, 10, 11, 12, 13, 14, 15, 16, 17, 18, 19, 20, 21, 22, 23, 24, 25, 26, 27, 28, 29, 30, 31, 32, 33, 34, 35, 36, 37, 38, 39, 40, 41, 42, 43, 44, 45, 46, 47, 48, 49, 50, 51, 52] [53, 54, 55, 56, 57, 58, 59, 60, 61, 62, 63, 64, 65, 66] hP hD hK hS hA rfl rfl rfl (by decide) (fun hPc hDc => va_runV (C := R_Fs) (As := [.int (xs (i + 1)), .int (xs (i + 2))]) (rest := []) ⟨hx, hb, hml, hown, hts⟩ (x_Fs_compile fs u A J (xs (i + 1)) (xs (i + 2)) _ hI hJ) (⟨callB_of 2 hts (fs_g kin_Fs_compile) rfl rfl rfl (hts _ wi_1) (hts _ wi_246) (by decide +kernel) ⟨Nat.le_of_ble_eq_true rfl, Nat.le_of_ble_eq_true rfl⟩, hts _ wi_247, hts _ wi_248⟩) (fs_preV (q0 := 0) rfl rfl hPc hK hDc) rfl rfl hl.1 rfl (lv_room (Nat.le_of_ble_eq_true rfl)) d_Lw_law_556 ⟨by show _ ≤ 601024; omega, by show _ ≤ 7293034; omega⟩) rfl (fun r556 z556 H locs hp556 hP hD hS => ?_)
      have hP : va_P (dC, dI) vwCl (XC cI cF fs u z556.2 ++ (MC cI cZ mo v M ++ OC cJ o k)) H := hP.sub [14, 15, 16, 17, 18, 19, 20, 21, 22, 23, 24, 25, 26, 27, 28, 29, 30, 31, 32, 33, 34, 35, 36, 37, 38, 39, 40, 41, 42, 43, 44, 45, 46, 47, 48, 49, 50, 51, 52, 53, 54, 55, 56, 57, 58, 59, 60, 61, 62, 63, 64, 65, 66, 0, 1, 2, 3, 4, 5, 6, 7, 8, 9, 10, 11, 12, 13] rfl
      have hD : va_D (fun q => s.heap.size ≤ q) (XC cI cF fs u z556.2 ++ (MC cI cZ mo v M ++ OC cJ o k)) := hD.sub [14, 15, 16, 17, 18, 19, 20, 21, 22, 23, 24, 25, 26, 27, 28, 29, 30, 31, 32, 33, 34, 35, 36, 37, 38, 39, 40, 41, 42, 43, 44, 45, 46, 47, 48, 49, 50, 51, 52, 53, 54, 55, 56, 57, 58, 59, 60, 61, 62, 63, 64, 65, 66, 0, 1, 2, 3, 4, 5, 6, 7, 8, 9, 10, 11, 12, 13] (by decide) rfl
      refine lv_aload_n hx hb d_Lw_law_559 rfl (lv_at hl 2 rfl) ?_
      refine lv_aload_n hx hb d_Lw_law_560 rfl (lv_at hl 0 rfl) ?_
      refine lv_iload hx hb d_Lw_law_561 (lv_at hl 4 rfl) ?_
      refine lv_iconst (v := nI 1) hx hb d_Lw_law_563 (by decide) ?_
      refine lv_iadd hx hb d_Lw_law_564 ?_
      refine fs_eqi (nI_add _ _) ?_
      refine va_sld (b := b) hx hb hXs hbl hbA hS (vp_in_nI (by omega) (by omega)) d_Lw_law_565 ?_
      refine fs_eqi (v := xs (i + 1)) (by rw [nI_clamp (by omega)]) ?_
      refine lv_aload_n hx hb d_Lw_law_566 rfl (lv_at hl 0 rfl) ?_
      refine lv_iload hx hb d_Lw_law_567 (lv_at hl 4 rfl) ?_
      refine lv_iconst (v := nI 2) hx hb d_Lw_law_569 (by decide) ?_
      refine lv_iadd hx hb d_Lw_law_570 ?_
      refine fs_eqi (nI_add _ _) ?_
      refine va_sld (b := b) hx hb hXs hbl hbA hS (vp_in_nI (by omega) (by omega)) d_Lw_law_571 ?_
      refine fs_eqi (v := xs (i + 2)) (by rw [nI_clamp (by omega)]) ?_
      refine fs_calli (wc := MC cI cZ mo v M) (wr := XC cI cF fs u z556.2 ++ OC cJ o k) [53, 54, 55, 56, 57, 58, 59, 60, 61, 62, 63, 64, 65] [0, 1, 2, 3, 4, 5, 6, 7, 8, 9, 10, 11, 12, 13, 14, 15, 16, 17, 18, 19, 20, 21, 22, 23, 24, 25, 26, 27, 28, 29, 30, 31, 32, 33, 34, 35, 36, 37, 38, 39, 40, 41, 42, 43, 44, 45, 46, 47, 48, 49, 50, 51, 52, 66] hP hD hK hS hA rfl rfl rfl (by decide) (fun hPc hDc => va_runV (C := R_Mo) (As := [.int (xs (i + 1)), .int (xs (i + 2))]) (rest := [.int r556]) ⟨hx, hb, hml, hown, hts⟩ (x_Mo_compile mo v A M (xs (i + 1)) (xs (i + 2)) _ hI hM) (⟨callB_of 2 hts (fs_g kin_Mo_compile) rfl rfl rfl (hts _ wi_6) (hts _ wi_569) (by decide +kernel) ⟨Nat.le_of_ble_eq_true rfl, Nat.le_of_ble_eq_true rfl⟩, hts _ wi_570, hts _ wi_571⟩) (fs_preV (q0 := 0) rfl rfl hPc hK hDc) rfl rfl hl.1 rfl (lv_room (Nat.le_of_ble_eq_true rfl)) d_Lw_law_572 ⟨by show _ ≤ 601024; omega, by show _ ≤ 7293034; omega⟩) rfl (fun r572 z572 H locs hp572 hP hD hS => ?_)
      have hP : va_P (dC, dI) vwCl (XC cI cF fs u z556.2 ++ (MC cI cZ mo v z572.2 ++ OC cJ o k)) H := hP.sub [0, 1, 2, 3, 4, 5, 6, 7, 8, 9, 10, 11, 12, 13, 14, 15, 16, 17, 18, 19, 20, 21, 22, 23, 24, 25, 26, 27, 28, 29, 30, 31, 32, 33, 34, 35, 36, 37, 38, 39, 40, 41, 42, 43, 44, 45, 46, 47, 48, 49, 50, 51, 52, 54, 55, 56, 57, 58, 59, 60, 61, 62, 63, 64, 65, 66, 53] rfl
      have hD : va_D (fun q => s.heap.size ≤ q) (XC cI cF fs u z556.2 ++ (MC cI cZ mo v z572.2 ++ OC cJ o k)) := hD.sub [0, 1, 2, 3, 4, 5, 6, 7, 8, 9, 10, 11, 12, 13, 14, 15, 16, 17, 18, 19, 20, 21, 22, 23, 24, 25, 26, 27, 28, 29, 30, 31, 32, 33, 34, 35, 36, 37, 38, 39, 40, 41, 42, 43, 44, 45, 46, 47, 48, 49, 50, 51, 52, 54, 55, 56, 57, 58, 59, 60, 61, 62, 63, 64, 65, 66, 53] (by decide) rfl
      obtain ⟨hre, hae⟩ := law_eq hp556.1 hp572.1
      refine lv_icmp_eq (tgt := 649) hx hb d_Lw_law_575 (by decide) (fun _ => ?_) (fun hc => absurd hre hc)
      have hJ2 : fx_cr z572.1 z556.2 := by rw [← hae]; exact hp556.2
      have hI2 : fx_AI z572.1 := law_fi hp572.1 (fi_compile hI (xs (i + 1)) (xs (i + 2)))
      refine lv_iinc (v := nI (i + 6)) (k := 4) hx hb d_Lw_law_649 hl rfl (fs_incN i 6) (by decide) (lv' := [(4, .int (nI (i + 6))), (0, .ref b), (1, .ref fs), (2, .ref mo), (3, .ref o)]) rfl (fun ls hl => ?_)
      refine lv_goto (tgt := 23) hx hb d_Lw_law_652 (by decide) ?_
      refine W.widen (k := 100 + (i + 6)) (n := 3000 + (i + 6)) (by omega) (by omega) ?_
      exact ih (i + 6) z572.1 z556.2 z572.2 k _ _ _ (by omega) (by omega) hI2 hJ2 hp572.2 hP hD hS (lv_sub hl [1, 2, 3, 4, 0] rfl)
    · refine lv_tableIn (off := 540) (tgt := 580) hx hb d_Lw_law_40 (by decide) (by decide) rfl (by decide) ?_
      refine lv_aload_n hx hb d_Lw_law_580 rfl (lv_at hl 1 rfl) ?_
      refine lv_aload_n hx hb d_Lw_law_581 rfl (lv_at hl 0 rfl) ?_
      refine lv_iload hx hb d_Lw_law_582 (lv_at hl 4 rfl) ?_
      refine lv_iconst (v := nI 1) hx hb d_Lw_law_584 (by decide) ?_
      refine lv_iadd hx hb d_Lw_law_585 ?_
      refine fs_eqi (nI_add _ _) ?_
      refine va_sld (b := b) hx hb hXs hbl hbA hS (vp_in_nI (by omega) (by omega)) d_Lw_law_586 ?_
      refine fs_eqi (v := xs (i + 1)) (by rw [nI_clamp (by omega)]) ?_
      refine lv_aload_n hx hb d_Lw_law_587 rfl (lv_at hl 3 rfl) ?_
      refine fs_calli (wc := XC cI cF fs u J ++ OC cJ o k) (wr := MC cI cZ mo v M) [0, 1, 2, 3, 4, 5, 6, 7, 8, 9, 10, 11, 12, 13, 14, 15, 16, 17, 18, 19, 20, 21, 22, 23, 24, 25, 26, 27, 28, 29, 30, 31, 32, 33, 34, 35, 36, 37, 38, 39, 40, 41, 42, 43, 44, 45, 46, 47, 48, 49, 50, 51, 52, 66] [53, 54, 55, 56, 57, 58, 59, 60, 61, 62, 63, 64, 65] hP hD hK hS hA rfl rfl rfl (by decide) (fun hPc hDc => th_runS (As := [.ref fs, .int (xs (i + 1)), .ref o]) (rest := []) ⟨hx, hb, hml, hown, hts⟩ (x_Lw_install fs u A J o k (xs (i + 1)) _ s #[Value.ref b] htr hk0 (fun q h => va_free (wc := XC cI cF fs u J ++ OC cJ o k) hD hS hA [0, 1, 2, 3, 4, 5, 6, 7, 8, 9, 10, 11, 12, 13, 14, 15, 16, 17, 18, 19, 20, 21, 22, 23, 24, 25, 26, 27, 28, 29, 30, 31, 32, 33, 34, 35, 36, 37, 38, 39, 40, 41, 42, 43, 44, 45, 46, 47, 48, 49, 50, 51, 52, 66] rfl q h) hI hJ) rfl rfl (Nat.le_of_ble_eq_true rfl) (Nat.le_of_ble_eq_true rfl) (law_ws wi_396 hts) (hts _ wi_396) (hts _ wi_0) (by decide +kernel) rfl (hts _ wi_394) (hts _ wi_395) (th_preS (fun U hU hW => th_Xgo hX0 hS (fun q h => h) hW hU) hPc hK hDc) rfl rfl hl.1 rfl (lv_room (Nat.le_of_ble_eq_true rfl)) d_Lw_law_588 ⟨by show _ ≤ 601024; omega, by show _ ≤ 7293034; omega⟩) rfl (fun r588 z588 H locs hp588 hP hD hS => ?_)
      have hP : va_P (dC, dI) vwCl (XC cI cF fs u z588.2.1 ++ (MC cI cZ mo v M ++ OC cJ o z588.2.2)) H := hP.sub [13, 14, 15, 16, 17, 18, 19, 20, 21, 22, 23, 24, 25, 26, 27, 28, 29, 30, 31, 32, 33, 34, 35, 36, 37, 38, 39, 40, 41, 42, 43, 44, 45, 46, 47, 48, 49, 50, 51, 52, 53, 54, 55, 56, 57, 58, 59, 60, 61, 62, 63, 64, 65, 0, 1, 2, 3, 4, 5, 6, 7, 8, 9, 10, 11, 12, 66] rfl
      have hD : va_D (fun q => s.heap.size ≤ q) (XC cI cF fs u z588.2.1 ++ (MC cI cZ mo v M ++ OC cJ o z588.2.2)) := hD.sub [13, 14, 15, 16, 17, 18, 19, 20, 21, 22, 23, 24, 25, 26, 27, 28, 29, 30, 31, 32, 33, 34, 35, 36, 37, 38, 39, 40, 41, 42, 43, 44, 45, 46, 47, 48, 49, 50, 51, 52, 53, 54, 55, 56, 57, 58, 59, 60, 61, 62, 63, 64, 65, 0, 1, 2, 3, 4, 5, 6, 7, 8, 9, 10, 11, 12, 66] (by decide) rfl
      refine lv_istore hx hb d_Lw_law_591 hl (by decide) (lv' := [(5, .int r588), (0, .ref b), (1, .ref fs), (2, .ref mo), (3, .ref o), (4, .int (nI i))]) rfl (fun ls hl => ?_)
      refine lv_aload_n hx hb d_Lw_law_593 rfl (lv_at hl 3 rfl) ?_
      refine lv_aload_n hx hb d_Lw_law_594 rfl (lv_at hl 1 rfl) ?_
      refine lv_iload hx hb d_Lw_law_595 (lv_at hl 5 rfl) ?_
      refine lv_iconst (v := nI 1) hx hb d_Lw_law_597 (by decide) ?_
      refine lv_iadd hx hb d_Lw_law_598 ?_
      refine fs_eqi (nI_add _ _) ?_
      refine va_sld (b := b) hx hb hXs hbl hbA hS (vp_in_nI (by omega) (by omega)) d_Lw_law_599 ?_
      refine fs_eqi (v := xs (i + 1)) (by rw [nI_clamp (by omega)]) ?_
      refine fs_calli (wc := MC cI cZ mo v M) (wr := XC cI cF fs u z588.2.1 ++ OC cJ o z588.2.2) [53, 54, 55, 56, 57, 58, 59, 60, 61, 62, 63, 64, 65] [0, 1, 2, 3, 4, 5, 6, 7, 8, 9, 10, 11, 12, 13, 14, 15, 16, 17, 18, 19, 20, 21, 22, 23, 24, 25, 26, 27, 28, 29, 30, 31, 32, 33, 34, 35, 36, 37, 38, 39, 40, 41, 42, 43, 44, 45, 46, 47, 48, 49, 50, 51, 52, 66] hP hD hK hS hA rfl rfl rfl (by decide) (fun hPc hDc => va_runV (C := R_Mo) (As := [.int (xs (i + 1))]) (rest := []) ⟨hx, hb, hml, hown, hts⟩ (x_Mo_install mo v A M (xs (i + 1)) _ hI hM) (⟨callB_of 1 hts (fs_g kin_Mo_install) rfl rfl rfl (hts _ wi_6) (hts _ wi_574) (by decide +kernel) ⟨Nat.le_of_ble_eq_true rfl, Nat.le_of_ble_eq_true rfl⟩, hts _ wi_575, hts _ wi_576⟩) (fs_preV (q0 := 0) rfl rfl hPc hK hDc) rfl rfl hl.1 rfl (lv_room (Nat.le_of_ble_eq_true rfl)) d_Lw_law_600 ⟨by show _ ≤ 601024; omega, by show _ ≤ 7293034; omega⟩) rfl (fun r600 z600 H locs hp600 hP hD hS => ?_)
      have hP : va_P (dC, dI) vwCl (XC cI cF fs u z588.2.1 ++ (MC cI cZ mo v z600.2 ++ OC cJ o z588.2.2)) H := hP.sub [0, 1, 2, 3, 4, 5, 6, 7, 8, 9, 10, 11, 12, 13, 14, 15, 16, 17, 18, 19, 20, 21, 22, 23, 24, 25, 26, 27, 28, 29, 30, 31, 32, 33, 34, 35, 36, 37, 38, 39, 40, 41, 42, 43, 44, 45, 46, 47, 48, 49, 50, 51, 52, 54, 55, 56, 57, 58, 59, 60, 61, 62, 63, 64, 65, 66, 53] rfl
      have hD : va_D (fun q => s.heap.size ≤ q) (XC cI cF fs u z588.2.1 ++ (MC cI cZ mo v z600.2 ++ OC cJ o z588.2.2)) := hD.sub [0, 1, 2, 3, 4, 5, 6, 7, 8, 9, 10, 11, 12, 13, 14, 15, 16, 17, 18, 19, 20, 21, 22, 23, 24, 25, 26, 27, 28, 29, 30, 31, 32, 33, 34, 35, 36, 37, 38, 39, 40, 41, 42, 43, 44, 45, 46, 47, 48, 49, 50, 51, 52, 54, 55, 56, 57, 58, 59, 60, 61, 62, 63, 64, 65, 66, 53] (by decide) rfl
      have hI3 : fx_AI z600.1 := by rw [hp600.2.2.1]; exact fi_install hI (xs (i + 1))
      refine lv_istore hx hb d_Lw_law_603 hl (by decide) (lv' := [(6, .int r600), (5, .int r588), (0, .ref b), (1, .ref fs), (2, .ref mo), (3, .ref o), (4, .int (nI i))]) rfl (fun ls hl => ?_)
      refine lv_aload_n hx hb d_Lw_law_605 rfl (lv_at hl 4 rfl) ?_
      refine fs_calli (wc := MC cI cZ mo v z600.2) (wr := XC cI cF fs u z588.2.1 ++ OC cJ o z588.2.2) [53, 54, 55, 56, 57, 58, 59, 60, 61, 62, 63, 64, 65] [0, 1, 2, 3, 4, 5, 6, 7, 8, 9, 10, 11, 12, 13, 14, 15, 16, 17, 18, 19, 20, 21, 22, 23, 24, 25, 26, 27, 28, 29, 30, 31, 32, 33, 34, 35, 36, 37, 38, 39, 40, 41, 42, 43, 44, 45, 46, 47, 48, 49, 50, 51, 52, 66] hP hD hK hS hA rfl rfl rfl (by decide) (fun hPc hDc => va_runV (C := R_Mo) (As := []) (rest := []) ⟨hx, hb, hml, hown, hts⟩ (x_Mo_thrown mo v z600.1 z600.2  _ hI3 hp600.2.2.2) (⟨callB_of 0 hts (fs_g kin_Mo_thrown) rfl rfl rfl (hts _ wi_6) (hts _ wi_480) (by decide +kernel) ⟨Nat.le_of_ble_eq_true rfl, Nat.le_of_ble_eq_true rfl⟩, hts _ wi_481, hts _ wi_482⟩) (fs_preV (q0 := 0) rfl rfl hPc hK hDc) rfl rfl hl.1 rfl (lv_room (Nat.le_of_ble_eq_true rfl)) d_Lw_law_606 ⟨by show _ ≤ 601024; omega, by show _ ≤ 7293034; omega⟩) rfl (fun r606 z606 H locs hp606 hP hD hS => ?_)
      obtain ⟨hq606, rfl⟩ := hp606
      have hP : va_P (dC, dI) vwCl (XC cI cF fs u z588.2.1 ++ (MC cI cZ mo v z600.2 ++ OC cJ o z588.2.2)) H := hP.sub [0, 1, 2, 3, 4, 5, 6, 7, 8, 9, 10, 11, 12, 13, 14, 15, 16, 17, 18, 19, 20, 21, 22, 23, 24, 25, 26, 27, 28, 29, 30, 31, 32, 33, 34, 35, 36, 37, 38, 39, 40, 41, 42, 43, 44, 45, 46, 47, 48, 49, 50, 51, 52, 54, 55, 56, 57, 58, 59, 60, 61, 62, 63, 64, 65, 66, 53] rfl
      have hD : va_D (fun q => s.heap.size ≤ q) (XC cI cF fs u z588.2.1 ++ (MC cI cZ mo v z600.2 ++ OC cJ o z588.2.2)) := hD.sub [0, 1, 2, 3, 4, 5, 6, 7, 8, 9, 10, 11, 12, 13, 14, 15, 16, 17, 18, 19, 20, 21, 22, 23, 24, 25, 26, 27, 28, 29, 30, 31, 32, 33, 34, 35, 36, 37, 38, 39, 40, 41, 42, 43, 44, 45, 46, 47, 48, 49, 50, 51, 52, 54, 55, 56, 57, 58, 59, 60, 61, 62, 63, 64, 65, 66, 53] (by decide) rfl
      refine lv_iload hx hb d_Lw_law_609 (lv_at hl 1 rfl) ?_
      have hth : r606 = r588 := by rw [hq606, hp600.2.1, hp588.1]
      refine lv_icmp_eq (tgt := 616) hx hb d_Lw_law_611 (by decide) (fun _ => ?_) (fun hc => absurd hth hc)
      have hae : z588.1 = z600.1 := by rw [hp588.2.1, hp600.2.2.1]
      have hJ2 : fx_cr z600.1 z588.2.1 := by rw [← hae]; exact hp588.2.2.1
      have hI2 : fx_AI z600.1 := by rw [hp600.2.2.1]; exact fi_install hI (xs (i + 1))
      refine lv_iload hx hb d_Lw_law_616 (lv_at hl 1 rfl) ?_
      refine lv_if_ne (tgt := 633) hx hb d_Lw_law_618 (by decide) (fun _ => ?_) (fun hc0 => ?_)
      · refine lv_goto (tgt := 649) hx hb d_Lw_law_633 (by decide) ?_
        refine lv_iinc (v := nI (i + 6)) (k := 6) hx hb d_Lw_law_649 hl rfl (fs_incN i 6) (by decide) (lv' := [(4, .int (nI (i + 6))), (6, .int r600), (5, .int r588), (0, .ref b), (1, .ref fs), (2, .ref mo), (3, .ref o)]) rfl (fun ls hl => ?_)
        refine lv_goto (tgt := 23) hx hb d_Lw_law_652 (by decide) ?_
        refine W.widen (k := 100 + (i + 6)) (n := 3000 + (i + 6)) (by omega) (by omega) ?_
        exact ih (i + 6) z600.1 z588.2.1 z600.2 z588.2.2 _ _ _ (by omega) (by omega) hI2 hJ2 hp600.2.2.2 hP hD hS (lv_sub hl [3, 4, 5, 6, 0] rfl)
      refine lv_aload_n hx hb d_Lw_law_621 rfl (lv_at hl 5 rfl) ?_
      refine lv_iconst (v := nI 0) hx hb d_Lw_law_622 (by decide) ?_
      refine va_lald (a := o) hx hb hK hP 66 2 rfl rfl (vp_in_nI (by decide) (by decide)) d_Lw_law_623 ?_
      refine fs_eql (v := r600.toInt64) (by rw [show (nI 0).toNatClampNeg = 0 from by decide, hp588.2.2.2 (by rw [← hp588.1, nI_0]; exact hc0), hp600.1]) ?_
      refine lv_iload hx hb d_Lw_law_624 (lv_at hl 0 rfl) ?_
      refine lv_i2l hx hb d_Lw_law_626 rfl ?_
      refine W.lcmp hx hb d_Lw_law_627 ?_
      refine lv_if_eq (tgt := 633) hx hb d_Lw_law_628 (by decide) (fun _ => ?_) (fun hc => absurd (law_cmp _) hc)
      refine lv_goto (tgt := 649) hx hb d_Lw_law_633 (by decide) ?_
      refine lv_iinc (v := nI (i + 6)) (k := 6) hx hb d_Lw_law_649 hl rfl (fs_incN i 6) (by decide) (lv' := [(4, .int (nI (i + 6))), (6, .int r600), (5, .int r588), (0, .ref b), (1, .ref fs), (2, .ref mo), (3, .ref o)]) rfl (fun ls hl => ?_)
      refine lv_goto (tgt := 23) hx hb d_Lw_law_652 (by decide) ?_
      refine W.widen (k := 100 + (i + 6)) (n := 3000 + (i + 6)) (by omega) (by omega) ?_
      exact ih (i + 6) z600.1 z588.2.1 z600.2 z588.2.2 _ _ _ (by omega) (by omega) hI2 hJ2 hp600.2.2.2 hP hD hS (lv_sub hl [3, 4, 5, 6, 0] rfl)
    · refine lv_tableIn (off := 596) (tgt := 636) hx hb d_Lw_law_40 (by decide) (by decide) rfl (by decide) ?_
      refine lv_aload_n hx hb d_Lw_law_636 rfl (lv_at hl 1 rfl) ?_
      refine fs_calli (wc := XC cI cF fs u J) (wr := MC cI cZ mo v M ++ OC cJ o k) [0, 1, 2, 3, 4, 5, 6, 7, 8, 9, 10, 11, 12, 13, 14, 15, 16, 17, 18, 19, 20, 21, 22, 23, 24, 25, 26, 27, 28, 29, 30, 31, 32, 33, 34, 35, 36, 37, 38, 39, 40, 41, 42, 43, 44, 45, 46, 47, 48, 49, 50, 51, 52] [53, 54, 55, 56, 57, 58, 59, 60, 61, 62, 63, 64, 65, 66] hP hD hK hS hA rfl rfl rfl (by decide) (fun hPc hDc => va_runV (C := R_Fs) (As := []) (rest := []) ⟨hx, hb, hml, hown, hts⟩ (x_Fs_judge fs u A J  _ hI hJ) (⟨callB_of 0 hts (fs_g kin_Fs_judge) rfl rfl rfl (hts _ wi_1) (hts _ wi_269) (by decide +kernel) ⟨Nat.le_of_ble_eq_true rfl, Nat.le_of_ble_eq_true rfl⟩, hts _ wi_270, hts _ wi_271⟩) (fs_preV (q0 := 0) rfl rfl hPc hK hDc) rfl rfl hl.1 rfl (lv_room (Nat.le_of_ble_eq_true rfl)) d_Lw_law_637 ⟨by show _ ≤ 601024; omega, by show _ ≤ 7293034; omega⟩) rfl (fun r637 z637 H locs hp637 hP hD hS => ?_)
      have hP : va_P (dC, dI) vwCl (XC cI cF fs u z637.2 ++ (MC cI cZ mo v M ++ OC cJ o k)) H := hP.sub [14, 15, 16, 17, 18, 19, 20, 21, 22, 23, 24, 25, 26, 27, 28, 29, 30, 31, 32, 33, 34, 35, 36, 37, 38, 39, 40, 41, 42, 43, 44, 45, 46, 47, 48, 49, 50, 51, 52, 53, 54, 55, 56, 57, 58, 59, 60, 61, 62, 63, 64, 65, 66, 0, 1, 2, 3, 4, 5, 6, 7, 8, 9, 10, 11, 12, 13] rfl
      have hD : va_D (fun q => s.heap.size ≤ q) (XC cI cF fs u z637.2 ++ (MC cI cZ mo v M ++ OC cJ o k)) := hD.sub [14, 15, 16, 17, 18, 19, 20, 21, 22, 23, 24, 25, 26, 27, 28, 29, 30, 31, 32, 33, 34, 35, 36, 37, 38, 39, 40, 41, 42, 43, 44, 45, 46, 47, 48, 49, 50, 51, 52, 53, 54, 55, 56, 57, 58, 59, 60, 61, 62, 63, 64, 65, 66, 0, 1, 2, 3, 4, 5, 6, 7, 8, 9, 10, 11, 12, 13] (by decide) rfl
      refine lv_aload_n hx hb d_Lw_law_640 rfl (lv_at hl 2 rfl) ?_
      refine fs_calli (wc := MC cI cZ mo v M) (wr := XC cI cF fs u z637.2 ++ OC cJ o k) [53, 54, 55, 56, 57, 58, 59, 60, 61, 62, 63, 64, 65] [0, 1, 2, 3, 4, 5, 6, 7, 8, 9, 10, 11, 12, 13, 14, 15, 16, 17, 18, 19, 20, 21, 22, 23, 24, 25, 26, 27, 28, 29, 30, 31, 32, 33, 34, 35, 36, 37, 38, 39, 40, 41, 42, 43, 44, 45, 46, 47, 48, 49, 50, 51, 52, 66] hP hD hK hS hA rfl rfl rfl (by decide) (fun hPc hDc => va_runV (C := R_Mo) (As := []) (rest := [.int r637]) ⟨hx, hb, hml, hown, hts⟩ (x_Mo_judge mo v A M  _ hI hM) (⟨callB_of 0 hts (fs_g kin_Mo_judge) rfl rfl rfl (hts _ wi_6) (hts _ wi_578) (by decide +kernel) ⟨Nat.le_of_ble_eq_true rfl, Nat.le_of_ble_eq_true rfl⟩, hts _ wi_579, hts _ wi_580⟩) (fs_preV (q0 := 0) rfl rfl hPc hK hDc) rfl rfl hl.1 rfl (lv_room (Nat.le_of_ble_eq_true rfl)) d_Lw_law_641 ⟨by show _ ≤ 601024; omega, by show _ ≤ 7293034; omega⟩) rfl (fun r641 z641 H locs hp641 hP hD hS => ?_)
      have hP : va_P (dC, dI) vwCl (XC cI cF fs u z637.2 ++ (MC cI cZ mo v z641.2 ++ OC cJ o k)) H := hP.sub [0, 1, 2, 3, 4, 5, 6, 7, 8, 9, 10, 11, 12, 13, 14, 15, 16, 17, 18, 19, 20, 21, 22, 23, 24, 25, 26, 27, 28, 29, 30, 31, 32, 33, 34, 35, 36, 37, 38, 39, 40, 41, 42, 43, 44, 45, 46, 47, 48, 49, 50, 51, 52, 54, 55, 56, 57, 58, 59, 60, 61, 62, 63, 64, 65, 66, 53] rfl
      have hD : va_D (fun q => s.heap.size ≤ q) (XC cI cF fs u z637.2 ++ (MC cI cZ mo v z641.2 ++ OC cJ o k)) := hD.sub [0, 1, 2, 3, 4, 5, 6, 7, 8, 9, 10, 11, 12, 13, 14, 15, 16, 17, 18, 19, 20, 21, 22, 23, 24, 25, 26, 27, 28, 29, 30, 31, 32, 33, 34, 35, 36, 37, 38, 39, 40, 41, 42, 43, 44, 45, 46, 47, 48, 49, 50, 51, 52, 54, 55, 56, 57, 58, 59, 60, 61, 62, 63, 64, 65, 66, 53] (by decide) rfl
      obtain ⟨hre, hae⟩ := law_eq hp637.1 hp641.1
      refine lv_icmp_eq (tgt := 649) hx hb d_Lw_law_644 (by decide) (fun _ => ?_) (fun hc => absurd hre hc)
      have hJ2 : fx_cr z641.1 z637.2 := by rw [← hae]; exact hp637.2
      have hI2 : fx_AI z641.1 := law_fi hp641.1 (fi_judge hI )
      refine lv_iinc (v := nI (i + 6)) (k := 4) hx hb d_Lw_law_649 hl rfl (fs_incN i 6) (by decide) (lv' := [(4, .int (nI (i + 6))), (0, .ref b), (1, .ref fs), (2, .ref mo), (3, .ref o)]) rfl (fun ls hl => ?_)
      refine lv_goto (tgt := 23) hx hb d_Lw_law_652 (by decide) ?_
      refine W.widen (k := 100 + (i + 6)) (n := 3000 + (i + 6)) (by omega) (by omega) ?_
      exact ih (i + 6) z641.1 z637.2 z641.2 k _ _ _ (by omega) (by omega) hI2 hJ2 hp641.2 hP hD hS (lv_sub hl [1, 2, 3, 4, 0] rfl)
    · refine lv_tableOut (tgt := 649) hx hb d_Lw_law_40 (by decide) (by decide) ?_
      refine lv_iinc (v := nI (i + 6)) (k := 4) hx hb d_Lw_law_649 hl rfl (fs_incN i 6) (by decide) (lv' := [(4, .int (nI (i + 6))), (0, .ref b), (1, .ref fs), (2, .ref mo), (3, .ref o)]) rfl (fun ls hl => ?_)
      refine lv_goto (tgt := 23) hx hb d_Lw_law_652 (by decide) ?_
      refine W.widen (k := 100 + (i + 6)) (n := 3000 + (i + 6)) (by omega) (by omega) ?_
      exact ih (i + 6) A J M k _ _ _ (by omega) (by omega) hI hJ hM hP hD hS (lv_sub hl [1, 2, 3, 4, 0] rfl)
