theorem d_La_law_0 : decode b_La_law_c 0 = .ok (.new 7, 3) := by decide +kernel
theorem d_La_law_3 : decode b_La_law_c 3 = .ok (.dup, 1) := by decide +kernel
theorem d_La_law_4 : decode b_La_law_c 4 = .ok (.invokespecial 9, 3) := by decide +kernel
theorem d_La_law_7 : decode b_La_law_c 7 = .ok (.astore_n 1, 1) := by decide +kernel
theorem d_La_law_8 : decode b_La_law_c 8 = .ok (.new 10, 3) := by decide +kernel
theorem d_La_law_11 : decode b_La_law_c 11 = .ok (.dup, 1) := by decide +kernel
theorem d_La_law_12 : decode b_La_law_c 12 = .ok (.invokespecial 12, 3) := by decide +kernel
theorem d_La_law_15 : decode b_La_law_c 15 = .ok (.astore_n 2, 1) := by decide +kernel
theorem d_La_law_16 : decode b_La_law_c 16 = .ok (.iconst 0, 1) := by decide +kernel
theorem d_La_law_17 : decode b_La_law_c 17 = .ok (.istore_n 3, 1) := by decide +kernel
theorem d_La_law_18 : decode b_La_law_c 18 = .ok (.iload_n 3, 1) := by decide +kernel
theorem d_La_law_19 : decode b_La_law_c 19 = .ok (.aload_n 0, 1) := by decide +kernel
theorem d_La_law_20 : decode b_La_law_c 20 = .ok (.arraylength, 1) := by decide +kernel
theorem d_La_law_21 : decode b_La_law_c 21 = .ok (.iconst 5, 1) := by decide +kernel
theorem d_La_law_22 : decode b_La_law_c 22 = .ok (.isub, 1) := by decide +kernel
theorem d_La_law_23 : decode b_La_law_c 23 = .ok (.if_icmp .gt 723, 3) := by decide +kernel
theorem d_La_law_26 : decode b_La_law_c 26 = .ok (.aload_n 0, 1) := by decide +kernel
theorem d_La_law_27 : decode b_La_law_c 27 = .ok (.iload_n 3, 1) := by decide +kernel
theorem d_La_law_28 : decode b_La_law_c 28 = .ok (.iaload, 1) := by decide +kernel
theorem d_La_law_29 : decode b_La_law_c 29 = .ok (.bipush 31, 2) := by decide +kernel
theorem d_La_law_31 : decode b_La_law_c 31 = .ok (.iand, 1) := by decide +kernel
theorem d_La_law_32 : decode b_La_law_c 32 = .ok (.tableswitch 708 0 17 #[88, 101, 134, 167, 210, 263, 286, 319, 362, 405, 438, 487, 510, 553, 586, 609, 632, 675], 88) := by decide +kernel
theorem d_La_law_120 : decode b_La_law_c 120 = .ok (.aload_n 1, 1) := by decide +kernel
theorem d_La_law_121 : decode b_La_law_c 121 = .ok (.invokevirtual 13, 3) := by decide +kernel
theorem d_La_law_124 : decode b_La_law_c 124 = .ok (.aload_n 2, 1) := by decide +kernel
theorem d_La_law_125 : decode b_La_law_c 125 = .ok (.invokevirtual 17, 3) := by decide +kernel
theorem d_La_law_128 : decode b_La_law_c 128 = .ok (.if_icmp .eq 612, 3) := by decide +kernel
theorem d_La_law_131 : decode b_La_law_c 131 = .ok (.iconst 0, 1) := by decide +kernel
theorem d_La_law_132 : decode b_La_law_c 132 = .ok (.ireturn, 1) := by decide +kernel
theorem d_La_law_133 : decode b_La_law_c 133 = .ok (.aload_n 1, 1) := by decide +kernel
theorem d_La_law_134 : decode b_La_law_c 134 = .ok (.aload_n 0, 1) := by decide +kernel
theorem d_La_law_135 : decode b_La_law_c 135 = .ok (.iload_n 3, 1) := by decide +kernel
theorem d_La_law_136 : decode b_La_law_c 136 = .ok (.iconst 1, 1) := by decide +kernel
theorem d_La_law_137 : decode b_La_law_c 137 = .ok (.iadd, 1) := by decide +kernel
theorem d_La_law_138 : decode b_La_law_c 138 = .ok (.iaload, 1) := by decide +kernel
theorem d_La_law_139 : decode b_La_law_c 139 = .ok (.aload_n 0, 1) := by decide +kernel
theorem d_La_law_140 : decode b_La_law_c 140 = .ok (.iload_n 3, 1) := by decide +kernel
theorem d_La_law_141 : decode b_La_law_c 141 = .ok (.iconst 2, 1) := by decide +kernel
theorem d_La_law_142 : decode b_La_law_c 142 = .ok (.iadd, 1) := by decide +kernel
theorem d_La_law_143 : decode b_La_law_c 143 = .ok (.iaload, 1) := by decide +kernel
theorem d_La_law_144 : decode b_La_law_c 144 = .ok (.invokevirtual 18, 3) := by decide +kernel
theorem d_La_law_147 : decode b_La_law_c 147 = .ok (.aload_n 2, 1) := by decide +kernel
theorem d_La_law_148 : decode b_La_law_c 148 = .ok (.aload_n 0, 1) := by decide +kernel
theorem d_La_law_149 : decode b_La_law_c 149 = .ok (.iload_n 3, 1) := by decide +kernel
theorem d_La_law_150 : decode b_La_law_c 150 = .ok (.iconst 1, 1) := by decide +kernel
theorem d_La_law_151 : decode b_La_law_c 151 = .ok (.iadd, 1) := by decide +kernel
theorem d_La_law_152 : decode b_La_law_c 152 = .ok (.iaload, 1) := by decide +kernel
theorem d_La_law_153 : decode b_La_law_c 153 = .ok (.aload_n 0, 1) := by decide +kernel
theorem d_La_law_154 : decode b_La_law_c 154 = .ok (.iload_n 3, 1) := by decide +kernel
theorem d_La_law_155 : decode b_La_law_c 155 = .ok (.iconst 2, 1) := by decide +kernel
theorem d_La_law_156 : decode b_La_law_c 156 = .ok (.iadd, 1) := by decide +kernel
theorem d_La_law_157 : decode b_La_law_c 157 = .ok (.iaload, 1) := by decide +kernel
theorem d_La_law_158 : decode b_La_law_c 158 = .ok (.invokevirtual 22, 3) := by decide +kernel
theorem d_La_law_161 : decode b_La_law_c 161 = .ok (.if_icmp .eq 579, 3) := by decide +kernel
theorem d_La_law_164 : decode b_La_law_c 164 = .ok (.iconst 0, 1) := by decide +kernel
theorem d_La_law_165 : decode b_La_law_c 165 = .ok (.ireturn, 1) := by decide +kernel
theorem d_La_law_166 : decode b_La_law_c 166 = .ok (.aload_n 1, 1) := by decide +kernel
theorem d_La_law_167 : decode b_La_law_c 167 = .ok (.aload_n 0, 1) := by decide +kernel
theorem d_La_law_168 : decode b_La_law_c 168 = .ok (.iload_n 3, 1) := by decide +kernel
theorem d_La_law_169 : decode b_La_law_c 169 = .ok (.iconst 1, 1) := by decide +kernel
theorem d_La_law_170 : decode b_La_law_c 170 = .ok (.iadd, 1) := by decide +kernel
theorem d_La_law_171 : decode b_La_law_c 171 = .ok (.iaload, 1) := by decide +kernel
theorem d_La_law_172 : decode b_La_law_c 172 = .ok (.aload_n 0, 1) := by decide +kernel
theorem d_La_law_173 : decode b_La_law_c 173 = .ok (.iload_n 3, 1) := by decide +kernel
theorem d_La_law_174 : decode b_La_law_c 174 = .ok (.iconst 2, 1) := by decide +kernel
theorem d_La_law_175 : decode b_La_law_c 175 = .ok (.iadd, 1) := by decide +kernel
theorem d_La_law_176 : decode b_La_law_c 176 = .ok (.iaload, 1) := by decide +kernel
theorem d_La_law_177 : decode b_La_law_c 177 = .ok (.invokevirtual 23, 3) := by decide +kernel
theorem d_La_law_180 : decode b_La_law_c 180 = .ok (.aload_n 2, 1) := by decide +kernel
theorem d_La_law_181 : decode b_La_law_c 181 = .ok (.aload_n 0, 1) := by decide +kernel
theorem d_La_law_182 : decode b_La_law_c 182 = .ok (.iload_n 3, 1) := by decide +kernel
theorem d_La_law_183 : decode b_La_law_c 183 = .ok (.iconst 1, 1) := by decide +kernel
theorem d_La_law_184 : decode b_La_law_c 184 = .ok (.iadd, 1) := by decide +kernel
theorem d_La_law_185 : decode b_La_law_c 185 = .ok (.iaload, 1) := by decide +kernel
theorem d_La_law_186 : decode b_La_law_c 186 = .ok (.aload_n 0, 1) := by decide +kernel
theorem d_La_law_187 : decode b_La_law_c 187 = .ok (.iload_n 3, 1) := by decide +kernel
theorem d_La_law_188 : decode b_La_law_c 188 = .ok (.iconst 2, 1) := by decide +kernel
theorem d_La_law_189 : decode b_La_law_c 189 = .ok (.iadd, 1) := by decide +kernel
theorem d_La_law_190 : decode b_La_law_c 190 = .ok (.iaload, 1) := by decide +kernel
theorem d_La_law_191 : decode b_La_law_c 191 = .ok (.invokevirtual 26, 3) := by decide +kernel
theorem d_La_law_194 : decode b_La_law_c 194 = .ok (.if_icmp .eq 546, 3) := by decide +kernel
theorem d_La_law_197 : decode b_La_law_c 197 = .ok (.iconst 0, 1) := by decide +kernel
theorem d_La_law_198 : decode b_La_law_c 198 = .ok (.ireturn, 1) := by decide +kernel
theorem d_La_law_199 : decode b_La_law_c 199 = .ok (.aload_n 1, 1) := by decide +kernel
theorem d_La_law_200 : decode b_La_law_c 200 = .ok (.aload_n 0, 1) := by decide +kernel
theorem d_La_law_201 : decode b_La_law_c 201 = .ok (.iload_n 3, 1) := by decide +kernel
theorem d_La_law_202 : decode b_La_law_c 202 = .ok (.iconst 1, 1) := by decide +kernel
theorem d_La_law_203 : decode b_La_law_c 203 = .ok (.iadd, 1) := by decide +kernel
theorem d_La_law_204 : decode b_La_law_c 204 = .ok (.iaload, 1) := by decide +kernel
theorem d_La_law_205 : decode b_La_law_c 205 = .ok (.aload_n 0, 1) := by decide +kernel
theorem d_La_law_206 : decode b_La_law_c 206 = .ok (.iload_n 3, 1) := by decide +kernel
theorem d_La_law_207 : decode b_La_law_c 207 = .ok (.iconst 2, 1) := by decide +kernel
theorem d_La_law_208 : decode b_La_law_c 208 = .ok (.iadd, 1) := by decide +kernel
theorem d_La_law_209 : decode b_La_law_c 209 = .ok (.iaload, 1) := by decide +kernel
theorem d_La_law_210 : decode b_La_law_c 210 = .ok (.aload_n 0, 1) := by decide +kernel
theorem d_La_law_211 : decode b_La_law_c 211 = .ok (.iload_n 3, 1) := by decide +kernel
theorem d_La_law_212 : decode b_La_law_c 212 = .ok (.iconst 3, 1) := by decide +kernel
theorem d_La_law_213 : decode b_La_law_c 213 = .ok (.iadd, 1) := by decide +kernel
theorem d_La_law_214 : decode b_La_law_c 214 = .ok (.iaload, 1) := by decide +kernel
theorem d_La_law_215 : decode b_La_law_c 215 = .ok (.invokevirtual 27, 3) := by decide +kernel
theorem d_La_law_218 : decode b_La_law_c 218 = .ok (.aload_n 2, 1) := by decide +kernel
theorem d_La_law_219 : decode b_La_law_c 219 = .ok (.aload_n 0, 1) := by decide +kernel
theorem d_La_law_220 : decode b_La_law_c 220 = .ok (.iload_n 3, 1) := by decide +kernel
theorem d_La_law_221 : decode b_La_law_c 221 = .ok (.iconst 1, 1) := by decide +kernel
theorem d_La_law_222 : decode b_La_law_c 222 = .ok (.iadd, 1) := by decide +kernel
theorem d_La_law_223 : decode b_La_law_c 223 = .ok (.iaload, 1) := by decide +kernel
theorem d_La_law_224 : decode b_La_law_c 224 = .ok (.aload_n 0, 1) := by decide +kernel
theorem d_La_law_225 : decode b_La_law_c 225 = .ok (.iload_n 3, 1) := by decide +kernel
theorem d_La_law_226 : decode b_La_law_c 226 = .ok (.iconst 2, 1) := by decide +kernel
theorem d_La_law_227 : decode b_La_law_c 227 = .ok (.iadd, 1) := by decide +kernel
theorem d_La_law_228 : decode b_La_law_c 228 = .ok (.iaload, 1) := by decide +kernel
theorem d_La_law_229 : decode b_La_law_c 229 = .ok (.aload_n 0, 1) := by decide +kernel
theorem d_La_law_230 : decode b_La_law_c 230 = .ok (.iload_n 3, 1) := by decide +kernel
theorem d_La_law_231 : decode b_La_law_c 231 = .ok (.iconst 3, 1) := by decide +kernel
theorem d_La_law_232 : decode b_La_law_c 232 = .ok (.iadd, 1) := by decide +kernel
theorem d_La_law_233 : decode b_La_law_c 233 = .ok (.iaload, 1) := by decide +kernel
theorem d_La_law_234 : decode b_La_law_c 234 = .ok (.invokevirtual 31, 3) := by decide +kernel
theorem d_La_law_237 : decode b_La_law_c 237 = .ok (.if_icmp .eq 503, 3) := by decide +kernel
theorem d_La_law_240 : decode b_La_law_c 240 = .ok (.iconst 0, 1) := by decide +kernel
theorem d_La_law_241 : decode b_La_law_c 241 = .ok (.ireturn, 1) := by decide +kernel
theorem d_La_law_242 : decode b_La_law_c 242 = .ok (.aload_n 1, 1) := by decide +kernel
theorem d_La_law_243 : decode b_La_law_c 243 = .ok (.aload_n 0, 1) := by decide +kernel
theorem d_La_law_244 : decode b_La_law_c 244 = .ok (.iload_n 3, 1) := by decide +kernel
theorem d_La_law_245 : decode b_La_law_c 245 = .ok (.iconst 1, 1) := by decide +kernel
theorem d_La_law_246 : decode b_La_law_c 246 = .ok (.iadd, 1) := by decide +kernel
theorem d_La_law_247 : decode b_La_law_c 247 = .ok (.iaload, 1) := by decide +kernel
theorem d_La_law_248 : decode b_La_law_c 248 = .ok (.aload_n 0, 1) := by decide +kernel
theorem d_La_law_249 : decode b_La_law_c 249 = .ok (.iload_n 3, 1) := by decide +kernel
theorem d_La_law_250 : decode b_La_law_c 250 = .ok (.iconst 2, 1) := by decide +kernel
theorem d_La_law_251 : decode b_La_law_c 251 = .ok (.iadd, 1) := by decide +kernel
theorem d_La_law_252 : decode b_La_law_c 252 = .ok (.iaload, 1) := by decide +kernel
theorem d_La_law_253 : decode b_La_law_c 253 = .ok (.aload_n 0, 1) := by decide +kernel
theorem d_La_law_254 : decode b_La_law_c 254 = .ok (.iload_n 3, 1) := by decide +kernel
theorem d_La_law_255 : decode b_La_law_c 255 = .ok (.iconst 3, 1) := by decide +kernel
theorem d_La_law_256 : decode b_La_law_c 256 = .ok (.iadd, 1) := by decide +kernel
theorem d_La_law_257 : decode b_La_law_c 257 = .ok (.iaload, 1) := by decide +kernel
theorem d_La_law_258 : decode b_La_law_c 258 = .ok (.aload_n 0, 1) := by decide +kernel
theorem d_La_law_259 : decode b_La_law_c 259 = .ok (.iload_n 3, 1) := by decide +kernel
theorem d_La_law_260 : decode b_La_law_c 260 = .ok (.iconst 4, 1) := by decide +kernel
theorem d_La_law_261 : decode b_La_law_c 261 = .ok (.iadd, 1) := by decide +kernel
theorem d_La_law_262 : decode b_La_law_c 262 = .ok (.iaload, 1) := by decide +kernel
theorem d_La_law_263 : decode b_La_law_c 263 = .ok (.invokevirtual 32, 3) := by decide +kernel
theorem d_La_law_266 : decode b_La_law_c 266 = .ok (.aload_n 2, 1) := by decide +kernel
theorem d_La_law_267 : decode b_La_law_c 267 = .ok (.aload_n 0, 1) := by decide +kernel
theorem d_La_law_268 : decode b_La_law_c 268 = .ok (.iload_n 3, 1) := by decide +kernel
theorem d_La_law_269 : decode b_La_law_c 269 = .ok (.iconst 1, 1) := by decide +kernel
theorem d_La_law_270 : decode b_La_law_c 270 = .ok (.iadd, 1) := by decide +kernel
theorem d_La_law_271 : decode b_La_law_c 271 = .ok (.iaload, 1) := by decide +kernel
theorem d_La_law_272 : decode b_La_law_c 272 = .ok (.aload_n 0, 1) := by decide +kernel
theorem d_La_law_273 : decode b_La_law_c 273 = .ok (.iload_n 3, 1) := by decide +kernel
theorem d_La_law_274 : decode b_La_law_c 274 = .ok (.iconst 2, 1) := by decide +kernel
theorem d_La_law_275 : decode b_La_law_c 275 = .ok (.iadd, 1) := by decide +kernel
theorem d_La_law_276 : decode b_La_law_c 276 = .ok (.iaload, 1) := by decide +kernel
theorem d_La_law_277 : decode b_La_law_c 277 = .ok (.aload_n 0, 1) := by decide +kernel
theorem d_La_law_278 : decode b_La_law_c 278 = .ok (.iload_n 3, 1) := by decide +kernel
theorem d_La_law_279 : decode b_La_law_c 279 = .ok (.iconst 3, 1) := by decide +kernel
theorem d_La_law_280 : decode b_La_law_c 280 = .ok (.iadd, 1) := by decide +kernel
theorem d_La_law_281 : decode b_La_law_c 281 = .ok (.iaload, 1) := by decide +kernel
theorem d_La_law_282 : decode b_La_law_c 282 = .ok (.aload_n 0, 1) := by decide +kernel
theorem d_La_law_283 : decode b_La_law_c 283 = .ok (.iload_n 3, 1) := by decide +kernel
theorem d_La_law_284 : decode b_La_law_c 284 = .ok (.iconst 4, 1) := by decide +kernel
theorem d_La_law_285 : decode b_La_law_c 285 = .ok (.iadd, 1) := by decide +kernel
theorem d_La_law_286 : decode b_La_law_c 286 = .ok (.iaload, 1) := by decide +kernel
theorem d_La_law_287 : decode b_La_law_c 287 = .ok (.invokevirtual 36, 3) := by decide +kernel
theorem d_La_law_290 : decode b_La_law_c 290 = .ok (.if_icmp .eq 450, 3) := by decide +kernel
theorem d_La_law_293 : decode b_La_law_c 293 = .ok (.iconst 0, 1) := by decide +kernel
theorem d_La_law_294 : decode b_La_law_c 294 = .ok (.ireturn, 1) := by decide +kernel
theorem d_La_law_295 : decode b_La_law_c 295 = .ok (.aload_n 1, 1) := by decide +kernel
theorem d_La_law_296 : decode b_La_law_c 296 = .ok (.aload_n 0, 1) := by decide +kernel
theorem d_La_law_297 : decode b_La_law_c 297 = .ok (.iload_n 3, 1) := by decide +kernel
theorem d_La_law_298 : decode b_La_law_c 298 = .ok (.iconst 1, 1) := by decide +kernel
theorem d_La_law_299 : decode b_La_law_c 299 = .ok (.iadd, 1) := by decide +kernel
theorem d_La_law_300 : decode b_La_law_c 300 = .ok (.iaload, 1) := by decide +kernel
theorem d_La_law_301 : decode b_La_law_c 301 = .ok (.invokevirtual 37, 3) := by decide +kernel
theorem d_La_law_304 : decode b_La_law_c 304 = .ok (.aload_n 2, 1) := by decide +kernel
theorem d_La_law_305 : decode b_La_law_c 305 = .ok (.aload_n 0, 1) := by decide +kernel
theorem d_La_law_306 : decode b_La_law_c 306 = .ok (.iload_n 3, 1) := by decide +kernel
theorem d_La_law_307 : decode b_La_law_c 307 = .ok (.iconst 1, 1) := by decide +kernel
theorem d_La_law_308 : decode b_La_law_c 308 = .ok (.iadd, 1) := by decide +kernel
theorem d_La_law_309 : decode b_La_law_c 309 = .ok (.iaload, 1) := by decide +kernel
theorem d_La_law_310 : decode b_La_law_c 310 = .ok (.invokevirtual 41, 3) := by decide +kernel
theorem d_La_law_313 : decode b_La_law_c 313 = .ok (.if_icmp .eq 427, 3) := by decide +kernel
theorem d_La_law_316 : decode b_La_law_c 316 = .ok (.iconst 0, 1) := by decide +kernel
theorem d_La_law_317 : decode b_La_law_c 317 = .ok (.ireturn, 1) := by decide +kernel
theorem d_La_law_318 : decode b_La_law_c 318 = .ok (.aload_n 1, 1) := by decide +kernel
theorem d_La_law_319 : decode b_La_law_c 319 = .ok (.aload_n 0, 1) := by decide +kernel
theorem d_La_law_320 : decode b_La_law_c 320 = .ok (.iload_n 3, 1) := by decide +kernel
theorem d_La_law_321 : decode b_La_law_c 321 = .ok (.iconst 1, 1) := by decide +kernel
theorem d_La_law_322 : decode b_La_law_c 322 = .ok (.iadd, 1) := by decide +kernel
theorem d_La_law_323 : decode b_La_law_c 323 = .ok (.iaload, 1) := by decide +kernel
theorem d_La_law_324 : decode b_La_law_c 324 = .ok (.aload_n 0, 1) := by decide +kernel
theorem d_La_law_325 : decode b_La_law_c 325 = .ok (.iload_n 3, 1) := by decide +kernel
theorem d_La_law_326 : decode b_La_law_c 326 = .ok (.iconst 2, 1) := by decide +kernel
theorem d_La_law_327 : decode b_La_law_c 327 = .ok (.iadd, 1) := by decide +kernel
theorem d_La_law_328 : decode b_La_law_c 328 = .ok (.iaload, 1) := by decide +kernel
theorem d_La_law_329 : decode b_La_law_c 329 = .ok (.invokevirtual 42, 3) := by decide +kernel
theorem d_La_law_332 : decode b_La_law_c 332 = .ok (.aload_n 2, 1) := by decide +kernel
theorem d_La_law_333 : decode b_La_law_c 333 = .ok (.aload_n 0, 1) := by decide +kernel
theorem d_La_law_334 : decode b_La_law_c 334 = .ok (.iload_n 3, 1) := by decide +kernel
theorem d_La_law_335 : decode b_La_law_c 335 = .ok (.iconst 1, 1) := by decide +kernel
theorem d_La_law_336 : decode b_La_law_c 336 = .ok (.iadd, 1) := by decide +kernel
theorem d_La_law_337 : decode b_La_law_c 337 = .ok (.iaload, 1) := by decide +kernel
theorem d_La_law_338 : decode b_La_law_c 338 = .ok (.aload_n 0, 1) := by decide +kernel
theorem d_La_law_339 : decode b_La_law_c 339 = .ok (.iload_n 3, 1) := by decide +kernel
theorem d_La_law_340 : decode b_La_law_c 340 = .ok (.iconst 2, 1) := by decide +kernel
theorem d_La_law_341 : decode b_La_law_c 341 = .ok (.iadd, 1) := by decide +kernel
theorem d_La_law_342 : decode b_La_law_c 342 = .ok (.iaload, 1) := by decide +kernel
theorem d_La_law_343 : decode b_La_law_c 343 = .ok (.invokevirtual 45, 3) := by decide +kernel
theorem d_La_law_346 : decode b_La_law_c 346 = .ok (.if_icmp .eq 394, 3) := by decide +kernel
theorem d_La_law_349 : decode b_La_law_c 349 = .ok (.iconst 0, 1) := by decide +kernel
theorem d_La_law_350 : decode b_La_law_c 350 = .ok (.ireturn, 1) := by decide +kernel
theorem d_La_law_351 : decode b_La_law_c 351 = .ok (.aload_n 1, 1) := by decide +kernel
theorem d_La_law_352 : decode b_La_law_c 352 = .ok (.aload_n 0, 1) := by decide +kernel
theorem d_La_law_353 : decode b_La_law_c 353 = .ok (.iload_n 3, 1) := by decide +kernel
theorem d_La_law_354 : decode b_La_law_c 354 = .ok (.iconst 1, 1) := by decide +kernel
theorem d_La_law_355 : decode b_La_law_c 355 = .ok (.iadd, 1) := by decide +kernel
theorem d_La_law_356 : decode b_La_law_c 356 = .ok (.iaload, 1) := by decide +kernel
theorem d_La_law_357 : decode b_La_law_c 357 = .ok (.aload_n 0, 1) := by decide +kernel
theorem d_La_law_358 : decode b_La_law_c 358 = .ok (.iload_n 3, 1) := by decide +kernel
theorem d_La_law_359 : decode b_La_law_c 359 = .ok (.iconst 2, 1) := by decide +kernel
theorem d_La_law_360 : decode b_La_law_c 360 = .ok (.iadd, 1) := by decide +kernel
theorem d_La_law_361 : decode b_La_law_c 361 = .ok (.iaload, 1) := by decide +kernel
theorem d_La_law_362 : decode b_La_law_c 362 = .ok (.aload_n 0, 1) := by decide +kernel
theorem d_La_law_363 : decode b_La_law_c 363 = .ok (.iload_n 3, 1) := by decide +kernel
theorem d_La_law_364 : decode b_La_law_c 364 = .ok (.iconst 3, 1) := by decide +kernel
theorem d_La_law_365 : decode b_La_law_c 365 = .ok (.iadd, 1) := by decide +kernel
theorem d_La_law_366 : decode b_La_law_c 366 = .ok (.iaload, 1) := by decide +kernel
theorem d_La_law_367 : decode b_La_law_c 367 = .ok (.invokevirtual 46, 3) := by decide +kernel
theorem d_La_law_370 : decode b_La_law_c 370 = .ok (.aload_n 2, 1) := by decide +kernel
theorem d_La_law_371 : decode b_La_law_c 371 = .ok (.aload_n 0, 1) := by decide +kernel
theorem d_La_law_372 : decode b_La_law_c 372 = .ok (.iload_n 3, 1) := by decide +kernel
theorem d_La_law_373 : decode b_La_law_c 373 = .ok (.iconst 1, 1) := by decide +kernel
theorem d_La_law_374 : decode b_La_law_c 374 = .ok (.iadd, 1) := by decide +kernel
theorem d_La_law_375 : decode b_La_law_c 375 = .ok (.iaload, 1) := by decide +kernel
theorem d_La_law_376 : decode b_La_law_c 376 = .ok (.aload_n 0, 1) := by decide +kernel
theorem d_La_law_377 : decode b_La_law_c 377 = .ok (.iload_n 3, 1) := by decide +kernel
theorem d_La_law_378 : decode b_La_law_c 378 = .ok (.iconst 2, 1) := by decide +kernel
theorem d_La_law_379 : decode b_La_law_c 379 = .ok (.iadd, 1) := by decide +kernel
theorem d_La_law_380 : decode b_La_law_c 380 = .ok (.iaload, 1) := by decide +kernel
theorem d_La_law_381 : decode b_La_law_c 381 = .ok (.aload_n 0, 1) := by decide +kernel
theorem d_La_law_382 : decode b_La_law_c 382 = .ok (.iload_n 3, 1) := by decide +kernel
theorem d_La_law_383 : decode b_La_law_c 383 = .ok (.iconst 3, 1) := by decide +kernel
theorem d_La_law_384 : decode b_La_law_c 384 = .ok (.iadd, 1) := by decide +kernel
theorem d_La_law_385 : decode b_La_law_c 385 = .ok (.iaload, 1) := by decide +kernel
theorem d_La_law_386 : decode b_La_law_c 386 = .ok (.invokevirtual 49, 3) := by decide +kernel
theorem d_La_law_389 : decode b_La_law_c 389 = .ok (.if_icmp .eq 351, 3) := by decide +kernel
theorem d_La_law_392 : decode b_La_law_c 392 = .ok (.iconst 0, 1) := by decide +kernel
theorem d_La_law_393 : decode b_La_law_c 393 = .ok (.ireturn, 1) := by decide +kernel
theorem d_La_law_394 : decode b_La_law_c 394 = .ok (.aload_n 1, 1) := by decide +kernel
theorem d_La_law_395 : decode b_La_law_c 395 = .ok (.aload_n 0, 1) := by decide +kernel
theorem d_La_law_396 : decode b_La_law_c 396 = .ok (.iload_n 3, 1) := by decide +kernel
theorem d_La_law_397 : decode b_La_law_c 397 = .ok (.iconst 1, 1) := by decide +kernel
theorem d_La_law_398 : decode b_La_law_c 398 = .ok (.iadd, 1) := by decide +kernel
theorem d_La_law_399 : decode b_La_law_c 399 = .ok (.iaload, 1) := by decide +kernel
theorem d_La_law_400 : decode b_La_law_c 400 = .ok (.aload_n 0, 1) := by decide +kernel
theorem d_La_law_401 : decode b_La_law_c 401 = .ok (.iload_n 3, 1) := by decide +kernel
theorem d_La_law_402 : decode b_La_law_c 402 = .ok (.iconst 2, 1) := by decide +kernel
theorem d_La_law_403 : decode b_La_law_c 403 = .ok (.iadd, 1) := by decide +kernel
theorem d_La_law_404 : decode b_La_law_c 404 = .ok (.iaload, 1) := by decide +kernel
theorem d_La_law_405 : decode b_La_law_c 405 = .ok (.aload_n 0, 1) := by decide +kernel
theorem d_La_law_406 : decode b_La_law_c 406 = .ok (.iload_n 3, 1) := by decide +kernel
theorem d_La_law_407 : decode b_La_law_c 407 = .ok (.iconst 3, 1) := by decide +kernel
theorem d_La_law_408 : decode b_La_law_c 408 = .ok (.iadd, 1) := by decide +kernel
theorem d_La_law_409 : decode b_La_law_c 409 = .ok (.iaload, 1) := by decide +kernel
theorem d_La_law_410 : decode b_La_law_c 410 = .ok (.invokevirtual 50, 3) := by decide +kernel
theorem d_La_law_413 : decode b_La_law_c 413 = .ok (.aload_n 2, 1) := by decide +kernel
theorem d_La_law_414 : decode b_La_law_c 414 = .ok (.aload_n 0, 1) := by decide +kernel
theorem d_La_law_415 : decode b_La_law_c 415 = .ok (.iload_n 3, 1) := by decide +kernel
theorem d_La_law_416 : decode b_La_law_c 416 = .ok (.iconst 1, 1) := by decide +kernel
theorem d_La_law_417 : decode b_La_law_c 417 = .ok (.iadd, 1) := by decide +kernel
theorem d_La_law_418 : decode b_La_law_c 418 = .ok (.iaload, 1) := by decide +kernel
theorem d_La_law_419 : decode b_La_law_c 419 = .ok (.aload_n 0, 1) := by decide +kernel
theorem d_La_law_420 : decode b_La_law_c 420 = .ok (.iload_n 3, 1) := by decide +kernel
theorem d_La_law_421 : decode b_La_law_c 421 = .ok (.iconst 2, 1) := by decide +kernel
theorem d_La_law_422 : decode b_La_law_c 422 = .ok (.iadd, 1) := by decide +kernel
theorem d_La_law_423 : decode b_La_law_c 423 = .ok (.iaload, 1) := by decide +kernel
theorem d_La_law_424 : decode b_La_law_c 424 = .ok (.aload_n 0, 1) := by decide +kernel
theorem d_La_law_425 : decode b_La_law_c 425 = .ok (.iload_n 3, 1) := by decide +kernel
theorem d_La_law_426 : decode b_La_law_c 426 = .ok (.iconst 3, 1) := by decide +kernel
theorem d_La_law_427 : decode b_La_law_c 427 = .ok (.iadd, 1) := by decide +kernel
theorem d_La_law_428 : decode b_La_law_c 428 = .ok (.iaload, 1) := by decide +kernel
theorem d_La_law_429 : decode b_La_law_c 429 = .ok (.invokevirtual 53, 3) := by decide +kernel
theorem d_La_law_432 : decode b_La_law_c 432 = .ok (.if_icmp .eq 308, 3) := by decide +kernel
theorem d_La_law_435 : decode b_La_law_c 435 = .ok (.iconst 0, 1) := by decide +kernel
theorem d_La_law_436 : decode b_La_law_c 436 = .ok (.ireturn, 1) := by decide +kernel
theorem d_La_law_437 : decode b_La_law_c 437 = .ok (.aload_n 1, 1) := by decide +kernel
theorem d_La_law_438 : decode b_La_law_c 438 = .ok (.aload_n 0, 1) := by decide +kernel
theorem d_La_law_439 : decode b_La_law_c 439 = .ok (.iload_n 3, 1) := by decide +kernel
theorem d_La_law_440 : decode b_La_law_c 440 = .ok (.iconst 1, 1) := by decide +kernel
theorem d_La_law_441 : decode b_La_law_c 441 = .ok (.iadd, 1) := by decide +kernel
theorem d_La_law_442 : decode b_La_law_c 442 = .ok (.iaload, 1) := by decide +kernel
theorem d_La_law_443 : decode b_La_law_c 443 = .ok (.aload_n 0, 1) := by decide +kernel
theorem d_La_law_444 : decode b_La_law_c 444 = .ok (.iload_n 3, 1) := by decide +kernel
theorem d_La_law_445 : decode b_La_law_c 445 = .ok (.iconst 2, 1) := by decide +kernel
theorem d_La_law_446 : decode b_La_law_c 446 = .ok (.iadd, 1) := by decide +kernel
theorem d_La_law_447 : decode b_La_law_c 447 = .ok (.iaload, 1) := by decide +kernel
theorem d_La_law_448 : decode b_La_law_c 448 = .ok (.invokevirtual 54, 3) := by decide +kernel
theorem d_La_law_451 : decode b_La_law_c 451 = .ok (.aload_n 2, 1) := by decide +kernel
theorem d_La_law_452 : decode b_La_law_c 452 = .ok (.aload_n 0, 1) := by decide +kernel
theorem d_La_law_453 : decode b_La_law_c 453 = .ok (.iload_n 3, 1) := by decide +kernel
theorem d_La_law_454 : decode b_La_law_c 454 = .ok (.iconst 1, 1) := by decide +kernel
theorem d_La_law_455 : decode b_La_law_c 455 = .ok (.iadd, 1) := by decide +kernel
theorem d_La_law_456 : decode b_La_law_c 456 = .ok (.iaload, 1) := by decide +kernel
theorem d_La_law_457 : decode b_La_law_c 457 = .ok (.aload_n 0, 1) := by decide +kernel
theorem d_La_law_458 : decode b_La_law_c 458 = .ok (.iload_n 3, 1) := by decide +kernel
theorem d_La_law_459 : decode b_La_law_c 459 = .ok (.iconst 2, 1) := by decide +kernel
theorem d_La_law_460 : decode b_La_law_c 460 = .ok (.iadd, 1) := by decide +kernel
theorem d_La_law_461 : decode b_La_law_c 461 = .ok (.iaload, 1) := by decide +kernel
theorem d_La_law_462 : decode b_La_law_c 462 = .ok (.invokevirtual 57, 3) := by decide +kernel
theorem d_La_law_465 : decode b_La_law_c 465 = .ok (.if_icmp .eq 275, 3) := by decide +kernel
theorem d_La_law_468 : decode b_La_law_c 468 = .ok (.iconst 0, 1) := by decide +kernel
theorem d_La_law_469 : decode b_La_law_c 469 = .ok (.ireturn, 1) := by decide +kernel
theorem d_La_law_470 : decode b_La_law_c 470 = .ok (.aload_n 1, 1) := by decide +kernel
theorem d_La_law_471 : decode b_La_law_c 471 = .ok (.aload_n 0, 1) := by decide +kernel
theorem d_La_law_472 : decode b_La_law_c 472 = .ok (.iload_n 3, 1) := by decide +kernel
theorem d_La_law_473 : decode b_La_law_c 473 = .ok (.iconst 1, 1) := by decide +kernel
theorem d_La_law_474 : decode b_La_law_c 474 = .ok (.iadd, 1) := by decide +kernel
theorem d_La_law_475 : decode b_La_law_c 475 = .ok (.iaload, 1) := by decide +kernel
theorem d_La_law_476 : decode b_La_law_c 476 = .ok (.ifCond .eq 7, 3) := by decide +kernel
theorem d_La_law_479 : decode b_La_law_c 479 = .ok (.iconst 1, 1) := by decide +kernel
theorem d_La_law_480 : decode b_La_law_c 480 = .ok (.goto 4, 3) := by decide +kernel
theorem d_La_law_483 : decode b_La_law_c 483 = .ok (.iconst 0, 1) := by decide +kernel
theorem d_La_law_484 : decode b_La_law_c 484 = .ok (.aload_n 0, 1) := by decide +kernel
theorem d_La_law_485 : decode b_La_law_c 485 = .ok (.iload_n 3, 1) := by decide +kernel
theorem d_La_law_486 : decode b_La_law_c 486 = .ok (.iconst 2, 1) := by decide +kernel
theorem d_La_law_487 : decode b_La_law_c 487 = .ok (.iadd, 1) := by decide +kernel
theorem d_La_law_488 : decode b_La_law_c 488 = .ok (.iaload, 1) := by decide +kernel
theorem d_La_law_489 : decode b_La_law_c 489 = .ok (.invokevirtual 58, 3) := by decide +kernel
theorem d_La_law_492 : decode b_La_law_c 492 = .ok (.aload_n 2, 1) := by decide +kernel
theorem d_La_law_493 : decode b_La_law_c 493 = .ok (.aload_n 0, 1) := by decide +kernel
theorem d_La_law_494 : decode b_La_law_c 494 = .ok (.iload_n 3, 1) := by decide +kernel
theorem d_La_law_495 : decode b_La_law_c 495 = .ok (.iconst 1, 1) := by decide +kernel
theorem d_La_law_496 : decode b_La_law_c 496 = .ok (.iadd, 1) := by decide +kernel
theorem d_La_law_497 : decode b_La_law_c 497 = .ok (.iaload, 1) := by decide +kernel
theorem d_La_law_498 : decode b_La_law_c 498 = .ok (.ifCond .eq 7, 3) := by decide +kernel
theorem d_La_law_501 : decode b_La_law_c 501 = .ok (.iconst 1, 1) := by decide +kernel
theorem d_La_law_502 : decode b_La_law_c 502 = .ok (.goto 4, 3) := by decide +kernel
theorem d_La_law_505 : decode b_La_law_c 505 = .ok (.iconst 0, 1) := by decide +kernel
theorem d_La_law_506 : decode b_La_law_c 506 = .ok (.aload_n 0, 1) := by decide +kernel
theorem d_La_law_507 : decode b_La_law_c 507 = .ok (.iload_n 3, 1) := by decide +kernel
theorem d_La_law_508 : decode b_La_law_c 508 = .ok (.iconst 2, 1) := by decide +kernel
theorem d_La_law_509 : decode b_La_law_c 509 = .ok (.iadd, 1) := by decide +kernel
theorem d_La_law_510 : decode b_La_law_c 510 = .ok (.iaload, 1) := by decide +kernel
theorem d_La_law_511 : decode b_La_law_c 511 = .ok (.invokevirtual 62, 3) := by decide +kernel
theorem d_La_law_514 : decode b_La_law_c 514 = .ok (.if_icmp .eq 226, 3) := by decide +kernel
theorem d_La_law_517 : decode b_La_law_c 517 = .ok (.iconst 0, 1) := by decide +kernel
theorem d_La_law_518 : decode b_La_law_c 518 = .ok (.ireturn, 1) := by decide +kernel
theorem d_La_law_519 : decode b_La_law_c 519 = .ok (.aload_n 1, 1) := by decide +kernel
theorem d_La_law_520 : decode b_La_law_c 520 = .ok (.aload_n 0, 1) := by decide +kernel
theorem d_La_law_521 : decode b_La_law_c 521 = .ok (.iload_n 3, 1) := by decide +kernel
theorem d_La_law_522 : decode b_La_law_c 522 = .ok (.iconst 1, 1) := by decide +kernel
theorem d_La_law_523 : decode b_La_law_c 523 = .ok (.iadd, 1) := by decide +kernel
theorem d_La_law_524 : decode b_La_law_c 524 = .ok (.iaload, 1) := by decide +kernel
theorem d_La_law_525 : decode b_La_law_c 525 = .ok (.invokevirtual 63, 3) := by decide +kernel
theorem d_La_law_528 : decode b_La_law_c 528 = .ok (.aload_n 2, 1) := by decide +kernel
theorem d_La_law_529 : decode b_La_law_c 529 = .ok (.aload_n 0, 1) := by decide +kernel
theorem d_La_law_530 : decode b_La_law_c 530 = .ok (.iload_n 3, 1) := by decide +kernel
theorem d_La_law_531 : decode b_La_law_c 531 = .ok (.iconst 1, 1) := by decide +kernel
theorem d_La_law_532 : decode b_La_law_c 532 = .ok (.iadd, 1) := by decide +kernel
theorem d_La_law_533 : decode b_La_law_c 533 = .ok (.iaload, 1) := by decide +kernel
theorem d_La_law_534 : decode b_La_law_c 534 = .ok (.invokevirtual 66, 3) := by decide +kernel
theorem d_La_law_537 : decode b_La_law_c 537 = .ok (.if_icmp .eq 203, 3) := by decide +kernel
theorem d_La_law_540 : decode b_La_law_c 540 = .ok (.iconst 0, 1) := by decide +kernel
theorem d_La_law_541 : decode b_La_law_c 541 = .ok (.ireturn, 1) := by decide +kernel
theorem d_La_law_542 : decode b_La_law_c 542 = .ok (.aload_n 1, 1) := by decide +kernel
theorem d_La_law_543 : decode b_La_law_c 543 = .ok (.aload_n 0, 1) := by decide +kernel
theorem d_La_law_544 : decode b_La_law_c 544 = .ok (.iload_n 3, 1) := by decide +kernel
theorem d_La_law_545 : decode b_La_law_c 545 = .ok (.iconst 1, 1) := by decide +kernel
theorem d_La_law_546 : decode b_La_law_c 546 = .ok (.iadd, 1) := by decide +kernel
theorem d_La_law_547 : decode b_La_law_c 547 = .ok (.iaload, 1) := by decide +kernel
theorem d_La_law_548 : decode b_La_law_c 548 = .ok (.aload_n 0, 1) := by decide +kernel
theorem d_La_law_549 : decode b_La_law_c 549 = .ok (.iload_n 3, 1) := by decide +kernel
theorem d_La_law_550 : decode b_La_law_c 550 = .ok (.iconst 2, 1) := by decide +kernel
theorem d_La_law_551 : decode b_La_law_c 551 = .ok (.iadd, 1) := by decide +kernel
theorem d_La_law_552 : decode b_La_law_c 552 = .ok (.iaload, 1) := by decide +kernel
theorem d_La_law_553 : decode b_La_law_c 553 = .ok (.aload_n 0, 1) := by decide +kernel
theorem d_La_law_554 : decode b_La_law_c 554 = .ok (.iload_n 3, 1) := by decide +kernel
theorem d_La_law_555 : decode b_La_law_c 555 = .ok (.iconst 3, 1) := by decide +kernel
theorem d_La_law_556 : decode b_La_law_c 556 = .ok (.iadd, 1) := by decide +kernel
theorem d_La_law_557 : decode b_La_law_c 557 = .ok (.iaload, 1) := by decide +kernel
theorem d_La_law_558 : decode b_La_law_c 558 = .ok (.invokevirtual 67, 3) := by decide +kernel
theorem d_La_law_561 : decode b_La_law_c 561 = .ok (.aload_n 2, 1) := by decide +kernel
theorem d_La_law_562 : decode b_La_law_c 562 = .ok (.aload_n 0, 1) := by decide +kernel
theorem d_La_law_563 : decode b_La_law_c 563 = .ok (.iload_n 3, 1) := by decide +kernel
theorem d_La_law_564 : decode b_La_law_c 564 = .ok (.iconst 1, 1) := by decide +kernel
theorem d_La_law_565 : decode b_La_law_c 565 = .ok (.iadd, 1) := by decide +kernel
theorem d_La_law_566 : decode b_La_law_c 566 = .ok (.iaload, 1) := by decide +kernel
theorem d_La_law_567 : decode b_La_law_c 567 = .ok (.aload_n 0, 1) := by decide +kernel
theorem d_La_law_568 : decode b_La_law_c 568 = .ok (.iload_n 3, 1) := by decide +kernel
theorem d_La_law_569 : decode b_La_law_c 569 = .ok (.iconst 2, 1) := by decide +kernel
theorem d_La_law_570 : decode b_La_law_c 570 = .ok (.iadd, 1) := by decide +kernel
theorem d_La_law_571 : decode b_La_law_c 571 = .ok (.iaload, 1) := by decide +kernel
theorem d_La_law_572 : decode b_La_law_c 572 = .ok (.aload_n 0, 1) := by decide +kernel
theorem d_La_law_573 : decode b_La_law_c 573 = .ok (.iload_n 3, 1) := by decide +kernel
theorem d_La_law_574 : decode b_La_law_c 574 = .ok (.iconst 3, 1) := by decide +kernel
theorem d_La_law_575 : decode b_La_law_c 575 = .ok (.iadd, 1) := by decide +kernel
theorem d_La_law_576 : decode b_La_law_c 576 = .ok (.iaload, 1) := by decide +kernel
theorem d_La_law_577 : decode b_La_law_c 577 = .ok (.invokevirtual 70, 3) := by decide +kernel
theorem d_La_law_580 : decode b_La_law_c 580 = .ok (.if_icmp .eq 160, 3) := by decide +kernel
theorem d_La_law_583 : decode b_La_law_c 583 = .ok (.iconst 0, 1) := by decide +kernel
theorem d_La_law_584 : decode b_La_law_c 584 = .ok (.ireturn, 1) := by decide +kernel
theorem d_La_law_585 : decode b_La_law_c 585 = .ok (.aload_n 1, 1) := by decide +kernel
theorem d_La_law_586 : decode b_La_law_c 586 = .ok (.aload_n 0, 1) := by decide +kernel
theorem d_La_law_587 : decode b_La_law_c 587 = .ok (.iload_n 3, 1) := by decide +kernel
theorem d_La_law_588 : decode b_La_law_c 588 = .ok (.iconst 1, 1) := by decide +kernel
theorem d_La_law_589 : decode b_La_law_c 589 = .ok (.iadd, 1) := by decide +kernel
theorem d_La_law_590 : decode b_La_law_c 590 = .ok (.iaload, 1) := by decide +kernel
theorem d_La_law_591 : decode b_La_law_c 591 = .ok (.aload_n 0, 1) := by decide +kernel
theorem d_La_law_592 : decode b_La_law_c 592 = .ok (.iload_n 3, 1) := by decide +kernel
theorem d_La_law_593 : decode b_La_law_c 593 = .ok (.iconst 2, 1) := by decide +kernel
theorem d_La_law_594 : decode b_La_law_c 594 = .ok (.iadd, 1) := by decide +kernel
theorem d_La_law_595 : decode b_La_law_c 595 = .ok (.iaload, 1) := by decide +kernel
theorem d_La_law_596 : decode b_La_law_c 596 = .ok (.invokevirtual 71, 3) := by decide +kernel
theorem d_La_law_599 : decode b_La_law_c 599 = .ok (.aload_n 2, 1) := by decide +kernel
theorem d_La_law_600 : decode b_La_law_c 600 = .ok (.aload_n 0, 1) := by decide +kernel
theorem d_La_law_601 : decode b_La_law_c 601 = .ok (.iload_n 3, 1) := by decide +kernel
theorem d_La_law_602 : decode b_La_law_c 602 = .ok (.iconst 1, 1) := by decide +kernel
theorem d_La_law_603 : decode b_La_law_c 603 = .ok (.iadd, 1) := by decide +kernel
theorem d_La_law_604 : decode b_La_law_c 604 = .ok (.iaload, 1) := by decide +kernel
theorem d_La_law_605 : decode b_La_law_c 605 = .ok (.aload_n 0, 1) := by decide +kernel
theorem d_La_law_606 : decode b_La_law_c 606 = .ok (.iload_n 3, 1) := by decide +kernel
theorem d_La_law_607 : decode b_La_law_c 607 = .ok (.iconst 2, 1) := by decide +kernel
theorem d_La_law_608 : decode b_La_law_c 608 = .ok (.iadd, 1) := by decide +kernel
theorem d_La_law_609 : decode b_La_law_c 609 = .ok (.iaload, 1) := by decide +kernel
theorem d_La_law_610 : decode b_La_law_c 610 = .ok (.invokevirtual 74, 3) := by decide +kernel
theorem d_La_law_613 : decode b_La_law_c 613 = .ok (.if_icmp .eq 127, 3) := by decide +kernel
theorem d_La_law_616 : decode b_La_law_c 616 = .ok (.iconst 0, 1) := by decide +kernel
theorem d_La_law_617 : decode b_La_law_c 617 = .ok (.ireturn, 1) := by decide +kernel
theorem d_La_law_618 : decode b_La_law_c 618 = .ok (.aload_n 1, 1) := by decide +kernel
theorem d_La_law_619 : decode b_La_law_c 619 = .ok (.aload_n 0, 1) := by decide +kernel
theorem d_La_law_620 : decode b_La_law_c 620 = .ok (.iload_n 3, 1) := by decide +kernel
theorem d_La_law_621 : decode b_La_law_c 621 = .ok (.iconst 1, 1) := by decide +kernel
theorem d_La_law_622 : decode b_La_law_c 622 = .ok (.iadd, 1) := by decide +kernel
theorem d_La_law_623 : decode b_La_law_c 623 = .ok (.iaload, 1) := by decide +kernel
theorem d_La_law_624 : decode b_La_law_c 624 = .ok (.invokevirtual 75, 3) := by decide +kernel
theorem d_La_law_627 : decode b_La_law_c 627 = .ok (.aload_n 2, 1) := by decide +kernel
theorem d_La_law_628 : decode b_La_law_c 628 = .ok (.aload_n 0, 1) := by decide +kernel
theorem d_La_law_629 : decode b_La_law_c 629 = .ok (.iload_n 3, 1) := by decide +kernel
theorem d_La_law_630 : decode b_La_law_c 630 = .ok (.iconst 1, 1) := by decide +kernel
theorem d_La_law_631 : decode b_La_law_c 631 = .ok (.iadd, 1) := by decide +kernel
theorem d_La_law_632 : decode b_La_law_c 632 = .ok (.iaload, 1) := by decide +kernel
theorem d_La_law_633 : decode b_La_law_c 633 = .ok (.invokevirtual 78, 3) := by decide +kernel
theorem d_La_law_636 : decode b_La_law_c 636 = .ok (.if_icmp .eq 104, 3) := by decide +kernel
theorem d_La_law_639 : decode b_La_law_c 639 = .ok (.iconst 0, 1) := by decide +kernel
theorem d_La_law_640 : decode b_La_law_c 640 = .ok (.ireturn, 1) := by decide +kernel
theorem d_La_law_641 : decode b_La_law_c 641 = .ok (.aload_n 1, 1) := by decide +kernel
theorem d_La_law_642 : decode b_La_law_c 642 = .ok (.aload_n 0, 1) := by decide +kernel
theorem d_La_law_643 : decode b_La_law_c 643 = .ok (.iload_n 3, 1) := by decide +kernel
theorem d_La_law_644 : decode b_La_law_c 644 = .ok (.iconst 1, 1) := by decide +kernel
theorem d_La_law_645 : decode b_La_law_c 645 = .ok (.iadd, 1) := by decide +kernel
theorem d_La_law_646 : decode b_La_law_c 646 = .ok (.iaload, 1) := by decide +kernel
theorem d_La_law_647 : decode b_La_law_c 647 = .ok (.invokevirtual 79, 3) := by decide +kernel
theorem d_La_law_650 : decode b_La_law_c 650 = .ok (.aload_n 2, 1) := by decide +kernel
theorem d_La_law_651 : decode b_La_law_c 651 = .ok (.aload_n 0, 1) := by decide +kernel
theorem d_La_law_652 : decode b_La_law_c 652 = .ok (.iload_n 3, 1) := by decide +kernel
theorem d_La_law_653 : decode b_La_law_c 653 = .ok (.iconst 1, 1) := by decide +kernel
theorem d_La_law_654 : decode b_La_law_c 654 = .ok (.iadd, 1) := by decide +kernel
theorem d_La_law_655 : decode b_La_law_c 655 = .ok (.iaload, 1) := by decide +kernel
theorem d_La_law_656 : decode b_La_law_c 656 = .ok (.invokevirtual 82, 3) := by decide +kernel
theorem d_La_law_659 : decode b_La_law_c 659 = .ok (.if_icmp .eq 81, 3) := by decide +kernel
theorem d_La_law_662 : decode b_La_law_c 662 = .ok (.iconst 0, 1) := by decide +kernel
theorem d_La_law_663 : decode b_La_law_c 663 = .ok (.ireturn, 1) := by decide +kernel
theorem d_La_law_664 : decode b_La_law_c 664 = .ok (.aload_n 1, 1) := by decide +kernel
theorem d_La_law_665 : decode b_La_law_c 665 = .ok (.aload_n 0, 1) := by decide +kernel
theorem d_La_law_666 : decode b_La_law_c 666 = .ok (.iload_n 3, 1) := by decide +kernel
theorem d_La_law_667 : decode b_La_law_c 667 = .ok (.iconst 1, 1) := by decide +kernel
theorem d_La_law_668 : decode b_La_law_c 668 = .ok (.iadd, 1) := by decide +kernel
theorem d_La_law_669 : decode b_La_law_c 669 = .ok (.iaload, 1) := by decide +kernel
theorem d_La_law_670 : decode b_La_law_c 670 = .ok (.aload_n 0, 1) := by decide +kernel
theorem d_La_law_671 : decode b_La_law_c 671 = .ok (.iload_n 3, 1) := by decide +kernel
theorem d_La_law_672 : decode b_La_law_c 672 = .ok (.iconst 2, 1) := by decide +kernel
theorem d_La_law_673 : decode b_La_law_c 673 = .ok (.iadd, 1) := by decide +kernel
theorem d_La_law_674 : decode b_La_law_c 674 = .ok (.iaload, 1) := by decide +kernel
theorem d_La_law_675 : decode b_La_law_c 675 = .ok (.aload_n 0, 1) := by decide +kernel
theorem d_La_law_676 : decode b_La_law_c 676 = .ok (.iload_n 3, 1) := by decide +kernel
theorem d_La_law_677 : decode b_La_law_c 677 = .ok (.iconst 3, 1) := by decide +kernel
theorem d_La_law_678 : decode b_La_law_c 678 = .ok (.iadd, 1) := by decide +kernel
theorem d_La_law_679 : decode b_La_law_c 679 = .ok (.iaload, 1) := by decide +kernel
theorem d_La_law_680 : decode b_La_law_c 680 = .ok (.invokevirtual 83, 3) := by decide +kernel
theorem d_La_law_683 : decode b_La_law_c 683 = .ok (.aload_n 2, 1) := by decide +kernel
theorem d_La_law_684 : decode b_La_law_c 684 = .ok (.aload_n 0, 1) := by decide +kernel
theorem d_La_law_685 : decode b_La_law_c 685 = .ok (.iload_n 3, 1) := by decide +kernel
theorem d_La_law_686 : decode b_La_law_c 686 = .ok (.iconst 1, 1) := by decide +kernel
theorem d_La_law_687 : decode b_La_law_c 687 = .ok (.iadd, 1) := by decide +kernel
theorem d_La_law_688 : decode b_La_law_c 688 = .ok (.iaload, 1) := by decide +kernel
theorem d_La_law_689 : decode b_La_law_c 689 = .ok (.aload_n 0, 1) := by decide +kernel
theorem d_La_law_690 : decode b_La_law_c 690 = .ok (.iload_n 3, 1) := by decide +kernel
theorem d_La_law_691 : decode b_La_law_c 691 = .ok (.iconst 2, 1) := by decide +kernel
theorem d_La_law_692 : decode b_La_law_c 692 = .ok (.iadd, 1) := by decide +kernel
theorem d_La_law_693 : decode b_La_law_c 693 = .ok (.iaload, 1) := by decide +kernel
theorem d_La_law_694 : decode b_La_law_c 694 = .ok (.aload_n 0, 1) := by decide +kernel
theorem d_La_law_695 : decode b_La_law_c 695 = .ok (.iload_n 3, 1) := by decide +kernel
theorem d_La_law_696 : decode b_La_law_c 696 = .ok (.iconst 3, 1) := by decide +kernel
theorem d_La_law_697 : decode b_La_law_c 697 = .ok (.iadd, 1) := by decide +kernel
theorem d_La_law_698 : decode b_La_law_c 698 = .ok (.iaload, 1) := by decide +kernel
theorem d_La_law_699 : decode b_La_law_c 699 = .ok (.invokevirtual 86, 3) := by decide +kernel
theorem d_La_law_702 : decode b_La_law_c 702 = .ok (.if_icmp .eq 38, 3) := by decide +kernel
theorem d_La_law_705 : decode b_La_law_c 705 = .ok (.iconst 0, 1) := by decide +kernel
theorem d_La_law_706 : decode b_La_law_c 706 = .ok (.ireturn, 1) := by decide +kernel
theorem d_La_law_707 : decode b_La_law_c 707 = .ok (.aload_n 1, 1) := by decide +kernel
theorem d_La_law_708 : decode b_La_law_c 708 = .ok (.aload_n 0, 1) := by decide +kernel
theorem d_La_law_709 : decode b_La_law_c 709 = .ok (.iload_n 3, 1) := by decide +kernel
theorem d_La_law_710 : decode b_La_law_c 710 = .ok (.iconst 1, 1) := by decide +kernel
theorem d_La_law_711 : decode b_La_law_c 711 = .ok (.iadd, 1) := by decide +kernel
theorem d_La_law_712 : decode b_La_law_c 712 = .ok (.iaload, 1) := by decide +kernel
theorem d_La_law_713 : decode b_La_law_c 713 = .ok (.aload_n 0, 1) := by decide +kernel
theorem d_La_law_714 : decode b_La_law_c 714 = .ok (.iload_n 3, 1) := by decide +kernel
theorem d_La_law_715 : decode b_La_law_c 715 = .ok (.iconst 2, 1) := by decide +kernel
theorem d_La_law_716 : decode b_La_law_c 716 = .ok (.iadd, 1) := by decide +kernel
theorem d_La_law_717 : decode b_La_law_c 717 = .ok (.iaload, 1) := by decide +kernel
theorem d_La_law_718 : decode b_La_law_c 718 = .ok (.invokevirtual 87, 3) := by decide +kernel
theorem d_La_law_721 : decode b_La_law_c 721 = .ok (.aload_n 2, 1) := by decide +kernel
theorem d_La_law_722 : decode b_La_law_c 722 = .ok (.aload_n 0, 1) := by decide +kernel
theorem d_La_law_723 : decode b_La_law_c 723 = .ok (.iload_n 3, 1) := by decide +kernel
theorem d_La_law_724 : decode b_La_law_c 724 = .ok (.iconst 1, 1) := by decide +kernel
theorem d_La_law_725 : decode b_La_law_c 725 = .ok (.iadd, 1) := by decide +kernel
theorem d_La_law_726 : decode b_La_law_c 726 = .ok (.iaload, 1) := by decide +kernel
theorem d_La_law_727 : decode b_La_law_c 727 = .ok (.aload_n 0, 1) := by decide +kernel
theorem d_La_law_728 : decode b_La_law_c 728 = .ok (.iload_n 3, 1) := by decide +kernel
theorem d_La_law_729 : decode b_La_law_c 729 = .ok (.iconst 2, 1) := by decide +kernel
theorem d_La_law_730 : decode b_La_law_c 730 = .ok (.iadd, 1) := by decide +kernel
theorem d_La_law_731 : decode b_La_law_c 731 = .ok (.iaload, 1) := by decide +kernel
theorem d_La_law_732 : decode b_La_law_c 732 = .ok (.invokevirtual 90, 3) := by decide +kernel
theorem d_La_law_735 : decode b_La_law_c 735 = .ok (.if_icmp .eq 5, 3) := by decide +kernel
theorem d_La_law_738 : decode b_La_law_c 738 = .ok (.iconst 0, 1) := by decide +kernel
theorem d_La_law_739 : decode b_La_law_c 739 = .ok (.ireturn, 1) := by decide +kernel
theorem d_La_law_740 : decode b_La_law_c 740 = .ok (.iinc 3 5, 3) := by decide +kernel
theorem d_La_law_743 : decode b_La_law_c 743 = .ok (.goto (-725), 3) := by decide +kernel
theorem d_La_law_746 : decode b_La_law_c 746 = .ok (.iconst 1, 1) := by decide +kernel
theorem d_La_law_747 : decode b_La_law_c 747 = .ok (.ireturn, 1) := by decide +kernel
set_option maxHeartbeats 4000000 in
set_option maxRecDepth 100000 in
theorem t_La_law_740 {X : gX} {r : (Int32 × gS)} {b L : Nat} {xs : Nat → Int32} (C : gC X b_La_law_c R_La 4 9 338) (hR : ∀ pc lv, isB r.1 = true → decode b_La_law_c pc = .ok (.ireturn, 1) → G X pc lv [.int r.1] r.2) (hX : va_X b L xs X.2.1.1 X.2.1.1.heap) (hbl : b < X.2.1.1.heap.size) (hbA : ¬ X.2.2.2.2.2.2 b) {k18 : Int32 × gS → Option (Int32 × gS)}  (hk18 : ∀ x, k18 x = some r → G X 18 [(0, .ref b), (1, .ref (gA X 0)), (2, .ref (gA X 46)), (3, .int x.1)] [] x.2) (x3 : Int32) (σ : gS) (h : b_La_law_740 L xs k18 x3 σ = some r) : G X 740 [(0, .ref b), (1, .ref (gA X 0)), (2, .ref (gA X 46)), (3, .int x3)] [] σ := by
  unfold b_La_law_740 at h
  obtain ⟨x3_1, ex3_1, h⟩ := bnd_some h
  refine r_iinc C 3 (lv' := [(3, .int x3_1), (0, .ref b), (1, .ref (gA X 0)), (2, .ref (gA X 46))]) d_La_law_740 rfl (by rw [ex3_1]; rfl) (by decide) rfl ?_
  refine r_goto C (tgt := 18) d_La_law_743 (by decide) ?_
  refine r_sub [1, 2, 3, 0] (lv' := [(0, .ref b), (1, .ref (gA X 0)), (2, .ref (gA X 46)), (3, .int x3_1)]) rfl ?_
  exact hk18 _ h
set_option maxHeartbeats 4000000 in
set_option maxRecDepth 100000 in
theorem t_La_law_506 {X : gX} {r : (Int32 × gS)} {b L : Nat} {xs : Nat → Int32} (C : gC X b_La_law_c R_La 4 9 338) (hR : ∀ pc lv, isB r.1 = true → decode b_La_law_c pc = .ok (.ireturn, 1) → G X pc lv [.int r.1] r.2) (hX : va_X b L xs X.2.1.1 X.2.1.1.heap) (hbl : b < X.2.1.1.heap.size) (hbA : ¬ X.2.2.2.2.2.2 b) {k18 : Int32 × gS → Option (Int32 × gS)}  (hk18 : ∀ x, k18 x = some r → G X 18 [(0, .ref b), (1, .ref (gA X 0)), (2, .ref (gA X 46)), (3, .int x.1)] [] x.2) (x3 : Int32) (y0 : Int32) (y2 : Int32) (σ : gS) (h : b_La_law_506 L xs k18 x3 y0 y2 σ = some r) : G X 506 [(0, .ref b), (1, .ref (gA X 0)), (2, .ref (gA X 46)), (3, .int x3)] [.int y2, .ref (gA X 46), .int y0] σ := by
  unfold b_La_law_506 at h
  refine r_aload_n C 0 d_La_law_506 rfl rfl ?_
  refine r_iload_n C 3 d_La_law_507 rfl rfl ?_
  refine r_iconst C (v := 2) d_La_law_508 (by decide) ?_
  refine r_iadd C d_La_law_509 ?_
  obtain ⟨hi_1, h⟩ := ck_some h
  refine r_sld C hX hbl hbA hi_1 d_La_law_510 ?_
  obtain ⟨r_2, er_2, h⟩ := bind_some h
  refine r_callV C (As := [.int y2, .int (xs (x3 + 2).toNatClampNeg)]) (rest := [.int y0]) (st1 := [.int r_2.1, .int y0]) (c_Mo_point X.1.2.1 σ y2 (xs (x3 + 2).toNatClampNeg) er_2) k_Mo_point m_590 (by decide) cel_Mo rfl rfl rfl rfl (Nat.le_of_ble_eq_true rfl) ⟨Nat.le_of_ble_eq_true rfl, Nat.le_of_ble_eq_true rfl⟩ d_La_law_511 rfl ?_
  refine r_icmp_eq C (tgt := 740) d_La_law_514 (by decide) (fun hc_3 => ?_) (fun hc_3 => ?_)
  · rw [if_pos hc_3] at h
    exact t_La_law_740 C hR hX hbl hbA hk18 x3 r_2.2 h
  · rw [if_neg hc_3] at h
    refine r_iconst C (v := 0) d_La_law_517 (by decide) ?_
    obtain ⟨hB, h⟩ := ck_some h
    cases h
    exact hR _ _ hB d_La_law_518
set_option maxHeartbeats 4000000 in
set_option maxRecDepth 100000 in
theorem t_La_law_484 {X : gX} {r : (Int32 × gS)} {b L : Nat} {xs : Nat → Int32} (C : gC X b_La_law_c R_La 4 9 338) (hR : ∀ pc lv, isB r.1 = true → decode b_La_law_c pc = .ok (.ireturn, 1) → G X pc lv [.int r.1] r.2) (hX : va_X b L xs X.2.1.1 X.2.1.1.heap) (hbl : b < X.2.1.1.heap.size) (hbA : ¬ X.2.2.2.2.2.2 b) {k18 : Int32 × gS → Option (Int32 × gS)}  (hk18 : ∀ x, k18 x = some r → G X 18 [(0, .ref b), (1, .ref (gA X 0)), (2, .ref (gA X 46)), (3, .int x.1)] [] x.2) (x3 : Int32) (y1 : Int32) (σ : gS) (h : b_La_law_484 L xs k18 x3 y1 σ = some r) : G X 484 [(0, .ref b), (1, .ref (gA X 0)), (2, .ref (gA X 46)), (3, .int x3)] [.int y1, .ref (gA X 0)] σ := by
  unfold b_La_law_484 at h
  refine r_aload_n C 0 d_La_law_484 rfl rfl ?_
  refine r_iload_n C 3 d_La_law_485 rfl rfl ?_
  refine r_iconst C (v := 2) d_La_law_486 (by decide) ?_
  refine r_iadd C d_La_law_487 ?_
  obtain ⟨hi_1, h⟩ := ck_some h
  refine r_sld C hX hbl hbA hi_1 d_La_law_488 ?_
  obtain ⟨r_2, er_2, h⟩ := bind_some h
  refine r_callV C (As := [.int y1, .int (xs (x3 + 2).toNatClampNeg)]) (rest := []) (st1 := [.int r_2.1]) (c_Ga_point X.1.2.1 σ y1 (xs (x3 + 2).toNatClampNeg) er_2) k_Ga_point m_594 (by decide) cel_Ga rfl rfl rfl rfl (Nat.le_of_ble_eq_true rfl) ⟨Nat.le_of_ble_eq_true rfl, Nat.le_of_ble_eq_true rfl⟩ d_La_law_489 rfl ?_
  refine r_aload_n C 2 d_La_law_492 rfl rfl ?_
  refine r_aload_n C 0 d_La_law_493 rfl rfl ?_
  refine r_iload_n C 3 d_La_law_494 rfl rfl ?_
  refine r_iconst C (v := 1) d_La_law_495 (by decide) ?_
  refine r_iadd C d_La_law_496 ?_
  obtain ⟨hi_3, h⟩ := ck_some h
  refine r_sld C hX hbl hbA hi_3 d_La_law_497 ?_
  refine r_if_eq C (tgt := 505) d_La_law_498 (by decide) (fun hc_4 => ?_) (fun hc_4 => ?_)
  · rw [if_pos hc_4] at h
    refine r_iconst C (v := 0) d_La_law_505 (by decide) ?_
    exact t_La_law_506 C hR hX hbl hbA hk18 x3 r_2.1 0 r_2.2 h
  · rw [if_neg hc_4] at h
    refine r_iconst C (v := 1) d_La_law_501 (by decide) ?_
    refine r_goto C (tgt := 506) d_La_law_502 (by decide) ?_
    exact t_La_law_506 C hR hX hbl hbA hk18 x3 r_2.1 1 r_2.2 h
set_option maxHeartbeats 4000000 in
set_option maxRecDepth 100000 in
theorem t_La_law_18 {X : gX} {r : (Int32 × gS)} {b L : Nat} {xs : Nat → Int32} (C : gC X b_La_law_c R_La 4 9 338) (hR : ∀ pc lv, isB r.1 = true → decode b_La_law_c pc = .ok (.ireturn, 1) → G X pc lv [.int r.1] r.2) (hX : va_X b L xs X.2.1.1 X.2.1.1.heap) (hbl : b < X.2.1.1.heap.size) (hbA : ¬ X.2.2.2.2.2.2 b) {k18 : Int32 × gS → Option (Int32 × gS)}  (hk18 : ∀ x, k18 x = some r → G X 18 [(0, .ref b), (1, .ref (gA X 0)), (2, .ref (gA X 46)), (3, .int x.1)] [] x.2) (x3 : Int32) (σ : gS) (h : b_La_law_18 L xs k18 x3 σ = some r) : G X 18 [(0, .ref b), (1, .ref (gA X 0)), (2, .ref (gA X 46)), (3, .int x3)] [] σ := by
  unfold b_La_law_18 at h
  refine r_iload_n C 3 d_La_law_18 rfl rfl ?_
  refine r_aload_n C 0 d_La_law_19 rfl rfl ?_
  refine r_slen C hX hbl hbA d_La_law_20 ?_
  refine r_iconst C (v := 5) d_La_law_21 (by decide) ?_
  refine r_isub C d_La_law_22 ?_
  refine r_icmp_gt C (tgt := 746) d_La_law_23 (by decide) (fun hc_1 => ?_) (fun hc_1 => ?_)
  · rw [if_pos hc_1] at h
    refine r_iconst C (v := 1) d_La_law_746 (by decide) ?_
    obtain ⟨hB, h⟩ := ck_some h
    cases h
    exact hR _ _ hB d_La_law_747
  · rw [if_neg hc_1] at h
    refine r_aload_n C 0 d_La_law_26 rfl rfl ?_
    refine r_iload_n C 3 d_La_law_27 rfl rfl ?_
    obtain ⟨hi_2, h⟩ := ck_some h
    refine r_sld C hX hbl hbA hi_2 d_La_law_28 ?_
    refine r_bipush C (v := 31) d_La_law_29 (by decide) ?_
    refine r_iand C d_La_law_31 ?_
    by_cases hc_3 : ((xs x3.toNatClampNeg) &&& 31) < 0
    · rw [if_pos hc_3] at h
      refine r_tabLo C (tgt := 740) d_La_law_32 hc_3 (by decide) (by decide) ?_
      exact t_La_law_740 C hR hX hbl hbA hk18 x3 σ h
    rw [if_neg hc_3] at h
    by_cases hc_4 : 17 < ((xs x3.toNatClampNeg) &&& 31)
    · rw [if_pos hc_4] at h
      refine r_tabHi C (tgt := 740) d_La_law_32 hc_4 (by decide) (by decide) ?_
      exact t_La_law_740 C hR hX hbl hbA hk18 x3 σ h
    rw [if_neg hc_4] at h
    by_cases hc_5 : ((xs x3.toNatClampNeg) &&& 31) = 0
    · rw [if_pos hc_5] at h
      refine r_tabIn C (tgt := 120) d_La_law_32 hc_5 (by decide) (by decide) rfl (by decide) ?_
      refine r_aload_n C 1 d_La_law_120 rfl rfl ?_
      obtain ⟨r_6, er_6, h⟩ := bind_some h
      refine r_callV C (As := []) (rest := []) (st1 := [.int r_6.1]) (c_Ga_clear X.1.2.1 σ  er_6) k_Ga_clear m_598 (by decide) cel_Ga rfl rfl rfl rfl (Nat.le_of_ble_eq_true rfl) ⟨Nat.le_of_ble_eq_true rfl, Nat.le_of_ble_eq_true rfl⟩ d_La_law_121 rfl ?_
      refine r_aload_n C 2 d_La_law_124 rfl rfl ?_
      obtain ⟨r_7, er_7, h⟩ := bind_some h
      refine r_callV C (As := []) (rest := [.int r_6.1]) (st1 := [.int r_7.1, .int r_6.1]) (c_Mo_clear X.1.2.1 r_6.2  er_7) k_Mo_clear m_602 (by decide) cel_Mo rfl rfl rfl rfl (Nat.le_of_ble_eq_true rfl) ⟨Nat.le_of_ble_eq_true rfl, Nat.le_of_ble_eq_true rfl⟩ d_La_law_125 rfl ?_
      refine r_icmp_eq C (tgt := 740) d_La_law_128 (by decide) (fun hc_8 => ?_) (fun hc_8 => ?_)
      · rw [if_pos hc_8] at h
        exact t_La_law_740 C hR hX hbl hbA hk18 x3 r_7.2 h
      · rw [if_neg hc_8] at h
        refine r_iconst C (v := 0) d_La_law_131 (by decide) ?_
        obtain ⟨hB, h⟩ := ck_some h
        cases h
        exact hR _ _ hB d_La_law_132
    rw [if_neg hc_5] at h
    by_cases hc_9 : ((xs x3.toNatClampNeg) &&& 31) = 1
    · rw [if_pos hc_9] at h
      refine r_tabIn C (tgt := 133) d_La_law_32 hc_9 (by decide) (by decide) rfl (by decide) ?_
      refine r_aload_n C 1 d_La_law_133 rfl rfl ?_
      refine r_aload_n C 0 d_La_law_134 rfl rfl ?_
      refine r_iload_n C 3 d_La_law_135 rfl rfl ?_
      refine r_iconst C (v := 1) d_La_law_136 (by decide) ?_
      refine r_iadd C d_La_law_137 ?_
      obtain ⟨hi_10, h⟩ := ck_some h
      refine r_sld C hX hbl hbA hi_10 d_La_law_138 ?_
      refine r_aload_n C 0 d_La_law_139 rfl rfl ?_
      refine r_iload_n C 3 d_La_law_140 rfl rfl ?_
      refine r_iconst C (v := 2) d_La_law_141 (by decide) ?_
      refine r_iadd C d_La_law_142 ?_
      obtain ⟨hi_11, h⟩ := ck_some h
      refine r_sld C hX hbl hbA hi_11 d_La_law_143 ?_
      obtain ⟨r_12, er_12, h⟩ := bind_some h
      refine r_callV C (As := [.int (xs (x3 + 1).toNatClampNeg), .int (xs (x3 + 2).toNatClampNeg)]) (rest := []) (st1 := [.int r_12.1]) (c_Ga_set X.1.2.1 σ (xs (x3 + 1).toNatClampNeg) (xs (x3 + 2).toNatClampNeg) er_12) k_Ga_set m_606 (by decide) cel_Ga rfl rfl rfl rfl (Nat.le_of_ble_eq_true rfl) ⟨Nat.le_of_ble_eq_true rfl, Nat.le_of_ble_eq_true rfl⟩ d_La_law_144 rfl ?_
      refine r_aload_n C 2 d_La_law_147 rfl rfl ?_
      refine r_aload_n C 0 d_La_law_148 rfl rfl ?_
      refine r_iload_n C 3 d_La_law_149 rfl rfl ?_
      refine r_iconst C (v := 1) d_La_law_150 (by decide) ?_
      refine r_iadd C d_La_law_151 ?_
      obtain ⟨hi_13, h⟩ := ck_some h
      refine r_sld C hX hbl hbA hi_13 d_La_law_152 ?_
      refine r_aload_n C 0 d_La_law_153 rfl rfl ?_
      refine r_iload_n C 3 d_La_law_154 rfl rfl ?_
      refine r_iconst C (v := 2) d_La_law_155 (by decide) ?_
      refine r_iadd C d_La_law_156 ?_
      obtain ⟨hi_14, h⟩ := ck_some h
      refine r_sld C hX hbl hbA hi_14 d_La_law_157 ?_
      obtain ⟨r_15, er_15, h⟩ := bind_some h
      refine r_callV C (As := [.int (xs (x3 + 1).toNatClampNeg), .int (xs (x3 + 2).toNatClampNeg)]) (rest := [.int r_12.1]) (st1 := [.int r_15.1, .int r_12.1]) (c_Mo_set X.1.2.1 r_12.2 (xs (x3 + 1).toNatClampNeg) (xs (x3 + 2).toNatClampNeg) er_15) k_Mo_set m_610 (by decide) cel_Mo rfl rfl rfl rfl (Nat.le_of_ble_eq_true rfl) ⟨Nat.le_of_ble_eq_true rfl, Nat.le_of_ble_eq_true rfl⟩ d_La_law_158 rfl ?_
      refine r_icmp_eq C (tgt := 740) d_La_law_161 (by decide) (fun hc_16 => ?_) (fun hc_16 => ?_)
      · rw [if_pos hc_16] at h
        exact t_La_law_740 C hR hX hbl hbA hk18 x3 r_15.2 h
      · rw [if_neg hc_16] at h
        refine r_iconst C (v := 0) d_La_law_164 (by decide) ?_
        obtain ⟨hB, h⟩ := ck_some h
        cases h
        exact hR _ _ hB d_La_law_165
    rw [if_neg hc_9] at h
    by_cases hc_17 : ((xs x3.toNatClampNeg) &&& 31) = 2
    · rw [if_pos hc_17] at h
      refine r_tabIn C (tgt := 166) d_La_law_32 hc_17 (by decide) (by decide) rfl (by decide) ?_
      refine r_aload_n C 1 d_La_law_166 rfl rfl ?_
      refine r_aload_n C 0 d_La_law_167 rfl rfl ?_
      refine r_iload_n C 3 d_La_law_168 rfl rfl ?_
      refine r_iconst C (v := 1) d_La_law_169 (by decide) ?_
      refine r_iadd C d_La_law_170 ?_
      obtain ⟨hi_18, h⟩ := ck_some h
      refine r_sld C hX hbl hbA hi_18 d_La_law_171 ?_
      refine r_aload_n C 0 d_La_law_172 rfl rfl ?_
      refine r_iload_n C 3 d_La_law_173 rfl rfl ?_
      refine r_iconst C (v := 2) d_La_law_174 (by decide) ?_
      refine r_iadd C d_La_law_175 ?_
      obtain ⟨hi_19, h⟩ := ck_some h
      refine r_sld C hX hbl hbA hi_19 d_La_law_176 ?_
      obtain ⟨r_20, er_20, h⟩ := bind_some h
      refine r_callV C (As := [.int (xs (x3 + 1).toNatClampNeg), .int (xs (x3 + 2).toNatClampNeg)]) (rest := []) (st1 := [.int r_20.1]) (c_Ga_end X.1.2.1 σ (xs (x3 + 1).toNatClampNeg) (xs (x3 + 2).toNatClampNeg) er_20) k_Ga_end m_614 (by decide) cel_Ga rfl rfl rfl rfl (Nat.le_of_ble_eq_true rfl) ⟨Nat.le_of_ble_eq_true rfl, Nat.le_of_ble_eq_true rfl⟩ d_La_law_177 rfl ?_
      refine r_aload_n C 2 d_La_law_180 rfl rfl ?_
      refine r_aload_n C 0 d_La_law_181 rfl rfl ?_
      refine r_iload_n C 3 d_La_law_182 rfl rfl ?_
      refine r_iconst C (v := 1) d_La_law_183 (by decide) ?_
      refine r_iadd C d_La_law_184 ?_
      obtain ⟨hi_21, h⟩ := ck_some h
      refine r_sld C hX hbl hbA hi_21 d_La_law_185 ?_
      refine r_aload_n C 0 d_La_law_186 rfl rfl ?_
      refine r_iload_n C 3 d_La_law_187 rfl rfl ?_
      refine r_iconst C (v := 2) d_La_law_188 (by decide) ?_
      refine r_iadd C d_La_law_189 ?_
      obtain ⟨hi_22, h⟩ := ck_some h
      refine r_sld C hX hbl hbA hi_22 d_La_law_190 ?_
      obtain ⟨r_23, er_23, h⟩ := bind_some h
      refine r_callV C (As := [.int (xs (x3 + 1).toNatClampNeg), .int (xs (x3 + 2).toNatClampNeg)]) (rest := [.int r_20.1]) (st1 := [.int r_23.1, .int r_20.1]) (c_Mo_end X.1.2.1 r_20.2 (xs (x3 + 1).toNatClampNeg) (xs (x3 + 2).toNatClampNeg) er_23) k_Mo_end m_618 (by decide) cel_Mo rfl rfl rfl rfl (Nat.le_of_ble_eq_true rfl) ⟨Nat.le_of_ble_eq_true rfl, Nat.le_of_ble_eq_true rfl⟩ d_La_law_191 rfl ?_
      refine r_icmp_eq C (tgt := 740) d_La_law_194 (by decide) (fun hc_24 => ?_) (fun hc_24 => ?_)
      · rw [if_pos hc_24] at h
        exact t_La_law_740 C hR hX hbl hbA hk18 x3 r_23.2 h
      · rw [if_neg hc_24] at h
        refine r_iconst C (v := 0) d_La_law_197 (by decide) ?_
        obtain ⟨hB, h⟩ := ck_some h
        cases h
        exact hR _ _ hB d_La_law_198
    rw [if_neg hc_17] at h
    by_cases hc_25 : ((xs x3.toNatClampNeg) &&& 31) = 3
    · rw [if_pos hc_25] at h
      refine r_tabIn C (tgt := 199) d_La_law_32 hc_25 (by decide) (by decide) rfl (by decide) ?_
      refine r_aload_n C 1 d_La_law_199 rfl rfl ?_
      refine r_aload_n C 0 d_La_law_200 rfl rfl ?_
      refine r_iload_n C 3 d_La_law_201 rfl rfl ?_
      refine r_iconst C (v := 1) d_La_law_202 (by decide) ?_
      refine r_iadd C d_La_law_203 ?_
      obtain ⟨hi_26, h⟩ := ck_some h
      refine r_sld C hX hbl hbA hi_26 d_La_law_204 ?_
      refine r_aload_n C 0 d_La_law_205 rfl rfl ?_
      refine r_iload_n C 3 d_La_law_206 rfl rfl ?_
      refine r_iconst C (v := 2) d_La_law_207 (by decide) ?_
      refine r_iadd C d_La_law_208 ?_
      obtain ⟨hi_27, h⟩ := ck_some h
      refine r_sld C hX hbl hbA hi_27 d_La_law_209 ?_
      refine r_aload_n C 0 d_La_law_210 rfl rfl ?_
      refine r_iload_n C 3 d_La_law_211 rfl rfl ?_
      refine r_iconst C (v := 3) d_La_law_212 (by decide) ?_
      refine r_iadd C d_La_law_213 ?_
      obtain ⟨hi_28, h⟩ := ck_some h
      refine r_sld C hX hbl hbA hi_28 d_La_law_214 ?_
      obtain ⟨r_29, er_29, h⟩ := bind_some h
      refine r_callV C (As := [.int (xs (x3 + 1).toNatClampNeg), .int (xs (x3 + 2).toNatClampNeg), .int (xs (x3 + 3).toNatClampNeg)]) (rest := []) (st1 := [.int r_29.1]) (c_Ga_chance X.1.2.1 σ (xs (x3 + 1).toNatClampNeg) (xs (x3 + 2).toNatClampNeg) (xs (x3 + 3).toNatClampNeg) er_29) k_Ga_chance m_622 (by decide) cel_Ga rfl rfl rfl rfl (Nat.le_of_ble_eq_true rfl) ⟨Nat.le_of_ble_eq_true rfl, Nat.le_of_ble_eq_true rfl⟩ d_La_law_215 rfl ?_
      refine r_aload_n C 2 d_La_law_218 rfl rfl ?_
      refine r_aload_n C 0 d_La_law_219 rfl rfl ?_
      refine r_iload_n C 3 d_La_law_220 rfl rfl ?_
      refine r_iconst C (v := 1) d_La_law_221 (by decide) ?_
      refine r_iadd C d_La_law_222 ?_
      obtain ⟨hi_30, h⟩ := ck_some h
      refine r_sld C hX hbl hbA hi_30 d_La_law_223 ?_
      refine r_aload_n C 0 d_La_law_224 rfl rfl ?_
      refine r_iload_n C 3 d_La_law_225 rfl rfl ?_
      refine r_iconst C (v := 2) d_La_law_226 (by decide) ?_
      refine r_iadd C d_La_law_227 ?_
      obtain ⟨hi_31, h⟩ := ck_some h
      refine r_sld C hX hbl hbA hi_31 d_La_law_228 ?_
      refine r_aload_n C 0 d_La_law_229 rfl rfl ?_
      refine r_iload_n C 3 d_La_law_230 rfl rfl ?_
      refine r_iconst C (v := 3) d_La_law_231 (by decide) ?_
      refine r_iadd C d_La_law_232 ?_
      obtain ⟨hi_32, h⟩ := ck_some h
      refine r_sld C hX hbl hbA hi_32 d_La_law_233 ?_
      obtain ⟨r_33, er_33, h⟩ := bind_some h
      refine r_callV C (As := [.int (xs (x3 + 1).toNatClampNeg), .int (xs (x3 + 2).toNatClampNeg), .int (xs (x3 + 3).toNatClampNeg)]) (rest := [.int r_29.1]) (st1 := [.int r_33.1, .int r_29.1]) (c_Mo_chance X.1.2.1 r_29.2 (xs (x3 + 1).toNatClampNeg) (xs (x3 + 2).toNatClampNeg) (xs (x3 + 3).toNatClampNeg) er_33) k_Mo_chance m_626 (by decide) cel_Mo rfl rfl rfl rfl (Nat.le_of_ble_eq_true rfl) ⟨Nat.le_of_ble_eq_true rfl, Nat.le_of_ble_eq_true rfl⟩ d_La_law_234 rfl ?_
      refine r_icmp_eq C (tgt := 740) d_La_law_237 (by decide) (fun hc_34 => ?_) (fun hc_34 => ?_)
      · rw [if_pos hc_34] at h
        exact t_La_law_740 C hR hX hbl hbA hk18 x3 r_33.2 h
      · rw [if_neg hc_34] at h
        refine r_iconst C (v := 0) d_La_law_240 (by decide) ?_
        obtain ⟨hB, h⟩ := ck_some h
        cases h
        exact hR _ _ hB d_La_law_241
    rw [if_neg hc_25] at h
    by_cases hc_35 : ((xs x3.toNatClampNeg) &&& 31) = 4
    · rw [if_pos hc_35] at h
      refine r_tabIn C (tgt := 242) d_La_law_32 hc_35 (by decide) (by decide) rfl (by decide) ?_
      refine r_aload_n C 1 d_La_law_242 rfl rfl ?_
      refine r_aload_n C 0 d_La_law_243 rfl rfl ?_
      refine r_iload_n C 3 d_La_law_244 rfl rfl ?_
      refine r_iconst C (v := 1) d_La_law_245 (by decide) ?_
      refine r_iadd C d_La_law_246 ?_
      obtain ⟨hi_36, h⟩ := ck_some h
      refine r_sld C hX hbl hbA hi_36 d_La_law_247 ?_
      refine r_aload_n C 0 d_La_law_248 rfl rfl ?_
      refine r_iload_n C 3 d_La_law_249 rfl rfl ?_
      refine r_iconst C (v := 2) d_La_law_250 (by decide) ?_
      refine r_iadd C d_La_law_251 ?_
      obtain ⟨hi_37, h⟩ := ck_some h
      refine r_sld C hX hbl hbA hi_37 d_La_law_252 ?_
      refine r_aload_n C 0 d_La_law_253 rfl rfl ?_
      refine r_iload_n C 3 d_La_law_254 rfl rfl ?_
      refine r_iconst C (v := 3) d_La_law_255 (by decide) ?_
      refine r_iadd C d_La_law_256 ?_
      obtain ⟨hi_38, h⟩ := ck_some h
      refine r_sld C hX hbl hbA hi_38 d_La_law_257 ?_
      refine r_aload_n C 0 d_La_law_258 rfl rfl ?_
      refine r_iload_n C 3 d_La_law_259 rfl rfl ?_
      refine r_iconst C (v := 4) d_La_law_260 (by decide) ?_
      refine r_iadd C d_La_law_261 ?_
      obtain ⟨hi_39, h⟩ := ck_some h
      refine r_sld C hX hbl hbA hi_39 d_La_law_262 ?_
      obtain ⟨r_40, er_40, h⟩ := bind_some h
      refine r_callV C (As := [.int (xs (x3 + 1).toNatClampNeg), .int (xs (x3 + 2).toNatClampNeg), .int (xs (x3 + 3).toNatClampNeg), .int (xs (x3 + 4).toNatClampNeg)]) (rest := []) (st1 := [.int r_40.1]) (c_Ga_node X.1.2.1 σ (xs (x3 + 1).toNatClampNeg) (xs (x3 + 2).toNatClampNeg) (xs (x3 + 3).toNatClampNeg) (xs (x3 + 4).toNatClampNeg) er_40) k_Ga_node m_630 (by decide) cel_Ga rfl rfl rfl rfl (Nat.le_of_ble_eq_true rfl) ⟨Nat.le_of_ble_eq_true rfl, Nat.le_of_ble_eq_true rfl⟩ d_La_law_263 rfl ?_
      refine r_aload_n C 2 d_La_law_266 rfl rfl ?_
      refine r_aload_n C 0 d_La_law_267 rfl rfl ?_
      refine r_iload_n C 3 d_La_law_268 rfl rfl ?_
      refine r_iconst C (v := 1) d_La_law_269 (by decide) ?_
      refine r_iadd C d_La_law_270 ?_
      obtain ⟨hi_41, h⟩ := ck_some h
      refine r_sld C hX hbl hbA hi_41 d_La_law_271 ?_
      refine r_aload_n C 0 d_La_law_272 rfl rfl ?_
      refine r_iload_n C 3 d_La_law_273 rfl rfl ?_
      refine r_iconst C (v := 2) d_La_law_274 (by decide) ?_
      refine r_iadd C d_La_law_275 ?_
      obtain ⟨hi_42, h⟩ := ck_some h
      refine r_sld C hX hbl hbA hi_42 d_La_law_276 ?_
      refine r_aload_n C 0 d_La_law_277 rfl rfl ?_
      refine r_iload_n C 3 d_La_law_278 rfl rfl ?_
      refine r_iconst C (v := 3) d_La_law_279 (by decide) ?_
      refine r_iadd C d_La_law_280 ?_
      obtain ⟨hi_43, h⟩ := ck_some h
      refine r_sld C hX hbl hbA hi_43 d_La_law_281 ?_
      refine r_aload_n C 0 d_La_law_282 rfl rfl ?_
      refine r_iload_n C 3 d_La_law_283 rfl rfl ?_
      refine r_iconst C (v := 4) d_La_law_284 (by decide) ?_
      refine r_iadd C d_La_law_285 ?_
      obtain ⟨hi_44, h⟩ := ck_some h
      refine r_sld C hX hbl hbA hi_44 d_La_law_286 ?_
      obtain ⟨r_45, er_45, h⟩ := bind_some h
      refine r_callV C (As := [.int (xs (x3 + 1).toNatClampNeg), .int (xs (x3 + 2).toNatClampNeg), .int (xs (x3 + 3).toNatClampNeg), .int (xs (x3 + 4).toNatClampNeg)]) (rest := [.int r_40.1]) (st1 := [.int r_45.1, .int r_40.1]) (c_Mo_node X.1.2.1 r_40.2 (xs (x3 + 1).toNatClampNeg) (xs (x3 + 2).toNatClampNeg) (xs (x3 + 3).toNatClampNeg) (xs (x3 + 4).toNatClampNeg) er_45) k_Mo_node m_634 (by decide) cel_Mo rfl rfl rfl rfl (Nat.le_of_ble_eq_true rfl) ⟨Nat.le_of_ble_eq_true rfl, Nat.le_of_ble_eq_true rfl⟩ d_La_law_287 rfl ?_
      refine r_icmp_eq C (tgt := 740) d_La_law_290 (by decide) (fun hc_46 => ?_) (fun hc_46 => ?_)
      · rw [if_pos hc_46] at h
        exact t_La_law_740 C hR hX hbl hbA hk18 x3 r_45.2 h
      · rw [if_neg hc_46] at h
        refine r_iconst C (v := 0) d_La_law_293 (by decide) ?_
        obtain ⟨hB, h⟩ := ck_some h
        cases h
        exact hR _ _ hB d_La_law_294
    rw [if_neg hc_35] at h
    by_cases hc_47 : ((xs x3.toNatClampNeg) &&& 31) = 5
    · rw [if_pos hc_47] at h
      refine r_tabIn C (tgt := 295) d_La_law_32 hc_47 (by decide) (by decide) rfl (by decide) ?_
      refine r_aload_n C 1 d_La_law_295 rfl rfl ?_
      refine r_aload_n C 0 d_La_law_296 rfl rfl ?_
      refine r_iload_n C 3 d_La_law_297 rfl rfl ?_
      refine r_iconst C (v := 1) d_La_law_298 (by decide) ?_
      refine r_iadd C d_La_law_299 ?_
      obtain ⟨hi_48, h⟩ := ck_some h
      refine r_sld C hX hbl hbA hi_48 d_La_law_300 ?_
      obtain ⟨r_49, er_49, h⟩ := bind_some h
      refine r_callV C (As := [.int (xs (x3 + 1).toNatClampNeg)]) (rest := []) (st1 := [.int r_49.1]) (c_Ga_count X.1.2.1 σ (xs (x3 + 1).toNatClampNeg) er_49) k_Ga_count m_638 (by decide) cel_Ga rfl rfl rfl rfl (Nat.le_of_ble_eq_true rfl) ⟨Nat.le_of_ble_eq_true rfl, Nat.le_of_ble_eq_true rfl⟩ d_La_law_301 rfl ?_
      refine r_aload_n C 2 d_La_law_304 rfl rfl ?_
      refine r_aload_n C 0 d_La_law_305 rfl rfl ?_
      refine r_iload_n C 3 d_La_law_306 rfl rfl ?_
      refine r_iconst C (v := 1) d_La_law_307 (by decide) ?_
      refine r_iadd C d_La_law_308 ?_
      obtain ⟨hi_50, h⟩ := ck_some h
      refine r_sld C hX hbl hbA hi_50 d_La_law_309 ?_
      obtain ⟨r_51, er_51, h⟩ := bind_some h
      refine r_callV C (As := [.int (xs (x3 + 1).toNatClampNeg)]) (rest := [.int r_49.1]) (st1 := [.int r_51.1, .int r_49.1]) (c_Mo_count X.1.2.1 r_49.2 (xs (x3 + 1).toNatClampNeg) er_51) k_Mo_count m_642 (by decide) cel_Mo rfl rfl rfl rfl (Nat.le_of_ble_eq_true rfl) ⟨Nat.le_of_ble_eq_true rfl, Nat.le_of_ble_eq_true rfl⟩ d_La_law_310 rfl ?_
      refine r_icmp_eq C (tgt := 740) d_La_law_313 (by decide) (fun hc_52 => ?_) (fun hc_52 => ?_)
      · rw [if_pos hc_52] at h
        exact t_La_law_740 C hR hX hbl hbA hk18 x3 r_51.2 h
      · rw [if_neg hc_52] at h
        refine r_iconst C (v := 0) d_La_law_316 (by decide) ?_
        obtain ⟨hB, h⟩ := ck_some h
        cases h
        exact hR _ _ hB d_La_law_317
    rw [if_neg hc_47] at h
    by_cases hc_53 : ((xs x3.toNatClampNeg) &&& 31) = 6
    · rw [if_pos hc_53] at h
      refine r_tabIn C (tgt := 318) d_La_law_32 hc_53 (by decide) (by decide) rfl (by decide) ?_
      refine r_aload_n C 1 d_La_law_318 rfl rfl ?_
      refine r_aload_n C 0 d_La_law_319 rfl rfl ?_
      refine r_iload_n C 3 d_La_law_320 rfl rfl ?_
      refine r_iconst C (v := 1) d_La_law_321 (by decide) ?_
      refine r_iadd C d_La_law_322 ?_
      obtain ⟨hi_54, h⟩ := ck_some h
      refine r_sld C hX hbl hbA hi_54 d_La_law_323 ?_
      refine r_aload_n C 0 d_La_law_324 rfl rfl ?_
      refine r_iload_n C 3 d_La_law_325 rfl rfl ?_
      refine r_iconst C (v := 2) d_La_law_326 (by decide) ?_
      refine r_iadd C d_La_law_327 ?_
      obtain ⟨hi_55, h⟩ := ck_some h
      refine r_sld C hX hbl hbA hi_55 d_La_law_328 ?_
      obtain ⟨r_56, er_56, h⟩ := bind_some h
      refine r_callV C (As := [.int (xs (x3 + 1).toNatClampNeg), .int (xs (x3 + 2).toNatClampNeg)]) (rest := []) (st1 := [.int r_56]) (c_Ga_told X.1.2.1 σ (xs (x3 + 1).toNatClampNeg) (xs (x3 + 2).toNatClampNeg) er_56) k_Ga_told m_646 (by decide) cel_Ga rfl rfl rfl rfl (Nat.le_of_ble_eq_true rfl) ⟨Nat.le_of_ble_eq_true rfl, Nat.le_of_ble_eq_true rfl⟩ d_La_law_329 rfl ?_
      refine r_aload_n C 2 d_La_law_332 rfl rfl ?_
      refine r_aload_n C 0 d_La_law_333 rfl rfl ?_
      refine r_iload_n C 3 d_La_law_334 rfl rfl ?_
      refine r_iconst C (v := 1) d_La_law_335 (by decide) ?_
      refine r_iadd C d_La_law_336 ?_
      obtain ⟨hi_57, h⟩ := ck_some h
      refine r_sld C hX hbl hbA hi_57 d_La_law_337 ?_
      refine r_aload_n C 0 d_La_law_338 rfl rfl ?_
      refine r_iload_n C 3 d_La_law_339 rfl rfl ?_
      refine r_iconst C (v := 2) d_La_law_340 (by decide) ?_
      refine r_iadd C d_La_law_341 ?_
      obtain ⟨hi_58, h⟩ := ck_some h
      refine r_sld C hX hbl hbA hi_58 d_La_law_342 ?_
      obtain ⟨r_59, er_59, h⟩ := bind_some h
      refine r_callV C (As := [.int (xs (x3 + 1).toNatClampNeg), .int (xs (x3 + 2).toNatClampNeg)]) (rest := [.int r_56]) (st1 := [.int r_59, .int r_56]) (c_Mo_told X.1.2.1 σ (xs (x3 + 1).toNatClampNeg) (xs (x3 + 2).toNatClampNeg) er_59) k_Mo_told m_650 (by decide) cel_Mo rfl rfl rfl rfl (Nat.le_of_ble_eq_true rfl) ⟨Nat.le_of_ble_eq_true rfl, Nat.le_of_ble_eq_true rfl⟩ d_La_law_343 rfl ?_
      refine r_icmp_eq C (tgt := 740) d_La_law_346 (by decide) (fun hc_60 => ?_) (fun hc_60 => ?_)
      · rw [if_pos hc_60] at h
        exact t_La_law_740 C hR hX hbl hbA hk18 x3 σ h
      · rw [if_neg hc_60] at h
        refine r_iconst C (v := 0) d_La_law_349 (by decide) ?_
        obtain ⟨hB, h⟩ := ck_some h
        cases h
        exact hR _ _ hB d_La_law_350
    rw [if_neg hc_53] at h
    by_cases hc_61 : ((xs x3.toNatClampNeg) &&& 31) = 7
    · rw [if_pos hc_61] at h
      refine r_tabIn C (tgt := 351) d_La_law_32 hc_61 (by decide) (by decide) rfl (by decide) ?_
      refine r_aload_n C 1 d_La_law_351 rfl rfl ?_
      refine r_aload_n C 0 d_La_law_352 rfl rfl ?_
      refine r_iload_n C 3 d_La_law_353 rfl rfl ?_
      refine r_iconst C (v := 1) d_La_law_354 (by decide) ?_
      refine r_iadd C d_La_law_355 ?_
      obtain ⟨hi_62, h⟩ := ck_some h
      refine r_sld C hX hbl hbA hi_62 d_La_law_356 ?_
      refine r_aload_n C 0 d_La_law_357 rfl rfl ?_
      refine r_iload_n C 3 d_La_law_358 rfl rfl ?_
      refine r_iconst C (v := 2) d_La_law_359 (by decide) ?_
      refine r_iadd C d_La_law_360 ?_
      obtain ⟨hi_63, h⟩ := ck_some h
      refine r_sld C hX hbl hbA hi_63 d_La_law_361 ?_
      refine r_aload_n C 0 d_La_law_362 rfl rfl ?_
      refine r_iload_n C 3 d_La_law_363 rfl rfl ?_
      refine r_iconst C (v := 3) d_La_law_364 (by decide) ?_
      refine r_iadd C d_La_law_365 ?_
      obtain ⟨hi_64, h⟩ := ck_some h
      refine r_sld C hX hbl hbA hi_64 d_La_law_366 ?_
      obtain ⟨r_65, er_65, h⟩ := bind_some h
      refine r_callV C (As := [.int (xs (x3 + 1).toNatClampNeg), .int (xs (x3 + 2).toNatClampNeg), .int (xs (x3 + 3).toNatClampNeg)]) (rest := []) (st1 := [.int r_65]) (c_Ga_act X.1.2.1 σ (xs (x3 + 1).toNatClampNeg) (xs (x3 + 2).toNatClampNeg) (xs (x3 + 3).toNatClampNeg) er_65) k_Ga_act m_654 (by decide) cel_Ga rfl rfl rfl rfl (Nat.le_of_ble_eq_true rfl) ⟨Nat.le_of_ble_eq_true rfl, Nat.le_of_ble_eq_true rfl⟩ d_La_law_367 rfl ?_
      refine r_aload_n C 2 d_La_law_370 rfl rfl ?_
      refine r_aload_n C 0 d_La_law_371 rfl rfl ?_
      refine r_iload_n C 3 d_La_law_372 rfl rfl ?_
      refine r_iconst C (v := 1) d_La_law_373 (by decide) ?_
      refine r_iadd C d_La_law_374 ?_
      obtain ⟨hi_66, h⟩ := ck_some h
      refine r_sld C hX hbl hbA hi_66 d_La_law_375 ?_
      refine r_aload_n C 0 d_La_law_376 rfl rfl ?_
      refine r_iload_n C 3 d_La_law_377 rfl rfl ?_
      refine r_iconst C (v := 2) d_La_law_378 (by decide) ?_
      refine r_iadd C d_La_law_379 ?_
      obtain ⟨hi_67, h⟩ := ck_some h
      refine r_sld C hX hbl hbA hi_67 d_La_law_380 ?_
      refine r_aload_n C 0 d_La_law_381 rfl rfl ?_
      refine r_iload_n C 3 d_La_law_382 rfl rfl ?_
      refine r_iconst C (v := 3) d_La_law_383 (by decide) ?_
      refine r_iadd C d_La_law_384 ?_
      obtain ⟨hi_68, h⟩ := ck_some h
      refine r_sld C hX hbl hbA hi_68 d_La_law_385 ?_
      obtain ⟨r_69, er_69, h⟩ := bind_some h
      refine r_callV C (As := [.int (xs (x3 + 1).toNatClampNeg), .int (xs (x3 + 2).toNatClampNeg), .int (xs (x3 + 3).toNatClampNeg)]) (rest := [.int r_65]) (st1 := [.int r_69.1, .int r_65]) (c_Mo_act X.1.2.1 σ (xs (x3 + 1).toNatClampNeg) (xs (x3 + 2).toNatClampNeg) (xs (x3 + 3).toNatClampNeg) er_69) k_Mo_act m_658 (by decide) cel_Mo rfl rfl rfl rfl (Nat.le_of_ble_eq_true rfl) ⟨Nat.le_of_ble_eq_true rfl, Nat.le_of_ble_eq_true rfl⟩ d_La_law_386 rfl ?_
      refine r_icmp_eq C (tgt := 740) d_La_law_389 (by decide) (fun hc_70 => ?_) (fun hc_70 => ?_)
      · rw [if_pos hc_70] at h
        exact t_La_law_740 C hR hX hbl hbA hk18 x3 r_69.2 h
      · rw [if_neg hc_70] at h
        refine r_iconst C (v := 0) d_La_law_392 (by decide) ?_
        obtain ⟨hB, h⟩ := ck_some h
        cases h
        exact hR _ _ hB d_La_law_393
    rw [if_neg hc_61] at h
    by_cases hc_71 : ((xs x3.toNatClampNeg) &&& 31) = 8
    · rw [if_pos hc_71] at h
      refine r_tabIn C (tgt := 394) d_La_law_32 hc_71 (by decide) (by decide) rfl (by decide) ?_
      refine r_aload_n C 1 d_La_law_394 rfl rfl ?_
      refine r_aload_n C 0 d_La_law_395 rfl rfl ?_
      refine r_iload_n C 3 d_La_law_396 rfl rfl ?_
      refine r_iconst C (v := 1) d_La_law_397 (by decide) ?_
      refine r_iadd C d_La_law_398 ?_
      obtain ⟨hi_72, h⟩ := ck_some h
      refine r_sld C hX hbl hbA hi_72 d_La_law_399 ?_
      refine r_aload_n C 0 d_La_law_400 rfl rfl ?_
      refine r_iload_n C 3 d_La_law_401 rfl rfl ?_
      refine r_iconst C (v := 2) d_La_law_402 (by decide) ?_
      refine r_iadd C d_La_law_403 ?_
      obtain ⟨hi_73, h⟩ := ck_some h
      refine r_sld C hX hbl hbA hi_73 d_La_law_404 ?_
      refine r_aload_n C 0 d_La_law_405 rfl rfl ?_
      refine r_iload_n C 3 d_La_law_406 rfl rfl ?_
      refine r_iconst C (v := 3) d_La_law_407 (by decide) ?_
      refine r_iadd C d_La_law_408 ?_
      obtain ⟨hi_74, h⟩ := ck_some h
      refine r_sld C hX hbl hbA hi_74 d_La_law_409 ?_
      obtain ⟨r_75, er_75, h⟩ := bind_some h
      refine r_callV C (As := [.int (xs (x3 + 1).toNatClampNeg), .int (xs (x3 + 2).toNatClampNeg), .int (xs (x3 + 3).toNatClampNeg)]) (rest := []) (st1 := [.int r_75.1]) (c_Ga_worth X.1.2.1 σ (xs (x3 + 1).toNatClampNeg) (xs (x3 + 2).toNatClampNeg) (xs (x3 + 3).toNatClampNeg) er_75) k_Ga_worth m_662 (by decide) cel_Ga rfl rfl rfl rfl (Nat.le_of_ble_eq_true rfl) ⟨Nat.le_of_ble_eq_true rfl, Nat.le_of_ble_eq_true rfl⟩ d_La_law_410 rfl ?_
      refine r_aload_n C 2 d_La_law_413 rfl rfl ?_
      refine r_aload_n C 0 d_La_law_414 rfl rfl ?_
      refine r_iload_n C 3 d_La_law_415 rfl rfl ?_
      refine r_iconst C (v := 1) d_La_law_416 (by decide) ?_
      refine r_iadd C d_La_law_417 ?_
      obtain ⟨hi_76, h⟩ := ck_some h
      refine r_sld C hX hbl hbA hi_76 d_La_law_418 ?_
      refine r_aload_n C 0 d_La_law_419 rfl rfl ?_
      refine r_iload_n C 3 d_La_law_420 rfl rfl ?_
      refine r_iconst C (v := 2) d_La_law_421 (by decide) ?_
      refine r_iadd C d_La_law_422 ?_
      obtain ⟨hi_77, h⟩ := ck_some h
      refine r_sld C hX hbl hbA hi_77 d_La_law_423 ?_
      refine r_aload_n C 0 d_La_law_424 rfl rfl ?_
      refine r_iload_n C 3 d_La_law_425 rfl rfl ?_
      refine r_iconst C (v := 3) d_La_law_426 (by decide) ?_
      refine r_iadd C d_La_law_427 ?_
      obtain ⟨hi_78, h⟩ := ck_some h
      refine r_sld C hX hbl hbA hi_78 d_La_law_428 ?_
      obtain ⟨r_79, er_79, h⟩ := bind_some h
      refine r_callV C (As := [.int (xs (x3 + 1).toNatClampNeg), .int (xs (x3 + 2).toNatClampNeg), .int (xs (x3 + 3).toNatClampNeg)]) (rest := [.int r_75.1]) (st1 := [.int r_79.1, .int r_75.1]) (c_Mo_worth X.1.2.1 r_75.2 (xs (x3 + 1).toNatClampNeg) (xs (x3 + 2).toNatClampNeg) (xs (x3 + 3).toNatClampNeg) er_79) k_Mo_worth m_666 (by decide) cel_Mo rfl rfl rfl rfl (Nat.le_of_ble_eq_true rfl) ⟨Nat.le_of_ble_eq_true rfl, Nat.le_of_ble_eq_true rfl⟩ d_La_law_429 rfl ?_
      refine r_icmp_eq C (tgt := 740) d_La_law_432 (by decide) (fun hc_80 => ?_) (fun hc_80 => ?_)
      · rw [if_pos hc_80] at h
        exact t_La_law_740 C hR hX hbl hbA hk18 x3 r_79.2 h
      · rw [if_neg hc_80] at h
        refine r_iconst C (v := 0) d_La_law_435 (by decide) ?_
        obtain ⟨hB, h⟩ := ck_some h
        cases h
        exact hR _ _ hB d_La_law_436
    rw [if_neg hc_71] at h
    by_cases hc_81 : ((xs x3.toNatClampNeg) &&& 31) = 9
    · rw [if_pos hc_81] at h
      refine r_tabIn C (tgt := 437) d_La_law_32 hc_81 (by decide) (by decide) rfl (by decide) ?_
      refine r_aload_n C 1 d_La_law_437 rfl rfl ?_
      refine r_aload_n C 0 d_La_law_438 rfl rfl ?_
      refine r_iload_n C 3 d_La_law_439 rfl rfl ?_
      refine r_iconst C (v := 1) d_La_law_440 (by decide) ?_
      refine r_iadd C d_La_law_441 ?_
      obtain ⟨hi_82, h⟩ := ck_some h
      refine r_sld C hX hbl hbA hi_82 d_La_law_442 ?_
      refine r_aload_n C 0 d_La_law_443 rfl rfl ?_
      refine r_iload_n C 3 d_La_law_444 rfl rfl ?_
      refine r_iconst C (v := 2) d_La_law_445 (by decide) ?_
      refine r_iadd C d_La_law_446 ?_
      obtain ⟨hi_83, h⟩ := ck_some h
      refine r_sld C hX hbl hbA hi_83 d_La_law_447 ?_
      obtain ⟨r_84, er_84, h⟩ := bind_some h
      refine r_callV C (As := [.int (xs (x3 + 1).toNatClampNeg), .int (xs (x3 + 2).toNatClampNeg)]) (rest := []) (st1 := [.int r_84.1]) (c_Ga_answer X.1.2.1 σ (xs (x3 + 1).toNatClampNeg) (xs (x3 + 2).toNatClampNeg) er_84) k_Ga_answer m_670 (by decide) cel_Ga rfl rfl rfl rfl (Nat.le_of_ble_eq_true rfl) ⟨Nat.le_of_ble_eq_true rfl, Nat.le_of_ble_eq_true rfl⟩ d_La_law_448 rfl ?_
      refine r_aload_n C 2 d_La_law_451 rfl rfl ?_
      refine r_aload_n C 0 d_La_law_452 rfl rfl ?_
      refine r_iload_n C 3 d_La_law_453 rfl rfl ?_
      refine r_iconst C (v := 1) d_La_law_454 (by decide) ?_
      refine r_iadd C d_La_law_455 ?_
      obtain ⟨hi_85, h⟩ := ck_some h
      refine r_sld C hX hbl hbA hi_85 d_La_law_456 ?_
      refine r_aload_n C 0 d_La_law_457 rfl rfl ?_
      refine r_iload_n C 3 d_La_law_458 rfl rfl ?_
      refine r_iconst C (v := 2) d_La_law_459 (by decide) ?_
      refine r_iadd C d_La_law_460 ?_
      obtain ⟨hi_86, h⟩ := ck_some h
      refine r_sld C hX hbl hbA hi_86 d_La_law_461 ?_
      obtain ⟨r_87, er_87, h⟩ := bind_some h
      refine r_callV C (As := [.int (xs (x3 + 1).toNatClampNeg), .int (xs (x3 + 2).toNatClampNeg)]) (rest := [.int r_84.1]) (st1 := [.int r_87.1, .int r_84.1]) (c_Mo_answer X.1.2.1 r_84.2 (xs (x3 + 1).toNatClampNeg) (xs (x3 + 2).toNatClampNeg) er_87) k_Mo_answer m_674 (by decide) cel_Mo rfl rfl rfl rfl (Nat.le_of_ble_eq_true rfl) ⟨Nat.le_of_ble_eq_true rfl, Nat.le_of_ble_eq_true rfl⟩ d_La_law_462 rfl ?_
      refine r_icmp_eq C (tgt := 740) d_La_law_465 (by decide) (fun hc_88 => ?_) (fun hc_88 => ?_)
      · rw [if_pos hc_88] at h
        exact t_La_law_740 C hR hX hbl hbA hk18 x3 r_87.2 h
      · rw [if_neg hc_88] at h
        refine r_iconst C (v := 0) d_La_law_468 (by decide) ?_
        obtain ⟨hB, h⟩ := ck_some h
        cases h
        exact hR _ _ hB d_La_law_469
    rw [if_neg hc_81] at h
    by_cases hc_89 : ((xs x3.toNatClampNeg) &&& 31) = 10
    · rw [if_pos hc_89] at h
      refine r_tabIn C (tgt := 470) d_La_law_32 hc_89 (by decide) (by decide) rfl (by decide) ?_
      refine r_aload_n C 1 d_La_law_470 rfl rfl ?_
      refine r_aload_n C 0 d_La_law_471 rfl rfl ?_
      refine r_iload_n C 3 d_La_law_472 rfl rfl ?_
      refine r_iconst C (v := 1) d_La_law_473 (by decide) ?_
      refine r_iadd C d_La_law_474 ?_
      obtain ⟨hi_90, h⟩ := ck_some h
      refine r_sld C hX hbl hbA hi_90 d_La_law_475 ?_
      refine r_if_eq C (tgt := 483) d_La_law_476 (by decide) (fun hc_91 => ?_) (fun hc_91 => ?_)
      · rw [if_pos hc_91] at h
        refine r_iconst C (v := 0) d_La_law_483 (by decide) ?_
        exact t_La_law_484 C hR hX hbl hbA hk18 x3 0 σ h
      · rw [if_neg hc_91] at h
        refine r_iconst C (v := 1) d_La_law_479 (by decide) ?_
        refine r_goto C (tgt := 484) d_La_law_480 (by decide) ?_
        exact t_La_law_484 C hR hX hbl hbA hk18 x3 1 σ h
    rw [if_neg hc_89] at h
    by_cases hc_92 : ((xs x3.toNatClampNeg) &&& 31) = 11
    · rw [if_pos hc_92] at h
      refine r_tabIn C (tgt := 519) d_La_law_32 hc_92 (by decide) (by decide) rfl (by decide) ?_
      refine r_aload_n C 1 d_La_law_519 rfl rfl ?_
      refine r_aload_n C 0 d_La_law_520 rfl rfl ?_
      refine r_iload_n C 3 d_La_law_521 rfl rfl ?_
      refine r_iconst C (v := 1) d_La_law_522 (by decide) ?_
      refine r_iadd C d_La_law_523 ?_
      obtain ⟨hi_93, h⟩ := ck_some h
      refine r_sld C hX hbl hbA hi_93 d_La_law_524 ?_
      obtain ⟨r_94, er_94, h⟩ := bind_some h
      refine r_callV C (As := [.int (xs (x3 + 1).toNatClampNeg)]) (rest := []) (st1 := [.int r_94]) (c_Ga_within X.1.2.1 σ (xs (x3 + 1).toNatClampNeg) er_94) k_Ga_within m_678 (by decide) cel_Ga rfl rfl rfl rfl (Nat.le_of_ble_eq_true rfl) ⟨Nat.le_of_ble_eq_true rfl, Nat.le_of_ble_eq_true rfl⟩ d_La_law_525 rfl ?_
      refine r_aload_n C 2 d_La_law_528 rfl rfl ?_
      refine r_aload_n C 0 d_La_law_529 rfl rfl ?_
      refine r_iload_n C 3 d_La_law_530 rfl rfl ?_
      refine r_iconst C (v := 1) d_La_law_531 (by decide) ?_
      refine r_iadd C d_La_law_532 ?_
      obtain ⟨hi_95, h⟩ := ck_some h
      refine r_sld C hX hbl hbA hi_95 d_La_law_533 ?_
      obtain ⟨r_96, er_96, h⟩ := bind_some h
      refine r_callV C (As := [.int (xs (x3 + 1).toNatClampNeg)]) (rest := [.int r_94]) (st1 := [.int r_96.1, .int r_94]) (c_Mo_within X.1.2.1 σ (xs (x3 + 1).toNatClampNeg) er_96) k_Mo_within m_682 (by decide) cel_Mo rfl rfl rfl rfl (Nat.le_of_ble_eq_true rfl) ⟨Nat.le_of_ble_eq_true rfl, Nat.le_of_ble_eq_true rfl⟩ d_La_law_534 rfl ?_
      refine r_icmp_eq C (tgt := 740) d_La_law_537 (by decide) (fun hc_97 => ?_) (fun hc_97 => ?_)
      · rw [if_pos hc_97] at h
        exact t_La_law_740 C hR hX hbl hbA hk18 x3 r_96.2 h
      · rw [if_neg hc_97] at h
        refine r_iconst C (v := 0) d_La_law_540 (by decide) ?_
        obtain ⟨hB, h⟩ := ck_some h
        cases h
        exact hR _ _ hB d_La_law_541
    rw [if_neg hc_92] at h
    by_cases hc_98 : ((xs x3.toNatClampNeg) &&& 31) = 12
    · rw [if_pos hc_98] at h
      refine r_tabIn C (tgt := 542) d_La_law_32 hc_98 (by decide) (by decide) rfl (by decide) ?_
      refine r_aload_n C 1 d_La_law_542 rfl rfl ?_
      refine r_aload_n C 0 d_La_law_543 rfl rfl ?_
      refine r_iload_n C 3 d_La_law_544 rfl rfl ?_
      refine r_iconst C (v := 1) d_La_law_545 (by decide) ?_
      refine r_iadd C d_La_law_546 ?_
      obtain ⟨hi_99, h⟩ := ck_some h
      refine r_sld C hX hbl hbA hi_99 d_La_law_547 ?_
      refine r_aload_n C 0 d_La_law_548 rfl rfl ?_
      refine r_iload_n C 3 d_La_law_549 rfl rfl ?_
      refine r_iconst C (v := 2) d_La_law_550 (by decide) ?_
      refine r_iadd C d_La_law_551 ?_
      obtain ⟨hi_100, h⟩ := ck_some h
      refine r_sld C hX hbl hbA hi_100 d_La_law_552 ?_
      refine r_aload_n C 0 d_La_law_553 rfl rfl ?_
      refine r_iload_n C 3 d_La_law_554 rfl rfl ?_
      refine r_iconst C (v := 3) d_La_law_555 (by decide) ?_
      refine r_iadd C d_La_law_556 ?_
      obtain ⟨hi_101, h⟩ := ck_some h
      refine r_sld C hX hbl hbA hi_101 d_La_law_557 ?_
      obtain ⟨r_102, er_102, h⟩ := bind_some h
      refine r_callV C (As := [.int (xs (x3 + 1).toNatClampNeg), .int (xs (x3 + 2).toNatClampNeg), .int (xs (x3 + 3).toNatClampNeg)]) (rest := []) (st1 := [.int r_102.1]) (c_Ga_than X.1.2.1 σ (xs (x3 + 1).toNatClampNeg) (xs (x3 + 2).toNatClampNeg) (xs (x3 + 3).toNatClampNeg) er_102) k_Ga_than m_686 (by decide) cel_Ga rfl rfl rfl rfl (Nat.le_of_ble_eq_true rfl) ⟨Nat.le_of_ble_eq_true rfl, Nat.le_of_ble_eq_true rfl⟩ d_La_law_558 rfl ?_
      refine r_aload_n C 2 d_La_law_561 rfl rfl ?_
      refine r_aload_n C 0 d_La_law_562 rfl rfl ?_
      refine r_iload_n C 3 d_La_law_563 rfl rfl ?_
      refine r_iconst C (v := 1) d_La_law_564 (by decide) ?_
      refine r_iadd C d_La_law_565 ?_
      obtain ⟨hi_103, h⟩ := ck_some h
      refine r_sld C hX hbl hbA hi_103 d_La_law_566 ?_
      refine r_aload_n C 0 d_La_law_567 rfl rfl ?_
      refine r_iload_n C 3 d_La_law_568 rfl rfl ?_
      refine r_iconst C (v := 2) d_La_law_569 (by decide) ?_
      refine r_iadd C d_La_law_570 ?_
      obtain ⟨hi_104, h⟩ := ck_some h
      refine r_sld C hX hbl hbA hi_104 d_La_law_571 ?_
      refine r_aload_n C 0 d_La_law_572 rfl rfl ?_
      refine r_iload_n C 3 d_La_law_573 rfl rfl ?_
      refine r_iconst C (v := 3) d_La_law_574 (by decide) ?_
      refine r_iadd C d_La_law_575 ?_
      obtain ⟨hi_105, h⟩ := ck_some h
      refine r_sld C hX hbl hbA hi_105 d_La_law_576 ?_
      obtain ⟨r_106, er_106, h⟩ := bind_some h
      refine r_callV C (As := [.int (xs (x3 + 1).toNatClampNeg), .int (xs (x3 + 2).toNatClampNeg), .int (xs (x3 + 3).toNatClampNeg)]) (rest := [.int r_102.1]) (st1 := [.int r_106.1, .int r_102.1]) (c_Mo_than X.1.2.1 r_102.2 (xs (x3 + 1).toNatClampNeg) (xs (x3 + 2).toNatClampNeg) (xs (x3 + 3).toNatClampNeg) er_106) k_Mo_than m_690 (by decide) cel_Mo rfl rfl rfl rfl (Nat.le_of_ble_eq_true rfl) ⟨Nat.le_of_ble_eq_true rfl, Nat.le_of_ble_eq_true rfl⟩ d_La_law_577 rfl ?_
      refine r_icmp_eq C (tgt := 740) d_La_law_580 (by decide) (fun hc_107 => ?_) (fun hc_107 => ?_)
      · rw [if_pos hc_107] at h
        exact t_La_law_740 C hR hX hbl hbA hk18 x3 r_106.2 h
      · rw [if_neg hc_107] at h
        refine r_iconst C (v := 0) d_La_law_583 (by decide) ?_
        obtain ⟨hB, h⟩ := ck_some h
        cases h
        exact hR _ _ hB d_La_law_584
    rw [if_neg hc_98] at h
    by_cases hc_108 : ((xs x3.toNatClampNeg) &&& 31) = 13
    · rw [if_pos hc_108] at h
      refine r_tabIn C (tgt := 585) d_La_law_32 hc_108 (by decide) (by decide) rfl (by decide) ?_
      refine r_aload_n C 1 d_La_law_585 rfl rfl ?_
      refine r_aload_n C 0 d_La_law_586 rfl rfl ?_
      refine r_iload_n C 3 d_La_law_587 rfl rfl ?_
      refine r_iconst C (v := 1) d_La_law_588 (by decide) ?_
      refine r_iadd C d_La_law_589 ?_
      obtain ⟨hi_109, h⟩ := ck_some h
      refine r_sld C hX hbl hbA hi_109 d_La_law_590 ?_
      refine r_aload_n C 0 d_La_law_591 rfl rfl ?_
      refine r_iload_n C 3 d_La_law_592 rfl rfl ?_
      refine r_iconst C (v := 2) d_La_law_593 (by decide) ?_
      refine r_iadd C d_La_law_594 ?_
      obtain ⟨hi_110, h⟩ := ck_some h
      refine r_sld C hX hbl hbA hi_110 d_La_law_595 ?_
      obtain ⟨r_111, er_111, h⟩ := bind_some h
      refine r_callV C (As := [.int (xs (x3 + 1).toNatClampNeg), .int (xs (x3 + 2).toNatClampNeg)]) (rest := []) (st1 := [.int r_111.1]) (c_Ga_goes X.1.2.1 σ (xs (x3 + 1).toNatClampNeg) (xs (x3 + 2).toNatClampNeg) er_111) k_Ga_goes m_694 (by decide) cel_Ga rfl rfl rfl rfl (Nat.le_of_ble_eq_true rfl) ⟨Nat.le_of_ble_eq_true rfl, Nat.le_of_ble_eq_true rfl⟩ d_La_law_596 rfl ?_
      refine r_aload_n C 2 d_La_law_599 rfl rfl ?_
      refine r_aload_n C 0 d_La_law_600 rfl rfl ?_
      refine r_iload_n C 3 d_La_law_601 rfl rfl ?_
      refine r_iconst C (v := 1) d_La_law_602 (by decide) ?_
      refine r_iadd C d_La_law_603 ?_
      obtain ⟨hi_112, h⟩ := ck_some h
      refine r_sld C hX hbl hbA hi_112 d_La_law_604 ?_
      refine r_aload_n C 0 d_La_law_605 rfl rfl ?_
      refine r_iload_n C 3 d_La_law_606 rfl rfl ?_
      refine r_iconst C (v := 2) d_La_law_607 (by decide) ?_
      refine r_iadd C d_La_law_608 ?_
      obtain ⟨hi_113, h⟩ := ck_some h
      refine r_sld C hX hbl hbA hi_113 d_La_law_609 ?_
      obtain ⟨r_114, er_114, h⟩ := bind_some h
      refine r_callV C (As := [.int (xs (x3 + 1).toNatClampNeg), .int (xs (x3 + 2).toNatClampNeg)]) (rest := [.int r_111.1]) (st1 := [.int r_114.1, .int r_111.1]) (c_Mo_goes X.1.2.1 r_111.2 (xs (x3 + 1).toNatClampNeg) (xs (x3 + 2).toNatClampNeg) er_114) k_Mo_goes m_698 (by decide) cel_Mo rfl rfl rfl rfl (Nat.le_of_ble_eq_true rfl) ⟨Nat.le_of_ble_eq_true rfl, Nat.le_of_ble_eq_true rfl⟩ d_La_law_610 rfl ?_
      refine r_icmp_eq C (tgt := 740) d_La_law_613 (by decide) (fun hc_115 => ?_) (fun hc_115 => ?_)
      · rw [if_pos hc_115] at h
        exact t_La_law_740 C hR hX hbl hbA hk18 x3 r_114.2 h
      · rw [if_neg hc_115] at h
        refine r_iconst C (v := 0) d_La_law_616 (by decide) ?_
        obtain ⟨hB, h⟩ := ck_some h
        cases h
        exact hR _ _ hB d_La_law_617
    rw [if_neg hc_108] at h
    by_cases hc_116 : ((xs x3.toNatClampNeg) &&& 31) = 14
    · rw [if_pos hc_116] at h
      refine r_tabIn C (tgt := 618) d_La_law_32 hc_116 (by decide) (by decide) rfl (by decide) ?_
      refine r_aload_n C 1 d_La_law_618 rfl rfl ?_
      refine r_aload_n C 0 d_La_law_619 rfl rfl ?_
      refine r_iload_n C 3 d_La_law_620 rfl rfl ?_
      refine r_iconst C (v := 1) d_La_law_621 (by decide) ?_
      refine r_iadd C d_La_law_622 ?_
      obtain ⟨hi_117, h⟩ := ck_some h
      refine r_sld C hX hbl hbA hi_117 d_La_law_623 ?_
      obtain ⟨r_118, er_118, h⟩ := bind_some h
      refine r_callV C (As := [.int (xs (x3 + 1).toNatClampNeg)]) (rest := []) (st1 := [.int r_118.1]) (c_Ga_sure X.1.2.1 σ (xs (x3 + 1).toNatClampNeg) er_118) k_Ga_sure m_702 (by decide) cel_Ga rfl rfl rfl rfl (Nat.le_of_ble_eq_true rfl) ⟨Nat.le_of_ble_eq_true rfl, Nat.le_of_ble_eq_true rfl⟩ d_La_law_624 rfl ?_
      refine r_aload_n C 2 d_La_law_627 rfl rfl ?_
      refine r_aload_n C 0 d_La_law_628 rfl rfl ?_
      refine r_iload_n C 3 d_La_law_629 rfl rfl ?_
      refine r_iconst C (v := 1) d_La_law_630 (by decide) ?_
      refine r_iadd C d_La_law_631 ?_
      obtain ⟨hi_119, h⟩ := ck_some h
      refine r_sld C hX hbl hbA hi_119 d_La_law_632 ?_
      obtain ⟨r_120, er_120, h⟩ := bind_some h
      refine r_callV C (As := [.int (xs (x3 + 1).toNatClampNeg)]) (rest := [.int r_118.1]) (st1 := [.int r_120.1, .int r_118.1]) (c_Mo_sure X.1.2.1 r_118.2 (xs (x3 + 1).toNatClampNeg) er_120) k_Mo_sure m_706 (by decide) cel_Mo rfl rfl rfl rfl (Nat.le_of_ble_eq_true rfl) ⟨Nat.le_of_ble_eq_true rfl, Nat.le_of_ble_eq_true rfl⟩ d_La_law_633 rfl ?_
      refine r_icmp_eq C (tgt := 740) d_La_law_636 (by decide) (fun hc_121 => ?_) (fun hc_121 => ?_)
      · rw [if_pos hc_121] at h
        exact t_La_law_740 C hR hX hbl hbA hk18 x3 r_120.2 h
      · rw [if_neg hc_121] at h
        refine r_iconst C (v := 0) d_La_law_639 (by decide) ?_
        obtain ⟨hB, h⟩ := ck_some h
        cases h
        exact hR _ _ hB d_La_law_640
    rw [if_neg hc_116] at h
    by_cases hc_122 : ((xs x3.toNatClampNeg) &&& 31) = 15
    · rw [if_pos hc_122] at h
      refine r_tabIn C (tgt := 641) d_La_law_32 hc_122 (by decide) (by decide) rfl (by decide) ?_
      refine r_aload_n C 1 d_La_law_641 rfl rfl ?_
      refine r_aload_n C 0 d_La_law_642 rfl rfl ?_
      refine r_iload_n C 3 d_La_law_643 rfl rfl ?_
      refine r_iconst C (v := 1) d_La_law_644 (by decide) ?_
      refine r_iadd C d_La_law_645 ?_
      obtain ⟨hi_123, h⟩ := ck_some h
      refine r_sld C hX hbl hbA hi_123 d_La_law_646 ?_
      obtain ⟨r_124, er_124, h⟩ := bind_some h
      refine r_callV C (As := [.int (xs (x3 + 1).toNatClampNeg)]) (rest := []) (st1 := [.int r_124]) (c_Ga_remembered X.1.2.1 σ (xs (x3 + 1).toNatClampNeg) er_124) k_Ga_remembered m_710 (by decide) cel_Ga rfl rfl rfl rfl (Nat.le_of_ble_eq_true rfl) ⟨Nat.le_of_ble_eq_true rfl, Nat.le_of_ble_eq_true rfl⟩ d_La_law_647 rfl ?_
      refine r_aload_n C 2 d_La_law_650 rfl rfl ?_
      refine r_aload_n C 0 d_La_law_651 rfl rfl ?_
      refine r_iload_n C 3 d_La_law_652 rfl rfl ?_
      refine r_iconst C (v := 1) d_La_law_653 (by decide) ?_
      refine r_iadd C d_La_law_654 ?_
      obtain ⟨hi_125, h⟩ := ck_some h
      refine r_sld C hX hbl hbA hi_125 d_La_law_655 ?_
      obtain ⟨r_126, er_126, h⟩ := bind_some h
      refine r_callV C (As := [.int (xs (x3 + 1).toNatClampNeg)]) (rest := [.int r_124]) (st1 := [.int r_126.1, .int r_124]) (c_Mo_remembered X.1.2.1 σ (xs (x3 + 1).toNatClampNeg) er_126) k_Mo_remembered m_714 (by decide) cel_Mo rfl rfl rfl rfl (Nat.le_of_ble_eq_true rfl) ⟨Nat.le_of_ble_eq_true rfl, Nat.le_of_ble_eq_true rfl⟩ d_La_law_656 rfl ?_
      refine r_icmp_eq C (tgt := 740) d_La_law_659 (by decide) (fun hc_127 => ?_) (fun hc_127 => ?_)
      · rw [if_pos hc_127] at h
        exact t_La_law_740 C hR hX hbl hbA hk18 x3 r_126.2 h
      · rw [if_neg hc_127] at h
        refine r_iconst C (v := 0) d_La_law_662 (by decide) ?_
        obtain ⟨hB, h⟩ := ck_some h
        cases h
        exact hR _ _ hB d_La_law_663
    rw [if_neg hc_122] at h
    by_cases hc_128 : ((xs x3.toNatClampNeg) &&& 31) = 16
    · rw [if_pos hc_128] at h
      refine r_tabIn C (tgt := 664) d_La_law_32 hc_128 (by decide) (by decide) rfl (by decide) ?_
      refine r_aload_n C 1 d_La_law_664 rfl rfl ?_
      refine r_aload_n C 0 d_La_law_665 rfl rfl ?_
      refine r_iload_n C 3 d_La_law_666 rfl rfl ?_
      refine r_iconst C (v := 1) d_La_law_667 (by decide) ?_
      refine r_iadd C d_La_law_668 ?_
      obtain ⟨hi_129, h⟩ := ck_some h
      refine r_sld C hX hbl hbA hi_129 d_La_law_669 ?_
      refine r_aload_n C 0 d_La_law_670 rfl rfl ?_
      refine r_iload_n C 3 d_La_law_671 rfl rfl ?_
      refine r_iconst C (v := 2) d_La_law_672 (by decide) ?_
      refine r_iadd C d_La_law_673 ?_
      obtain ⟨hi_130, h⟩ := ck_some h
      refine r_sld C hX hbl hbA hi_130 d_La_law_674 ?_
      refine r_aload_n C 0 d_La_law_675 rfl rfl ?_
      refine r_iload_n C 3 d_La_law_676 rfl rfl ?_
      refine r_iconst C (v := 3) d_La_law_677 (by decide) ?_
      refine r_iadd C d_La_law_678 ?_
      obtain ⟨hi_131, h⟩ := ck_some h
      refine r_sld C hX hbl hbA hi_131 d_La_law_679 ?_
      obtain ⟨r_132, er_132, h⟩ := bind_some h
      refine r_callV C (As := [.int (xs (x3 + 1).toNatClampNeg), .int (xs (x3 + 2).toNatClampNeg), .int (xs (x3 + 3).toNatClampNeg)]) (rest := []) (st1 := [.int r_132.1]) (c_Ga_taken X.1.2.1 σ (xs (x3 + 1).toNatClampNeg) (xs (x3 + 2).toNatClampNeg) (xs (x3 + 3).toNatClampNeg) er_132) k_Ga_taken m_718 (by decide) cel_Ga rfl rfl rfl rfl (Nat.le_of_ble_eq_true rfl) ⟨Nat.le_of_ble_eq_true rfl, Nat.le_of_ble_eq_true rfl⟩ d_La_law_680 rfl ?_
      refine r_aload_n C 2 d_La_law_683 rfl rfl ?_
      refine r_aload_n C 0 d_La_law_684 rfl rfl ?_
      refine r_iload_n C 3 d_La_law_685 rfl rfl ?_
      refine r_iconst C (v := 1) d_La_law_686 (by decide) ?_
      refine r_iadd C d_La_law_687 ?_
      obtain ⟨hi_133, h⟩ := ck_some h
      refine r_sld C hX hbl hbA hi_133 d_La_law_688 ?_
      refine r_aload_n C 0 d_La_law_689 rfl rfl ?_
      refine r_iload_n C 3 d_La_law_690 rfl rfl ?_
      refine r_iconst C (v := 2) d_La_law_691 (by decide) ?_
      refine r_iadd C d_La_law_692 ?_
      obtain ⟨hi_134, h⟩ := ck_some h
      refine r_sld C hX hbl hbA hi_134 d_La_law_693 ?_
      refine r_aload_n C 0 d_La_law_694 rfl rfl ?_
      refine r_iload_n C 3 d_La_law_695 rfl rfl ?_
      refine r_iconst C (v := 3) d_La_law_696 (by decide) ?_
      refine r_iadd C d_La_law_697 ?_
      obtain ⟨hi_135, h⟩ := ck_some h
      refine r_sld C hX hbl hbA hi_135 d_La_law_698 ?_
      obtain ⟨r_136, er_136, h⟩ := bind_some h
      refine r_callV C (As := [.int (xs (x3 + 1).toNatClampNeg), .int (xs (x3 + 2).toNatClampNeg), .int (xs (x3 + 3).toNatClampNeg)]) (rest := [.int r_132.1]) (st1 := [.int r_136.1, .int r_132.1]) (c_Mo_taken X.1.2.1 r_132.2 (xs (x3 + 1).toNatClampNeg) (xs (x3 + 2).toNatClampNeg) (xs (x3 + 3).toNatClampNeg) er_136) k_Mo_taken m_722 (by decide) cel_Mo rfl rfl rfl rfl (Nat.le_of_ble_eq_true rfl) ⟨Nat.le_of_ble_eq_true rfl, Nat.le_of_ble_eq_true rfl⟩ d_La_law_699 rfl ?_
      refine r_icmp_eq C (tgt := 740) d_La_law_702 (by decide) (fun hc_137 => ?_) (fun hc_137 => ?_)
      · rw [if_pos hc_137] at h
        exact t_La_law_740 C hR hX hbl hbA hk18 x3 r_136.2 h
      · rw [if_neg hc_137] at h
        refine r_iconst C (v := 0) d_La_law_705 (by decide) ?_
        obtain ⟨hB, h⟩ := ck_some h
        cases h
        exact hR _ _ hB d_La_law_706
    rw [if_neg hc_128] at h
    by_cases hc_138 : ((xs x3.toNatClampNeg) &&& 31) = 17
    · rw [if_pos hc_138] at h
      refine r_tabIn C (tgt := 707) d_La_law_32 hc_138 (by decide) (by decide) rfl (by decide) ?_
      refine r_aload_n C 1 d_La_law_707 rfl rfl ?_
      refine r_aload_n C 0 d_La_law_708 rfl rfl ?_
      refine r_iload_n C 3 d_La_law_709 rfl rfl ?_
      refine r_iconst C (v := 1) d_La_law_710 (by decide) ?_
      refine r_iadd C d_La_law_711 ?_
      obtain ⟨hi_139, h⟩ := ck_some h
      refine r_sld C hX hbl hbA hi_139 d_La_law_712 ?_
      refine r_aload_n C 0 d_La_law_713 rfl rfl ?_
      refine r_iload_n C 3 d_La_law_714 rfl rfl ?_
      refine r_iconst C (v := 2) d_La_law_715 (by decide) ?_
      refine r_iadd C d_La_law_716 ?_
      obtain ⟨hi_140, h⟩ := ck_some h
      refine r_sld C hX hbl hbA hi_140 d_La_law_717 ?_
      obtain ⟨r_141, er_141, h⟩ := bind_some h
      refine r_callV C (As := [.int (xs (x3 + 1).toNatClampNeg), .int (xs (x3 + 2).toNatClampNeg)]) (rest := []) (st1 := [.int r_141.1]) (c_Ga_bound X.1.2.1 σ (xs (x3 + 1).toNatClampNeg) (xs (x3 + 2).toNatClampNeg) er_141) k_Ga_bound m_726 (by decide) cel_Ga rfl rfl rfl rfl (Nat.le_of_ble_eq_true rfl) ⟨Nat.le_of_ble_eq_true rfl, Nat.le_of_ble_eq_true rfl⟩ d_La_law_718 rfl ?_
      refine r_aload_n C 2 d_La_law_721 rfl rfl ?_
      refine r_aload_n C 0 d_La_law_722 rfl rfl ?_
      refine r_iload_n C 3 d_La_law_723 rfl rfl ?_
      refine r_iconst C (v := 1) d_La_law_724 (by decide) ?_
      refine r_iadd C d_La_law_725 ?_
      obtain ⟨hi_142, h⟩ := ck_some h
      refine r_sld C hX hbl hbA hi_142 d_La_law_726 ?_
      refine r_aload_n C 0 d_La_law_727 rfl rfl ?_
      refine r_iload_n C 3 d_La_law_728 rfl rfl ?_
      refine r_iconst C (v := 2) d_La_law_729 (by decide) ?_
      refine r_iadd C d_La_law_730 ?_
      obtain ⟨hi_143, h⟩ := ck_some h
      refine r_sld C hX hbl hbA hi_143 d_La_law_731 ?_
      obtain ⟨r_144, er_144, h⟩ := bind_some h
      refine r_callV C (As := [.int (xs (x3 + 1).toNatClampNeg), .int (xs (x3 + 2).toNatClampNeg)]) (rest := [.int r_141.1]) (st1 := [.int r_144.1, .int r_141.1]) (c_Mo_bound X.1.2.1 r_141.2 (xs (x3 + 1).toNatClampNeg) (xs (x3 + 2).toNatClampNeg) er_144) k_Mo_bound m_730 (by decide) cel_Mo rfl rfl rfl rfl (Nat.le_of_ble_eq_true rfl) ⟨Nat.le_of_ble_eq_true rfl, Nat.le_of_ble_eq_true rfl⟩ d_La_law_732 rfl ?_
      refine r_icmp_eq C (tgt := 740) d_La_law_735 (by decide) (fun hc_145 => ?_) (fun hc_145 => ?_)
      · rw [if_pos hc_145] at h
        exact t_La_law_740 C hR hX hbl hbA hk18 x3 r_144.2 h
      · rw [if_neg hc_145] at h
        refine r_iconst C (v := 0) d_La_law_738 (by decide) ?_
        obtain ⟨hB, h⟩ := ck_some h
        cases h
        exact hR _ _ hB d_La_law_739
    rw [if_neg hc_138] at h
    cases h
set_option maxHeartbeats 4000000 in
set_option maxRecDepth 100000 in
theorem u_La_law_18 {X : gX} {r : (Int32 × gS)} {b L : Nat} {xs : Nat → Int32} (C : gC X b_La_law_c R_La 4 9 338) (hR : ∀ pc lv, isB r.1 = true → decode b_La_law_c pc = .ok (.ireturn, 1) → G X pc lv [.int r.1] r.2) (hX : va_X b L xs X.2.1.1 X.2.1.1.heap) (hbl : b < X.2.1.1.heap.size) (hbA : ¬ X.2.2.2.2.2.2 b)  (x : Int32 × gS) (h : l_La_law_18 L xs x = some r) : G X 18 [(0, .ref b), (1, .ref (gA X 0)), (2, .ref (gA X 46)), (3, .int x.1)] [] x.2 :=
  lpF_ind (P := fun x => G X 18 [(0, .ref b), (1, .ref (gA X 0)), (2, .ref (gA X 46)), (3, .int x.1)] [] x.2) (fun k hk x h => t_La_law_18 C hR hX hbl hbA hk x.1 x.2 h) gF x h
