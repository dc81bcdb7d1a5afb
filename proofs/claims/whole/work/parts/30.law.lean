theorem mv_slen {X : mv_X} {k : mv_Kd} {M0 M : mv_M} {b1 b2 : Nat} {QQ : List Frame → Array Value → State → State → Prop} {pc : Nat} {lv : List (Nat × Value)} {rest : List Value} {C n : String} {t N : Nat} {f : Nat → Int32} (hq : (C, n, t, N, f) ∈ mx_sa X) (hdg : decode (mk_cc k) pc = .ok (.arraylength, 1)) (kk : mv_H X k M0 b1 b2 QQ M (pc + 1) lv (.int (Int32.ofNat N) :: rest)) : mv_H X k M0 b1 b2 QQ M pc lv (va_rf (some t) :: rest) :=
  ⟨kk.1, fun p e s m args below meth c H locs ls C' hok hS h1 h2 hl => va_tlen C'.1.1 C'.1.2.1 (C'.2.1.2.2.1 _ hq).2 hS rfl hdg (kk.2 p e s m args below meth c H locs ls C' hok hS h1 h2 hl)⟩
theorem mv_lawend {X : mv_X} {k : mv_Kd} {M0 M M1 : mv_M} {b1 b2 : Nat} {QQ : List Frame → Array Value → State → State → Prop} {pc : Nat} {lv : List (Nat × Value)} {v : Int32} (hb : M1.1 ≤ b1 ∧ M1.2.1 ≤ b2) (hend : ∀ (M : mv_M) (pc : Nat) (lv : List (Nat × Value)), M.1 ≤ b1 → M.2.1 ≤ b2 → decode (mk_cc k) pc = .ok (.ireturn, 1) → mv_H X k M0 b1 b2 QQ M pc lv [.int 1]) (hdg : decode (mk_cc k) pc = .ok (.ireturn, 1)) (hJ : some (v, M) = some ((1 : Int32), M1)) : mv_H X k M0 b1 b2 QQ M pc lv [.int v] := by
  cases hJ
  exact hend _ _ _ hb.1 hb.2 hdg
abbrev cd_LW_law : ByteArray := code
abbrev kd_LW_law : mv_Kd := (code, 4, "PlainLearnerLaw", "law", ret, 10, 432)
theorem de_LW_law_0 : decode cd_LW_law 0 = .ok (.new 7, 3) := by decide +kernel
theorem de_LW_law_3 : decode cd_LW_law 3 = .ok (.dup, 1) := by decide +kernel
theorem de_LW_law_4 : decode cd_LW_law 4 = .ok (.invokespecial 9, 3) := by decide +kernel
theorem de_LW_law_7 : decode cd_LW_law 7 = .ok (.astore_n 1, 1) := by decide +kernel
theorem de_LW_law_8 : decode cd_LW_law 8 = .ok (.new 10, 3) := by decide +kernel
theorem de_LW_law_11 : decode cd_LW_law 11 = .ok (.dup, 1) := by decide +kernel
theorem de_LW_law_12 : decode cd_LW_law 12 = .ok (.invokespecial 12, 3) := by decide +kernel
theorem de_LW_law_15 : decode cd_LW_law 15 = .ok (.astore_n 2, 1) := by decide +kernel
theorem de_LW_law_16 : decode cd_LW_law 16 = .ok (.iconst 0, 1) := by decide +kernel
theorem de_LW_law_17 : decode cd_LW_law 17 = .ok (.istore_n 3, 1) := by decide +kernel
theorem de_LW_law_18 : decode cd_LW_law 18 = .ok (.iload_n 3, 1) := by decide +kernel
theorem de_LW_law_19 : decode cd_LW_law 19 = .ok (.aload_n 0, 1) := by decide +kernel
theorem de_LW_law_20 : decode cd_LW_law 20 = .ok (.arraylength, 1) := by decide +kernel
theorem de_LW_law_21 : decode cd_LW_law 21 = .ok (.bipush 6, 2) := by decide +kernel
theorem de_LW_law_23 : decode cd_LW_law 23 = .ok (.isub, 1) := by decide +kernel
theorem de_LW_law_24 : decode cd_LW_law 24 = .ok (.if_icmp .gt 1094, 3) := by decide +kernel
theorem de_LW_law_27 : decode cd_LW_law 27 = .ok (.aload_n 0, 1) := by decide +kernel
theorem de_LW_law_28 : decode cd_LW_law 28 = .ok (.iload_n 3, 1) := by decide +kernel
theorem de_LW_law_29 : decode cd_LW_law 29 = .ok (.iaload, 1) := by decide +kernel
theorem de_LW_law_30 : decode cd_LW_law 30 = .ok (.bipush 31, 2) := by decide +kernel
theorem de_LW_law_32 : decode cd_LW_law 32 = .ok (.iand, 1) := by decide +kernel
theorem de_LW_law_33 : decode cd_LW_law 33 = .ok (.tableswitch 1079 0 27 #[127, 180, 233, 276, 309, 353, 407, 441, 490, 523, 556, 619, 642, 686, 699, 712, 735, 768, 802, 851, 885, 898, 961, 974, 987, 1020, 1033, 1056], 127) := by decide +kernel
theorem de_LW_law_160 : decode cd_LW_law 160 = .ok (.aload_n 1, 1) := by decide +kernel
theorem de_LW_law_161 : decode cd_LW_law 161 = .ok (.aload_n 0, 1) := by decide +kernel
theorem de_LW_law_162 : decode cd_LW_law 162 = .ok (.iload_n 3, 1) := by decide +kernel
theorem de_LW_law_163 : decode cd_LW_law 163 = .ok (.iconst 1, 1) := by decide +kernel
theorem de_LW_law_164 : decode cd_LW_law 164 = .ok (.iadd, 1) := by decide +kernel
theorem de_LW_law_165 : decode cd_LW_law 165 = .ok (.iaload, 1) := by decide +kernel
theorem de_LW_law_166 : decode cd_LW_law 166 = .ok (.aload_n 0, 1) := by decide +kernel
theorem de_LW_law_167 : decode cd_LW_law 167 = .ok (.iload_n 3, 1) := by decide +kernel
theorem de_LW_law_168 : decode cd_LW_law 168 = .ok (.iconst 2, 1) := by decide +kernel
theorem de_LW_law_169 : decode cd_LW_law 169 = .ok (.iadd, 1) := by decide +kernel
theorem de_LW_law_170 : decode cd_LW_law 170 = .ok (.iaload, 1) := by decide +kernel
theorem de_LW_law_171 : decode cd_LW_law 171 = .ok (.aload_n 0, 1) := by decide +kernel
theorem de_LW_law_172 : decode cd_LW_law 172 = .ok (.iload_n 3, 1) := by decide +kernel
theorem de_LW_law_173 : decode cd_LW_law 173 = .ok (.iconst 3, 1) := by decide +kernel
theorem de_LW_law_174 : decode cd_LW_law 174 = .ok (.iadd, 1) := by decide +kernel
theorem de_LW_law_175 : decode cd_LW_law 175 = .ok (.iaload, 1) := by decide +kernel
theorem de_LW_law_176 : decode cd_LW_law 176 = .ok (.aload_n 0, 1) := by decide +kernel
theorem de_LW_law_177 : decode cd_LW_law 177 = .ok (.iload_n 3, 1) := by decide +kernel
theorem de_LW_law_178 : decode cd_LW_law 178 = .ok (.iconst 4, 1) := by decide +kernel
theorem de_LW_law_179 : decode cd_LW_law 179 = .ok (.iadd, 1) := by decide +kernel
theorem de_LW_law_180 : decode cd_LW_law 180 = .ok (.iaload, 1) := by decide +kernel
theorem de_LW_law_181 : decode cd_LW_law 181 = .ok (.invokevirtual 13, 3) := by decide +kernel
theorem de_LW_law_184 : decode cd_LW_law 184 = .ok (.aload_n 2, 1) := by decide +kernel
theorem de_LW_law_185 : decode cd_LW_law 185 = .ok (.aload_n 0, 1) := by decide +kernel
theorem de_LW_law_186 : decode cd_LW_law 186 = .ok (.iload_n 3, 1) := by decide +kernel
theorem de_LW_law_187 : decode cd_LW_law 187 = .ok (.iconst 1, 1) := by decide +kernel
theorem de_LW_law_188 : decode cd_LW_law 188 = .ok (.iadd, 1) := by decide +kernel
theorem de_LW_law_189 : decode cd_LW_law 189 = .ok (.iaload, 1) := by decide +kernel
theorem de_LW_law_190 : decode cd_LW_law 190 = .ok (.aload_n 0, 1) := by decide +kernel
theorem de_LW_law_191 : decode cd_LW_law 191 = .ok (.iload_n 3, 1) := by decide +kernel
theorem de_LW_law_192 : decode cd_LW_law 192 = .ok (.iconst 2, 1) := by decide +kernel
theorem de_LW_law_193 : decode cd_LW_law 193 = .ok (.iadd, 1) := by decide +kernel
theorem de_LW_law_194 : decode cd_LW_law 194 = .ok (.iaload, 1) := by decide +kernel
theorem de_LW_law_195 : decode cd_LW_law 195 = .ok (.aload_n 0, 1) := by decide +kernel
theorem de_LW_law_196 : decode cd_LW_law 196 = .ok (.iload_n 3, 1) := by decide +kernel
theorem de_LW_law_197 : decode cd_LW_law 197 = .ok (.iconst 3, 1) := by decide +kernel
theorem de_LW_law_198 : decode cd_LW_law 198 = .ok (.iadd, 1) := by decide +kernel
theorem de_LW_law_199 : decode cd_LW_law 199 = .ok (.iaload, 1) := by decide +kernel
theorem de_LW_law_200 : decode cd_LW_law 200 = .ok (.aload_n 0, 1) := by decide +kernel
theorem de_LW_law_201 : decode cd_LW_law 201 = .ok (.iload_n 3, 1) := by decide +kernel
theorem de_LW_law_202 : decode cd_LW_law 202 = .ok (.iconst 4, 1) := by decide +kernel
theorem de_LW_law_203 : decode cd_LW_law 203 = .ok (.iadd, 1) := by decide +kernel
theorem de_LW_law_204 : decode cd_LW_law 204 = .ok (.iaload, 1) := by decide +kernel
theorem de_LW_law_205 : decode cd_LW_law 205 = .ok (.invokevirtual 17, 3) := by decide +kernel
theorem de_LW_law_208 : decode cd_LW_law 208 = .ok (.if_icmp .eq 904, 3) := by decide +kernel
theorem de_LW_law_211 : decode cd_LW_law 211 = .ok (.iconst 0, 1) := by decide +kernel
theorem de_LW_law_212 : decode cd_LW_law 212 = .ok (.ireturn, 1) := by decide +kernel
theorem de_LW_law_213 : decode cd_LW_law 213 = .ok (.aload_n 1, 1) := by decide +kernel
theorem de_LW_law_214 : decode cd_LW_law 214 = .ok (.aload_n 0, 1) := by decide +kernel
theorem de_LW_law_215 : decode cd_LW_law 215 = .ok (.iload_n 3, 1) := by decide +kernel
theorem de_LW_law_216 : decode cd_LW_law 216 = .ok (.iconst 1, 1) := by decide +kernel
theorem de_LW_law_217 : decode cd_LW_law 217 = .ok (.iadd, 1) := by decide +kernel
theorem de_LW_law_218 : decode cd_LW_law 218 = .ok (.iaload, 1) := by decide +kernel
theorem de_LW_law_219 : decode cd_LW_law 219 = .ok (.aload_n 0, 1) := by decide +kernel
theorem de_LW_law_220 : decode cd_LW_law 220 = .ok (.iload_n 3, 1) := by decide +kernel
theorem de_LW_law_221 : decode cd_LW_law 221 = .ok (.iconst 2, 1) := by decide +kernel
theorem de_LW_law_222 : decode cd_LW_law 222 = .ok (.iadd, 1) := by decide +kernel
theorem de_LW_law_223 : decode cd_LW_law 223 = .ok (.iaload, 1) := by decide +kernel
theorem de_LW_law_224 : decode cd_LW_law 224 = .ok (.aload_n 0, 1) := by decide +kernel
theorem de_LW_law_225 : decode cd_LW_law 225 = .ok (.iload_n 3, 1) := by decide +kernel
theorem de_LW_law_226 : decode cd_LW_law 226 = .ok (.iconst 3, 1) := by decide +kernel
theorem de_LW_law_227 : decode cd_LW_law 227 = .ok (.iadd, 1) := by decide +kernel
theorem de_LW_law_228 : decode cd_LW_law 228 = .ok (.iaload, 1) := by decide +kernel
theorem de_LW_law_229 : decode cd_LW_law 229 = .ok (.aload_n 0, 1) := by decide +kernel
theorem de_LW_law_230 : decode cd_LW_law 230 = .ok (.iload_n 3, 1) := by decide +kernel
theorem de_LW_law_231 : decode cd_LW_law 231 = .ok (.iconst 4, 1) := by decide +kernel
theorem de_LW_law_232 : decode cd_LW_law 232 = .ok (.iadd, 1) := by decide +kernel
theorem de_LW_law_233 : decode cd_LW_law 233 = .ok (.iaload, 1) := by decide +kernel
theorem de_LW_law_234 : decode cd_LW_law 234 = .ok (.invokevirtual 18, 3) := by decide +kernel
theorem de_LW_law_237 : decode cd_LW_law 237 = .ok (.aload_n 2, 1) := by decide +kernel
theorem de_LW_law_238 : decode cd_LW_law 238 = .ok (.aload_n 0, 1) := by decide +kernel
theorem de_LW_law_239 : decode cd_LW_law 239 = .ok (.iload_n 3, 1) := by decide +kernel
theorem de_LW_law_240 : decode cd_LW_law 240 = .ok (.iconst 1, 1) := by decide +kernel
theorem de_LW_law_241 : decode cd_LW_law 241 = .ok (.iadd, 1) := by decide +kernel
theorem de_LW_law_242 : decode cd_LW_law 242 = .ok (.iaload, 1) := by decide +kernel
theorem de_LW_law_243 : decode cd_LW_law 243 = .ok (.aload_n 0, 1) := by decide +kernel
theorem de_LW_law_244 : decode cd_LW_law 244 = .ok (.iload_n 3, 1) := by decide +kernel
theorem de_LW_law_245 : decode cd_LW_law 245 = .ok (.iconst 2, 1) := by decide +kernel
theorem de_LW_law_246 : decode cd_LW_law 246 = .ok (.iadd, 1) := by decide +kernel
theorem de_LW_law_247 : decode cd_LW_law 247 = .ok (.iaload, 1) := by decide +kernel
theorem de_LW_law_248 : decode cd_LW_law 248 = .ok (.aload_n 0, 1) := by decide +kernel
theorem de_LW_law_249 : decode cd_LW_law 249 = .ok (.iload_n 3, 1) := by decide +kernel
theorem de_LW_law_250 : decode cd_LW_law 250 = .ok (.iconst 3, 1) := by decide +kernel
theorem de_LW_law_251 : decode cd_LW_law 251 = .ok (.iadd, 1) := by decide +kernel
theorem de_LW_law_252 : decode cd_LW_law 252 = .ok (.iaload, 1) := by decide +kernel
theorem de_LW_law_253 : decode cd_LW_law 253 = .ok (.aload_n 0, 1) := by decide +kernel
theorem de_LW_law_254 : decode cd_LW_law 254 = .ok (.iload_n 3, 1) := by decide +kernel
theorem de_LW_law_255 : decode cd_LW_law 255 = .ok (.iconst 4, 1) := by decide +kernel
theorem de_LW_law_256 : decode cd_LW_law 256 = .ok (.iadd, 1) := by decide +kernel
theorem de_LW_law_257 : decode cd_LW_law 257 = .ok (.iaload, 1) := by decide +kernel
theorem de_LW_law_258 : decode cd_LW_law 258 = .ok (.invokevirtual 21, 3) := by decide +kernel
theorem de_LW_law_261 : decode cd_LW_law 261 = .ok (.if_icmp .eq 851, 3) := by decide +kernel
theorem de_LW_law_264 : decode cd_LW_law 264 = .ok (.iconst 0, 1) := by decide +kernel
theorem de_LW_law_265 : decode cd_LW_law 265 = .ok (.ireturn, 1) := by decide +kernel
theorem de_LW_law_266 : decode cd_LW_law 266 = .ok (.aload_n 1, 1) := by decide +kernel
theorem de_LW_law_267 : decode cd_LW_law 267 = .ok (.aload_n 0, 1) := by decide +kernel
theorem de_LW_law_268 : decode cd_LW_law 268 = .ok (.iload_n 3, 1) := by decide +kernel
theorem de_LW_law_269 : decode cd_LW_law 269 = .ok (.iconst 1, 1) := by decide +kernel
theorem de_LW_law_270 : decode cd_LW_law 270 = .ok (.iadd, 1) := by decide +kernel
theorem de_LW_law_271 : decode cd_LW_law 271 = .ok (.iaload, 1) := by decide +kernel
theorem de_LW_law_272 : decode cd_LW_law 272 = .ok (.aload_n 0, 1) := by decide +kernel
theorem de_LW_law_273 : decode cd_LW_law 273 = .ok (.iload_n 3, 1) := by decide +kernel
theorem de_LW_law_274 : decode cd_LW_law 274 = .ok (.iconst 2, 1) := by decide +kernel
theorem de_LW_law_275 : decode cd_LW_law 275 = .ok (.iadd, 1) := by decide +kernel
theorem de_LW_law_276 : decode cd_LW_law 276 = .ok (.iaload, 1) := by decide +kernel
theorem de_LW_law_277 : decode cd_LW_law 277 = .ok (.aload_n 0, 1) := by decide +kernel
theorem de_LW_law_278 : decode cd_LW_law 278 = .ok (.iload_n 3, 1) := by decide +kernel
theorem de_LW_law_279 : decode cd_LW_law 279 = .ok (.iconst 3, 1) := by decide +kernel
theorem de_LW_law_280 : decode cd_LW_law 280 = .ok (.iadd, 1) := by decide +kernel
theorem de_LW_law_281 : decode cd_LW_law 281 = .ok (.iaload, 1) := by decide +kernel
theorem de_LW_law_282 : decode cd_LW_law 282 = .ok (.invokevirtual 22, 3) := by decide +kernel
theorem de_LW_law_285 : decode cd_LW_law 285 = .ok (.aload_n 2, 1) := by decide +kernel
theorem de_LW_law_286 : decode cd_LW_law 286 = .ok (.aload_n 0, 1) := by decide +kernel
theorem de_LW_law_287 : decode cd_LW_law 287 = .ok (.iload_n 3, 1) := by decide +kernel
theorem de_LW_law_288 : decode cd_LW_law 288 = .ok (.iconst 1, 1) := by decide +kernel
theorem de_LW_law_289 : decode cd_LW_law 289 = .ok (.iadd, 1) := by decide +kernel
theorem de_LW_law_290 : decode cd_LW_law 290 = .ok (.iaload, 1) := by decide +kernel
theorem de_LW_law_291 : decode cd_LW_law 291 = .ok (.aload_n 0, 1) := by decide +kernel
theorem de_LW_law_292 : decode cd_LW_law 292 = .ok (.iload_n 3, 1) := by decide +kernel
theorem de_LW_law_293 : decode cd_LW_law 293 = .ok (.iconst 2, 1) := by decide +kernel
theorem de_LW_law_294 : decode cd_LW_law 294 = .ok (.iadd, 1) := by decide +kernel
theorem de_LW_law_295 : decode cd_LW_law 295 = .ok (.iaload, 1) := by decide +kernel
theorem de_LW_law_296 : decode cd_LW_law 296 = .ok (.aload_n 0, 1) := by decide +kernel
theorem de_LW_law_297 : decode cd_LW_law 297 = .ok (.iload_n 3, 1) := by decide +kernel
theorem de_LW_law_298 : decode cd_LW_law 298 = .ok (.iconst 3, 1) := by decide +kernel
theorem de_LW_law_299 : decode cd_LW_law 299 = .ok (.iadd, 1) := by decide +kernel
theorem de_LW_law_300 : decode cd_LW_law 300 = .ok (.iaload, 1) := by decide +kernel
theorem de_LW_law_301 : decode cd_LW_law 301 = .ok (.invokevirtual 26, 3) := by decide +kernel
theorem de_LW_law_304 : decode cd_LW_law 304 = .ok (.if_icmp .eq 808, 3) := by decide +kernel
theorem de_LW_law_307 : decode cd_LW_law 307 = .ok (.iconst 0, 1) := by decide +kernel
theorem de_LW_law_308 : decode cd_LW_law 308 = .ok (.ireturn, 1) := by decide +kernel
theorem de_LW_law_309 : decode cd_LW_law 309 = .ok (.aload_n 1, 1) := by decide +kernel
theorem de_LW_law_310 : decode cd_LW_law 310 = .ok (.aload_n 0, 1) := by decide +kernel
theorem de_LW_law_311 : decode cd_LW_law 311 = .ok (.iload_n 3, 1) := by decide +kernel
theorem de_LW_law_312 : decode cd_LW_law 312 = .ok (.iconst 1, 1) := by decide +kernel
theorem de_LW_law_313 : decode cd_LW_law 313 = .ok (.iadd, 1) := by decide +kernel
theorem de_LW_law_314 : decode cd_LW_law 314 = .ok (.iaload, 1) := by decide +kernel
theorem de_LW_law_315 : decode cd_LW_law 315 = .ok (.aload_n 0, 1) := by decide +kernel
theorem de_LW_law_316 : decode cd_LW_law 316 = .ok (.iload_n 3, 1) := by decide +kernel
theorem de_LW_law_317 : decode cd_LW_law 317 = .ok (.iconst 2, 1) := by decide +kernel
theorem de_LW_law_318 : decode cd_LW_law 318 = .ok (.iadd, 1) := by decide +kernel
theorem de_LW_law_319 : decode cd_LW_law 319 = .ok (.iaload, 1) := by decide +kernel
theorem de_LW_law_320 : decode cd_LW_law 320 = .ok (.invokevirtual 27, 3) := by decide +kernel
theorem de_LW_law_323 : decode cd_LW_law 323 = .ok (.aload_n 2, 1) := by decide +kernel
theorem de_LW_law_324 : decode cd_LW_law 324 = .ok (.aload_n 0, 1) := by decide +kernel
theorem de_LW_law_325 : decode cd_LW_law 325 = .ok (.iload_n 3, 1) := by decide +kernel
theorem de_LW_law_326 : decode cd_LW_law 326 = .ok (.iconst 1, 1) := by decide +kernel
theorem de_LW_law_327 : decode cd_LW_law 327 = .ok (.iadd, 1) := by decide +kernel
theorem de_LW_law_328 : decode cd_LW_law 328 = .ok (.iaload, 1) := by decide +kernel
theorem de_LW_law_329 : decode cd_LW_law 329 = .ok (.aload_n 0, 1) := by decide +kernel
theorem de_LW_law_330 : decode cd_LW_law 330 = .ok (.iload_n 3, 1) := by decide +kernel
theorem de_LW_law_331 : decode cd_LW_law 331 = .ok (.iconst 2, 1) := by decide +kernel
theorem de_LW_law_332 : decode cd_LW_law 332 = .ok (.iadd, 1) := by decide +kernel
theorem de_LW_law_333 : decode cd_LW_law 333 = .ok (.iaload, 1) := by decide +kernel
theorem de_LW_law_334 : decode cd_LW_law 334 = .ok (.invokevirtual 31, 3) := by decide +kernel
theorem de_LW_law_337 : decode cd_LW_law 337 = .ok (.if_icmp .eq 775, 3) := by decide +kernel
theorem de_LW_law_340 : decode cd_LW_law 340 = .ok (.iconst 0, 1) := by decide +kernel
theorem de_LW_law_341 : decode cd_LW_law 341 = .ok (.ireturn, 1) := by decide +kernel
theorem de_LW_law_342 : decode cd_LW_law 342 = .ok (.aload_n 1, 1) := by decide +kernel
theorem de_LW_law_343 : decode cd_LW_law 343 = .ok (.aload_n 0, 1) := by decide +kernel
theorem de_LW_law_344 : decode cd_LW_law 344 = .ok (.iload_n 3, 1) := by decide +kernel
theorem de_LW_law_345 : decode cd_LW_law 345 = .ok (.iconst 1, 1) := by decide +kernel
theorem de_LW_law_346 : decode cd_LW_law 346 = .ok (.iadd, 1) := by decide +kernel
theorem de_LW_law_347 : decode cd_LW_law 347 = .ok (.iaload, 1) := by decide +kernel
theorem de_LW_law_348 : decode cd_LW_law 348 = .ok (.aload_n 0, 1) := by decide +kernel
theorem de_LW_law_349 : decode cd_LW_law 349 = .ok (.iload_n 3, 1) := by decide +kernel
theorem de_LW_law_350 : decode cd_LW_law 350 = .ok (.iconst 2, 1) := by decide +kernel
theorem de_LW_law_351 : decode cd_LW_law 351 = .ok (.iadd, 1) := by decide +kernel
theorem de_LW_law_352 : decode cd_LW_law 352 = .ok (.iaload, 1) := by decide +kernel
theorem de_LW_law_353 : decode cd_LW_law 353 = .ok (.aload_n 0, 1) := by decide +kernel
theorem de_LW_law_354 : decode cd_LW_law 354 = .ok (.iload_n 3, 1) := by decide +kernel
theorem de_LW_law_355 : decode cd_LW_law 355 = .ok (.iconst 3, 1) := by decide +kernel
theorem de_LW_law_356 : decode cd_LW_law 356 = .ok (.iadd, 1) := by decide +kernel
theorem de_LW_law_357 : decode cd_LW_law 357 = .ok (.iaload, 1) := by decide +kernel
theorem de_LW_law_358 : decode cd_LW_law 358 = .ok (.invokevirtual 32, 3) := by decide +kernel
theorem de_LW_law_361 : decode cd_LW_law 361 = .ok (.aload_n 2, 1) := by decide +kernel
theorem de_LW_law_362 : decode cd_LW_law 362 = .ok (.aload_n 0, 1) := by decide +kernel
theorem de_LW_law_363 : decode cd_LW_law 363 = .ok (.iload_n 3, 1) := by decide +kernel
theorem de_LW_law_364 : decode cd_LW_law 364 = .ok (.iconst 1, 1) := by decide +kernel
theorem de_LW_law_365 : decode cd_LW_law 365 = .ok (.iadd, 1) := by decide +kernel
theorem de_LW_law_366 : decode cd_LW_law 366 = .ok (.iaload, 1) := by decide +kernel
theorem de_LW_law_367 : decode cd_LW_law 367 = .ok (.aload_n 0, 1) := by decide +kernel
theorem de_LW_law_368 : decode cd_LW_law 368 = .ok (.iload_n 3, 1) := by decide +kernel
theorem de_LW_law_369 : decode cd_LW_law 369 = .ok (.iconst 2, 1) := by decide +kernel
theorem de_LW_law_370 : decode cd_LW_law 370 = .ok (.iadd, 1) := by decide +kernel
theorem de_LW_law_371 : decode cd_LW_law 371 = .ok (.iaload, 1) := by decide +kernel
theorem de_LW_law_372 : decode cd_LW_law 372 = .ok (.aload_n 0, 1) := by decide +kernel
theorem de_LW_law_373 : decode cd_LW_law 373 = .ok (.iload_n 3, 1) := by decide +kernel
theorem de_LW_law_374 : decode cd_LW_law 374 = .ok (.iconst 3, 1) := by decide +kernel
theorem de_LW_law_375 : decode cd_LW_law 375 = .ok (.iadd, 1) := by decide +kernel
theorem de_LW_law_376 : decode cd_LW_law 376 = .ok (.iaload, 1) := by decide +kernel
theorem de_LW_law_377 : decode cd_LW_law 377 = .ok (.invokevirtual 36, 3) := by decide +kernel
theorem de_LW_law_380 : decode cd_LW_law 380 = .ok (.lcmp, 1) := by decide +kernel
theorem de_LW_law_381 : decode cd_LW_law 381 = .ok (.ifCond .eq 731, 3) := by decide +kernel
theorem de_LW_law_384 : decode cd_LW_law 384 = .ok (.iconst 0, 1) := by decide +kernel
theorem de_LW_law_385 : decode cd_LW_law 385 = .ok (.ireturn, 1) := by decide +kernel
theorem de_LW_law_386 : decode cd_LW_law 386 = .ok (.aload_n 1, 1) := by decide +kernel
theorem de_LW_law_387 : decode cd_LW_law 387 = .ok (.aload_n 0, 1) := by decide +kernel
theorem de_LW_law_388 : decode cd_LW_law 388 = .ok (.iload_n 3, 1) := by decide +kernel
theorem de_LW_law_389 : decode cd_LW_law 389 = .ok (.iconst 1, 1) := by decide +kernel
theorem de_LW_law_390 : decode cd_LW_law 390 = .ok (.iadd, 1) := by decide +kernel
theorem de_LW_law_391 : decode cd_LW_law 391 = .ok (.iaload, 1) := by decide +kernel
theorem de_LW_law_392 : decode cd_LW_law 392 = .ok (.aload_n 0, 1) := by decide +kernel
theorem de_LW_law_393 : decode cd_LW_law 393 = .ok (.iload_n 3, 1) := by decide +kernel
theorem de_LW_law_394 : decode cd_LW_law 394 = .ok (.iconst 2, 1) := by decide +kernel
theorem de_LW_law_395 : decode cd_LW_law 395 = .ok (.iadd, 1) := by decide +kernel
theorem de_LW_law_396 : decode cd_LW_law 396 = .ok (.iaload, 1) := by decide +kernel
theorem de_LW_law_397 : decode cd_LW_law 397 = .ok (.aload_n 0, 1) := by decide +kernel
theorem de_LW_law_398 : decode cd_LW_law 398 = .ok (.iload_n 3, 1) := by decide +kernel
theorem de_LW_law_399 : decode cd_LW_law 399 = .ok (.iconst 3, 1) := by decide +kernel
theorem de_LW_law_400 : decode cd_LW_law 400 = .ok (.iadd, 1) := by decide +kernel
theorem de_LW_law_401 : decode cd_LW_law 401 = .ok (.iaload, 1) := by decide +kernel
theorem de_LW_law_402 : decode cd_LW_law 402 = .ok (.aload_n 0, 1) := by decide +kernel
theorem de_LW_law_403 : decode cd_LW_law 403 = .ok (.iload_n 3, 1) := by decide +kernel
theorem de_LW_law_404 : decode cd_LW_law 404 = .ok (.iconst 4, 1) := by decide +kernel
theorem de_LW_law_405 : decode cd_LW_law 405 = .ok (.iadd, 1) := by decide +kernel
theorem de_LW_law_406 : decode cd_LW_law 406 = .ok (.iaload, 1) := by decide +kernel
theorem de_LW_law_407 : decode cd_LW_law 407 = .ok (.invokevirtual 37, 3) := by decide +kernel
theorem de_LW_law_410 : decode cd_LW_law 410 = .ok (.aload_n 2, 1) := by decide +kernel
theorem de_LW_law_411 : decode cd_LW_law 411 = .ok (.aload_n 0, 1) := by decide +kernel
theorem de_LW_law_412 : decode cd_LW_law 412 = .ok (.iload_n 3, 1) := by decide +kernel
theorem de_LW_law_413 : decode cd_LW_law 413 = .ok (.iconst 1, 1) := by decide +kernel
theorem de_LW_law_414 : decode cd_LW_law 414 = .ok (.iadd, 1) := by decide +kernel
theorem de_LW_law_415 : decode cd_LW_law 415 = .ok (.iaload, 1) := by decide +kernel
theorem de_LW_law_416 : decode cd_LW_law 416 = .ok (.aload_n 0, 1) := by decide +kernel
theorem de_LW_law_417 : decode cd_LW_law 417 = .ok (.iload_n 3, 1) := by decide +kernel
theorem de_LW_law_418 : decode cd_LW_law 418 = .ok (.iconst 2, 1) := by decide +kernel
theorem de_LW_law_419 : decode cd_LW_law 419 = .ok (.iadd, 1) := by decide +kernel
theorem de_LW_law_420 : decode cd_LW_law 420 = .ok (.iaload, 1) := by decide +kernel
theorem de_LW_law_421 : decode cd_LW_law 421 = .ok (.aload_n 0, 1) := by decide +kernel
theorem de_LW_law_422 : decode cd_LW_law 422 = .ok (.iload_n 3, 1) := by decide +kernel
theorem de_LW_law_423 : decode cd_LW_law 423 = .ok (.iconst 3, 1) := by decide +kernel
theorem de_LW_law_424 : decode cd_LW_law 424 = .ok (.iadd, 1) := by decide +kernel
theorem de_LW_law_425 : decode cd_LW_law 425 = .ok (.iaload, 1) := by decide +kernel
theorem de_LW_law_426 : decode cd_LW_law 426 = .ok (.aload_n 0, 1) := by decide +kernel
theorem de_LW_law_427 : decode cd_LW_law 427 = .ok (.iload_n 3, 1) := by decide +kernel
theorem de_LW_law_428 : decode cd_LW_law 428 = .ok (.iconst 4, 1) := by decide +kernel
theorem de_LW_law_429 : decode cd_LW_law 429 = .ok (.iadd, 1) := by decide +kernel
theorem de_LW_law_430 : decode cd_LW_law 430 = .ok (.iaload, 1) := by decide +kernel
theorem de_LW_law_431 : decode cd_LW_law 431 = .ok (.invokevirtual 41, 3) := by decide +kernel
theorem de_LW_law_434 : decode cd_LW_law 434 = .ok (.lcmp, 1) := by decide +kernel
theorem de_LW_law_435 : decode cd_LW_law 435 = .ok (.ifCond .eq 677, 3) := by decide +kernel
theorem de_LW_law_438 : decode cd_LW_law 438 = .ok (.iconst 0, 1) := by decide +kernel
theorem de_LW_law_439 : decode cd_LW_law 439 = .ok (.ireturn, 1) := by decide +kernel
theorem de_LW_law_440 : decode cd_LW_law 440 = .ok (.aload_n 1, 1) := by decide +kernel
theorem de_LW_law_441 : decode cd_LW_law 441 = .ok (.aload_n 0, 1) := by decide +kernel
theorem de_LW_law_442 : decode cd_LW_law 442 = .ok (.iload_n 3, 1) := by decide +kernel
theorem de_LW_law_443 : decode cd_LW_law 443 = .ok (.iconst 1, 1) := by decide +kernel
theorem de_LW_law_444 : decode cd_LW_law 444 = .ok (.iadd, 1) := by decide +kernel
theorem de_LW_law_445 : decode cd_LW_law 445 = .ok (.iaload, 1) := by decide +kernel
theorem de_LW_law_446 : decode cd_LW_law 446 = .ok (.aload_n 0, 1) := by decide +kernel
theorem de_LW_law_447 : decode cd_LW_law 447 = .ok (.iload_n 3, 1) := by decide +kernel
theorem de_LW_law_448 : decode cd_LW_law 448 = .ok (.iconst 2, 1) := by decide +kernel
theorem de_LW_law_449 : decode cd_LW_law 449 = .ok (.iadd, 1) := by decide +kernel
theorem de_LW_law_450 : decode cd_LW_law 450 = .ok (.iaload, 1) := by decide +kernel
theorem de_LW_law_451 : decode cd_LW_law 451 = .ok (.invokevirtual 42, 3) := by decide +kernel
theorem de_LW_law_454 : decode cd_LW_law 454 = .ok (.aload_n 2, 1) := by decide +kernel
theorem de_LW_law_455 : decode cd_LW_law 455 = .ok (.aload_n 0, 1) := by decide +kernel
theorem de_LW_law_456 : decode cd_LW_law 456 = .ok (.iload_n 3, 1) := by decide +kernel
theorem de_LW_law_457 : decode cd_LW_law 457 = .ok (.iconst 1, 1) := by decide +kernel
theorem de_LW_law_458 : decode cd_LW_law 458 = .ok (.iadd, 1) := by decide +kernel
theorem de_LW_law_459 : decode cd_LW_law 459 = .ok (.iaload, 1) := by decide +kernel
theorem de_LW_law_460 : decode cd_LW_law 460 = .ok (.aload_n 0, 1) := by decide +kernel
theorem de_LW_law_461 : decode cd_LW_law 461 = .ok (.iload_n 3, 1) := by decide +kernel
theorem de_LW_law_462 : decode cd_LW_law 462 = .ok (.iconst 2, 1) := by decide +kernel
theorem de_LW_law_463 : decode cd_LW_law 463 = .ok (.iadd, 1) := by decide +kernel
theorem de_LW_law_464 : decode cd_LW_law 464 = .ok (.iaload, 1) := by decide +kernel
theorem de_LW_law_465 : decode cd_LW_law 465 = .ok (.invokevirtual 46, 3) := by decide +kernel
theorem de_LW_law_468 : decode cd_LW_law 468 = .ok (.lcmp, 1) := by decide +kernel
theorem de_LW_law_469 : decode cd_LW_law 469 = .ok (.ifCond .eq 643, 3) := by decide +kernel
theorem de_LW_law_472 : decode cd_LW_law 472 = .ok (.iconst 0, 1) := by decide +kernel
theorem de_LW_law_473 : decode cd_LW_law 473 = .ok (.ireturn, 1) := by decide +kernel
theorem de_LW_law_474 : decode cd_LW_law 474 = .ok (.aload_n 1, 1) := by decide +kernel
theorem de_LW_law_475 : decode cd_LW_law 475 = .ok (.aload_n 0, 1) := by decide +kernel
theorem de_LW_law_476 : decode cd_LW_law 476 = .ok (.iload_n 3, 1) := by decide +kernel
theorem de_LW_law_477 : decode cd_LW_law 477 = .ok (.iconst 1, 1) := by decide +kernel
theorem de_LW_law_478 : decode cd_LW_law 478 = .ok (.iadd, 1) := by decide +kernel
theorem de_LW_law_479 : decode cd_LW_law 479 = .ok (.iaload, 1) := by decide +kernel
theorem de_LW_law_480 : decode cd_LW_law 480 = .ok (.aload_n 0, 1) := by decide +kernel
theorem de_LW_law_481 : decode cd_LW_law 481 = .ok (.iload_n 3, 1) := by decide +kernel
theorem de_LW_law_482 : decode cd_LW_law 482 = .ok (.iconst 2, 1) := by decide +kernel
theorem de_LW_law_483 : decode cd_LW_law 483 = .ok (.iadd, 1) := by decide +kernel
theorem de_LW_law_484 : decode cd_LW_law 484 = .ok (.iaload, 1) := by decide +kernel
theorem de_LW_law_485 : decode cd_LW_law 485 = .ok (.ifCond .eq 7, 3) := by decide +kernel
theorem de_LW_law_488 : decode cd_LW_law 488 = .ok (.iconst 1, 1) := by decide +kernel
theorem de_LW_law_489 : decode cd_LW_law 489 = .ok (.goto 4, 3) := by decide +kernel
theorem de_LW_law_492 : decode cd_LW_law 492 = .ok (.iconst 0, 1) := by decide +kernel
theorem de_LW_law_493 : decode cd_LW_law 493 = .ok (.invokevirtual 47, 3) := by decide +kernel
theorem de_LW_law_496 : decode cd_LW_law 496 = .ok (.aload_n 2, 1) := by decide +kernel
theorem de_LW_law_497 : decode cd_LW_law 497 = .ok (.aload_n 0, 1) := by decide +kernel
theorem de_LW_law_498 : decode cd_LW_law 498 = .ok (.iload_n 3, 1) := by decide +kernel
theorem de_LW_law_499 : decode cd_LW_law 499 = .ok (.iconst 1, 1) := by decide +kernel
theorem de_LW_law_500 : decode cd_LW_law 500 = .ok (.iadd, 1) := by decide +kernel
theorem de_LW_law_501 : decode cd_LW_law 501 = .ok (.iaload, 1) := by decide +kernel
theorem de_LW_law_502 : decode cd_LW_law 502 = .ok (.aload_n 0, 1) := by decide +kernel
theorem de_LW_law_503 : decode cd_LW_law 503 = .ok (.iload_n 3, 1) := by decide +kernel
theorem de_LW_law_504 : decode cd_LW_law 504 = .ok (.iconst 2, 1) := by decide +kernel
theorem de_LW_law_505 : decode cd_LW_law 505 = .ok (.iadd, 1) := by decide +kernel
theorem de_LW_law_506 : decode cd_LW_law 506 = .ok (.iaload, 1) := by decide +kernel
theorem de_LW_law_507 : decode cd_LW_law 507 = .ok (.ifCond .eq 7, 3) := by decide +kernel
theorem de_LW_law_510 : decode cd_LW_law 510 = .ok (.iconst 1, 1) := by decide +kernel
theorem de_LW_law_511 : decode cd_LW_law 511 = .ok (.goto 4, 3) := by decide +kernel
theorem de_LW_law_514 : decode cd_LW_law 514 = .ok (.iconst 0, 1) := by decide +kernel
theorem de_LW_law_515 : decode cd_LW_law 515 = .ok (.invokevirtual 51, 3) := by decide +kernel
theorem de_LW_law_518 : decode cd_LW_law 518 = .ok (.if_icmp .eq 594, 3) := by decide +kernel
theorem de_LW_law_521 : decode cd_LW_law 521 = .ok (.iconst 0, 1) := by decide +kernel
theorem de_LW_law_522 : decode cd_LW_law 522 = .ok (.ireturn, 1) := by decide +kernel
theorem de_LW_law_523 : decode cd_LW_law 523 = .ok (.aload_n 1, 1) := by decide +kernel
theorem de_LW_law_524 : decode cd_LW_law 524 = .ok (.aload_n 0, 1) := by decide +kernel
theorem de_LW_law_525 : decode cd_LW_law 525 = .ok (.iload_n 3, 1) := by decide +kernel
theorem de_LW_law_526 : decode cd_LW_law 526 = .ok (.iconst 1, 1) := by decide +kernel
theorem de_LW_law_527 : decode cd_LW_law 527 = .ok (.iadd, 1) := by decide +kernel
theorem de_LW_law_528 : decode cd_LW_law 528 = .ok (.iaload, 1) := by decide +kernel
theorem de_LW_law_529 : decode cd_LW_law 529 = .ok (.aload_n 0, 1) := by decide +kernel
theorem de_LW_law_530 : decode cd_LW_law 530 = .ok (.iload_n 3, 1) := by decide +kernel
theorem de_LW_law_531 : decode cd_LW_law 531 = .ok (.iconst 2, 1) := by decide +kernel
theorem de_LW_law_532 : decode cd_LW_law 532 = .ok (.iadd, 1) := by decide +kernel
theorem de_LW_law_533 : decode cd_LW_law 533 = .ok (.iaload, 1) := by decide +kernel
theorem de_LW_law_534 : decode cd_LW_law 534 = .ok (.invokevirtual 52, 3) := by decide +kernel
theorem de_LW_law_537 : decode cd_LW_law 537 = .ok (.aload_n 2, 1) := by decide +kernel
theorem de_LW_law_538 : decode cd_LW_law 538 = .ok (.aload_n 0, 1) := by decide +kernel
theorem de_LW_law_539 : decode cd_LW_law 539 = .ok (.iload_n 3, 1) := by decide +kernel
theorem de_LW_law_540 : decode cd_LW_law 540 = .ok (.iconst 1, 1) := by decide +kernel
theorem de_LW_law_541 : decode cd_LW_law 541 = .ok (.iadd, 1) := by decide +kernel
theorem de_LW_law_542 : decode cd_LW_law 542 = .ok (.iaload, 1) := by decide +kernel
theorem de_LW_law_543 : decode cd_LW_law 543 = .ok (.aload_n 0, 1) := by decide +kernel
theorem de_LW_law_544 : decode cd_LW_law 544 = .ok (.iload_n 3, 1) := by decide +kernel
theorem de_LW_law_545 : decode cd_LW_law 545 = .ok (.iconst 2, 1) := by decide +kernel
theorem de_LW_law_546 : decode cd_LW_law 546 = .ok (.iadd, 1) := by decide +kernel
theorem de_LW_law_547 : decode cd_LW_law 547 = .ok (.iaload, 1) := by decide +kernel
theorem de_LW_law_548 : decode cd_LW_law 548 = .ok (.invokevirtual 55, 3) := by decide +kernel
theorem de_LW_law_551 : decode cd_LW_law 551 = .ok (.if_icmp .eq 561, 3) := by decide +kernel
theorem de_LW_law_554 : decode cd_LW_law 554 = .ok (.iconst 0, 1) := by decide +kernel
theorem de_LW_law_555 : decode cd_LW_law 555 = .ok (.ireturn, 1) := by decide +kernel
theorem de_LW_law_556 : decode cd_LW_law 556 = .ok (.aload_n 1, 1) := by decide +kernel
theorem de_LW_law_557 : decode cd_LW_law 557 = .ok (.aload_n 0, 1) := by decide +kernel
theorem de_LW_law_558 : decode cd_LW_law 558 = .ok (.iload_n 3, 1) := by decide +kernel
theorem de_LW_law_559 : decode cd_LW_law 559 = .ok (.iconst 1, 1) := by decide +kernel
theorem de_LW_law_560 : decode cd_LW_law 560 = .ok (.iadd, 1) := by decide +kernel
theorem de_LW_law_561 : decode cd_LW_law 561 = .ok (.iaload, 1) := by decide +kernel
theorem de_LW_law_562 : decode cd_LW_law 562 = .ok (.aload_n 0, 1) := by decide +kernel
theorem de_LW_law_563 : decode cd_LW_law 563 = .ok (.iload_n 3, 1) := by decide +kernel
theorem de_LW_law_564 : decode cd_LW_law 564 = .ok (.iconst 2, 1) := by decide +kernel
theorem de_LW_law_565 : decode cd_LW_law 565 = .ok (.iadd, 1) := by decide +kernel
theorem de_LW_law_566 : decode cd_LW_law 566 = .ok (.iaload, 1) := by decide +kernel
theorem de_LW_law_567 : decode cd_LW_law 567 = .ok (.invokevirtual 56, 3) := by decide +kernel
theorem de_LW_law_570 : decode cd_LW_law 570 = .ok (.aload_n 2, 1) := by decide +kernel
theorem de_LW_law_571 : decode cd_LW_law 571 = .ok (.aload_n 0, 1) := by decide +kernel
theorem de_LW_law_572 : decode cd_LW_law 572 = .ok (.iload_n 3, 1) := by decide +kernel
theorem de_LW_law_573 : decode cd_LW_law 573 = .ok (.iconst 1, 1) := by decide +kernel
theorem de_LW_law_574 : decode cd_LW_law 574 = .ok (.iadd, 1) := by decide +kernel
theorem de_LW_law_575 : decode cd_LW_law 575 = .ok (.iaload, 1) := by decide +kernel
theorem de_LW_law_576 : decode cd_LW_law 576 = .ok (.aload_n 0, 1) := by decide +kernel
theorem de_LW_law_577 : decode cd_LW_law 577 = .ok (.iload_n 3, 1) := by decide +kernel
theorem de_LW_law_578 : decode cd_LW_law 578 = .ok (.iconst 2, 1) := by decide +kernel
theorem de_LW_law_579 : decode cd_LW_law 579 = .ok (.iadd, 1) := by decide +kernel
theorem de_LW_law_580 : decode cd_LW_law 580 = .ok (.iaload, 1) := by decide +kernel
theorem de_LW_law_581 : decode cd_LW_law 581 = .ok (.invokevirtual 59, 3) := by decide +kernel
theorem de_LW_law_584 : decode cd_LW_law 584 = .ok (.if_icmp .eq 528, 3) := by decide +kernel
theorem de_LW_law_587 : decode cd_LW_law 587 = .ok (.iconst 0, 1) := by decide +kernel
theorem de_LW_law_588 : decode cd_LW_law 588 = .ok (.ireturn, 1) := by decide +kernel
theorem de_LW_law_589 : decode cd_LW_law 589 = .ok (.aload_n 1, 1) := by decide +kernel
theorem de_LW_law_590 : decode cd_LW_law 590 = .ok (.aload_n 0, 1) := by decide +kernel
theorem de_LW_law_591 : decode cd_LW_law 591 = .ok (.iload_n 3, 1) := by decide +kernel
theorem de_LW_law_592 : decode cd_LW_law 592 = .ok (.iconst 1, 1) := by decide +kernel
theorem de_LW_law_593 : decode cd_LW_law 593 = .ok (.iadd, 1) := by decide +kernel
theorem de_LW_law_594 : decode cd_LW_law 594 = .ok (.iaload, 1) := by decide +kernel
theorem de_LW_law_595 : decode cd_LW_law 595 = .ok (.aload_n 0, 1) := by decide +kernel
theorem de_LW_law_596 : decode cd_LW_law 596 = .ok (.iload_n 3, 1) := by decide +kernel
theorem de_LW_law_597 : decode cd_LW_law 597 = .ok (.iconst 2, 1) := by decide +kernel
theorem de_LW_law_598 : decode cd_LW_law 598 = .ok (.iadd, 1) := by decide +kernel
theorem de_LW_law_599 : decode cd_LW_law 599 = .ok (.iaload, 1) := by decide +kernel
theorem de_LW_law_600 : decode cd_LW_law 600 = .ok (.aload_n 0, 1) := by decide +kernel
theorem de_LW_law_601 : decode cd_LW_law 601 = .ok (.iload_n 3, 1) := by decide +kernel
theorem de_LW_law_602 : decode cd_LW_law 602 = .ok (.iconst 3, 1) := by decide +kernel
theorem de_LW_law_603 : decode cd_LW_law 603 = .ok (.iadd, 1) := by decide +kernel
theorem de_LW_law_604 : decode cd_LW_law 604 = .ok (.iaload, 1) := by decide +kernel
theorem de_LW_law_605 : decode cd_LW_law 605 = .ok (.aload_n 0, 1) := by decide +kernel
theorem de_LW_law_606 : decode cd_LW_law 606 = .ok (.iload_n 3, 1) := by decide +kernel
theorem de_LW_law_607 : decode cd_LW_law 607 = .ok (.iconst 4, 1) := by decide +kernel
theorem de_LW_law_608 : decode cd_LW_law 608 = .ok (.iadd, 1) := by decide +kernel
theorem de_LW_law_609 : decode cd_LW_law 609 = .ok (.iaload, 1) := by decide +kernel
theorem de_LW_law_610 : decode cd_LW_law 610 = .ok (.aload_n 0, 1) := by decide +kernel
theorem de_LW_law_611 : decode cd_LW_law 611 = .ok (.iload_n 3, 1) := by decide +kernel
theorem de_LW_law_612 : decode cd_LW_law 612 = .ok (.iconst 5, 1) := by decide +kernel
theorem de_LW_law_613 : decode cd_LW_law 613 = .ok (.iadd, 1) := by decide +kernel
theorem de_LW_law_614 : decode cd_LW_law 614 = .ok (.iaload, 1) := by decide +kernel
theorem de_LW_law_615 : decode cd_LW_law 615 = .ok (.invokevirtual 60, 3) := by decide +kernel
theorem de_LW_law_618 : decode cd_LW_law 618 = .ok (.aload_n 2, 1) := by decide +kernel
theorem de_LW_law_619 : decode cd_LW_law 619 = .ok (.aload_n 0, 1) := by decide +kernel
theorem de_LW_law_620 : decode cd_LW_law 620 = .ok (.iload_n 3, 1) := by decide +kernel
theorem de_LW_law_621 : decode cd_LW_law 621 = .ok (.iconst 1, 1) := by decide +kernel
theorem de_LW_law_622 : decode cd_LW_law 622 = .ok (.iadd, 1) := by decide +kernel
theorem de_LW_law_623 : decode cd_LW_law 623 = .ok (.iaload, 1) := by decide +kernel
theorem de_LW_law_624 : decode cd_LW_law 624 = .ok (.aload_n 0, 1) := by decide +kernel
theorem de_LW_law_625 : decode cd_LW_law 625 = .ok (.iload_n 3, 1) := by decide +kernel
theorem de_LW_law_626 : decode cd_LW_law 626 = .ok (.iconst 2, 1) := by decide +kernel
theorem de_LW_law_627 : decode cd_LW_law 627 = .ok (.iadd, 1) := by decide +kernel
theorem de_LW_law_628 : decode cd_LW_law 628 = .ok (.iaload, 1) := by decide +kernel
theorem de_LW_law_629 : decode cd_LW_law 629 = .ok (.aload_n 0, 1) := by decide +kernel
theorem de_LW_law_630 : decode cd_LW_law 630 = .ok (.iload_n 3, 1) := by decide +kernel
theorem de_LW_law_631 : decode cd_LW_law 631 = .ok (.iconst 3, 1) := by decide +kernel
theorem de_LW_law_632 : decode cd_LW_law 632 = .ok (.iadd, 1) := by decide +kernel
theorem de_LW_law_633 : decode cd_LW_law 633 = .ok (.iaload, 1) := by decide +kernel
theorem de_LW_law_634 : decode cd_LW_law 634 = .ok (.aload_n 0, 1) := by decide +kernel
theorem de_LW_law_635 : decode cd_LW_law 635 = .ok (.iload_n 3, 1) := by decide +kernel
theorem de_LW_law_636 : decode cd_LW_law 636 = .ok (.iconst 4, 1) := by decide +kernel
theorem de_LW_law_637 : decode cd_LW_law 637 = .ok (.iadd, 1) := by decide +kernel
theorem de_LW_law_638 : decode cd_LW_law 638 = .ok (.iaload, 1) := by decide +kernel
theorem de_LW_law_639 : decode cd_LW_law 639 = .ok (.aload_n 0, 1) := by decide +kernel
theorem de_LW_law_640 : decode cd_LW_law 640 = .ok (.iload_n 3, 1) := by decide +kernel
theorem de_LW_law_641 : decode cd_LW_law 641 = .ok (.iconst 5, 1) := by decide +kernel
theorem de_LW_law_642 : decode cd_LW_law 642 = .ok (.iadd, 1) := by decide +kernel
theorem de_LW_law_643 : decode cd_LW_law 643 = .ok (.iaload, 1) := by decide +kernel
theorem de_LW_law_644 : decode cd_LW_law 644 = .ok (.invokevirtual 64, 3) := by decide +kernel
theorem de_LW_law_647 : decode cd_LW_law 647 = .ok (.if_icmp .eq 465, 3) := by decide +kernel
theorem de_LW_law_650 : decode cd_LW_law 650 = .ok (.iconst 0, 1) := by decide +kernel
theorem de_LW_law_651 : decode cd_LW_law 651 = .ok (.ireturn, 1) := by decide +kernel
theorem de_LW_law_652 : decode cd_LW_law 652 = .ok (.aload_n 1, 1) := by decide +kernel
theorem de_LW_law_653 : decode cd_LW_law 653 = .ok (.aload_n 0, 1) := by decide +kernel
theorem de_LW_law_654 : decode cd_LW_law 654 = .ok (.iload_n 3, 1) := by decide +kernel
theorem de_LW_law_655 : decode cd_LW_law 655 = .ok (.iconst 1, 1) := by decide +kernel
theorem de_LW_law_656 : decode cd_LW_law 656 = .ok (.iadd, 1) := by decide +kernel
theorem de_LW_law_657 : decode cd_LW_law 657 = .ok (.iaload, 1) := by decide +kernel
theorem de_LW_law_658 : decode cd_LW_law 658 = .ok (.invokevirtual 65, 3) := by decide +kernel
theorem de_LW_law_661 : decode cd_LW_law 661 = .ok (.aload_n 2, 1) := by decide +kernel
theorem de_LW_law_662 : decode cd_LW_law 662 = .ok (.aload_n 0, 1) := by decide +kernel
theorem de_LW_law_663 : decode cd_LW_law 663 = .ok (.iload_n 3, 1) := by decide +kernel
theorem de_LW_law_664 : decode cd_LW_law 664 = .ok (.iconst 1, 1) := by decide +kernel
theorem de_LW_law_665 : decode cd_LW_law 665 = .ok (.iadd, 1) := by decide +kernel
theorem de_LW_law_666 : decode cd_LW_law 666 = .ok (.iaload, 1) := by decide +kernel
theorem de_LW_law_667 : decode cd_LW_law 667 = .ok (.invokevirtual 69, 3) := by decide +kernel
theorem de_LW_law_670 : decode cd_LW_law 670 = .ok (.if_icmp .eq 442, 3) := by decide +kernel
theorem de_LW_law_673 : decode cd_LW_law 673 = .ok (.iconst 0, 1) := by decide +kernel
theorem de_LW_law_674 : decode cd_LW_law 674 = .ok (.ireturn, 1) := by decide +kernel
theorem de_LW_law_675 : decode cd_LW_law 675 = .ok (.aload_n 1, 1) := by decide +kernel
theorem de_LW_law_676 : decode cd_LW_law 676 = .ok (.aload_n 0, 1) := by decide +kernel
theorem de_LW_law_677 : decode cd_LW_law 677 = .ok (.iload_n 3, 1) := by decide +kernel
theorem de_LW_law_678 : decode cd_LW_law 678 = .ok (.iconst 1, 1) := by decide +kernel
theorem de_LW_law_679 : decode cd_LW_law 679 = .ok (.iadd, 1) := by decide +kernel
theorem de_LW_law_680 : decode cd_LW_law 680 = .ok (.iaload, 1) := by decide +kernel
theorem de_LW_law_681 : decode cd_LW_law 681 = .ok (.aload_n 0, 1) := by decide +kernel
theorem de_LW_law_682 : decode cd_LW_law 682 = .ok (.iload_n 3, 1) := by decide +kernel
theorem de_LW_law_683 : decode cd_LW_law 683 = .ok (.iconst 2, 1) := by decide +kernel
theorem de_LW_law_684 : decode cd_LW_law 684 = .ok (.iadd, 1) := by decide +kernel
theorem de_LW_law_685 : decode cd_LW_law 685 = .ok (.iaload, 1) := by decide +kernel
theorem de_LW_law_686 : decode cd_LW_law 686 = .ok (.aload_n 0, 1) := by decide +kernel
theorem de_LW_law_687 : decode cd_LW_law 687 = .ok (.iload_n 3, 1) := by decide +kernel
theorem de_LW_law_688 : decode cd_LW_law 688 = .ok (.iconst 3, 1) := by decide +kernel
theorem de_LW_law_689 : decode cd_LW_law 689 = .ok (.iadd, 1) := by decide +kernel
theorem de_LW_law_690 : decode cd_LW_law 690 = .ok (.iaload, 1) := by decide +kernel
theorem de_LW_law_691 : decode cd_LW_law 691 = .ok (.invokevirtual 70, 3) := by decide +kernel
theorem de_LW_law_694 : decode cd_LW_law 694 = .ok (.aload_n 2, 1) := by decide +kernel
theorem de_LW_law_695 : decode cd_LW_law 695 = .ok (.aload_n 0, 1) := by decide +kernel
theorem de_LW_law_696 : decode cd_LW_law 696 = .ok (.iload_n 3, 1) := by decide +kernel
theorem de_LW_law_697 : decode cd_LW_law 697 = .ok (.iconst 1, 1) := by decide +kernel
theorem de_LW_law_698 : decode cd_LW_law 698 = .ok (.iadd, 1) := by decide +kernel
theorem de_LW_law_699 : decode cd_LW_law 699 = .ok (.iaload, 1) := by decide +kernel
theorem de_LW_law_700 : decode cd_LW_law 700 = .ok (.aload_n 0, 1) := by decide +kernel
theorem de_LW_law_701 : decode cd_LW_law 701 = .ok (.iload_n 3, 1) := by decide +kernel
theorem de_LW_law_702 : decode cd_LW_law 702 = .ok (.iconst 2, 1) := by decide +kernel
theorem de_LW_law_703 : decode cd_LW_law 703 = .ok (.iadd, 1) := by decide +kernel
theorem de_LW_law_704 : decode cd_LW_law 704 = .ok (.iaload, 1) := by decide +kernel
theorem de_LW_law_705 : decode cd_LW_law 705 = .ok (.aload_n 0, 1) := by decide +kernel
theorem de_LW_law_706 : decode cd_LW_law 706 = .ok (.iload_n 3, 1) := by decide +kernel
theorem de_LW_law_707 : decode cd_LW_law 707 = .ok (.iconst 3, 1) := by decide +kernel
theorem de_LW_law_708 : decode cd_LW_law 708 = .ok (.iadd, 1) := by decide +kernel
theorem de_LW_law_709 : decode cd_LW_law 709 = .ok (.iaload, 1) := by decide +kernel
theorem de_LW_law_710 : decode cd_LW_law 710 = .ok (.invokevirtual 73, 3) := by decide +kernel
theorem de_LW_law_713 : decode cd_LW_law 713 = .ok (.lcmp, 1) := by decide +kernel
theorem de_LW_law_714 : decode cd_LW_law 714 = .ok (.ifCond .eq 398, 3) := by decide +kernel
theorem de_LW_law_717 : decode cd_LW_law 717 = .ok (.iconst 0, 1) := by decide +kernel
theorem de_LW_law_718 : decode cd_LW_law 718 = .ok (.ireturn, 1) := by decide +kernel
theorem de_LW_law_719 : decode cd_LW_law 719 = .ok (.aload_n 1, 1) := by decide +kernel
theorem de_LW_law_720 : decode cd_LW_law 720 = .ok (.invokevirtual 74, 3) := by decide +kernel
theorem de_LW_law_723 : decode cd_LW_law 723 = .ok (.aload_n 2, 1) := by decide +kernel
theorem de_LW_law_724 : decode cd_LW_law 724 = .ok (.invokevirtual 78, 3) := by decide +kernel
theorem de_LW_law_727 : decode cd_LW_law 727 = .ok (.if_icmp .eq 385, 3) := by decide +kernel
theorem de_LW_law_730 : decode cd_LW_law 730 = .ok (.iconst 0, 1) := by decide +kernel
theorem de_LW_law_731 : decode cd_LW_law 731 = .ok (.ireturn, 1) := by decide +kernel
theorem de_LW_law_732 : decode cd_LW_law 732 = .ok (.aload_n 1, 1) := by decide +kernel
theorem de_LW_law_733 : decode cd_LW_law 733 = .ok (.invokevirtual 79, 3) := by decide +kernel
theorem de_LW_law_736 : decode cd_LW_law 736 = .ok (.aload_n 2, 1) := by decide +kernel
theorem de_LW_law_737 : decode cd_LW_law 737 = .ok (.invokevirtual 82, 3) := by decide +kernel
theorem de_LW_law_740 : decode cd_LW_law 740 = .ok (.if_icmp .eq 372, 3) := by decide +kernel
theorem de_LW_law_743 : decode cd_LW_law 743 = .ok (.iconst 0, 1) := by decide +kernel
theorem de_LW_law_744 : decode cd_LW_law 744 = .ok (.ireturn, 1) := by decide +kernel
theorem de_LW_law_745 : decode cd_LW_law 745 = .ok (.aload_n 1, 1) := by decide +kernel
theorem de_LW_law_746 : decode cd_LW_law 746 = .ok (.aload_n 0, 1) := by decide +kernel
theorem de_LW_law_747 : decode cd_LW_law 747 = .ok (.iload_n 3, 1) := by decide +kernel
theorem de_LW_law_748 : decode cd_LW_law 748 = .ok (.iconst 1, 1) := by decide +kernel
theorem de_LW_law_749 : decode cd_LW_law 749 = .ok (.iadd, 1) := by decide +kernel
theorem de_LW_law_750 : decode cd_LW_law 750 = .ok (.iaload, 1) := by decide +kernel
theorem de_LW_law_751 : decode cd_LW_law 751 = .ok (.invokevirtual 83, 3) := by decide +kernel
theorem de_LW_law_754 : decode cd_LW_law 754 = .ok (.aload_n 2, 1) := by decide +kernel
theorem de_LW_law_755 : decode cd_LW_law 755 = .ok (.aload_n 0, 1) := by decide +kernel
theorem de_LW_law_756 : decode cd_LW_law 756 = .ok (.iload_n 3, 1) := by decide +kernel
theorem de_LW_law_757 : decode cd_LW_law 757 = .ok (.iconst 1, 1) := by decide +kernel
theorem de_LW_law_758 : decode cd_LW_law 758 = .ok (.iadd, 1) := by decide +kernel
theorem de_LW_law_759 : decode cd_LW_law 759 = .ok (.iaload, 1) := by decide +kernel
theorem de_LW_law_760 : decode cd_LW_law 760 = .ok (.invokevirtual 86, 3) := by decide +kernel
theorem de_LW_law_763 : decode cd_LW_law 763 = .ok (.if_icmp .eq 349, 3) := by decide +kernel
theorem de_LW_law_766 : decode cd_LW_law 766 = .ok (.iconst 0, 1) := by decide +kernel
theorem de_LW_law_767 : decode cd_LW_law 767 = .ok (.ireturn, 1) := by decide +kernel
theorem de_LW_law_768 : decode cd_LW_law 768 = .ok (.aload_n 1, 1) := by decide +kernel
theorem de_LW_law_769 : decode cd_LW_law 769 = .ok (.aload_n 0, 1) := by decide +kernel
theorem de_LW_law_770 : decode cd_LW_law 770 = .ok (.iload_n 3, 1) := by decide +kernel
theorem de_LW_law_771 : decode cd_LW_law 771 = .ok (.iconst 1, 1) := by decide +kernel
theorem de_LW_law_772 : decode cd_LW_law 772 = .ok (.iadd, 1) := by decide +kernel
theorem de_LW_law_773 : decode cd_LW_law 773 = .ok (.iaload, 1) := by decide +kernel
theorem de_LW_law_774 : decode cd_LW_law 774 = .ok (.aload_n 0, 1) := by decide +kernel
theorem de_LW_law_775 : decode cd_LW_law 775 = .ok (.iload_n 3, 1) := by decide +kernel
theorem de_LW_law_776 : decode cd_LW_law 776 = .ok (.iconst 2, 1) := by decide +kernel
theorem de_LW_law_777 : decode cd_LW_law 777 = .ok (.iadd, 1) := by decide +kernel
theorem de_LW_law_778 : decode cd_LW_law 778 = .ok (.iaload, 1) := by decide +kernel
theorem de_LW_law_779 : decode cd_LW_law 779 = .ok (.invokevirtual 87, 3) := by decide +kernel
theorem de_LW_law_782 : decode cd_LW_law 782 = .ok (.aload_n 2, 1) := by decide +kernel
theorem de_LW_law_783 : decode cd_LW_law 783 = .ok (.aload_n 0, 1) := by decide +kernel
theorem de_LW_law_784 : decode cd_LW_law 784 = .ok (.iload_n 3, 1) := by decide +kernel
theorem de_LW_law_785 : decode cd_LW_law 785 = .ok (.iconst 1, 1) := by decide +kernel
theorem de_LW_law_786 : decode cd_LW_law 786 = .ok (.iadd, 1) := by decide +kernel
theorem de_LW_law_787 : decode cd_LW_law 787 = .ok (.iaload, 1) := by decide +kernel
theorem de_LW_law_788 : decode cd_LW_law 788 = .ok (.aload_n 0, 1) := by decide +kernel
theorem de_LW_law_789 : decode cd_LW_law 789 = .ok (.iload_n 3, 1) := by decide +kernel
theorem de_LW_law_790 : decode cd_LW_law 790 = .ok (.iconst 2, 1) := by decide +kernel
theorem de_LW_law_791 : decode cd_LW_law 791 = .ok (.iadd, 1) := by decide +kernel
theorem de_LW_law_792 : decode cd_LW_law 792 = .ok (.iaload, 1) := by decide +kernel
theorem de_LW_law_793 : decode cd_LW_law 793 = .ok (.invokevirtual 90, 3) := by decide +kernel
theorem de_LW_law_796 : decode cd_LW_law 796 = .ok (.if_icmp .eq 316, 3) := by decide +kernel
theorem de_LW_law_799 : decode cd_LW_law 799 = .ok (.iconst 0, 1) := by decide +kernel
theorem de_LW_law_800 : decode cd_LW_law 800 = .ok (.ireturn, 1) := by decide +kernel
theorem de_LW_law_801 : decode cd_LW_law 801 = .ok (.aload_n 1, 1) := by decide +kernel
theorem de_LW_law_802 : decode cd_LW_law 802 = .ok (.aload_n 0, 1) := by decide +kernel
theorem de_LW_law_803 : decode cd_LW_law 803 = .ok (.iload_n 3, 1) := by decide +kernel
theorem de_LW_law_804 : decode cd_LW_law 804 = .ok (.iconst 1, 1) := by decide +kernel
theorem de_LW_law_805 : decode cd_LW_law 805 = .ok (.iadd, 1) := by decide +kernel
theorem de_LW_law_806 : decode cd_LW_law 806 = .ok (.iaload, 1) := by decide +kernel
theorem de_LW_law_807 : decode cd_LW_law 807 = .ok (.aload_n 0, 1) := by decide +kernel
theorem de_LW_law_808 : decode cd_LW_law 808 = .ok (.iload_n 3, 1) := by decide +kernel
theorem de_LW_law_809 : decode cd_LW_law 809 = .ok (.iconst 2, 1) := by decide +kernel
theorem de_LW_law_810 : decode cd_LW_law 810 = .ok (.iadd, 1) := by decide +kernel
theorem de_LW_law_811 : decode cd_LW_law 811 = .ok (.iaload, 1) := by decide +kernel
theorem de_LW_law_812 : decode cd_LW_law 812 = .ok (.invokevirtual 91, 3) := by decide +kernel
theorem de_LW_law_815 : decode cd_LW_law 815 = .ok (.aload_n 2, 1) := by decide +kernel
theorem de_LW_law_816 : decode cd_LW_law 816 = .ok (.aload_n 0, 1) := by decide +kernel
theorem de_LW_law_817 : decode cd_LW_law 817 = .ok (.iload_n 3, 1) := by decide +kernel
theorem de_LW_law_818 : decode cd_LW_law 818 = .ok (.iconst 1, 1) := by decide +kernel
theorem de_LW_law_819 : decode cd_LW_law 819 = .ok (.iadd, 1) := by decide +kernel
theorem de_LW_law_820 : decode cd_LW_law 820 = .ok (.iaload, 1) := by decide +kernel
theorem de_LW_law_821 : decode cd_LW_law 821 = .ok (.aload_n 0, 1) := by decide +kernel
theorem de_LW_law_822 : decode cd_LW_law 822 = .ok (.iload_n 3, 1) := by decide +kernel
theorem de_LW_law_823 : decode cd_LW_law 823 = .ok (.iconst 2, 1) := by decide +kernel
theorem de_LW_law_824 : decode cd_LW_law 824 = .ok (.iadd, 1) := by decide +kernel
theorem de_LW_law_825 : decode cd_LW_law 825 = .ok (.iaload, 1) := by decide +kernel
theorem de_LW_law_826 : decode cd_LW_law 826 = .ok (.invokevirtual 94, 3) := by decide +kernel
theorem de_LW_law_829 : decode cd_LW_law 829 = .ok (.lcmp, 1) := by decide +kernel
theorem de_LW_law_830 : decode cd_LW_law 830 = .ok (.ifCond .eq 282, 3) := by decide +kernel
theorem de_LW_law_833 : decode cd_LW_law 833 = .ok (.iconst 0, 1) := by decide +kernel
theorem de_LW_law_834 : decode cd_LW_law 834 = .ok (.ireturn, 1) := by decide +kernel
theorem de_LW_law_835 : decode cd_LW_law 835 = .ok (.aload_n 1, 1) := by decide +kernel
theorem de_LW_law_836 : decode cd_LW_law 836 = .ok (.aload_n 0, 1) := by decide +kernel
theorem de_LW_law_837 : decode cd_LW_law 837 = .ok (.iload_n 3, 1) := by decide +kernel
theorem de_LW_law_838 : decode cd_LW_law 838 = .ok (.iconst 1, 1) := by decide +kernel
theorem de_LW_law_839 : decode cd_LW_law 839 = .ok (.iadd, 1) := by decide +kernel
theorem de_LW_law_840 : decode cd_LW_law 840 = .ok (.iaload, 1) := by decide +kernel
theorem de_LW_law_841 : decode cd_LW_law 841 = .ok (.aload_n 0, 1) := by decide +kernel
theorem de_LW_law_842 : decode cd_LW_law 842 = .ok (.iload_n 3, 1) := by decide +kernel
theorem de_LW_law_843 : decode cd_LW_law 843 = .ok (.iconst 2, 1) := by decide +kernel
theorem de_LW_law_844 : decode cd_LW_law 844 = .ok (.iadd, 1) := by decide +kernel
theorem de_LW_law_845 : decode cd_LW_law 845 = .ok (.iaload, 1) := by decide +kernel
theorem de_LW_law_846 : decode cd_LW_law 846 = .ok (.ifCond .eq 7, 3) := by decide +kernel
theorem de_LW_law_849 : decode cd_LW_law 849 = .ok (.iconst 1, 1) := by decide +kernel
theorem de_LW_law_850 : decode cd_LW_law 850 = .ok (.goto 4, 3) := by decide +kernel
theorem de_LW_law_853 : decode cd_LW_law 853 = .ok (.iconst 0, 1) := by decide +kernel
theorem de_LW_law_854 : decode cd_LW_law 854 = .ok (.invokevirtual 95, 3) := by decide +kernel
theorem de_LW_law_857 : decode cd_LW_law 857 = .ok (.aload_n 2, 1) := by decide +kernel
theorem de_LW_law_858 : decode cd_LW_law 858 = .ok (.aload_n 0, 1) := by decide +kernel
theorem de_LW_law_859 : decode cd_LW_law 859 = .ok (.iload_n 3, 1) := by decide +kernel
theorem de_LW_law_860 : decode cd_LW_law 860 = .ok (.iconst 1, 1) := by decide +kernel
theorem de_LW_law_861 : decode cd_LW_law 861 = .ok (.iadd, 1) := by decide +kernel
theorem de_LW_law_862 : decode cd_LW_law 862 = .ok (.iaload, 1) := by decide +kernel
theorem de_LW_law_863 : decode cd_LW_law 863 = .ok (.aload_n 0, 1) := by decide +kernel
theorem de_LW_law_864 : decode cd_LW_law 864 = .ok (.iload_n 3, 1) := by decide +kernel
theorem de_LW_law_865 : decode cd_LW_law 865 = .ok (.iconst 2, 1) := by decide +kernel
theorem de_LW_law_866 : decode cd_LW_law 866 = .ok (.iadd, 1) := by decide +kernel
theorem de_LW_law_867 : decode cd_LW_law 867 = .ok (.iaload, 1) := by decide +kernel
theorem de_LW_law_868 : decode cd_LW_law 868 = .ok (.ifCond .eq 7, 3) := by decide +kernel
theorem de_LW_law_871 : decode cd_LW_law 871 = .ok (.iconst 1, 1) := by decide +kernel
theorem de_LW_law_872 : decode cd_LW_law 872 = .ok (.goto 4, 3) := by decide +kernel
theorem de_LW_law_875 : decode cd_LW_law 875 = .ok (.iconst 0, 1) := by decide +kernel
theorem de_LW_law_876 : decode cd_LW_law 876 = .ok (.invokevirtual 98, 3) := by decide +kernel
theorem de_LW_law_879 : decode cd_LW_law 879 = .ok (.if_icmp .eq 233, 3) := by decide +kernel
theorem de_LW_law_882 : decode cd_LW_law 882 = .ok (.iconst 0, 1) := by decide +kernel
theorem de_LW_law_883 : decode cd_LW_law 883 = .ok (.ireturn, 1) := by decide +kernel
theorem de_LW_law_884 : decode cd_LW_law 884 = .ok (.aload_n 1, 1) := by decide +kernel
theorem de_LW_law_885 : decode cd_LW_law 885 = .ok (.aload_n 0, 1) := by decide +kernel
theorem de_LW_law_886 : decode cd_LW_law 886 = .ok (.iload_n 3, 1) := by decide +kernel
theorem de_LW_law_887 : decode cd_LW_law 887 = .ok (.iconst 1, 1) := by decide +kernel
theorem de_LW_law_888 : decode cd_LW_law 888 = .ok (.iadd, 1) := by decide +kernel
theorem de_LW_law_889 : decode cd_LW_law 889 = .ok (.iaload, 1) := by decide +kernel
theorem de_LW_law_890 : decode cd_LW_law 890 = .ok (.aload_n 0, 1) := by decide +kernel
theorem de_LW_law_891 : decode cd_LW_law 891 = .ok (.iload_n 3, 1) := by decide +kernel
theorem de_LW_law_892 : decode cd_LW_law 892 = .ok (.iconst 2, 1) := by decide +kernel
theorem de_LW_law_893 : decode cd_LW_law 893 = .ok (.iadd, 1) := by decide +kernel
theorem de_LW_law_894 : decode cd_LW_law 894 = .ok (.iaload, 1) := by decide +kernel
theorem de_LW_law_895 : decode cd_LW_law 895 = .ok (.invokevirtual 99, 3) := by decide +kernel
theorem de_LW_law_898 : decode cd_LW_law 898 = .ok (.aload_n 2, 1) := by decide +kernel
theorem de_LW_law_899 : decode cd_LW_law 899 = .ok (.aload_n 0, 1) := by decide +kernel
theorem de_LW_law_900 : decode cd_LW_law 900 = .ok (.iload_n 3, 1) := by decide +kernel
theorem de_LW_law_901 : decode cd_LW_law 901 = .ok (.iconst 1, 1) := by decide +kernel
theorem de_LW_law_902 : decode cd_LW_law 902 = .ok (.iadd, 1) := by decide +kernel
theorem de_LW_law_903 : decode cd_LW_law 903 = .ok (.iaload, 1) := by decide +kernel
theorem de_LW_law_904 : decode cd_LW_law 904 = .ok (.aload_n 0, 1) := by decide +kernel
theorem de_LW_law_905 : decode cd_LW_law 905 = .ok (.iload_n 3, 1) := by decide +kernel
theorem de_LW_law_906 : decode cd_LW_law 906 = .ok (.iconst 2, 1) := by decide +kernel
theorem de_LW_law_907 : decode cd_LW_law 907 = .ok (.iadd, 1) := by decide +kernel
theorem de_LW_law_908 : decode cd_LW_law 908 = .ok (.iaload, 1) := by decide +kernel
theorem de_LW_law_909 : decode cd_LW_law 909 = .ok (.invokevirtual 102, 3) := by decide +kernel
theorem de_LW_law_912 : decode cd_LW_law 912 = .ok (.lcmp, 1) := by decide +kernel
theorem de_LW_law_913 : decode cd_LW_law 913 = .ok (.ifCond .eq 199, 3) := by decide +kernel
theorem de_LW_law_916 : decode cd_LW_law 916 = .ok (.iconst 0, 1) := by decide +kernel
theorem de_LW_law_917 : decode cd_LW_law 917 = .ok (.ireturn, 1) := by decide +kernel
theorem de_LW_law_918 : decode cd_LW_law 918 = .ok (.aload_n 1, 1) := by decide +kernel
theorem de_LW_law_919 : decode cd_LW_law 919 = .ok (.invokevirtual 103, 3) := by decide +kernel
theorem de_LW_law_922 : decode cd_LW_law 922 = .ok (.aload_n 2, 1) := by decide +kernel
theorem de_LW_law_923 : decode cd_LW_law 923 = .ok (.invokevirtual 106, 3) := by decide +kernel
theorem de_LW_law_926 : decode cd_LW_law 926 = .ok (.if_icmp .eq 186, 3) := by decide +kernel
theorem de_LW_law_929 : decode cd_LW_law 929 = .ok (.iconst 0, 1) := by decide +kernel
theorem de_LW_law_930 : decode cd_LW_law 930 = .ok (.ireturn, 1) := by decide +kernel
theorem de_LW_law_931 : decode cd_LW_law 931 = .ok (.aload_n 1, 1) := by decide +kernel
theorem de_LW_law_932 : decode cd_LW_law 932 = .ok (.aload_n 0, 1) := by decide +kernel
theorem de_LW_law_933 : decode cd_LW_law 933 = .ok (.iload_n 3, 1) := by decide +kernel
theorem de_LW_law_934 : decode cd_LW_law 934 = .ok (.iconst 1, 1) := by decide +kernel
theorem de_LW_law_935 : decode cd_LW_law 935 = .ok (.iadd, 1) := by decide +kernel
theorem de_LW_law_936 : decode cd_LW_law 936 = .ok (.iaload, 1) := by decide +kernel
theorem de_LW_law_937 : decode cd_LW_law 937 = .ok (.i2l, 1) := by decide +kernel
theorem de_LW_law_938 : decode cd_LW_law 938 = .ok (.bipush 32, 2) := by decide +kernel
theorem de_LW_law_940 : decode cd_LW_law 940 = .ok (.lshl, 1) := by decide +kernel
theorem de_LW_law_941 : decode cd_LW_law 941 = .ok (.aload_n 0, 1) := by decide +kernel
theorem de_LW_law_942 : decode cd_LW_law 942 = .ok (.iload_n 3, 1) := by decide +kernel
theorem de_LW_law_943 : decode cd_LW_law 943 = .ok (.iconst 2, 1) := by decide +kernel
theorem de_LW_law_944 : decode cd_LW_law 944 = .ok (.iadd, 1) := by decide +kernel
theorem de_LW_law_945 : decode cd_LW_law 945 = .ok (.iaload, 1) := by decide +kernel
theorem de_LW_law_946 : decode cd_LW_law 946 = .ok (.i2l, 1) := by decide +kernel
theorem de_LW_law_947 : decode cd_LW_law 947 = .ok (.ldc2_w 107, 3) := by decide +kernel
theorem de_LW_law_950 : decode cd_LW_law 950 = .ok (.land, 1) := by decide +kernel
theorem de_LW_law_951 : decode cd_LW_law 951 = .ok (.lor, 1) := by decide +kernel
theorem de_LW_law_952 : decode cd_LW_law 952 = .ok (.aload_n 0, 1) := by decide +kernel
theorem de_LW_law_953 : decode cd_LW_law 953 = .ok (.iload_n 3, 1) := by decide +kernel
theorem de_LW_law_954 : decode cd_LW_law 954 = .ok (.iconst 3, 1) := by decide +kernel
theorem de_LW_law_955 : decode cd_LW_law 955 = .ok (.iadd, 1) := by decide +kernel
theorem de_LW_law_956 : decode cd_LW_law 956 = .ok (.iaload, 1) := by decide +kernel
theorem de_LW_law_957 : decode cd_LW_law 957 = .ok (.invokevirtual 109, 3) := by decide +kernel
theorem de_LW_law_960 : decode cd_LW_law 960 = .ok (.aload_n 2, 1) := by decide +kernel
theorem de_LW_law_961 : decode cd_LW_law 961 = .ok (.aload_n 0, 1) := by decide +kernel
theorem de_LW_law_962 : decode cd_LW_law 962 = .ok (.iload_n 3, 1) := by decide +kernel
theorem de_LW_law_963 : decode cd_LW_law 963 = .ok (.iconst 1, 1) := by decide +kernel
theorem de_LW_law_964 : decode cd_LW_law 964 = .ok (.iadd, 1) := by decide +kernel
theorem de_LW_law_965 : decode cd_LW_law 965 = .ok (.iaload, 1) := by decide +kernel
theorem de_LW_law_966 : decode cd_LW_law 966 = .ok (.i2l, 1) := by decide +kernel
theorem de_LW_law_967 : decode cd_LW_law 967 = .ok (.bipush 32, 2) := by decide +kernel
theorem de_LW_law_969 : decode cd_LW_law 969 = .ok (.lshl, 1) := by decide +kernel
theorem de_LW_law_970 : decode cd_LW_law 970 = .ok (.aload_n 0, 1) := by decide +kernel
theorem de_LW_law_971 : decode cd_LW_law 971 = .ok (.iload_n 3, 1) := by decide +kernel
theorem de_LW_law_972 : decode cd_LW_law 972 = .ok (.iconst 2, 1) := by decide +kernel
theorem de_LW_law_973 : decode cd_LW_law 973 = .ok (.iadd, 1) := by decide +kernel
theorem de_LW_law_974 : decode cd_LW_law 974 = .ok (.iaload, 1) := by decide +kernel
theorem de_LW_law_975 : decode cd_LW_law 975 = .ok (.i2l, 1) := by decide +kernel
theorem de_LW_law_976 : decode cd_LW_law 976 = .ok (.ldc2_w 107, 3) := by decide +kernel
theorem de_LW_law_979 : decode cd_LW_law 979 = .ok (.land, 1) := by decide +kernel
theorem de_LW_law_980 : decode cd_LW_law 980 = .ok (.lor, 1) := by decide +kernel
theorem de_LW_law_981 : decode cd_LW_law 981 = .ok (.aload_n 0, 1) := by decide +kernel
theorem de_LW_law_982 : decode cd_LW_law 982 = .ok (.iload_n 3, 1) := by decide +kernel
theorem de_LW_law_983 : decode cd_LW_law 983 = .ok (.iconst 3, 1) := by decide +kernel
theorem de_LW_law_984 : decode cd_LW_law 984 = .ok (.iadd, 1) := by decide +kernel
theorem de_LW_law_985 : decode cd_LW_law 985 = .ok (.iaload, 1) := by decide +kernel
theorem de_LW_law_986 : decode cd_LW_law 986 = .ok (.invokevirtual 113, 3) := by decide +kernel
theorem de_LW_law_989 : decode cd_LW_law 989 = .ok (.if_icmp .eq 123, 3) := by decide +kernel
theorem de_LW_law_992 : decode cd_LW_law 992 = .ok (.iconst 0, 1) := by decide +kernel
theorem de_LW_law_993 : decode cd_LW_law 993 = .ok (.ireturn, 1) := by decide +kernel
theorem de_LW_law_994 : decode cd_LW_law 994 = .ok (.aload_n 1, 1) := by decide +kernel
theorem de_LW_law_995 : decode cd_LW_law 995 = .ok (.invokevirtual 114, 3) := by decide +kernel
theorem de_LW_law_998 : decode cd_LW_law 998 = .ok (.aload_n 2, 1) := by decide +kernel
theorem de_LW_law_999 : decode cd_LW_law 999 = .ok (.invokevirtual 117, 3) := by decide +kernel
theorem de_LW_law_1002 : decode cd_LW_law 1002 = .ok (.if_icmp .eq 110, 3) := by decide +kernel
theorem de_LW_law_1005 : decode cd_LW_law 1005 = .ok (.iconst 0, 1) := by decide +kernel
theorem de_LW_law_1006 : decode cd_LW_law 1006 = .ok (.ireturn, 1) := by decide +kernel
theorem de_LW_law_1007 : decode cd_LW_law 1007 = .ok (.aload_n 1, 1) := by decide +kernel
theorem de_LW_law_1008 : decode cd_LW_law 1008 = .ok (.invokevirtual 118, 3) := by decide +kernel
theorem de_LW_law_1011 : decode cd_LW_law 1011 = .ok (.aload_n 2, 1) := by decide +kernel
theorem de_LW_law_1012 : decode cd_LW_law 1012 = .ok (.invokevirtual 121, 3) := by decide +kernel
theorem de_LW_law_1015 : decode cd_LW_law 1015 = .ok (.if_icmp .eq 97, 3) := by decide +kernel
theorem de_LW_law_1018 : decode cd_LW_law 1018 = .ok (.iconst 0, 1) := by decide +kernel
theorem de_LW_law_1019 : decode cd_LW_law 1019 = .ok (.ireturn, 1) := by decide +kernel
theorem de_LW_law_1020 : decode cd_LW_law 1020 = .ok (.aload_n 1, 1) := by decide +kernel
theorem de_LW_law_1021 : decode cd_LW_law 1021 = .ok (.aload_n 0, 1) := by decide +kernel
theorem de_LW_law_1022 : decode cd_LW_law 1022 = .ok (.iload_n 3, 1) := by decide +kernel
theorem de_LW_law_1023 : decode cd_LW_law 1023 = .ok (.iconst 1, 1) := by decide +kernel
theorem de_LW_law_1024 : decode cd_LW_law 1024 = .ok (.iadd, 1) := by decide +kernel
theorem de_LW_law_1025 : decode cd_LW_law 1025 = .ok (.iaload, 1) := by decide +kernel
theorem de_LW_law_1026 : decode cd_LW_law 1026 = .ok (.aload_n 0, 1) := by decide +kernel
theorem de_LW_law_1027 : decode cd_LW_law 1027 = .ok (.iload_n 3, 1) := by decide +kernel
theorem de_LW_law_1028 : decode cd_LW_law 1028 = .ok (.iconst 2, 1) := by decide +kernel
theorem de_LW_law_1029 : decode cd_LW_law 1029 = .ok (.iadd, 1) := by decide +kernel
theorem de_LW_law_1030 : decode cd_LW_law 1030 = .ok (.iaload, 1) := by decide +kernel
theorem de_LW_law_1031 : decode cd_LW_law 1031 = .ok (.invokevirtual 122, 3) := by decide +kernel
theorem de_LW_law_1034 : decode cd_LW_law 1034 = .ok (.aload_n 2, 1) := by decide +kernel
theorem de_LW_law_1035 : decode cd_LW_law 1035 = .ok (.aload_n 0, 1) := by decide +kernel
theorem de_LW_law_1036 : decode cd_LW_law 1036 = .ok (.iload_n 3, 1) := by decide +kernel
theorem de_LW_law_1037 : decode cd_LW_law 1037 = .ok (.iconst 1, 1) := by decide +kernel
theorem de_LW_law_1038 : decode cd_LW_law 1038 = .ok (.iadd, 1) := by decide +kernel
theorem de_LW_law_1039 : decode cd_LW_law 1039 = .ok (.iaload, 1) := by decide +kernel
theorem de_LW_law_1040 : decode cd_LW_law 1040 = .ok (.aload_n 0, 1) := by decide +kernel
theorem de_LW_law_1041 : decode cd_LW_law 1041 = .ok (.iload_n 3, 1) := by decide +kernel
theorem de_LW_law_1042 : decode cd_LW_law 1042 = .ok (.iconst 2, 1) := by decide +kernel
theorem de_LW_law_1043 : decode cd_LW_law 1043 = .ok (.iadd, 1) := by decide +kernel
theorem de_LW_law_1044 : decode cd_LW_law 1044 = .ok (.iaload, 1) := by decide +kernel
theorem de_LW_law_1045 : decode cd_LW_law 1045 = .ok (.invokevirtual 125, 3) := by decide +kernel
theorem de_LW_law_1048 : decode cd_LW_law 1048 = .ok (.if_icmp .eq 64, 3) := by decide +kernel
theorem de_LW_law_1051 : decode cd_LW_law 1051 = .ok (.iconst 0, 1) := by decide +kernel
theorem de_LW_law_1052 : decode cd_LW_law 1052 = .ok (.ireturn, 1) := by decide +kernel
theorem de_LW_law_1053 : decode cd_LW_law 1053 = .ok (.aload_n 1, 1) := by decide +kernel
theorem de_LW_law_1054 : decode cd_LW_law 1054 = .ok (.invokevirtual 126, 3) := by decide +kernel
theorem de_LW_law_1057 : decode cd_LW_law 1057 = .ok (.aload_n 2, 1) := by decide +kernel
theorem de_LW_law_1058 : decode cd_LW_law 1058 = .ok (.invokevirtual 129, 3) := by decide +kernel
theorem de_LW_law_1061 : decode cd_LW_law 1061 = .ok (.if_icmp .eq 51, 3) := by decide +kernel
theorem de_LW_law_1064 : decode cd_LW_law 1064 = .ok (.iconst 0, 1) := by decide +kernel
theorem de_LW_law_1065 : decode cd_LW_law 1065 = .ok (.ireturn, 1) := by decide +kernel
theorem de_LW_law_1066 : decode cd_LW_law 1066 = .ok (.aload_n 1, 1) := by decide +kernel
theorem de_LW_law_1067 : decode cd_LW_law 1067 = .ok (.aload_n 0, 1) := by decide +kernel
theorem de_LW_law_1068 : decode cd_LW_law 1068 = .ok (.iload_n 3, 1) := by decide +kernel
theorem de_LW_law_1069 : decode cd_LW_law 1069 = .ok (.iconst 1, 1) := by decide +kernel
theorem de_LW_law_1070 : decode cd_LW_law 1070 = .ok (.iadd, 1) := by decide +kernel
theorem de_LW_law_1071 : decode cd_LW_law 1071 = .ok (.iaload, 1) := by decide +kernel
theorem de_LW_law_1072 : decode cd_LW_law 1072 = .ok (.invokevirtual 130, 3) := by decide +kernel
theorem de_LW_law_1075 : decode cd_LW_law 1075 = .ok (.aload_n 2, 1) := by decide +kernel
theorem de_LW_law_1076 : decode cd_LW_law 1076 = .ok (.aload_n 0, 1) := by decide +kernel
theorem de_LW_law_1077 : decode cd_LW_law 1077 = .ok (.iload_n 3, 1) := by decide +kernel
theorem de_LW_law_1078 : decode cd_LW_law 1078 = .ok (.iconst 1, 1) := by decide +kernel
theorem de_LW_law_1079 : decode cd_LW_law 1079 = .ok (.iadd, 1) := by decide +kernel
theorem de_LW_law_1080 : decode cd_LW_law 1080 = .ok (.iaload, 1) := by decide +kernel
theorem de_LW_law_1081 : decode cd_LW_law 1081 = .ok (.invokevirtual 133, 3) := by decide +kernel
theorem de_LW_law_1084 : decode cd_LW_law 1084 = .ok (.if_icmp .eq 28, 3) := by decide +kernel
theorem de_LW_law_1087 : decode cd_LW_law 1087 = .ok (.iconst 0, 1) := by decide +kernel
theorem de_LW_law_1088 : decode cd_LW_law 1088 = .ok (.ireturn, 1) := by decide +kernel
theorem de_LW_law_1089 : decode cd_LW_law 1089 = .ok (.aload_n 1, 1) := by decide +kernel
theorem de_LW_law_1090 : decode cd_LW_law 1090 = .ok (.aload_n 0, 1) := by decide +kernel
theorem de_LW_law_1091 : decode cd_LW_law 1091 = .ok (.iload_n 3, 1) := by decide +kernel
theorem de_LW_law_1092 : decode cd_LW_law 1092 = .ok (.iconst 1, 1) := by decide +kernel
theorem de_LW_law_1093 : decode cd_LW_law 1093 = .ok (.iadd, 1) := by decide +kernel
theorem de_LW_law_1094 : decode cd_LW_law 1094 = .ok (.iaload, 1) := by decide +kernel
theorem de_LW_law_1095 : decode cd_LW_law 1095 = .ok (.invokevirtual 134, 3) := by decide +kernel
theorem de_LW_law_1098 : decode cd_LW_law 1098 = .ok (.aload_n 2, 1) := by decide +kernel
theorem de_LW_law_1099 : decode cd_LW_law 1099 = .ok (.aload_n 0, 1) := by decide +kernel
theorem de_LW_law_1100 : decode cd_LW_law 1100 = .ok (.iload_n 3, 1) := by decide +kernel
theorem de_LW_law_1101 : decode cd_LW_law 1101 = .ok (.iconst 1, 1) := by decide +kernel
theorem de_LW_law_1102 : decode cd_LW_law 1102 = .ok (.iadd, 1) := by decide +kernel
theorem de_LW_law_1103 : decode cd_LW_law 1103 = .ok (.iaload, 1) := by decide +kernel
theorem de_LW_law_1104 : decode cd_LW_law 1104 = .ok (.invokevirtual 137, 3) := by decide +kernel
theorem de_LW_law_1107 : decode cd_LW_law 1107 = .ok (.if_icmp .eq 5, 3) := by decide +kernel
theorem de_LW_law_1110 : decode cd_LW_law 1110 = .ok (.iconst 0, 1) := by decide +kernel
theorem de_LW_law_1111 : decode cd_LW_law 1111 = .ok (.ireturn, 1) := by decide +kernel
theorem de_LW_law_1112 : decode cd_LW_law 1112 = .ok (.iinc 3 6, 3) := by decide +kernel
theorem de_LW_law_1115 : decode cd_LW_law 1115 = .ok (.goto (-1097), 3) := by decide +kernel
theorem de_LW_law_1118 : decode cd_LW_law 1118 = .ok (.iconst 1, 1) := by decide +kernel
theorem de_LW_law_1119 : decode cd_LW_law 1119 = .ok (.ireturn, 1) := by decide +kernel
def jb_LW_law_1112 (N : Nat) (sa : (Nat → Nat) × Nat × (Nat → Int32)) (k18 : mv_M → Nat → Nat → Int32 → Option (Int32 × mv_M)) (M : mv_M) (v1 : Nat) (v2 : Nat) (v3 : Int32) : Option (Int32 × mv_M) :=
  k18 M v1 v2 (v3 + 6)
def jb_LW_law_876 (N : Nat) (sa : (Nat → Nat) × Nat × (Nat → Int32)) (k18 : mv_M → Nat → Nat → Int32 → Option (Int32 × mv_M)) (M : mv_M) (v1 : Nat) (v2 : Nat) (v3 : Int32) (s0 : Int32) (s1 : Nat) (s2 : Int32) (s3 : Int32) : Option (Int32 × mv_M) :=
  mj_ob M s1 1 <|
  mj_call (jf_PM_pair N M s1 s2 s3) fun r876 Mm876 =>
  if s0 = r876 then (jb_LW_law_1112 N sa k18 Mm876 v1 v2 v3) else
  some (0, Mm876)
def jb_LW_law_854 (N : Nat) (sa : (Nat → Nat) × Nat × (Nat → Int32)) (k18 : mv_M → Nat → Nat → Int32 → Option (Int32 × mv_M)) (M : mv_M) (v1 : Nat) (v2 : Nat) (v3 : Int32) (s0 : Nat) (s1 : Int32) (s2 : Int32) : Option (Int32 × mv_M) :=
  mj_ob M s0 0 <|
  mj_call (jf_PL_pair N M s0 s1 s2) fun r854 Mm854 =>
  Option.bind (mj_tab sa.2.2 sa.2.1 (v3 + 1)) fun x862 =>
  Option.bind (mj_tab sa.2.2 sa.2.1 (v3 + 2)) fun x867 =>
  if x867 = 0 then (jb_LW_law_876 N sa k18 Mm854 v1 v2 v3 r854 v2 x862 0) else
  jb_LW_law_876 N sa k18 Mm854 v1 v2 v3 r854 v2 x862 1
def jb_LW_law_515 (N : Nat) (sa : (Nat → Nat) × Nat × (Nat → Int32)) (k18 : mv_M → Nat → Nat → Int32 → Option (Int32 × mv_M)) (M : mv_M) (v1 : Nat) (v2 : Nat) (v3 : Int32) (s0 : Int32) (s1 : Nat) (s2 : Int32) (s3 : Int32) : Option (Int32 × mv_M) :=
  mj_ob M s1 1 <|
  mj_call (jf_PM_parameter N M s1 s2 s3) fun r515 Mm515 =>
  if s0 = r515 then (jb_LW_law_1112 N sa k18 Mm515 v1 v2 v3) else
  some (0, Mm515)
def jb_LW_law_493 (N : Nat) (sa : (Nat → Nat) × Nat × (Nat → Int32)) (k18 : mv_M → Nat → Nat → Int32 → Option (Int32 × mv_M)) (M : mv_M) (v1 : Nat) (v2 : Nat) (v3 : Int32) (s0 : Nat) (s1 : Int32) (s2 : Int32) : Option (Int32 × mv_M) :=
  mj_ob M s0 0 <|
  mj_call (jf_PL_parameter N M s0 s1 s2) fun r493 Mm493 =>
  Option.bind (mj_tab sa.2.2 sa.2.1 (v3 + 1)) fun x501 =>
  Option.bind (mj_tab sa.2.2 sa.2.1 (v3 + 2)) fun x506 =>
  if x506 = 0 then (jb_LW_law_515 N sa k18 Mm493 v1 v2 v3 r493 v2 x501 0) else
  jb_LW_law_515 N sa k18 Mm493 v1 v2 v3 r493 v2 x501 1
def jb_LW_law_18 (N : Nat) (sa : (Nat → Nat) × Nat × (Nat → Int32)) : Nat → mv_M → Nat → Nat → Int32 → Option (Int32 × mv_M)
  | 0, _, _, _, _ => none
  | n + 1, M, v1, v2, v3 =>
    if ((Int32.ofNat sa.2.1) - 6) < v3 then (some (1, M)) else
    Option.bind (mj_tab sa.2.2 sa.2.1 v3) fun x29 =>
    if (x29 &&& 31) = 0 then (Option.bind (mj_tab sa.2.2 sa.2.1 (v3 + 1)) fun x165 =>
    Option.bind (mj_tab sa.2.2 sa.2.1 (v3 + 2)) fun x170 =>
    Option.bind (mj_tab sa.2.2 sa.2.1 (v3 + 3)) fun x175 =>
    Option.bind (mj_tab sa.2.2 sa.2.1 (v3 + 4)) fun x180 =>
    mj_ob M v1 0 <|
    mj_call (jf_PL_leaf N M v1 x165 x170 x175 x180) fun r181 Mm181 =>
    Option.bind (mj_tab sa.2.2 sa.2.1 (v3 + 1)) fun x189 =>
    Option.bind (mj_tab sa.2.2 sa.2.1 (v3 + 2)) fun x194 =>
    Option.bind (mj_tab sa.2.2 sa.2.1 (v3 + 3)) fun x199 =>
    Option.bind (mj_tab sa.2.2 sa.2.1 (v3 + 4)) fun x204 =>
    mj_ob Mm181 v2 1 <|
    mj_call (jf_PM_leaf N Mm181 v2 x189 x194 x199 x204) fun r205 Mm205 =>
    if r181 = r205 then (jb_LW_law_1112 N sa (jb_LW_law_18 N sa n) Mm205 v1 v2 v3) else
    some (0, Mm205)) else
    if (x29 &&& 31) = 1 then (Option.bind (mj_tab sa.2.2 sa.2.1 (v3 + 1)) fun x218 =>
    Option.bind (mj_tab sa.2.2 sa.2.1 (v3 + 2)) fun x223 =>
    Option.bind (mj_tab sa.2.2 sa.2.1 (v3 + 3)) fun x228 =>
    Option.bind (mj_tab sa.2.2 sa.2.1 (v3 + 4)) fun x233 =>
    mj_ob M v1 0 <|
    mj_call (jf_PL_tell N M v1 x218 x223 x228 x233) fun r234 Mm234 =>
    Option.bind (mj_tab sa.2.2 sa.2.1 (v3 + 1)) fun x242 =>
    Option.bind (mj_tab sa.2.2 sa.2.1 (v3 + 2)) fun x247 =>
    Option.bind (mj_tab sa.2.2 sa.2.1 (v3 + 3)) fun x252 =>
    Option.bind (mj_tab sa.2.2 sa.2.1 (v3 + 4)) fun x257 =>
    mj_ob Mm234 v2 1 <|
    mj_call (jf_PM_tell N Mm234 v2 x242 x247 x252 x257) fun r258 Mm258 =>
    if r234 = r258 then (jb_LW_law_1112 N sa (jb_LW_law_18 N sa n) Mm258 v1 v2 v3) else
    some (0, Mm258)) else
    if (x29 &&& 31) = 2 then (Option.bind (mj_tab sa.2.2 sa.2.1 (v3 + 1)) fun x271 =>
    Option.bind (mj_tab sa.2.2 sa.2.1 (v3 + 2)) fun x276 =>
    Option.bind (mj_tab sa.2.2 sa.2.1 (v3 + 3)) fun x281 =>
    mj_ob M v1 0 <|
    mj_call (jf_PL_act N M v1 x271 x276 x281) fun r282 Mm282 =>
    Option.bind (mj_tab sa.2.2 sa.2.1 (v3 + 1)) fun x290 =>
    Option.bind (mj_tab sa.2.2 sa.2.1 (v3 + 2)) fun x295 =>
    Option.bind (mj_tab sa.2.2 sa.2.1 (v3 + 3)) fun x300 =>
    mj_ob Mm282 v2 1 <|
    mj_call (jf_PM_act N Mm282 v2 x290 x295 x300) fun r301 Mm301 =>
    if r282 = r301 then (jb_LW_law_1112 N sa (jb_LW_law_18 N sa n) Mm301 v1 v2 v3) else
    some (0, Mm301)) else
    if (x29 &&& 31) = 3 then (Option.bind (mj_tab sa.2.2 sa.2.1 (v3 + 1)) fun x314 =>
    Option.bind (mj_tab sa.2.2 sa.2.1 (v3 + 2)) fun x319 =>
    mj_ob M v1 0 <|
    mj_call (jf_PL_node N M v1 x314 x319) fun r320 Mm320 =>
    Option.bind (mj_tab sa.2.2 sa.2.1 (v3 + 1)) fun x328 =>
    Option.bind (mj_tab sa.2.2 sa.2.1 (v3 + 2)) fun x333 =>
    mj_ob Mm320 v2 1 <|
    mj_call (jf_PM_node N Mm320 v2 x328 x333) fun r334 Mm334 =>
    if r320 = r334 then (jb_LW_law_1112 N sa (jb_LW_law_18 N sa n) Mm334 v1 v2 v3) else
    some (0, Mm334)) else
    if (x29 &&& 31) = 4 then (Option.bind (mj_tab sa.2.2 sa.2.1 (v3 + 1)) fun x347 =>
    Option.bind (mj_tab sa.2.2 sa.2.1 (v3 + 2)) fun x352 =>
    Option.bind (mj_tab sa.2.2 sa.2.1 (v3 + 3)) fun x357 =>
    mj_ob M v1 0 <|
    mj_call (jf_PL_value N M v1 x347 x352 x357) fun r358 Mm358 =>
    Option.bind (mj_tab sa.2.2 sa.2.1 (v3 + 1)) fun x366 =>
    Option.bind (mj_tab sa.2.2 sa.2.1 (v3 + 2)) fun x371 =>
    Option.bind (mj_tab sa.2.2 sa.2.1 (v3 + 3)) fun x376 =>
    mj_ob Mm358 v2 1 <|
    mj_call (jf_PM_value N Mm358 v2 x366 x371 x376) fun r377 Mm377 =>
    if (lg_cmp r358 r377) = 0 then (jb_LW_law_1112 N sa (jb_LW_law_18 N sa n) Mm377 v1 v2 v3) else
    some (0, Mm377)) else
    if (x29 &&& 31) = 5 then (Option.bind (mj_tab sa.2.2 sa.2.1 (v3 + 1)) fun x391 =>
    Option.bind (mj_tab sa.2.2 sa.2.1 (v3 + 2)) fun x396 =>
    Option.bind (mj_tab sa.2.2 sa.2.1 (v3 + 3)) fun x401 =>
    Option.bind (mj_tab sa.2.2 sa.2.1 (v3 + 4)) fun x406 =>
    mj_ob M v1 0 <|
    mj_call (jf_PL_slope N M v1 x391 x396 x401 x406) fun r407 Mm407 =>
    Option.bind (mj_tab sa.2.2 sa.2.1 (v3 + 1)) fun x415 =>
    Option.bind (mj_tab sa.2.2 sa.2.1 (v3 + 2)) fun x420 =>
    Option.bind (mj_tab sa.2.2 sa.2.1 (v3 + 3)) fun x425 =>
    Option.bind (mj_tab sa.2.2 sa.2.1 (v3 + 4)) fun x430 =>
    mj_ob Mm407 v2 1 <|
    mj_call (jf_PM_slope N Mm407 v2 x415 x420 x425 x430) fun r431 Mm431 =>
    if (lg_cmp r407 r431) = 0 then (jb_LW_law_1112 N sa (jb_LW_law_18 N sa n) Mm431 v1 v2 v3) else
    some (0, Mm431)) else
    if (x29 &&& 31) = 6 then (Option.bind (mj_tab sa.2.2 sa.2.1 (v3 + 1)) fun x445 =>
    Option.bind (mj_tab sa.2.2 sa.2.1 (v3 + 2)) fun x450 =>
    mj_ob M v1 0 <|
    mj_call (jf_PL_ways N M v1 x445 x450) fun r451 Mm451 =>
    Option.bind (mj_tab sa.2.2 sa.2.1 (v3 + 1)) fun x459 =>
    Option.bind (mj_tab sa.2.2 sa.2.1 (v3 + 2)) fun x464 =>
    mj_ob Mm451 v2 1 <|
    mj_call (jf_PM_ways N Mm451 v2 x459 x464) fun r465 Mm465 =>
    if (lg_cmp r451 r465) = 0 then (jb_LW_law_1112 N sa (jb_LW_law_18 N sa n) Mm465 v1 v2 v3) else
    some (0, Mm465)) else
    if (x29 &&& 31) = 7 then (Option.bind (mj_tab sa.2.2 sa.2.1 (v3 + 1)) fun x479 =>
    Option.bind (mj_tab sa.2.2 sa.2.1 (v3 + 2)) fun x484 =>
    if x484 = 0 then (jb_LW_law_493 N sa (jb_LW_law_18 N sa n) M v1 v2 v3 v1 x479 0) else
    jb_LW_law_493 N sa (jb_LW_law_18 N sa n) M v1 v2 v3 v1 x479 1) else
    if (x29 &&& 31) = 8 then (Option.bind (mj_tab sa.2.2 sa.2.1 (v3 + 1)) fun x528 =>
    Option.bind (mj_tab sa.2.2 sa.2.1 (v3 + 2)) fun x533 =>
    mj_ob M v1 0 <|
    mj_call (jf_PL_rate N M v1 x528 x533) fun r534 Mm534 =>
    Option.bind (mj_tab sa.2.2 sa.2.1 (v3 + 1)) fun x542 =>
    Option.bind (mj_tab sa.2.2 sa.2.1 (v3 + 2)) fun x547 =>
    mj_ob Mm534 v2 1 <|
    mj_call (jf_PM_rate N Mm534 v2 x542 x547) fun r548 Mm548 =>
    if r534 = r548 then (jb_LW_law_1112 N sa (jb_LW_law_18 N sa n) Mm548 v1 v2 v3) else
    some (0, Mm548)) else
    if (x29 &&& 31) = 9 then (Option.bind (mj_tab sa.2.2 sa.2.1 (v3 + 1)) fun x561 =>
    Option.bind (mj_tab sa.2.2 sa.2.1 (v3 + 2)) fun x566 =>
    mj_ob M v1 0 <|
    mj_call (jf_PL_train N M v1 x561 x566) fun r567 Mm567 =>
    Option.bind (mj_tab sa.2.2 sa.2.1 (v3 + 1)) fun x575 =>
    Option.bind (mj_tab sa.2.2 sa.2.1 (v3 + 2)) fun x580 =>
    mj_ob Mm567 v2 1 <|
    mj_call (jf_PM_train N Mm567 v2 x575 x580) fun r581 Mm581 =>
    if r567 = r581 then (jb_LW_law_1112 N sa (jb_LW_law_18 N sa n) Mm581 v1 v2 v3) else
    some (0, Mm581)) else
    if (x29 &&& 31) = 10 then (Option.bind (mj_tab sa.2.2 sa.2.1 (v3 + 1)) fun x594 =>
    Option.bind (mj_tab sa.2.2 sa.2.1 (v3 + 2)) fun x599 =>
    Option.bind (mj_tab sa.2.2 sa.2.1 (v3 + 3)) fun x604 =>
    Option.bind (mj_tab sa.2.2 sa.2.1 (v3 + 4)) fun x609 =>
    Option.bind (mj_tab sa.2.2 sa.2.1 (v3 + 5)) fun x614 =>
    mj_ob M v1 0 <|
    mj_call (jf_PL_row N M v1 x594 x599 x604 x609 x614) fun r615 Mm615 =>
    Option.bind (mj_tab sa.2.2 sa.2.1 (v3 + 1)) fun x623 =>
    Option.bind (mj_tab sa.2.2 sa.2.1 (v3 + 2)) fun x628 =>
    Option.bind (mj_tab sa.2.2 sa.2.1 (v3 + 3)) fun x633 =>
    Option.bind (mj_tab sa.2.2 sa.2.1 (v3 + 4)) fun x638 =>
    Option.bind (mj_tab sa.2.2 sa.2.1 (v3 + 5)) fun x643 =>
    mj_ob Mm615 v2 1 <|
    mj_call (jf_PM_row N Mm615 v2 x623 x628 x633 x638 x643) fun r644 Mm644 =>
    if r615 = r644 then (jb_LW_law_1112 N sa (jb_LW_law_18 N sa n) Mm644 v1 v2 v3) else
    some (0, Mm644)) else
    if (x29 &&& 31) = 11 then (Option.bind (mj_tab sa.2.2 sa.2.1 (v3 + 1)) fun x657 =>
    mj_ob M v1 0 <|
    mj_call (jf_PL_cut N M v1 x657) fun r658 Mm658 =>
    Option.bind (mj_tab sa.2.2 sa.2.1 (v3 + 1)) fun x666 =>
    mj_ob Mm658 v2 1 <|
    mj_call (jf_PM_cut N Mm658 v2 x666) fun r667 Mm667 =>
    if r658 = r667 then (jb_LW_law_1112 N sa (jb_LW_law_18 N sa n) Mm667 v1 v2 v3) else
    some (0, Mm667)) else
    if (x29 &&& 31) = 12 then (Option.bind (mj_tab sa.2.2 sa.2.1 (v3 + 1)) fun x680 =>
    Option.bind (mj_tab sa.2.2 sa.2.1 (v3 + 2)) fun x685 =>
    Option.bind (mj_tab sa.2.2 sa.2.1 (v3 + 3)) fun x690 =>
    mj_ob M v1 0 <|
    mj_call (jf_PL_cost N M v1 x680 x685 x690) fun r691 Mm691 =>
    Option.bind (mj_tab sa.2.2 sa.2.1 (v3 + 1)) fun x699 =>
    Option.bind (mj_tab sa.2.2 sa.2.1 (v3 + 2)) fun x704 =>
    Option.bind (mj_tab sa.2.2 sa.2.1 (v3 + 3)) fun x709 =>
    mj_ob Mm691 v2 1 <|
    mj_call (jf_PM_cost N Mm691 v2 x699 x704 x709) fun r710 Mm710 =>
    if (lg_cmp r691 r710) = 0 then (jb_LW_law_1112 N sa (jb_LW_law_18 N sa n) Mm710 v1 v2 v3) else
    some (0, Mm710)) else
    if (x29 &&& 31) = 13 then (mj_ob M v1 0 <|
    mj_call (jf_PL_best N M v1) fun r720 Mm720 =>
    mj_ob Mm720 v2 1 <|
    mj_call (jf_PM_best N Mm720 v2) fun r724 Mm724 =>
    if r720 = r724 then (jb_LW_law_1112 N sa (jb_LW_law_18 N sa n) Mm724 v1 v2 v3) else
    some (0, Mm724)) else
    if (x29 &&& 31) = 14 then (mj_ob M v1 0 <|
    mj_call (jf_PL_clear N M v1) fun r733 Mm733 =>
    mj_ob Mm733 v2 1 <|
    mj_call (jf_PM_clear N Mm733 v2) fun r737 Mm737 =>
    if r733 = r737 then (jb_LW_law_1112 N sa (jb_LW_law_18 N sa n) Mm737 v1 v2 v3) else
    some (0, Mm737)) else
    if (x29 &&& 31) = 15 then (Option.bind (mj_tab sa.2.2 sa.2.1 (v3 + 1)) fun x750 =>
    mj_ob M v1 0 <|
    mj_call (jf_PL_game N M v1 x750) fun r751 Mm751 =>
    Option.bind (mj_tab sa.2.2 sa.2.1 (v3 + 1)) fun x759 =>
    mj_ob Mm751 v2 1 <|
    mj_call (jf_PM_game N Mm751 v2 x759) fun r760 Mm760 =>
    if r751 = r760 then (jb_LW_law_1112 N sa (jb_LW_law_18 N sa n) Mm760 v1 v2 v3) else
    some (0, Mm760)) else
    if (x29 &&& 31) = 16 then (Option.bind (mj_tab sa.2.2 sa.2.1 (v3 + 1)) fun x773 =>
    Option.bind (mj_tab sa.2.2 sa.2.1 (v3 + 2)) fun x778 =>
    mj_ob M v1 0 <|
    mj_call (jf_PL_worth N M v1 x773 x778) fun r779 Mm779 =>
    Option.bind (mj_tab sa.2.2 sa.2.1 (v3 + 1)) fun x787 =>
    Option.bind (mj_tab sa.2.2 sa.2.1 (v3 + 2)) fun x792 =>
    mj_ob Mm779 v2 1 <|
    mj_call (jf_PM_worth N Mm779 v2 x787 x792) fun r793 Mm793 =>
    if r779 = r793 then (jb_LW_law_1112 N sa (jb_LW_law_18 N sa n) Mm793 v1 v2 v3) else
    some (0, Mm793)) else
    if (x29 &&& 31) = 17 then (Option.bind (mj_tab sa.2.2 sa.2.1 (v3 + 1)) fun x806 =>
    Option.bind (mj_tab sa.2.2 sa.2.1 (v3 + 2)) fun x811 =>
    mj_ob M v1 0 <|
    mj_call (jf_PL_share N M v1 x806 x811) fun r812 Mm812 =>
    Option.bind (mj_tab sa.2.2 sa.2.1 (v3 + 1)) fun x820 =>
    Option.bind (mj_tab sa.2.2 sa.2.1 (v3 + 2)) fun x825 =>
    mj_ob Mm812 v2 1 <|
    mj_call (jf_PM_share N Mm812 v2 x820 x825) fun r826 Mm826 =>
    if (lg_cmp r812 r826) = 0 then (jb_LW_law_1112 N sa (jb_LW_law_18 N sa n) Mm826 v1 v2 v3) else
    some (0, Mm826)) else
    if (x29 &&& 31) = 18 then (Option.bind (mj_tab sa.2.2 sa.2.1 (v3 + 1)) fun x840 =>
    Option.bind (mj_tab sa.2.2 sa.2.1 (v3 + 2)) fun x845 =>
    if x845 = 0 then (jb_LW_law_854 N sa (jb_LW_law_18 N sa n) M v1 v2 v3 v1 x840 0) else
    jb_LW_law_854 N sa (jb_LW_law_18 N sa n) M v1 v2 v3 v1 x840 1) else
    if (x29 &&& 31) = 19 then (Option.bind (mj_tab sa.2.2 sa.2.1 (v3 + 1)) fun x889 =>
    Option.bind (mj_tab sa.2.2 sa.2.1 (v3 + 2)) fun x894 =>
    mj_ob M v1 0 <|
    mj_call (jf_PL_score N M v1 x889 x894) fun r895 Mm895 =>
    Option.bind (mj_tab sa.2.2 sa.2.1 (v3 + 1)) fun x903 =>
    Option.bind (mj_tab sa.2.2 sa.2.1 (v3 + 2)) fun x908 =>
    mj_ob Mm895 v2 1 <|
    mj_call (jf_PM_score N Mm895 v2 x903 x908) fun r909 Mm909 =>
    if (lg_cmp r895 r909) = 0 then (jb_LW_law_1112 N sa (jb_LW_law_18 N sa n) Mm909 v1 v2 v3) else
    some (0, Mm909)) else
    if (x29 &&& 31) = 20 then (mj_ob M v1 0 <|
    mj_call (jf_PL_forget N M v1) fun r919 Mm919 =>
    mj_ob Mm919 v2 1 <|
    mj_call (jf_PM_forget N Mm919 v2) fun r923 Mm923 =>
    if r919 = r923 then (jb_LW_law_1112 N sa (jb_LW_law_18 N sa n) Mm923 v1 v2 v3) else
    some (0, Mm923)) else
    if (x29 &&& 31) = 21 then (Option.bind (mj_tab sa.2.2 sa.2.1 (v3 + 1)) fun x936 =>
    Option.bind (mj_tab sa.2.2 sa.2.1 (v3 + 2)) fun x945 =>
    Option.bind (mj_tab sa.2.2 sa.2.1 (v3 + 3)) fun x956 =>
    mj_ob M v1 0 <|
    mj_call (jf_PL_feed N M v1 ((x936.toInt64 <<< ((32 : Int32).toInt64 &&& 63)) ||| (x945.toInt64 &&& 4294967295)) x956) fun r957 Mm957 =>
    Option.bind (mj_tab sa.2.2 sa.2.1 (v3 + 1)) fun x965 =>
    Option.bind (mj_tab sa.2.2 sa.2.1 (v3 + 2)) fun x974 =>
    Option.bind (mj_tab sa.2.2 sa.2.1 (v3 + 3)) fun x985 =>
    mj_ob Mm957 v2 1 <|
    mj_call (jf_PM_feed N Mm957 v2 ((x965.toInt64 <<< ((32 : Int32).toInt64 &&& 63)) ||| (x974.toInt64 &&& 4294967295)) x985) fun r986 Mm986 =>
    if r957 = r986 then (jb_LW_law_1112 N sa (jb_LW_law_18 N sa n) Mm986 v1 v2 v3) else
    some (0, Mm986)) else
    if (x29 &&& 31) = 22 then (mj_ob M v1 0 <|
    mj_call (jf_PL_empty N M v1) fun r995 Mm995 =>
    mj_ob Mm995 v2 1 <|
    mj_call (jf_PM_empty N Mm995 v2) fun r999 Mm999 =>
    if r995 = r999 then (jb_LW_law_1112 N sa (jb_LW_law_18 N sa n) Mm999 v1 v2 v3) else
    some (0, Mm999)) else
    if (x29 &&& 31) = 23 then (mj_ob M v1 0 <|
    mj_call (jf_PL_merge N M v1) fun r1008 Mm1008 =>
    mj_ob Mm1008 v2 1 <|
    mj_call (jf_PM_merge N Mm1008 v2) fun r1012 Mm1012 =>
    if r1008 = r1012 then (jb_LW_law_1112 N sa (jb_LW_law_18 N sa n) Mm1012 v1 v2 v3) else
    some (0, Mm1012)) else
    if (x29 &&& 31) = 24 then (Option.bind (mj_tab sa.2.2 sa.2.1 (v3 + 1)) fun x1025 =>
    Option.bind (mj_tab sa.2.2 sa.2.1 (v3 + 2)) fun x1030 =>
    mj_ob M v1 0 <|
    mj_call (jf_PL_merged N M v1 x1025 x1030) fun r1031 Mm1031 =>
    Option.bind (mj_tab sa.2.2 sa.2.1 (v3 + 1)) fun x1039 =>
    Option.bind (mj_tab sa.2.2 sa.2.1 (v3 + 2)) fun x1044 =>
    mj_ob Mm1031 v2 1 <|
    mj_call (jf_PM_merged N Mm1031 v2 x1039 x1044) fun r1045 Mm1045 =>
    if r1031 = r1045 then (jb_LW_law_1112 N sa (jb_LW_law_18 N sa n) Mm1045 v1 v2 v3) else
    some (0, Mm1045)) else
    if (x29 &&& 31) = 25 then (mj_ob M v1 0 <|
    mj_call (jf_PL_encode N M v1) fun r1054 Mm1054 =>
    mj_ob Mm1054 v2 1 <|
    mj_call (jf_PM_encode N Mm1054 v2) fun r1058 Mm1058 =>
    if r1054 = r1058 then (jb_LW_law_1112 N sa (jb_LW_law_18 N sa n) Mm1058 v1 v2 v3) else
    some (0, Mm1058)) else
    if (x29 &&& 31) = 26 then (Option.bind (mj_tab sa.2.2 sa.2.1 (v3 + 1)) fun x1071 =>
    mj_ob M v1 0 <|
    mj_call (jf_PL_token N M v1 x1071) fun r1072 Mm1072 =>
    Option.bind (mj_tab sa.2.2 sa.2.1 (v3 + 1)) fun x1080 =>
    mj_ob Mm1072 v2 1 <|
    mj_call (jf_PM_token N Mm1072 v2 x1080) fun r1081 Mm1081 =>
    if r1072 = r1081 then (jb_LW_law_1112 N sa (jb_LW_law_18 N sa n) Mm1081 v1 v2 v3) else
    some (0, Mm1081)) else
    if (x29 &&& 31) = 27 then (Option.bind (mj_tab sa.2.2 sa.2.1 (v3 + 1)) fun x1094 =>
    mj_ob M v1 0 <|
    mj_call (jf_PL_count N M v1 x1094) fun r1095 Mm1095 =>
    Option.bind (mj_tab sa.2.2 sa.2.1 (v3 + 1)) fun x1103 =>
    mj_ob Mm1095 v2 1 <|
    mj_call (jf_PM_count N Mm1095 v2 x1103) fun r1104 Mm1104 =>
    if r1095 = r1104 then (jb_LW_law_1112 N sa (jb_LW_law_18 N sa n) Mm1104 v1 v2 v3) else
    some (0, Mm1104)) else
    jb_LW_law_1112 N sa (jb_LW_law_18 N sa n) M v1 v2 v3
def jb_LW_law_0 (N : Nat) (sa : (Nat → Nat) × Nat × (Nat → Int32)) (M : mv_M) : Option (Int32 × mv_M) :=
  mj_nw M 0 5 [.null, .null, .null, .null, .null] fun q0 Mm0 =>
  mj_call (jf_PL_init N Mm0 q0) fun r4 Mm4 =>
  mj_nw Mm4 1 37 [.long 0, .long 0, .int 0, .null, .null, .null, .null, .null, .null, .null, .null, .int 0, .null, .null, .null, .long 0, .long 0, .null, .long 0, .long 0, .int 0, .null, .int 0, .int 0, .long 0, .long 0, .int 0, .null, .int 0, .null, .null, .int 0, .null, .int 0, .null, .null, .null] fun q8 Mm8 =>
  mj_call (jf_PM_init N Mm8 q8) fun r12 Mm12 =>
  jb_LW_law_18 N sa N Mm12 q0 q8 0
set_option maxHeartbeats 4000000 in
set_option maxRecDepth 100000 in
theorem tb_LW_law_1112 (l : Launch) (D : va_G) (E : Nat → ClassId) (B : Nat) (sa : (Nat → Nat) × Nat × (Nat → Int32)) (M0 M1 : mv_M) (b1 b2 : Nat) (QQ : List Frame → Array Value → State → State → Prop) (hb : M1.1 ≤ b1 ∧ M1.2.1 ≤ b2) (hend : ∀ (M : mv_M) (pc : Nat) (lv : List (Nat × Value)), M.1 ≤ b1 → M.2.1 ≤ b2 → decode code pc = .ok (.ireturn, 1) → mv_H (xg l D E B sa) kd_LW_law M0 b1 b2 QQ M pc lv [.int 1]) (N : Nat) (k18 : mv_M → Nat → Nat → Int32 → Option (Int32 × mv_M)) (hk18 : ∀ (M : mv_M) (v1 : Nat) (v2 : Nat) (v3 : Int32), k18 M v1 v2 v3 = some (1, M1) → mv_H (xg l D E B sa) kd_LW_law M0 b1 b2 QQ M 18 [(0, va_rf (some (sa.1 1))), (1, va_rf (some v1)), (2, va_rf (some v2)), (3, .int v3)] []) (M : mv_M) (v1 : Nat) (v2 : Nat) (v3 : Int32) (hJ : jb_LW_law_1112 N sa k18 M v1 v2 v3 = some (1, M1)) : mv_H (xg l D E B sa) kd_LW_law M0 b1 b2 QQ M 1112 [(0, va_rf (some (sa.1 1))), (1, va_rf (some v1)), (2, va_rf (some v2)), (3, .int v3)] [] := by
  unfold jb_LW_law_1112 at hJ
  refine mv_iinc (pc := 1112) (v := (v3 + 6)) (lv' := [(3, .int (v3 + 6)), (0, va_rf (some (sa.1 1))), (1, va_rf (some v1)), (2, va_rf (some v2))]) de_LW_law_1112 3 rfl rfl (Nat.le_of_ble_eq_true rfl) rfl ?_
  refine mv_goto (pc := 1115) (tgt := 18) de_LW_law_1115 (by decide) ?_
  exact mv_sub [1, 2, 3, 0] rfl (hk18 M v1 v2 (v3 + 6) hJ)
set_option maxHeartbeats 4000000 in
set_option maxRecDepth 100000 in
theorem tb_LW_law_876 (l : Launch) (D : va_G) (E : Nat → ClassId) (B : Nat) (sa : (Nat → Nat) × Nat × (Nat → Int32)) (M0 M1 : mv_M) (b1 b2 : Nat) (QQ : List Frame → Array Value → State → State → Prop) (hb : M1.1 ≤ b1 ∧ M1.2.1 ≤ b2) (hend : ∀ (M : mv_M) (pc : Nat) (lv : List (Nat × Value)), M.1 ≤ b1 → M.2.1 ≤ b2 → decode code pc = .ok (.ireturn, 1) → mv_H (xg l D E B sa) kd_LW_law M0 b1 b2 QQ M pc lv [.int 1]) (N : Nat) (k18 : mv_M → Nat → Nat → Int32 → Option (Int32 × mv_M)) (hk18 : ∀ (M : mv_M) (v1 : Nat) (v2 : Nat) (v3 : Int32), k18 M v1 v2 v3 = some (1, M1) → mv_H (xg l D E B sa) kd_LW_law M0 b1 b2 QQ M 18 [(0, va_rf (some (sa.1 1))), (1, va_rf (some v1)), (2, va_rf (some v2)), (3, .int v3)] []) (M : mv_M) (v1 : Nat) (v2 : Nat) (v3 : Int32) (s0 : Int32) (s1 : Nat) (s2 : Int32) (s3 : Int32) (hJ : jb_LW_law_876 N sa k18 M v1 v2 v3 s0 s1 s2 s3 = some (1, M1)) : mv_H (xg l D E B sa) kd_LW_law M0 b1 b2 QQ M 876 [(0, va_rf (some (sa.1 1))), (1, va_rf (some v1)), (2, va_rf (some v2)), (3, .int v3)] [.int s3, .int s2, va_rf (some s1), .int s0] := by
  unfold jb_LW_law_876 at hJ
  obtain ⟨hi876, h876o⟩ := mj_obE hJ
  obtain ⟨r876, Mm876, hz876, h876⟩ := mj_callE h876o
  refine mv_callV (pc := 876) (n := 2) (av := [.int s2, .int s3]) (rest := [.int s0]) de_LW_law_876 (kc_1 l D E B sa) hi876 (cm_PM_pair l D E B sa N M s1 s2 s3 _ _ hz876) wt_5_172 wt_5_173 wt_5_174 wt_1_8 wt_5_175 ⟨by decide, by decide, by decide +kernel⟩ rfl ⟨Nat.le_of_ble_eq_true rfl, Nat.le_of_ble_eq_true rfl⟩ (Nat.le_of_ble_eq_true rfl) rfl ?_
  refine mv_icmp_eq (pc := 879) (tgt := 1112) de_LW_law_879 (by decide) h876 (fun hc879 h879 => ?_) (fun hc879 h879 => ?_)
  · exact mv_sub [0, 1, 2, 3] rfl (tb_LW_law_1112 l D E B sa M0 M1 b1 b2 QQ hb hend N k18 hk18 Mm876 v1 v2 v3 h879)
  · refine mv_iconst (pc := 882) (v := 0) de_LW_law_882 (by decide) ?_
    exact mv_lawend hb hend de_LW_law_883 h879
set_option maxHeartbeats 4000000 in
set_option maxRecDepth 100000 in
theorem tb_LW_law_854 (l : Launch) (D : va_G) (E : Nat → ClassId) (B : Nat) (sa : (Nat → Nat) × Nat × (Nat → Int32)) (M0 M1 : mv_M) (b1 b2 : Nat) (QQ : List Frame → Array Value → State → State → Prop) (hb : M1.1 ≤ b1 ∧ M1.2.1 ≤ b2) (hend : ∀ (M : mv_M) (pc : Nat) (lv : List (Nat × Value)), M.1 ≤ b1 → M.2.1 ≤ b2 → decode code pc = .ok (.ireturn, 1) → mv_H (xg l D E B sa) kd_LW_law M0 b1 b2 QQ M pc lv [.int 1]) (N : Nat) (k18 : mv_M → Nat → Nat → Int32 → Option (Int32 × mv_M)) (hk18 : ∀ (M : mv_M) (v1 : Nat) (v2 : Nat) (v3 : Int32), k18 M v1 v2 v3 = some (1, M1) → mv_H (xg l D E B sa) kd_LW_law M0 b1 b2 QQ M 18 [(0, va_rf (some (sa.1 1))), (1, va_rf (some v1)), (2, va_rf (some v2)), (3, .int v3)] []) (M : mv_M) (v1 : Nat) (v2 : Nat) (v3 : Int32) (s0 : Nat) (s1 : Int32) (s2 : Int32) (hJ : jb_LW_law_854 N sa k18 M v1 v2 v3 s0 s1 s2 = some (1, M1)) : mv_H (xg l D E B sa) kd_LW_law M0 b1 b2 QQ M 854 [(0, va_rf (some (sa.1 1))), (1, va_rf (some v1)), (2, va_rf (some v2)), (3, .int v3)] [.int s2, .int s1, va_rf (some s0)] := by
  unfold jb_LW_law_854 at hJ
  obtain ⟨hi854, h854o⟩ := mj_obE hJ
  obtain ⟨r854, Mm854, hz854, h854⟩ := mj_callE h854o
  refine mv_callV (pc := 854) (n := 2) (av := [.int s1, .int s2]) (rest := []) de_LW_law_854 (kc_0 l D E B sa) hi854 (cm_PL_pair l D E B sa N M s0 s1 s2 _ _ hz854) wt_3_169 wt_3_170 wt_3_171 wt_1_1 wt_3_172 ⟨by decide, by decide, by decide +kernel⟩ rfl ⟨Nat.le_of_ble_eq_true rfl, Nat.le_of_ble_eq_true rfl⟩ (Nat.le_of_ble_eq_true rfl) rfl ?_
  refine mv_aload_n (pc := 857) (i := 2) de_LW_law_857 rfl 2 rfl ?_
  refine mv_aload_n (pc := 858) (i := 0) de_LW_law_858 rfl 0 rfl ?_
  refine mv_iload_n (pc := 859) (i := 3) de_LW_law_859 rfl 3 rfl ?_
  refine mv_iconst (pc := 860) (v := 1) de_LW_law_860 (by decide) ?_
  refine mv_iadd (pc := 861) de_LW_law_861 ?_
  refine mv_sald (pc := 862) (sm_1 l D E B sa) de_LW_law_862 h854 (fun x862 e862 h862 => ?_)
  refine mv_aload_n (pc := 863) (i := 0) de_LW_law_863 rfl 0 rfl ?_
  refine mv_iload_n (pc := 864) (i := 3) de_LW_law_864 rfl 3 rfl ?_
  refine mv_iconst (pc := 865) (v := 2) de_LW_law_865 (by decide) ?_
  refine mv_iadd (pc := 866) de_LW_law_866 ?_
  refine mv_sald (pc := 867) (sm_1 l D E B sa) de_LW_law_867 h862 (fun x867 e867 h867 => ?_)
  refine mv_if_eq (pc := 868) (tgt := 875) de_LW_law_868 (by decide) h867 (fun hc868 h868 => ?_) (fun hc868 h868 => ?_)
  · refine mv_iconst (pc := 875) (v := 0) de_LW_law_875 (by decide) ?_
    exact mv_sub [0, 1, 2, 3] rfl (tb_LW_law_876 l D E B sa M0 M1 b1 b2 QQ hb hend N k18 hk18 Mm854 v1 v2 v3 r854 v2 x862 0 h868)
  · refine mv_iconst (pc := 871) (v := 1) de_LW_law_871 (by decide) ?_
    refine mv_goto (pc := 872) (tgt := 876) de_LW_law_872 (by decide) ?_
    exact mv_sub [0, 1, 2, 3] rfl (tb_LW_law_876 l D E B sa M0 M1 b1 b2 QQ hb hend N k18 hk18 Mm854 v1 v2 v3 r854 v2 x862 1 h868)
set_option maxHeartbeats 4000000 in
set_option maxRecDepth 100000 in
theorem tb_LW_law_515 (l : Launch) (D : va_G) (E : Nat → ClassId) (B : Nat) (sa : (Nat → Nat) × Nat × (Nat → Int32)) (M0 M1 : mv_M) (b1 b2 : Nat) (QQ : List Frame → Array Value → State → State → Prop) (hb : M1.1 ≤ b1 ∧ M1.2.1 ≤ b2) (hend : ∀ (M : mv_M) (pc : Nat) (lv : List (Nat × Value)), M.1 ≤ b1 → M.2.1 ≤ b2 → decode code pc = .ok (.ireturn, 1) → mv_H (xg l D E B sa) kd_LW_law M0 b1 b2 QQ M pc lv [.int 1]) (N : Nat) (k18 : mv_M → Nat → Nat → Int32 → Option (Int32 × mv_M)) (hk18 : ∀ (M : mv_M) (v1 : Nat) (v2 : Nat) (v3 : Int32), k18 M v1 v2 v3 = some (1, M1) → mv_H (xg l D E B sa) kd_LW_law M0 b1 b2 QQ M 18 [(0, va_rf (some (sa.1 1))), (1, va_rf (some v1)), (2, va_rf (some v2)), (3, .int v3)] []) (M : mv_M) (v1 : Nat) (v2 : Nat) (v3 : Int32) (s0 : Int32) (s1 : Nat) (s2 : Int32) (s3 : Int32) (hJ : jb_LW_law_515 N sa k18 M v1 v2 v3 s0 s1 s2 s3 = some (1, M1)) : mv_H (xg l D E B sa) kd_LW_law M0 b1 b2 QQ M 515 [(0, va_rf (some (sa.1 1))), (1, va_rf (some v1)), (2, va_rf (some v2)), (3, .int v3)] [.int s3, .int s2, va_rf (some s1), .int s0] := by
  unfold jb_LW_law_515 at hJ
  obtain ⟨hi515, h515o⟩ := mj_obE hJ
  obtain ⟨r515, Mm515, hz515, h515⟩ := mj_callE h515o
  refine mv_callV (pc := 515) (n := 2) (av := [.int s2, .int s3]) (rest := [.int s0]) de_LW_law_515 (kc_1 l D E B sa) hi515 (cm_PM_parameter l D E B sa N M s1 s2 s3 _ _ hz515) wt_5_103 wt_5_104 wt_5_105 wt_1_8 wt_5_106 ⟨by decide, by decide, by decide +kernel⟩ rfl ⟨Nat.le_of_ble_eq_true rfl, Nat.le_of_ble_eq_true rfl⟩ (Nat.le_of_ble_eq_true rfl) rfl ?_
  refine mv_icmp_eq (pc := 518) (tgt := 1112) de_LW_law_518 (by decide) h515 (fun hc518 h518 => ?_) (fun hc518 h518 => ?_)
  · exact mv_sub [0, 1, 2, 3] rfl (tb_LW_law_1112 l D E B sa M0 M1 b1 b2 QQ hb hend N k18 hk18 Mm515 v1 v2 v3 h518)
  · refine mv_iconst (pc := 521) (v := 0) de_LW_law_521 (by decide) ?_
    exact mv_lawend hb hend de_LW_law_522 h518
set_option maxHeartbeats 4000000 in
set_option maxRecDepth 100000 in
theorem tb_LW_law_493 (l : Launch) (D : va_G) (E : Nat → ClassId) (B : Nat) (sa : (Nat → Nat) × Nat × (Nat → Int32)) (M0 M1 : mv_M) (b1 b2 : Nat) (QQ : List Frame → Array Value → State → State → Prop) (hb : M1.1 ≤ b1 ∧ M1.2.1 ≤ b2) (hend : ∀ (M : mv_M) (pc : Nat) (lv : List (Nat × Value)), M.1 ≤ b1 → M.2.1 ≤ b2 → decode code pc = .ok (.ireturn, 1) → mv_H (xg l D E B sa) kd_LW_law M0 b1 b2 QQ M pc lv [.int 1]) (N : Nat) (k18 : mv_M → Nat → Nat → Int32 → Option (Int32 × mv_M)) (hk18 : ∀ (M : mv_M) (v1 : Nat) (v2 : Nat) (v3 : Int32), k18 M v1 v2 v3 = some (1, M1) → mv_H (xg l D E B sa) kd_LW_law M0 b1 b2 QQ M 18 [(0, va_rf (some (sa.1 1))), (1, va_rf (some v1)), (2, va_rf (some v2)), (3, .int v3)] []) (M : mv_M) (v1 : Nat) (v2 : Nat) (v3 : Int32) (s0 : Nat) (s1 : Int32) (s2 : Int32) (hJ : jb_LW_law_493 N sa k18 M v1 v2 v3 s0 s1 s2 = some (1, M1)) : mv_H (xg l D E B sa) kd_LW_law M0 b1 b2 QQ M 493 [(0, va_rf (some (sa.1 1))), (1, va_rf (some v1)), (2, va_rf (some v2)), (3, .int v3)] [.int s2, .int s1, va_rf (some s0)] := by
  unfold jb_LW_law_493 at hJ
  obtain ⟨hi493, h493o⟩ := mj_obE hJ
  obtain ⟨r493, Mm493, hz493, h493⟩ := mj_callE h493o
  refine mv_callV (pc := 493) (n := 2) (av := [.int s1, .int s2]) (rest := []) de_LW_law_493 (kc_0 l D E B sa) hi493 (cm_PL_parameter l D E B sa N M s0 s1 s2 _ _ hz493) wt_3_33 wt_3_34 wt_3_35 wt_1_1 wt_3_36 ⟨by decide, by decide, by decide +kernel⟩ rfl ⟨Nat.le_of_ble_eq_true rfl, Nat.le_of_ble_eq_true rfl⟩ (Nat.le_of_ble_eq_true rfl) rfl ?_
  refine mv_aload_n (pc := 496) (i := 2) de_LW_law_496 rfl 2 rfl ?_
  refine mv_aload_n (pc := 497) (i := 0) de_LW_law_497 rfl 0 rfl ?_
  refine mv_iload_n (pc := 498) (i := 3) de_LW_law_498 rfl 3 rfl ?_
  refine mv_iconst (pc := 499) (v := 1) de_LW_law_499 (by decide) ?_
  refine mv_iadd (pc := 500) de_LW_law_500 ?_
  refine mv_sald (pc := 501) (sm_1 l D E B sa) de_LW_law_501 h493 (fun x501 e501 h501 => ?_)
  refine mv_aload_n (pc := 502) (i := 0) de_LW_law_502 rfl 0 rfl ?_
  refine mv_iload_n (pc := 503) (i := 3) de_LW_law_503 rfl 3 rfl ?_
  refine mv_iconst (pc := 504) (v := 2) de_LW_law_504 (by decide) ?_
  refine mv_iadd (pc := 505) de_LW_law_505 ?_
  refine mv_sald (pc := 506) (sm_1 l D E B sa) de_LW_law_506 h501 (fun x506 e506 h506 => ?_)
  refine mv_if_eq (pc := 507) (tgt := 514) de_LW_law_507 (by decide) h506 (fun hc507 h507 => ?_) (fun hc507 h507 => ?_)
  · refine mv_iconst (pc := 514) (v := 0) de_LW_law_514 (by decide) ?_
    exact mv_sub [0, 1, 2, 3] rfl (tb_LW_law_515 l D E B sa M0 M1 b1 b2 QQ hb hend N k18 hk18 Mm493 v1 v2 v3 r493 v2 x501 0 h507)
  · refine mv_iconst (pc := 510) (v := 1) de_LW_law_510 (by decide) ?_
    refine mv_goto (pc := 511) (tgt := 515) de_LW_law_511 (by decide) ?_
    exact mv_sub [0, 1, 2, 3] rfl (tb_LW_law_515 l D E B sa M0 M1 b1 b2 QQ hb hend N k18 hk18 Mm493 v1 v2 v3 r493 v2 x501 1 h507)
set_option maxHeartbeats 4000000 in
set_option maxRecDepth 100000 in
theorem tb_LW_law_18 (l : Launch) (D : va_G) (E : Nat → ClassId) (B : Nat) (sa : (Nat → Nat) × Nat × (Nat → Int32)) (M0 M1 : mv_M) (b1 b2 : Nat) (QQ : List Frame → Array Value → State → State → Prop) (hb : M1.1 ≤ b1 ∧ M1.2.1 ≤ b2) (hend : ∀ (M : mv_M) (pc : Nat) (lv : List (Nat × Value)), M.1 ≤ b1 → M.2.1 ≤ b2 → decode code pc = .ok (.ireturn, 1) → mv_H (xg l D E B sa) kd_LW_law M0 b1 b2 QQ M pc lv [.int 1]) (N : Nat) : ∀ (n : Nat) (M : mv_M) (v1 : Nat) (v2 : Nat) (v3 : Int32) (hJ : jb_LW_law_18 N sa n M v1 v2 v3 = some (1, M1)), mv_H (xg l D E B sa) kd_LW_law M0 b1 b2 QQ M 18 [(0, va_rf (some (sa.1 1))), (1, va_rf (some v1)), (2, va_rf (some v2)), (3, .int v3)] [] := by
  intro n
  induction n with
  | zero => intro M v1 v2 v3 hJ; cases hJ
  | succ n ih =>
    intro M v1 v2 v3 hJ
    rw [jb_LW_law_18] at hJ
    refine mv_iload_n (pc := 18) (i := 3) de_LW_law_18 rfl 3 rfl ?_
    refine mv_aload_n (pc := 19) (i := 0) de_LW_law_19 rfl 0 rfl ?_
    refine mv_slen (pc := 20) (sm_1 l D E B sa) de_LW_law_20 ?_
    refine mv_bipush (pc := 21) (v := 6) de_LW_law_21 (by decide) ?_
    refine mv_isub (pc := 23) de_LW_law_23 ?_
    refine mv_icmp_gt (pc := 24) (tgt := 1118) de_LW_law_24 (by decide) hJ (fun hc24 h24 => ?_) (fun hc24 h24 => ?_)
    · refine mv_iconst (pc := 1118) (v := 1) de_LW_law_1118 (by decide) ?_
      exact mv_lawend hb hend de_LW_law_1119 h24
    · refine mv_aload_n (pc := 27) (i := 0) de_LW_law_27 rfl 0 rfl ?_
      refine mv_iload_n (pc := 28) (i := 3) de_LW_law_28 rfl 3 rfl ?_
      refine mv_sald (pc := 29) (sm_1 l D E B sa) de_LW_law_29 h24 (fun x29 e29 h29 => ?_)
      refine mv_bipush (pc := 30) (v := 31) de_LW_law_30 (by decide) ?_
      refine mv_iand (pc := 32) de_LW_law_32 ?_
      by_cases hs33_0 : (x29 &&& 31) = 0
      · rw [if_pos hs33_0] at h29
        refine mv_tin (pc := 33) (tgt := 160) (off := 127) 0 de_LW_law_33 hs33_0 (by decide) (by decide) ?_
        refine mv_aload_n (pc := 160) (i := 1) de_LW_law_160 rfl 1 rfl ?_
        refine mv_aload_n (pc := 161) (i := 0) de_LW_law_161 rfl 0 rfl ?_
        refine mv_iload_n (pc := 162) (i := 3) de_LW_law_162 rfl 3 rfl ?_
        refine mv_iconst (pc := 163) (v := 1) de_LW_law_163 (by decide) ?_
        refine mv_iadd (pc := 164) de_LW_law_164 ?_
        refine mv_sald (pc := 165) (sm_1 l D E B sa) de_LW_law_165 h29 (fun x165 e165 h165 => ?_)
        refine mv_aload_n (pc := 166) (i := 0) de_LW_law_166 rfl 0 rfl ?_
        refine mv_iload_n (pc := 167) (i := 3) de_LW_law_167 rfl 3 rfl ?_
        refine mv_iconst (pc := 168) (v := 2) de_LW_law_168 (by decide) ?_
        refine mv_iadd (pc := 169) de_LW_law_169 ?_
        refine mv_sald (pc := 170) (sm_1 l D E B sa) de_LW_law_170 h165 (fun x170 e170 h170 => ?_)
        refine mv_aload_n (pc := 171) (i := 0) de_LW_law_171 rfl 0 rfl ?_
        refine mv_iload_n (pc := 172) (i := 3) de_LW_law_172 rfl 3 rfl ?_
        refine mv_iconst (pc := 173) (v := 3) de_LW_law_173 (by decide) ?_
        refine mv_iadd (pc := 174) de_LW_law_174 ?_
        refine mv_sald (pc := 175) (sm_1 l D E B sa) de_LW_law_175 h170 (fun x175 e175 h175 => ?_)
        refine mv_aload_n (pc := 176) (i := 0) de_LW_law_176 rfl 0 rfl ?_
        refine mv_iload_n (pc := 177) (i := 3) de_LW_law_177 rfl 3 rfl ?_
        refine mv_iconst (pc := 178) (v := 4) de_LW_law_178 (by decide) ?_
        refine mv_iadd (pc := 179) de_LW_law_179 ?_
        refine mv_sald (pc := 180) (sm_1 l D E B sa) de_LW_law_180 h175 (fun x180 e180 h180 => ?_)
        obtain ⟨hi181, h181o⟩ := mj_obE h180
        obtain ⟨r181, Mm181, hz181, h181⟩ := mj_callE h181o
        refine mv_callV (pc := 181) (n := 4) (av := [.int x165, .int x170, .int x175, .int x180]) (rest := []) de_LW_law_181 (kc_0 l D E B sa) hi181 (cm_PL_leaf l D E B sa N M v1 x165 x170 x175 x180 _ _ hz181) wt_1_162 wt_1_163 wt_1_164 wt_1_1 wt_1_165 ⟨by decide, by decide, by decide +kernel⟩ rfl ⟨Nat.le_of_ble_eq_true rfl, Nat.le_of_ble_eq_true rfl⟩ (Nat.le_of_ble_eq_true rfl) rfl ?_
        refine mv_aload_n (pc := 184) (i := 2) de_LW_law_184 rfl 2 rfl ?_
        refine mv_aload_n (pc := 185) (i := 0) de_LW_law_185 rfl 0 rfl ?_
        refine mv_iload_n (pc := 186) (i := 3) de_LW_law_186 rfl 3 rfl ?_
        refine mv_iconst (pc := 187) (v := 1) de_LW_law_187 (by decide) ?_
        refine mv_iadd (pc := 188) de_LW_law_188 ?_
        refine mv_sald (pc := 189) (sm_1 l D E B sa) de_LW_law_189 h181 (fun x189 e189 h189 => ?_)
        refine mv_aload_n (pc := 190) (i := 0) de_LW_law_190 rfl 0 rfl ?_
        refine mv_iload_n (pc := 191) (i := 3) de_LW_law_191 rfl 3 rfl ?_
        refine mv_iconst (pc := 192) (v := 2) de_LW_law_192 (by decide) ?_
        refine mv_iadd (pc := 193) de_LW_law_193 ?_
        refine mv_sald (pc := 194) (sm_1 l D E B sa) de_LW_law_194 h189 (fun x194 e194 h194 => ?_)
        refine mv_aload_n (pc := 195) (i := 0) de_LW_law_195 rfl 0 rfl ?_
        refine mv_iload_n (pc := 196) (i := 3) de_LW_law_196 rfl 3 rfl ?_
        refine mv_iconst (pc := 197) (v := 3) de_LW_law_197 (by decide) ?_
        refine mv_iadd (pc := 198) de_LW_law_198 ?_
        refine mv_sald (pc := 199) (sm_1 l D E B sa) de_LW_law_199 h194 (fun x199 e199 h199 => ?_)
        refine mv_aload_n (pc := 200) (i := 0) de_LW_law_200 rfl 0 rfl ?_
        refine mv_iload_n (pc := 201) (i := 3) de_LW_law_201 rfl 3 rfl ?_
        refine mv_iconst (pc := 202) (v := 4) de_LW_law_202 (by decide) ?_
        refine mv_iadd (pc := 203) de_LW_law_203 ?_
        refine mv_sald (pc := 204) (sm_1 l D E B sa) de_LW_law_204 h199 (fun x204 e204 h204 => ?_)
        obtain ⟨hi205, h205o⟩ := mj_obE h204
        obtain ⟨r205, Mm205, hz205, h205⟩ := mj_callE h205o
        refine mv_callV (pc := 205) (n := 4) (av := [.int x189, .int x194, .int x199, .int x204]) (rest := [.int r181]) de_LW_law_205 (kc_1 l D E B sa) hi205 (cm_PM_leaf l D E B sa N Mm181 v2 x189 x194 x199 x204 _ _ hz205) wt_4_192 wt_4_193 wt_4_194 wt_1_8 wt_4_195 ⟨by decide, by decide, by decide +kernel⟩ rfl ⟨Nat.le_of_ble_eq_true rfl, Nat.le_of_ble_eq_true rfl⟩ (Nat.le_of_ble_eq_true rfl) rfl ?_
        refine mv_icmp_eq (pc := 208) (tgt := 1112) de_LW_law_208 (by decide) h205 (fun hc208 h208 => ?_) (fun hc208 h208 => ?_)
        · exact mv_sub [0, 1, 2, 3] rfl (tb_LW_law_1112 l D E B sa M0 M1 b1 b2 QQ hb hend N (jb_LW_law_18 N sa n) ih Mm205 v1 v2 v3 h208)
        · refine mv_iconst (pc := 211) (v := 0) de_LW_law_211 (by decide) ?_
          exact mv_lawend hb hend de_LW_law_212 h208
      rw [if_neg hs33_0] at h29
      by_cases hs33_1 : (x29 &&& 31) = 1
      · rw [if_pos hs33_1] at h29
        refine mv_tin (pc := 33) (tgt := 213) (off := 180) 1 de_LW_law_33 hs33_1 (by decide) (by decide) ?_
        refine mv_aload_n (pc := 213) (i := 1) de_LW_law_213 rfl 1 rfl ?_
        refine mv_aload_n (pc := 214) (i := 0) de_LW_law_214 rfl 0 rfl ?_
        refine mv_iload_n (pc := 215) (i := 3) de_LW_law_215 rfl 3 rfl ?_
        refine mv_iconst (pc := 216) (v := 1) de_LW_law_216 (by decide) ?_
        refine mv_iadd (pc := 217) de_LW_law_217 ?_
        refine mv_sald (pc := 218) (sm_1 l D E B sa) de_LW_law_218 h29 (fun x218 e218 h218 => ?_)
        refine mv_aload_n (pc := 219) (i := 0) de_LW_law_219 rfl 0 rfl ?_
        refine mv_iload_n (pc := 220) (i := 3) de_LW_law_220 rfl 3 rfl ?_
        refine mv_iconst (pc := 221) (v := 2) de_LW_law_221 (by decide) ?_
        refine mv_iadd (pc := 222) de_LW_law_222 ?_
        refine mv_sald (pc := 223) (sm_1 l D E B sa) de_LW_law_223 h218 (fun x223 e223 h223 => ?_)
        refine mv_aload_n (pc := 224) (i := 0) de_LW_law_224 rfl 0 rfl ?_
        refine mv_iload_n (pc := 225) (i := 3) de_LW_law_225 rfl 3 rfl ?_
        refine mv_iconst (pc := 226) (v := 3) de_LW_law_226 (by decide) ?_
        refine mv_iadd (pc := 227) de_LW_law_227 ?_
        refine mv_sald (pc := 228) (sm_1 l D E B sa) de_LW_law_228 h223 (fun x228 e228 h228 => ?_)
        refine mv_aload_n (pc := 229) (i := 0) de_LW_law_229 rfl 0 rfl ?_
        refine mv_iload_n (pc := 230) (i := 3) de_LW_law_230 rfl 3 rfl ?_
        refine mv_iconst (pc := 231) (v := 4) de_LW_law_231 (by decide) ?_
        refine mv_iadd (pc := 232) de_LW_law_232 ?_
        refine mv_sald (pc := 233) (sm_1 l D E B sa) de_LW_law_233 h228 (fun x233 e233 h233 => ?_)
        obtain ⟨hi234, h234o⟩ := mj_obE h233
        obtain ⟨r234, Mm234, hz234, h234⟩ := mj_callE h234o
        refine mv_callV (pc := 234) (n := 4) (av := [.int x218, .int x223, .int x228, .int x233]) (rest := []) de_LW_law_234 (kc_0 l D E B sa) hi234 (cm_PL_tell l D E B sa N M v1 x218 x223 x228 x233 _ _ hz234) wt_2_32 wt_2_33 wt_2_34 wt_1_1 wt_2_35 ⟨by decide, by decide, by decide +kernel⟩ rfl ⟨Nat.le_of_ble_eq_true rfl, Nat.le_of_ble_eq_true rfl⟩ (Nat.le_of_ble_eq_true rfl) rfl ?_
        refine mv_aload_n (pc := 237) (i := 2) de_LW_law_237 rfl 2 rfl ?_
        refine mv_aload_n (pc := 238) (i := 0) de_LW_law_238 rfl 0 rfl ?_
        refine mv_iload_n (pc := 239) (i := 3) de_LW_law_239 rfl 3 rfl ?_
        refine mv_iconst (pc := 240) (v := 1) de_LW_law_240 (by decide) ?_
        refine mv_iadd (pc := 241) de_LW_law_241 ?_
        refine mv_sald (pc := 242) (sm_1 l D E B sa) de_LW_law_242 h234 (fun x242 e242 h242 => ?_)
        refine mv_aload_n (pc := 243) (i := 0) de_LW_law_243 rfl 0 rfl ?_
        refine mv_iload_n (pc := 244) (i := 3) de_LW_law_244 rfl 3 rfl ?_
        refine mv_iconst (pc := 245) (v := 2) de_LW_law_245 (by decide) ?_
        refine mv_iadd (pc := 246) de_LW_law_246 ?_
        refine mv_sald (pc := 247) (sm_1 l D E B sa) de_LW_law_247 h242 (fun x247 e247 h247 => ?_)
        refine mv_aload_n (pc := 248) (i := 0) de_LW_law_248 rfl 0 rfl ?_
        refine mv_iload_n (pc := 249) (i := 3) de_LW_law_249 rfl 3 rfl ?_
        refine mv_iconst (pc := 250) (v := 3) de_LW_law_250 (by decide) ?_
        refine mv_iadd (pc := 251) de_LW_law_251 ?_
        refine mv_sald (pc := 252) (sm_1 l D E B sa) de_LW_law_252 h247 (fun x252 e252 h252 => ?_)
        refine mv_aload_n (pc := 253) (i := 0) de_LW_law_253 rfl 0 rfl ?_
        refine mv_iload_n (pc := 254) (i := 3) de_LW_law_254 rfl 3 rfl ?_
        refine mv_iconst (pc := 255) (v := 4) de_LW_law_255 (by decide) ?_
        refine mv_iadd (pc := 256) de_LW_law_256 ?_
        refine mv_sald (pc := 257) (sm_1 l D E B sa) de_LW_law_257 h252 (fun x257 e257 h257 => ?_)
        obtain ⟨hi258, h258o⟩ := mj_obE h257
        obtain ⟨r258, Mm258, hz258, h258⟩ := mj_callE h258o
        refine mv_callV (pc := 258) (n := 4) (av := [.int x242, .int x247, .int x252, .int x257]) (rest := [.int r234]) de_LW_law_258 (kc_1 l D E B sa) hi258 (cm_PM_tell l D E B sa N Mm234 v2 x242 x247 x252 x257 _ _ hz258) wt_4_201 wt_4_202 wt_4_203 wt_1_8 wt_4_204 ⟨by decide, by decide, by decide +kernel⟩ rfl ⟨Nat.le_of_ble_eq_true rfl, Nat.le_of_ble_eq_true rfl⟩ (Nat.le_of_ble_eq_true rfl) rfl ?_
        refine mv_icmp_eq (pc := 261) (tgt := 1112) de_LW_law_261 (by decide) h258 (fun hc261 h261 => ?_) (fun hc261 h261 => ?_)
        · exact mv_sub [0, 1, 2, 3] rfl (tb_LW_law_1112 l D E B sa M0 M1 b1 b2 QQ hb hend N (jb_LW_law_18 N sa n) ih Mm258 v1 v2 v3 h261)
        · refine mv_iconst (pc := 264) (v := 0) de_LW_law_264 (by decide) ?_
          exact mv_lawend hb hend de_LW_law_265 h261
      rw [if_neg hs33_1] at h29
      by_cases hs33_2 : (x29 &&& 31) = 2
      · rw [if_pos hs33_2] at h29
        refine mv_tin (pc := 33) (tgt := 266) (off := 233) 2 de_LW_law_33 hs33_2 (by decide) (by decide) ?_
        refine mv_aload_n (pc := 266) (i := 1) de_LW_law_266 rfl 1 rfl ?_
        refine mv_aload_n (pc := 267) (i := 0) de_LW_law_267 rfl 0 rfl ?_
        refine mv_iload_n (pc := 268) (i := 3) de_LW_law_268 rfl 3 rfl ?_
        refine mv_iconst (pc := 269) (v := 1) de_LW_law_269 (by decide) ?_
        refine mv_iadd (pc := 270) de_LW_law_270 ?_
        refine mv_sald (pc := 271) (sm_1 l D E B sa) de_LW_law_271 h29 (fun x271 e271 h271 => ?_)
        refine mv_aload_n (pc := 272) (i := 0) de_LW_law_272 rfl 0 rfl ?_
        refine mv_iload_n (pc := 273) (i := 3) de_LW_law_273 rfl 3 rfl ?_
        refine mv_iconst (pc := 274) (v := 2) de_LW_law_274 (by decide) ?_
        refine mv_iadd (pc := 275) de_LW_law_275 ?_
        refine mv_sald (pc := 276) (sm_1 l D E B sa) de_LW_law_276 h271 (fun x276 e276 h276 => ?_)
        refine mv_aload_n (pc := 277) (i := 0) de_LW_law_277 rfl 0 rfl ?_
        refine mv_iload_n (pc := 278) (i := 3) de_LW_law_278 rfl 3 rfl ?_
        refine mv_iconst (pc := 279) (v := 3) de_LW_law_279 (by decide) ?_
        refine mv_iadd (pc := 280) de_LW_law_280 ?_
        refine mv_sald (pc := 281) (sm_1 l D E B sa) de_LW_law_281 h276 (fun x281 e281 h281 => ?_)
        obtain ⟨hi282, h282o⟩ := mj_obE h281
        obtain ⟨r282, Mm282, hz282, h282⟩ := mj_callE h282o
        refine mv_callV (pc := 282) (n := 3) (av := [.int x271, .int x276, .int x281]) (rest := []) de_LW_law_282 (kc_0 l D E B sa) hi282 (cm_PL_act l D E B sa N M v1 x271 x276 x281 _ _ hz282) wt_2_60 wt_2_61 wt_2_62 wt_1_1 wt_2_63 ⟨by decide, by decide, by decide +kernel⟩ rfl ⟨Nat.le_of_ble_eq_true rfl, Nat.le_of_ble_eq_true rfl⟩ (Nat.le_of_ble_eq_true rfl) rfl ?_
        refine mv_aload_n (pc := 285) (i := 2) de_LW_law_285 rfl 2 rfl ?_
        refine mv_aload_n (pc := 286) (i := 0) de_LW_law_286 rfl 0 rfl ?_
        refine mv_iload_n (pc := 287) (i := 3) de_LW_law_287 rfl 3 rfl ?_
        refine mv_iconst (pc := 288) (v := 1) de_LW_law_288 (by decide) ?_
        refine mv_iadd (pc := 289) de_LW_law_289 ?_
        refine mv_sald (pc := 290) (sm_1 l D E B sa) de_LW_law_290 h282 (fun x290 e290 h290 => ?_)
        refine mv_aload_n (pc := 291) (i := 0) de_LW_law_291 rfl 0 rfl ?_
        refine mv_iload_n (pc := 292) (i := 3) de_LW_law_292 rfl 3 rfl ?_
        refine mv_iconst (pc := 293) (v := 2) de_LW_law_293 (by decide) ?_
        refine mv_iadd (pc := 294) de_LW_law_294 ?_
        refine mv_sald (pc := 295) (sm_1 l D E B sa) de_LW_law_295 h290 (fun x295 e295 h295 => ?_)
        refine mv_aload_n (pc := 296) (i := 0) de_LW_law_296 rfl 0 rfl ?_
        refine mv_iload_n (pc := 297) (i := 3) de_LW_law_297 rfl 3 rfl ?_
        refine mv_iconst (pc := 298) (v := 3) de_LW_law_298 (by decide) ?_
        refine mv_iadd (pc := 299) de_LW_law_299 ?_
        refine mv_sald (pc := 300) (sm_1 l D E B sa) de_LW_law_300 h295 (fun x300 e300 h300 => ?_)
        obtain ⟨hi301, h301o⟩ := mj_obE h300
        obtain ⟨r301, Mm301, hz301, h301⟩ := mj_callE h301o
        refine mv_callV (pc := 301) (n := 3) (av := [.int x290, .int x295, .int x300]) (rest := [.int r282]) de_LW_law_301 (kc_1 l D E B sa) hi301 (cm_PM_act l D E B sa N Mm282 v2 x290 x295 x300 _ _ hz301) wt_4_223 wt_4_224 wt_4_225 wt_1_8 wt_4_226 ⟨by decide, by decide, by decide +kernel⟩ rfl ⟨Nat.le_of_ble_eq_true rfl, Nat.le_of_ble_eq_true rfl⟩ (Nat.le_of_ble_eq_true rfl) rfl ?_
        refine mv_icmp_eq (pc := 304) (tgt := 1112) de_LW_law_304 (by decide) h301 (fun hc304 h304 => ?_) (fun hc304 h304 => ?_)
        · exact mv_sub [0, 1, 2, 3] rfl (tb_LW_law_1112 l D E B sa M0 M1 b1 b2 QQ hb hend N (jb_LW_law_18 N sa n) ih Mm301 v1 v2 v3 h304)
        · refine mv_iconst (pc := 307) (v := 0) de_LW_law_307 (by decide) ?_
          exact mv_lawend hb hend de_LW_law_308 h304
      rw [if_neg hs33_2] at h29
      by_cases hs33_3 : (x29 &&& 31) = 3
      · rw [if_pos hs33_3] at h29
        refine mv_tin (pc := 33) (tgt := 309) (off := 276) 3 de_LW_law_33 hs33_3 (by decide) (by decide) ?_
        refine mv_aload_n (pc := 309) (i := 1) de_LW_law_309 rfl 1 rfl ?_
        refine mv_aload_n (pc := 310) (i := 0) de_LW_law_310 rfl 0 rfl ?_
        refine mv_iload_n (pc := 311) (i := 3) de_LW_law_311 rfl 3 rfl ?_
        refine mv_iconst (pc := 312) (v := 1) de_LW_law_312 (by decide) ?_
        refine mv_iadd (pc := 313) de_LW_law_313 ?_
        refine mv_sald (pc := 314) (sm_1 l D E B sa) de_LW_law_314 h29 (fun x314 e314 h314 => ?_)
        refine mv_aload_n (pc := 315) (i := 0) de_LW_law_315 rfl 0 rfl ?_
        refine mv_iload_n (pc := 316) (i := 3) de_LW_law_316 rfl 3 rfl ?_
        refine mv_iconst (pc := 317) (v := 2) de_LW_law_317 (by decide) ?_
        refine mv_iadd (pc := 318) de_LW_law_318 ?_
        refine mv_sald (pc := 319) (sm_1 l D E B sa) de_LW_law_319 h314 (fun x319 e319 h319 => ?_)
        obtain ⟨hi320, h320o⟩ := mj_obE h319
        obtain ⟨r320, Mm320, hz320, h320⟩ := mj_callE h320o
        refine mv_callV (pc := 320) (n := 2) (av := [.int x314, .int x319]) (rest := []) de_LW_law_320 (kc_0 l D E B sa) hi320 (cm_PL_node l D E B sa N M v1 x314 x319 _ _ hz320) wt_2_151 wt_2_152 wt_2_153 wt_1_1 wt_2_154 ⟨by decide, by decide, by decide +kernel⟩ rfl ⟨Nat.le_of_ble_eq_true rfl, Nat.le_of_ble_eq_true rfl⟩ (Nat.le_of_ble_eq_true rfl) rfl ?_
        refine mv_aload_n (pc := 323) (i := 2) de_LW_law_323 rfl 2 rfl ?_
        refine mv_aload_n (pc := 324) (i := 0) de_LW_law_324 rfl 0 rfl ?_
        refine mv_iload_n (pc := 325) (i := 3) de_LW_law_325 rfl 3 rfl ?_
        refine mv_iconst (pc := 326) (v := 1) de_LW_law_326 (by decide) ?_
        refine mv_iadd (pc := 327) de_LW_law_327 ?_
        refine mv_sald (pc := 328) (sm_1 l D E B sa) de_LW_law_328 h320 (fun x328 e328 h328 => ?_)
        refine mv_aload_n (pc := 329) (i := 0) de_LW_law_329 rfl 0 rfl ?_
        refine mv_iload_n (pc := 330) (i := 3) de_LW_law_330 rfl 3 rfl ?_
        refine mv_iconst (pc := 331) (v := 2) de_LW_law_331 (by decide) ?_
        refine mv_iadd (pc := 332) de_LW_law_332 ?_
        refine mv_sald (pc := 333) (sm_1 l D E B sa) de_LW_law_333 h328 (fun x333 e333 h333 => ?_)
        obtain ⟨hi334, h334o⟩ := mj_obE h333
        obtain ⟨r334, Mm334, hz334, h334⟩ := mj_callE h334o
        refine mv_callV (pc := 334) (n := 2) (av := [.int x328, .int x333]) (rest := [.int r320]) de_LW_law_334 (kc_1 l D E B sa) hi334 (cm_PM_node l D E B sa N Mm320 v2 x328 x333 _ _ hz334) wt_5_0 wt_5_1 wt_5_2 wt_1_8 wt_5_3 ⟨by decide, by decide, by decide +kernel⟩ rfl ⟨Nat.le_of_ble_eq_true rfl, Nat.le_of_ble_eq_true rfl⟩ (Nat.le_of_ble_eq_true rfl) rfl ?_
        refine mv_icmp_eq (pc := 337) (tgt := 1112) de_LW_law_337 (by decide) h334 (fun hc337 h337 => ?_) (fun hc337 h337 => ?_)
        · exact mv_sub [0, 1, 2, 3] rfl (tb_LW_law_1112 l D E B sa M0 M1 b1 b2 QQ hb hend N (jb_LW_law_18 N sa n) ih Mm334 v1 v2 v3 h337)
        · refine mv_iconst (pc := 340) (v := 0) de_LW_law_340 (by decide) ?_
          exact mv_lawend hb hend de_LW_law_341 h337
      rw [if_neg hs33_3] at h29
      by_cases hs33_4 : (x29 &&& 31) = 4
      · rw [if_pos hs33_4] at h29
        refine mv_tin (pc := 33) (tgt := 342) (off := 309) 4 de_LW_law_33 hs33_4 (by decide) (by decide) ?_
        refine mv_aload_n (pc := 342) (i := 1) de_LW_law_342 rfl 1 rfl ?_
        refine mv_aload_n (pc := 343) (i := 0) de_LW_law_343 rfl 0 rfl ?_
        refine mv_iload_n (pc := 344) (i := 3) de_LW_law_344 rfl 3 rfl ?_
        refine mv_iconst (pc := 345) (v := 1) de_LW_law_345 (by decide) ?_
        refine mv_iadd (pc := 346) de_LW_law_346 ?_
        refine mv_sald (pc := 347) (sm_1 l D E B sa) de_LW_law_347 h29 (fun x347 e347 h347 => ?_)
        refine mv_aload_n (pc := 348) (i := 0) de_LW_law_348 rfl 0 rfl ?_
        refine mv_iload_n (pc := 349) (i := 3) de_LW_law_349 rfl 3 rfl ?_
        refine mv_iconst (pc := 350) (v := 2) de_LW_law_350 (by decide) ?_
        refine mv_iadd (pc := 351) de_LW_law_351 ?_
        refine mv_sald (pc := 352) (sm_1 l D E B sa) de_LW_law_352 h347 (fun x352 e352 h352 => ?_)
        refine mv_aload_n (pc := 353) (i := 0) de_LW_law_353 rfl 0 rfl ?_
        refine mv_iload_n (pc := 354) (i := 3) de_LW_law_354 rfl 3 rfl ?_
        refine mv_iconst (pc := 355) (v := 3) de_LW_law_355 (by decide) ?_
        refine mv_iadd (pc := 356) de_LW_law_356 ?_
        refine mv_sald (pc := 357) (sm_1 l D E B sa) de_LW_law_357 h352 (fun x357 e357 h357 => ?_)
        obtain ⟨hi358, h358o⟩ := mj_obE h357
        obtain ⟨r358, Mm358, hz358, h358⟩ := mj_callE h358o
        refine mv_callV (pc := 358) (n := 3) (av := [.int x347, .int x352, .int x357]) (rest := []) de_LW_law_358 (kc_0 l D E B sa) hi358 (cm_PL_value l D E B sa N M v1 x347 x352 x357 _ _ hz358) wt_2_160 wt_2_161 wt_2_162 wt_1_1 wt_2_163 ⟨by decide, by decide, by decide +kernel⟩ rfl ⟨Nat.le_of_ble_eq_true rfl, Nat.le_of_ble_eq_true rfl⟩ (Nat.le_of_ble_eq_true rfl) rfl ?_
        refine mv_aload_n (pc := 361) (i := 2) de_LW_law_361 rfl 2 rfl ?_
        refine mv_aload_n (pc := 362) (i := 0) de_LW_law_362 rfl 0 rfl ?_
        refine mv_iload_n (pc := 363) (i := 3) de_LW_law_363 rfl 3 rfl ?_
        refine mv_iconst (pc := 364) (v := 1) de_LW_law_364 (by decide) ?_
        refine mv_iadd (pc := 365) de_LW_law_365 ?_
        refine mv_sald (pc := 366) (sm_1 l D E B sa) de_LW_law_366 h358 (fun x366 e366 h366 => ?_)
        refine mv_aload_n (pc := 367) (i := 0) de_LW_law_367 rfl 0 rfl ?_
        refine mv_iload_n (pc := 368) (i := 3) de_LW_law_368 rfl 3 rfl ?_
        refine mv_iconst (pc := 369) (v := 2) de_LW_law_369 (by decide) ?_
        refine mv_iadd (pc := 370) de_LW_law_370 ?_
        refine mv_sald (pc := 371) (sm_1 l D E B sa) de_LW_law_371 h366 (fun x371 e371 h371 => ?_)
        refine mv_aload_n (pc := 372) (i := 0) de_LW_law_372 rfl 0 rfl ?_
        refine mv_iload_n (pc := 373) (i := 3) de_LW_law_373 rfl 3 rfl ?_
        refine mv_iconst (pc := 374) (v := 3) de_LW_law_374 (by decide) ?_
        refine mv_iadd (pc := 375) de_LW_law_375 ?_
        refine mv_sald (pc := 376) (sm_1 l D E B sa) de_LW_law_376 h371 (fun x376 e376 h376 => ?_)
        obtain ⟨hi377, h377o⟩ := mj_obE h376
        obtain ⟨r377, Mm377, hz377, h377⟩ := mj_callE h377o
        refine mv_callV (pc := 377) (n := 3) (av := [.int x366, .int x371, .int x376]) (rest := [.long r358]) de_LW_law_377 (kc_1 l D E B sa) hi377 (cm_PM_value l D E B sa N Mm358 v2 x366 x371 x376 _ _ hz377) wt_5_5 wt_5_6 wt_5_7 wt_1_8 wt_5_8 ⟨by decide, by decide, by decide +kernel⟩ rfl ⟨Nat.le_of_ble_eq_true rfl, Nat.le_of_ble_eq_true rfl⟩ (Nat.le_of_ble_eq_true rfl) rfl ?_
        refine mv_lcmp (pc := 380) de_LW_law_380 ?_
        refine mv_if_eq (pc := 381) (tgt := 1112) de_LW_law_381 (by decide) h377 (fun hc381 h381 => ?_) (fun hc381 h381 => ?_)
        · exact mv_sub [0, 1, 2, 3] rfl (tb_LW_law_1112 l D E B sa M0 M1 b1 b2 QQ hb hend N (jb_LW_law_18 N sa n) ih Mm377 v1 v2 v3 h381)
        · refine mv_iconst (pc := 384) (v := 0) de_LW_law_384 (by decide) ?_
          exact mv_lawend hb hend de_LW_law_385 h381
      rw [if_neg hs33_4] at h29
      by_cases hs33_5 : (x29 &&& 31) = 5
      · rw [if_pos hs33_5] at h29
        refine mv_tin (pc := 33) (tgt := 386) (off := 353) 5 de_LW_law_33 hs33_5 (by decide) (by decide) ?_
        refine mv_aload_n (pc := 386) (i := 1) de_LW_law_386 rfl 1 rfl ?_
        refine mv_aload_n (pc := 387) (i := 0) de_LW_law_387 rfl 0 rfl ?_
        refine mv_iload_n (pc := 388) (i := 3) de_LW_law_388 rfl 3 rfl ?_
        refine mv_iconst (pc := 389) (v := 1) de_LW_law_389 (by decide) ?_
        refine mv_iadd (pc := 390) de_LW_law_390 ?_
        refine mv_sald (pc := 391) (sm_1 l D E B sa) de_LW_law_391 h29 (fun x391 e391 h391 => ?_)
        refine mv_aload_n (pc := 392) (i := 0) de_LW_law_392 rfl 0 rfl ?_
        refine mv_iload_n (pc := 393) (i := 3) de_LW_law_393 rfl 3 rfl ?_
        refine mv_iconst (pc := 394) (v := 2) de_LW_law_394 (by decide) ?_
        refine mv_iadd (pc := 395) de_LW_law_395 ?_
        refine mv_sald (pc := 396) (sm_1 l D E B sa) de_LW_law_396 h391 (fun x396 e396 h396 => ?_)
        refine mv_aload_n (pc := 397) (i := 0) de_LW_law_397 rfl 0 rfl ?_
        refine mv_iload_n (pc := 398) (i := 3) de_LW_law_398 rfl 3 rfl ?_
        refine mv_iconst (pc := 399) (v := 3) de_LW_law_399 (by decide) ?_
        refine mv_iadd (pc := 400) de_LW_law_400 ?_
        refine mv_sald (pc := 401) (sm_1 l D E B sa) de_LW_law_401 h396 (fun x401 e401 h401 => ?_)
        refine mv_aload_n (pc := 402) (i := 0) de_LW_law_402 rfl 0 rfl ?_
        refine mv_iload_n (pc := 403) (i := 3) de_LW_law_403 rfl 3 rfl ?_
        refine mv_iconst (pc := 404) (v := 4) de_LW_law_404 (by decide) ?_
        refine mv_iadd (pc := 405) de_LW_law_405 ?_
        refine mv_sald (pc := 406) (sm_1 l D E B sa) de_LW_law_406 h401 (fun x406 e406 h406 => ?_)
        obtain ⟨hi407, h407o⟩ := mj_obE h406
        obtain ⟨r407, Mm407, hz407, h407⟩ := mj_callE h407o
        refine mv_callV (pc := 407) (n := 4) (av := [.int x391, .int x396, .int x401, .int x406]) (rest := []) de_LW_law_407 (kc_0 l D E B sa) hi407 (cm_PL_slope l D E B sa N M v1 x391 x396 x401 x406 _ _ hz407) wt_3_7 wt_3_8 wt_3_9 wt_1_1 wt_3_10 ⟨by decide, by decide, by decide +kernel⟩ rfl ⟨Nat.le_of_ble_eq_true rfl, Nat.le_of_ble_eq_true rfl⟩ (Nat.le_of_ble_eq_true rfl) rfl ?_
        refine mv_aload_n (pc := 410) (i := 2) de_LW_law_410 rfl 2 rfl ?_
        refine mv_aload_n (pc := 411) (i := 0) de_LW_law_411 rfl 0 rfl ?_
        refine mv_iload_n (pc := 412) (i := 3) de_LW_law_412 rfl 3 rfl ?_
        refine mv_iconst (pc := 413) (v := 1) de_LW_law_413 (by decide) ?_
        refine mv_iadd (pc := 414) de_LW_law_414 ?_
        refine mv_sald (pc := 415) (sm_1 l D E B sa) de_LW_law_415 h407 (fun x415 e415 h415 => ?_)
        refine mv_aload_n (pc := 416) (i := 0) de_LW_law_416 rfl 0 rfl ?_
        refine mv_iload_n (pc := 417) (i := 3) de_LW_law_417 rfl 3 rfl ?_
        refine mv_iconst (pc := 418) (v := 2) de_LW_law_418 (by decide) ?_
        refine mv_iadd (pc := 419) de_LW_law_419 ?_
        refine mv_sald (pc := 420) (sm_1 l D E B sa) de_LW_law_420 h415 (fun x420 e420 h420 => ?_)
        refine mv_aload_n (pc := 421) (i := 0) de_LW_law_421 rfl 0 rfl ?_
        refine mv_iload_n (pc := 422) (i := 3) de_LW_law_422 rfl 3 rfl ?_
        refine mv_iconst (pc := 423) (v := 3) de_LW_law_423 (by decide) ?_
        refine mv_iadd (pc := 424) de_LW_law_424 ?_
        refine mv_sald (pc := 425) (sm_1 l D E B sa) de_LW_law_425 h420 (fun x425 e425 h425 => ?_)
        refine mv_aload_n (pc := 426) (i := 0) de_LW_law_426 rfl 0 rfl ?_
        refine mv_iload_n (pc := 427) (i := 3) de_LW_law_427 rfl 3 rfl ?_
        refine mv_iconst (pc := 428) (v := 4) de_LW_law_428 (by decide) ?_
        refine mv_iadd (pc := 429) de_LW_law_429 ?_
        refine mv_sald (pc := 430) (sm_1 l D E B sa) de_LW_law_430 h425 (fun x430 e430 h430 => ?_)
        obtain ⟨hi431, h431o⟩ := mj_obE h430
        obtain ⟨r431, Mm431, hz431, h431⟩ := mj_callE h431o
        refine mv_callV (pc := 431) (n := 4) (av := [.int x415, .int x420, .int x425, .int x430]) (rest := [.long r407]) de_LW_law_431 (kc_1 l D E B sa) hi431 (cm_PM_slope l D E B sa N Mm407 v2 x415 x420 x425 x430 _ _ hz431) wt_5_69 wt_5_70 wt_5_71 wt_1_8 wt_5_72 ⟨by decide, by decide, by decide +kernel⟩ rfl ⟨Nat.le_of_ble_eq_true rfl, Nat.le_of_ble_eq_true rfl⟩ (Nat.le_of_ble_eq_true rfl) rfl ?_
        refine mv_lcmp (pc := 434) de_LW_law_434 ?_
        refine mv_if_eq (pc := 435) (tgt := 1112) de_LW_law_435 (by decide) h431 (fun hc435 h435 => ?_) (fun hc435 h435 => ?_)
        · exact mv_sub [0, 1, 2, 3] rfl (tb_LW_law_1112 l D E B sa M0 M1 b1 b2 QQ hb hend N (jb_LW_law_18 N sa n) ih Mm431 v1 v2 v3 h435)
        · refine mv_iconst (pc := 438) (v := 0) de_LW_law_438 (by decide) ?_
          exact mv_lawend hb hend de_LW_law_439 h435
      rw [if_neg hs33_5] at h29
      by_cases hs33_6 : (x29 &&& 31) = 6
      · rw [if_pos hs33_6] at h29
        refine mv_tin (pc := 33) (tgt := 440) (off := 407) 6 de_LW_law_33 hs33_6 (by decide) (by decide) ?_
        refine mv_aload_n (pc := 440) (i := 1) de_LW_law_440 rfl 1 rfl ?_
        refine mv_aload_n (pc := 441) (i := 0) de_LW_law_441 rfl 0 rfl ?_
        refine mv_iload_n (pc := 442) (i := 3) de_LW_law_442 rfl 3 rfl ?_
        refine mv_iconst (pc := 443) (v := 1) de_LW_law_443 (by decide) ?_
        refine mv_iadd (pc := 444) de_LW_law_444 ?_
        refine mv_sald (pc := 445) (sm_1 l D E B sa) de_LW_law_445 h29 (fun x445 e445 h445 => ?_)
        refine mv_aload_n (pc := 446) (i := 0) de_LW_law_446 rfl 0 rfl ?_
        refine mv_iload_n (pc := 447) (i := 3) de_LW_law_447 rfl 3 rfl ?_
        refine mv_iconst (pc := 448) (v := 2) de_LW_law_448 (by decide) ?_
        refine mv_iadd (pc := 449) de_LW_law_449 ?_
        refine mv_sald (pc := 450) (sm_1 l D E B sa) de_LW_law_450 h445 (fun x450 e450 h450 => ?_)
        obtain ⟨hi451, h451o⟩ := mj_obE h450
        obtain ⟨r451, Mm451, hz451, h451⟩ := mj_callE h451o
        refine mv_callV (pc := 451) (n := 2) (av := [.int x445, .int x450]) (rest := []) de_LW_law_451 (kc_0 l D E B sa) hi451 (cm_PL_ways l D E B sa N M v1 x445 x450 _ _ hz451) wt_3_17 wt_3_18 wt_3_19 wt_1_1 wt_3_20 ⟨by decide, by decide, by decide +kernel⟩ rfl ⟨Nat.le_of_ble_eq_true rfl, Nat.le_of_ble_eq_true rfl⟩ (Nat.le_of_ble_eq_true rfl) rfl ?_
        refine mv_aload_n (pc := 454) (i := 2) de_LW_law_454 rfl 2 rfl ?_
        refine mv_aload_n (pc := 455) (i := 0) de_LW_law_455 rfl 0 rfl ?_
        refine mv_iload_n (pc := 456) (i := 3) de_LW_law_456 rfl 3 rfl ?_
        refine mv_iconst (pc := 457) (v := 1) de_LW_law_457 (by decide) ?_
        refine mv_iadd (pc := 458) de_LW_law_458 ?_
        refine mv_sald (pc := 459) (sm_1 l D E B sa) de_LW_law_459 h451 (fun x459 e459 h459 => ?_)
        refine mv_aload_n (pc := 460) (i := 0) de_LW_law_460 rfl 0 rfl ?_
        refine mv_iload_n (pc := 461) (i := 3) de_LW_law_461 rfl 3 rfl ?_
        refine mv_iconst (pc := 462) (v := 2) de_LW_law_462 (by decide) ?_
        refine mv_iadd (pc := 463) de_LW_law_463 ?_
        refine mv_sald (pc := 464) (sm_1 l D E B sa) de_LW_law_464 h459 (fun x464 e464 h464 => ?_)
        obtain ⟨hi465, h465o⟩ := mj_obE h464
        obtain ⟨r465, Mm465, hz465, h465⟩ := mj_callE h465o
        refine mv_callV (pc := 465) (n := 2) (av := [.int x459, .int x464]) (rest := [.long r451]) de_LW_law_465 (kc_1 l D E B sa) hi465 (cm_PM_ways l D E B sa N Mm451 v2 x459 x464 _ _ hz465) wt_5_94 wt_5_95 wt_5_96 wt_1_8 wt_5_97 ⟨by decide, by decide, by decide +kernel⟩ rfl ⟨Nat.le_of_ble_eq_true rfl, Nat.le_of_ble_eq_true rfl⟩ (Nat.le_of_ble_eq_true rfl) rfl ?_
        refine mv_lcmp (pc := 468) de_LW_law_468 ?_
        refine mv_if_eq (pc := 469) (tgt := 1112) de_LW_law_469 (by decide) h465 (fun hc469 h469 => ?_) (fun hc469 h469 => ?_)
        · exact mv_sub [0, 1, 2, 3] rfl (tb_LW_law_1112 l D E B sa M0 M1 b1 b2 QQ hb hend N (jb_LW_law_18 N sa n) ih Mm465 v1 v2 v3 h469)
        · refine mv_iconst (pc := 472) (v := 0) de_LW_law_472 (by decide) ?_
          exact mv_lawend hb hend de_LW_law_473 h469
      rw [if_neg hs33_6] at h29
      by_cases hs33_7 : (x29 &&& 31) = 7
      · rw [if_pos hs33_7] at h29
        refine mv_tin (pc := 33) (tgt := 474) (off := 441) 7 de_LW_law_33 hs33_7 (by decide) (by decide) ?_
        refine mv_aload_n (pc := 474) (i := 1) de_LW_law_474 rfl 1 rfl ?_
        refine mv_aload_n (pc := 475) (i := 0) de_LW_law_475 rfl 0 rfl ?_
        refine mv_iload_n (pc := 476) (i := 3) de_LW_law_476 rfl 3 rfl ?_
        refine mv_iconst (pc := 477) (v := 1) de_LW_law_477 (by decide) ?_
        refine mv_iadd (pc := 478) de_LW_law_478 ?_
        refine mv_sald (pc := 479) (sm_1 l D E B sa) de_LW_law_479 h29 (fun x479 e479 h479 => ?_)
        refine mv_aload_n (pc := 480) (i := 0) de_LW_law_480 rfl 0 rfl ?_
        refine mv_iload_n (pc := 481) (i := 3) de_LW_law_481 rfl 3 rfl ?_
        refine mv_iconst (pc := 482) (v := 2) de_LW_law_482 (by decide) ?_
        refine mv_iadd (pc := 483) de_LW_law_483 ?_
        refine mv_sald (pc := 484) (sm_1 l D E B sa) de_LW_law_484 h479 (fun x484 e484 h484 => ?_)
        refine mv_if_eq (pc := 485) (tgt := 492) de_LW_law_485 (by decide) h484 (fun hc485 h485 => ?_) (fun hc485 h485 => ?_)
        · refine mv_iconst (pc := 492) (v := 0) de_LW_law_492 (by decide) ?_
          exact mv_sub [0, 1, 2, 3] rfl (tb_LW_law_493 l D E B sa M0 M1 b1 b2 QQ hb hend N (jb_LW_law_18 N sa n) ih M v1 v2 v3 v1 x479 0 h485)
        · refine mv_iconst (pc := 488) (v := 1) de_LW_law_488 (by decide) ?_
          refine mv_goto (pc := 489) (tgt := 493) de_LW_law_489 (by decide) ?_
          exact mv_sub [0, 1, 2, 3] rfl (tb_LW_law_493 l D E B sa M0 M1 b1 b2 QQ hb hend N (jb_LW_law_18 N sa n) ih M v1 v2 v3 v1 x479 1 h485)
      rw [if_neg hs33_7] at h29
      by_cases hs33_8 : (x29 &&& 31) = 8
      · rw [if_pos hs33_8] at h29
        refine mv_tin (pc := 33) (tgt := 523) (off := 490) 8 de_LW_law_33 hs33_8 (by decide) (by decide) ?_
        refine mv_aload_n (pc := 523) (i := 1) de_LW_law_523 rfl 1 rfl ?_
        refine mv_aload_n (pc := 524) (i := 0) de_LW_law_524 rfl 0 rfl ?_
        refine mv_iload_n (pc := 525) (i := 3) de_LW_law_525 rfl 3 rfl ?_
        refine mv_iconst (pc := 526) (v := 1) de_LW_law_526 (by decide) ?_
        refine mv_iadd (pc := 527) de_LW_law_527 ?_
        refine mv_sald (pc := 528) (sm_1 l D E B sa) de_LW_law_528 h29 (fun x528 e528 h528 => ?_)
        refine mv_aload_n (pc := 529) (i := 0) de_LW_law_529 rfl 0 rfl ?_
        refine mv_iload_n (pc := 530) (i := 3) de_LW_law_530 rfl 3 rfl ?_
        refine mv_iconst (pc := 531) (v := 2) de_LW_law_531 (by decide) ?_
        refine mv_iadd (pc := 532) de_LW_law_532 ?_
        refine mv_sald (pc := 533) (sm_1 l D E B sa) de_LW_law_533 h528 (fun x533 e533 h533 => ?_)
        obtain ⟨hi534, h534o⟩ := mj_obE h533
        obtain ⟨r534, Mm534, hz534, h534⟩ := mj_callE h534o
        refine mv_callV (pc := 534) (n := 2) (av := [.int x528, .int x533]) (rest := []) de_LW_law_534 (kc_0 l D E B sa) hi534 (cm_PL_rate l D E B sa N M v1 x528 x533 _ _ hz534) wt_3_41 wt_3_42 wt_3_43 wt_1_1 wt_3_44 ⟨by decide, by decide, by decide +kernel⟩ rfl ⟨Nat.le_of_ble_eq_true rfl, Nat.le_of_ble_eq_true rfl⟩ (Nat.le_of_ble_eq_true rfl) rfl ?_
        refine mv_aload_n (pc := 537) (i := 2) de_LW_law_537 rfl 2 rfl ?_
        refine mv_aload_n (pc := 538) (i := 0) de_LW_law_538 rfl 0 rfl ?_
        refine mv_iload_n (pc := 539) (i := 3) de_LW_law_539 rfl 3 rfl ?_
        refine mv_iconst (pc := 540) (v := 1) de_LW_law_540 (by decide) ?_
        refine mv_iadd (pc := 541) de_LW_law_541 ?_
        refine mv_sald (pc := 542) (sm_1 l D E B sa) de_LW_law_542 h534 (fun x542 e542 h542 => ?_)
        refine mv_aload_n (pc := 543) (i := 0) de_LW_law_543 rfl 0 rfl ?_
        refine mv_iload_n (pc := 544) (i := 3) de_LW_law_544 rfl 3 rfl ?_
        refine mv_iconst (pc := 545) (v := 2) de_LW_law_545 (by decide) ?_
        refine mv_iadd (pc := 546) de_LW_law_546 ?_
        refine mv_sald (pc := 547) (sm_1 l D E B sa) de_LW_law_547 h542 (fun x547 e547 h547 => ?_)
        obtain ⟨hi548, h548o⟩ := mj_obE h547
        obtain ⟨r548, Mm548, hz548, h548⟩ := mj_callE h548o
        refine mv_callV (pc := 548) (n := 2) (av := [.int x542, .int x547]) (rest := [.int r534]) de_LW_law_548 (kc_1 l D E B sa) hi548 (cm_PM_rate l D E B sa N Mm534 v2 x542 x547 _ _ hz548) wt_5_107 wt_5_108 wt_5_109 wt_1_8 wt_5_110 ⟨by decide, by decide, by decide +kernel⟩ rfl ⟨Nat.le_of_ble_eq_true rfl, Nat.le_of_ble_eq_true rfl⟩ (Nat.le_of_ble_eq_true rfl) rfl ?_
        refine mv_icmp_eq (pc := 551) (tgt := 1112) de_LW_law_551 (by decide) h548 (fun hc551 h551 => ?_) (fun hc551 h551 => ?_)
        · exact mv_sub [0, 1, 2, 3] rfl (tb_LW_law_1112 l D E B sa M0 M1 b1 b2 QQ hb hend N (jb_LW_law_18 N sa n) ih Mm548 v1 v2 v3 h551)
        · refine mv_iconst (pc := 554) (v := 0) de_LW_law_554 (by decide) ?_
          exact mv_lawend hb hend de_LW_law_555 h551
      rw [if_neg hs33_8] at h29
      by_cases hs33_9 : (x29 &&& 31) = 9
      · rw [if_pos hs33_9] at h29
        refine mv_tin (pc := 33) (tgt := 556) (off := 523) 9 de_LW_law_33 hs33_9 (by decide) (by decide) ?_
        refine mv_aload_n (pc := 556) (i := 1) de_LW_law_556 rfl 1 rfl ?_
        refine mv_aload_n (pc := 557) (i := 0) de_LW_law_557 rfl 0 rfl ?_
        refine mv_iload_n (pc := 558) (i := 3) de_LW_law_558 rfl 3 rfl ?_
        refine mv_iconst (pc := 559) (v := 1) de_LW_law_559 (by decide) ?_
        refine mv_iadd (pc := 560) de_LW_law_560 ?_
        refine mv_sald (pc := 561) (sm_1 l D E B sa) de_LW_law_561 h29 (fun x561 e561 h561 => ?_)
        refine mv_aload_n (pc := 562) (i := 0) de_LW_law_562 rfl 0 rfl ?_
        refine mv_iload_n (pc := 563) (i := 3) de_LW_law_563 rfl 3 rfl ?_
        refine mv_iconst (pc := 564) (v := 2) de_LW_law_564 (by decide) ?_
        refine mv_iadd (pc := 565) de_LW_law_565 ?_
        refine mv_sald (pc := 566) (sm_1 l D E B sa) de_LW_law_566 h561 (fun x566 e566 h566 => ?_)
        obtain ⟨hi567, h567o⟩ := mj_obE h566
        obtain ⟨r567, Mm567, hz567, h567⟩ := mj_callE h567o
        refine mv_callV (pc := 567) (n := 2) (av := [.int x561, .int x566]) (rest := []) de_LW_law_567 (kc_0 l D E B sa) hi567 (cm_PL_train l D E B sa N M v1 x561 x566 _ _ hz567) wt_3_45 wt_3_46 wt_3_47 wt_1_1 wt_3_48 ⟨by decide, by decide, by decide +kernel⟩ rfl ⟨Nat.le_of_ble_eq_true rfl, Nat.le_of_ble_eq_true rfl⟩ (Nat.le_of_ble_eq_true rfl) rfl ?_
        refine mv_aload_n (pc := 570) (i := 2) de_LW_law_570 rfl 2 rfl ?_
        refine mv_aload_n (pc := 571) (i := 0) de_LW_law_571 rfl 0 rfl ?_
        refine mv_iload_n (pc := 572) (i := 3) de_LW_law_572 rfl 3 rfl ?_
        refine mv_iconst (pc := 573) (v := 1) de_LW_law_573 (by decide) ?_
        refine mv_iadd (pc := 574) de_LW_law_574 ?_
        refine mv_sald (pc := 575) (sm_1 l D E B sa) de_LW_law_575 h567 (fun x575 e575 h575 => ?_)
        refine mv_aload_n (pc := 576) (i := 0) de_LW_law_576 rfl 0 rfl ?_
        refine mv_iload_n (pc := 577) (i := 3) de_LW_law_577 rfl 3 rfl ?_
        refine mv_iconst (pc := 578) (v := 2) de_LW_law_578 (by decide) ?_
        refine mv_iadd (pc := 579) de_LW_law_579 ?_
        refine mv_sald (pc := 580) (sm_1 l D E B sa) de_LW_law_580 h575 (fun x580 e580 h580 => ?_)
        obtain ⟨hi581, h581o⟩ := mj_obE h580
        obtain ⟨r581, Mm581, hz581, h581⟩ := mj_callE h581o
        refine mv_callV (pc := 581) (n := 2) (av := [.int x575, .int x580]) (rest := [.int r567]) de_LW_law_581 (kc_1 l D E B sa) hi581 (cm_PM_train l D E B sa N Mm567 v2 x575 x580 _ _ hz581) wt_5_111 wt_5_112 wt_5_113 wt_1_8 wt_5_114 ⟨by decide, by decide, by decide +kernel⟩ rfl ⟨Nat.le_of_ble_eq_true rfl, Nat.le_of_ble_eq_true rfl⟩ (Nat.le_of_ble_eq_true rfl) rfl ?_
        refine mv_icmp_eq (pc := 584) (tgt := 1112) de_LW_law_584 (by decide) h581 (fun hc584 h584 => ?_) (fun hc584 h584 => ?_)
        · exact mv_sub [0, 1, 2, 3] rfl (tb_LW_law_1112 l D E B sa M0 M1 b1 b2 QQ hb hend N (jb_LW_law_18 N sa n) ih Mm581 v1 v2 v3 h584)
        · refine mv_iconst (pc := 587) (v := 0) de_LW_law_587 (by decide) ?_
          exact mv_lawend hb hend de_LW_law_588 h584
      rw [if_neg hs33_9] at h29
      by_cases hs33_10 : (x29 &&& 31) = 10
      · rw [if_pos hs33_10] at h29
        refine mv_tin (pc := 33) (tgt := 589) (off := 556) 10 de_LW_law_33 hs33_10 (by decide) (by decide) ?_
        refine mv_aload_n (pc := 589) (i := 1) de_LW_law_589 rfl 1 rfl ?_
        refine mv_aload_n (pc := 590) (i := 0) de_LW_law_590 rfl 0 rfl ?_
        refine mv_iload_n (pc := 591) (i := 3) de_LW_law_591 rfl 3 rfl ?_
        refine mv_iconst (pc := 592) (v := 1) de_LW_law_592 (by decide) ?_
        refine mv_iadd (pc := 593) de_LW_law_593 ?_
        refine mv_sald (pc := 594) (sm_1 l D E B sa) de_LW_law_594 h29 (fun x594 e594 h594 => ?_)
        refine mv_aload_n (pc := 595) (i := 0) de_LW_law_595 rfl 0 rfl ?_
        refine mv_iload_n (pc := 596) (i := 3) de_LW_law_596 rfl 3 rfl ?_
        refine mv_iconst (pc := 597) (v := 2) de_LW_law_597 (by decide) ?_
        refine mv_iadd (pc := 598) de_LW_law_598 ?_
        refine mv_sald (pc := 599) (sm_1 l D E B sa) de_LW_law_599 h594 (fun x599 e599 h599 => ?_)
        refine mv_aload_n (pc := 600) (i := 0) de_LW_law_600 rfl 0 rfl ?_
        refine mv_iload_n (pc := 601) (i := 3) de_LW_law_601 rfl 3 rfl ?_
        refine mv_iconst (pc := 602) (v := 3) de_LW_law_602 (by decide) ?_
        refine mv_iadd (pc := 603) de_LW_law_603 ?_
        refine mv_sald (pc := 604) (sm_1 l D E B sa) de_LW_law_604 h599 (fun x604 e604 h604 => ?_)
        refine mv_aload_n (pc := 605) (i := 0) de_LW_law_605 rfl 0 rfl ?_
        refine mv_iload_n (pc := 606) (i := 3) de_LW_law_606 rfl 3 rfl ?_
        refine mv_iconst (pc := 607) (v := 4) de_LW_law_607 (by decide) ?_
        refine mv_iadd (pc := 608) de_LW_law_608 ?_
        refine mv_sald (pc := 609) (sm_1 l D E B sa) de_LW_law_609 h604 (fun x609 e609 h609 => ?_)
        refine mv_aload_n (pc := 610) (i := 0) de_LW_law_610 rfl 0 rfl ?_
        refine mv_iload_n (pc := 611) (i := 3) de_LW_law_611 rfl 3 rfl ?_
        refine mv_iconst (pc := 612) (v := 5) de_LW_law_612 (by decide) ?_
        refine mv_iadd (pc := 613) de_LW_law_613 ?_
        refine mv_sald (pc := 614) (sm_1 l D E B sa) de_LW_law_614 h609 (fun x614 e614 h614 => ?_)
        obtain ⟨hi615, h615o⟩ := mj_obE h614
        obtain ⟨r615, Mm615, hz615, h615⟩ := mj_callE h615o
        refine mv_callV (pc := 615) (n := 5) (av := [.int x594, .int x599, .int x604, .int x609, .int x614]) (rest := []) de_LW_law_615 (kc_0 l D E B sa) hi615 (cm_PL_row l D E B sa N M v1 x594 x599 x604 x609 x614 _ _ hz615) wt_3_76 wt_3_77 wt_3_78 wt_1_1 wt_3_79 ⟨by decide, by decide, by decide +kernel⟩ rfl ⟨Nat.le_of_ble_eq_true rfl, Nat.le_of_ble_eq_true rfl⟩ (Nat.le_of_ble_eq_true rfl) rfl ?_
        refine mv_aload_n (pc := 618) (i := 2) de_LW_law_618 rfl 2 rfl ?_
        refine mv_aload_n (pc := 619) (i := 0) de_LW_law_619 rfl 0 rfl ?_
        refine mv_iload_n (pc := 620) (i := 3) de_LW_law_620 rfl 3 rfl ?_
        refine mv_iconst (pc := 621) (v := 1) de_LW_law_621 (by decide) ?_
        refine mv_iadd (pc := 622) de_LW_law_622 ?_
        refine mv_sald (pc := 623) (sm_1 l D E B sa) de_LW_law_623 h615 (fun x623 e623 h623 => ?_)
        refine mv_aload_n (pc := 624) (i := 0) de_LW_law_624 rfl 0 rfl ?_
        refine mv_iload_n (pc := 625) (i := 3) de_LW_law_625 rfl 3 rfl ?_
        refine mv_iconst (pc := 626) (v := 2) de_LW_law_626 (by decide) ?_
        refine mv_iadd (pc := 627) de_LW_law_627 ?_
        refine mv_sald (pc := 628) (sm_1 l D E B sa) de_LW_law_628 h623 (fun x628 e628 h628 => ?_)
        refine mv_aload_n (pc := 629) (i := 0) de_LW_law_629 rfl 0 rfl ?_
        refine mv_iload_n (pc := 630) (i := 3) de_LW_law_630 rfl 3 rfl ?_
        refine mv_iconst (pc := 631) (v := 3) de_LW_law_631 (by decide) ?_
        refine mv_iadd (pc := 632) de_LW_law_632 ?_
        refine mv_sald (pc := 633) (sm_1 l D E B sa) de_LW_law_633 h628 (fun x633 e633 h633 => ?_)
        refine mv_aload_n (pc := 634) (i := 0) de_LW_law_634 rfl 0 rfl ?_
        refine mv_iload_n (pc := 635) (i := 3) de_LW_law_635 rfl 3 rfl ?_
        refine mv_iconst (pc := 636) (v := 4) de_LW_law_636 (by decide) ?_
        refine mv_iadd (pc := 637) de_LW_law_637 ?_
        refine mv_sald (pc := 638) (sm_1 l D E B sa) de_LW_law_638 h633 (fun x638 e638 h638 => ?_)
        refine mv_aload_n (pc := 639) (i := 0) de_LW_law_639 rfl 0 rfl ?_
        refine mv_iload_n (pc := 640) (i := 3) de_LW_law_640 rfl 3 rfl ?_
        refine mv_iconst (pc := 641) (v := 5) de_LW_law_641 (by decide) ?_
        refine mv_iadd (pc := 642) de_LW_law_642 ?_
        refine mv_sald (pc := 643) (sm_1 l D E B sa) de_LW_law_643 h638 (fun x643 e643 h643 => ?_)
        obtain ⟨hi644, h644o⟩ := mj_obE h643
        obtain ⟨r644, Mm644, hz644, h644⟩ := mj_callE h644o
        refine mv_callV (pc := 644) (n := 5) (av := [.int x623, .int x628, .int x633, .int x638, .int x643]) (rest := [.int r615]) de_LW_law_644 (kc_1 l D E B sa) hi644 (cm_PM_row l D E B sa N Mm615 v2 x623 x628 x633 x638 x643 _ _ hz644) wt_5_123 wt_5_124 wt_5_125 wt_1_8 wt_5_126 ⟨by decide, by decide, by decide +kernel⟩ rfl ⟨Nat.le_of_ble_eq_true rfl, Nat.le_of_ble_eq_true rfl⟩ (Nat.le_of_ble_eq_true rfl) rfl ?_
        refine mv_icmp_eq (pc := 647) (tgt := 1112) de_LW_law_647 (by decide) h644 (fun hc647 h647 => ?_) (fun hc647 h647 => ?_)
        · exact mv_sub [0, 1, 2, 3] rfl (tb_LW_law_1112 l D E B sa M0 M1 b1 b2 QQ hb hend N (jb_LW_law_18 N sa n) ih Mm644 v1 v2 v3 h647)
        · refine mv_iconst (pc := 650) (v := 0) de_LW_law_650 (by decide) ?_
          exact mv_lawend hb hend de_LW_law_651 h647
      rw [if_neg hs33_10] at h29
      by_cases hs33_11 : (x29 &&& 31) = 11
      · rw [if_pos hs33_11] at h29
        refine mv_tin (pc := 33) (tgt := 652) (off := 619) 11 de_LW_law_33 hs33_11 (by decide) (by decide) ?_
        refine mv_aload_n (pc := 652) (i := 1) de_LW_law_652 rfl 1 rfl ?_
        refine mv_aload_n (pc := 653) (i := 0) de_LW_law_653 rfl 0 rfl ?_
        refine mv_iload_n (pc := 654) (i := 3) de_LW_law_654 rfl 3 rfl ?_
        refine mv_iconst (pc := 655) (v := 1) de_LW_law_655 (by decide) ?_
        refine mv_iadd (pc := 656) de_LW_law_656 ?_
        refine mv_sald (pc := 657) (sm_1 l D E B sa) de_LW_law_657 h29 (fun x657 e657 h657 => ?_)
        obtain ⟨hi658, h658o⟩ := mj_obE h657
        obtain ⟨r658, Mm658, hz658, h658⟩ := mj_callE h658o
        refine mv_callV (pc := 658) (n := 1) (av := [.int x657]) (rest := []) de_LW_law_658 (kc_0 l D E B sa) hi658 (cm_PL_cut l D E B sa N M v1 x657 _ _ hz658) wt_3_87 wt_3_88 wt_3_89 wt_1_1 wt_3_90 ⟨by decide, by decide, by decide +kernel⟩ rfl ⟨Nat.le_of_ble_eq_true rfl, Nat.le_of_ble_eq_true rfl⟩ (Nat.le_of_ble_eq_true rfl) rfl ?_
        refine mv_aload_n (pc := 661) (i := 2) de_LW_law_661 rfl 2 rfl ?_
        refine mv_aload_n (pc := 662) (i := 0) de_LW_law_662 rfl 0 rfl ?_
        refine mv_iload_n (pc := 663) (i := 3) de_LW_law_663 rfl 3 rfl ?_
        refine mv_iconst (pc := 664) (v := 1) de_LW_law_664 (by decide) ?_
        refine mv_iadd (pc := 665) de_LW_law_665 ?_
        refine mv_sald (pc := 666) (sm_1 l D E B sa) de_LW_law_666 h658 (fun x666 e666 h666 => ?_)
        obtain ⟨hi667, h667o⟩ := mj_obE h666
        obtain ⟨r667, Mm667, hz667, h667⟩ := mj_callE h667o
        refine mv_callV (pc := 667) (n := 1) (av := [.int x666]) (rest := [.int r658]) de_LW_law_667 (kc_1 l D E B sa) hi667 (cm_PM_cut l D E B sa N Mm658 v2 x666 _ _ hz667) wt_5_129 wt_5_130 wt_5_131 wt_1_8 wt_5_132 ⟨by decide, by decide, by decide +kernel⟩ rfl ⟨Nat.le_of_ble_eq_true rfl, Nat.le_of_ble_eq_true rfl⟩ (Nat.le_of_ble_eq_true rfl) rfl ?_
        refine mv_icmp_eq (pc := 670) (tgt := 1112) de_LW_law_670 (by decide) h667 (fun hc670 h670 => ?_) (fun hc670 h670 => ?_)
        · exact mv_sub [0, 1, 2, 3] rfl (tb_LW_law_1112 l D E B sa M0 M1 b1 b2 QQ hb hend N (jb_LW_law_18 N sa n) ih Mm667 v1 v2 v3 h670)
        · refine mv_iconst (pc := 673) (v := 0) de_LW_law_673 (by decide) ?_
          exact mv_lawend hb hend de_LW_law_674 h670
      rw [if_neg hs33_11] at h29
      by_cases hs33_12 : (x29 &&& 31) = 12
      · rw [if_pos hs33_12] at h29
        refine mv_tin (pc := 33) (tgt := 675) (off := 642) 12 de_LW_law_33 hs33_12 (by decide) (by decide) ?_
        refine mv_aload_n (pc := 675) (i := 1) de_LW_law_675 rfl 1 rfl ?_
        refine mv_aload_n (pc := 676) (i := 0) de_LW_law_676 rfl 0 rfl ?_
        refine mv_iload_n (pc := 677) (i := 3) de_LW_law_677 rfl 3 rfl ?_
        refine mv_iconst (pc := 678) (v := 1) de_LW_law_678 (by decide) ?_
        refine mv_iadd (pc := 679) de_LW_law_679 ?_
        refine mv_sald (pc := 680) (sm_1 l D E B sa) de_LW_law_680 h29 (fun x680 e680 h680 => ?_)
        refine mv_aload_n (pc := 681) (i := 0) de_LW_law_681 rfl 0 rfl ?_
        refine mv_iload_n (pc := 682) (i := 3) de_LW_law_682 rfl 3 rfl ?_
        refine mv_iconst (pc := 683) (v := 2) de_LW_law_683 (by decide) ?_
        refine mv_iadd (pc := 684) de_LW_law_684 ?_
        refine mv_sald (pc := 685) (sm_1 l D E B sa) de_LW_law_685 h680 (fun x685 e685 h685 => ?_)
        refine mv_aload_n (pc := 686) (i := 0) de_LW_law_686 rfl 0 rfl ?_
        refine mv_iload_n (pc := 687) (i := 3) de_LW_law_687 rfl 3 rfl ?_
        refine mv_iconst (pc := 688) (v := 3) de_LW_law_688 (by decide) ?_
        refine mv_iadd (pc := 689) de_LW_law_689 ?_
        refine mv_sald (pc := 690) (sm_1 l D E B sa) de_LW_law_690 h685 (fun x690 e690 h690 => ?_)
        obtain ⟨hi691, h691o⟩ := mj_obE h690
        obtain ⟨r691, Mm691, hz691, h691⟩ := mj_callE h691o
        refine mv_callV (pc := 691) (n := 3) (av := [.int x680, .int x685, .int x690]) (rest := []) de_LW_law_691 (kc_0 l D E B sa) hi691 (cm_PL_cost l D E B sa N M v1 x680 x685 x690 _ _ hz691) wt_3_113 wt_3_114 wt_3_115 wt_1_1 wt_3_116 ⟨by decide, by decide, by decide +kernel⟩ rfl ⟨Nat.le_of_ble_eq_true rfl, Nat.le_of_ble_eq_true rfl⟩ (Nat.le_of_ble_eq_true rfl) rfl ?_
        refine mv_aload_n (pc := 694) (i := 2) de_LW_law_694 rfl 2 rfl ?_
        refine mv_aload_n (pc := 695) (i := 0) de_LW_law_695 rfl 0 rfl ?_
        refine mv_iload_n (pc := 696) (i := 3) de_LW_law_696 rfl 3 rfl ?_
        refine mv_iconst (pc := 697) (v := 1) de_LW_law_697 (by decide) ?_
        refine mv_iadd (pc := 698) de_LW_law_698 ?_
        refine mv_sald (pc := 699) (sm_1 l D E B sa) de_LW_law_699 h691 (fun x699 e699 h699 => ?_)
        refine mv_aload_n (pc := 700) (i := 0) de_LW_law_700 rfl 0 rfl ?_
        refine mv_iload_n (pc := 701) (i := 3) de_LW_law_701 rfl 3 rfl ?_
        refine mv_iconst (pc := 702) (v := 2) de_LW_law_702 (by decide) ?_
        refine mv_iadd (pc := 703) de_LW_law_703 ?_
        refine mv_sald (pc := 704) (sm_1 l D E B sa) de_LW_law_704 h699 (fun x704 e704 h704 => ?_)
        refine mv_aload_n (pc := 705) (i := 0) de_LW_law_705 rfl 0 rfl ?_
        refine mv_iload_n (pc := 706) (i := 3) de_LW_law_706 rfl 3 rfl ?_
        refine mv_iconst (pc := 707) (v := 3) de_LW_law_707 (by decide) ?_
        refine mv_iadd (pc := 708) de_LW_law_708 ?_
        refine mv_sald (pc := 709) (sm_1 l D E B sa) de_LW_law_709 h704 (fun x709 e709 h709 => ?_)
        obtain ⟨hi710, h710o⟩ := mj_obE h709
        obtain ⟨r710, Mm710, hz710, h710⟩ := mj_callE h710o
        refine mv_callV (pc := 710) (n := 3) (av := [.int x699, .int x704, .int x709]) (rest := [.long r691]) de_LW_law_710 (kc_1 l D E B sa) hi710 (cm_PM_cost l D E B sa N Mm691 v2 x699 x704 x709 _ _ hz710) wt_5_141 wt_5_142 wt_5_143 wt_1_8 wt_5_144 ⟨by decide, by decide, by decide +kernel⟩ rfl ⟨Nat.le_of_ble_eq_true rfl, Nat.le_of_ble_eq_true rfl⟩ (Nat.le_of_ble_eq_true rfl) rfl ?_
        refine mv_lcmp (pc := 713) de_LW_law_713 ?_
        refine mv_if_eq (pc := 714) (tgt := 1112) de_LW_law_714 (by decide) h710 (fun hc714 h714 => ?_) (fun hc714 h714 => ?_)
        · exact mv_sub [0, 1, 2, 3] rfl (tb_LW_law_1112 l D E B sa M0 M1 b1 b2 QQ hb hend N (jb_LW_law_18 N sa n) ih Mm710 v1 v2 v3 h714)
        · refine mv_iconst (pc := 717) (v := 0) de_LW_law_717 (by decide) ?_
          exact mv_lawend hb hend de_LW_law_718 h714
      rw [if_neg hs33_12] at h29
      by_cases hs33_13 : (x29 &&& 31) = 13
      · rw [if_pos hs33_13] at h29
        refine mv_tin (pc := 33) (tgt := 719) (off := 686) 13 de_LW_law_33 hs33_13 (by decide) (by decide) ?_
        refine mv_aload_n (pc := 719) (i := 1) de_LW_law_719 rfl 1 rfl ?_
        obtain ⟨hi720, h720o⟩ := mj_obE h29
        obtain ⟨r720, Mm720, hz720, h720⟩ := mj_callE h720o
        refine mv_callV (pc := 720) (n := 0) (av := []) (rest := []) de_LW_law_720 (kc_0 l D E B sa) hi720 (cm_PL_best l D E B sa N M v1 _ _ hz720) wt_3_118 wt_3_119 wt_3_120 wt_1_1 wt_3_121 ⟨by decide, by decide, by decide +kernel⟩ rfl ⟨Nat.le_of_ble_eq_true rfl, Nat.le_of_ble_eq_true rfl⟩ (Nat.le_of_ble_eq_true rfl) rfl ?_
        refine mv_aload_n (pc := 723) (i := 2) de_LW_law_723 rfl 2 rfl ?_
        obtain ⟨hi724, h724o⟩ := mj_obE h720
        obtain ⟨r724, Mm724, hz724, h724⟩ := mj_callE h724o
        refine mv_callV (pc := 724) (n := 0) (av := []) (rest := [.int r720]) de_LW_law_724 (kc_1 l D E B sa) hi724 (cm_PM_best l D E B sa N Mm720 v2 _ _ hz724) wt_5_145 wt_5_146 wt_5_147 wt_1_8 wt_5_148 ⟨by decide, by decide, by decide +kernel⟩ rfl ⟨Nat.le_of_ble_eq_true rfl, Nat.le_of_ble_eq_true rfl⟩ (Nat.le_of_ble_eq_true rfl) rfl ?_
        refine mv_icmp_eq (pc := 727) (tgt := 1112) de_LW_law_727 (by decide) h724 (fun hc727 h727 => ?_) (fun hc727 h727 => ?_)
        · exact mv_sub [0, 1, 2, 3] rfl (tb_LW_law_1112 l D E B sa M0 M1 b1 b2 QQ hb hend N (jb_LW_law_18 N sa n) ih Mm724 v1 v2 v3 h727)
        · refine mv_iconst (pc := 730) (v := 0) de_LW_law_730 (by decide) ?_
          exact mv_lawend hb hend de_LW_law_731 h727
      rw [if_neg hs33_13] at h29
      by_cases hs33_14 : (x29 &&& 31) = 14
      · rw [if_pos hs33_14] at h29
        refine mv_tin (pc := 33) (tgt := 732) (off := 699) 14 de_LW_law_33 hs33_14 (by decide) (by decide) ?_
        refine mv_aload_n (pc := 732) (i := 1) de_LW_law_732 rfl 1 rfl ?_
        obtain ⟨hi733, h733o⟩ := mj_obE h29
        obtain ⟨r733, Mm733, hz733, h733⟩ := mj_callE h733o
        refine mv_callV (pc := 733) (n := 0) (av := []) (rest := []) de_LW_law_733 (kc_0 l D E B sa) hi733 (cm_PL_clear l D E B sa N M v1 _ _ hz733) wt_3_127 wt_3_128 wt_3_129 wt_1_1 wt_3_130 ⟨by decide, by decide, by decide +kernel⟩ rfl ⟨Nat.le_of_ble_eq_true rfl, Nat.le_of_ble_eq_true rfl⟩ (Nat.le_of_ble_eq_true rfl) rfl ?_
        refine mv_aload_n (pc := 736) (i := 2) de_LW_law_736 rfl 2 rfl ?_
        obtain ⟨hi737, h737o⟩ := mj_obE h733
        obtain ⟨r737, Mm737, hz737, h737⟩ := mj_callE h737o
        refine mv_callV (pc := 737) (n := 0) (av := []) (rest := [.int r733]) de_LW_law_737 (kc_1 l D E B sa) hi737 (cm_PM_clear l D E B sa N Mm733 v2 _ _ hz737) wt_5_150 wt_5_151 wt_5_152 wt_1_8 wt_5_153 ⟨by decide, by decide, by decide +kernel⟩ rfl ⟨Nat.le_of_ble_eq_true rfl, Nat.le_of_ble_eq_true rfl⟩ (Nat.le_of_ble_eq_true rfl) rfl ?_
        refine mv_icmp_eq (pc := 740) (tgt := 1112) de_LW_law_740 (by decide) h737 (fun hc740 h740 => ?_) (fun hc740 h740 => ?_)
        · exact mv_sub [0, 1, 2, 3] rfl (tb_LW_law_1112 l D E B sa M0 M1 b1 b2 QQ hb hend N (jb_LW_law_18 N sa n) ih Mm737 v1 v2 v3 h740)
        · refine mv_iconst (pc := 743) (v := 0) de_LW_law_743 (by decide) ?_
          exact mv_lawend hb hend de_LW_law_744 h740
      rw [if_neg hs33_14] at h29
      by_cases hs33_15 : (x29 &&& 31) = 15
      · rw [if_pos hs33_15] at h29
        refine mv_tin (pc := 33) (tgt := 745) (off := 712) 15 de_LW_law_33 hs33_15 (by decide) (by decide) ?_
        refine mv_aload_n (pc := 745) (i := 1) de_LW_law_745 rfl 1 rfl ?_
        refine mv_aload_n (pc := 746) (i := 0) de_LW_law_746 rfl 0 rfl ?_
        refine mv_iload_n (pc := 747) (i := 3) de_LW_law_747 rfl 3 rfl ?_
        refine mv_iconst (pc := 748) (v := 1) de_LW_law_748 (by decide) ?_
        refine mv_iadd (pc := 749) de_LW_law_749 ?_
        refine mv_sald (pc := 750) (sm_1 l D E B sa) de_LW_law_750 h29 (fun x750 e750 h750 => ?_)
        obtain ⟨hi751, h751o⟩ := mj_obE h750
        obtain ⟨r751, Mm751, hz751, h751⟩ := mj_callE h751o
        refine mv_callV (pc := 751) (n := 1) (av := [.int x750]) (rest := []) de_LW_law_751 (kc_0 l D E B sa) hi751 (cm_PL_game l D E B sa N M v1 x750 _ _ hz751) wt_3_135 wt_3_136 wt_3_137 wt_1_1 wt_3_138 ⟨by decide, by decide, by decide +kernel⟩ rfl ⟨Nat.le_of_ble_eq_true rfl, Nat.le_of_ble_eq_true rfl⟩ (Nat.le_of_ble_eq_true rfl) rfl ?_
        refine mv_aload_n (pc := 754) (i := 2) de_LW_law_754 rfl 2 rfl ?_
        refine mv_aload_n (pc := 755) (i := 0) de_LW_law_755 rfl 0 rfl ?_
        refine mv_iload_n (pc := 756) (i := 3) de_LW_law_756 rfl 3 rfl ?_
        refine mv_iconst (pc := 757) (v := 1) de_LW_law_757 (by decide) ?_
        refine mv_iadd (pc := 758) de_LW_law_758 ?_
        refine mv_sald (pc := 759) (sm_1 l D E B sa) de_LW_law_759 h751 (fun x759 e759 h759 => ?_)
        obtain ⟨hi760, h760o⟩ := mj_obE h759
        obtain ⟨r760, Mm760, hz760, h760⟩ := mj_callE h760o
        refine mv_callV (pc := 760) (n := 1) (av := [.int x759]) (rest := [.int r751]) de_LW_law_760 (kc_1 l D E B sa) hi760 (cm_PM_game l D E B sa N Mm751 v2 x759 _ _ hz760) wt_5_154 wt_5_155 wt_5_156 wt_1_8 wt_5_157 ⟨by decide, by decide, by decide +kernel⟩ rfl ⟨Nat.le_of_ble_eq_true rfl, Nat.le_of_ble_eq_true rfl⟩ (Nat.le_of_ble_eq_true rfl) rfl ?_
        refine mv_icmp_eq (pc := 763) (tgt := 1112) de_LW_law_763 (by decide) h760 (fun hc763 h763 => ?_) (fun hc763 h763 => ?_)
        · exact mv_sub [0, 1, 2, 3] rfl (tb_LW_law_1112 l D E B sa M0 M1 b1 b2 QQ hb hend N (jb_LW_law_18 N sa n) ih Mm760 v1 v2 v3 h763)
        · refine mv_iconst (pc := 766) (v := 0) de_LW_law_766 (by decide) ?_
          exact mv_lawend hb hend de_LW_law_767 h763
      rw [if_neg hs33_15] at h29
      by_cases hs33_16 : (x29 &&& 31) = 16
      · rw [if_pos hs33_16] at h29
        refine mv_tin (pc := 33) (tgt := 768) (off := 735) 16 de_LW_law_33 hs33_16 (by decide) (by decide) ?_
        refine mv_aload_n (pc := 768) (i := 1) de_LW_law_768 rfl 1 rfl ?_
        refine mv_aload_n (pc := 769) (i := 0) de_LW_law_769 rfl 0 rfl ?_
        refine mv_iload_n (pc := 770) (i := 3) de_LW_law_770 rfl 3 rfl ?_
        refine mv_iconst (pc := 771) (v := 1) de_LW_law_771 (by decide) ?_
        refine mv_iadd (pc := 772) de_LW_law_772 ?_
        refine mv_sald (pc := 773) (sm_1 l D E B sa) de_LW_law_773 h29 (fun x773 e773 h773 => ?_)
        refine mv_aload_n (pc := 774) (i := 0) de_LW_law_774 rfl 0 rfl ?_
        refine mv_iload_n (pc := 775) (i := 3) de_LW_law_775 rfl 3 rfl ?_
        refine mv_iconst (pc := 776) (v := 2) de_LW_law_776 (by decide) ?_
        refine mv_iadd (pc := 777) de_LW_law_777 ?_
        refine mv_sald (pc := 778) (sm_1 l D E B sa) de_LW_law_778 h773 (fun x778 e778 h778 => ?_)
        obtain ⟨hi779, h779o⟩ := mj_obE h778
        obtain ⟨r779, Mm779, hz779, h779⟩ := mj_callE h779o
        refine mv_callV (pc := 779) (n := 2) (av := [.int x773, .int x778]) (rest := []) de_LW_law_779 (kc_0 l D E B sa) hi779 (cm_PL_worth l D E B sa N M v1 x773 x778 _ _ hz779) wt_3_144 wt_3_145 wt_3_146 wt_1_1 wt_3_147 ⟨by decide, by decide, by decide +kernel⟩ rfl ⟨Nat.le_of_ble_eq_true rfl, Nat.le_of_ble_eq_true rfl⟩ (Nat.le_of_ble_eq_true rfl) rfl ?_
        refine mv_aload_n (pc := 782) (i := 2) de_LW_law_782 rfl 2 rfl ?_
        refine mv_aload_n (pc := 783) (i := 0) de_LW_law_783 rfl 0 rfl ?_
        refine mv_iload_n (pc := 784) (i := 3) de_LW_law_784 rfl 3 rfl ?_
        refine mv_iconst (pc := 785) (v := 1) de_LW_law_785 (by decide) ?_
        refine mv_iadd (pc := 786) de_LW_law_786 ?_
        refine mv_sald (pc := 787) (sm_1 l D E B sa) de_LW_law_787 h779 (fun x787 e787 h787 => ?_)
        refine mv_aload_n (pc := 788) (i := 0) de_LW_law_788 rfl 0 rfl ?_
        refine mv_iload_n (pc := 789) (i := 3) de_LW_law_789 rfl 3 rfl ?_
        refine mv_iconst (pc := 790) (v := 2) de_LW_law_790 (by decide) ?_
        refine mv_iadd (pc := 791) de_LW_law_791 ?_
        refine mv_sald (pc := 792) (sm_1 l D E B sa) de_LW_law_792 h787 (fun x792 e792 h792 => ?_)
        obtain ⟨hi793, h793o⟩ := mj_obE h792
        obtain ⟨r793, Mm793, hz793, h793⟩ := mj_callE h793o
        refine mv_callV (pc := 793) (n := 2) (av := [.int x787, .int x792]) (rest := [.int r779]) de_LW_law_793 (kc_1 l D E B sa) hi793 (cm_PM_worth l D E B sa N Mm779 v2 x787 x792 _ _ hz793) wt_5_159 wt_5_160 wt_5_161 wt_1_8 wt_5_162 ⟨by decide, by decide, by decide +kernel⟩ rfl ⟨Nat.le_of_ble_eq_true rfl, Nat.le_of_ble_eq_true rfl⟩ (Nat.le_of_ble_eq_true rfl) rfl ?_
        refine mv_icmp_eq (pc := 796) (tgt := 1112) de_LW_law_796 (by decide) h793 (fun hc796 h796 => ?_) (fun hc796 h796 => ?_)
        · exact mv_sub [0, 1, 2, 3] rfl (tb_LW_law_1112 l D E B sa M0 M1 b1 b2 QQ hb hend N (jb_LW_law_18 N sa n) ih Mm793 v1 v2 v3 h796)
        · refine mv_iconst (pc := 799) (v := 0) de_LW_law_799 (by decide) ?_
          exact mv_lawend hb hend de_LW_law_800 h796
      rw [if_neg hs33_16] at h29
      by_cases hs33_17 : (x29 &&& 31) = 17
      · rw [if_pos hs33_17] at h29
        refine mv_tin (pc := 33) (tgt := 801) (off := 768) 17 de_LW_law_33 hs33_17 (by decide) (by decide) ?_
        refine mv_aload_n (pc := 801) (i := 1) de_LW_law_801 rfl 1 rfl ?_
        refine mv_aload_n (pc := 802) (i := 0) de_LW_law_802 rfl 0 rfl ?_
        refine mv_iload_n (pc := 803) (i := 3) de_LW_law_803 rfl 3 rfl ?_
        refine mv_iconst (pc := 804) (v := 1) de_LW_law_804 (by decide) ?_
        refine mv_iadd (pc := 805) de_LW_law_805 ?_
        refine mv_sald (pc := 806) (sm_1 l D E B sa) de_LW_law_806 h29 (fun x806 e806 h806 => ?_)
        refine mv_aload_n (pc := 807) (i := 0) de_LW_law_807 rfl 0 rfl ?_
        refine mv_iload_n (pc := 808) (i := 3) de_LW_law_808 rfl 3 rfl ?_
        refine mv_iconst (pc := 809) (v := 2) de_LW_law_809 (by decide) ?_
        refine mv_iadd (pc := 810) de_LW_law_810 ?_
        refine mv_sald (pc := 811) (sm_1 l D E B sa) de_LW_law_811 h806 (fun x811 e811 h811 => ?_)
        obtain ⟨hi812, h812o⟩ := mj_obE h811
        obtain ⟨r812, Mm812, hz812, h812⟩ := mj_callE h812o
        refine mv_callV (pc := 812) (n := 2) (av := [.int x806, .int x811]) (rest := []) de_LW_law_812 (kc_0 l D E B sa) hi812 (cm_PL_share l D E B sa N M v1 x806 x811 _ _ hz812) wt_3_152 wt_3_153 wt_3_154 wt_1_1 wt_3_155 ⟨by decide, by decide, by decide +kernel⟩ rfl ⟨Nat.le_of_ble_eq_true rfl, Nat.le_of_ble_eq_true rfl⟩ (Nat.le_of_ble_eq_true rfl) rfl ?_
        refine mv_aload_n (pc := 815) (i := 2) de_LW_law_815 rfl 2 rfl ?_
        refine mv_aload_n (pc := 816) (i := 0) de_LW_law_816 rfl 0 rfl ?_
        refine mv_iload_n (pc := 817) (i := 3) de_LW_law_817 rfl 3 rfl ?_
        refine mv_iconst (pc := 818) (v := 1) de_LW_law_818 (by decide) ?_
        refine mv_iadd (pc := 819) de_LW_law_819 ?_
        refine mv_sald (pc := 820) (sm_1 l D E B sa) de_LW_law_820 h812 (fun x820 e820 h820 => ?_)
        refine mv_aload_n (pc := 821) (i := 0) de_LW_law_821 rfl 0 rfl ?_
        refine mv_iload_n (pc := 822) (i := 3) de_LW_law_822 rfl 3 rfl ?_
        refine mv_iconst (pc := 823) (v := 2) de_LW_law_823 (by decide) ?_
        refine mv_iadd (pc := 824) de_LW_law_824 ?_
        refine mv_sald (pc := 825) (sm_1 l D E B sa) de_LW_law_825 h820 (fun x825 e825 h825 => ?_)
        obtain ⟨hi826, h826o⟩ := mj_obE h825
        obtain ⟨r826, Mm826, hz826, h826⟩ := mj_callE h826o
        refine mv_callV (pc := 826) (n := 2) (av := [.int x820, .int x825]) (rest := [.long r812]) de_LW_law_826 (kc_1 l D E B sa) hi826 (cm_PM_share l D E B sa N Mm812 v2 x820 x825 _ _ hz826) wt_5_165 wt_5_166 wt_5_167 wt_1_8 wt_5_168 ⟨by decide, by decide, by decide +kernel⟩ rfl ⟨Nat.le_of_ble_eq_true rfl, Nat.le_of_ble_eq_true rfl⟩ (Nat.le_of_ble_eq_true rfl) rfl ?_
        refine mv_lcmp (pc := 829) de_LW_law_829 ?_
        refine mv_if_eq (pc := 830) (tgt := 1112) de_LW_law_830 (by decide) h826 (fun hc830 h830 => ?_) (fun hc830 h830 => ?_)
        · exact mv_sub [0, 1, 2, 3] rfl (tb_LW_law_1112 l D E B sa M0 M1 b1 b2 QQ hb hend N (jb_LW_law_18 N sa n) ih Mm826 v1 v2 v3 h830)
        · refine mv_iconst (pc := 833) (v := 0) de_LW_law_833 (by decide) ?_
          exact mv_lawend hb hend de_LW_law_834 h830
      rw [if_neg hs33_17] at h29
      by_cases hs33_18 : (x29 &&& 31) = 18
      · rw [if_pos hs33_18] at h29
        refine mv_tin (pc := 33) (tgt := 835) (off := 802) 18 de_LW_law_33 hs33_18 (by decide) (by decide) ?_
        refine mv_aload_n (pc := 835) (i := 1) de_LW_law_835 rfl 1 rfl ?_
        refine mv_aload_n (pc := 836) (i := 0) de_LW_law_836 rfl 0 rfl ?_
        refine mv_iload_n (pc := 837) (i := 3) de_LW_law_837 rfl 3 rfl ?_
        refine mv_iconst (pc := 838) (v := 1) de_LW_law_838 (by decide) ?_
        refine mv_iadd (pc := 839) de_LW_law_839 ?_
        refine mv_sald (pc := 840) (sm_1 l D E B sa) de_LW_law_840 h29 (fun x840 e840 h840 => ?_)
        refine mv_aload_n (pc := 841) (i := 0) de_LW_law_841 rfl 0 rfl ?_
        refine mv_iload_n (pc := 842) (i := 3) de_LW_law_842 rfl 3 rfl ?_
        refine mv_iconst (pc := 843) (v := 2) de_LW_law_843 (by decide) ?_
        refine mv_iadd (pc := 844) de_LW_law_844 ?_
        refine mv_sald (pc := 845) (sm_1 l D E B sa) de_LW_law_845 h840 (fun x845 e845 h845 => ?_)
        refine mv_if_eq (pc := 846) (tgt := 853) de_LW_law_846 (by decide) h845 (fun hc846 h846 => ?_) (fun hc846 h846 => ?_)
        · refine mv_iconst (pc := 853) (v := 0) de_LW_law_853 (by decide) ?_
          exact mv_sub [0, 1, 2, 3] rfl (tb_LW_law_854 l D E B sa M0 M1 b1 b2 QQ hb hend N (jb_LW_law_18 N sa n) ih M v1 v2 v3 v1 x840 0 h846)
        · refine mv_iconst (pc := 849) (v := 1) de_LW_law_849 (by decide) ?_
          refine mv_goto (pc := 850) (tgt := 854) de_LW_law_850 (by decide) ?_
          exact mv_sub [0, 1, 2, 3] rfl (tb_LW_law_854 l D E B sa M0 M1 b1 b2 QQ hb hend N (jb_LW_law_18 N sa n) ih M v1 v2 v3 v1 x840 1 h846)
      rw [if_neg hs33_18] at h29
      by_cases hs33_19 : (x29 &&& 31) = 19
      · rw [if_pos hs33_19] at h29
        refine mv_tin (pc := 33) (tgt := 884) (off := 851) 19 de_LW_law_33 hs33_19 (by decide) (by decide) ?_
        refine mv_aload_n (pc := 884) (i := 1) de_LW_law_884 rfl 1 rfl ?_
        refine mv_aload_n (pc := 885) (i := 0) de_LW_law_885 rfl 0 rfl ?_
        refine mv_iload_n (pc := 886) (i := 3) de_LW_law_886 rfl 3 rfl ?_
        refine mv_iconst (pc := 887) (v := 1) de_LW_law_887 (by decide) ?_
        refine mv_iadd (pc := 888) de_LW_law_888 ?_
        refine mv_sald (pc := 889) (sm_1 l D E B sa) de_LW_law_889 h29 (fun x889 e889 h889 => ?_)
        refine mv_aload_n (pc := 890) (i := 0) de_LW_law_890 rfl 0 rfl ?_
        refine mv_iload_n (pc := 891) (i := 3) de_LW_law_891 rfl 3 rfl ?_
        refine mv_iconst (pc := 892) (v := 2) de_LW_law_892 (by decide) ?_
        refine mv_iadd (pc := 893) de_LW_law_893 ?_
        refine mv_sald (pc := 894) (sm_1 l D E B sa) de_LW_law_894 h889 (fun x894 e894 h894 => ?_)
        obtain ⟨hi895, h895o⟩ := mj_obE h894
        obtain ⟨r895, Mm895, hz895, h895⟩ := mj_callE h895o
        refine mv_callV (pc := 895) (n := 2) (av := [.int x889, .int x894]) (rest := []) de_LW_law_895 (kc_0 l D E B sa) hi895 (cm_PL_score l D E B sa N M v1 x889 x894 _ _ hz895) wt_3_177 wt_3_178 wt_3_179 wt_1_1 wt_3_180 ⟨by decide, by decide, by decide +kernel⟩ rfl ⟨Nat.le_of_ble_eq_true rfl, Nat.le_of_ble_eq_true rfl⟩ (Nat.le_of_ble_eq_true rfl) rfl ?_
        refine mv_aload_n (pc := 898) (i := 2) de_LW_law_898 rfl 2 rfl ?_
        refine mv_aload_n (pc := 899) (i := 0) de_LW_law_899 rfl 0 rfl ?_
        refine mv_iload_n (pc := 900) (i := 3) de_LW_law_900 rfl 3 rfl ?_
        refine mv_iconst (pc := 901) (v := 1) de_LW_law_901 (by decide) ?_
        refine mv_iadd (pc := 902) de_LW_law_902 ?_
        refine mv_sald (pc := 903) (sm_1 l D E B sa) de_LW_law_903 h895 (fun x903 e903 h903 => ?_)
        refine mv_aload_n (pc := 904) (i := 0) de_LW_law_904 rfl 0 rfl ?_
        refine mv_iload_n (pc := 905) (i := 3) de_LW_law_905 rfl 3 rfl ?_
        refine mv_iconst (pc := 906) (v := 2) de_LW_law_906 (by decide) ?_
        refine mv_iadd (pc := 907) de_LW_law_907 ?_
        refine mv_sald (pc := 908) (sm_1 l D E B sa) de_LW_law_908 h903 (fun x908 e908 h908 => ?_)
        obtain ⟨hi909, h909o⟩ := mj_obE h908
        obtain ⟨r909, Mm909, hz909, h909⟩ := mj_callE h909o
        refine mv_callV (pc := 909) (n := 2) (av := [.int x903, .int x908]) (rest := [.long r895]) de_LW_law_909 (kc_1 l D E B sa) hi909 (cm_PM_score l D E B sa N Mm895 v2 x903 x908 _ _ hz909) wt_5_176 wt_5_177 wt_5_178 wt_1_8 wt_5_179 ⟨by decide, by decide, by decide +kernel⟩ rfl ⟨Nat.le_of_ble_eq_true rfl, Nat.le_of_ble_eq_true rfl⟩ (Nat.le_of_ble_eq_true rfl) rfl ?_
        refine mv_lcmp (pc := 912) de_LW_law_912 ?_
        refine mv_if_eq (pc := 913) (tgt := 1112) de_LW_law_913 (by decide) h909 (fun hc913 h913 => ?_) (fun hc913 h913 => ?_)
        · exact mv_sub [0, 1, 2, 3] rfl (tb_LW_law_1112 l D E B sa M0 M1 b1 b2 QQ hb hend N (jb_LW_law_18 N sa n) ih Mm909 v1 v2 v3 h913)
        · refine mv_iconst (pc := 916) (v := 0) de_LW_law_916 (by decide) ?_
          exact mv_lawend hb hend de_LW_law_917 h913
      rw [if_neg hs33_19] at h29
      by_cases hs33_20 : (x29 &&& 31) = 20
      · rw [if_pos hs33_20] at h29
        refine mv_tin (pc := 33) (tgt := 918) (off := 885) 20 de_LW_law_33 hs33_20 (by decide) (by decide) ?_
        refine mv_aload_n (pc := 918) (i := 1) de_LW_law_918 rfl 1 rfl ?_
        obtain ⟨hi919, h919o⟩ := mj_obE h29
        obtain ⟨r919, Mm919, hz919, h919⟩ := mj_callE h919o
        refine mv_callV (pc := 919) (n := 0) (av := []) (rest := []) de_LW_law_919 (kc_0 l D E B sa) hi919 (cm_PL_forget l D E B sa N M v1 _ _ hz919) wt_3_225 wt_3_226 wt_3_227 wt_1_1 wt_3_228 ⟨by decide, by decide, by decide +kernel⟩ rfl ⟨Nat.le_of_ble_eq_true rfl, Nat.le_of_ble_eq_true rfl⟩ (Nat.le_of_ble_eq_true rfl) rfl ?_
        refine mv_aload_n (pc := 922) (i := 2) de_LW_law_922 rfl 2 rfl ?_
        obtain ⟨hi923, h923o⟩ := mj_obE h919
        obtain ⟨r923, Mm923, hz923, h923⟩ := mj_callE h923o
        refine mv_callV (pc := 923) (n := 0) (av := []) (rest := [.int r919]) de_LW_law_923 (kc_1 l D E B sa) hi923 (cm_PM_forget l D E B sa N Mm919 v2 _ _ hz923) wt_5_196 wt_5_197 wt_5_198 wt_1_8 wt_5_199 ⟨by decide, by decide, by decide +kernel⟩ rfl ⟨Nat.le_of_ble_eq_true rfl, Nat.le_of_ble_eq_true rfl⟩ (Nat.le_of_ble_eq_true rfl) rfl ?_
        refine mv_icmp_eq (pc := 926) (tgt := 1112) de_LW_law_926 (by decide) h923 (fun hc926 h926 => ?_) (fun hc926 h926 => ?_)
        · exact mv_sub [0, 1, 2, 3] rfl (tb_LW_law_1112 l D E B sa M0 M1 b1 b2 QQ hb hend N (jb_LW_law_18 N sa n) ih Mm923 v1 v2 v3 h926)
        · refine mv_iconst (pc := 929) (v := 0) de_LW_law_929 (by decide) ?_
          exact mv_lawend hb hend de_LW_law_930 h926
      rw [if_neg hs33_20] at h29
      by_cases hs33_21 : (x29 &&& 31) = 21
      · rw [if_pos hs33_21] at h29
        refine mv_tin (pc := 33) (tgt := 931) (off := 898) 21 de_LW_law_33 hs33_21 (by decide) (by decide) ?_
        refine mv_aload_n (pc := 931) (i := 1) de_LW_law_931 rfl 1 rfl ?_
        refine mv_aload_n (pc := 932) (i := 0) de_LW_law_932 rfl 0 rfl ?_
        refine mv_iload_n (pc := 933) (i := 3) de_LW_law_933 rfl 3 rfl ?_
        refine mv_iconst (pc := 934) (v := 1) de_LW_law_934 (by decide) ?_
        refine mv_iadd (pc := 935) de_LW_law_935 ?_
        refine mv_sald (pc := 936) (sm_1 l D E B sa) de_LW_law_936 h29 (fun x936 e936 h936 => ?_)
        refine mv_i2l (pc := 937) de_LW_law_937 ?_
        refine mv_bipush (pc := 938) (v := 32) de_LW_law_938 (by decide) ?_
        refine mv_lshl (pc := 940) de_LW_law_940 ?_
        refine mv_aload_n (pc := 941) (i := 0) de_LW_law_941 rfl 0 rfl ?_
        refine mv_iload_n (pc := 942) (i := 3) de_LW_law_942 rfl 3 rfl ?_
        refine mv_iconst (pc := 943) (v := 2) de_LW_law_943 (by decide) ?_
        refine mv_iadd (pc := 944) de_LW_law_944 ?_
        refine mv_sald (pc := 945) (sm_1 l D E B sa) de_LW_law_945 h936 (fun x945 e945 h945 => ?_)
        refine mv_i2l (pc := 946) de_LW_law_946 ?_
        refine mv_ldc2 (pc := 947) de_LW_law_947 wt_5_239 ?_
        refine mv_land (pc := 950) de_LW_law_950 ?_
        refine mv_lor (pc := 951) de_LW_law_951 ?_
        refine mv_aload_n (pc := 952) (i := 0) de_LW_law_952 rfl 0 rfl ?_
        refine mv_iload_n (pc := 953) (i := 3) de_LW_law_953 rfl 3 rfl ?_
        refine mv_iconst (pc := 954) (v := 3) de_LW_law_954 (by decide) ?_
        refine mv_iadd (pc := 955) de_LW_law_955 ?_
        refine mv_sald (pc := 956) (sm_1 l D E B sa) de_LW_law_956 h945 (fun x956 e956 h956 => ?_)
        obtain ⟨hi957, h957o⟩ := mj_obE h956
        obtain ⟨r957, Mm957, hz957, h957⟩ := mj_callE h957o
        refine mv_callV (pc := 957) (n := 2) (av := [.long ((x936.toInt64 <<< ((32 : Int32).toInt64 &&& 63)) ||| (x945.toInt64 &&& 4294967295)), .int x956]) (rest := []) de_LW_law_957 (kc_0 l D E B sa) hi957 (cm_PL_feed l D E B sa N M v1 ((x936.toInt64 <<< ((32 : Int32).toInt64 &&& 63)) ||| (x945.toInt64 &&& 4294967295)) x956 _ _ hz957) wt_3_233 wt_3_234 wt_3_235 wt_1_1 wt_3_236 ⟨by decide, by decide, by decide +kernel⟩ rfl ⟨Nat.le_of_ble_eq_true rfl, Nat.le_of_ble_eq_true rfl⟩ (Nat.le_of_ble_eq_true rfl) rfl ?_
        refine mv_aload_n (pc := 960) (i := 2) de_LW_law_960 rfl 2 rfl ?_
        refine mv_aload_n (pc := 961) (i := 0) de_LW_law_961 rfl 0 rfl ?_
        refine mv_iload_n (pc := 962) (i := 3) de_LW_law_962 rfl 3 rfl ?_
        refine mv_iconst (pc := 963) (v := 1) de_LW_law_963 (by decide) ?_
        refine mv_iadd (pc := 964) de_LW_law_964 ?_
        refine mv_sald (pc := 965) (sm_1 l D E B sa) de_LW_law_965 h957 (fun x965 e965 h965 => ?_)
        refine mv_i2l (pc := 966) de_LW_law_966 ?_
        refine mv_bipush (pc := 967) (v := 32) de_LW_law_967 (by decide) ?_
        refine mv_lshl (pc := 969) de_LW_law_969 ?_
        refine mv_aload_n (pc := 970) (i := 0) de_LW_law_970 rfl 0 rfl ?_
        refine mv_iload_n (pc := 971) (i := 3) de_LW_law_971 rfl 3 rfl ?_
        refine mv_iconst (pc := 972) (v := 2) de_LW_law_972 (by decide) ?_
        refine mv_iadd (pc := 973) de_LW_law_973 ?_
        refine mv_sald (pc := 974) (sm_1 l D E B sa) de_LW_law_974 h965 (fun x974 e974 h974 => ?_)
        refine mv_i2l (pc := 975) de_LW_law_975 ?_
        refine mv_ldc2 (pc := 976) de_LW_law_976 wt_5_239 ?_
        refine mv_land (pc := 979) de_LW_law_979 ?_
        refine mv_lor (pc := 980) de_LW_law_980 ?_
        refine mv_aload_n (pc := 981) (i := 0) de_LW_law_981 rfl 0 rfl ?_
        refine mv_iload_n (pc := 982) (i := 3) de_LW_law_982 rfl 3 rfl ?_
        refine mv_iconst (pc := 983) (v := 3) de_LW_law_983 (by decide) ?_
        refine mv_iadd (pc := 984) de_LW_law_984 ?_
        refine mv_sald (pc := 985) (sm_1 l D E B sa) de_LW_law_985 h974 (fun x985 e985 h985 => ?_)
        obtain ⟨hi986, h986o⟩ := mj_obE h985
        obtain ⟨r986, Mm986, hz986, h986⟩ := mj_callE h986o
        refine mv_callV (pc := 986) (n := 2) (av := [.long ((x965.toInt64 <<< ((32 : Int32).toInt64 &&& 63)) ||| (x974.toInt64 &&& 4294967295)), .int x985]) (rest := [.int r957]) de_LW_law_986 (kc_1 l D E B sa) hi986 (cm_PM_feed l D E B sa N Mm957 v2 ((x965.toInt64 <<< ((32 : Int32).toInt64 &&& 63)) ||| (x974.toInt64 &&& 4294967295)) x985 _ _ hz986) wt_5_200 wt_5_201 wt_5_202 wt_1_8 wt_5_203 ⟨by decide, by decide, by decide +kernel⟩ rfl ⟨Nat.le_of_ble_eq_true rfl, Nat.le_of_ble_eq_true rfl⟩ (Nat.le_of_ble_eq_true rfl) rfl ?_
        refine mv_icmp_eq (pc := 989) (tgt := 1112) de_LW_law_989 (by decide) h986 (fun hc989 h989 => ?_) (fun hc989 h989 => ?_)
        · exact mv_sub [0, 1, 2, 3] rfl (tb_LW_law_1112 l D E B sa M0 M1 b1 b2 QQ hb hend N (jb_LW_law_18 N sa n) ih Mm986 v1 v2 v3 h989)
        · refine mv_iconst (pc := 992) (v := 0) de_LW_law_992 (by decide) ?_
          exact mv_lawend hb hend de_LW_law_993 h989
      rw [if_neg hs33_21] at h29
      by_cases hs33_22 : (x29 &&& 31) = 22
      · rw [if_pos hs33_22] at h29
        refine mv_tin (pc := 33) (tgt := 994) (off := 961) 22 de_LW_law_33 hs33_22 (by decide) (by decide) ?_
        refine mv_aload_n (pc := 994) (i := 1) de_LW_law_994 rfl 1 rfl ?_
        obtain ⟨hi995, h995o⟩ := mj_obE h29
        obtain ⟨r995, Mm995, hz995, h995⟩ := mj_callE h995o
        refine mv_callV (pc := 995) (n := 0) (av := []) (rest := []) de_LW_law_995 (kc_0 l D E B sa) hi995 (cm_PL_empty l D E B sa N M v1 _ _ hz995) wt_4_5 wt_4_6 wt_4_7 wt_1_1 wt_4_8 ⟨by decide, by decide, by decide +kernel⟩ rfl ⟨Nat.le_of_ble_eq_true rfl, Nat.le_of_ble_eq_true rfl⟩ (Nat.le_of_ble_eq_true rfl) rfl ?_
        refine mv_aload_n (pc := 998) (i := 2) de_LW_law_998 rfl 2 rfl ?_
        obtain ⟨hi999, h999o⟩ := mj_obE h995
        obtain ⟨r999, Mm999, hz999, h999⟩ := mj_callE h999o
        refine mv_callV (pc := 999) (n := 0) (av := []) (rest := [.int r995]) de_LW_law_999 (kc_1 l D E B sa) hi999 (cm_PM_empty l D E B sa N Mm995 v2 _ _ hz999) wt_5_207 wt_5_208 wt_5_209 wt_1_8 wt_5_210 ⟨by decide, by decide, by decide +kernel⟩ rfl ⟨Nat.le_of_ble_eq_true rfl, Nat.le_of_ble_eq_true rfl⟩ (Nat.le_of_ble_eq_true rfl) rfl ?_
        refine mv_icmp_eq (pc := 1002) (tgt := 1112) de_LW_law_1002 (by decide) h999 (fun hc1002 h1002 => ?_) (fun hc1002 h1002 => ?_)
        · exact mv_sub [0, 1, 2, 3] rfl (tb_LW_law_1112 l D E B sa M0 M1 b1 b2 QQ hb hend N (jb_LW_law_18 N sa n) ih Mm999 v1 v2 v3 h1002)
        · refine mv_iconst (pc := 1005) (v := 0) de_LW_law_1005 (by decide) ?_
          exact mv_lawend hb hend de_LW_law_1006 h1002
      rw [if_neg hs33_22] at h29
      by_cases hs33_23 : (x29 &&& 31) = 23
      · rw [if_pos hs33_23] at h29
        refine mv_tin (pc := 33) (tgt := 1007) (off := 974) 23 de_LW_law_33 hs33_23 (by decide) (by decide) ?_
        refine mv_aload_n (pc := 1007) (i := 1) de_LW_law_1007 rfl 1 rfl ?_
        obtain ⟨hi1008, h1008o⟩ := mj_obE h29
        obtain ⟨r1008, Mm1008, hz1008, h1008⟩ := mj_callE h1008o
        refine mv_callV (pc := 1008) (n := 0) (av := []) (rest := []) de_LW_law_1008 (kc_0 l D E B sa) hi1008 (cm_PL_merge l D E B sa N M v1 _ _ hz1008) wt_4_13 wt_4_14 wt_4_15 wt_1_1 wt_4_16 ⟨by decide, by decide, by decide +kernel⟩ rfl ⟨Nat.le_of_ble_eq_true rfl, Nat.le_of_ble_eq_true rfl⟩ (Nat.le_of_ble_eq_true rfl) rfl ?_
        refine mv_aload_n (pc := 1011) (i := 2) de_LW_law_1011 rfl 2 rfl ?_
        obtain ⟨hi1012, h1012o⟩ := mj_obE h1008
        obtain ⟨r1012, Mm1012, hz1012, h1012⟩ := mj_callE h1012o
        refine mv_callV (pc := 1012) (n := 0) (av := []) (rest := [.int r1008]) de_LW_law_1012 (kc_1 l D E B sa) hi1012 (cm_PM_merge l D E B sa N Mm1008 v2 _ _ hz1012) wt_5_211 wt_5_212 wt_5_213 wt_1_8 wt_5_214 ⟨by decide, by decide, by decide +kernel⟩ rfl ⟨Nat.le_of_ble_eq_true rfl, Nat.le_of_ble_eq_true rfl⟩ (Nat.le_of_ble_eq_true rfl) rfl ?_
        refine mv_icmp_eq (pc := 1015) (tgt := 1112) de_LW_law_1015 (by decide) h1012 (fun hc1015 h1015 => ?_) (fun hc1015 h1015 => ?_)
        · exact mv_sub [0, 1, 2, 3] rfl (tb_LW_law_1112 l D E B sa M0 M1 b1 b2 QQ hb hend N (jb_LW_law_18 N sa n) ih Mm1012 v1 v2 v3 h1015)
        · refine mv_iconst (pc := 1018) (v := 0) de_LW_law_1018 (by decide) ?_
          exact mv_lawend hb hend de_LW_law_1019 h1015
      rw [if_neg hs33_23] at h29
      by_cases hs33_24 : (x29 &&& 31) = 24
      · rw [if_pos hs33_24] at h29
        refine mv_tin (pc := 33) (tgt := 1020) (off := 987) 24 de_LW_law_33 hs33_24 (by decide) (by decide) ?_
        refine mv_aload_n (pc := 1020) (i := 1) de_LW_law_1020 rfl 1 rfl ?_
        refine mv_aload_n (pc := 1021) (i := 0) de_LW_law_1021 rfl 0 rfl ?_
        refine mv_iload_n (pc := 1022) (i := 3) de_LW_law_1022 rfl 3 rfl ?_
        refine mv_iconst (pc := 1023) (v := 1) de_LW_law_1023 (by decide) ?_
        refine mv_iadd (pc := 1024) de_LW_law_1024 ?_
        refine mv_sald (pc := 1025) (sm_1 l D E B sa) de_LW_law_1025 h29 (fun x1025 e1025 h1025 => ?_)
        refine mv_aload_n (pc := 1026) (i := 0) de_LW_law_1026 rfl 0 rfl ?_
        refine mv_iload_n (pc := 1027) (i := 3) de_LW_law_1027 rfl 3 rfl ?_
        refine mv_iconst (pc := 1028) (v := 2) de_LW_law_1028 (by decide) ?_
        refine mv_iadd (pc := 1029) de_LW_law_1029 ?_
        refine mv_sald (pc := 1030) (sm_1 l D E B sa) de_LW_law_1030 h1025 (fun x1030 e1030 h1030 => ?_)
        obtain ⟨hi1031, h1031o⟩ := mj_obE h1030
        obtain ⟨r1031, Mm1031, hz1031, h1031⟩ := mj_callE h1031o
        refine mv_callV (pc := 1031) (n := 2) (av := [.int x1025, .int x1030]) (rest := []) de_LW_law_1031 (kc_0 l D E B sa) hi1031 (cm_PL_merged l D E B sa N M v1 x1025 x1030 _ _ hz1031) wt_4_41 wt_4_42 wt_4_43 wt_1_1 wt_4_44 ⟨by decide, by decide, by decide +kernel⟩ rfl ⟨Nat.le_of_ble_eq_true rfl, Nat.le_of_ble_eq_true rfl⟩ (Nat.le_of_ble_eq_true rfl) rfl ?_
        refine mv_aload_n (pc := 1034) (i := 2) de_LW_law_1034 rfl 2 rfl ?_
        refine mv_aload_n (pc := 1035) (i := 0) de_LW_law_1035 rfl 0 rfl ?_
        refine mv_iload_n (pc := 1036) (i := 3) de_LW_law_1036 rfl 3 rfl ?_
        refine mv_iconst (pc := 1037) (v := 1) de_LW_law_1037 (by decide) ?_
        refine mv_iadd (pc := 1038) de_LW_law_1038 ?_
        refine mv_sald (pc := 1039) (sm_1 l D E B sa) de_LW_law_1039 h1031 (fun x1039 e1039 h1039 => ?_)
        refine mv_aload_n (pc := 1040) (i := 0) de_LW_law_1040 rfl 0 rfl ?_
        refine mv_iload_n (pc := 1041) (i := 3) de_LW_law_1041 rfl 3 rfl ?_
        refine mv_iconst (pc := 1042) (v := 2) de_LW_law_1042 (by decide) ?_
        refine mv_iadd (pc := 1043) de_LW_law_1043 ?_
        refine mv_sald (pc := 1044) (sm_1 l D E B sa) de_LW_law_1044 h1039 (fun x1044 e1044 h1044 => ?_)
        obtain ⟨hi1045, h1045o⟩ := mj_obE h1044
        obtain ⟨r1045, Mm1045, hz1045, h1045⟩ := mj_callE h1045o
        refine mv_callV (pc := 1045) (n := 2) (av := [.int x1039, .int x1044]) (rest := [.int r1031]) de_LW_law_1045 (kc_1 l D E B sa) hi1045 (cm_PM_merged l D E B sa N Mm1031 v2 x1039 x1044 _ _ hz1045) wt_5_223 wt_5_224 wt_5_225 wt_1_8 wt_5_226 ⟨by decide, by decide, by decide +kernel⟩ rfl ⟨Nat.le_of_ble_eq_true rfl, Nat.le_of_ble_eq_true rfl⟩ (Nat.le_of_ble_eq_true rfl) rfl ?_
        refine mv_icmp_eq (pc := 1048) (tgt := 1112) de_LW_law_1048 (by decide) h1045 (fun hc1048 h1048 => ?_) (fun hc1048 h1048 => ?_)
        · exact mv_sub [0, 1, 2, 3] rfl (tb_LW_law_1112 l D E B sa M0 M1 b1 b2 QQ hb hend N (jb_LW_law_18 N sa n) ih Mm1045 v1 v2 v3 h1048)
        · refine mv_iconst (pc := 1051) (v := 0) de_LW_law_1051 (by decide) ?_
          exact mv_lawend hb hend de_LW_law_1052 h1048
      rw [if_neg hs33_24] at h29
      by_cases hs33_25 : (x29 &&& 31) = 25
      · rw [if_pos hs33_25] at h29
        refine mv_tin (pc := 33) (tgt := 1053) (off := 1020) 25 de_LW_law_33 hs33_25 (by decide) (by decide) ?_
        refine mv_aload_n (pc := 1053) (i := 1) de_LW_law_1053 rfl 1 rfl ?_
        obtain ⟨hi1054, h1054o⟩ := mj_obE h29
        obtain ⟨r1054, Mm1054, hz1054, h1054⟩ := mj_callE h1054o
        refine mv_callV (pc := 1054) (n := 0) (av := []) (rest := []) de_LW_law_1054 (kc_0 l D E B sa) hi1054 (cm_PL_encode l D E B sa N M v1 _ _ hz1054) wt_4_49 wt_4_50 wt_4_51 wt_1_1 wt_4_52 ⟨by decide, by decide, by decide +kernel⟩ rfl ⟨Nat.le_of_ble_eq_true rfl, Nat.le_of_ble_eq_true rfl⟩ (Nat.le_of_ble_eq_true rfl) rfl ?_
        refine mv_aload_n (pc := 1057) (i := 2) de_LW_law_1057 rfl 2 rfl ?_
        obtain ⟨hi1058, h1058o⟩ := mj_obE h1054
        obtain ⟨r1058, Mm1058, hz1058, h1058⟩ := mj_callE h1058o
        refine mv_callV (pc := 1058) (n := 0) (av := []) (rest := [.int r1054]) de_LW_law_1058 (kc_1 l D E B sa) hi1058 (cm_PM_encode l D E B sa N Mm1054 v2 _ _ hz1058) wt_5_227 wt_5_228 wt_5_229 wt_1_8 wt_5_230 ⟨by decide, by decide, by decide +kernel⟩ rfl ⟨Nat.le_of_ble_eq_true rfl, Nat.le_of_ble_eq_true rfl⟩ (Nat.le_of_ble_eq_true rfl) rfl ?_
        refine mv_icmp_eq (pc := 1061) (tgt := 1112) de_LW_law_1061 (by decide) h1058 (fun hc1061 h1061 => ?_) (fun hc1061 h1061 => ?_)
        · exact mv_sub [0, 1, 2, 3] rfl (tb_LW_law_1112 l D E B sa M0 M1 b1 b2 QQ hb hend N (jb_LW_law_18 N sa n) ih Mm1058 v1 v2 v3 h1061)
        · refine mv_iconst (pc := 1064) (v := 0) de_LW_law_1064 (by decide) ?_
          exact mv_lawend hb hend de_LW_law_1065 h1061
      rw [if_neg hs33_25] at h29
      by_cases hs33_26 : (x29 &&& 31) = 26
      · rw [if_pos hs33_26] at h29
        refine mv_tin (pc := 33) (tgt := 1066) (off := 1033) 26 de_LW_law_33 hs33_26 (by decide) (by decide) ?_
        refine mv_aload_n (pc := 1066) (i := 1) de_LW_law_1066 rfl 1 rfl ?_
        refine mv_aload_n (pc := 1067) (i := 0) de_LW_law_1067 rfl 0 rfl ?_
        refine mv_iload_n (pc := 1068) (i := 3) de_LW_law_1068 rfl 3 rfl ?_
        refine mv_iconst (pc := 1069) (v := 1) de_LW_law_1069 (by decide) ?_
        refine mv_iadd (pc := 1070) de_LW_law_1070 ?_
        refine mv_sald (pc := 1071) (sm_1 l D E B sa) de_LW_law_1071 h29 (fun x1071 e1071 h1071 => ?_)
        obtain ⟨hi1072, h1072o⟩ := mj_obE h1071
        obtain ⟨r1072, Mm1072, hz1072, h1072⟩ := mj_callE h1072o
        refine mv_callV (pc := 1072) (n := 1) (av := [.int x1071]) (rest := []) de_LW_law_1072 (kc_0 l D E B sa) hi1072 (cm_PL_token l D E B sa N M v1 x1071 _ _ hz1072) wt_4_57 wt_4_58 wt_4_59 wt_1_1 wt_4_60 ⟨by decide, by decide, by decide +kernel⟩ rfl ⟨Nat.le_of_ble_eq_true rfl, Nat.le_of_ble_eq_true rfl⟩ (Nat.le_of_ble_eq_true rfl) rfl ?_
        refine mv_aload_n (pc := 1075) (i := 2) de_LW_law_1075 rfl 2 rfl ?_
        refine mv_aload_n (pc := 1076) (i := 0) de_LW_law_1076 rfl 0 rfl ?_
        refine mv_iload_n (pc := 1077) (i := 3) de_LW_law_1077 rfl 3 rfl ?_
        refine mv_iconst (pc := 1078) (v := 1) de_LW_law_1078 (by decide) ?_
        refine mv_iadd (pc := 1079) de_LW_law_1079 ?_
        refine mv_sald (pc := 1080) (sm_1 l D E B sa) de_LW_law_1080 h1072 (fun x1080 e1080 h1080 => ?_)
        obtain ⟨hi1081, h1081o⟩ := mj_obE h1080
        obtain ⟨r1081, Mm1081, hz1081, h1081⟩ := mj_callE h1081o
        refine mv_callV (pc := 1081) (n := 1) (av := [.int x1080]) (rest := [.int r1072]) de_LW_law_1081 (kc_1 l D E B sa) hi1081 (cm_PM_token l D E B sa N Mm1072 v2 x1080 _ _ hz1081) wt_5_231 wt_5_232 wt_5_233 wt_1_8 wt_5_234 ⟨by decide, by decide, by decide +kernel⟩ rfl ⟨Nat.le_of_ble_eq_true rfl, Nat.le_of_ble_eq_true rfl⟩ (Nat.le_of_ble_eq_true rfl) rfl ?_
        refine mv_icmp_eq (pc := 1084) (tgt := 1112) de_LW_law_1084 (by decide) h1081 (fun hc1084 h1084 => ?_) (fun hc1084 h1084 => ?_)
        · exact mv_sub [0, 1, 2, 3] rfl (tb_LW_law_1112 l D E B sa M0 M1 b1 b2 QQ hb hend N (jb_LW_law_18 N sa n) ih Mm1081 v1 v2 v3 h1084)
        · refine mv_iconst (pc := 1087) (v := 0) de_LW_law_1087 (by decide) ?_
          exact mv_lawend hb hend de_LW_law_1088 h1084
      rw [if_neg hs33_26] at h29
      by_cases hs33_27 : (x29 &&& 31) = 27
      · rw [if_pos hs33_27] at h29
        refine mv_tin (pc := 33) (tgt := 1089) (off := 1056) 27 de_LW_law_33 hs33_27 (by decide) (by decide) ?_
        refine mv_aload_n (pc := 1089) (i := 1) de_LW_law_1089 rfl 1 rfl ?_
        refine mv_aload_n (pc := 1090) (i := 0) de_LW_law_1090 rfl 0 rfl ?_
        refine mv_iload_n (pc := 1091) (i := 3) de_LW_law_1091 rfl 3 rfl ?_
        refine mv_iconst (pc := 1092) (v := 1) de_LW_law_1092 (by decide) ?_
        refine mv_iadd (pc := 1093) de_LW_law_1093 ?_
        refine mv_sald (pc := 1094) (sm_1 l D E B sa) de_LW_law_1094 h29 (fun x1094 e1094 h1094 => ?_)
        obtain ⟨hi1095, h1095o⟩ := mj_obE h1094
        obtain ⟨r1095, Mm1095, hz1095, h1095⟩ := mj_callE h1095o
        refine mv_callV (pc := 1095) (n := 1) (av := [.int x1094]) (rest := []) de_LW_law_1095 (kc_0 l D E B sa) hi1095 (cm_PL_count l D E B sa N M v1 x1094 _ _ hz1095) wt_4_65 wt_4_66 wt_4_67 wt_1_1 wt_4_68 ⟨by decide, by decide, by decide +kernel⟩ rfl ⟨Nat.le_of_ble_eq_true rfl, Nat.le_of_ble_eq_true rfl⟩ (Nat.le_of_ble_eq_true rfl) rfl ?_
        refine mv_aload_n (pc := 1098) (i := 2) de_LW_law_1098 rfl 2 rfl ?_
        refine mv_aload_n (pc := 1099) (i := 0) de_LW_law_1099 rfl 0 rfl ?_
        refine mv_iload_n (pc := 1100) (i := 3) de_LW_law_1100 rfl 3 rfl ?_
        refine mv_iconst (pc := 1101) (v := 1) de_LW_law_1101 (by decide) ?_
        refine mv_iadd (pc := 1102) de_LW_law_1102 ?_
        refine mv_sald (pc := 1103) (sm_1 l D E B sa) de_LW_law_1103 h1095 (fun x1103 e1103 h1103 => ?_)
        obtain ⟨hi1104, h1104o⟩ := mj_obE h1103
        obtain ⟨r1104, Mm1104, hz1104, h1104⟩ := mj_callE h1104o
        refine mv_callV (pc := 1104) (n := 1) (av := [.int x1103]) (rest := [.int r1095]) de_LW_law_1104 (kc_1 l D E B sa) hi1104 (cm_PM_count l D E B sa N Mm1095 v2 x1103 _ _ hz1104) wt_5_235 wt_5_236 wt_5_237 wt_1_8 wt_5_238 ⟨by decide, by decide, by decide +kernel⟩ rfl ⟨Nat.le_of_ble_eq_true rfl, Nat.le_of_ble_eq_true rfl⟩ (Nat.le_of_ble_eq_true rfl) rfl ?_
        refine mv_icmp_eq (pc := 1107) (tgt := 1112) de_LW_law_1107 (by decide) h1104 (fun hc1107 h1107 => ?_) (fun hc1107 h1107 => ?_)
        · exact mv_sub [0, 1, 2, 3] rfl (tb_LW_law_1112 l D E B sa M0 M1 b1 b2 QQ hb hend N (jb_LW_law_18 N sa n) ih Mm1104 v1 v2 v3 h1107)
        · refine mv_iconst (pc := 1110) (v := 0) de_LW_law_1110 (by decide) ?_
          exact mv_lawend hb hend de_LW_law_1111 h1107
      rw [if_neg hs33_27] at h29
      have qhs33_0 := lv_neT (a := 0) hs33_0 (by decide)
      have qhs33_1 := lv_neT (a := 1) hs33_1 (by decide)
      have qhs33_2 := lv_neT (a := 2) hs33_2 (by decide)
      have qhs33_3 := lv_neT (a := 3) hs33_3 (by decide)
      have qhs33_4 := lv_neT (a := 4) hs33_4 (by decide)
      have qhs33_5 := lv_neT (a := 5) hs33_5 (by decide)
      have qhs33_6 := lv_neT (a := 6) hs33_6 (by decide)
      have qhs33_7 := lv_neT (a := 7) hs33_7 (by decide)
      have qhs33_8 := lv_neT (a := 8) hs33_8 (by decide)
      have qhs33_9 := lv_neT (a := 9) hs33_9 (by decide)
      have qhs33_10 := lv_neT (a := 10) hs33_10 (by decide)
      have qhs33_11 := lv_neT (a := 11) hs33_11 (by decide)
      have qhs33_12 := lv_neT (a := 12) hs33_12 (by decide)
      have qhs33_13 := lv_neT (a := 13) hs33_13 (by decide)
      have qhs33_14 := lv_neT (a := 14) hs33_14 (by decide)
      have qhs33_15 := lv_neT (a := 15) hs33_15 (by decide)
      have qhs33_16 := lv_neT (a := 16) hs33_16 (by decide)
      have qhs33_17 := lv_neT (a := 17) hs33_17 (by decide)
      have qhs33_18 := lv_neT (a := 18) hs33_18 (by decide)
      have qhs33_19 := lv_neT (a := 19) hs33_19 (by decide)
      have qhs33_20 := lv_neT (a := 20) hs33_20 (by decide)
      have qhs33_21 := lv_neT (a := 21) hs33_21 (by decide)
      have qhs33_22 := lv_neT (a := 22) hs33_22 (by decide)
      have qhs33_23 := lv_neT (a := 23) hs33_23 (by decide)
      have qhs33_24 := lv_neT (a := 24) hs33_24 (by decide)
      have qhs33_25 := lv_neT (a := 25) hs33_25 (by decide)
      have qhs33_26 := lv_neT (a := 26) hs33_26 (by decide)
      have qhs33_27 := lv_neT (a := 27) hs33_27 (by decide)
      refine mv_tout (pc := 33) (tgt := 1112) de_LW_law_33 (by omega) (by decide) ?_
      exact mv_sub [0, 1, 2, 3] rfl (tb_LW_law_1112 l D E B sa M0 M1 b1 b2 QQ hb hend N (jb_LW_law_18 N sa n) ih M v1 v2 v3 h29)
set_option maxHeartbeats 4000000 in
set_option maxRecDepth 100000 in
theorem tb_LW_law_0 (l : Launch) (D : va_G) (E : Nat → ClassId) (B : Nat) (sa : (Nat → Nat) × Nat × (Nat → Int32)) (M0 M1 : mv_M) (b1 b2 : Nat) (QQ : List Frame → Array Value → State → State → Prop) (hb : M1.1 ≤ b1 ∧ M1.2.1 ≤ b2) (hend : ∀ (M : mv_M) (pc : Nat) (lv : List (Nat × Value)), M.1 ≤ b1 → M.2.1 ≤ b2 → decode code pc = .ok (.ireturn, 1) → mv_H (xg l D E B sa) kd_LW_law M0 b1 b2 QQ M pc lv [.int 1]) (N : Nat) (M : mv_M) (hJ : jb_LW_law_0 N sa M = some (1, M1)) : mv_H (xg l D E B sa) kd_LW_law M0 b1 b2 QQ M 0 [(0, va_rf (some (sa.1 1)))] [] := by
  unfold jb_LW_law_0 at hJ
  refine mv_nw (pc := 0) (kc_0 l D E B sa) wt_1_17 wt_1_18 wt_1_1 (kn_0) de_LW_law_0 hJ (fun q0 Mm0 eq0 eM0 h0 => ?_)
  refine mv_dup (pc := 3) de_LW_law_3 rfl ?_
  obtain ⟨r4, Mm4, hz4, h4⟩ := mj_callE h0
  refine mv_callI (pc := 4) (n := 0) (av := []) (rest := [va_rf (some q0)]) de_LW_law_4 (cm_PL_init l D E B sa N Mm0 q0 _ _ hz4) wt_1_19 wt_1_20 wt_1_1 wt_1_21 rfl ⟨by decide, by decide, by decide +kernel⟩ rfl ⟨Nat.le_of_ble_eq_true rfl, Nat.le_of_ble_eq_true rfl⟩ (Nat.le_of_ble_eq_true rfl) rfl ?_
  refine mv_astore_n (pc := 7) (i := 1) (lv' := [(1, va_rf (some q0)), (0, va_rf (some (sa.1 1)))]) de_LW_law_7 rfl (Nat.le_of_ble_eq_true rfl) rfl ?_
  refine mv_nw (pc := 8) (kc_1 l D E B sa) wt_4_73 wt_4_74 wt_1_8 (kn_1) de_LW_law_8 h4 (fun q8 Mm8 eq8 eM8 h8 => ?_)
  refine mv_dup (pc := 11) de_LW_law_11 rfl ?_
  obtain ⟨r12, Mm12, hz12, h12⟩ := mj_callE h8
  refine mv_callI (pc := 12) (n := 0) (av := []) (rest := [va_rf (some q8)]) de_LW_law_12 (cm_PM_init l D E B sa N Mm8 q8 _ _ hz12) wt_4_75 wt_4_76 wt_1_8 wt_4_77 rfl ⟨by decide, by decide, by decide +kernel⟩ rfl ⟨Nat.le_of_ble_eq_true rfl, Nat.le_of_ble_eq_true rfl⟩ (Nat.le_of_ble_eq_true rfl) rfl ?_
  refine mv_astore_n (pc := 15) (i := 2) (lv' := [(2, va_rf (some q8)), (1, va_rf (some q0)), (0, va_rf (some (sa.1 1)))]) de_LW_law_15 rfl (Nat.le_of_ble_eq_true rfl) rfl ?_
  refine mv_iconst (pc := 16) (v := 0) de_LW_law_16 (by decide) ?_
  refine mv_istore_n (pc := 17) (i := 3) (lv' := [(3, .int 0), (2, va_rf (some q8)), (1, va_rf (some q0)), (0, va_rf (some (sa.1 1)))]) de_LW_law_17 rfl (Nat.le_of_ble_eq_true rfl) rfl ?_
  exact mv_sub [3, 2, 1, 0] rfl (tb_LW_law_18 l D E B sa M0 M1 b1 b2 QQ hb hend N N Mm12 q0 q8 0 h12)
