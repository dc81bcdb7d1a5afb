/-! ===== PlainLearnerModel.train(II)I ===== -/
abbrev kd_PM_train : mv_Kd := (cd_PM_train, 11, "PlainLearnerModel", "train", (some .int), 6, 170)
theorem de_PM_train_0 : decode cd_PM_train 0 = .ok (.aload_n 0, 1) := by decide +kernel
theorem de_PM_train_1 : decode cd_PM_train 1 = .ok (.iload_n 1, 1) := by decide +kernel
theorem de_PM_train_2 : decode cd_PM_train 2 = .ok (.invokevirtual 107, 3) := by decide +kernel
theorem de_PM_train_5 : decode cd_PM_train 5 = .ok (.ifCond .eq 15, 3) := by decide +kernel
theorem de_PM_train_8 : decode cd_PM_train 8 = .ok (.iload_n 2, 1) := by decide +kernel
theorem de_PM_train_9 : decode cd_PM_train 9 = .ok (.i2l, 1) := by decide +kernel
theorem de_PM_train_10 : decode cd_PM_train 10 = .ok (.lconst 0, 1) := by decide +kernel
theorem de_PM_train_11 : decode cd_PM_train 11 = .ok (.ldc2_w 227, 3) := by decide +kernel
theorem de_PM_train_14 : decode cd_PM_train 14 = .ok (.invokestatic 99, 3) := by decide +kernel
theorem de_PM_train_17 : decode cd_PM_train 17 = .ok (.ifCond .ne 5, 3) := by decide +kernel
theorem de_PM_train_20 : decode cd_PM_train 20 = .ok (.iconst (-1), 1) := by decide +kernel
theorem de_PM_train_21 : decode cd_PM_train 21 = .ok (.ireturn, 1) := by decide +kernel
theorem de_PM_train_22 : decode cd_PM_train 22 = .ok (.aload_n 0, 1) := by decide +kernel
theorem de_PM_train_23 : decode cd_PM_train 23 = .ok (.getfield 19, 3) := by decide +kernel
theorem de_PM_train_26 : decode cd_PM_train 26 = .ok (.iload_n 1, 1) := by decide +kernel
theorem de_PM_train_27 : decode cd_PM_train 27 = .ok (.iaload, 1) := by decide +kernel
theorem de_PM_train_28 : decode cd_PM_train 28 = .ok (.ifCond .le 6, 3) := by decide +kernel
theorem de_PM_train_31 : decode cd_PM_train 31 = .ok (.bipush (-4), 2) := by decide +kernel
theorem de_PM_train_33 : decode cd_PM_train 33 = .ok (.ireturn, 1) := by decide +kernel
theorem de_PM_train_34 : decode cd_PM_train 34 = .ok (.iconst 0, 1) := by decide +kernel
theorem de_PM_train_35 : decode cd_PM_train 35 = .ok (.istore_n 3, 1) := by decide +kernel
theorem de_PM_train_36 : decode cd_PM_train 36 = .ok (.iload_n 3, 1) := by decide +kernel
theorem de_PM_train_37 : decode cd_PM_train 37 = .ok (.iload_n 2, 1) := by decide +kernel
theorem de_PM_train_38 : decode cd_PM_train 38 = .ok (.if_icmp .ge 183, 3) := by decide +kernel
theorem de_PM_train_41 : decode cd_PM_train 41 = .ok (.aload_n 0, 1) := by decide +kernel
theorem de_PM_train_42 : decode cd_PM_train 42 = .ok (.iload_n 1, 1) := by decide +kernel
theorem de_PM_train_43 : decode cd_PM_train 43 = .ok (.iconst (-1), 1) := by decide +kernel
theorem de_PM_train_44 : decode cd_PM_train 44 = .ok (.invokevirtual 212, 3) := by decide +kernel
theorem de_PM_train_47 : decode cd_PM_train 47 = .ok (.iconst 0, 1) := by decide +kernel
theorem de_PM_train_48 : decode cd_PM_train 48 = .ok (.istore 4, 2) := by decide +kernel
theorem de_PM_train_50 : decode cd_PM_train 50 = .ok (.iload 4, 2) := by decide +kernel
theorem de_PM_train_52 : decode cd_PM_train 52 = .ok (.aload_n 0, 1) := by decide +kernel
theorem de_PM_train_53 : decode cd_PM_train 53 = .ok (.getfield 95, 3) := by decide +kernel
theorem de_PM_train_56 : decode cd_PM_train 56 = .ok (.if_icmp .ge 159, 3) := by decide +kernel
theorem de_PM_train_59 : decode cd_PM_train 59 = .ok (.aload_n 0, 1) := by decide +kernel
theorem de_PM_train_60 : decode cd_PM_train 60 = .ok (.getfield 25, 3) := by decide +kernel
theorem de_PM_train_63 : decode cd_PM_train 63 = .ok (.iload 4, 2) := by decide +kernel
theorem de_PM_train_65 : decode cd_PM_train 65 = .ok (.baload, 1) := by decide +kernel
theorem de_PM_train_66 : decode cd_PM_train 66 = .ok (.ifCond .ne 6, 3) := by decide +kernel
theorem de_PM_train_69 : decode cd_PM_train 69 = .ok (.goto 140, 3) := by decide +kernel
theorem de_PM_train_72 : decode cd_PM_train 72 = .ok (.iconst 0, 1) := by decide +kernel
theorem de_PM_train_73 : decode cd_PM_train 73 = .ok (.istore 5, 2) := by decide +kernel
theorem de_PM_train_75 : decode cd_PM_train 75 = .ok (.iload 5, 2) := by decide +kernel
theorem de_PM_train_77 : decode cd_PM_train 77 = .ok (.aload_n 0, 1) := by decide +kernel
theorem de_PM_train_78 : decode cd_PM_train 78 = .ok (.iload 4, 2) := by decide +kernel
theorem de_PM_train_80 : decode cd_PM_train 80 = .ok (.invokevirtual 114, 3) := by decide +kernel
theorem de_PM_train_83 : decode cd_PM_train 83 = .ok (.if_icmp .ge 126, 3) := by decide +kernel
theorem de_PM_train_86 : decode cd_PM_train 86 = .ok (.bipush 64, 2) := by decide +kernel
theorem de_PM_train_88 : decode cd_PM_train 88 = .ok (.iload 4, 2) := by decide +kernel
theorem de_PM_train_90 : decode cd_PM_train 90 = .ok (.imul, 1) := by decide +kernel
theorem de_PM_train_91 : decode cd_PM_train 91 = .ok (.iload 5, 2) := by decide +kernel
theorem de_PM_train_93 : decode cd_PM_train 93 = .ok (.iadd, 1) := by decide +kernel
theorem de_PM_train_94 : decode cd_PM_train 94 = .ok (.istore 6, 2) := by decide +kernel
theorem de_PM_train_96 : decode cd_PM_train 96 = .ok (.iload 4, 2) := by decide +kernel
theorem de_PM_train_98 : decode cd_PM_train 98 = .ok (.iload_n 1, 1) := by decide +kernel
theorem de_PM_train_99 : decode cd_PM_train 99 = .ok (.if_icmp .gt 13, 3) := by decide +kernel
theorem de_PM_train_102 : decode cd_PM_train 102 = .ok (.aload_n 0, 1) := by decide +kernel
theorem de_PM_train_103 : decode cd_PM_train 103 = .ok (.getfield 39, 3) := by decide +kernel
theorem de_PM_train_106 : decode cd_PM_train 106 = .ok (.iload 6, 2) := by decide +kernel
theorem de_PM_train_108 : decode cd_PM_train 108 = .ok (.laload, 1) := by decide +kernel
theorem de_PM_train_109 : decode cd_PM_train 109 = .ok (.goto 4, 3) := by decide +kernel
theorem de_PM_train_112 : decode cd_PM_train 112 = .ok (.lconst 0, 1) := by decide +kernel
theorem de_PM_train_113 : decode cd_PM_train 113 = .ok (.lstore 7, 2) := by decide +kernel
theorem de_PM_train_115 : decode cd_PM_train 115 = .ok (.iload 4, 2) := by decide +kernel
theorem de_PM_train_117 : decode cd_PM_train 117 = .ok (.iload_n 1, 1) := by decide +kernel
theorem de_PM_train_118 : decode cd_PM_train 118 = .ok (.if_icmp .gt 13, 3) := by decide +kernel
theorem de_PM_train_121 : decode cd_PM_train 121 = .ok (.aload_n 0, 1) := by decide +kernel
theorem de_PM_train_122 : decode cd_PM_train 122 = .ok (.getfield 42, 3) := by decide +kernel
theorem de_PM_train_125 : decode cd_PM_train 125 = .ok (.iload 6, 2) := by decide +kernel
theorem de_PM_train_127 : decode cd_PM_train 127 = .ok (.laload, 1) := by decide +kernel
theorem de_PM_train_128 : decode cd_PM_train 128 = .ok (.goto 4, 3) := by decide +kernel
theorem de_PM_train_131 : decode cd_PM_train 131 = .ok (.lconst 1, 1) := by decide +kernel
theorem de_PM_train_132 : decode cd_PM_train 132 = .ok (.lstore 9, 2) := by decide +kernel
theorem de_PM_train_134 : decode cd_PM_train 134 = .ok (.aload_n 0, 1) := by decide +kernel
theorem de_PM_train_135 : decode cd_PM_train 135 = .ok (.aload_n 0, 1) := by decide +kernel
theorem de_PM_train_136 : decode cd_PM_train 136 = .ok (.getfield 72, 3) := by decide +kernel
theorem de_PM_train_139 : decode cd_PM_train 139 = .ok (.aload_n 0, 1) := by decide +kernel
theorem de_PM_train_140 : decode cd_PM_train 140 = .ok (.getfield 78, 3) := by decide +kernel
theorem de_PM_train_143 : decode cd_PM_train 143 = .ok (.lload 7, 2) := by decide +kernel
theorem de_PM_train_145 : decode cd_PM_train 145 = .ok (.lload 9, 2) := by decide +kernel
theorem de_PM_train_147 : decode cd_PM_train 147 = .ok (.invokevirtual 145, 3) := by decide +kernel
theorem de_PM_train_150 : decode cd_PM_train 150 = .ok (.aload_n 0, 1) := by decide +kernel
theorem de_PM_train_151 : decode cd_PM_train 151 = .ok (.aload_n 0, 1) := by decide +kernel
theorem de_PM_train_152 : decode cd_PM_train 152 = .ok (.getfield 29, 3) := by decide +kernel
theorem de_PM_train_155 : decode cd_PM_train 155 = .ok (.iload 6, 2) := by decide +kernel
theorem de_PM_train_157 : decode cd_PM_train 157 = .ok (.laload, 1) := by decide +kernel
theorem de_PM_train_158 : decode cd_PM_train 158 = .ok (.aload_n 0, 1) := by decide +kernel
theorem de_PM_train_159 : decode cd_PM_train 159 = .ok (.getfield 33, 3) := by decide +kernel
theorem de_PM_train_162 : decode cd_PM_train 162 = .ok (.iload 6, 2) := by decide +kernel
theorem de_PM_train_164 : decode cd_PM_train 164 = .ok (.laload, 1) := by decide +kernel
theorem de_PM_train_165 : decode cd_PM_train 165 = .ok (.aload_n 0, 1) := by decide +kernel
theorem de_PM_train_166 : decode cd_PM_train 166 = .ok (.getfield 81, 3) := by decide +kernel
theorem de_PM_train_169 : decode cd_PM_train 169 = .ok (.lneg, 1) := by decide +kernel
theorem de_PM_train_170 : decode cd_PM_train 170 = .ok (.aload_n 0, 1) := by decide +kernel
theorem de_PM_train_171 : decode cd_PM_train 171 = .ok (.getfield 84, 3) := by decide +kernel
theorem de_PM_train_174 : decode cd_PM_train 174 = .ok (.invokevirtual 141, 3) := by decide +kernel
theorem de_PM_train_177 : decode cd_PM_train 177 = .ok (.aload_n 0, 1) := by decide +kernel
theorem de_PM_train_178 : decode cd_PM_train 178 = .ok (.invokevirtual 229, 3) := by decide +kernel
theorem de_PM_train_181 : decode cd_PM_train 181 = .ok (.aload_n 0, 1) := by decide +kernel
theorem de_PM_train_182 : decode cd_PM_train 182 = .ok (.getfield 29, 3) := by decide +kernel
theorem de_PM_train_185 : decode cd_PM_train 185 = .ok (.iload 6, 2) := by decide +kernel
theorem de_PM_train_187 : decode cd_PM_train 187 = .ok (.aload_n 0, 1) := by decide +kernel
theorem de_PM_train_188 : decode cd_PM_train 188 = .ok (.getfield 81, 3) := by decide +kernel
theorem de_PM_train_191 : decode cd_PM_train 191 = .ok (.lastore, 1) := by decide +kernel
theorem de_PM_train_192 : decode cd_PM_train 192 = .ok (.aload_n 0, 1) := by decide +kernel
theorem de_PM_train_193 : decode cd_PM_train 193 = .ok (.getfield 33, 3) := by decide +kernel
theorem de_PM_train_196 : decode cd_PM_train 196 = .ok (.iload 6, 2) := by decide +kernel
theorem de_PM_train_198 : decode cd_PM_train 198 = .ok (.aload_n 0, 1) := by decide +kernel
theorem de_PM_train_199 : decode cd_PM_train 199 = .ok (.getfield 84, 3) := by decide +kernel
theorem de_PM_train_202 : decode cd_PM_train 202 = .ok (.lastore, 1) := by decide +kernel
theorem de_PM_train_203 : decode cd_PM_train 203 = .ok (.iinc 5 1, 3) := by decide +kernel
theorem de_PM_train_206 : decode cd_PM_train 206 = .ok (.goto (-131), 3) := by decide +kernel
theorem de_PM_train_209 : decode cd_PM_train 209 = .ok (.iinc 4 1, 3) := by decide +kernel
theorem de_PM_train_212 : decode cd_PM_train 212 = .ok (.goto (-162), 3) := by decide +kernel
theorem de_PM_train_215 : decode cd_PM_train 215 = .ok (.iinc 3 1, 3) := by decide +kernel
theorem de_PM_train_218 : decode cd_PM_train 218 = .ok (.goto (-182), 3) := by decide +kernel
theorem de_PM_train_221 : decode cd_PM_train 221 = .ok (.iconst 0, 1) := by decide +kernel
theorem de_PM_train_222 : decode cd_PM_train 222 = .ok (.istore_n 3, 1) := by decide +kernel
theorem de_PM_train_223 : decode cd_PM_train 223 = .ok (.iconst 0, 1) := by decide +kernel
theorem de_PM_train_224 : decode cd_PM_train 224 = .ok (.istore 4, 2) := by decide +kernel
theorem de_PM_train_226 : decode cd_PM_train 226 = .ok (.iload 4, 2) := by decide +kernel
theorem de_PM_train_228 : decode cd_PM_train 228 = .ok (.aload_n 0, 1) := by decide +kernel
theorem de_PM_train_229 : decode cd_PM_train 229 = .ok (.getfield 95, 3) := by decide +kernel
theorem de_PM_train_232 : decode cd_PM_train 232 = .ok (.if_icmp .ge 65, 3) := by decide +kernel
theorem de_PM_train_235 : decode cd_PM_train 235 = .ok (.iconst 0, 1) := by decide +kernel
theorem de_PM_train_236 : decode cd_PM_train 236 = .ok (.istore 5, 2) := by decide +kernel
theorem de_PM_train_238 : decode cd_PM_train 238 = .ok (.aload_n 0, 1) := by decide +kernel
theorem de_PM_train_239 : decode cd_PM_train 239 = .ok (.getfield 25, 3) := by decide +kernel
theorem de_PM_train_242 : decode cd_PM_train 242 = .ok (.iload 4, 2) := by decide +kernel
theorem de_PM_train_244 : decode cd_PM_train 244 = .ok (.baload, 1) := by decide +kernel
theorem de_PM_train_245 : decode cd_PM_train 245 = .ok (.ifCond .eq 46, 3) := by decide +kernel
theorem de_PM_train_248 : decode cd_PM_train 248 = .ok (.iload 5, 2) := by decide +kernel
theorem de_PM_train_250 : decode cd_PM_train 250 = .ok (.aload_n 0, 1) := by decide +kernel
theorem de_PM_train_251 : decode cd_PM_train 251 = .ok (.iload 4, 2) := by decide +kernel
theorem de_PM_train_253 : decode cd_PM_train 253 = .ok (.invokevirtual 114, 3) := by decide +kernel
theorem de_PM_train_256 : decode cd_PM_train 256 = .ok (.if_icmp .ge 35, 3) := by decide +kernel
theorem de_PM_train_259 : decode cd_PM_train 259 = .ok (.iload_n 3, 1) := by decide +kernel
theorem de_PM_train_260 : decode cd_PM_train 260 = .ok (.aload_n 0, 1) := by decide +kernel
theorem de_PM_train_261 : decode cd_PM_train 261 = .ok (.getfield 33, 3) := by decide +kernel
theorem de_PM_train_264 : decode cd_PM_train 264 = .ok (.bipush 64, 2) := by decide +kernel
theorem de_PM_train_266 : decode cd_PM_train 266 = .ok (.iload 4, 2) := by decide +kernel
theorem de_PM_train_268 : decode cd_PM_train 268 = .ok (.imul, 1) := by decide +kernel
theorem de_PM_train_269 : decode cd_PM_train 269 = .ok (.iload 5, 2) := by decide +kernel
theorem de_PM_train_271 : decode cd_PM_train 271 = .ok (.iadd, 1) := by decide +kernel
theorem de_PM_train_272 : decode cd_PM_train 272 = .ok (.laload, 1) := by decide +kernel
theorem de_PM_train_273 : decode cd_PM_train 273 = .ok (.lconst 0, 1) := by decide +kernel
theorem de_PM_train_274 : decode cd_PM_train 274 = .ok (.lcmp, 1) := by decide +kernel
theorem de_PM_train_275 : decode cd_PM_train 275 = .ok (.ifCond .ne 7, 3) := by decide +kernel
theorem de_PM_train_278 : decode cd_PM_train 278 = .ok (.iconst 1, 1) := by decide +kernel
theorem de_PM_train_279 : decode cd_PM_train 279 = .ok (.goto 4, 3) := by decide +kernel
theorem de_PM_train_282 : decode cd_PM_train 282 = .ok (.iconst 0, 1) := by decide +kernel
theorem de_PM_train_283 : decode cd_PM_train 283 = .ok (.iadd, 1) := by decide +kernel
theorem de_PM_train_284 : decode cd_PM_train 284 = .ok (.istore_n 3, 1) := by decide +kernel
theorem de_PM_train_285 : decode cd_PM_train 285 = .ok (.iinc 5 1, 3) := by decide +kernel
theorem de_PM_train_288 : decode cd_PM_train 288 = .ok (.goto (-50), 3) := by decide +kernel
theorem de_PM_train_291 : decode cd_PM_train 291 = .ok (.iinc 4 1, 3) := by decide +kernel
theorem de_PM_train_294 : decode cd_PM_train 294 = .ok (.goto (-68), 3) := by decide +kernel
theorem de_PM_train_297 : decode cd_PM_train 297 = .ok (.iload_n 3, 1) := by decide +kernel
theorem de_PM_train_298 : decode cd_PM_train 298 = .ok (.ireturn, 1) := by decide +kernel
def jb_PM_train_20 (N : Nat) (M : mv_M) : Option (Int32 × mv_M) :=
  some ((-1), M)
def jb_PM_train_291 (N : Nat) (k226 : mv_M → Nat → Int32 → Int32 → Option (Int32 × mv_M)) (M : mv_M) (v0 : Nat) (v3 : Int32) (v4 : Int32) : Option (Int32 × mv_M) :=
  k226 M v0 v3 (v4 + 1)
def jb_PM_train_283 (N : Nat) (k226 : mv_M → Nat → Int32 → Int32 → Option (Int32 × mv_M)) (k238 : mv_M → Nat → Int32 → Int32 → Int32 → Option (Int32 × mv_M)) (M : mv_M) (v0 : Nat) (v4 : Int32) (v5 : Int32) (s0 : Int32) (s1 : Int32) : Option (Int32 × mv_M) :=
  k238 M v0 (s0 + s1) v4 (v5 + 1)
def jb_PM_train_238 (N : Nat) (k226 : mv_M → Nat → Int32 → Int32 → Option (Int32 × mv_M)) : Nat → mv_M → Nat → Int32 → Int32 → Int32 → Option (Int32 × mv_M)
  | 0, _, _, _, _, _ => none
  | n + 1, M, v0, v3, v4, v5 =>
    Option.bind (mj_getR M v0 1 8) fun x239 =>
    Option.bind x239 fun a244 =>
    Option.bind (mj_ild M a244 2 v4) fun x244 =>
    if x244 = 0 then (jb_PM_train_291 N k226 M v0 v3 v4) else
    mj_ob M v0 1 <|
    mj_call (jf_PM_cells N M v0 v4) fun r253 Mm253 =>
    if r253 ≤ v5 then (jb_PM_train_291 N k226 Mm253 v0 v3 v4) else
    Option.bind (mj_getR Mm253 v0 1 10) fun x261 =>
    Option.bind x261 fun a272 =>
    Option.bind (mj_lld Mm253 a272 1 ((64 * v4) + v5)) fun x272 =>
    if (lg_cmp x272 0) = 0 then (jb_PM_train_283 N k226 (jb_PM_train_238 N k226 n) Mm253 v0 v4 v5 v3 1) else
    jb_PM_train_283 N k226 (jb_PM_train_238 N k226 n) Mm253 v0 v4 v5 v3 0
def jb_PM_train_226 (N : Nat) : Nat → mv_M → Nat → Int32 → Int32 → Option (Int32 × mv_M)
  | 0, _, _, _, _ => none
  | n + 1, M, v0, v3, v4 =>
    Option.bind (mj_getI M v0 1 2) fun x229 =>
    if x229 ≤ v4 then (some (v3, M)) else
    jb_PM_train_238 N (jb_PM_train_226 N n) N M v0 v3 v4 0
def jb_PM_train_209 (N : Nat) (k36 : mv_M → Nat → Int32 → Int32 → Int32 → Option (Int32 × mv_M)) (k50 : mv_M → Nat → Int32 → Int32 → Int32 → Int32 → Option (Int32 × mv_M)) (M : mv_M) (v0 : Nat) (v1 : Int32) (v2 : Int32) (v3 : Int32) (v4 : Int32) : Option (Int32 × mv_M) :=
  k50 M v0 v1 v2 v3 (v4 + 1)
def jb_PM_train_132 (N : Nat) (k36 : mv_M → Nat → Int32 → Int32 → Int32 → Option (Int32 × mv_M)) (k50 : mv_M → Nat → Int32 → Int32 → Int32 → Int32 → Option (Int32 × mv_M)) (k75 : mv_M → Nat → Int32 → Int32 → Int32 → Int32 → Int32 → Option (Int32 × mv_M)) (M : mv_M) (v0 : Nat) (v1 : Int32) (v2 : Int32) (v3 : Int32) (v4 : Int32) (v5 : Int32) (v6 : Int32) (v7 : Int64) (s0 : Int64) : Option (Int32 × mv_M) :=
  Option.bind (mj_getL M v0 1 18) fun x136 =>
  Option.bind (mj_getL M v0 1 19) fun x140 =>
  mj_ob M v0 1 <|
  mj_call (jf_PM_times N M v0 x136 x140 v7 s0) fun r147 Mm147 =>
  Option.bind (mj_getR Mm147 v0 1 9) fun x152 =>
  Option.bind x152 fun a157 =>
  Option.bind (mj_lld Mm147 a157 1 v6) fun x157 =>
  Option.bind (mj_getR Mm147 v0 1 10) fun x159 =>
  Option.bind x159 fun a164 =>
  Option.bind (mj_lld Mm147 a164 1 v6) fun x164 =>
  Option.bind (mj_getL Mm147 v0 1 0) fun x166 =>
  Option.bind (mj_getL Mm147 v0 1 1) fun x171 =>
  mj_ob Mm147 v0 1 <|
  mj_call (jf_PM_plus N Mm147 v0 x157 x164 (-x166) x171) fun r174 Mm174 =>
  mj_ob Mm174 v0 1 <|
  mj_call (jf_PM_round N Mm174 v0) fun r178 Mm178 =>
  Option.bind (mj_getR Mm178 v0 1 9) fun x182 =>
  Option.bind (mj_getL Mm178 v0 1 0) fun x188 =>
  Option.bind x182 fun a191 =>
  Option.bind (mj_lst Mm178 a191 1 v6 x188) fun Mm191 =>
  Option.bind (mj_getR Mm191 v0 1 10) fun x193 =>
  Option.bind (mj_getL Mm191 v0 1 1) fun x199 =>
  Option.bind x193 fun a202 =>
  Option.bind (mj_lst Mm191 a202 1 v6 x199) fun Mm202 =>
  k75 Mm202 v0 v1 v2 v3 v4 (v5 + 1)
def jb_PM_train_113 (N : Nat) (k36 : mv_M → Nat → Int32 → Int32 → Int32 → Option (Int32 × mv_M)) (k50 : mv_M → Nat → Int32 → Int32 → Int32 → Int32 → Option (Int32 × mv_M)) (k75 : mv_M → Nat → Int32 → Int32 → Int32 → Int32 → Int32 → Option (Int32 × mv_M)) (M : mv_M) (v0 : Nat) (v1 : Int32) (v2 : Int32) (v3 : Int32) (v4 : Int32) (v5 : Int32) (v6 : Int32) (s0 : Int64) : Option (Int32 × mv_M) :=
  if v1 < v4 then (jb_PM_train_132 N k36 k50 k75 M v0 v1 v2 v3 v4 v5 v6 s0 1) else
  Option.bind (mj_getR M v0 1 14) fun x122 =>
  Option.bind x122 fun a127 =>
  Option.bind (mj_lld M a127 1 v6) fun x127 =>
  jb_PM_train_132 N k36 k50 k75 M v0 v1 v2 v3 v4 v5 v6 s0 x127
def jb_PM_train_75 (N : Nat) (k36 : mv_M → Nat → Int32 → Int32 → Int32 → Option (Int32 × mv_M)) (k50 : mv_M → Nat → Int32 → Int32 → Int32 → Int32 → Option (Int32 × mv_M)) : Nat → mv_M → Nat → Int32 → Int32 → Int32 → Int32 → Int32 → Option (Int32 × mv_M)
  | 0, _, _, _, _, _, _, _ => none
  | n + 1, M, v0, v1, v2, v3, v4, v5 =>
    mj_ob M v0 1 <|
    mj_call (jf_PM_cells N M v0 v4) fun r80 Mm80 =>
    if r80 ≤ v5 then (jb_PM_train_209 N k36 k50 Mm80 v0 v1 v2 v3 v4) else
    if v1 < v4 then (jb_PM_train_113 N k36 k50 (jb_PM_train_75 N k36 k50 n) Mm80 v0 v1 v2 v3 v4 v5 ((64 * v4) + v5) 0) else
    Option.bind (mj_getR Mm80 v0 1 13) fun x103 =>
    Option.bind x103 fun a108 =>
    Option.bind (mj_lld Mm80 a108 1 ((64 * v4) + v5)) fun x108 =>
    jb_PM_train_113 N k36 k50 (jb_PM_train_75 N k36 k50 n) Mm80 v0 v1 v2 v3 v4 v5 ((64 * v4) + v5) x108
def jb_PM_train_50 (N : Nat) (k36 : mv_M → Nat → Int32 → Int32 → Int32 → Option (Int32 × mv_M)) : Nat → mv_M → Nat → Int32 → Int32 → Int32 → Int32 → Option (Int32 × mv_M)
  | 0, _, _, _, _, _, _ => none
  | n + 1, M, v0, v1, v2, v3, v4 =>
    Option.bind (mj_getI M v0 1 2) fun x53 =>
    if x53 ≤ v4 then (k36 M v0 v1 v2 (v3 + 1)) else
    Option.bind (mj_getR M v0 1 8) fun x60 =>
    Option.bind x60 fun a65 =>
    Option.bind (mj_ild M a65 2 v4) fun x65 =>
    if x65 = 0 then (jb_PM_train_209 N k36 (jb_PM_train_50 N k36 n) M v0 v1 v2 v3 v4) else
    jb_PM_train_75 N k36 (jb_PM_train_50 N k36 n) N M v0 v1 v2 v3 v4 0
def jb_PM_train_36 (N : Nat) : Nat → mv_M → Nat → Int32 → Int32 → Int32 → Option (Int32 × mv_M)
  | 0, _, _, _, _, _ => none
  | n + 1, M, v0, v1, v2, v3 =>
    if v2 ≤ v3 then (jb_PM_train_226 N N M v0 0 0) else
    mj_ob M v0 1 <|
    mj_call (jf_PM_slopes N M v0 v1 (-1)) fun r44 Mm44 =>
    jb_PM_train_50 N (jb_PM_train_36 N n) N Mm44 v0 v1 v2 v3 0
def jb_PM_train_0 (N : Nat) (M : mv_M) (v0 : Nat) (v1 : Int32) (v2 : Int32) : Option (Int32 × mv_M) :=
  mj_ob M v0 1 <|
  mj_call (jf_PM_isNode N M v0 v1) fun r2 Mm2 =>
  if r2 = 0 then (jb_PM_train_20 N Mm2) else
  mj_call (jf_PM_isIn N Mm2 v2.toInt64 0 20) fun r14 Mm14 =>
  if r14 = 0 then (jb_PM_train_20 N Mm14) else
  Option.bind (mj_getR Mm14 v0 1 6) fun x23 =>
  Option.bind x23 fun a27 =>
  Option.bind (mj_ild Mm14 a27 0 v1) fun x27 =>
  if x27 ≤ 0 then (jb_PM_train_36 N N Mm14 v0 v1 v2 0) else
  some ((-4), Mm14)
def jf_PM_train (N : Nat) (M : mv_M) (v0 : Nat) (v1 : Int32) (v2 : Int32) : Option (Int32 × mv_M) := jb_PM_train_0 N M v0 v1 v2
set_option maxHeartbeats 4000000 in
set_option maxRecDepth 100000 in
theorem tb_PM_train_20 (l : Launch) (D : va_G) (E : Nat → ClassId) (B : Nat) (sa : (Nat → Nat) × Nat × (Nat → Int32)) (M0 M1 : mv_M) (r : Int32) (N : Nat) (M : mv_M) (hJ : jb_PM_train_20 N M = some (r, M1)) : mv_G (xg l D E B sa) kd_PM_train M0 M1 (some (.int r)) M 20 [] [] := by
  unfold jb_PM_train_20 at hJ
  refine mv_iconst (pc := 20) (v := (-1)) de_PM_train_20 (by decide) ?_
  exact mv_iret (pc := 21) rfl de_PM_train_21 hJ
set_option maxHeartbeats 4000000 in
set_option maxRecDepth 100000 in
theorem tb_PM_train_291 (l : Launch) (D : va_G) (E : Nat → ClassId) (B : Nat) (sa : (Nat → Nat) × Nat × (Nat → Int32)) (M0 M1 : mv_M) (r : Int32) (N : Nat) (k226 : mv_M → Nat → Int32 → Int32 → Option (Int32 × mv_M)) (hk226 : ∀ (M : mv_M) (v0 : Nat) (v3 : Int32) (v4 : Int32), k226 M v0 v3 v4 = some (r, M1) → mv_G (xg l D E B sa) kd_PM_train M0 M1 (some (.int r)) M 226 [(0, va_rf (some v0)), (3, .int v3), (4, .int v4)] []) (M : mv_M) (v0 : Nat) (v3 : Int32) (v4 : Int32) (hJ : jb_PM_train_291 N k226 M v0 v3 v4 = some (r, M1)) : mv_G (xg l D E B sa) kd_PM_train M0 M1 (some (.int r)) M 291 [(0, va_rf (some v0)), (3, .int v3), (4, .int v4)] [] := by
  unfold jb_PM_train_291 at hJ
  refine mv_iinc (pc := 291) (v := (v4 + 1)) (lv' := [(4, .int (v4 + 1)), (0, va_rf (some v0)), (3, .int v3)]) de_PM_train_291 2 rfl rfl (Nat.le_of_ble_eq_true rfl) rfl ?_
  refine mv_goto (pc := 294) (tgt := 226) de_PM_train_294 (by decide) ?_
  exact mv_sub [1, 2, 0] rfl (hk226 M v0 v3 (v4 + 1) hJ)
set_option maxHeartbeats 4000000 in
set_option maxRecDepth 100000 in
theorem tb_PM_train_283 (l : Launch) (D : va_G) (E : Nat → ClassId) (B : Nat) (sa : (Nat → Nat) × Nat × (Nat → Int32)) (M0 M1 : mv_M) (r : Int32) (N : Nat) (k226 : mv_M → Nat → Int32 → Int32 → Option (Int32 × mv_M)) (k238 : mv_M → Nat → Int32 → Int32 → Int32 → Option (Int32 × mv_M)) (hk226 : ∀ (M : mv_M) (v0 : Nat) (v3 : Int32) (v4 : Int32), k226 M v0 v3 v4 = some (r, M1) → mv_G (xg l D E B sa) kd_PM_train M0 M1 (some (.int r)) M 226 [(0, va_rf (some v0)), (3, .int v3), (4, .int v4)] []) (hk238 : ∀ (M : mv_M) (v0 : Nat) (v3 : Int32) (v4 : Int32) (v5 : Int32), k238 M v0 v3 v4 v5 = some (r, M1) → mv_G (xg l D E B sa) kd_PM_train M0 M1 (some (.int r)) M 238 [(0, va_rf (some v0)), (3, .int v3), (4, .int v4), (5, .int v5)] []) (M : mv_M) (v0 : Nat) (v4 : Int32) (v5 : Int32) (s0 : Int32) (s1 : Int32) (hJ : jb_PM_train_283 N k226 k238 M v0 v4 v5 s0 s1 = some (r, M1)) : mv_G (xg l D E B sa) kd_PM_train M0 M1 (some (.int r)) M 283 [(0, va_rf (some v0)), (4, .int v4), (5, .int v5)] [.int s1, .int s0] := by
  unfold jb_PM_train_283 at hJ
  refine mv_iadd (pc := 283) de_PM_train_283 ?_
  refine mv_istore_n (pc := 284) (i := 3) (lv' := [(3, .int (s0 + s1)), (0, va_rf (some v0)), (4, .int v4), (5, .int v5)]) de_PM_train_284 rfl (Nat.le_of_ble_eq_true rfl) rfl ?_
  refine mv_iinc (pc := 285) (v := (v5 + 1)) (lv' := [(5, .int (v5 + 1)), (3, .int (s0 + s1)), (0, va_rf (some v0)), (4, .int v4)]) de_PM_train_285 3 rfl rfl (Nat.le_of_ble_eq_true rfl) rfl ?_
  refine mv_goto (pc := 288) (tgt := 238) de_PM_train_288 (by decide) ?_
  exact mv_sub [2, 1, 3, 0] rfl (hk238 M v0 (s0 + s1) v4 (v5 + 1) hJ)
set_option maxHeartbeats 4000000 in
set_option maxRecDepth 100000 in
theorem tb_PM_train_238 (l : Launch) (D : va_G) (E : Nat → ClassId) (B : Nat) (sa : (Nat → Nat) × Nat × (Nat → Int32)) (M0 M1 : mv_M) (r : Int32) (N : Nat) (k226 : mv_M → Nat → Int32 → Int32 → Option (Int32 × mv_M)) (hk226 : ∀ (M : mv_M) (v0 : Nat) (v3 : Int32) (v4 : Int32), k226 M v0 v3 v4 = some (r, M1) → mv_G (xg l D E B sa) kd_PM_train M0 M1 (some (.int r)) M 226 [(0, va_rf (some v0)), (3, .int v3), (4, .int v4)] []) : ∀ (n : Nat) (M : mv_M) (v0 : Nat) (v3 : Int32) (v4 : Int32) (v5 : Int32) (hJ : jb_PM_train_238 N k226 n M v0 v3 v4 v5 = some (r, M1)), mv_G (xg l D E B sa) kd_PM_train M0 M1 (some (.int r)) M 238 [(0, va_rf (some v0)), (3, .int v3), (4, .int v4), (5, .int v5)] [] := by
  intro n
  induction n with
  | zero => intro M v0 v3 v4 v5 hJ; cases hJ
  | succ n ih =>
    intro M v0 v3 v4 v5 hJ
    rw [jb_PM_train_238] at hJ
    refine mv_aload_n (pc := 238) (i := 0) de_PM_train_238 rfl 0 rfl ?_
    refine mv_getR (pc := 239) (f := 8) (kc_1 l D E B sa) (Nat.le_of_ble_eq_true rfl) wt_4_88 de_PM_train_239 hJ (fun x239 e239 h239 => ?_)
    refine mv_iload (pc := 242) de_PM_train_242 2 rfl ?_
    obtain ⟨a244, ha, h244a⟩ := mj_bindE h239
    subst ha
    refine mv_zald (pc := 244) (t := 2) rfl de_PM_train_244 h244a (fun x244 e244 h244 => ?_)
    refine mv_if_eq (pc := 245) (tgt := 291) de_PM_train_245 (by decide) h244 (fun hc245 h245 => ?_) (fun hc245 h245 => ?_)
    · exact mv_sub [0, 1, 2] rfl (tb_PM_train_291 l D E B sa M0 M1 r N k226 hk226 M v0 v3 v4 h245)
    · refine mv_iload (pc := 248) de_PM_train_248 3 rfl ?_
      refine mv_aload_n (pc := 250) (i := 0) de_PM_train_250 rfl 0 rfl ?_
      refine mv_iload (pc := 251) de_PM_train_251 2 rfl ?_
      obtain ⟨hi253, h253o⟩ := mj_obE h245
      obtain ⟨r253, Mm253, hz253, h253⟩ := mj_callE h253o
      refine mv_callV (pc := 253) (n := 1) (av := [.int v4]) (rest := [.int v5]) de_PM_train_253 (kc_1 l D E B sa) hi253 (cm_PM_cells l D E B sa N M v0 v4 _ _ hz253) wt_4_213 wt_4_215 wp_28 wt_1_8 wt_4_216 ⟨by decide, by decide, by decide +kernel⟩ rfl ⟨Nat.le_of_ble_eq_true rfl, Nat.le_of_ble_eq_true rfl⟩ (Nat.le_of_ble_eq_true rfl) rfl ?_
      refine mv_icmp_ge (pc := 256) (tgt := 291) de_PM_train_256 (by decide) h253 (fun hc256 h256 => ?_) (fun hc256 h256 => ?_)
      · exact mv_sub [0, 1, 2] rfl (tb_PM_train_291 l D E B sa M0 M1 r N k226 hk226 Mm253 v0 v3 v4 h256)
      · refine mv_iload_n (pc := 259) (i := 3) de_PM_train_259 rfl 1 rfl ?_
        refine mv_aload_n (pc := 260) (i := 0) de_PM_train_260 rfl 0 rfl ?_
        refine mv_getR (pc := 261) (f := 10) (kc_1 l D E B sa) (Nat.le_of_ble_eq_true rfl) wt_4_90 de_PM_train_261 h256 (fun x261 e261 h261 => ?_)
        refine mv_bipush (pc := 264) (v := 64) de_PM_train_264 (by decide) ?_
        refine mv_iload (pc := 266) de_PM_train_266 2 rfl ?_
        refine mv_imul (pc := 268) de_PM_train_268 ?_
        refine mv_iload (pc := 269) de_PM_train_269 3 rfl ?_
        refine mv_iadd (pc := 271) de_PM_train_271 ?_
        obtain ⟨a272, ha, h272a⟩ := mj_bindE h261
        subst ha
        refine mv_lald (pc := 272) (t := 1) rfl de_PM_train_272 h272a (fun x272 e272 h272 => ?_)
        refine mv_lconst (pc := 273) (v := 0) de_PM_train_273 (by decide) ?_
        refine mv_lcmp (pc := 274) de_PM_train_274 ?_
        refine mv_if_ne (pc := 275) (tgt := 282) de_PM_train_275 (by decide) h272 (fun hc275 h275 => ?_) (fun hc275 h275 => ?_)
        · refine mv_iconst (pc := 278) (v := 1) de_PM_train_278 (by decide) ?_
          refine mv_goto (pc := 279) (tgt := 283) de_PM_train_279 (by decide) ?_
          exact mv_sub [0, 2, 3] rfl (tb_PM_train_283 l D E B sa M0 M1 r N k226 (jb_PM_train_238 N k226 n) hk226 ih Mm253 v0 v4 v5 v3 1 h275)
        · refine mv_iconst (pc := 282) (v := 0) de_PM_train_282 (by decide) ?_
          exact mv_sub [0, 2, 3] rfl (tb_PM_train_283 l D E B sa M0 M1 r N k226 (jb_PM_train_238 N k226 n) hk226 ih Mm253 v0 v4 v5 v3 0 h275)
set_option maxHeartbeats 4000000 in
set_option maxRecDepth 100000 in
theorem tb_PM_train_226 (l : Launch) (D : va_G) (E : Nat → ClassId) (B : Nat) (sa : (Nat → Nat) × Nat × (Nat → Int32)) (M0 M1 : mv_M) (r : Int32) (N : Nat) : ∀ (n : Nat) (M : mv_M) (v0 : Nat) (v3 : Int32) (v4 : Int32) (hJ : jb_PM_train_226 N n M v0 v3 v4 = some (r, M1)), mv_G (xg l D E B sa) kd_PM_train M0 M1 (some (.int r)) M 226 [(0, va_rf (some v0)), (3, .int v3), (4, .int v4)] [] := by
  intro n
  induction n with
  | zero => intro M v0 v3 v4 hJ; cases hJ
  | succ n ih =>
    intro M v0 v3 v4 hJ
    rw [jb_PM_train_226] at hJ
    refine mv_iload (pc := 226) de_PM_train_226 2 rfl ?_
    refine mv_aload_n (pc := 228) (i := 0) de_PM_train_228 rfl 0 rfl ?_
    refine mv_getI (pc := 229) (f := 2) (kc_1 l D E B sa) (Nat.le_of_ble_eq_true rfl) wt_4_82 de_PM_train_229 hJ (fun x229 e229 h229 => ?_)
    refine mv_icmp_ge (pc := 232) (tgt := 297) de_PM_train_232 (by decide) h229 (fun hc232 h232 => ?_) (fun hc232 h232 => ?_)
    · refine mv_iload_n (pc := 297) (i := 3) de_PM_train_297 rfl 1 rfl ?_
      exact mv_iret (pc := 298) rfl de_PM_train_298 h232
    · refine mv_iconst (pc := 235) (v := 0) de_PM_train_235 (by decide) ?_
      refine mv_istore (pc := 236) (lv' := [(5, .int 0), (0, va_rf (some v0)), (3, .int v3), (4, .int v4)]) de_PM_train_236 (Nat.le_of_ble_eq_true rfl) rfl ?_
      exact mv_sub [1, 2, 3, 0] rfl (tb_PM_train_238 l D E B sa M0 M1 r N (jb_PM_train_226 N n) ih N M v0 v3 v4 0 h232)
set_option maxHeartbeats 4000000 in
set_option maxRecDepth 100000 in
theorem tb_PM_train_209 (l : Launch) (D : va_G) (E : Nat → ClassId) (B : Nat) (sa : (Nat → Nat) × Nat × (Nat → Int32)) (M0 M1 : mv_M) (r : Int32) (N : Nat) (k36 : mv_M → Nat → Int32 → Int32 → Int32 → Option (Int32 × mv_M)) (k50 : mv_M → Nat → Int32 → Int32 → Int32 → Int32 → Option (Int32 × mv_M)) (hk36 : ∀ (M : mv_M) (v0 : Nat) (v1 : Int32) (v2 : Int32) (v3 : Int32), k36 M v0 v1 v2 v3 = some (r, M1) → mv_G (xg l D E B sa) kd_PM_train M0 M1 (some (.int r)) M 36 [(0, va_rf (some v0)), (1, .int v1), (2, .int v2), (3, .int v3)] []) (hk50 : ∀ (M : mv_M) (v0 : Nat) (v1 : Int32) (v2 : Int32) (v3 : Int32) (v4 : Int32), k50 M v0 v1 v2 v3 v4 = some (r, M1) → mv_G (xg l D E B sa) kd_PM_train M0 M1 (some (.int r)) M 50 [(0, va_rf (some v0)), (1, .int v1), (2, .int v2), (3, .int v3), (4, .int v4)] []) (M : mv_M) (v0 : Nat) (v1 : Int32) (v2 : Int32) (v3 : Int32) (v4 : Int32) (hJ : jb_PM_train_209 N k36 k50 M v0 v1 v2 v3 v4 = some (r, M1)) : mv_G (xg l D E B sa) kd_PM_train M0 M1 (some (.int r)) M 209 [(0, va_rf (some v0)), (1, .int v1), (2, .int v2), (3, .int v3), (4, .int v4)] [] := by
  unfold jb_PM_train_209 at hJ
  refine mv_iinc (pc := 209) (v := (v4 + 1)) (lv' := [(4, .int (v4 + 1)), (0, va_rf (some v0)), (1, .int v1), (2, .int v2), (3, .int v3)]) de_PM_train_209 4 rfl rfl (Nat.le_of_ble_eq_true rfl) rfl ?_
  refine mv_goto (pc := 212) (tgt := 50) de_PM_train_212 (by decide) ?_
  exact mv_sub [1, 2, 3, 4, 0] rfl (hk50 M v0 v1 v2 v3 (v4 + 1) hJ)
set_option maxHeartbeats 4000000 in
set_option maxRecDepth 100000 in
theorem tb_PM_train_132 (l : Launch) (D : va_G) (E : Nat → ClassId) (B : Nat) (sa : (Nat → Nat) × Nat × (Nat → Int32)) (M0 M1 : mv_M) (r : Int32) (N : Nat) (k36 : mv_M → Nat → Int32 → Int32 → Int32 → Option (Int32 × mv_M)) (k50 : mv_M → Nat → Int32 → Int32 → Int32 → Int32 → Option (Int32 × mv_M)) (k75 : mv_M → Nat → Int32 → Int32 → Int32 → Int32 → Int32 → Option (Int32 × mv_M)) (hk36 : ∀ (M : mv_M) (v0 : Nat) (v1 : Int32) (v2 : Int32) (v3 : Int32), k36 M v0 v1 v2 v3 = some (r, M1) → mv_G (xg l D E B sa) kd_PM_train M0 M1 (some (.int r)) M 36 [(0, va_rf (some v0)), (1, .int v1), (2, .int v2), (3, .int v3)] []) (hk50 : ∀ (M : mv_M) (v0 : Nat) (v1 : Int32) (v2 : Int32) (v3 : Int32) (v4 : Int32), k50 M v0 v1 v2 v3 v4 = some (r, M1) → mv_G (xg l D E B sa) kd_PM_train M0 M1 (some (.int r)) M 50 [(0, va_rf (some v0)), (1, .int v1), (2, .int v2), (3, .int v3), (4, .int v4)] []) (hk75 : ∀ (M : mv_M) (v0 : Nat) (v1 : Int32) (v2 : Int32) (v3 : Int32) (v4 : Int32) (v5 : Int32), k75 M v0 v1 v2 v3 v4 v5 = some (r, M1) → mv_G (xg l D E B sa) kd_PM_train M0 M1 (some (.int r)) M 75 [(0, va_rf (some v0)), (1, .int v1), (2, .int v2), (3, .int v3), (4, .int v4), (5, .int v5)] []) (M : mv_M) (v0 : Nat) (v1 : Int32) (v2 : Int32) (v3 : Int32) (v4 : Int32) (v5 : Int32) (v6 : Int32) (v7 : Int64) (s0 : Int64) (hJ : jb_PM_train_132 N k36 k50 k75 M v0 v1 v2 v3 v4 v5 v6 v7 s0 = some (r, M1)) : mv_G (xg l D E B sa) kd_PM_train M0 M1 (some (.int r)) M 132 [(0, va_rf (some v0)), (1, .int v1), (2, .int v2), (3, .int v3), (4, .int v4), (5, .int v5), (6, .int v6), (7, .long v7)] [.long s0] := by
  unfold jb_PM_train_132 at hJ
  refine mv_lstore (pc := 132) (lv' := [(9, .long s0), (0, va_rf (some v0)), (1, .int v1), (2, .int v2), (3, .int v3), (4, .int v4), (5, .int v5), (6, .int v6), (7, .long v7)]) de_PM_train_132 (Nat.le_of_ble_eq_true rfl) rfl ?_
  refine mv_aload_n (pc := 134) (i := 0) de_PM_train_134 rfl 1 rfl ?_
  refine mv_aload_n (pc := 135) (i := 0) de_PM_train_135 rfl 1 rfl ?_
  refine mv_getL (pc := 136) (f := 18) (kc_1 l D E B sa) (Nat.le_of_ble_eq_true rfl) wt_4_98 de_PM_train_136 hJ (fun x136 e136 h136 => ?_)
  refine mv_aload_n (pc := 139) (i := 0) de_PM_train_139 rfl 1 rfl ?_
  refine mv_getL (pc := 140) (f := 19) (kc_1 l D E B sa) (Nat.le_of_ble_eq_true rfl) wt_4_99 de_PM_train_140 h136 (fun x140 e140 h140 => ?_)
  refine mv_lload (pc := 143) de_PM_train_143 8 rfl ?_
  refine mv_lload (pc := 145) de_PM_train_145 0 rfl ?_
  obtain ⟨hi147, h147o⟩ := mj_obE h140
  obtain ⟨r147, Mm147, hz147, h147⟩ := mj_callE h147o
  refine mv_callV (pc := 147) (n := 4) (av := [.long x136, .long x140, .long v7, .long s0]) (rest := []) de_PM_train_147 (kc_1 l D E B sa) hi147 (cm_PM_times l D E B sa N M v0 x136 x140 v7 s0 _ _ hz147) wt_5_30 wt_5_32 wp_38 wt_1_8 wt_5_33 ⟨by decide, by decide, by decide +kernel⟩ rfl ⟨Nat.le_of_ble_eq_true rfl, Nat.le_of_ble_eq_true rfl⟩ (Nat.le_of_ble_eq_true rfl) rfl ?_
  refine mv_aload_n (pc := 150) (i := 0) de_PM_train_150 rfl 1 rfl ?_
  refine mv_aload_n (pc := 151) (i := 0) de_PM_train_151 rfl 1 rfl ?_
  refine mv_getR (pc := 152) (f := 9) (kc_1 l D E B sa) (Nat.le_of_ble_eq_true rfl) wt_4_89 de_PM_train_152 h147 (fun x152 e152 h152 => ?_)
  refine mv_iload (pc := 155) de_PM_train_155 7 rfl ?_
  obtain ⟨a157, ha, h157a⟩ := mj_bindE h152
  subst ha
  refine mv_lald (pc := 157) (t := 1) rfl de_PM_train_157 h157a (fun x157 e157 h157 => ?_)
  refine mv_aload_n (pc := 158) (i := 0) de_PM_train_158 rfl 1 rfl ?_
  refine mv_getR (pc := 159) (f := 10) (kc_1 l D E B sa) (Nat.le_of_ble_eq_true rfl) wt_4_90 de_PM_train_159 h157 (fun x159 e159 h159 => ?_)
  refine mv_iload (pc := 162) de_PM_train_162 7 rfl ?_
  obtain ⟨a164, ha, h164a⟩ := mj_bindE h159
  subst ha
  refine mv_lald (pc := 164) (t := 1) rfl de_PM_train_164 h164a (fun x164 e164 h164 => ?_)
  refine mv_aload_n (pc := 165) (i := 0) de_PM_train_165 rfl 1 rfl ?_
  refine mv_getL (pc := 166) (f := 0) (kc_1 l D E B sa) (Nat.le_of_ble_eq_true rfl) wt_4_80 de_PM_train_166 h164 (fun x166 e166 h166 => ?_)
  refine mv_lneg (pc := 169) de_PM_train_169 ?_
  refine mv_aload_n (pc := 170) (i := 0) de_PM_train_170 rfl 1 rfl ?_
  refine mv_getL (pc := 171) (f := 1) (kc_1 l D E B sa) (Nat.le_of_ble_eq_true rfl) wt_4_81 de_PM_train_171 h166 (fun x171 e171 h171 => ?_)
  obtain ⟨hi174, h174o⟩ := mj_obE h171
  obtain ⟨r174, Mm174, hz174, h174⟩ := mj_callE h174o
  refine mv_callV (pc := 174) (n := 4) (av := [.long x157, .long x164, .long (-x166), .long x171]) (rest := []) de_PM_train_174 (kc_1 l D E B sa) hi174 (cm_PM_plus l D E B sa N Mm147 v0 x157 x164 (-x166) x171 _ _ hz174) wt_5_26 wt_5_28 wp_37 wt_1_8 wt_5_29 ⟨by decide, by decide, by decide +kernel⟩ rfl ⟨Nat.le_of_ble_eq_true rfl, Nat.le_of_ble_eq_true rfl⟩ (Nat.le_of_ble_eq_true rfl) rfl ?_
  refine mv_aload_n (pc := 177) (i := 0) de_PM_train_177 rfl 1 rfl ?_
  obtain ⟨hi178, h178o⟩ := mj_obE h174
  obtain ⟨r178, Mm178, hz178, h178⟩ := mj_callE h178o
  refine mv_callV (pc := 178) (n := 0) (av := []) (rest := []) de_PM_train_178 (kc_1 l D E B sa) hi178 (cm_PM_round l D E B sa N Mm174 v0 _ _ hz178) wt_5_116 wt_5_118 wp_53 wt_1_8 wt_5_119 ⟨by decide, by decide, by decide +kernel⟩ rfl ⟨Nat.le_of_ble_eq_true rfl, Nat.le_of_ble_eq_true rfl⟩ (Nat.le_of_ble_eq_true rfl) rfl ?_
  refine mv_aload_n (pc := 181) (i := 0) de_PM_train_181 rfl 1 rfl ?_
  refine mv_getR (pc := 182) (f := 9) (kc_1 l D E B sa) (Nat.le_of_ble_eq_true rfl) wt_4_89 de_PM_train_182 h178 (fun x182 e182 h182 => ?_)
  refine mv_iload (pc := 185) de_PM_train_185 7 rfl ?_
  refine mv_aload_n (pc := 187) (i := 0) de_PM_train_187 rfl 1 rfl ?_
  refine mv_getL (pc := 188) (f := 0) (kc_1 l D E B sa) (Nat.le_of_ble_eq_true rfl) wt_4_80 de_PM_train_188 h182 (fun x188 e188 h188 => ?_)
  obtain ⟨a191, ha, h191a⟩ := mj_bindE h188
  subst ha
  refine mv_last (pc := 191) (t := 1) rfl de_PM_train_191 h191a (fun Mm191 e191 h191 => ?_)
  refine mv_aload_n (pc := 192) (i := 0) de_PM_train_192 rfl 1 rfl ?_
  refine mv_getR (pc := 193) (f := 10) (kc_1 l D E B sa) (Nat.le_of_ble_eq_true rfl) wt_4_90 de_PM_train_193 h191 (fun x193 e193 h193 => ?_)
  refine mv_iload (pc := 196) de_PM_train_196 7 rfl ?_
  refine mv_aload_n (pc := 198) (i := 0) de_PM_train_198 rfl 1 rfl ?_
  refine mv_getL (pc := 199) (f := 1) (kc_1 l D E B sa) (Nat.le_of_ble_eq_true rfl) wt_4_81 de_PM_train_199 h193 (fun x199 e199 h199 => ?_)
  obtain ⟨a202, ha, h202a⟩ := mj_bindE h199
  subst ha
  refine mv_last (pc := 202) (t := 1) rfl de_PM_train_202 h202a (fun Mm202 e202 h202 => ?_)
  refine mv_iinc (pc := 203) (v := (v5 + 1)) (lv' := [(5, .int (v5 + 1)), (9, .long s0), (0, va_rf (some v0)), (1, .int v1), (2, .int v2), (3, .int v3), (4, .int v4), (6, .int v6), (7, .long v7)]) de_PM_train_203 6 rfl rfl (Nat.le_of_ble_eq_true rfl) rfl ?_
  refine mv_goto (pc := 206) (tgt := 75) de_PM_train_206 (by decide) ?_
  exact mv_sub [2, 3, 4, 5, 6, 0] rfl (hk75 Mm202 v0 v1 v2 v3 v4 (v5 + 1) h202)
set_option maxHeartbeats 4000000 in
set_option maxRecDepth 100000 in
theorem tb_PM_train_113 (l : Launch) (D : va_G) (E : Nat → ClassId) (B : Nat) (sa : (Nat → Nat) × Nat × (Nat → Int32)) (M0 M1 : mv_M) (r : Int32) (N : Nat) (k36 : mv_M → Nat → Int32 → Int32 → Int32 → Option (Int32 × mv_M)) (k50 : mv_M → Nat → Int32 → Int32 → Int32 → Int32 → Option (Int32 × mv_M)) (k75 : mv_M → Nat → Int32 → Int32 → Int32 → Int32 → Int32 → Option (Int32 × mv_M)) (hk36 : ∀ (M : mv_M) (v0 : Nat) (v1 : Int32) (v2 : Int32) (v3 : Int32), k36 M v0 v1 v2 v3 = some (r, M1) → mv_G (xg l D E B sa) kd_PM_train M0 M1 (some (.int r)) M 36 [(0, va_rf (some v0)), (1, .int v1), (2, .int v2), (3, .int v3)] []) (hk50 : ∀ (M : mv_M) (v0 : Nat) (v1 : Int32) (v2 : Int32) (v3 : Int32) (v4 : Int32), k50 M v0 v1 v2 v3 v4 = some (r, M1) → mv_G (xg l D E B sa) kd_PM_train M0 M1 (some (.int r)) M 50 [(0, va_rf (some v0)), (1, .int v1), (2, .int v2), (3, .int v3), (4, .int v4)] []) (hk75 : ∀ (M : mv_M) (v0 : Nat) (v1 : Int32) (v2 : Int32) (v3 : Int32) (v4 : Int32) (v5 : Int32), k75 M v0 v1 v2 v3 v4 v5 = some (r, M1) → mv_G (xg l D E B sa) kd_PM_train M0 M1 (some (.int r)) M 75 [(0, va_rf (some v0)), (1, .int v1), (2, .int v2), (3, .int v3), (4, .int v4), (5, .int v5)] []) (M : mv_M) (v0 : Nat) (v1 : Int32) (v2 : Int32) (v3 : Int32) (v4 : Int32) (v5 : Int32) (v6 : Int32) (s0 : Int64) (hJ : jb_PM_train_113 N k36 k50 k75 M v0 v1 v2 v3 v4 v5 v6 s0 = some (r, M1)) : mv_G (xg l D E B sa) kd_PM_train M0 M1 (some (.int r)) M 113 [(0, va_rf (some v0)), (1, .int v1), (2, .int v2), (3, .int v3), (4, .int v4), (5, .int v5), (6, .int v6)] [.long s0] := by
  unfold jb_PM_train_113 at hJ
  refine mv_lstore (pc := 113) (lv' := [(7, .long s0), (0, va_rf (some v0)), (1, .int v1), (2, .int v2), (3, .int v3), (4, .int v4), (5, .int v5), (6, .int v6)]) de_PM_train_113 (Nat.le_of_ble_eq_true rfl) rfl ?_
  refine mv_iload (pc := 115) de_PM_train_115 5 rfl ?_
  refine mv_iload_n (pc := 117) (i := 1) de_PM_train_117 rfl 2 rfl ?_
  refine mv_icmp_gt (pc := 118) (tgt := 131) de_PM_train_118 (by decide) hJ (fun hc118 h118 => ?_) (fun hc118 h118 => ?_)
  · refine mv_lconst (pc := 131) (v := 1) de_PM_train_131 (by decide) ?_
    exact mv_sub [1, 2, 3, 4, 5, 6, 7, 0] rfl (tb_PM_train_132 l D E B sa M0 M1 r N k36 k50 k75 hk36 hk50 hk75 M v0 v1 v2 v3 v4 v5 v6 s0 1 h118)
  · refine mv_aload_n (pc := 121) (i := 0) de_PM_train_121 rfl 1 rfl ?_
    refine mv_getR (pc := 122) (f := 14) (kc_1 l D E B sa) (Nat.le_of_ble_eq_true rfl) wt_4_94 de_PM_train_122 h118 (fun x122 e122 h122 => ?_)
    refine mv_iload (pc := 125) de_PM_train_125 7 rfl ?_
    obtain ⟨a127, ha, h127a⟩ := mj_bindE h122
    subst ha
    refine mv_lald (pc := 127) (t := 1) rfl de_PM_train_127 h127a (fun x127 e127 h127 => ?_)
    refine mv_goto (pc := 128) (tgt := 132) de_PM_train_128 (by decide) ?_
    exact mv_sub [1, 2, 3, 4, 5, 6, 7, 0] rfl (tb_PM_train_132 l D E B sa M0 M1 r N k36 k50 k75 hk36 hk50 hk75 M v0 v1 v2 v3 v4 v5 v6 s0 x127 h127)
set_option maxHeartbeats 4000000 in
set_option maxRecDepth 100000 in
theorem tb_PM_train_75 (l : Launch) (D : va_G) (E : Nat → ClassId) (B : Nat) (sa : (Nat → Nat) × Nat × (Nat → Int32)) (M0 M1 : mv_M) (r : Int32) (N : Nat) (k36 : mv_M → Nat → Int32 → Int32 → Int32 → Option (Int32 × mv_M)) (k50 : mv_M → Nat → Int32 → Int32 → Int32 → Int32 → Option (Int32 × mv_M)) (hk36 : ∀ (M : mv_M) (v0 : Nat) (v1 : Int32) (v2 : Int32) (v3 : Int32), k36 M v0 v1 v2 v3 = some (r, M1) → mv_G (xg l D E B sa) kd_PM_train M0 M1 (some (.int r)) M 36 [(0, va_rf (some v0)), (1, .int v1), (2, .int v2), (3, .int v3)] []) (hk50 : ∀ (M : mv_M) (v0 : Nat) (v1 : Int32) (v2 : Int32) (v3 : Int32) (v4 : Int32), k50 M v0 v1 v2 v3 v4 = some (r, M1) → mv_G (xg l D E B sa) kd_PM_train M0 M1 (some (.int r)) M 50 [(0, va_rf (some v0)), (1, .int v1), (2, .int v2), (3, .int v3), (4, .int v4)] []) : ∀ (n : Nat) (M : mv_M) (v0 : Nat) (v1 : Int32) (v2 : Int32) (v3 : Int32) (v4 : Int32) (v5 : Int32) (hJ : jb_PM_train_75 N k36 k50 n M v0 v1 v2 v3 v4 v5 = some (r, M1)), mv_G (xg l D E B sa) kd_PM_train M0 M1 (some (.int r)) M 75 [(0, va_rf (some v0)), (1, .int v1), (2, .int v2), (3, .int v3), (4, .int v4), (5, .int v5)] [] := by
  intro n
  induction n with
  | zero => intro M v0 v1 v2 v3 v4 v5 hJ; cases hJ
  | succ n ih =>
    intro M v0 v1 v2 v3 v4 v5 hJ
    rw [jb_PM_train_75] at hJ
    refine mv_iload (pc := 75) de_PM_train_75 5 rfl ?_
    refine mv_aload_n (pc := 77) (i := 0) de_PM_train_77 rfl 0 rfl ?_
    refine mv_iload (pc := 78) de_PM_train_78 4 rfl ?_
    obtain ⟨hi80, h80o⟩ := mj_obE hJ
    obtain ⟨r80, Mm80, hz80, h80⟩ := mj_callE h80o
    refine mv_callV (pc := 80) (n := 1) (av := [.int v4]) (rest := [.int v5]) de_PM_train_80 (kc_1 l D E B sa) hi80 (cm_PM_cells l D E B sa N M v0 v4 _ _ hz80) wt_4_213 wt_4_215 wp_28 wt_1_8 wt_4_216 ⟨by decide, by decide, by decide +kernel⟩ rfl ⟨Nat.le_of_ble_eq_true rfl, Nat.le_of_ble_eq_true rfl⟩ (Nat.le_of_ble_eq_true rfl) rfl ?_
    refine mv_icmp_ge (pc := 83) (tgt := 209) de_PM_train_83 (by decide) h80 (fun hc83 h83 => ?_) (fun hc83 h83 => ?_)
    · exact mv_sub [0, 1, 2, 3, 4] rfl (tb_PM_train_209 l D E B sa M0 M1 r N k36 k50 hk36 hk50 Mm80 v0 v1 v2 v3 v4 h83)
    · refine mv_bipush (pc := 86) (v := 64) de_PM_train_86 (by decide) ?_
      refine mv_iload (pc := 88) de_PM_train_88 4 rfl ?_
      refine mv_imul (pc := 90) de_PM_train_90 ?_
      refine mv_iload (pc := 91) de_PM_train_91 5 rfl ?_
      refine mv_iadd (pc := 93) de_PM_train_93 ?_
      refine mv_istore (pc := 94) (lv' := [(6, .int ((64 * v4) + v5)), (0, va_rf (some v0)), (1, .int v1), (2, .int v2), (3, .int v3), (4, .int v4), (5, .int v5)]) de_PM_train_94 (Nat.le_of_ble_eq_true rfl) rfl ?_
      refine mv_iload (pc := 96) de_PM_train_96 5 rfl ?_
      refine mv_iload_n (pc := 98) (i := 1) de_PM_train_98 rfl 2 rfl ?_
      refine mv_icmp_gt (pc := 99) (tgt := 112) de_PM_train_99 (by decide) h83 (fun hc99 h99 => ?_) (fun hc99 h99 => ?_)
      · refine mv_lconst (pc := 112) (v := 0) de_PM_train_112 (by decide) ?_
        exact mv_sub [1, 2, 3, 4, 5, 6, 0] rfl (tb_PM_train_113 l D E B sa M0 M1 r N k36 k50 (jb_PM_train_75 N k36 k50 n) hk36 hk50 ih Mm80 v0 v1 v2 v3 v4 v5 ((64 * v4) + v5) 0 h99)
      · refine mv_aload_n (pc := 102) (i := 0) de_PM_train_102 rfl 1 rfl ?_
        refine mv_getR (pc := 103) (f := 13) (kc_1 l D E B sa) (Nat.le_of_ble_eq_true rfl) wt_4_93 de_PM_train_103 h99 (fun x103 e103 h103 => ?_)
        refine mv_iload (pc := 106) de_PM_train_106 0 rfl ?_
        obtain ⟨a108, ha, h108a⟩ := mj_bindE h103
        subst ha
        refine mv_lald (pc := 108) (t := 1) rfl de_PM_train_108 h108a (fun x108 e108 h108 => ?_)
        refine mv_goto (pc := 109) (tgt := 113) de_PM_train_109 (by decide) ?_
        exact mv_sub [1, 2, 3, 4, 5, 6, 0] rfl (tb_PM_train_113 l D E B sa M0 M1 r N k36 k50 (jb_PM_train_75 N k36 k50 n) hk36 hk50 ih Mm80 v0 v1 v2 v3 v4 v5 ((64 * v4) + v5) x108 h108)
set_option maxHeartbeats 4000000 in
set_option maxRecDepth 100000 in
theorem tb_PM_train_50 (l : Launch) (D : va_G) (E : Nat → ClassId) (B : Nat) (sa : (Nat → Nat) × Nat × (Nat → Int32)) (M0 M1 : mv_M) (r : Int32) (N : Nat) (k36 : mv_M → Nat → Int32 → Int32 → Int32 → Option (Int32 × mv_M)) (hk36 : ∀ (M : mv_M) (v0 : Nat) (v1 : Int32) (v2 : Int32) (v3 : Int32), k36 M v0 v1 v2 v3 = some (r, M1) → mv_G (xg l D E B sa) kd_PM_train M0 M1 (some (.int r)) M 36 [(0, va_rf (some v0)), (1, .int v1), (2, .int v2), (3, .int v3)] []) : ∀ (n : Nat) (M : mv_M) (v0 : Nat) (v1 : Int32) (v2 : Int32) (v3 : Int32) (v4 : Int32) (hJ : jb_PM_train_50 N k36 n M v0 v1 v2 v3 v4 = some (r, M1)), mv_G (xg l D E B sa) kd_PM_train M0 M1 (some (.int r)) M 50 [(0, va_rf (some v0)), (1, .int v1), (2, .int v2), (3, .int v3), (4, .int v4)] [] := by
  intro n
  induction n with
  | zero => intro M v0 v1 v2 v3 v4 hJ; cases hJ
  | succ n ih =>
    intro M v0 v1 v2 v3 v4 hJ
    rw [jb_PM_train_50] at hJ
    refine mv_iload (pc := 50) de_PM_train_50 4 rfl ?_
    refine mv_aload_n (pc := 52) (i := 0) de_PM_train_52 rfl 0 rfl ?_
    refine mv_getI (pc := 53) (f := 2) (kc_1 l D E B sa) (Nat.le_of_ble_eq_true rfl) wt_4_82 de_PM_train_53 hJ (fun x53 e53 h53 => ?_)
    refine mv_icmp_ge (pc := 56) (tgt := 215) de_PM_train_56 (by decide) h53 (fun hc56 h56 => ?_) (fun hc56 h56 => ?_)
    · refine mv_iinc (pc := 215) (v := (v3 + 1)) (lv' := [(3, .int (v3 + 1)), (0, va_rf (some v0)), (1, .int v1), (2, .int v2), (4, .int v4)]) de_PM_train_215 3 rfl rfl (Nat.le_of_ble_eq_true rfl) rfl ?_
      refine mv_goto (pc := 218) (tgt := 36) de_PM_train_218 (by decide) ?_
      exact mv_sub [1, 2, 3, 0] rfl (hk36 M v0 v1 v2 (v3 + 1) h56)
    · refine mv_aload_n (pc := 59) (i := 0) de_PM_train_59 rfl 0 rfl ?_
      refine mv_getR (pc := 60) (f := 8) (kc_1 l D E B sa) (Nat.le_of_ble_eq_true rfl) wt_4_88 de_PM_train_60 h56 (fun x60 e60 h60 => ?_)
      refine mv_iload (pc := 63) de_PM_train_63 4 rfl ?_
      obtain ⟨a65, ha, h65a⟩ := mj_bindE h60
      subst ha
      refine mv_zald (pc := 65) (t := 2) rfl de_PM_train_65 h65a (fun x65 e65 h65 => ?_)
      refine mv_if_ne (pc := 66) (tgt := 72) de_PM_train_66 (by decide) h65 (fun hc66 h66 => ?_) (fun hc66 h66 => ?_)
      · refine mv_goto (pc := 69) (tgt := 209) de_PM_train_69 (by decide) ?_
        exact mv_sub [0, 1, 2, 3, 4] rfl (tb_PM_train_209 l D E B sa M0 M1 r N k36 (jb_PM_train_50 N k36 n) hk36 ih M v0 v1 v2 v3 v4 h66)
      · refine mv_iconst (pc := 72) (v := 0) de_PM_train_72 (by decide) ?_
        refine mv_istore (pc := 73) (lv' := [(5, .int 0), (0, va_rf (some v0)), (1, .int v1), (2, .int v2), (3, .int v3), (4, .int v4)]) de_PM_train_73 (Nat.le_of_ble_eq_true rfl) rfl ?_
        exact mv_sub [1, 2, 3, 4, 5, 0] rfl (tb_PM_train_75 l D E B sa M0 M1 r N k36 (jb_PM_train_50 N k36 n) hk36 ih N M v0 v1 v2 v3 v4 0 h66)
set_option maxHeartbeats 4000000 in
set_option maxRecDepth 100000 in
theorem tb_PM_train_36 (l : Launch) (D : va_G) (E : Nat → ClassId) (B : Nat) (sa : (Nat → Nat) × Nat × (Nat → Int32)) (M0 M1 : mv_M) (r : Int32) (N : Nat) : ∀ (n : Nat) (M : mv_M) (v0 : Nat) (v1 : Int32) (v2 : Int32) (v3 : Int32) (hJ : jb_PM_train_36 N n M v0 v1 v2 v3 = some (r, M1)), mv_G (xg l D E B sa) kd_PM_train M0 M1 (some (.int r)) M 36 [(0, va_rf (some v0)), (1, .int v1), (2, .int v2), (3, .int v3)] [] := by
  intro n
  induction n with
  | zero => intro M v0 v1 v2 v3 hJ; cases hJ
  | succ n ih =>
    intro M v0 v1 v2 v3 hJ
    rw [jb_PM_train_36] at hJ
    refine mv_iload_n (pc := 36) (i := 3) de_PM_train_36 rfl 3 rfl ?_
    refine mv_iload_n (pc := 37) (i := 2) de_PM_train_37 rfl 2 rfl ?_
    refine mv_icmp_ge (pc := 38) (tgt := 221) de_PM_train_38 (by decide) hJ (fun hc38 h38 => ?_) (fun hc38 h38 => ?_)
    · refine mv_iconst (pc := 221) (v := 0) de_PM_train_221 (by decide) ?_
      refine mv_istore_n (pc := 222) (i := 3) (lv' := [(3, .int 0), (0, va_rf (some v0)), (1, .int v1), (2, .int v2)]) de_PM_train_222 rfl (Nat.le_of_ble_eq_true rfl) rfl ?_
      refine mv_iconst (pc := 223) (v := 0) de_PM_train_223 (by decide) ?_
      refine mv_istore (pc := 224) (lv' := [(4, .int 0), (3, .int 0), (0, va_rf (some v0)), (1, .int v1), (2, .int v2)]) de_PM_train_224 (Nat.le_of_ble_eq_true rfl) rfl ?_
      exact mv_sub [2, 1, 0] rfl (tb_PM_train_226 l D E B sa M0 M1 r N N M v0 0 0 h38)
    · refine mv_aload_n (pc := 41) (i := 0) de_PM_train_41 rfl 0 rfl ?_
      refine mv_iload_n (pc := 42) (i := 1) de_PM_train_42 rfl 1 rfl ?_
      refine mv_iconst (pc := 43) (v := (-1)) de_PM_train_43 (by decide) ?_
      obtain ⟨hi44, h44o⟩ := mj_obE h38
      obtain ⟨r44, Mm44, hz44, h44⟩ := mj_callE h44o
      refine mv_callV (pc := 44) (n := 2) (av := [.int v1, .int (-1)]) (rest := []) de_PM_train_44 (kc_1 l D E B sa) hi44 (cm_PM_slopes l D E B sa N M v0 v1 (-1) _ _ hz44) wt_5_73 wt_5_75 wp_47 wt_1_8 wt_5_76 ⟨by decide, by decide, by decide +kernel⟩ rfl ⟨Nat.le_of_ble_eq_true rfl, Nat.le_of_ble_eq_true rfl⟩ (Nat.le_of_ble_eq_true rfl) rfl ?_
      refine mv_iconst (pc := 47) (v := 0) de_PM_train_47 (by decide) ?_
      refine mv_istore (pc := 48) (lv' := [(4, .int 0), (0, va_rf (some v0)), (1, .int v1), (2, .int v2), (3, .int v3)]) de_PM_train_48 (Nat.le_of_ble_eq_true rfl) rfl ?_
      exact mv_sub [1, 2, 3, 4, 0] rfl (tb_PM_train_50 l D E B sa M0 M1 r N (jb_PM_train_36 N n) ih N Mm44 v0 v1 v2 v3 0 h44)
set_option maxHeartbeats 4000000 in
set_option maxRecDepth 100000 in
theorem tb_PM_train_0 (l : Launch) (D : va_G) (E : Nat → ClassId) (B : Nat) (sa : (Nat → Nat) × Nat × (Nat → Int32)) (M0 M1 : mv_M) (r : Int32) (N : Nat) (M : mv_M) (v0 : Nat) (v1 : Int32) (v2 : Int32) (hJ : jb_PM_train_0 N M v0 v1 v2 = some (r, M1)) : mv_G (xg l D E B sa) kd_PM_train M0 M1 (some (.int r)) M 0 [(0, va_rf (some v0)), (1, .int v1), (2, .int v2)] [] := by
  unfold jb_PM_train_0 at hJ
  refine mv_aload_n (pc := 0) (i := 0) de_PM_train_0 rfl 0 rfl ?_
  refine mv_iload_n (pc := 1) (i := 1) de_PM_train_1 rfl 1 rfl ?_
  obtain ⟨hi2, h2o⟩ := mj_obE hJ
  obtain ⟨r2, Mm2, hz2, h2⟩ := mj_callE h2o
  refine mv_callV (pc := 2) (n := 1) (av := [.int v1]) (rest := []) de_PM_train_2 (kc_1 l D E B sa) hi2 (cm_PM_isNode l D E B sa N M v0 v1 _ _ hz2) wt_4_209 wt_4_211 wp_27 wt_1_8 wt_4_212 ⟨by decide, by decide, by decide +kernel⟩ rfl ⟨Nat.le_of_ble_eq_true rfl, Nat.le_of_ble_eq_true rfl⟩ (Nat.le_of_ble_eq_true rfl) rfl ?_
  refine mv_if_eq (pc := 5) (tgt := 20) de_PM_train_5 (by decide) h2 (fun hc5 h5 => ?_) (fun hc5 h5 => ?_)
  · exact mv_sub [] rfl (tb_PM_train_20 l D E B sa M0 M1 r N Mm2 h5)
  · refine mv_iload_n (pc := 8) (i := 2) de_PM_train_8 rfl 2 rfl ?_
    refine mv_i2l (pc := 9) de_PM_train_9 ?_
    refine mv_lconst (pc := 10) (v := 0) de_PM_train_10 (by decide) ?_
    refine mv_ldc2 (pc := 11) de_PM_train_11 wt_5_115 ?_
    obtain ⟨r14, Mm14, hz14, h14⟩ := mj_callE h5
    refine mv_callS (pc := 14) (n := 3) (av := [.long v2.toInt64, .long 0, .long 20]) (rest := []) de_PM_train_14 (cm_PM_isIn l D E B sa N Mm2 v2.toInt64 0 20 _ _ hz14) wt_4_197 wt_4_198 wt_1_8 wt_4_199 ⟨by decide, by decide, by decide +kernel⟩ rfl ⟨Nat.le_of_ble_eq_true rfl, Nat.le_of_ble_eq_true rfl⟩ (Nat.le_of_ble_eq_true rfl) rfl ?_
    refine mv_if_ne (pc := 17) (tgt := 22) de_PM_train_17 (by decide) h14 (fun hc17 h17 => ?_) (fun hc17 h17 => ?_)
    · exact mv_sub [] rfl (tb_PM_train_20 l D E B sa M0 M1 r N Mm14 h17)
    · refine mv_aload_n (pc := 22) (i := 0) de_PM_train_22 rfl 0 rfl ?_
      refine mv_getR (pc := 23) (f := 6) (kc_1 l D E B sa) (Nat.le_of_ble_eq_true rfl) wt_4_86 de_PM_train_23 h17 (fun x23 e23 h23 => ?_)
      refine mv_iload_n (pc := 26) (i := 1) de_PM_train_26 rfl 1 rfl ?_
      obtain ⟨a27, ha, h27a⟩ := mj_bindE h23
      subst ha
      refine mv_iald (pc := 27) (t := 0) rfl de_PM_train_27 h27a (fun x27 e27 h27 => ?_)
      refine mv_if_le (pc := 28) (tgt := 34) de_PM_train_28 (by decide) h27 (fun hc28 h28 => ?_) (fun hc28 h28 => ?_)
      · refine mv_iconst (pc := 34) (v := 0) de_PM_train_34 (by decide) ?_
        refine mv_istore_n (pc := 35) (i := 3) (lv' := [(3, .int 0), (0, va_rf (some v0)), (1, .int v1), (2, .int v2)]) de_PM_train_35 rfl (Nat.le_of_ble_eq_true rfl) rfl ?_
        exact mv_sub [1, 2, 3, 0] rfl (tb_PM_train_36 l D E B sa M0 M1 r N N Mm14 v0 v1 v2 0 h28)
      · refine mv_bipush (pc := 31) (v := (-4)) de_PM_train_31 (by decide) ?_
        exact mv_iret (pc := 33) rfl de_PM_train_33 h28
theorem cm_PM_train (l : Launch) (D : va_G) (E : Nat → ClassId) (B : Nat) (sa : (Nat → Nat) × Nat × (Nat → Int32)) (N : Nat) (M : mv_M) (v0 : Nat) (v1 : Int32) (v2 : Int32) (r : Int32) (M1 : mv_M) (hJ : jf_PM_train N M v0 v1 v2 = some (r, M1)) : mv_Met (xg l D E B sa) yn_PM_train cd_PM_train 11 (some .int) 6 170 [va_rf (some v0), .int v1, .int v2] M (some (.int r)) M1 :=
  mv_enter (by decide) (Nat.le_of_ble_eq_true rfl) (mv_sub (lv := [(0, va_rf (some v0)), (1, .int v1), (2, .int v2)]) [0, 1, 2] rfl (tb_PM_train_0 l D E B sa M M1 r N M v0 v1 v2 hJ))
/-! ===== PlainLearnerModel.row(IIIII)I ===== -/
abbrev kd_PM_row : mv_Kd := (cd_PM_row, 7, "PlainLearnerModel", "row", (some .int), 1, 25)
theorem de_PM_row_0 : decode cd_PM_row 0 = .ok (.iload_n 1, 1) := by decide +kernel
theorem de_PM_row_1 : decode cd_PM_row 1 = .ok (.i2l, 1) := by decide +kernel
theorem de_PM_row_2 : decode cd_PM_row 2 = .ok (.ldc2_w 232, 3) := by decide +kernel
theorem de_PM_row_5 : decode cd_PM_row 5 = .ok (.ldc2_w 234, 3) := by decide +kernel
theorem de_PM_row_8 : decode cd_PM_row 8 = .ok (.invokestatic 99, 3) := by decide +kernel
theorem de_PM_row_11 : decode cd_PM_row 11 = .ok (.ifCond .eq 63, 3) := by decide +kernel
theorem de_PM_row_14 : decode cd_PM_row 14 = .ok (.iload_n 2, 1) := by decide +kernel
theorem de_PM_row_15 : decode cd_PM_row 15 = .ok (.i2l, 1) := by decide +kernel
theorem de_PM_row_16 : decode cd_PM_row 16 = .ok (.ldc2_w 232, 3) := by decide +kernel
theorem de_PM_row_19 : decode cd_PM_row 19 = .ok (.ldc2_w 234, 3) := by decide +kernel
theorem de_PM_row_22 : decode cd_PM_row 22 = .ok (.invokestatic 99, 3) := by decide +kernel
theorem de_PM_row_25 : decode cd_PM_row 25 = .ok (.ifCond .eq 49, 3) := by decide +kernel
theorem de_PM_row_28 : decode cd_PM_row 28 = .ok (.iload_n 3, 1) := by decide +kernel
theorem de_PM_row_29 : decode cd_PM_row 29 = .ok (.i2l, 1) := by decide +kernel
theorem de_PM_row_30 : decode cd_PM_row 30 = .ok (.ldc2_w 232, 3) := by decide +kernel
theorem de_PM_row_33 : decode cd_PM_row 33 = .ok (.ldc2_w 234, 3) := by decide +kernel
theorem de_PM_row_36 : decode cd_PM_row 36 = .ok (.invokestatic 99, 3) := by decide +kernel
theorem de_PM_row_39 : decode cd_PM_row 39 = .ok (.ifCond .eq 35, 3) := by decide +kernel
theorem de_PM_row_42 : decode cd_PM_row 42 = .ok (.iload 4, 2) := by decide +kernel
theorem de_PM_row_44 : decode cd_PM_row 44 = .ok (.i2l, 1) := by decide +kernel
theorem de_PM_row_45 : decode cd_PM_row 45 = .ok (.ldc2_w 232, 3) := by decide +kernel
theorem de_PM_row_48 : decode cd_PM_row 48 = .ok (.ldc2_w 234, 3) := by decide +kernel
theorem de_PM_row_51 : decode cd_PM_row 51 = .ok (.invokestatic 99, 3) := by decide +kernel
theorem de_PM_row_54 : decode cd_PM_row 54 = .ok (.ifCond .eq 20, 3) := by decide +kernel
theorem de_PM_row_57 : decode cd_PM_row 57 = .ok (.iload 5, 2) := by decide +kernel
theorem de_PM_row_59 : decode cd_PM_row 59 = .ok (.i2l, 1) := by decide +kernel
theorem de_PM_row_60 : decode cd_PM_row 60 = .ok (.lconst 0, 1) := by decide +kernel
theorem de_PM_row_61 : decode cd_PM_row 61 = .ok (.ldc2_w 103, 3) := by decide +kernel
theorem de_PM_row_64 : decode cd_PM_row 64 = .ok (.invokestatic 99, 3) := by decide +kernel
theorem de_PM_row_67 : decode cd_PM_row 67 = .ok (.ifCond .eq 7, 3) := by decide +kernel
theorem de_PM_row_70 : decode cd_PM_row 70 = .ok (.iconst 1, 1) := by decide +kernel
theorem de_PM_row_71 : decode cd_PM_row 71 = .ok (.goto 4, 3) := by decide +kernel
theorem de_PM_row_74 : decode cd_PM_row 74 = .ok (.iconst 0, 1) := by decide +kernel
theorem de_PM_row_75 : decode cd_PM_row 75 = .ok (.istore 6, 2) := by decide +kernel
theorem de_PM_row_77 : decode cd_PM_row 77 = .ok (.iload 6, 2) := by decide +kernel
theorem de_PM_row_79 : decode cd_PM_row 79 = .ok (.ifCond .ne 5, 3) := by decide +kernel
theorem de_PM_row_82 : decode cd_PM_row 82 = .ok (.iconst (-1), 1) := by decide +kernel
theorem de_PM_row_83 : decode cd_PM_row 83 = .ok (.ireturn, 1) := by decide +kernel
theorem de_PM_row_84 : decode cd_PM_row 84 = .ok (.aload_n 0, 1) := by decide +kernel
theorem de_PM_row_85 : decode cd_PM_row 85 = .ok (.getfield 236, 3) := by decide +kernel
theorem de_PM_row_88 : decode cd_PM_row 88 = .ok (.bipush 40, 2) := by decide +kernel
theorem de_PM_row_90 : decode cd_PM_row 90 = .ok (.if_icmp .ne 6, 3) := by decide +kernel
theorem de_PM_row_93 : decode cd_PM_row 93 = .ok (.bipush (-3), 2) := by decide +kernel
theorem de_PM_row_95 : decode cd_PM_row 95 = .ok (.ireturn, 1) := by decide +kernel
theorem de_PM_row_96 : decode cd_PM_row 96 = .ok (.aload_n 0, 1) := by decide +kernel
theorem de_PM_row_97 : decode cd_PM_row 97 = .ok (.getfield 48, 3) := by decide +kernel
theorem de_PM_row_100 : decode cd_PM_row 100 = .ok (.iconst 5, 1) := by decide +kernel
theorem de_PM_row_101 : decode cd_PM_row 101 = .ok (.aload_n 0, 1) := by decide +kernel
theorem de_PM_row_102 : decode cd_PM_row 102 = .ok (.getfield 236, 3) := by decide +kernel
theorem de_PM_row_105 : decode cd_PM_row 105 = .ok (.imul, 1) := by decide +kernel
theorem de_PM_row_106 : decode cd_PM_row 106 = .ok (.iload_n 1, 1) := by decide +kernel
theorem de_PM_row_107 : decode cd_PM_row 107 = .ok (.iastore, 1) := by decide +kernel
theorem de_PM_row_108 : decode cd_PM_row 108 = .ok (.aload_n 0, 1) := by decide +kernel
theorem de_PM_row_109 : decode cd_PM_row 109 = .ok (.getfield 48, 3) := by decide +kernel
theorem de_PM_row_112 : decode cd_PM_row 112 = .ok (.iconst 5, 1) := by decide +kernel
theorem de_PM_row_113 : decode cd_PM_row 113 = .ok (.aload_n 0, 1) := by decide +kernel
theorem de_PM_row_114 : decode cd_PM_row 114 = .ok (.getfield 236, 3) := by decide +kernel
theorem de_PM_row_117 : decode cd_PM_row 117 = .ok (.imul, 1) := by decide +kernel
theorem de_PM_row_118 : decode cd_PM_row 118 = .ok (.iconst 1, 1) := by decide +kernel
theorem de_PM_row_119 : decode cd_PM_row 119 = .ok (.iadd, 1) := by decide +kernel
theorem de_PM_row_120 : decode cd_PM_row 120 = .ok (.iload_n 2, 1) := by decide +kernel
theorem de_PM_row_121 : decode cd_PM_row 121 = .ok (.iastore, 1) := by decide +kernel
theorem de_PM_row_122 : decode cd_PM_row 122 = .ok (.aload_n 0, 1) := by decide +kernel
theorem de_PM_row_123 : decode cd_PM_row 123 = .ok (.getfield 48, 3) := by decide +kernel
theorem de_PM_row_126 : decode cd_PM_row 126 = .ok (.iconst 5, 1) := by decide +kernel
theorem de_PM_row_127 : decode cd_PM_row 127 = .ok (.aload_n 0, 1) := by decide +kernel
theorem de_PM_row_128 : decode cd_PM_row 128 = .ok (.getfield 236, 3) := by decide +kernel
theorem de_PM_row_131 : decode cd_PM_row 131 = .ok (.imul, 1) := by decide +kernel
theorem de_PM_row_132 : decode cd_PM_row 132 = .ok (.iconst 2, 1) := by decide +kernel
theorem de_PM_row_133 : decode cd_PM_row 133 = .ok (.iadd, 1) := by decide +kernel
theorem de_PM_row_134 : decode cd_PM_row 134 = .ok (.iload_n 3, 1) := by decide +kernel
theorem de_PM_row_135 : decode cd_PM_row 135 = .ok (.iastore, 1) := by decide +kernel
theorem de_PM_row_136 : decode cd_PM_row 136 = .ok (.aload_n 0, 1) := by decide +kernel
theorem de_PM_row_137 : decode cd_PM_row 137 = .ok (.getfield 48, 3) := by decide +kernel
theorem de_PM_row_140 : decode cd_PM_row 140 = .ok (.iconst 5, 1) := by decide +kernel
theorem de_PM_row_141 : decode cd_PM_row 141 = .ok (.aload_n 0, 1) := by decide +kernel
theorem de_PM_row_142 : decode cd_PM_row 142 = .ok (.getfield 236, 3) := by decide +kernel
theorem de_PM_row_145 : decode cd_PM_row 145 = .ok (.imul, 1) := by decide +kernel
theorem de_PM_row_146 : decode cd_PM_row 146 = .ok (.iconst 3, 1) := by decide +kernel
theorem de_PM_row_147 : decode cd_PM_row 147 = .ok (.iadd, 1) := by decide +kernel
theorem de_PM_row_148 : decode cd_PM_row 148 = .ok (.iload 4, 2) := by decide +kernel
theorem de_PM_row_150 : decode cd_PM_row 150 = .ok (.iastore, 1) := by decide +kernel
theorem de_PM_row_151 : decode cd_PM_row 151 = .ok (.aload_n 0, 1) := by decide +kernel
theorem de_PM_row_152 : decode cd_PM_row 152 = .ok (.getfield 48, 3) := by decide +kernel
theorem de_PM_row_155 : decode cd_PM_row 155 = .ok (.iconst 5, 1) := by decide +kernel
theorem de_PM_row_156 : decode cd_PM_row 156 = .ok (.aload_n 0, 1) := by decide +kernel
theorem de_PM_row_157 : decode cd_PM_row 157 = .ok (.getfield 236, 3) := by decide +kernel
theorem de_PM_row_160 : decode cd_PM_row 160 = .ok (.imul, 1) := by decide +kernel
theorem de_PM_row_161 : decode cd_PM_row 161 = .ok (.iconst 4, 1) := by decide +kernel
theorem de_PM_row_162 : decode cd_PM_row 162 = .ok (.iadd, 1) := by decide +kernel
theorem de_PM_row_163 : decode cd_PM_row 163 = .ok (.iload 5, 2) := by decide +kernel
theorem de_PM_row_165 : decode cd_PM_row 165 = .ok (.iastore, 1) := by decide +kernel
theorem de_PM_row_166 : decode cd_PM_row 166 = .ok (.aload_n 0, 1) := by decide +kernel
theorem de_PM_row_167 : decode cd_PM_row 167 = .ok (.dup, 1) := by decide +kernel
theorem de_PM_row_168 : decode cd_PM_row 168 = .ok (.getfield 236, 3) := by decide +kernel
theorem de_PM_row_171 : decode cd_PM_row 171 = .ok (.iconst 1, 1) := by decide +kernel
theorem de_PM_row_172 : decode cd_PM_row 172 = .ok (.iadd, 1) := by decide +kernel
theorem de_PM_row_173 : decode cd_PM_row 173 = .ok (.dup_x1, 1) := by decide +kernel
theorem de_PM_row_174 : decode cd_PM_row 174 = .ok (.putfield 236, 3) := by decide +kernel
theorem de_PM_row_177 : decode cd_PM_row 177 = .ok (.ireturn, 1) := by decide +kernel
def jb_PM_row_75 (N : Nat) (M : mv_M) (v0 : Nat) (v1 : Int32) (v2 : Int32) (v3 : Int32) (v4 : Int32) (v5 : Int32) (s0 : Int32) : Option (Int32 × mv_M) :=
  if s0 = 0 then (some ((-1), M)) else
  Option.bind (mj_getI M v0 1 20) fun x85 =>
  if x85 = 40 then (some ((-3), M)) else
  Option.bind (mj_getR M v0 1 21) fun x97 =>
  Option.bind (mj_getI M v0 1 20) fun x102 =>
  Option.bind x97 fun a107 =>
  Option.bind (mj_ist M a107 0 (5 * x102) v1) fun Mm107 =>
  Option.bind (mj_getR Mm107 v0 1 21) fun x109 =>
  Option.bind (mj_getI Mm107 v0 1 20) fun x114 =>
  Option.bind x109 fun a121 =>
  Option.bind (mj_ist Mm107 a121 0 ((5 * x114) + 1) v2) fun Mm121 =>
  Option.bind (mj_getR Mm121 v0 1 21) fun x123 =>
  Option.bind (mj_getI Mm121 v0 1 20) fun x128 =>
  Option.bind x123 fun a135 =>
  Option.bind (mj_ist Mm121 a135 0 ((5 * x128) + 2) v3) fun Mm135 =>
  Option.bind (mj_getR Mm135 v0 1 21) fun x137 =>
  Option.bind (mj_getI Mm135 v0 1 20) fun x142 =>
  Option.bind x137 fun a150 =>
  Option.bind (mj_ist Mm135 a150 0 ((5 * x142) + 3) v4) fun Mm150 =>
  Option.bind (mj_getR Mm150 v0 1 21) fun x152 =>
  Option.bind (mj_getI Mm150 v0 1 20) fun x157 =>
  Option.bind x152 fun a165 =>
  Option.bind (mj_ist Mm150 a165 0 ((5 * x157) + 4) v5) fun Mm165 =>
  Option.bind (mj_getI Mm165 v0 1 20) fun x168 =>
  Option.bind (mj_put Mm165 v0 1 20 (.int (x168 + 1))) fun Mm174 =>
  some ((x168 + 1), Mm174)
def jb_PM_row_74 (N : Nat) (M : mv_M) (v0 : Nat) (v1 : Int32) (v2 : Int32) (v3 : Int32) (v4 : Int32) (v5 : Int32) : Option (Int32 × mv_M) :=
  jb_PM_row_75 N M v0 v1 v2 v3 v4 v5 0
def jb_PM_row_0 (N : Nat) (M : mv_M) (v0 : Nat) (v1 : Int32) (v2 : Int32) (v3 : Int32) (v4 : Int32) (v5 : Int32) : Option (Int32 × mv_M) :=
  mj_call (jf_PM_isIn N M v1.toInt64 (-1000) 1000) fun r8 Mm8 =>
  if r8 = 0 then (jb_PM_row_74 N Mm8 v0 v1 v2 v3 v4 v5) else
  mj_call (jf_PM_isIn N Mm8 v2.toInt64 (-1000) 1000) fun r22 Mm22 =>
  if r22 = 0 then (jb_PM_row_74 N Mm22 v0 v1 v2 v3 v4 v5) else
  mj_call (jf_PM_isIn N Mm22 v3.toInt64 (-1000) 1000) fun r36 Mm36 =>
  if r36 = 0 then (jb_PM_row_74 N Mm36 v0 v1 v2 v3 v4 v5) else
  mj_call (jf_PM_isIn N Mm36 v4.toInt64 (-1000) 1000) fun r51 Mm51 =>
  if r51 = 0 then (jb_PM_row_74 N Mm51 v0 v1 v2 v3 v4 v5) else
  mj_call (jf_PM_isIn N Mm51 v5.toInt64 0 3) fun r64 Mm64 =>
  if r64 = 0 then (jb_PM_row_74 N Mm64 v0 v1 v2 v3 v4 v5) else
  jb_PM_row_75 N Mm64 v0 v1 v2 v3 v4 v5 1
def jf_PM_row (N : Nat) (M : mv_M) (v0 : Nat) (v1 : Int32) (v2 : Int32) (v3 : Int32) (v4 : Int32) (v5 : Int32) : Option (Int32 × mv_M) := jb_PM_row_0 N M v0 v1 v2 v3 v4 v5
set_option maxHeartbeats 4000000 in
set_option maxRecDepth 100000 in
theorem tb_PM_row_75 (l : Launch) (D : va_G) (E : Nat → ClassId) (B : Nat) (sa : (Nat → Nat) × Nat × (Nat → Int32)) (M0 M1 : mv_M) (r : Int32) (N : Nat) (M : mv_M) (v0 : Nat) (v1 : Int32) (v2 : Int32) (v3 : Int32) (v4 : Int32) (v5 : Int32) (s0 : Int32) (hJ : jb_PM_row_75 N M v0 v1 v2 v3 v4 v5 s0 = some (r, M1)) : mv_G (xg l D E B sa) kd_PM_row M0 M1 (some (.int r)) M 75 [(0, va_rf (some v0)), (1, .int v1), (2, .int v2), (3, .int v3), (4, .int v4), (5, .int v5)] [.int s0] := by
  unfold jb_PM_row_75 at hJ
  refine mv_istore (pc := 75) (lv' := [(6, .int s0), (0, va_rf (some v0)), (1, .int v1), (2, .int v2), (3, .int v3), (4, .int v4), (5, .int v5)]) de_PM_row_75 (Nat.le_of_ble_eq_true rfl) rfl ?_
  refine mv_iload (pc := 77) de_PM_row_77 0 rfl ?_
  refine mv_if_ne (pc := 79) (tgt := 84) de_PM_row_79 (by decide) hJ (fun hc79 h79 => ?_) (fun hc79 h79 => ?_)
  · refine mv_iconst (pc := 82) (v := (-1)) de_PM_row_82 (by decide) ?_
    exact mv_iret (pc := 83) rfl de_PM_row_83 h79
  · refine mv_aload_n (pc := 84) (i := 0) de_PM_row_84 rfl 1 rfl ?_
    refine mv_getI (pc := 85) (f := 20) (kc_1 l D E B sa) (Nat.le_of_ble_eq_true rfl) wt_4_100 de_PM_row_85 h79 (fun x85 e85 h85 => ?_)
    refine mv_bipush (pc := 88) (v := 40) de_PM_row_88 (by decide) ?_
    refine mv_icmp_ne (pc := 90) (tgt := 96) de_PM_row_90 (by decide) h85 (fun hc90 h90 => ?_) (fun hc90 h90 => ?_)
    · refine mv_bipush (pc := 93) (v := (-3)) de_PM_row_93 (by decide) ?_
      exact mv_iret (pc := 95) rfl de_PM_row_95 h90
    · refine mv_aload_n (pc := 96) (i := 0) de_PM_row_96 rfl 1 rfl ?_
      refine mv_getR (pc := 97) (f := 21) (kc_1 l D E B sa) (Nat.le_of_ble_eq_true rfl) wt_4_101 de_PM_row_97 h90 (fun x97 e97 h97 => ?_)
      refine mv_iconst (pc := 100) (v := 5) de_PM_row_100 (by decide) ?_
      refine mv_aload_n (pc := 101) (i := 0) de_PM_row_101 rfl 1 rfl ?_
      refine mv_getI (pc := 102) (f := 20) (kc_1 l D E B sa) (Nat.le_of_ble_eq_true rfl) wt_4_100 de_PM_row_102 h97 (fun x102 e102 h102 => ?_)
      refine mv_imul (pc := 105) de_PM_row_105 ?_
      refine mv_iload_n (pc := 106) (i := 1) de_PM_row_106 rfl 2 rfl ?_
      obtain ⟨a107, ha, h107a⟩ := mj_bindE h102
      subst ha
      refine mv_iast (pc := 107) (t := 0) rfl de_PM_row_107 h107a (fun Mm107 e107 h107 => ?_)
      refine mv_aload_n (pc := 108) (i := 0) de_PM_row_108 rfl 1 rfl ?_
      refine mv_getR (pc := 109) (f := 21) (kc_1 l D E B sa) (Nat.le_of_ble_eq_true rfl) wt_4_101 de_PM_row_109 h107 (fun x109 e109 h109 => ?_)
      refine mv_iconst (pc := 112) (v := 5) de_PM_row_112 (by decide) ?_
      refine mv_aload_n (pc := 113) (i := 0) de_PM_row_113 rfl 1 rfl ?_
      refine mv_getI (pc := 114) (f := 20) (kc_1 l D E B sa) (Nat.le_of_ble_eq_true rfl) wt_4_100 de_PM_row_114 h109 (fun x114 e114 h114 => ?_)
      refine mv_imul (pc := 117) de_PM_row_117 ?_
      refine mv_iconst (pc := 118) (v := 1) de_PM_row_118 (by decide) ?_
      refine mv_iadd (pc := 119) de_PM_row_119 ?_
      refine mv_iload_n (pc := 120) (i := 2) de_PM_row_120 rfl 3 rfl ?_
      obtain ⟨a121, ha, h121a⟩ := mj_bindE h114
      subst ha
      refine mv_iast (pc := 121) (t := 0) rfl de_PM_row_121 h121a (fun Mm121 e121 h121 => ?_)
      refine mv_aload_n (pc := 122) (i := 0) de_PM_row_122 rfl 1 rfl ?_
      refine mv_getR (pc := 123) (f := 21) (kc_1 l D E B sa) (Nat.le_of_ble_eq_true rfl) wt_4_101 de_PM_row_123 h121 (fun x123 e123 h123 => ?_)
      refine mv_iconst (pc := 126) (v := 5) de_PM_row_126 (by decide) ?_
      refine mv_aload_n (pc := 127) (i := 0) de_PM_row_127 rfl 1 rfl ?_
      refine mv_getI (pc := 128) (f := 20) (kc_1 l D E B sa) (Nat.le_of_ble_eq_true rfl) wt_4_100 de_PM_row_128 h123 (fun x128 e128 h128 => ?_)
      refine mv_imul (pc := 131) de_PM_row_131 ?_
      refine mv_iconst (pc := 132) (v := 2) de_PM_row_132 (by decide) ?_
      refine mv_iadd (pc := 133) de_PM_row_133 ?_
      refine mv_iload_n (pc := 134) (i := 3) de_PM_row_134 rfl 4 rfl ?_
      obtain ⟨a135, ha, h135a⟩ := mj_bindE h128
      subst ha
      refine mv_iast (pc := 135) (t := 0) rfl de_PM_row_135 h135a (fun Mm135 e135 h135 => ?_)
      refine mv_aload_n (pc := 136) (i := 0) de_PM_row_136 rfl 1 rfl ?_
      refine mv_getR (pc := 137) (f := 21) (kc_1 l D E B sa) (Nat.le_of_ble_eq_true rfl) wt_4_101 de_PM_row_137 h135 (fun x137 e137 h137 => ?_)
      refine mv_iconst (pc := 140) (v := 5) de_PM_row_140 (by decide) ?_
      refine mv_aload_n (pc := 141) (i := 0) de_PM_row_141 rfl 1 rfl ?_
      refine mv_getI (pc := 142) (f := 20) (kc_1 l D E B sa) (Nat.le_of_ble_eq_true rfl) wt_4_100 de_PM_row_142 h137 (fun x142 e142 h142 => ?_)
      refine mv_imul (pc := 145) de_PM_row_145 ?_
      refine mv_iconst (pc := 146) (v := 3) de_PM_row_146 (by decide) ?_
      refine mv_iadd (pc := 147) de_PM_row_147 ?_
      refine mv_iload (pc := 148) de_PM_row_148 5 rfl ?_
      obtain ⟨a150, ha, h150a⟩ := mj_bindE h142
      subst ha
      refine mv_iast (pc := 150) (t := 0) rfl de_PM_row_150 h150a (fun Mm150 e150 h150 => ?_)
      refine mv_aload_n (pc := 151) (i := 0) de_PM_row_151 rfl 1 rfl ?_
      refine mv_getR (pc := 152) (f := 21) (kc_1 l D E B sa) (Nat.le_of_ble_eq_true rfl) wt_4_101 de_PM_row_152 h150 (fun x152 e152 h152 => ?_)
      refine mv_iconst (pc := 155) (v := 5) de_PM_row_155 (by decide) ?_
      refine mv_aload_n (pc := 156) (i := 0) de_PM_row_156 rfl 1 rfl ?_
      refine mv_getI (pc := 157) (f := 20) (kc_1 l D E B sa) (Nat.le_of_ble_eq_true rfl) wt_4_100 de_PM_row_157 h152 (fun x157 e157 h157 => ?_)
      refine mv_imul (pc := 160) de_PM_row_160 ?_
      refine mv_iconst (pc := 161) (v := 4) de_PM_row_161 (by decide) ?_
      refine mv_iadd (pc := 162) de_PM_row_162 ?_
      refine mv_iload (pc := 163) de_PM_row_163 6 rfl ?_
      obtain ⟨a165, ha, h165a⟩ := mj_bindE h157
      subst ha
      refine mv_iast (pc := 165) (t := 0) rfl de_PM_row_165 h165a (fun Mm165 e165 h165 => ?_)
      refine mv_aload_n (pc := 166) (i := 0) de_PM_row_166 rfl 1 rfl ?_
      refine mv_dup (pc := 167) de_PM_row_167 rfl ?_
      refine mv_getI (pc := 168) (f := 20) (kc_1 l D E B sa) (Nat.le_of_ble_eq_true rfl) wt_4_100 de_PM_row_168 h165 (fun x168 e168 h168 => ?_)
      refine mv_iconst (pc := 171) (v := 1) de_PM_row_171 (by decide) ?_
      refine mv_iadd (pc := 172) de_PM_row_172 ?_
      refine mv_dup_x1 (pc := 173) de_PM_row_173 rfl rfl ?_
      refine mv_put (pc := 174) (f := 20) (kc_1 l D E B sa) (Nat.le_of_ble_eq_true rfl) wt_4_100 rfl rfl rfl de_PM_row_174 h168 (fun Mm174 e174 h174 => ?_)
      exact mv_iret (pc := 177) rfl de_PM_row_177 h174
set_option maxHeartbeats 4000000 in
set_option maxRecDepth 100000 in
theorem tb_PM_row_74 (l : Launch) (D : va_G) (E : Nat → ClassId) (B : Nat) (sa : (Nat → Nat) × Nat × (Nat → Int32)) (M0 M1 : mv_M) (r : Int32) (N : Nat) (M : mv_M) (v0 : Nat) (v1 : Int32) (v2 : Int32) (v3 : Int32) (v4 : Int32) (v5 : Int32) (hJ : jb_PM_row_74 N M v0 v1 v2 v3 v4 v5 = some (r, M1)) : mv_G (xg l D E B sa) kd_PM_row M0 M1 (some (.int r)) M 74 [(0, va_rf (some v0)), (1, .int v1), (2, .int v2), (3, .int v3), (4, .int v4), (5, .int v5)] [] := by
  unfold jb_PM_row_74 at hJ
  refine mv_iconst (pc := 74) (v := 0) de_PM_row_74 (by decide) ?_
  exact mv_sub [0, 1, 2, 3, 4, 5] rfl (tb_PM_row_75 l D E B sa M0 M1 r N M v0 v1 v2 v3 v4 v5 0 hJ)
set_option maxHeartbeats 4000000 in
set_option maxRecDepth 100000 in
theorem tb_PM_row_0 (l : Launch) (D : va_G) (E : Nat → ClassId) (B : Nat) (sa : (Nat → Nat) × Nat × (Nat → Int32)) (M0 M1 : mv_M) (r : Int32) (N : Nat) (M : mv_M) (v0 : Nat) (v1 : Int32) (v2 : Int32) (v3 : Int32) (v4 : Int32) (v5 : Int32) (hJ : jb_PM_row_0 N M v0 v1 v2 v3 v4 v5 = some (r, M1)) : mv_G (xg l D E B sa) kd_PM_row M0 M1 (some (.int r)) M 0 [(0, va_rf (some v0)), (1, .int v1), (2, .int v2), (3, .int v3), (4, .int v4), (5, .int v5)] [] := by
  unfold jb_PM_row_0 at hJ
  refine mv_iload_n (pc := 0) (i := 1) de_PM_row_0 rfl 1 rfl ?_
  refine mv_i2l (pc := 1) de_PM_row_1 ?_
  refine mv_ldc2 (pc := 2) de_PM_row_2 wt_5_127 ?_
  refine mv_ldc2 (pc := 5) de_PM_row_5 wt_5_128 ?_
  obtain ⟨r8, Mm8, hz8, h8⟩ := mj_callE hJ
  refine mv_callS (pc := 8) (n := 3) (av := [.long v1.toInt64, .long (-1000), .long 1000]) (rest := []) de_PM_row_8 (cm_PM_isIn l D E B sa N M v1.toInt64 (-1000) 1000 _ _ hz8) wt_4_197 wt_4_198 wt_1_8 wt_4_199 ⟨by decide, by decide, by decide +kernel⟩ rfl ⟨Nat.le_of_ble_eq_true rfl, Nat.le_of_ble_eq_true rfl⟩ (Nat.le_of_ble_eq_true rfl) rfl ?_
  refine mv_if_eq (pc := 11) (tgt := 74) de_PM_row_11 (by decide) h8 (fun hc11 h11 => ?_) (fun hc11 h11 => ?_)
  · exact mv_sub [0, 1, 2, 3, 4, 5] rfl (tb_PM_row_74 l D E B sa M0 M1 r N Mm8 v0 v1 v2 v3 v4 v5 h11)
  · refine mv_iload_n (pc := 14) (i := 2) de_PM_row_14 rfl 2 rfl ?_
    refine mv_i2l (pc := 15) de_PM_row_15 ?_
    refine mv_ldc2 (pc := 16) de_PM_row_16 wt_5_127 ?_
    refine mv_ldc2 (pc := 19) de_PM_row_19 wt_5_128 ?_
    obtain ⟨r22, Mm22, hz22, h22⟩ := mj_callE h11
    refine mv_callS (pc := 22) (n := 3) (av := [.long v2.toInt64, .long (-1000), .long 1000]) (rest := []) de_PM_row_22 (cm_PM_isIn l D E B sa N Mm8 v2.toInt64 (-1000) 1000 _ _ hz22) wt_4_197 wt_4_198 wt_1_8 wt_4_199 ⟨by decide, by decide, by decide +kernel⟩ rfl ⟨Nat.le_of_ble_eq_true rfl, Nat.le_of_ble_eq_true rfl⟩ (Nat.le_of_ble_eq_true rfl) rfl ?_
    refine mv_if_eq (pc := 25) (tgt := 74) de_PM_row_25 (by decide) h22 (fun hc25 h25 => ?_) (fun hc25 h25 => ?_)
    · exact mv_sub [0, 1, 2, 3, 4, 5] rfl (tb_PM_row_74 l D E B sa M0 M1 r N Mm22 v0 v1 v2 v3 v4 v5 h25)
    · refine mv_iload_n (pc := 28) (i := 3) de_PM_row_28 rfl 3 rfl ?_
      refine mv_i2l (pc := 29) de_PM_row_29 ?_
      refine mv_ldc2 (pc := 30) de_PM_row_30 wt_5_127 ?_
      refine mv_ldc2 (pc := 33) de_PM_row_33 wt_5_128 ?_
      obtain ⟨r36, Mm36, hz36, h36⟩ := mj_callE h25
      refine mv_callS (pc := 36) (n := 3) (av := [.long v3.toInt64, .long (-1000), .long 1000]) (rest := []) de_PM_row_36 (cm_PM_isIn l D E B sa N Mm22 v3.toInt64 (-1000) 1000 _ _ hz36) wt_4_197 wt_4_198 wt_1_8 wt_4_199 ⟨by decide, by decide, by decide +kernel⟩ rfl ⟨Nat.le_of_ble_eq_true rfl, Nat.le_of_ble_eq_true rfl⟩ (Nat.le_of_ble_eq_true rfl) rfl ?_
      refine mv_if_eq (pc := 39) (tgt := 74) de_PM_row_39 (by decide) h36 (fun hc39 h39 => ?_) (fun hc39 h39 => ?_)
      · exact mv_sub [0, 1, 2, 3, 4, 5] rfl (tb_PM_row_74 l D E B sa M0 M1 r N Mm36 v0 v1 v2 v3 v4 v5 h39)
      · refine mv_iload (pc := 42) de_PM_row_42 4 rfl ?_
        refine mv_i2l (pc := 44) de_PM_row_44 ?_
        refine mv_ldc2 (pc := 45) de_PM_row_45 wt_5_127 ?_
        refine mv_ldc2 (pc := 48) de_PM_row_48 wt_5_128 ?_
        obtain ⟨r51, Mm51, hz51, h51⟩ := mj_callE h39
        refine mv_callS (pc := 51) (n := 3) (av := [.long v4.toInt64, .long (-1000), .long 1000]) (rest := []) de_PM_row_51 (cm_PM_isIn l D E B sa N Mm36 v4.toInt64 (-1000) 1000 _ _ hz51) wt_4_197 wt_4_198 wt_1_8 wt_4_199 ⟨by decide, by decide, by decide +kernel⟩ rfl ⟨Nat.le_of_ble_eq_true rfl, Nat.le_of_ble_eq_true rfl⟩ (Nat.le_of_ble_eq_true rfl) rfl ?_
        refine mv_if_eq (pc := 54) (tgt := 74) de_PM_row_54 (by decide) h51 (fun hc54 h54 => ?_) (fun hc54 h54 => ?_)
        · exact mv_sub [0, 1, 2, 3, 4, 5] rfl (tb_PM_row_74 l D E B sa M0 M1 r N Mm51 v0 v1 v2 v3 v4 v5 h54)
        · refine mv_iload (pc := 57) de_PM_row_57 5 rfl ?_
          refine mv_i2l (pc := 59) de_PM_row_59 ?_
          refine mv_lconst (pc := 60) (v := 0) de_PM_row_60 (by decide) ?_
          refine mv_ldc2 (pc := 61) de_PM_row_61 wt_4_196 ?_
          obtain ⟨r64, Mm64, hz64, h64⟩ := mj_callE h54
          refine mv_callS (pc := 64) (n := 3) (av := [.long v5.toInt64, .long 0, .long 3]) (rest := []) de_PM_row_64 (cm_PM_isIn l D E B sa N Mm51 v5.toInt64 0 3 _ _ hz64) wt_4_197 wt_4_198 wt_1_8 wt_4_199 ⟨by decide, by decide, by decide +kernel⟩ rfl ⟨Nat.le_of_ble_eq_true rfl, Nat.le_of_ble_eq_true rfl⟩ (Nat.le_of_ble_eq_true rfl) rfl ?_
          refine mv_if_eq (pc := 67) (tgt := 74) de_PM_row_67 (by decide) h64 (fun hc67 h67 => ?_) (fun hc67 h67 => ?_)
          · exact mv_sub [0, 1, 2, 3, 4, 5] rfl (tb_PM_row_74 l D E B sa M0 M1 r N Mm64 v0 v1 v2 v3 v4 v5 h67)
          · refine mv_iconst (pc := 70) (v := 1) de_PM_row_70 (by decide) ?_
            refine mv_goto (pc := 71) (tgt := 75) de_PM_row_71 (by decide) ?_
            exact mv_sub [0, 1, 2, 3, 4, 5] rfl (tb_PM_row_75 l D E B sa M0 M1 r N Mm64 v0 v1 v2 v3 v4 v5 1 h67)
theorem cm_PM_row (l : Launch) (D : va_G) (E : Nat → ClassId) (B : Nat) (sa : (Nat → Nat) × Nat × (Nat → Int32)) (N : Nat) (M : mv_M) (v0 : Nat) (v1 : Int32) (v2 : Int32) (v3 : Int32) (v4 : Int32) (v5 : Int32) (r : Int32) (M1 : mv_M) (hJ : jf_PM_row N M v0 v1 v2 v3 v4 v5 = some (r, M1)) : mv_Met (xg l D E B sa) yn_PM_row cd_PM_row 7 (some .int) 1 25 [va_rf (some v0), .int v1, .int v2, .int v3, .int v4, .int v5] M (some (.int r)) M1 :=
  mv_enter (by decide) (Nat.le_of_ble_eq_true rfl) (mv_sub (lv := [(0, va_rf (some v0)), (1, .int v1), (2, .int v2), (3, .int v3), (4, .int v4), (5, .int v5)]) [0, 1, 2, 3, 4, 5] rfl (tb_PM_row_0 l D E B sa M M1 r N M v0 v1 v2 v3 v4 v5 hJ))
/-! ===== PlainLearnerModel.part(IIZ)V ===== -/
abbrev kd_PM_part : mv_Kd := (cd_PM_part, 7, "PlainLearnerModel", "part", none, 0, 0)
theorem de_PM_part_0 : decode cd_PM_part 0 = .ok (.aload_n 0, 1) := by decide +kernel
theorem de_PM_part_1 : decode cd_PM_part 1 = .ok (.iconst 0, 1) := by decide +kernel
theorem de_PM_part_2 : decode cd_PM_part 2 = .ok (.putfield 239, 3) := by decide +kernel
theorem de_PM_part_5 : decode cd_PM_part 5 = .ok (.aload_n 0, 1) := by decide +kernel
theorem de_PM_part_6 : decode cd_PM_part 6 = .ok (.iconst 0, 1) := by decide +kernel
theorem de_PM_part_7 : decode cd_PM_part 7 = .ok (.putfield 242, 3) := by decide +kernel
theorem de_PM_part_10 : decode cd_PM_part 10 = .ok (.iconst 0, 1) := by decide +kernel
theorem de_PM_part_11 : decode cd_PM_part 11 = .ok (.istore 4, 2) := by decide +kernel
theorem de_PM_part_13 : decode cd_PM_part 13 = .ok (.iload 4, 2) := by decide +kernel
theorem de_PM_part_15 : decode cd_PM_part 15 = .ok (.iconst 4, 1) := by decide +kernel
theorem de_PM_part_16 : decode cd_PM_part 16 = .ok (.if_icmp .ge 105, 3) := by decide +kernel
theorem de_PM_part_19 : decode cd_PM_part 19 = .ok (.iconst 0, 1) := by decide +kernel
theorem de_PM_part_20 : decode cd_PM_part 20 = .ok (.istore 5, 2) := by decide +kernel
theorem de_PM_part_22 : decode cd_PM_part 22 = .ok (.iconst 0, 1) := by decide +kernel
theorem de_PM_part_23 : decode cd_PM_part 23 = .ok (.istore 6, 2) := by decide +kernel
theorem de_PM_part_25 : decode cd_PM_part 25 = .ok (.iload 6, 2) := by decide +kernel
theorem de_PM_part_27 : decode cd_PM_part 27 = .ok (.aload_n 0, 1) := by decide +kernel
theorem de_PM_part_28 : decode cd_PM_part 28 = .ok (.getfield 236, 3) := by decide +kernel
theorem de_PM_part_31 : decode cd_PM_part 31 = .ok (.if_icmp .ge 59, 3) := by decide +kernel
theorem de_PM_part_34 : decode cd_PM_part 34 = .ok (.iload 5, 2) := by decide +kernel
theorem de_PM_part_36 : decode cd_PM_part 36 = .ok (.aload_n 0, 1) := by decide +kernel
theorem de_PM_part_37 : decode cd_PM_part 37 = .ok (.getfield 48, 3) := by decide +kernel
theorem de_PM_part_40 : decode cd_PM_part 40 = .ok (.iconst 5, 1) := by decide +kernel
theorem de_PM_part_41 : decode cd_PM_part 41 = .ok (.iload 6, 2) := by decide +kernel
theorem de_PM_part_43 : decode cd_PM_part 43 = .ok (.imul, 1) := by decide +kernel
theorem de_PM_part_44 : decode cd_PM_part 44 = .ok (.iconst 4, 1) := by decide +kernel
theorem de_PM_part_45 : decode cd_PM_part 45 = .ok (.iadd, 1) := by decide +kernel
theorem de_PM_part_46 : decode cd_PM_part 46 = .ok (.iaload, 1) := by decide +kernel
theorem de_PM_part_47 : decode cd_PM_part 47 = .ok (.iload 4, 2) := by decide +kernel
theorem de_PM_part_49 : decode cd_PM_part 49 = .ok (.if_icmp .ne 31, 3) := by decide +kernel
theorem de_PM_part_52 : decode cd_PM_part 52 = .ok (.aload_n 0, 1) := by decide +kernel
theorem de_PM_part_53 : decode cd_PM_part 53 = .ok (.getfield 48, 3) := by decide +kernel
theorem de_PM_part_56 : decode cd_PM_part 56 = .ok (.iconst 5, 1) := by decide +kernel
theorem de_PM_part_57 : decode cd_PM_part 57 = .ok (.iload 6, 2) := by decide +kernel
theorem de_PM_part_59 : decode cd_PM_part 59 = .ok (.imul, 1) := by decide +kernel
theorem de_PM_part_60 : decode cd_PM_part 60 = .ok (.iload_n 1, 1) := by decide +kernel
theorem de_PM_part_61 : decode cd_PM_part 61 = .ok (.iadd, 1) := by decide +kernel
theorem de_PM_part_62 : decode cd_PM_part 62 = .ok (.iaload, 1) := by decide +kernel
theorem de_PM_part_63 : decode cd_PM_part 63 = .ok (.iload_n 2, 1) := by decide +kernel
theorem de_PM_part_64 : decode cd_PM_part 64 = .ok (.if_icmp .gt 7, 3) := by decide +kernel
theorem de_PM_part_67 : decode cd_PM_part 67 = .ok (.iconst 1, 1) := by decide +kernel
theorem de_PM_part_68 : decode cd_PM_part 68 = .ok (.goto 4, 3) := by decide +kernel
theorem de_PM_part_71 : decode cd_PM_part 71 = .ok (.iconst 0, 1) := by decide +kernel
theorem de_PM_part_72 : decode cd_PM_part 72 = .ok (.iload_n 3, 1) := by decide +kernel
theorem de_PM_part_73 : decode cd_PM_part 73 = .ok (.if_icmp .ne 7, 3) := by decide +kernel
theorem de_PM_part_76 : decode cd_PM_part 76 = .ok (.iconst 1, 1) := by decide +kernel
theorem de_PM_part_77 : decode cd_PM_part 77 = .ok (.goto 4, 3) := by decide +kernel
theorem de_PM_part_80 : decode cd_PM_part 80 = .ok (.iconst 0, 1) := by decide +kernel
theorem de_PM_part_81 : decode cd_PM_part 81 = .ok (.iadd, 1) := by decide +kernel
theorem de_PM_part_82 : decode cd_PM_part 82 = .ok (.istore 5, 2) := by decide +kernel
theorem de_PM_part_84 : decode cd_PM_part 84 = .ok (.iinc 6 1, 3) := by decide +kernel
theorem de_PM_part_87 : decode cd_PM_part 87 = .ok (.goto (-62), 3) := by decide +kernel
theorem de_PM_part_90 : decode cd_PM_part 90 = .ok (.aload_n 0, 1) := by decide +kernel
theorem de_PM_part_91 : decode cd_PM_part 91 = .ok (.dup, 1) := by decide +kernel
theorem de_PM_part_92 : decode cd_PM_part 92 = .ok (.getfield 239, 3) := by decide +kernel
theorem de_PM_part_95 : decode cd_PM_part 95 = .ok (.iload 5, 2) := by decide +kernel
theorem de_PM_part_97 : decode cd_PM_part 97 = .ok (.iadd, 1) := by decide +kernel
theorem de_PM_part_98 : decode cd_PM_part 98 = .ok (.putfield 239, 3) := by decide +kernel
theorem de_PM_part_101 : decode cd_PM_part 101 = .ok (.aload_n 0, 1) := by decide +kernel
theorem de_PM_part_102 : decode cd_PM_part 102 = .ok (.dup, 1) := by decide +kernel
theorem de_PM_part_103 : decode cd_PM_part 103 = .ok (.getfield 242, 3) := by decide +kernel
theorem de_PM_part_106 : decode cd_PM_part 106 = .ok (.iload 5, 2) := by decide +kernel
theorem de_PM_part_108 : decode cd_PM_part 108 = .ok (.iload 5, 2) := by decide +kernel
theorem de_PM_part_110 : decode cd_PM_part 110 = .ok (.imul, 1) := by decide +kernel
theorem de_PM_part_111 : decode cd_PM_part 111 = .ok (.iadd, 1) := by decide +kernel
theorem de_PM_part_112 : decode cd_PM_part 112 = .ok (.putfield 242, 3) := by decide +kernel
theorem de_PM_part_115 : decode cd_PM_part 115 = .ok (.iinc 4 1, 3) := by decide +kernel
theorem de_PM_part_118 : decode cd_PM_part 118 = .ok (.goto (-105), 3) := by decide +kernel
theorem de_PM_part_121 : decode cd_PM_part 121 = .ok (.return_, 1) := by decide +kernel
def jb_PM_part_81 (N : Nat) (k13 : mv_M → Nat → Int32 → Int32 → Int32 → Int32 → Option (Unit × mv_M)) (k25 : mv_M → Nat → Int32 → Int32 → Int32 → Int32 → Int32 → Int32 → Option (Unit × mv_M)) (M : mv_M) (v0 : Nat) (v1 : Int32) (v2 : Int32) (v3 : Int32) (v4 : Int32) (v6 : Int32) (s0 : Int32) (s1 : Int32) : Option (Unit × mv_M) :=
  k25 M v0 v1 v2 v3 v4 (s0 + s1) (v6 + 1)
def jb_PM_part_80 (N : Nat) (k13 : mv_M → Nat → Int32 → Int32 → Int32 → Int32 → Option (Unit × mv_M)) (k25 : mv_M → Nat → Int32 → Int32 → Int32 → Int32 → Int32 → Int32 → Option (Unit × mv_M)) (M : mv_M) (v0 : Nat) (v1 : Int32) (v2 : Int32) (v3 : Int32) (v4 : Int32) (v6 : Int32) (s0 : Int32) : Option (Unit × mv_M) :=
  jb_PM_part_81 N k13 k25 M v0 v1 v2 v3 v4 v6 s0 0
def jb_PM_part_72 (N : Nat) (k13 : mv_M → Nat → Int32 → Int32 → Int32 → Int32 → Option (Unit × mv_M)) (k25 : mv_M → Nat → Int32 → Int32 → Int32 → Int32 → Int32 → Int32 → Option (Unit × mv_M)) (M : mv_M) (v0 : Nat) (v1 : Int32) (v2 : Int32) (v3 : Int32) (v4 : Int32) (v6 : Int32) (s0 : Int32) (s1 : Int32) : Option (Unit × mv_M) :=
  if s1 = v3 then (jb_PM_part_81 N k13 k25 M v0 v1 v2 v3 v4 v6 s0 1) else
  jb_PM_part_80 N k13 k25 M v0 v1 v2 v3 v4 v6 s0
def jb_PM_part_25 (N : Nat) (k13 : mv_M → Nat → Int32 → Int32 → Int32 → Int32 → Option (Unit × mv_M)) : Nat → mv_M → Nat → Int32 → Int32 → Int32 → Int32 → Int32 → Int32 → Option (Unit × mv_M)
  | 0, _, _, _, _, _, _, _, _ => none
  | n + 1, M, v0, v1, v2, v3, v4, v5, v6 =>
    Option.bind (mj_getI M v0 1 20) fun x28 =>
    if x28 ≤ v6 then (Option.bind (mj_getI M v0 1 22) fun x92 =>
    Option.bind (mj_put M v0 1 22 (.int (x92 + v5))) fun Mm98 =>
    Option.bind (mj_getI Mm98 v0 1 23) fun x103 =>
    Option.bind (mj_put Mm98 v0 1 23 (.int (x103 + (v5 * v5)))) fun Mm112 =>
    k13 Mm112 v0 v1 v2 v3 (v4 + 1)) else
    Option.bind (mj_getR M v0 1 21) fun x37 =>
    Option.bind x37 fun a46 =>
    Option.bind (mj_ild M a46 0 ((5 * v6) + 4)) fun x46 =>
    if x46 = v4 then (Option.bind (mj_getR M v0 1 21) fun x53 =>
    Option.bind x53 fun a62 =>
    Option.bind (mj_ild M a62 0 ((5 * v6) + v1)) fun x62 =>
    if v2 < x62 then (jb_PM_part_72 N k13 (jb_PM_part_25 N k13 n) M v0 v1 v2 v3 v4 v6 v5 0) else
    jb_PM_part_72 N k13 (jb_PM_part_25 N k13 n) M v0 v1 v2 v3 v4 v6 v5 1) else
    jb_PM_part_80 N k13 (jb_PM_part_25 N k13 n) M v0 v1 v2 v3 v4 v6 v5
def jb_PM_part_13 (N : Nat) : Nat → mv_M → Nat → Int32 → Int32 → Int32 → Int32 → Option (Unit × mv_M)
  | 0, _, _, _, _, _, _ => none
  | n + 1, M, v0, v1, v2, v3, v4 =>
    if 4 ≤ v4 then (some ((), M)) else
    jb_PM_part_25 N (jb_PM_part_13 N n) N M v0 v1 v2 v3 v4 0 0
def jb_PM_part_0 (N : Nat) (M : mv_M) (v0 : Nat) (v1 : Int32) (v2 : Int32) (v3 : Int32) : Option (Unit × mv_M) :=
  Option.bind (mj_put M v0 1 22 (.int 0)) fun Mm2 =>
  Option.bind (mj_put Mm2 v0 1 23 (.int 0)) fun Mm7 =>
  jb_PM_part_13 N N Mm7 v0 v1 v2 v3 0
def jf_PM_part (N : Nat) (M : mv_M) (v0 : Nat) (v1 : Int32) (v2 : Int32) (v3 : Int32) : Option (Unit × mv_M) := jb_PM_part_0 N M v0 v1 v2 v3
set_option maxHeartbeats 4000000 in
set_option maxRecDepth 100000 in
theorem tb_PM_part_81 (l : Launch) (D : va_G) (E : Nat → ClassId) (B : Nat) (sa : (Nat → Nat) × Nat × (Nat → Int32)) (M0 M1 : mv_M) (r : Unit) (N : Nat) (k13 : mv_M → Nat → Int32 → Int32 → Int32 → Int32 → Option (Unit × mv_M)) (k25 : mv_M → Nat → Int32 → Int32 → Int32 → Int32 → Int32 → Int32 → Option (Unit × mv_M)) (hk13 : ∀ (M : mv_M) (v0 : Nat) (v1 : Int32) (v2 : Int32) (v3 : Int32) (v4 : Int32), k13 M v0 v1 v2 v3 v4 = some (r, M1) → mv_G (xg l D E B sa) kd_PM_part M0 M1 none M 13 [(0, va_rf (some v0)), (1, .int v1), (2, .int v2), (3, .int v3), (4, .int v4)] []) (hk25 : ∀ (M : mv_M) (v0 : Nat) (v1 : Int32) (v2 : Int32) (v3 : Int32) (v4 : Int32) (v5 : Int32) (v6 : Int32), k25 M v0 v1 v2 v3 v4 v5 v6 = some (r, M1) → mv_G (xg l D E B sa) kd_PM_part M0 M1 none M 25 [(0, va_rf (some v0)), (1, .int v1), (2, .int v2), (3, .int v3), (4, .int v4), (5, .int v5), (6, .int v6)] []) (M : mv_M) (v0 : Nat) (v1 : Int32) (v2 : Int32) (v3 : Int32) (v4 : Int32) (v6 : Int32) (s0 : Int32) (s1 : Int32) (hJ : jb_PM_part_81 N k13 k25 M v0 v1 v2 v3 v4 v6 s0 s1 = some (r, M1)) : mv_G (xg l D E B sa) kd_PM_part M0 M1 none M 81 [(0, va_rf (some v0)), (1, .int v1), (2, .int v2), (3, .int v3), (4, .int v4), (6, .int v6)] [.int s1, .int s0] := by
  unfold jb_PM_part_81 at hJ
  refine mv_iadd (pc := 81) de_PM_part_81 ?_
  refine mv_istore (pc := 82) (lv' := [(5, .int (s0 + s1)), (0, va_rf (some v0)), (1, .int v1), (2, .int v2), (3, .int v3), (4, .int v4), (6, .int v6)]) de_PM_part_82 (Nat.le_of_ble_eq_true rfl) rfl ?_
  refine mv_iinc (pc := 84) (v := (v6 + 1)) (lv' := [(6, .int (v6 + 1)), (5, .int (s0 + s1)), (0, va_rf (some v0)), (1, .int v1), (2, .int v2), (3, .int v3), (4, .int v4)]) de_PM_part_84 6 rfl rfl (Nat.le_of_ble_eq_true rfl) rfl ?_
  refine mv_goto (pc := 87) (tgt := 25) de_PM_part_87 (by decide) ?_
  exact mv_sub [2, 3, 4, 5, 6, 1, 0] rfl (hk25 M v0 v1 v2 v3 v4 (s0 + s1) (v6 + 1) hJ)
set_option maxHeartbeats 4000000 in
set_option maxRecDepth 100000 in
theorem tb_PM_part_80 (l : Launch) (D : va_G) (E : Nat → ClassId) (B : Nat) (sa : (Nat → Nat) × Nat × (Nat → Int32)) (M0 M1 : mv_M) (r : Unit) (N : Nat) (k13 : mv_M → Nat → Int32 → Int32 → Int32 → Int32 → Option (Unit × mv_M)) (k25 : mv_M → Nat → Int32 → Int32 → Int32 → Int32 → Int32 → Int32 → Option (Unit × mv_M)) (hk13 : ∀ (M : mv_M) (v0 : Nat) (v1 : Int32) (v2 : Int32) (v3 : Int32) (v4 : Int32), k13 M v0 v1 v2 v3 v4 = some (r, M1) → mv_G (xg l D E B sa) kd_PM_part M0 M1 none M 13 [(0, va_rf (some v0)), (1, .int v1), (2, .int v2), (3, .int v3), (4, .int v4)] []) (hk25 : ∀ (M : mv_M) (v0 : Nat) (v1 : Int32) (v2 : Int32) (v3 : Int32) (v4 : Int32) (v5 : Int32) (v6 : Int32), k25 M v0 v1 v2 v3 v4 v5 v6 = some (r, M1) → mv_G (xg l D E B sa) kd_PM_part M0 M1 none M 25 [(0, va_rf (some v0)), (1, .int v1), (2, .int v2), (3, .int v3), (4, .int v4), (5, .int v5), (6, .int v6)] []) (M : mv_M) (v0 : Nat) (v1 : Int32) (v2 : Int32) (v3 : Int32) (v4 : Int32) (v6 : Int32) (s0 : Int32) (hJ : jb_PM_part_80 N k13 k25 M v0 v1 v2 v3 v4 v6 s0 = some (r, M1)) : mv_G (xg l D E B sa) kd_PM_part M0 M1 none M 80 [(0, va_rf (some v0)), (1, .int v1), (2, .int v2), (3, .int v3), (4, .int v4), (6, .int v6)] [.int s0] := by
  unfold jb_PM_part_80 at hJ
  refine mv_iconst (pc := 80) (v := 0) de_PM_part_80 (by decide) ?_
  exact mv_sub [0, 1, 2, 3, 4, 5] rfl (tb_PM_part_81 l D E B sa M0 M1 r N k13 k25 hk13 hk25 M v0 v1 v2 v3 v4 v6 s0 0 hJ)
set_option maxHeartbeats 4000000 in
set_option maxRecDepth 100000 in
theorem tb_PM_part_72 (l : Launch) (D : va_G) (E : Nat → ClassId) (B : Nat) (sa : (Nat → Nat) × Nat × (Nat → Int32)) (M0 M1 : mv_M) (r : Unit) (N : Nat) (k13 : mv_M → Nat → Int32 → Int32 → Int32 → Int32 → Option (Unit × mv_M)) (k25 : mv_M → Nat → Int32 → Int32 → Int32 → Int32 → Int32 → Int32 → Option (Unit × mv_M)) (hk13 : ∀ (M : mv_M) (v0 : Nat) (v1 : Int32) (v2 : Int32) (v3 : Int32) (v4 : Int32), k13 M v0 v1 v2 v3 v4 = some (r, M1) → mv_G (xg l D E B sa) kd_PM_part M0 M1 none M 13 [(0, va_rf (some v0)), (1, .int v1), (2, .int v2), (3, .int v3), (4, .int v4)] []) (hk25 : ∀ (M : mv_M) (v0 : Nat) (v1 : Int32) (v2 : Int32) (v3 : Int32) (v4 : Int32) (v5 : Int32) (v6 : Int32), k25 M v0 v1 v2 v3 v4 v5 v6 = some (r, M1) → mv_G (xg l D E B sa) kd_PM_part M0 M1 none M 25 [(0, va_rf (some v0)), (1, .int v1), (2, .int v2), (3, .int v3), (4, .int v4), (5, .int v5), (6, .int v6)] []) (M : mv_M) (v0 : Nat) (v1 : Int32) (v2 : Int32) (v3 : Int32) (v4 : Int32) (v6 : Int32) (s0 : Int32) (s1 : Int32) (hJ : jb_PM_part_72 N k13 k25 M v0 v1 v2 v3 v4 v6 s0 s1 = some (r, M1)) : mv_G (xg l D E B sa) kd_PM_part M0 M1 none M 72 [(0, va_rf (some v0)), (1, .int v1), (2, .int v2), (3, .int v3), (4, .int v4), (6, .int v6)] [.int s1, .int s0] := by
  unfold jb_PM_part_72 at hJ
  refine mv_iload_n (pc := 72) (i := 3) de_PM_part_72 rfl 3 rfl ?_
  refine mv_icmp_ne (pc := 73) (tgt := 80) de_PM_part_73 (by decide) hJ (fun hc73 h73 => ?_) (fun hc73 h73 => ?_)
  · refine mv_iconst (pc := 76) (v := 1) de_PM_part_76 (by decide) ?_
    refine mv_goto (pc := 77) (tgt := 81) de_PM_part_77 (by decide) ?_
    exact mv_sub [0, 1, 2, 3, 4, 5] rfl (tb_PM_part_81 l D E B sa M0 M1 r N k13 k25 hk13 hk25 M v0 v1 v2 v3 v4 v6 s0 1 h73)
  · exact mv_sub [0, 1, 2, 3, 4, 5] rfl (tb_PM_part_80 l D E B sa M0 M1 r N k13 k25 hk13 hk25 M v0 v1 v2 v3 v4 v6 s0 h73)
set_option maxHeartbeats 4000000 in
set_option maxRecDepth 100000 in
theorem tb_PM_part_25 (l : Launch) (D : va_G) (E : Nat → ClassId) (B : Nat) (sa : (Nat → Nat) × Nat × (Nat → Int32)) (M0 M1 : mv_M) (r : Unit) (N : Nat) (k13 : mv_M → Nat → Int32 → Int32 → Int32 → Int32 → Option (Unit × mv_M)) (hk13 : ∀ (M : mv_M) (v0 : Nat) (v1 : Int32) (v2 : Int32) (v3 : Int32) (v4 : Int32), k13 M v0 v1 v2 v3 v4 = some (r, M1) → mv_G (xg l D E B sa) kd_PM_part M0 M1 none M 13 [(0, va_rf (some v0)), (1, .int v1), (2, .int v2), (3, .int v3), (4, .int v4)] []) : ∀ (n : Nat) (M : mv_M) (v0 : Nat) (v1 : Int32) (v2 : Int32) (v3 : Int32) (v4 : Int32) (v5 : Int32) (v6 : Int32) (hJ : jb_PM_part_25 N k13 n M v0 v1 v2 v3 v4 v5 v6 = some (r, M1)), mv_G (xg l D E B sa) kd_PM_part M0 M1 none M 25 [(0, va_rf (some v0)), (1, .int v1), (2, .int v2), (3, .int v3), (4, .int v4), (5, .int v5), (6, .int v6)] [] := by
  intro n
  induction n with
  | zero => intro M v0 v1 v2 v3 v4 v5 v6 hJ; cases hJ
  | succ n ih =>
    intro M v0 v1 v2 v3 v4 v5 v6 hJ
    rw [jb_PM_part_25] at hJ
    refine mv_iload (pc := 25) de_PM_part_25 6 rfl ?_
    refine mv_aload_n (pc := 27) (i := 0) de_PM_part_27 rfl 0 rfl ?_
    refine mv_getI (pc := 28) (f := 20) (kc_1 l D E B sa) (Nat.le_of_ble_eq_true rfl) wt_4_100 de_PM_part_28 hJ (fun x28 e28 h28 => ?_)
    refine mv_icmp_ge (pc := 31) (tgt := 90) de_PM_part_31 (by decide) h28 (fun hc31 h31 => ?_) (fun hc31 h31 => ?_)
    · refine mv_aload_n (pc := 90) (i := 0) de_PM_part_90 rfl 0 rfl ?_
      refine mv_dup (pc := 91) de_PM_part_91 rfl ?_
      refine mv_getI (pc := 92) (f := 22) (kc_1 l D E B sa) (Nat.le_of_ble_eq_true rfl) wt_4_102 de_PM_part_92 h31 (fun x92 e92 h92 => ?_)
      refine mv_iload (pc := 95) de_PM_part_95 5 rfl ?_
      refine mv_iadd (pc := 97) de_PM_part_97 ?_
      refine mv_put (pc := 98) (f := 22) (kc_1 l D E B sa) (Nat.le_of_ble_eq_true rfl) wt_4_102 rfl rfl rfl de_PM_part_98 h92 (fun Mm98 e98 h98 => ?_)
      refine mv_aload_n (pc := 101) (i := 0) de_PM_part_101 rfl 0 rfl ?_
      refine mv_dup (pc := 102) de_PM_part_102 rfl ?_
      refine mv_getI (pc := 103) (f := 23) (kc_1 l D E B sa) (Nat.le_of_ble_eq_true rfl) wt_4_103 de_PM_part_103 h98 (fun x103 e103 h103 => ?_)
      refine mv_iload (pc := 106) de_PM_part_106 5 rfl ?_
      refine mv_iload (pc := 108) de_PM_part_108 5 rfl ?_
      refine mv_imul (pc := 110) de_PM_part_110 ?_
      refine mv_iadd (pc := 111) de_PM_part_111 ?_
      refine mv_put (pc := 112) (f := 23) (kc_1 l D E B sa) (Nat.le_of_ble_eq_true rfl) wt_4_103 rfl rfl rfl de_PM_part_112 h103 (fun Mm112 e112 h112 => ?_)
      refine mv_iinc (pc := 115) (v := (v4 + 1)) (lv' := [(4, .int (v4 + 1)), (0, va_rf (some v0)), (1, .int v1), (2, .int v2), (3, .int v3), (5, .int v5), (6, .int v6)]) de_PM_part_115 4 rfl rfl (Nat.le_of_ble_eq_true rfl) rfl ?_
      refine mv_goto (pc := 118) (tgt := 13) de_PM_part_118 (by decide) ?_
      exact mv_sub [1, 2, 3, 4, 0] rfl (hk13 Mm112 v0 v1 v2 v3 (v4 + 1) h112)
    · refine mv_iload (pc := 34) de_PM_part_34 5 rfl ?_
      refine mv_aload_n (pc := 36) (i := 0) de_PM_part_36 rfl 0 rfl ?_
      refine mv_getR (pc := 37) (f := 21) (kc_1 l D E B sa) (Nat.le_of_ble_eq_true rfl) wt_4_101 de_PM_part_37 h31 (fun x37 e37 h37 => ?_)
      refine mv_iconst (pc := 40) (v := 5) de_PM_part_40 (by decide) ?_
      refine mv_iload (pc := 41) de_PM_part_41 6 rfl ?_
      refine mv_imul (pc := 43) de_PM_part_43 ?_
      refine mv_iconst (pc := 44) (v := 4) de_PM_part_44 (by decide) ?_
      refine mv_iadd (pc := 45) de_PM_part_45 ?_
      obtain ⟨a46, ha, h46a⟩ := mj_bindE h37
      subst ha
      refine mv_iald (pc := 46) (t := 0) rfl de_PM_part_46 h46a (fun x46 e46 h46 => ?_)
      refine mv_iload (pc := 47) de_PM_part_47 4 rfl ?_
      refine mv_icmp_ne (pc := 49) (tgt := 80) de_PM_part_49 (by decide) h46 (fun hc49 h49 => ?_) (fun hc49 h49 => ?_)
      · refine mv_aload_n (pc := 52) (i := 0) de_PM_part_52 rfl 0 rfl ?_
        refine mv_getR (pc := 53) (f := 21) (kc_1 l D E B sa) (Nat.le_of_ble_eq_true rfl) wt_4_101 de_PM_part_53 h49 (fun x53 e53 h53 => ?_)
        refine mv_iconst (pc := 56) (v := 5) de_PM_part_56 (by decide) ?_
        refine mv_iload (pc := 57) de_PM_part_57 6 rfl ?_
        refine mv_imul (pc := 59) de_PM_part_59 ?_
        refine mv_iload_n (pc := 60) (i := 1) de_PM_part_60 rfl 1 rfl ?_
        refine mv_iadd (pc := 61) de_PM_part_61 ?_
        obtain ⟨a62, ha, h62a⟩ := mj_bindE h53
        subst ha
        refine mv_iald (pc := 62) (t := 0) rfl de_PM_part_62 h62a (fun x62 e62 h62 => ?_)
        refine mv_iload_n (pc := 63) (i := 2) de_PM_part_63 rfl 2 rfl ?_
        refine mv_icmp_gt (pc := 64) (tgt := 71) de_PM_part_64 (by decide) h62 (fun hc64 h64 => ?_) (fun hc64 h64 => ?_)
        · refine mv_iconst (pc := 71) (v := 0) de_PM_part_71 (by decide) ?_
          exact mv_sub [0, 1, 2, 3, 4, 6] rfl (tb_PM_part_72 l D E B sa M0 M1 r N k13 (jb_PM_part_25 N k13 n) hk13 ih M v0 v1 v2 v3 v4 v6 v5 0 h64)
        · refine mv_iconst (pc := 67) (v := 1) de_PM_part_67 (by decide) ?_
          refine mv_goto (pc := 68) (tgt := 72) de_PM_part_68 (by decide) ?_
          exact mv_sub [0, 1, 2, 3, 4, 6] rfl (tb_PM_part_72 l D E B sa M0 M1 r N k13 (jb_PM_part_25 N k13 n) hk13 ih M v0 v1 v2 v3 v4 v6 v5 1 h64)
      · exact mv_sub [0, 1, 2, 3, 4, 6] rfl (tb_PM_part_80 l D E B sa M0 M1 r N k13 (jb_PM_part_25 N k13 n) hk13 ih M v0 v1 v2 v3 v4 v6 v5 h49)
set_option maxHeartbeats 4000000 in
set_option maxRecDepth 100000 in
theorem tb_PM_part_13 (l : Launch) (D : va_G) (E : Nat → ClassId) (B : Nat) (sa : (Nat → Nat) × Nat × (Nat → Int32)) (M0 M1 : mv_M) (r : Unit) (N : Nat) : ∀ (n : Nat) (M : mv_M) (v0 : Nat) (v1 : Int32) (v2 : Int32) (v3 : Int32) (v4 : Int32) (hJ : jb_PM_part_13 N n M v0 v1 v2 v3 v4 = some (r, M1)), mv_G (xg l D E B sa) kd_PM_part M0 M1 none M 13 [(0, va_rf (some v0)), (1, .int v1), (2, .int v2), (3, .int v3), (4, .int v4)] [] := by
  intro n
  induction n with
  | zero => intro M v0 v1 v2 v3 v4 hJ; cases hJ
  | succ n ih =>
    intro M v0 v1 v2 v3 v4 hJ
    rw [jb_PM_part_13] at hJ
    refine mv_iload (pc := 13) de_PM_part_13 4 rfl ?_
    refine mv_iconst (pc := 15) (v := 4) de_PM_part_15 (by decide) ?_
    refine mv_icmp_ge (pc := 16) (tgt := 121) de_PM_part_16 (by decide) hJ (fun hc16 h16 => ?_) (fun hc16 h16 => ?_)
    · exact mv_vret (pc := 121) rfl de_PM_part_121 h16
    · refine mv_iconst (pc := 19) (v := 0) de_PM_part_19 (by decide) ?_
      refine mv_istore (pc := 20) (lv' := [(5, .int 0), (0, va_rf (some v0)), (1, .int v1), (2, .int v2), (3, .int v3), (4, .int v4)]) de_PM_part_20 (Nat.le_of_ble_eq_true rfl) rfl ?_
      refine mv_iconst (pc := 22) (v := 0) de_PM_part_22 (by decide) ?_
      refine mv_istore (pc := 23) (lv' := [(6, .int 0), (5, .int 0), (0, va_rf (some v0)), (1, .int v1), (2, .int v2), (3, .int v3), (4, .int v4)]) de_PM_part_23 (Nat.le_of_ble_eq_true rfl) rfl ?_
      exact mv_sub [2, 3, 4, 5, 6, 1, 0] rfl (tb_PM_part_25 l D E B sa M0 M1 r N (jb_PM_part_13 N n) ih N M v0 v1 v2 v3 v4 0 0 h16)
set_option maxHeartbeats 4000000 in
set_option maxRecDepth 100000 in
theorem tb_PM_part_0 (l : Launch) (D : va_G) (E : Nat → ClassId) (B : Nat) (sa : (Nat → Nat) × Nat × (Nat → Int32)) (M0 M1 : mv_M) (r : Unit) (N : Nat) (M : mv_M) (v0 : Nat) (v1 : Int32) (v2 : Int32) (v3 : Int32) (hJ : jb_PM_part_0 N M v0 v1 v2 v3 = some (r, M1)) : mv_G (xg l D E B sa) kd_PM_part M0 M1 none M 0 [(0, va_rf (some v0)), (1, .int v1), (2, .int v2), (3, .int v3)] [] := by
  unfold jb_PM_part_0 at hJ
  refine mv_aload_n (pc := 0) (i := 0) de_PM_part_0 rfl 0 rfl ?_
  refine mv_iconst (pc := 1) (v := 0) de_PM_part_1 (by decide) ?_
  refine mv_put (pc := 2) (f := 22) (kc_1 l D E B sa) (Nat.le_of_ble_eq_true rfl) wt_4_102 rfl rfl rfl de_PM_part_2 hJ (fun Mm2 e2 h2 => ?_)
  refine mv_aload_n (pc := 5) (i := 0) de_PM_part_5 rfl 0 rfl ?_
  refine mv_iconst (pc := 6) (v := 0) de_PM_part_6 (by decide) ?_
  refine mv_put (pc := 7) (f := 23) (kc_1 l D E B sa) (Nat.le_of_ble_eq_true rfl) wt_4_103 rfl rfl rfl de_PM_part_7 h2 (fun Mm7 e7 h7 => ?_)
  refine mv_iconst (pc := 10) (v := 0) de_PM_part_10 (by decide) ?_
  refine mv_istore (pc := 11) (lv' := [(4, .int 0), (0, va_rf (some v0)), (1, .int v1), (2, .int v2), (3, .int v3)]) de_PM_part_11 (Nat.le_of_ble_eq_true rfl) rfl ?_
  exact mv_sub [1, 2, 3, 4, 0] rfl (tb_PM_part_13 l D E B sa M0 M1 r N N Mm7 v0 v1 v2 v3 0 h7)
theorem cm_PM_part (l : Launch) (D : va_G) (E : Nat → ClassId) (B : Nat) (sa : (Nat → Nat) × Nat × (Nat → Int32)) (N : Nat) (M : mv_M) (v0 : Nat) (v1 : Int32) (v2 : Int32) (v3 : Int32) (r : Unit) (M1 : mv_M) (hJ : jf_PM_part N M v0 v1 v2 v3 = some (r, M1)) : mv_Met (xg l D E B sa) yn_PM_part cd_PM_part 7 none 0 0 [va_rf (some v0), .int v1, .int v2, .int v3] M none M1 :=
  mv_enter (by decide) (Nat.le_of_ble_eq_true rfl) (mv_sub (lv := [(0, va_rf (some v0)), (1, .int v1), (2, .int v2), (3, .int v3)]) [0, 1, 2, 3] rfl (tb_PM_part_0 l D E B sa M M1 r N M v0 v1 v2 v3 hJ))
/-! ===== PlainLearnerModel.costs(II)Z ===== -/
abbrev kd_PM_costs : mv_Kd := (cd_PM_costs, 11, "PlainLearnerModel", "costs", (some .boolean), 1, 30)
theorem de_PM_costs_0 : decode cd_PM_costs 0 = .ok (.aload_n 0, 1) := by decide +kernel
theorem de_PM_costs_1 : decode cd_PM_costs 1 = .ok (.iload_n 1, 1) := by decide +kernel
theorem de_PM_costs_2 : decode cd_PM_costs 2 = .ok (.iload_n 2, 1) := by decide +kernel
theorem de_PM_costs_3 : decode cd_PM_costs 3 = .ok (.iconst 1, 1) := by decide +kernel
theorem de_PM_costs_4 : decode cd_PM_costs 4 = .ok (.invokevirtual 245, 3) := by decide +kernel
theorem de_PM_costs_7 : decode cd_PM_costs 7 = .ok (.aload_n 0, 1) := by decide +kernel
theorem de_PM_costs_8 : decode cd_PM_costs 8 = .ok (.getfield 239, 3) := by decide +kernel
theorem de_PM_costs_11 : decode cd_PM_costs 11 = .ok (.i2l, 1) := by decide +kernel
theorem de_PM_costs_12 : decode cd_PM_costs 12 = .ok (.lstore_n 3, 1) := by decide +kernel
theorem de_PM_costs_13 : decode cd_PM_costs 13 = .ok (.aload_n 0, 1) := by decide +kernel
theorem de_PM_costs_14 : decode cd_PM_costs 14 = .ok (.getfield 242, 3) := by decide +kernel
theorem de_PM_costs_17 : decode cd_PM_costs 17 = .ok (.i2l, 1) := by decide +kernel
theorem de_PM_costs_18 : decode cd_PM_costs 18 = .ok (.lstore 5, 2) := by decide +kernel
theorem de_PM_costs_20 : decode cd_PM_costs 20 = .ok (.aload_n 0, 1) := by decide +kernel
theorem de_PM_costs_21 : decode cd_PM_costs 21 = .ok (.iload_n 1, 1) := by decide +kernel
theorem de_PM_costs_22 : decode cd_PM_costs 22 = .ok (.iload_n 2, 1) := by decide +kernel
theorem de_PM_costs_23 : decode cd_PM_costs 23 = .ok (.iconst 0, 1) := by decide +kernel
theorem de_PM_costs_24 : decode cd_PM_costs 24 = .ok (.invokevirtual 245, 3) := by decide +kernel
theorem de_PM_costs_27 : decode cd_PM_costs 27 = .ok (.aload_n 0, 1) := by decide +kernel
theorem de_PM_costs_28 : decode cd_PM_costs 28 = .ok (.lconst 0, 1) := by decide +kernel
theorem de_PM_costs_29 : decode cd_PM_costs 29 = .ok (.lconst 0, 1) := by decide +kernel
theorem de_PM_costs_30 : decode cd_PM_costs 30 = .ok (.invokevirtual 91, 3) := by decide +kernel
theorem de_PM_costs_33 : decode cd_PM_costs 33 = .ok (.lload_n 3, 1) := by decide +kernel
theorem de_PM_costs_34 : decode cd_PM_costs 34 = .ok (.lconst 0, 1) := by decide +kernel
theorem de_PM_costs_35 : decode cd_PM_costs 35 = .ok (.lcmp, 1) := by decide +kernel
theorem de_PM_costs_36 : decode cd_PM_costs 36 = .ok (.ifCond .eq 10, 3) := by decide +kernel
theorem de_PM_costs_39 : decode cd_PM_costs 39 = .ok (.aload_n 0, 1) := by decide +kernel
theorem de_PM_costs_40 : decode cd_PM_costs 40 = .ok (.getfield 239, 3) := by decide +kernel
theorem de_PM_costs_43 : decode cd_PM_costs 43 = .ok (.ifCond .ne 5, 3) := by decide +kernel
theorem de_PM_costs_46 : decode cd_PM_costs 46 = .ok (.iconst 0, 1) := by decide +kernel
theorem de_PM_costs_47 : decode cd_PM_costs 47 = .ok (.ireturn, 1) := by decide +kernel
theorem de_PM_costs_48 : decode cd_PM_costs 48 = .ok (.aload_n 0, 1) := by decide +kernel
theorem de_PM_costs_49 : decode cd_PM_costs 49 = .ok (.getfield 239, 3) := by decide +kernel
theorem de_PM_costs_52 : decode cd_PM_costs 52 = .ok (.i2l, 1) := by decide +kernel
theorem de_PM_costs_53 : decode cd_PM_costs 53 = .ok (.lstore 7, 2) := by decide +kernel
theorem de_PM_costs_55 : decode cd_PM_costs 55 = .ok (.aload_n 0, 1) := by decide +kernel
theorem de_PM_costs_56 : decode cd_PM_costs 56 = .ok (.getfield 242, 3) := by decide +kernel
theorem de_PM_costs_59 : decode cd_PM_costs 59 = .ok (.i2l, 1) := by decide +kernel
theorem de_PM_costs_60 : decode cd_PM_costs 60 = .ok (.lstore 9, 2) := by decide +kernel
theorem de_PM_costs_62 : decode cd_PM_costs 62 = .ok (.aload_n 0, 1) := by decide +kernel
theorem de_PM_costs_63 : decode cd_PM_costs 63 = .ok (.lload_n 3, 1) := by decide +kernel
theorem de_PM_costs_64 : decode cd_PM_costs 64 = .ok (.lload_n 3, 1) := by decide +kernel
theorem de_PM_costs_65 : decode cd_PM_costs 65 = .ok (.lmul, 1) := by decide +kernel
theorem de_PM_costs_66 : decode cd_PM_costs 66 = .ok (.lload 5, 2) := by decide +kernel
theorem de_PM_costs_68 : decode cd_PM_costs 68 = .ok (.lsub, 1) := by decide +kernel
theorem de_PM_costs_69 : decode cd_PM_costs 69 = .ok (.lload 7, 2) := by decide +kernel
theorem de_PM_costs_71 : decode cd_PM_costs 71 = .ok (.lmul, 1) := by decide +kernel
theorem de_PM_costs_72 : decode cd_PM_costs 72 = .ok (.lload 7, 2) := by decide +kernel
theorem de_PM_costs_74 : decode cd_PM_costs 74 = .ok (.lload 7, 2) := by decide +kernel
theorem de_PM_costs_76 : decode cd_PM_costs 76 = .ok (.lmul, 1) := by decide +kernel
theorem de_PM_costs_77 : decode cd_PM_costs 77 = .ok (.lload 9, 2) := by decide +kernel
theorem de_PM_costs_79 : decode cd_PM_costs 79 = .ok (.lsub, 1) := by decide +kernel
theorem de_PM_costs_80 : decode cd_PM_costs 80 = .ok (.lload_n 3, 1) := by decide +kernel
theorem de_PM_costs_81 : decode cd_PM_costs 81 = .ok (.lmul, 1) := by decide +kernel
theorem de_PM_costs_82 : decode cd_PM_costs 82 = .ok (.ladd, 1) := by decide +kernel
theorem de_PM_costs_83 : decode cd_PM_costs 83 = .ok (.lload_n 3, 1) := by decide +kernel
theorem de_PM_costs_84 : decode cd_PM_costs 84 = .ok (.lload 7, 2) := by decide +kernel
theorem de_PM_costs_86 : decode cd_PM_costs 86 = .ok (.lmul, 1) := by decide +kernel
theorem de_PM_costs_87 : decode cd_PM_costs 87 = .ok (.lload_n 3, 1) := by decide +kernel
theorem de_PM_costs_88 : decode cd_PM_costs 88 = .ok (.lload 7, 2) := by decide +kernel
theorem de_PM_costs_90 : decode cd_PM_costs 90 = .ok (.ladd, 1) := by decide +kernel
theorem de_PM_costs_91 : decode cd_PM_costs 91 = .ok (.lmul, 1) := by decide +kernel
theorem de_PM_costs_92 : decode cd_PM_costs 92 = .ok (.invokevirtual 91, 3) := by decide +kernel
theorem de_PM_costs_95 : decode cd_PM_costs 95 = .ok (.iconst 1, 1) := by decide +kernel
theorem de_PM_costs_96 : decode cd_PM_costs 96 = .ok (.ireturn, 1) := by decide +kernel
def jb_PM_costs_46 (N : Nat) (M : mv_M) : Option (Int32 × mv_M) :=
  if (0 : Int32) = 0 ∨ (0 : Int32) = 1 then some (0, M) else none
def jb_PM_costs_0 (N : Nat) (M : mv_M) (v0 : Nat) (v1 : Int32) (v2 : Int32) : Option (Int32 × mv_M) :=
  mj_ob M v0 1 <|
  mj_call (jf_PM_part N M v0 v1 v2 1) fun r4 Mm4 =>
  Option.bind (mj_getI Mm4 v0 1 22) fun x8 =>
  Option.bind (mj_getI Mm4 v0 1 23) fun x14 =>
  mj_ob Mm4 v0 1 <|
  mj_call (jf_PM_part N Mm4 v0 v1 v2 0) fun r24 Mm24 =>
  mj_ob Mm24 v0 1 <|
  mj_call (jf_PM_least N Mm24 v0 0 0) fun r30 Mm30 =>
  if (lg_cmp x8.toInt64 0) = 0 then (jb_PM_costs_46 N Mm30) else
  Option.bind (mj_getI Mm30 v0 1 22) fun x40 =>
  if x40 = 0 then (jb_PM_costs_46 N Mm30) else
  Option.bind (mj_getI Mm30 v0 1 22) fun x49 =>
  Option.bind (mj_getI Mm30 v0 1 23) fun x56 =>
  mj_ob Mm30 v0 1 <|
  mj_call (jf_PM_least N Mm30 v0 ((((x8.toInt64 * x8.toInt64) - x14.toInt64) * x49.toInt64) + (((x49.toInt64 * x49.toInt64) - x56.toInt64) * x8.toInt64)) ((x8.toInt64 * x49.toInt64) * (x8.toInt64 + x49.toInt64))) fun r92 Mm92 =>
  if (1 : Int32) = 0 ∨ (1 : Int32) = 1 then some (1, Mm92) else none
def jf_PM_costs (N : Nat) (M : mv_M) (v0 : Nat) (v1 : Int32) (v2 : Int32) : Option (Int32 × mv_M) := jb_PM_costs_0 N M v0 v1 v2
set_option maxHeartbeats 4000000 in
set_option maxRecDepth 100000 in
theorem tb_PM_costs_46 (l : Launch) (D : va_G) (E : Nat → ClassId) (B : Nat) (sa : (Nat → Nat) × Nat × (Nat → Int32)) (M0 M1 : mv_M) (r : Int32) (N : Nat) (M : mv_M) (hJ : jb_PM_costs_46 N M = some (r, M1)) : mv_G (xg l D E B sa) kd_PM_costs M0 M1 (some (.int r)) M 46 [] [] := by
  unfold jb_PM_costs_46 at hJ
  refine mv_iconst (pc := 46) (v := 0) de_PM_costs_46 (by decide) ?_
  exact mv_zret (pc := 47) rfl de_PM_costs_47 hJ
set_option maxHeartbeats 4000000 in
set_option maxRecDepth 100000 in
theorem tb_PM_costs_0 (l : Launch) (D : va_G) (E : Nat → ClassId) (B : Nat) (sa : (Nat → Nat) × Nat × (Nat → Int32)) (M0 M1 : mv_M) (r : Int32) (N : Nat) (M : mv_M) (v0 : Nat) (v1 : Int32) (v2 : Int32) (hJ : jb_PM_costs_0 N M v0 v1 v2 = some (r, M1)) : mv_G (xg l D E B sa) kd_PM_costs M0 M1 (some (.int r)) M 0 [(0, va_rf (some v0)), (1, .int v1), (2, .int v2)] [] := by
  unfold jb_PM_costs_0 at hJ
  refine mv_aload_n (pc := 0) (i := 0) de_PM_costs_0 rfl 0 rfl ?_
  refine mv_iload_n (pc := 1) (i := 1) de_PM_costs_1 rfl 1 rfl ?_
  refine mv_iload_n (pc := 2) (i := 2) de_PM_costs_2 rfl 2 rfl ?_
  refine mv_iconst (pc := 3) (v := 1) de_PM_costs_3 (by decide) ?_
  obtain ⟨hi4, h4o⟩ := mj_obE hJ
  obtain ⟨r4, Mm4, hz4, h4⟩ := mj_callE h4o
  refine mv_callV (pc := 4) (n := 3) (av := [.int v1, .int v2, .int 1]) (rest := []) de_PM_costs_4 (kc_1 l D E B sa) hi4 (cm_PM_part l D E B sa N M v0 v1 v2 1 _ _ hz4) wt_5_137 wt_5_139 wp_55 wt_1_8 wt_5_140 ⟨by decide, by decide, by decide +kernel⟩ rfl ⟨Nat.le_of_ble_eq_true rfl, Nat.le_of_ble_eq_true rfl⟩ (Nat.le_of_ble_eq_true rfl) rfl ?_
  refine mv_aload_n (pc := 7) (i := 0) de_PM_costs_7 rfl 0 rfl ?_
  refine mv_getI (pc := 8) (f := 22) (kc_1 l D E B sa) (Nat.le_of_ble_eq_true rfl) wt_4_102 de_PM_costs_8 h4 (fun x8 e8 h8 => ?_)
  refine mv_i2l (pc := 11) de_PM_costs_11 ?_
  refine mv_lstore_n (pc := 12) (i := 3) (lv' := [(3, .long x8.toInt64), (0, va_rf (some v0)), (1, .int v1), (2, .int v2)]) de_PM_costs_12 rfl (Nat.le_of_ble_eq_true rfl) rfl ?_
  refine mv_aload_n (pc := 13) (i := 0) de_PM_costs_13 rfl 1 rfl ?_
  refine mv_getI (pc := 14) (f := 23) (kc_1 l D E B sa) (Nat.le_of_ble_eq_true rfl) wt_4_103 de_PM_costs_14 h8 (fun x14 e14 h14 => ?_)
  refine mv_i2l (pc := 17) de_PM_costs_17 ?_
  refine mv_lstore (pc := 18) (lv' := [(5, .long x14.toInt64), (3, .long x8.toInt64), (0, va_rf (some v0)), (1, .int v1), (2, .int v2)]) de_PM_costs_18 (Nat.le_of_ble_eq_true rfl) rfl ?_
  refine mv_aload_n (pc := 20) (i := 0) de_PM_costs_20 rfl 2 rfl ?_
  refine mv_iload_n (pc := 21) (i := 1) de_PM_costs_21 rfl 3 rfl ?_
  refine mv_iload_n (pc := 22) (i := 2) de_PM_costs_22 rfl 4 rfl ?_
  refine mv_iconst (pc := 23) (v := 0) de_PM_costs_23 (by decide) ?_
  obtain ⟨hi24, h24o⟩ := mj_obE h14
  obtain ⟨r24, Mm24, hz24, h24⟩ := mj_callE h24o
  refine mv_callV (pc := 24) (n := 3) (av := [.int v1, .int v2, .int 0]) (rest := []) de_PM_costs_24 (kc_1 l D E B sa) hi24 (cm_PM_part l D E B sa N Mm4 v0 v1 v2 0 _ _ hz24) wt_5_137 wt_5_139 wp_55 wt_1_8 wt_5_140 ⟨by decide, by decide, by decide +kernel⟩ rfl ⟨Nat.le_of_ble_eq_true rfl, Nat.le_of_ble_eq_true rfl⟩ (Nat.le_of_ble_eq_true rfl) rfl ?_
  refine mv_aload_n (pc := 27) (i := 0) de_PM_costs_27 rfl 2 rfl ?_
  refine mv_lconst (pc := 28) (v := 0) de_PM_costs_28 (by decide) ?_
  refine mv_lconst (pc := 29) (v := 0) de_PM_costs_29 (by decide) ?_
  obtain ⟨hi30, h30o⟩ := mj_obE h24
  obtain ⟨r30, Mm30, hz30, h30⟩ := mj_callE h30o
  refine mv_callV (pc := 30) (n := 2) (av := [.long 0, .long 0]) (rest := []) de_PM_costs_30 (kc_1 l D E B sa) hi30 (cm_PM_least l D E B sa N Mm24 v0 0 0 _ _ hz30) wt_4_217 wt_4_219 wp_29 wt_1_8 wt_4_220 ⟨by decide, by decide, by decide +kernel⟩ rfl ⟨Nat.le_of_ble_eq_true rfl, Nat.le_of_ble_eq_true rfl⟩ (Nat.le_of_ble_eq_true rfl) rfl ?_
  refine mv_lload_n (pc := 33) (i := 3) de_PM_costs_33 rfl 1 rfl ?_
  refine mv_lconst (pc := 34) (v := 0) de_PM_costs_34 (by decide) ?_
  refine mv_lcmp (pc := 35) de_PM_costs_35 ?_
  refine mv_if_eq (pc := 36) (tgt := 46) de_PM_costs_36 (by decide) h30 (fun hc36 h36 => ?_) (fun hc36 h36 => ?_)
  · exact mv_sub [] rfl (tb_PM_costs_46 l D E B sa M0 M1 r N Mm30 h36)
  · refine mv_aload_n (pc := 39) (i := 0) de_PM_costs_39 rfl 2 rfl ?_
    refine mv_getI (pc := 40) (f := 22) (kc_1 l D E B sa) (Nat.le_of_ble_eq_true rfl) wt_4_102 de_PM_costs_40 h36 (fun x40 e40 h40 => ?_)
    refine mv_if_ne (pc := 43) (tgt := 48) de_PM_costs_43 (by decide) h40 (fun hc43 h43 => ?_) (fun hc43 h43 => ?_)
    · exact mv_sub [] rfl (tb_PM_costs_46 l D E B sa M0 M1 r N Mm30 h43)
    · refine mv_aload_n (pc := 48) (i := 0) de_PM_costs_48 rfl 2 rfl ?_
      refine mv_getI (pc := 49) (f := 22) (kc_1 l D E B sa) (Nat.le_of_ble_eq_true rfl) wt_4_102 de_PM_costs_49 h43 (fun x49 e49 h49 => ?_)
      refine mv_i2l (pc := 52) de_PM_costs_52 ?_
      refine mv_lstore (pc := 53) (lv' := [(7, .long x49.toInt64), (5, .long x14.toInt64), (3, .long x8.toInt64), (0, va_rf (some v0)), (1, .int v1), (2, .int v2)]) de_PM_costs_53 (Nat.le_of_ble_eq_true rfl) rfl ?_
      refine mv_aload_n (pc := 55) (i := 0) de_PM_costs_55 rfl 3 rfl ?_
      refine mv_getI (pc := 56) (f := 23) (kc_1 l D E B sa) (Nat.le_of_ble_eq_true rfl) wt_4_103 de_PM_costs_56 h49 (fun x56 e56 h56 => ?_)
      refine mv_i2l (pc := 59) de_PM_costs_59 ?_
      refine mv_lstore (pc := 60) (lv' := [(9, .long x56.toInt64), (7, .long x49.toInt64), (5, .long x14.toInt64), (3, .long x8.toInt64), (0, va_rf (some v0)), (1, .int v1), (2, .int v2)]) de_PM_costs_60 (Nat.le_of_ble_eq_true rfl) rfl ?_
      refine mv_aload_n (pc := 62) (i := 0) de_PM_costs_62 rfl 4 rfl ?_
      refine mv_lload_n (pc := 63) (i := 3) de_PM_costs_63 rfl 3 rfl ?_
      refine mv_lload_n (pc := 64) (i := 3) de_PM_costs_64 rfl 3 rfl ?_
      refine mv_lmul (pc := 65) de_PM_costs_65 ?_
      refine mv_lload (pc := 66) de_PM_costs_66 2 rfl ?_
      refine mv_lsub (pc := 68) de_PM_costs_68 ?_
      refine mv_lload (pc := 69) de_PM_costs_69 1 rfl ?_
      refine mv_lmul (pc := 71) de_PM_costs_71 ?_
      refine mv_lload (pc := 72) de_PM_costs_72 1 rfl ?_
      refine mv_lload (pc := 74) de_PM_costs_74 1 rfl ?_
      refine mv_lmul (pc := 76) de_PM_costs_76 ?_
      refine mv_lload (pc := 77) de_PM_costs_77 0 rfl ?_
      refine mv_lsub (pc := 79) de_PM_costs_79 ?_
      refine mv_lload_n (pc := 80) (i := 3) de_PM_costs_80 rfl 3 rfl ?_
      refine mv_lmul (pc := 81) de_PM_costs_81 ?_
      refine mv_ladd (pc := 82) de_PM_costs_82 ?_
      refine mv_lload_n (pc := 83) (i := 3) de_PM_costs_83 rfl 3 rfl ?_
      refine mv_lload (pc := 84) de_PM_costs_84 1 rfl ?_
      refine mv_lmul (pc := 86) de_PM_costs_86 ?_
      refine mv_lload_n (pc := 87) (i := 3) de_PM_costs_87 rfl 3 rfl ?_
      refine mv_lload (pc := 88) de_PM_costs_88 1 rfl ?_
      refine mv_ladd (pc := 90) de_PM_costs_90 ?_
      refine mv_lmul (pc := 91) de_PM_costs_91 ?_
      obtain ⟨hi92, h92o⟩ := mj_obE h56
      obtain ⟨r92, Mm92, hz92, h92⟩ := mj_callE h92o
      refine mv_callV (pc := 92) (n := 2) (av := [.long ((((x8.toInt64 * x8.toInt64) - x14.toInt64) * x49.toInt64) + (((x49.toInt64 * x49.toInt64) - x56.toInt64) * x8.toInt64)), .long ((x8.toInt64 * x49.toInt64) * (x8.toInt64 + x49.toInt64))]) (rest := []) de_PM_costs_92 (kc_1 l D E B sa) hi92 (cm_PM_least l D E B sa N Mm30 v0 ((((x8.toInt64 * x8.toInt64) - x14.toInt64) * x49.toInt64) + (((x49.toInt64 * x49.toInt64) - x56.toInt64) * x8.toInt64)) ((x8.toInt64 * x49.toInt64) * (x8.toInt64 + x49.toInt64)) _ _ hz92) wt_4_217 wt_4_219 wp_29 wt_1_8 wt_4_220 ⟨by decide, by decide, by decide +kernel⟩ rfl ⟨Nat.le_of_ble_eq_true rfl, Nat.le_of_ble_eq_true rfl⟩ (Nat.le_of_ble_eq_true rfl) rfl ?_
      refine mv_iconst (pc := 95) (v := 1) de_PM_costs_95 (by decide) ?_
      exact mv_zret (pc := 96) rfl de_PM_costs_96 h92
theorem cm_PM_costs (l : Launch) (D : va_G) (E : Nat → ClassId) (B : Nat) (sa : (Nat → Nat) × Nat × (Nat → Int32)) (N : Nat) (M : mv_M) (v0 : Nat) (v1 : Int32) (v2 : Int32) (r : Int32) (M1 : mv_M) (hJ : jf_PM_costs N M v0 v1 v2 = some (r, M1)) : mv_Met (xg l D E B sa) yn_PM_costs cd_PM_costs 11 (some .boolean) 1 30 [va_rf (some v0), .int v1, .int v2] M (some (.int r)) M1 :=
  mv_enter (by decide) (Nat.le_of_ble_eq_true rfl) (mv_sub (lv := [(0, va_rf (some v0)), (1, .int v1), (2, .int v2)]) [0, 1, 2] rfl (tb_PM_costs_0 l D E B sa M M1 r N M v0 v1 v2 hJ))
