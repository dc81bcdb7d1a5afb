/-! ===== PlainLearnerModel.bounds(Z)V ===== -/
abbrev kd_PM_bounds : mv_Kd := (cd_PM_bounds, 11, "PlainLearnerModel", "bounds", none, 1, 30)
theorem de_PM_bounds_0 : decode cd_PM_bounds 0 = .ok (.lconst 0, 1) := by decide +kernel
theorem de_PM_bounds_1 : decode cd_PM_bounds 1 = .ok (.lstore_n 2, 1) := by decide +kernel
theorem de_PM_bounds_2 : decode cd_PM_bounds 2 = .ok (.lconst 1, 1) := by decide +kernel
theorem de_PM_bounds_3 : decode cd_PM_bounds 3 = .ok (.lstore 4, 2) := by decide +kernel
theorem de_PM_bounds_5 : decode cd_PM_bounds 5 = .ok (.iconst (-1), 1) := by decide +kernel
theorem de_PM_bounds_6 : decode cd_PM_bounds 6 = .ok (.istore 6, 2) := by decide +kernel
theorem de_PM_bounds_8 : decode cd_PM_bounds 8 = .ok (.iload 6, 2) := by decide +kernel
theorem de_PM_bounds_10 : decode cd_PM_bounds 10 = .ok (.aload_n 0, 1) := by decide +kernel
theorem de_PM_bounds_11 : decode cd_PM_bounds 11 = .ok (.getfield 273, 3) := by decide +kernel
theorem de_PM_bounds_14 : decode cd_PM_bounds 14 = .ok (.if_icmp .ge 210, 3) := by decide +kernel
theorem de_PM_bounds_17 : decode cd_PM_bounds 17 = .ok (.iconst 0, 1) := by decide +kernel
theorem de_PM_bounds_18 : decode cd_PM_bounds 18 = .ok (.istore 7, 2) := by decide +kernel
theorem de_PM_bounds_20 : decode cd_PM_bounds 20 = .ok (.iconst 0, 1) := by decide +kernel
theorem de_PM_bounds_21 : decode cd_PM_bounds 21 = .ok (.istore 8, 2) := by decide +kernel
theorem de_PM_bounds_23 : decode cd_PM_bounds 23 = .ok (.iconst 0, 1) := by decide +kernel
theorem de_PM_bounds_24 : decode cd_PM_bounds 24 = .ok (.istore 9, 2) := by decide +kernel
theorem de_PM_bounds_26 : decode cd_PM_bounds 26 = .ok (.iload 9, 2) := by decide +kernel
theorem de_PM_bounds_28 : decode cd_PM_bounds 28 = .ok (.aload_n 0, 1) := by decide +kernel
theorem de_PM_bounds_29 : decode cd_PM_bounds 29 = .ok (.getfield 273, 3) := by decide +kernel
theorem de_PM_bounds_32 : decode cd_PM_bounds 32 = .ok (.if_icmp .ge 85, 3) := by decide +kernel
theorem de_PM_bounds_35 : decode cd_PM_bounds 35 = .ok (.iload 6, 2) := by decide +kernel
theorem de_PM_bounds_37 : decode cd_PM_bounds 37 = .ok (.ifCond .lt 24, 3) := by decide +kernel
theorem de_PM_bounds_40 : decode cd_PM_bounds 40 = .ok (.aload_n 0, 1) := by decide +kernel
theorem de_PM_bounds_41 : decode cd_PM_bounds 41 = .ok (.getfield 54, 3) := by decide +kernel
theorem de_PM_bounds_44 : decode cd_PM_bounds 44 = .ok (.iload 9, 2) := by decide +kernel
theorem de_PM_bounds_46 : decode cd_PM_bounds 46 = .ok (.iaload, 1) := by decide +kernel
theorem de_PM_bounds_47 : decode cd_PM_bounds 47 = .ok (.aload_n 0, 1) := by decide +kernel
theorem de_PM_bounds_48 : decode cd_PM_bounds 48 = .ok (.getfield 54, 3) := by decide +kernel
theorem de_PM_bounds_51 : decode cd_PM_bounds 51 = .ok (.iload 6, 2) := by decide +kernel
theorem de_PM_bounds_53 : decode cd_PM_bounds 53 = .ok (.iaload, 1) := by decide +kernel
theorem de_PM_bounds_54 : decode cd_PM_bounds 54 = .ok (.if_icmp .lt 7, 3) := by decide +kernel
theorem de_PM_bounds_57 : decode cd_PM_bounds 57 = .ok (.iconst 1, 1) := by decide +kernel
theorem de_PM_bounds_58 : decode cd_PM_bounds 58 = .ok (.goto 4, 3) := by decide +kernel
theorem de_PM_bounds_61 : decode cd_PM_bounds 61 = .ok (.iconst 0, 1) := by decide +kernel
theorem de_PM_bounds_62 : decode cd_PM_bounds 62 = .ok (.istore 10, 2) := by decide +kernel
theorem de_PM_bounds_64 : decode cd_PM_bounds 64 = .ok (.iload 7, 2) := by decide +kernel
theorem de_PM_bounds_66 : decode cd_PM_bounds 66 = .ok (.iload 10, 2) := by decide +kernel
theorem de_PM_bounds_68 : decode cd_PM_bounds 68 = .ok (.aload_n 0, 1) := by decide +kernel
theorem de_PM_bounds_69 : decode cd_PM_bounds 69 = .ok (.getfield 57, 3) := by decide +kernel
theorem de_PM_bounds_72 : decode cd_PM_bounds 72 = .ok (.iload 9, 2) := by decide +kernel
theorem de_PM_bounds_74 : decode cd_PM_bounds 74 = .ok (.baload, 1) := by decide +kernel
theorem de_PM_bounds_75 : decode cd_PM_bounds 75 = .ok (.if_icmp .ne 7, 3) := by decide +kernel
theorem de_PM_bounds_78 : decode cd_PM_bounds 78 = .ok (.iconst 1, 1) := by decide +kernel
theorem de_PM_bounds_79 : decode cd_PM_bounds 79 = .ok (.goto 4, 3) := by decide +kernel
theorem de_PM_bounds_82 : decode cd_PM_bounds 82 = .ok (.iconst 0, 1) := by decide +kernel
theorem de_PM_bounds_83 : decode cd_PM_bounds 83 = .ok (.iadd, 1) := by decide +kernel
theorem de_PM_bounds_84 : decode cd_PM_bounds 84 = .ok (.istore 7, 2) := by decide +kernel
theorem de_PM_bounds_86 : decode cd_PM_bounds 86 = .ok (.iload 8, 2) := by decide +kernel
theorem de_PM_bounds_88 : decode cd_PM_bounds 88 = .ok (.iload 10, 2) := by decide +kernel
theorem de_PM_bounds_90 : decode cd_PM_bounds 90 = .ok (.ifCond .eq 17, 3) := by decide +kernel
theorem de_PM_bounds_93 : decode cd_PM_bounds 93 = .ok (.aload_n 0, 1) := by decide +kernel
theorem de_PM_bounds_94 : decode cd_PM_bounds 94 = .ok (.getfield 57, 3) := by decide +kernel
theorem de_PM_bounds_97 : decode cd_PM_bounds 97 = .ok (.iload 9, 2) := by decide +kernel
theorem de_PM_bounds_99 : decode cd_PM_bounds 99 = .ok (.baload, 1) := by decide +kernel
theorem de_PM_bounds_100 : decode cd_PM_bounds 100 = .ok (.ifCond .eq 7, 3) := by decide +kernel
theorem de_PM_bounds_103 : decode cd_PM_bounds 103 = .ok (.iconst 1, 1) := by decide +kernel
theorem de_PM_bounds_104 : decode cd_PM_bounds 104 = .ok (.goto 4, 3) := by decide +kernel
theorem de_PM_bounds_107 : decode cd_PM_bounds 107 = .ok (.iconst 0, 1) := by decide +kernel
theorem de_PM_bounds_108 : decode cd_PM_bounds 108 = .ok (.iadd, 1) := by decide +kernel
theorem de_PM_bounds_109 : decode cd_PM_bounds 109 = .ok (.istore 8, 2) := by decide +kernel
theorem de_PM_bounds_111 : decode cd_PM_bounds 111 = .ok (.iinc 9 1, 3) := by decide +kernel
theorem de_PM_bounds_114 : decode cd_PM_bounds 114 = .ok (.goto (-88), 3) := by decide +kernel
theorem de_PM_bounds_117 : decode cd_PM_bounds 117 = .ok (.iload_n 1, 1) := by decide +kernel
theorem de_PM_bounds_118 : decode cd_PM_bounds 118 = .ok (.ifCond .eq 18, 3) := by decide +kernel
theorem de_PM_bounds_121 : decode cd_PM_bounds 121 = .ok (.aload_n 0, 1) := by decide +kernel
theorem de_PM_bounds_122 : decode cd_PM_bounds 122 = .ok (.iload 7, 2) := by decide +kernel
theorem de_PM_bounds_124 : decode cd_PM_bounds 124 = .ok (.i2l, 1) := by decide +kernel
theorem de_PM_bounds_125 : decode cd_PM_bounds 125 = .ok (.aload_n 0, 1) := by decide +kernel
theorem de_PM_bounds_126 : decode cd_PM_bounds 126 = .ok (.getfield 273, 3) := by decide +kernel
theorem de_PM_bounds_129 : decode cd_PM_bounds 129 = .ok (.i2l, 1) := by decide +kernel
theorem de_PM_bounds_130 : decode cd_PM_bounds 130 = .ok (.invokevirtual 91, 3) := by decide +kernel
theorem de_PM_bounds_133 : decode cd_PM_bounds 133 = .ok (.goto 45, 3) := by decide +kernel
theorem de_PM_bounds_136 : decode cd_PM_bounds 136 = .ok (.iload 8, 2) := by decide +kernel
theorem de_PM_bounds_138 : decode cd_PM_bounds 138 = .ok (.ifCond .ne 12, 3) := by decide +kernel
theorem de_PM_bounds_141 : decode cd_PM_bounds 141 = .ok (.aload_n 0, 1) := by decide +kernel
theorem de_PM_bounds_142 : decode cd_PM_bounds 142 = .ok (.lconst 0, 1) := by decide +kernel
theorem de_PM_bounds_143 : decode cd_PM_bounds 143 = .ok (.lconst 1, 1) := by decide +kernel
theorem de_PM_bounds_144 : decode cd_PM_bounds 144 = .ok (.invokevirtual 91, 3) := by decide +kernel
theorem de_PM_bounds_147 : decode cd_PM_bounds 147 = .ok (.goto 31, 3) := by decide +kernel
theorem de_PM_bounds_150 : decode cd_PM_bounds 150 = .ok (.aload_n 0, 1) := by decide +kernel
theorem de_PM_bounds_151 : decode cd_PM_bounds 151 = .ok (.ldc2_w 223, 3) := by decide +kernel
theorem de_PM_bounds_154 : decode cd_PM_bounds 154 = .ok (.iload 8, 2) := by decide +kernel
theorem de_PM_bounds_156 : decode cd_PM_bounds 156 = .ok (.i2l, 1) := by decide +kernel
theorem de_PM_bounds_157 : decode cd_PM_bounds 157 = .ok (.lmul, 1) := by decide +kernel
theorem de_PM_bounds_158 : decode cd_PM_bounds 158 = .ok (.ldc2_w 223, 3) := by decide +kernel
theorem de_PM_bounds_161 : decode cd_PM_bounds 161 = .ok (.iload 8, 2) := by decide +kernel
theorem de_PM_bounds_163 : decode cd_PM_bounds 163 = .ok (.i2l, 1) := by decide +kernel
theorem de_PM_bounds_164 : decode cd_PM_bounds 164 = .ok (.lmul, 1) := by decide +kernel
theorem de_PM_bounds_165 : decode cd_PM_bounds 165 = .ok (.aload_n 0, 1) := by decide +kernel
theorem de_PM_bounds_166 : decode cd_PM_bounds 166 = .ok (.getfield 273, 3) := by decide +kernel
theorem de_PM_bounds_169 : decode cd_PM_bounds 169 = .ok (.i2l, 1) := by decide +kernel
theorem de_PM_bounds_170 : decode cd_PM_bounds 170 = .ok (.ladd, 1) := by decide +kernel
theorem de_PM_bounds_171 : decode cd_PM_bounds 171 = .ok (.iload 7, 2) := by decide +kernel
theorem de_PM_bounds_173 : decode cd_PM_bounds 173 = .ok (.i2l, 1) := by decide +kernel
theorem de_PM_bounds_174 : decode cd_PM_bounds 174 = .ok (.lsub, 1) := by decide +kernel
theorem de_PM_bounds_175 : decode cd_PM_bounds 175 = .ok (.invokevirtual 91, 3) := by decide +kernel
theorem de_PM_bounds_178 : decode cd_PM_bounds 178 = .ok (.aload_n 0, 1) := by decide +kernel
theorem de_PM_bounds_179 : decode cd_PM_bounds 179 = .ok (.getfield 84, 3) := by decide +kernel
theorem de_PM_bounds_182 : decode cd_PM_bounds 182 = .ok (.lconst 0, 1) := by decide +kernel
theorem de_PM_bounds_183 : decode cd_PM_bounds 183 = .ok (.lcmp, 1) := by decide +kernel
theorem de_PM_bounds_184 : decode cd_PM_bounds 184 = .ok (.ifCond .eq 23, 3) := by decide +kernel
theorem de_PM_bounds_187 : decode cd_PM_bounds 187 = .ok (.aload_n 0, 1) := by decide +kernel
theorem de_PM_bounds_188 : decode cd_PM_bounds 188 = .ok (.getfield 81, 3) := by decide +kernel
theorem de_PM_bounds_191 : decode cd_PM_bounds 191 = .ok (.aload_n 0, 1) := by decide +kernel
theorem de_PM_bounds_192 : decode cd_PM_bounds 192 = .ok (.getfield 84, 3) := by decide +kernel
theorem de_PM_bounds_195 : decode cd_PM_bounds 195 = .ok (.lload_n 2, 1) := by decide +kernel
theorem de_PM_bounds_196 : decode cd_PM_bounds 196 = .ok (.lload 4, 2) := by decide +kernel
theorem de_PM_bounds_198 : decode cd_PM_bounds 198 = .ok (.invokestatic 179, 3) := by decide +kernel
theorem de_PM_bounds_201 : decode cd_PM_bounds 201 = .ok (.ifCond .ne 6, 3) := by decide +kernel
theorem de_PM_bounds_204 : decode cd_PM_bounds 204 = .ok (.goto 14, 3) := by decide +kernel
theorem de_PM_bounds_207 : decode cd_PM_bounds 207 = .ok (.aload_n 0, 1) := by decide +kernel
theorem de_PM_bounds_208 : decode cd_PM_bounds 208 = .ok (.getfield 81, 3) := by decide +kernel
theorem de_PM_bounds_211 : decode cd_PM_bounds 211 = .ok (.lstore_n 2, 1) := by decide +kernel
theorem de_PM_bounds_212 : decode cd_PM_bounds 212 = .ok (.aload_n 0, 1) := by decide +kernel
theorem de_PM_bounds_213 : decode cd_PM_bounds 213 = .ok (.getfield 84, 3) := by decide +kernel
theorem de_PM_bounds_216 : decode cd_PM_bounds 216 = .ok (.lstore 4, 2) := by decide +kernel
theorem de_PM_bounds_218 : decode cd_PM_bounds 218 = .ok (.iinc 6 1, 3) := by decide +kernel
theorem de_PM_bounds_221 : decode cd_PM_bounds 221 = .ok (.goto (-213), 3) := by decide +kernel
theorem de_PM_bounds_224 : decode cd_PM_bounds 224 = .ok (.aload_n 0, 1) := by decide +kernel
theorem de_PM_bounds_225 : decode cd_PM_bounds 225 = .ok (.lload_n 2, 1) := by decide +kernel
theorem de_PM_bounds_226 : decode cd_PM_bounds 226 = .ok (.putfield 81, 3) := by decide +kernel
theorem de_PM_bounds_229 : decode cd_PM_bounds 229 = .ok (.aload_n 0, 1) := by decide +kernel
theorem de_PM_bounds_230 : decode cd_PM_bounds 230 = .ok (.lload 4, 2) := by decide +kernel
theorem de_PM_bounds_232 : decode cd_PM_bounds 232 = .ok (.putfield 84, 3) := by decide +kernel
theorem de_PM_bounds_235 : decode cd_PM_bounds 235 = .ok (.return_, 1) := by decide +kernel
def jb_PM_bounds_218 (N : Nat) (k8 : mv_M → Nat → Int32 → Int64 → Int64 → Int32 → Option (Unit × mv_M)) (M : mv_M) (v0 : Nat) (v1 : Int32) (v2 : Int64) (v4 : Int64) (v6 : Int32) : Option (Unit × mv_M) :=
  k8 M v0 v1 v2 v4 (v6 + 1)
def jb_PM_bounds_207 (N : Nat) (k8 : mv_M → Nat → Int32 → Int64 → Int64 → Int32 → Option (Unit × mv_M)) (M : mv_M) (v0 : Nat) (v1 : Int32) (v6 : Int32) : Option (Unit × mv_M) :=
  Option.bind (mj_getL M v0 1 0) fun x208 =>
  Option.bind (mj_getL M v0 1 1) fun x213 =>
  jb_PM_bounds_218 N k8 M v0 v1 x208 x213 v6
def jb_PM_bounds_178 (N : Nat) (k8 : mv_M → Nat → Int32 → Int64 → Int64 → Int32 → Option (Unit × mv_M)) (M : mv_M) (v0 : Nat) (v1 : Int32) (v2 : Int64) (v4 : Int64) (v6 : Int32) : Option (Unit × mv_M) :=
  Option.bind (mj_getL M v0 1 1) fun x179 =>
  if (lg_cmp x179 0) = 0 then (jb_PM_bounds_207 N k8 M v0 v1 v6) else
  Option.bind (mj_getL M v0 1 0) fun x188 =>
  Option.bind (mj_getL M v0 1 1) fun x192 =>
  mj_call (jf_PM_isAbove N M x188 x192 v2 v4) fun r198 Mm198 =>
  if r198 = 0 then (jb_PM_bounds_218 N k8 Mm198 v0 v1 v2 v4 v6) else
  jb_PM_bounds_207 N k8 Mm198 v0 v1 v6
def jb_PM_bounds_108 (N : Nat) (k8 : mv_M → Nat → Int32 → Int64 → Int64 → Int32 → Option (Unit × mv_M)) (k26 : mv_M → Nat → Int32 → Int64 → Int64 → Int32 → Int32 → Int32 → Int32 → Option (Unit × mv_M)) (M : mv_M) (v0 : Nat) (v1 : Int32) (v2 : Int64) (v4 : Int64) (v6 : Int32) (v7 : Int32) (v9 : Int32) (s0 : Int32) (s1 : Int32) : Option (Unit × mv_M) :=
  k26 M v0 v1 v2 v4 v6 v7 (s0 + s1) (v9 + 1)
def jb_PM_bounds_107 (N : Nat) (k8 : mv_M → Nat → Int32 → Int64 → Int64 → Int32 → Option (Unit × mv_M)) (k26 : mv_M → Nat → Int32 → Int64 → Int64 → Int32 → Int32 → Int32 → Int32 → Option (Unit × mv_M)) (M : mv_M) (v0 : Nat) (v1 : Int32) (v2 : Int64) (v4 : Int64) (v6 : Int32) (v7 : Int32) (v9 : Int32) (s0 : Int32) : Option (Unit × mv_M) :=
  jb_PM_bounds_108 N k8 k26 M v0 v1 v2 v4 v6 v7 v9 s0 0
def jb_PM_bounds_83 (N : Nat) (k8 : mv_M → Nat → Int32 → Int64 → Int64 → Int32 → Option (Unit × mv_M)) (k26 : mv_M → Nat → Int32 → Int64 → Int64 → Int32 → Int32 → Int32 → Int32 → Option (Unit × mv_M)) (M : mv_M) (v0 : Nat) (v1 : Int32) (v2 : Int64) (v4 : Int64) (v6 : Int32) (v8 : Int32) (v9 : Int32) (v10 : Int32) (s0 : Int32) (s1 : Int32) : Option (Unit × mv_M) :=
  if v10 = 0 then (jb_PM_bounds_107 N k8 k26 M v0 v1 v2 v4 v6 (s0 + s1) v9 v8) else
  Option.bind (mj_getR M v0 1 30) fun x94 =>
  Option.bind x94 fun a99 =>
  Option.bind (mj_ild M a99 2 v9) fun x99 =>
  if x99 = 0 then (jb_PM_bounds_107 N k8 k26 M v0 v1 v2 v4 v6 (s0 + s1) v9 v8) else
  jb_PM_bounds_108 N k8 k26 M v0 v1 v2 v4 v6 (s0 + s1) v9 v8 1
def jb_PM_bounds_62 (N : Nat) (k8 : mv_M → Nat → Int32 → Int64 → Int64 → Int32 → Option (Unit × mv_M)) (k26 : mv_M → Nat → Int32 → Int64 → Int64 → Int32 → Int32 → Int32 → Int32 → Option (Unit × mv_M)) (M : mv_M) (v0 : Nat) (v1 : Int32) (v2 : Int64) (v4 : Int64) (v6 : Int32) (v7 : Int32) (v8 : Int32) (v9 : Int32) (s0 : Int32) : Option (Unit × mv_M) :=
  Option.bind (mj_getR M v0 1 30) fun x69 =>
  Option.bind x69 fun a74 =>
  Option.bind (mj_ild M a74 2 v9) fun x74 =>
  if s0 = x74 then (jb_PM_bounds_83 N k8 k26 M v0 v1 v2 v4 v6 v8 v9 s0 v7 1) else
  jb_PM_bounds_83 N k8 k26 M v0 v1 v2 v4 v6 v8 v9 s0 v7 0
def jb_PM_bounds_61 (N : Nat) (k8 : mv_M → Nat → Int32 → Int64 → Int64 → Int32 → Option (Unit × mv_M)) (k26 : mv_M → Nat → Int32 → Int64 → Int64 → Int32 → Int32 → Int32 → Int32 → Option (Unit × mv_M)) (M : mv_M) (v0 : Nat) (v1 : Int32) (v2 : Int64) (v4 : Int64) (v6 : Int32) (v7 : Int32) (v8 : Int32) (v9 : Int32) : Option (Unit × mv_M) :=
  jb_PM_bounds_62 N k8 k26 M v0 v1 v2 v4 v6 v7 v8 v9 0
def jb_PM_bounds_26 (N : Nat) (k8 : mv_M → Nat → Int32 → Int64 → Int64 → Int32 → Option (Unit × mv_M)) : Nat → mv_M → Nat → Int32 → Int64 → Int64 → Int32 → Int32 → Int32 → Int32 → Option (Unit × mv_M)
  | 0, _, _, _, _, _, _, _, _, _ => none
  | n + 1, M, v0, v1, v2, v4, v6, v7, v8, v9 =>
    Option.bind (mj_getI M v0 1 28) fun x29 =>
    if x29 ≤ v9 then (if v1 = 0 then (if v8 = 0 then (mj_ob M v0 1 <|
    mj_call (jf_PM_least N M v0 0 1) fun r144 Mm144 =>
    jb_PM_bounds_178 N k8 Mm144 v0 v1 v2 v4 v6) else
    Option.bind (mj_getI M v0 1 28) fun x166 =>
    mj_ob M v0 1 <|
    mj_call (jf_PM_least N M v0 (2 * v8.toInt64) (((2 * v8.toInt64) + x166.toInt64) - v7.toInt64)) fun r175 Mm175 =>
    jb_PM_bounds_178 N k8 Mm175 v0 v1 v2 v4 v6) else
    Option.bind (mj_getI M v0 1 28) fun x126 =>
    mj_ob M v0 1 <|
    mj_call (jf_PM_least N M v0 v7.toInt64 x126.toInt64) fun r130 Mm130 =>
    jb_PM_bounds_178 N k8 Mm130 v0 v1 v2 v4 v6) else
    if v6 < 0 then (jb_PM_bounds_61 N k8 (jb_PM_bounds_26 N k8 n) M v0 v1 v2 v4 v6 v7 v8 v9) else
    Option.bind (mj_getR M v0 1 29) fun x41 =>
    Option.bind x41 fun a46 =>
    Option.bind (mj_ild M a46 0 v9) fun x46 =>
    Option.bind (mj_getR M v0 1 29) fun x48 =>
    Option.bind x48 fun a53 =>
    Option.bind (mj_ild M a53 0 v6) fun x53 =>
    if x46 < x53 then (jb_PM_bounds_61 N k8 (jb_PM_bounds_26 N k8 n) M v0 v1 v2 v4 v6 v7 v8 v9) else
    jb_PM_bounds_62 N k8 (jb_PM_bounds_26 N k8 n) M v0 v1 v2 v4 v6 v7 v8 v9 1
def jb_PM_bounds_8 (N : Nat) : Nat → mv_M → Nat → Int32 → Int64 → Int64 → Int32 → Option (Unit × mv_M)
  | 0, _, _, _, _, _, _ => none
  | n + 1, M, v0, v1, v2, v4, v6 =>
    Option.bind (mj_getI M v0 1 28) fun x11 =>
    if x11 ≤ v6 then (Option.bind (mj_put M v0 1 0 (.long v2)) fun Mm226 =>
    Option.bind (mj_put Mm226 v0 1 1 (.long v4)) fun Mm232 =>
    some ((), Mm232)) else
    jb_PM_bounds_26 N (jb_PM_bounds_8 N n) N M v0 v1 v2 v4 v6 0 0 0
def jb_PM_bounds_0 (N : Nat) (M : mv_M) (v0 : Nat) (v1 : Int32) : Option (Unit × mv_M) :=
  jb_PM_bounds_8 N N M v0 v1 0 1 (-1)
def jf_PM_bounds (N : Nat) (M : mv_M) (v0 : Nat) (v1 : Int32) : Option (Unit × mv_M) := jb_PM_bounds_0 N M v0 v1
set_option maxHeartbeats 4000000 in
set_option maxRecDepth 100000 in
theorem tb_PM_bounds_218 (l : Launch) (D : va_G) (E : Nat → ClassId) (B : Nat) (sa : (Nat → Nat) × Nat × (Nat → Int32)) (M0 M1 : mv_M) (r : Unit) (N : Nat) (k8 : mv_M → Nat → Int32 → Int64 → Int64 → Int32 → Option (Unit × mv_M)) (hk8 : ∀ (M : mv_M) (v0 : Nat) (v1 : Int32) (v2 : Int64) (v4 : Int64) (v6 : Int32), k8 M v0 v1 v2 v4 v6 = some (r, M1) → mv_G (xg l D E B sa) kd_PM_bounds M0 M1 none M 8 [(0, va_rf (some v0)), (1, .int v1), (2, .long v2), (4, .long v4), (6, .int v6)] []) (M : mv_M) (v0 : Nat) (v1 : Int32) (v2 : Int64) (v4 : Int64) (v6 : Int32) (hJ : jb_PM_bounds_218 N k8 M v0 v1 v2 v4 v6 = some (r, M1)) : mv_G (xg l D E B sa) kd_PM_bounds M0 M1 none M 218 [(0, va_rf (some v0)), (1, .int v1), (2, .long v2), (4, .long v4), (6, .int v6)] [] := by
  unfold jb_PM_bounds_218 at hJ
  refine mv_iinc (pc := 218) (v := (v6 + 1)) (lv' := [(6, .int (v6 + 1)), (0, va_rf (some v0)), (1, .int v1), (2, .long v2), (4, .long v4)]) de_PM_bounds_218 4 rfl rfl (Nat.le_of_ble_eq_true rfl) rfl ?_
  refine mv_goto (pc := 221) (tgt := 8) de_PM_bounds_221 (by decide) ?_
  exact mv_sub [1, 2, 3, 4, 0] rfl (hk8 M v0 v1 v2 v4 (v6 + 1) hJ)
set_option maxHeartbeats 4000000 in
set_option maxRecDepth 100000 in
theorem tb_PM_bounds_207 (l : Launch) (D : va_G) (E : Nat → ClassId) (B : Nat) (sa : (Nat → Nat) × Nat × (Nat → Int32)) (M0 M1 : mv_M) (r : Unit) (N : Nat) (k8 : mv_M → Nat → Int32 → Int64 → Int64 → Int32 → Option (Unit × mv_M)) (hk8 : ∀ (M : mv_M) (v0 : Nat) (v1 : Int32) (v2 : Int64) (v4 : Int64) (v6 : Int32), k8 M v0 v1 v2 v4 v6 = some (r, M1) → mv_G (xg l D E B sa) kd_PM_bounds M0 M1 none M 8 [(0, va_rf (some v0)), (1, .int v1), (2, .long v2), (4, .long v4), (6, .int v6)] []) (M : mv_M) (v0 : Nat) (v1 : Int32) (v6 : Int32) (hJ : jb_PM_bounds_207 N k8 M v0 v1 v6 = some (r, M1)) : mv_G (xg l D E B sa) kd_PM_bounds M0 M1 none M 207 [(0, va_rf (some v0)), (1, .int v1), (6, .int v6)] [] := by
  unfold jb_PM_bounds_207 at hJ
  refine mv_aload_n (pc := 207) (i := 0) de_PM_bounds_207 rfl 0 rfl ?_
  refine mv_getL (pc := 208) (f := 0) (kc_1 l D E B sa) (Nat.le_of_ble_eq_true rfl) wt_4_80 de_PM_bounds_208 hJ (fun x208 e208 h208 => ?_)
  refine mv_lstore_n (pc := 211) (i := 2) (lv' := [(2, .long x208), (0, va_rf (some v0)), (1, .int v1), (6, .int v6)]) de_PM_bounds_211 rfl (Nat.le_of_ble_eq_true rfl) rfl ?_
  refine mv_aload_n (pc := 212) (i := 0) de_PM_bounds_212 rfl 1 rfl ?_
  refine mv_getL (pc := 213) (f := 1) (kc_1 l D E B sa) (Nat.le_of_ble_eq_true rfl) wt_4_81 de_PM_bounds_213 h208 (fun x213 e213 h213 => ?_)
  refine mv_lstore (pc := 216) (lv' := [(4, .long x213), (2, .long x208), (0, va_rf (some v0)), (1, .int v1), (6, .int v6)]) de_PM_bounds_216 (Nat.le_of_ble_eq_true rfl) rfl ?_
  exact mv_sub [2, 3, 1, 0, 4] rfl (tb_PM_bounds_218 l D E B sa M0 M1 r N k8 hk8 M v0 v1 x208 x213 v6 h213)
set_option maxHeartbeats 4000000 in
set_option maxRecDepth 100000 in
theorem tb_PM_bounds_178 (l : Launch) (D : va_G) (E : Nat → ClassId) (B : Nat) (sa : (Nat → Nat) × Nat × (Nat → Int32)) (M0 M1 : mv_M) (r : Unit) (N : Nat) (k8 : mv_M → Nat → Int32 → Int64 → Int64 → Int32 → Option (Unit × mv_M)) (hk8 : ∀ (M : mv_M) (v0 : Nat) (v1 : Int32) (v2 : Int64) (v4 : Int64) (v6 : Int32), k8 M v0 v1 v2 v4 v6 = some (r, M1) → mv_G (xg l D E B sa) kd_PM_bounds M0 M1 none M 8 [(0, va_rf (some v0)), (1, .int v1), (2, .long v2), (4, .long v4), (6, .int v6)] []) (M : mv_M) (v0 : Nat) (v1 : Int32) (v2 : Int64) (v4 : Int64) (v6 : Int32) (hJ : jb_PM_bounds_178 N k8 M v0 v1 v2 v4 v6 = some (r, M1)) : mv_G (xg l D E B sa) kd_PM_bounds M0 M1 none M 178 [(0, va_rf (some v0)), (1, .int v1), (2, .long v2), (4, .long v4), (6, .int v6)] [] := by
  unfold jb_PM_bounds_178 at hJ
  refine mv_aload_n (pc := 178) (i := 0) de_PM_bounds_178 rfl 0 rfl ?_
  refine mv_getL (pc := 179) (f := 1) (kc_1 l D E B sa) (Nat.le_of_ble_eq_true rfl) wt_4_81 de_PM_bounds_179 hJ (fun x179 e179 h179 => ?_)
  refine mv_lconst (pc := 182) (v := 0) de_PM_bounds_182 (by decide) ?_
  refine mv_lcmp (pc := 183) de_PM_bounds_183 ?_
  refine mv_if_eq (pc := 184) (tgt := 207) de_PM_bounds_184 (by decide) h179 (fun hc184 h184 => ?_) (fun hc184 h184 => ?_)
  · exact mv_sub [0, 1, 4] rfl (tb_PM_bounds_207 l D E B sa M0 M1 r N k8 hk8 M v0 v1 v6 h184)
  · refine mv_aload_n (pc := 187) (i := 0) de_PM_bounds_187 rfl 0 rfl ?_
    refine mv_getL (pc := 188) (f := 0) (kc_1 l D E B sa) (Nat.le_of_ble_eq_true rfl) wt_4_80 de_PM_bounds_188 h184 (fun x188 e188 h188 => ?_)
    refine mv_aload_n (pc := 191) (i := 0) de_PM_bounds_191 rfl 0 rfl ?_
    refine mv_getL (pc := 192) (f := 1) (kc_1 l D E B sa) (Nat.le_of_ble_eq_true rfl) wt_4_81 de_PM_bounds_192 h188 (fun x192 e192 h192 => ?_)
    refine mv_lload_n (pc := 195) (i := 2) de_PM_bounds_195 rfl 2 rfl ?_
    refine mv_lload (pc := 196) de_PM_bounds_196 3 rfl ?_
    obtain ⟨r198, Mm198, hz198, h198⟩ := mj_callE h192
    refine mv_callS (pc := 198) (n := 4) (av := [.long x188, .long x192, .long v2, .long v4]) (rest := []) de_PM_bounds_198 (cm_PM_isAbove l D E B sa N M x188 x192 v2 v4 _ _ hz198) wt_5_54 wt_5_55 wt_1_8 wt_5_56 ⟨by decide, by decide, by decide +kernel⟩ rfl ⟨Nat.le_of_ble_eq_true rfl, Nat.le_of_ble_eq_true rfl⟩ (Nat.le_of_ble_eq_true rfl) rfl ?_
    refine mv_if_ne (pc := 201) (tgt := 207) de_PM_bounds_201 (by decide) h198 (fun hc201 h201 => ?_) (fun hc201 h201 => ?_)
    · refine mv_goto (pc := 204) (tgt := 218) de_PM_bounds_204 (by decide) ?_
      exact mv_sub [0, 1, 2, 3, 4] rfl (tb_PM_bounds_218 l D E B sa M0 M1 r N k8 hk8 Mm198 v0 v1 v2 v4 v6 h201)
    · exact mv_sub [0, 1, 4] rfl (tb_PM_bounds_207 l D E B sa M0 M1 r N k8 hk8 Mm198 v0 v1 v6 h201)
set_option maxHeartbeats 4000000 in
set_option maxRecDepth 100000 in
theorem tb_PM_bounds_108 (l : Launch) (D : va_G) (E : Nat → ClassId) (B : Nat) (sa : (Nat → Nat) × Nat × (Nat → Int32)) (M0 M1 : mv_M) (r : Unit) (N : Nat) (k8 : mv_M → Nat → Int32 → Int64 → Int64 → Int32 → Option (Unit × mv_M)) (k26 : mv_M → Nat → Int32 → Int64 → Int64 → Int32 → Int32 → Int32 → Int32 → Option (Unit × mv_M)) (hk8 : ∀ (M : mv_M) (v0 : Nat) (v1 : Int32) (v2 : Int64) (v4 : Int64) (v6 : Int32), k8 M v0 v1 v2 v4 v6 = some (r, M1) → mv_G (xg l D E B sa) kd_PM_bounds M0 M1 none M 8 [(0, va_rf (some v0)), (1, .int v1), (2, .long v2), (4, .long v4), (6, .int v6)] []) (hk26 : ∀ (M : mv_M) (v0 : Nat) (v1 : Int32) (v2 : Int64) (v4 : Int64) (v6 : Int32) (v7 : Int32) (v8 : Int32) (v9 : Int32), k26 M v0 v1 v2 v4 v6 v7 v8 v9 = some (r, M1) → mv_G (xg l D E B sa) kd_PM_bounds M0 M1 none M 26 [(0, va_rf (some v0)), (1, .int v1), (2, .long v2), (4, .long v4), (6, .int v6), (7, .int v7), (8, .int v8), (9, .int v9)] []) (M : mv_M) (v0 : Nat) (v1 : Int32) (v2 : Int64) (v4 : Int64) (v6 : Int32) (v7 : Int32) (v9 : Int32) (s0 : Int32) (s1 : Int32) (hJ : jb_PM_bounds_108 N k8 k26 M v0 v1 v2 v4 v6 v7 v9 s0 s1 = some (r, M1)) : mv_G (xg l D E B sa) kd_PM_bounds M0 M1 none M 108 [(0, va_rf (some v0)), (1, .int v1), (2, .long v2), (4, .long v4), (6, .int v6), (7, .int v7), (9, .int v9)] [.int s1, .int s0] := by
  unfold jb_PM_bounds_108 at hJ
  refine mv_iadd (pc := 108) de_PM_bounds_108 ?_
  refine mv_istore (pc := 109) (lv' := [(8, .int (s0 + s1)), (0, va_rf (some v0)), (1, .int v1), (2, .long v2), (4, .long v4), (6, .int v6), (7, .int v7), (9, .int v9)]) de_PM_bounds_109 (Nat.le_of_ble_eq_true rfl) rfl ?_
  refine mv_iinc (pc := 111) (v := (v9 + 1)) (lv' := [(9, .int (v9 + 1)), (8, .int (s0 + s1)), (0, va_rf (some v0)), (1, .int v1), (2, .long v2), (4, .long v4), (6, .int v6), (7, .int v7)]) de_PM_bounds_111 7 rfl rfl (Nat.le_of_ble_eq_true rfl) rfl ?_
  refine mv_goto (pc := 114) (tgt := 26) de_PM_bounds_114 (by decide) ?_
  exact mv_sub [2, 3, 4, 5, 6, 7, 1, 0] rfl (hk26 M v0 v1 v2 v4 v6 v7 (s0 + s1) (v9 + 1) hJ)
set_option maxHeartbeats 4000000 in
set_option maxRecDepth 100000 in
theorem tb_PM_bounds_107 (l : Launch) (D : va_G) (E : Nat → ClassId) (B : Nat) (sa : (Nat → Nat) × Nat × (Nat → Int32)) (M0 M1 : mv_M) (r : Unit) (N : Nat) (k8 : mv_M → Nat → Int32 → Int64 → Int64 → Int32 → Option (Unit × mv_M)) (k26 : mv_M → Nat → Int32 → Int64 → Int64 → Int32 → Int32 → Int32 → Int32 → Option (Unit × mv_M)) (hk8 : ∀ (M : mv_M) (v0 : Nat) (v1 : Int32) (v2 : Int64) (v4 : Int64) (v6 : Int32), k8 M v0 v1 v2 v4 v6 = some (r, M1) → mv_G (xg l D E B sa) kd_PM_bounds M0 M1 none M 8 [(0, va_rf (some v0)), (1, .int v1), (2, .long v2), (4, .long v4), (6, .int v6)] []) (hk26 : ∀ (M : mv_M) (v0 : Nat) (v1 : Int32) (v2 : Int64) (v4 : Int64) (v6 : Int32) (v7 : Int32) (v8 : Int32) (v9 : Int32), k26 M v0 v1 v2 v4 v6 v7 v8 v9 = some (r, M1) → mv_G (xg l D E B sa) kd_PM_bounds M0 M1 none M 26 [(0, va_rf (some v0)), (1, .int v1), (2, .long v2), (4, .long v4), (6, .int v6), (7, .int v7), (8, .int v8), (9, .int v9)] []) (M : mv_M) (v0 : Nat) (v1 : Int32) (v2 : Int64) (v4 : Int64) (v6 : Int32) (v7 : Int32) (v9 : Int32) (s0 : Int32) (hJ : jb_PM_bounds_107 N k8 k26 M v0 v1 v2 v4 v6 v7 v9 s0 = some (r, M1)) : mv_G (xg l D E B sa) kd_PM_bounds M0 M1 none M 107 [(0, va_rf (some v0)), (1, .int v1), (2, .long v2), (4, .long v4), (6, .int v6), (7, .int v7), (9, .int v9)] [.int s0] := by
  unfold jb_PM_bounds_107 at hJ
  refine mv_iconst (pc := 107) (v := 0) de_PM_bounds_107 (by decide) ?_
  exact mv_sub [0, 1, 2, 3, 4, 5, 6] rfl (tb_PM_bounds_108 l D E B sa M0 M1 r N k8 k26 hk8 hk26 M v0 v1 v2 v4 v6 v7 v9 s0 0 hJ)
set_option maxHeartbeats 4000000 in
set_option maxRecDepth 100000 in
theorem tb_PM_bounds_83 (l : Launch) (D : va_G) (E : Nat → ClassId) (B : Nat) (sa : (Nat → Nat) × Nat × (Nat → Int32)) (M0 M1 : mv_M) (r : Unit) (N : Nat) (k8 : mv_M → Nat → Int32 → Int64 → Int64 → Int32 → Option (Unit × mv_M)) (k26 : mv_M → Nat → Int32 → Int64 → Int64 → Int32 → Int32 → Int32 → Int32 → Option (Unit × mv_M)) (hk8 : ∀ (M : mv_M) (v0 : Nat) (v1 : Int32) (v2 : Int64) (v4 : Int64) (v6 : Int32), k8 M v0 v1 v2 v4 v6 = some (r, M1) → mv_G (xg l D E B sa) kd_PM_bounds M0 M1 none M 8 [(0, va_rf (some v0)), (1, .int v1), (2, .long v2), (4, .long v4), (6, .int v6)] []) (hk26 : ∀ (M : mv_M) (v0 : Nat) (v1 : Int32) (v2 : Int64) (v4 : Int64) (v6 : Int32) (v7 : Int32) (v8 : Int32) (v9 : Int32), k26 M v0 v1 v2 v4 v6 v7 v8 v9 = some (r, M1) → mv_G (xg l D E B sa) kd_PM_bounds M0 M1 none M 26 [(0, va_rf (some v0)), (1, .int v1), (2, .long v2), (4, .long v4), (6, .int v6), (7, .int v7), (8, .int v8), (9, .int v9)] []) (M : mv_M) (v0 : Nat) (v1 : Int32) (v2 : Int64) (v4 : Int64) (v6 : Int32) (v8 : Int32) (v9 : Int32) (v10 : Int32) (s0 : Int32) (s1 : Int32) (hJ : jb_PM_bounds_83 N k8 k26 M v0 v1 v2 v4 v6 v8 v9 v10 s0 s1 = some (r, M1)) : mv_G (xg l D E B sa) kd_PM_bounds M0 M1 none M 83 [(0, va_rf (some v0)), (1, .int v1), (2, .long v2), (4, .long v4), (6, .int v6), (8, .int v8), (9, .int v9), (10, .int v10)] [.int s1, .int s0] := by
  unfold jb_PM_bounds_83 at hJ
  refine mv_iadd (pc := 83) de_PM_bounds_83 ?_
  refine mv_istore (pc := 84) (lv' := [(7, .int (s0 + s1)), (0, va_rf (some v0)), (1, .int v1), (2, .long v2), (4, .long v4), (6, .int v6), (8, .int v8), (9, .int v9), (10, .int v10)]) de_PM_bounds_84 (Nat.le_of_ble_eq_true rfl) rfl ?_
  refine mv_iload (pc := 86) de_PM_bounds_86 6 rfl ?_
  refine mv_iload (pc := 88) de_PM_bounds_88 8 rfl ?_
  refine mv_if_eq (pc := 90) (tgt := 107) de_PM_bounds_90 (by decide) hJ (fun hc90 h90 => ?_) (fun hc90 h90 => ?_)
  · exact mv_sub [1, 2, 3, 4, 5, 0, 7] rfl (tb_PM_bounds_107 l D E B sa M0 M1 r N k8 k26 hk8 hk26 M v0 v1 v2 v4 v6 (s0 + s1) v9 v8 h90)
  · refine mv_aload_n (pc := 93) (i := 0) de_PM_bounds_93 rfl 1 rfl ?_
    refine mv_getR (pc := 94) (f := 30) (kc_1 l D E B sa) (Nat.le_of_ble_eq_true rfl) wt_4_110 de_PM_bounds_94 h90 (fun x94 e94 h94 => ?_)
    refine mv_iload (pc := 97) de_PM_bounds_97 7 rfl ?_
    obtain ⟨a99, ha, h99a⟩ := mj_bindE h94
    subst ha
    refine mv_zald (pc := 99) (t := 2) rfl de_PM_bounds_99 h99a (fun x99 e99 h99 => ?_)
    refine mv_if_eq (pc := 100) (tgt := 107) de_PM_bounds_100 (by decide) h99 (fun hc100 h100 => ?_) (fun hc100 h100 => ?_)
    · exact mv_sub [1, 2, 3, 4, 5, 0, 7] rfl (tb_PM_bounds_107 l D E B sa M0 M1 r N k8 k26 hk8 hk26 M v0 v1 v2 v4 v6 (s0 + s1) v9 v8 h100)
    · refine mv_iconst (pc := 103) (v := 1) de_PM_bounds_103 (by decide) ?_
      refine mv_goto (pc := 104) (tgt := 108) de_PM_bounds_104 (by decide) ?_
      exact mv_sub [1, 2, 3, 4, 5, 0, 7] rfl (tb_PM_bounds_108 l D E B sa M0 M1 r N k8 k26 hk8 hk26 M v0 v1 v2 v4 v6 (s0 + s1) v9 v8 1 h100)
set_option maxHeartbeats 4000000 in
set_option maxRecDepth 100000 in
theorem tb_PM_bounds_62 (l : Launch) (D : va_G) (E : Nat → ClassId) (B : Nat) (sa : (Nat → Nat) × Nat × (Nat → Int32)) (M0 M1 : mv_M) (r : Unit) (N : Nat) (k8 : mv_M → Nat → Int32 → Int64 → Int64 → Int32 → Option (Unit × mv_M)) (k26 : mv_M → Nat → Int32 → Int64 → Int64 → Int32 → Int32 → Int32 → Int32 → Option (Unit × mv_M)) (hk8 : ∀ (M : mv_M) (v0 : Nat) (v1 : Int32) (v2 : Int64) (v4 : Int64) (v6 : Int32), k8 M v0 v1 v2 v4 v6 = some (r, M1) → mv_G (xg l D E B sa) kd_PM_bounds M0 M1 none M 8 [(0, va_rf (some v0)), (1, .int v1), (2, .long v2), (4, .long v4), (6, .int v6)] []) (hk26 : ∀ (M : mv_M) (v0 : Nat) (v1 : Int32) (v2 : Int64) (v4 : Int64) (v6 : Int32) (v7 : Int32) (v8 : Int32) (v9 : Int32), k26 M v0 v1 v2 v4 v6 v7 v8 v9 = some (r, M1) → mv_G (xg l D E B sa) kd_PM_bounds M0 M1 none M 26 [(0, va_rf (some v0)), (1, .int v1), (2, .long v2), (4, .long v4), (6, .int v6), (7, .int v7), (8, .int v8), (9, .int v9)] []) (M : mv_M) (v0 : Nat) (v1 : Int32) (v2 : Int64) (v4 : Int64) (v6 : Int32) (v7 : Int32) (v8 : Int32) (v9 : Int32) (s0 : Int32) (hJ : jb_PM_bounds_62 N k8 k26 M v0 v1 v2 v4 v6 v7 v8 v9 s0 = some (r, M1)) : mv_G (xg l D E B sa) kd_PM_bounds M0 M1 none M 62 [(0, va_rf (some v0)), (1, .int v1), (2, .long v2), (4, .long v4), (6, .int v6), (7, .int v7), (8, .int v8), (9, .int v9)] [.int s0] := by
  unfold jb_PM_bounds_62 at hJ
  refine mv_istore (pc := 62) (lv' := [(10, .int s0), (0, va_rf (some v0)), (1, .int v1), (2, .long v2), (4, .long v4), (6, .int v6), (7, .int v7), (8, .int v8), (9, .int v9)]) de_PM_bounds_62 (Nat.le_of_ble_eq_true rfl) rfl ?_
  refine mv_iload (pc := 64) de_PM_bounds_64 6 rfl ?_
  refine mv_iload (pc := 66) de_PM_bounds_66 0 rfl ?_
  refine mv_aload_n (pc := 68) (i := 0) de_PM_bounds_68 rfl 1 rfl ?_
  refine mv_getR (pc := 69) (f := 30) (kc_1 l D E B sa) (Nat.le_of_ble_eq_true rfl) wt_4_110 de_PM_bounds_69 hJ (fun x69 e69 h69 => ?_)
  refine mv_iload (pc := 72) de_PM_bounds_72 8 rfl ?_
  obtain ⟨a74, ha, h74a⟩ := mj_bindE h69
  subst ha
  refine mv_zald (pc := 74) (t := 2) rfl de_PM_bounds_74 h74a (fun x74 e74 h74 => ?_)
  refine mv_icmp_ne (pc := 75) (tgt := 82) de_PM_bounds_75 (by decide) h74 (fun hc75 h75 => ?_) (fun hc75 h75 => ?_)
  · refine mv_iconst (pc := 78) (v := 1) de_PM_bounds_78 (by decide) ?_
    refine mv_goto (pc := 79) (tgt := 83) de_PM_bounds_79 (by decide) ?_
    exact mv_sub [1, 2, 3, 4, 5, 7, 8, 0] rfl (tb_PM_bounds_83 l D E B sa M0 M1 r N k8 k26 hk8 hk26 M v0 v1 v2 v4 v6 v8 v9 s0 v7 1 h75)
  · refine mv_iconst (pc := 82) (v := 0) de_PM_bounds_82 (by decide) ?_
    exact mv_sub [1, 2, 3, 4, 5, 7, 8, 0] rfl (tb_PM_bounds_83 l D E B sa M0 M1 r N k8 k26 hk8 hk26 M v0 v1 v2 v4 v6 v8 v9 s0 v7 0 h75)
set_option maxHeartbeats 4000000 in
set_option maxRecDepth 100000 in
theorem tb_PM_bounds_61 (l : Launch) (D : va_G) (E : Nat → ClassId) (B : Nat) (sa : (Nat → Nat) × Nat × (Nat → Int32)) (M0 M1 : mv_M) (r : Unit) (N : Nat) (k8 : mv_M → Nat → Int32 → Int64 → Int64 → Int32 → Option (Unit × mv_M)) (k26 : mv_M → Nat → Int32 → Int64 → Int64 → Int32 → Int32 → Int32 → Int32 → Option (Unit × mv_M)) (hk8 : ∀ (M : mv_M) (v0 : Nat) (v1 : Int32) (v2 : Int64) (v4 : Int64) (v6 : Int32), k8 M v0 v1 v2 v4 v6 = some (r, M1) → mv_G (xg l D E B sa) kd_PM_bounds M0 M1 none M 8 [(0, va_rf (some v0)), (1, .int v1), (2, .long v2), (4, .long v4), (6, .int v6)] []) (hk26 : ∀ (M : mv_M) (v0 : Nat) (v1 : Int32) (v2 : Int64) (v4 : Int64) (v6 : Int32) (v7 : Int32) (v8 : Int32) (v9 : Int32), k26 M v0 v1 v2 v4 v6 v7 v8 v9 = some (r, M1) → mv_G (xg l D E B sa) kd_PM_bounds M0 M1 none M 26 [(0, va_rf (some v0)), (1, .int v1), (2, .long v2), (4, .long v4), (6, .int v6), (7, .int v7), (8, .int v8), (9, .int v9)] []) (M : mv_M) (v0 : Nat) (v1 : Int32) (v2 : Int64) (v4 : Int64) (v6 : Int32) (v7 : Int32) (v8 : Int32) (v9 : Int32) (hJ : jb_PM_bounds_61 N k8 k26 M v0 v1 v2 v4 v6 v7 v8 v9 = some (r, M1)) : mv_G (xg l D E B sa) kd_PM_bounds M0 M1 none M 61 [(0, va_rf (some v0)), (1, .int v1), (2, .long v2), (4, .long v4), (6, .int v6), (7, .int v7), (8, .int v8), (9, .int v9)] [] := by
  unfold jb_PM_bounds_61 at hJ
  refine mv_iconst (pc := 61) (v := 0) de_PM_bounds_61 (by decide) ?_
  exact mv_sub [0, 1, 2, 3, 4, 5, 6, 7] rfl (tb_PM_bounds_62 l D E B sa M0 M1 r N k8 k26 hk8 hk26 M v0 v1 v2 v4 v6 v7 v8 v9 0 hJ)
set_option maxHeartbeats 4000000 in
set_option maxRecDepth 100000 in
theorem tb_PM_bounds_26 (l : Launch) (D : va_G) (E : Nat → ClassId) (B : Nat) (sa : (Nat → Nat) × Nat × (Nat → Int32)) (M0 M1 : mv_M) (r : Unit) (N : Nat) (k8 : mv_M → Nat → Int32 → Int64 → Int64 → Int32 → Option (Unit × mv_M)) (hk8 : ∀ (M : mv_M) (v0 : Nat) (v1 : Int32) (v2 : Int64) (v4 : Int64) (v6 : Int32), k8 M v0 v1 v2 v4 v6 = some (r, M1) → mv_G (xg l D E B sa) kd_PM_bounds M0 M1 none M 8 [(0, va_rf (some v0)), (1, .int v1), (2, .long v2), (4, .long v4), (6, .int v6)] []) : ∀ (n : Nat) (M : mv_M) (v0 : Nat) (v1 : Int32) (v2 : Int64) (v4 : Int64) (v6 : Int32) (v7 : Int32) (v8 : Int32) (v9 : Int32) (hJ : jb_PM_bounds_26 N k8 n M v0 v1 v2 v4 v6 v7 v8 v9 = some (r, M1)), mv_G (xg l D E B sa) kd_PM_bounds M0 M1 none M 26 [(0, va_rf (some v0)), (1, .int v1), (2, .long v2), (4, .long v4), (6, .int v6), (7, .int v7), (8, .int v8), (9, .int v9)] [] := by
  intro n
  induction n with
  | zero => intro M v0 v1 v2 v4 v6 v7 v8 v9 hJ; cases hJ
  | succ n ih =>
    intro M v0 v1 v2 v4 v6 v7 v8 v9 hJ
    rw [jb_PM_bounds_26] at hJ
    refine mv_iload (pc := 26) de_PM_bounds_26 7 rfl ?_
    refine mv_aload_n (pc := 28) (i := 0) de_PM_bounds_28 rfl 0 rfl ?_
    refine mv_getI (pc := 29) (f := 28) (kc_1 l D E B sa) (Nat.le_of_ble_eq_true rfl) wt_4_108 de_PM_bounds_29 hJ (fun x29 e29 h29 => ?_)
    refine mv_icmp_ge (pc := 32) (tgt := 117) de_PM_bounds_32 (by decide) h29 (fun hc32 h32 => ?_) (fun hc32 h32 => ?_)
    · refine mv_iload_n (pc := 117) (i := 1) de_PM_bounds_117 rfl 1 rfl ?_
      refine mv_if_eq (pc := 118) (tgt := 136) de_PM_bounds_118 (by decide) h32 (fun hc118 h118 => ?_) (fun hc118 h118 => ?_)
      · refine mv_iload (pc := 136) de_PM_bounds_136 6 rfl ?_
        refine mv_if_ne (pc := 138) (tgt := 150) de_PM_bounds_138 (by decide) h118 (fun hc138 h138 => ?_) (fun hc138 h138 => ?_)
        · refine mv_aload_n (pc := 141) (i := 0) de_PM_bounds_141 rfl 0 rfl ?_
          refine mv_lconst (pc := 142) (v := 0) de_PM_bounds_142 (by decide) ?_
          refine mv_lconst (pc := 143) (v := 1) de_PM_bounds_143 (by decide) ?_
          obtain ⟨hi144, h144o⟩ := mj_obE h138
          obtain ⟨r144, Mm144, hz144, h144⟩ := mj_callE h144o
          refine mv_callV (pc := 144) (n := 2) (av := [.long 0, .long 1]) (rest := []) de_PM_bounds_144 (kc_1 l D E B sa) hi144 (cm_PM_least l D E B sa N M v0 0 1 _ _ hz144) wt_4_217 wt_4_219 wp_29 wt_1_8 wt_4_220 ⟨by decide, by decide, by decide +kernel⟩ rfl ⟨Nat.le_of_ble_eq_true rfl, Nat.le_of_ble_eq_true rfl⟩ (Nat.le_of_ble_eq_true rfl) rfl ?_
          refine mv_goto (pc := 147) (tgt := 178) de_PM_bounds_147 (by decide) ?_
          exact mv_sub [0, 1, 2, 3, 4] rfl (tb_PM_bounds_178 l D E B sa M0 M1 r N k8 hk8 Mm144 v0 v1 v2 v4 v6 h144)
        · refine mv_aload_n (pc := 150) (i := 0) de_PM_bounds_150 rfl 0 rfl ?_
          refine mv_ldc2 (pc := 151) de_PM_bounds_151 wt_5_121 ?_
          refine mv_iload (pc := 154) de_PM_bounds_154 6 rfl ?_
          refine mv_i2l (pc := 156) de_PM_bounds_156 ?_
          refine mv_lmul (pc := 157) de_PM_bounds_157 ?_
          refine mv_ldc2 (pc := 158) de_PM_bounds_158 wt_5_121 ?_
          refine mv_iload (pc := 161) de_PM_bounds_161 6 rfl ?_
          refine mv_i2l (pc := 163) de_PM_bounds_163 ?_
          refine mv_lmul (pc := 164) de_PM_bounds_164 ?_
          refine mv_aload_n (pc := 165) (i := 0) de_PM_bounds_165 rfl 0 rfl ?_
          refine mv_getI (pc := 166) (f := 28) (kc_1 l D E B sa) (Nat.le_of_ble_eq_true rfl) wt_4_108 de_PM_bounds_166 h138 (fun x166 e166 h166 => ?_)
          refine mv_i2l (pc := 169) de_PM_bounds_169 ?_
          refine mv_ladd (pc := 170) de_PM_bounds_170 ?_
          refine mv_iload (pc := 171) de_PM_bounds_171 5 rfl ?_
          refine mv_i2l (pc := 173) de_PM_bounds_173 ?_
          refine mv_lsub (pc := 174) de_PM_bounds_174 ?_
          obtain ⟨hi175, h175o⟩ := mj_obE h166
          obtain ⟨r175, Mm175, hz175, h175⟩ := mj_callE h175o
          refine mv_callV (pc := 175) (n := 2) (av := [.long (2 * v8.toInt64), .long (((2 * v8.toInt64) + x166.toInt64) - v7.toInt64)]) (rest := []) de_PM_bounds_175 (kc_1 l D E B sa) hi175 (cm_PM_least l D E B sa N M v0 (2 * v8.toInt64) (((2 * v8.toInt64) + x166.toInt64) - v7.toInt64) _ _ hz175) wt_4_217 wt_4_219 wp_29 wt_1_8 wt_4_220 ⟨by decide, by decide, by decide +kernel⟩ rfl ⟨Nat.le_of_ble_eq_true rfl, Nat.le_of_ble_eq_true rfl⟩ (Nat.le_of_ble_eq_true rfl) rfl ?_
          exact mv_sub [0, 1, 2, 3, 4] rfl (tb_PM_bounds_178 l D E B sa M0 M1 r N k8 hk8 Mm175 v0 v1 v2 v4 v6 h175)
      · refine mv_aload_n (pc := 121) (i := 0) de_PM_bounds_121 rfl 0 rfl ?_
        refine mv_iload (pc := 122) de_PM_bounds_122 5 rfl ?_
        refine mv_i2l (pc := 124) de_PM_bounds_124 ?_
        refine mv_aload_n (pc := 125) (i := 0) de_PM_bounds_125 rfl 0 rfl ?_
        refine mv_getI (pc := 126) (f := 28) (kc_1 l D E B sa) (Nat.le_of_ble_eq_true rfl) wt_4_108 de_PM_bounds_126 h118 (fun x126 e126 h126 => ?_)
        refine mv_i2l (pc := 129) de_PM_bounds_129 ?_
        obtain ⟨hi130, h130o⟩ := mj_obE h126
        obtain ⟨r130, Mm130, hz130, h130⟩ := mj_callE h130o
        refine mv_callV (pc := 130) (n := 2) (av := [.long v7.toInt64, .long x126.toInt64]) (rest := []) de_PM_bounds_130 (kc_1 l D E B sa) hi130 (cm_PM_least l D E B sa N M v0 v7.toInt64 x126.toInt64 _ _ hz130) wt_4_217 wt_4_219 wp_29 wt_1_8 wt_4_220 ⟨by decide, by decide, by decide +kernel⟩ rfl ⟨Nat.le_of_ble_eq_true rfl, Nat.le_of_ble_eq_true rfl⟩ (Nat.le_of_ble_eq_true rfl) rfl ?_
        refine mv_goto (pc := 133) (tgt := 178) de_PM_bounds_133 (by decide) ?_
        exact mv_sub [0, 1, 2, 3, 4] rfl (tb_PM_bounds_178 l D E B sa M0 M1 r N k8 hk8 Mm130 v0 v1 v2 v4 v6 h130)
    · refine mv_iload (pc := 35) de_PM_bounds_35 4 rfl ?_
      refine mv_if_lt (pc := 37) (tgt := 61) de_PM_bounds_37 (by decide) h32 (fun hc37 h37 => ?_) (fun hc37 h37 => ?_)
      · exact mv_sub [0, 1, 2, 3, 4, 5, 6, 7] rfl (tb_PM_bounds_61 l D E B sa M0 M1 r N k8 (jb_PM_bounds_26 N k8 n) hk8 ih M v0 v1 v2 v4 v6 v7 v8 v9 h37)
      · refine mv_aload_n (pc := 40) (i := 0) de_PM_bounds_40 rfl 0 rfl ?_
        refine mv_getR (pc := 41) (f := 29) (kc_1 l D E B sa) (Nat.le_of_ble_eq_true rfl) wt_4_109 de_PM_bounds_41 h37 (fun x41 e41 h41 => ?_)
        refine mv_iload (pc := 44) de_PM_bounds_44 7 rfl ?_
        obtain ⟨a46, ha, h46a⟩ := mj_bindE h41
        subst ha
        refine mv_iald (pc := 46) (t := 0) rfl de_PM_bounds_46 h46a (fun x46 e46 h46 => ?_)
        refine mv_aload_n (pc := 47) (i := 0) de_PM_bounds_47 rfl 0 rfl ?_
        refine mv_getR (pc := 48) (f := 29) (kc_1 l D E B sa) (Nat.le_of_ble_eq_true rfl) wt_4_109 de_PM_bounds_48 h46 (fun x48 e48 h48 => ?_)
        refine mv_iload (pc := 51) de_PM_bounds_51 4 rfl ?_
        obtain ⟨a53, ha, h53a⟩ := mj_bindE h48
        subst ha
        refine mv_iald (pc := 53) (t := 0) rfl de_PM_bounds_53 h53a (fun x53 e53 h53 => ?_)
        refine mv_icmp_lt (pc := 54) (tgt := 61) de_PM_bounds_54 (by decide) h53 (fun hc54 h54 => ?_) (fun hc54 h54 => ?_)
        · exact mv_sub [0, 1, 2, 3, 4, 5, 6, 7] rfl (tb_PM_bounds_61 l D E B sa M0 M1 r N k8 (jb_PM_bounds_26 N k8 n) hk8 ih M v0 v1 v2 v4 v6 v7 v8 v9 h54)
        · refine mv_iconst (pc := 57) (v := 1) de_PM_bounds_57 (by decide) ?_
          refine mv_goto (pc := 58) (tgt := 62) de_PM_bounds_58 (by decide) ?_
          exact mv_sub [0, 1, 2, 3, 4, 5, 6, 7] rfl (tb_PM_bounds_62 l D E B sa M0 M1 r N k8 (jb_PM_bounds_26 N k8 n) hk8 ih M v0 v1 v2 v4 v6 v7 v8 v9 1 h54)
set_option maxHeartbeats 4000000 in
set_option maxRecDepth 100000 in
theorem tb_PM_bounds_8 (l : Launch) (D : va_G) (E : Nat → ClassId) (B : Nat) (sa : (Nat → Nat) × Nat × (Nat → Int32)) (M0 M1 : mv_M) (r : Unit) (N : Nat) : ∀ (n : Nat) (M : mv_M) (v0 : Nat) (v1 : Int32) (v2 : Int64) (v4 : Int64) (v6 : Int32) (hJ : jb_PM_bounds_8 N n M v0 v1 v2 v4 v6 = some (r, M1)), mv_G (xg l D E B sa) kd_PM_bounds M0 M1 none M 8 [(0, va_rf (some v0)), (1, .int v1), (2, .long v2), (4, .long v4), (6, .int v6)] [] := by
  intro n
  induction n with
  | zero => intro M v0 v1 v2 v4 v6 hJ; cases hJ
  | succ n ih =>
    intro M v0 v1 v2 v4 v6 hJ
    rw [jb_PM_bounds_8] at hJ
    refine mv_iload (pc := 8) de_PM_bounds_8 4 rfl ?_
    refine mv_aload_n (pc := 10) (i := 0) de_PM_bounds_10 rfl 0 rfl ?_
    refine mv_getI (pc := 11) (f := 28) (kc_1 l D E B sa) (Nat.le_of_ble_eq_true rfl) wt_4_108 de_PM_bounds_11 hJ (fun x11 e11 h11 => ?_)
    refine mv_icmp_ge (pc := 14) (tgt := 224) de_PM_bounds_14 (by decide) h11 (fun hc14 h14 => ?_) (fun hc14 h14 => ?_)
    · refine mv_aload_n (pc := 224) (i := 0) de_PM_bounds_224 rfl 0 rfl ?_
      refine mv_lload_n (pc := 225) (i := 2) de_PM_bounds_225 rfl 2 rfl ?_
      refine mv_put (pc := 226) (f := 0) (kc_1 l D E B sa) (Nat.le_of_ble_eq_true rfl) wt_4_80 rfl rfl rfl de_PM_bounds_226 h14 (fun Mm226 e226 h226 => ?_)
      refine mv_aload_n (pc := 229) (i := 0) de_PM_bounds_229 rfl 0 rfl ?_
      refine mv_lload (pc := 230) de_PM_bounds_230 3 rfl ?_
      refine mv_put (pc := 232) (f := 1) (kc_1 l D E B sa) (Nat.le_of_ble_eq_true rfl) wt_4_81 rfl rfl rfl de_PM_bounds_232 h226 (fun Mm232 e232 h232 => ?_)
      exact mv_vret (pc := 235) rfl de_PM_bounds_235 h232
    · refine mv_iconst (pc := 17) (v := 0) de_PM_bounds_17 (by decide) ?_
      refine mv_istore (pc := 18) (lv' := [(7, .int 0), (0, va_rf (some v0)), (1, .int v1), (2, .long v2), (4, .long v4), (6, .int v6)]) de_PM_bounds_18 (Nat.le_of_ble_eq_true rfl) rfl ?_
      refine mv_iconst (pc := 20) (v := 0) de_PM_bounds_20 (by decide) ?_
      refine mv_istore (pc := 21) (lv' := [(8, .int 0), (7, .int 0), (0, va_rf (some v0)), (1, .int v1), (2, .long v2), (4, .long v4), (6, .int v6)]) de_PM_bounds_21 (Nat.le_of_ble_eq_true rfl) rfl ?_
      refine mv_iconst (pc := 23) (v := 0) de_PM_bounds_23 (by decide) ?_
      refine mv_istore (pc := 24) (lv' := [(9, .int 0), (8, .int 0), (7, .int 0), (0, va_rf (some v0)), (1, .int v1), (2, .long v2), (4, .long v4), (6, .int v6)]) de_PM_bounds_24 (Nat.le_of_ble_eq_true rfl) rfl ?_
      exact mv_sub [3, 4, 5, 6, 7, 2, 1, 0] rfl (tb_PM_bounds_26 l D E B sa M0 M1 r N (jb_PM_bounds_8 N n) ih N M v0 v1 v2 v4 v6 0 0 0 h14)
set_option maxHeartbeats 4000000 in
set_option maxRecDepth 100000 in
theorem tb_PM_bounds_0 (l : Launch) (D : va_G) (E : Nat → ClassId) (B : Nat) (sa : (Nat → Nat) × Nat × (Nat → Int32)) (M0 M1 : mv_M) (r : Unit) (N : Nat) (M : mv_M) (v0 : Nat) (v1 : Int32) (hJ : jb_PM_bounds_0 N M v0 v1 = some (r, M1)) : mv_G (xg l D E B sa) kd_PM_bounds M0 M1 none M 0 [(0, va_rf (some v0)), (1, .int v1)] [] := by
  unfold jb_PM_bounds_0 at hJ
  refine mv_lconst (pc := 0) (v := 0) de_PM_bounds_0 (by decide) ?_
  refine mv_lstore_n (pc := 1) (i := 2) (lv' := [(2, .long 0), (0, va_rf (some v0)), (1, .int v1)]) de_PM_bounds_1 rfl (Nat.le_of_ble_eq_true rfl) rfl ?_
  refine mv_lconst (pc := 2) (v := 1) de_PM_bounds_2 (by decide) ?_
  refine mv_lstore (pc := 3) (lv' := [(4, .long 1), (2, .long 0), (0, va_rf (some v0)), (1, .int v1)]) de_PM_bounds_3 (Nat.le_of_ble_eq_true rfl) rfl ?_
  refine mv_iconst (pc := 5) (v := (-1)) de_PM_bounds_5 (by decide) ?_
  refine mv_istore (pc := 6) (lv' := [(6, .int (-1)), (4, .long 1), (2, .long 0), (0, va_rf (some v0)), (1, .int v1)]) de_PM_bounds_6 (Nat.le_of_ble_eq_true rfl) rfl ?_
  exact mv_sub [3, 4, 2, 1, 0] rfl (tb_PM_bounds_8 l D E B sa M0 M1 r N N M v0 v1 0 1 (-1) hJ)
theorem cm_PM_bounds (l : Launch) (D : va_G) (E : Nat → ClassId) (B : Nat) (sa : (Nat → Nat) × Nat × (Nat → Int32)) (N : Nat) (M : mv_M) (v0 : Nat) (v1 : Int32) (r : Unit) (M1 : mv_M) (hJ : jf_PM_bounds N M v0 v1 = some (r, M1)) : mv_Met (xg l D E B sa) yn_PM_bounds cd_PM_bounds 11 none 1 30 [va_rf (some v0), .int v1] M none M1 :=
  mv_enter (by decide) (Nat.le_of_ble_eq_true rfl) (mv_sub (lv := [(0, va_rf (some v0)), (1, .int v1)]) [0, 1] rfl (tb_PM_bounds_0 l D E B sa M M1 r N M v0 v1 hJ))
/-! ===== PlainLearnerModel.ranks()V ===== -/
abbrev kd_PM_ranks : mv_Kd := (cd_PM_ranks, 8, "PlainLearnerModel", "ranks", none, 2, 58)
theorem de_PM_ranks_0 : decode cd_PM_ranks 0 = .ok (.lconst 0, 1) := by decide +kernel
theorem de_PM_ranks_1 : decode cd_PM_ranks 1 = .ok (.lstore_n 1, 1) := by decide +kernel
theorem de_PM_ranks_2 : decode cd_PM_ranks 2 = .ok (.lconst 1, 1) := by decide +kernel
theorem de_PM_ranks_3 : decode cd_PM_ranks 3 = .ok (.lstore_n 3, 1) := by decide +kernel
theorem de_PM_ranks_4 : decode cd_PM_ranks 4 = .ok (.iconst 0, 1) := by decide +kernel
theorem de_PM_ranks_5 : decode cd_PM_ranks 5 = .ok (.istore 5, 2) := by decide +kernel
theorem de_PM_ranks_7 : decode cd_PM_ranks 7 = .ok (.iload 5, 2) := by decide +kernel
theorem de_PM_ranks_9 : decode cd_PM_ranks 9 = .ok (.aload_n 0, 1) := by decide +kernel
theorem de_PM_ranks_10 : decode cd_PM_ranks 10 = .ok (.getfield 273, 3) := by decide +kernel
theorem de_PM_ranks_13 : decode cd_PM_ranks 13 = .ok (.if_icmp .ge 90, 3) := by decide +kernel
theorem de_PM_ranks_16 : decode cd_PM_ranks 16 = .ok (.aload_n 0, 1) := by decide +kernel
theorem de_PM_ranks_17 : decode cd_PM_ranks 17 = .ok (.getfield 57, 3) := by decide +kernel
theorem de_PM_ranks_20 : decode cd_PM_ranks 20 = .ok (.iload 5, 2) := by decide +kernel
theorem de_PM_ranks_22 : decode cd_PM_ranks 22 = .ok (.baload, 1) := by decide +kernel
theorem de_PM_ranks_23 : decode cd_PM_ranks 23 = .ok (.ifCond .ne 6, 3) := by decide +kernel
theorem de_PM_ranks_26 : decode cd_PM_ranks 26 = .ok (.goto 71, 3) := by decide +kernel
theorem de_PM_ranks_29 : decode cd_PM_ranks 29 = .ok (.iconst 0, 1) := by decide +kernel
theorem de_PM_ranks_30 : decode cd_PM_ranks 30 = .ok (.istore 6, 2) := by decide +kernel
theorem de_PM_ranks_32 : decode cd_PM_ranks 32 = .ok (.iconst 0, 1) := by decide +kernel
theorem de_PM_ranks_33 : decode cd_PM_ranks 33 = .ok (.istore 7, 2) := by decide +kernel
theorem de_PM_ranks_35 : decode cd_PM_ranks 35 = .ok (.iload 7, 2) := by decide +kernel
theorem de_PM_ranks_37 : decode cd_PM_ranks 37 = .ok (.aload_n 0, 1) := by decide +kernel
theorem de_PM_ranks_38 : decode cd_PM_ranks 38 = .ok (.getfield 273, 3) := by decide +kernel
theorem de_PM_ranks_41 : decode cd_PM_ranks 41 = .ok (.if_icmp .ge 36, 3) := by decide +kernel
theorem de_PM_ranks_44 : decode cd_PM_ranks 44 = .ok (.iload 6, 2) := by decide +kernel
theorem de_PM_ranks_46 : decode cd_PM_ranks 46 = .ok (.aload_n 0, 1) := by decide +kernel
theorem de_PM_ranks_47 : decode cd_PM_ranks 47 = .ok (.getfield 54, 3) := by decide +kernel
theorem de_PM_ranks_50 : decode cd_PM_ranks 50 = .ok (.iload 7, 2) := by decide +kernel
theorem de_PM_ranks_52 : decode cd_PM_ranks 52 = .ok (.iaload, 1) := by decide +kernel
theorem de_PM_ranks_53 : decode cd_PM_ranks 53 = .ok (.aload_n 0, 1) := by decide +kernel
theorem de_PM_ranks_54 : decode cd_PM_ranks 54 = .ok (.getfield 54, 3) := by decide +kernel
theorem de_PM_ranks_57 : decode cd_PM_ranks 57 = .ok (.iload 5, 2) := by decide +kernel
theorem de_PM_ranks_59 : decode cd_PM_ranks 59 = .ok (.iaload, 1) := by decide +kernel
theorem de_PM_ranks_60 : decode cd_PM_ranks 60 = .ok (.if_icmp .lt 7, 3) := by decide +kernel
theorem de_PM_ranks_63 : decode cd_PM_ranks 63 = .ok (.iconst 1, 1) := by decide +kernel
theorem de_PM_ranks_64 : decode cd_PM_ranks 64 = .ok (.goto 4, 3) := by decide +kernel
theorem de_PM_ranks_67 : decode cd_PM_ranks 67 = .ok (.iconst 0, 1) := by decide +kernel
theorem de_PM_ranks_68 : decode cd_PM_ranks 68 = .ok (.iadd, 1) := by decide +kernel
theorem de_PM_ranks_69 : decode cd_PM_ranks 69 = .ok (.istore 6, 2) := by decide +kernel
theorem de_PM_ranks_71 : decode cd_PM_ranks 71 = .ok (.iinc 7 1, 3) := by decide +kernel
theorem de_PM_ranks_74 : decode cd_PM_ranks 74 = .ok (.goto (-39), 3) := by decide +kernel
theorem de_PM_ranks_77 : decode cd_PM_ranks 77 = .ok (.aload_n 0, 1) := by decide +kernel
theorem de_PM_ranks_78 : decode cd_PM_ranks 78 = .ok (.lload_n 1, 1) := by decide +kernel
theorem de_PM_ranks_79 : decode cd_PM_ranks 79 = .ok (.lload_n 3, 1) := by decide +kernel
theorem de_PM_ranks_80 : decode cd_PM_ranks 80 = .ok (.lconst 1, 1) := by decide +kernel
theorem de_PM_ranks_81 : decode cd_PM_ranks 81 = .ok (.iload 6, 2) := by decide +kernel
theorem de_PM_ranks_83 : decode cd_PM_ranks 83 = .ok (.i2l, 1) := by decide +kernel
theorem de_PM_ranks_84 : decode cd_PM_ranks 84 = .ok (.invokevirtual 141, 3) := by decide +kernel
theorem de_PM_ranks_87 : decode cd_PM_ranks 87 = .ok (.aload_n 0, 1) := by decide +kernel
theorem de_PM_ranks_88 : decode cd_PM_ranks 88 = .ok (.getfield 81, 3) := by decide +kernel
theorem de_PM_ranks_91 : decode cd_PM_ranks 91 = .ok (.lstore_n 1, 1) := by decide +kernel
theorem de_PM_ranks_92 : decode cd_PM_ranks 92 = .ok (.aload_n 0, 1) := by decide +kernel
theorem de_PM_ranks_93 : decode cd_PM_ranks 93 = .ok (.getfield 84, 3) := by decide +kernel
theorem de_PM_ranks_96 : decode cd_PM_ranks 96 = .ok (.lstore_n 3, 1) := by decide +kernel
theorem de_PM_ranks_97 : decode cd_PM_ranks 97 = .ok (.iinc 5 1, 3) := by decide +kernel
theorem de_PM_ranks_100 : decode cd_PM_ranks 100 = .ok (.goto (-93), 3) := by decide +kernel
theorem de_PM_ranks_103 : decode cd_PM_ranks 103 = .ok (.aload_n 0, 1) := by decide +kernel
theorem de_PM_ranks_104 : decode cd_PM_ranks 104 = .ok (.lload_n 1, 1) := by decide +kernel
theorem de_PM_ranks_105 : decode cd_PM_ranks 105 = .ok (.lload_n 3, 1) := by decide +kernel
theorem de_PM_ranks_106 : decode cd_PM_ranks 106 = .ok (.aload_n 0, 1) := by decide +kernel
theorem de_PM_ranks_107 : decode cd_PM_ranks 107 = .ok (.invokevirtual 276, 3) := by decide +kernel
theorem de_PM_ranks_110 : decode cd_PM_ranks 110 = .ok (.i2l, 1) := by decide +kernel
theorem de_PM_ranks_111 : decode cd_PM_ranks 111 = .ok (.lconst 1, 1) := by decide +kernel
theorem de_PM_ranks_112 : decode cd_PM_ranks 112 = .ok (.invokevirtual 148, 3) := by decide +kernel
theorem de_PM_ranks_115 : decode cd_PM_ranks 115 = .ok (.return_, 1) := by decide +kernel
def jb_PM_ranks_97 (N : Nat) (k7 : mv_M → Nat → Int64 → Int64 → Int32 → Option (Unit × mv_M)) (M : mv_M) (v0 : Nat) (v1 : Int64) (v3 : Int64) (v5 : Int32) : Option (Unit × mv_M) :=
  k7 M v0 v1 v3 (v5 + 1)
def jb_PM_ranks_68 (N : Nat) (k7 : mv_M → Nat → Int64 → Int64 → Int32 → Option (Unit × mv_M)) (k35 : mv_M → Nat → Int64 → Int64 → Int32 → Int32 → Int32 → Option (Unit × mv_M)) (M : mv_M) (v0 : Nat) (v1 : Int64) (v3 : Int64) (v5 : Int32) (v7 : Int32) (s0 : Int32) (s1 : Int32) : Option (Unit × mv_M) :=
  k35 M v0 v1 v3 v5 (s0 + s1) (v7 + 1)
def jb_PM_ranks_35 (N : Nat) (k7 : mv_M → Nat → Int64 → Int64 → Int32 → Option (Unit × mv_M)) : Nat → mv_M → Nat → Int64 → Int64 → Int32 → Int32 → Int32 → Option (Unit × mv_M)
  | 0, _, _, _, _, _, _, _ => none
  | n + 1, M, v0, v1, v3, v5, v6, v7 =>
    Option.bind (mj_getI M v0 1 28) fun x38 =>
    if x38 ≤ v7 then (mj_ob M v0 1 <|
    mj_call (jf_PM_plus N M v0 v1 v3 1 v6.toInt64) fun r84 Mm84 =>
    Option.bind (mj_getL Mm84 v0 1 0) fun x88 =>
    Option.bind (mj_getL Mm84 v0 1 1) fun x93 =>
    jb_PM_ranks_97 N k7 Mm84 v0 x88 x93 v5) else
    Option.bind (mj_getR M v0 1 29) fun x47 =>
    Option.bind x47 fun a52 =>
    Option.bind (mj_ild M a52 0 v7) fun x52 =>
    Option.bind (mj_getR M v0 1 29) fun x54 =>
    Option.bind x54 fun a59 =>
    Option.bind (mj_ild M a59 0 v5) fun x59 =>
    if x52 < x59 then (jb_PM_ranks_68 N k7 (jb_PM_ranks_35 N k7 n) M v0 v1 v3 v5 v7 v6 0) else
    jb_PM_ranks_68 N k7 (jb_PM_ranks_35 N k7 n) M v0 v1 v3 v5 v7 v6 1
def jb_PM_ranks_7 (N : Nat) : Nat → mv_M → Nat → Int64 → Int64 → Int32 → Option (Unit × mv_M)
  | 0, _, _, _, _, _ => none
  | n + 1, M, v0, v1, v3, v5 =>
    Option.bind (mj_getI M v0 1 28) fun x10 =>
    if x10 ≤ v5 then (mj_ob M v0 1 <|
    mj_call (jf_PM_yes N M v0) fun r107 Mm107 =>
    mj_ob Mm107 v0 1 <|
    mj_call (jf_PM_over N Mm107 v0 v1 v3 r107.toInt64 1) fun r112 Mm112 =>
    some ((), Mm112)) else
    Option.bind (mj_getR M v0 1 30) fun x17 =>
    Option.bind x17 fun a22 =>
    Option.bind (mj_ild M a22 2 v5) fun x22 =>
    if x22 = 0 then (jb_PM_ranks_97 N (jb_PM_ranks_7 N n) M v0 v1 v3 v5) else
    jb_PM_ranks_35 N (jb_PM_ranks_7 N n) N M v0 v1 v3 v5 0 0
def jb_PM_ranks_0 (N : Nat) (M : mv_M) (v0 : Nat) : Option (Unit × mv_M) :=
  jb_PM_ranks_7 N N M v0 0 1 0
def jf_PM_ranks (N : Nat) (M : mv_M) (v0 : Nat) : Option (Unit × mv_M) := jb_PM_ranks_0 N M v0
set_option maxHeartbeats 4000000 in
set_option maxRecDepth 100000 in
theorem tb_PM_ranks_97 (l : Launch) (D : va_G) (E : Nat → ClassId) (B : Nat) (sa : (Nat → Nat) × Nat × (Nat → Int32)) (M0 M1 : mv_M) (r : Unit) (N : Nat) (k7 : mv_M → Nat → Int64 → Int64 → Int32 → Option (Unit × mv_M)) (hk7 : ∀ (M : mv_M) (v0 : Nat) (v1 : Int64) (v3 : Int64) (v5 : Int32), k7 M v0 v1 v3 v5 = some (r, M1) → mv_G (xg l D E B sa) kd_PM_ranks M0 M1 none M 7 [(0, va_rf (some v0)), (1, .long v1), (3, .long v3), (5, .int v5)] []) (M : mv_M) (v0 : Nat) (v1 : Int64) (v3 : Int64) (v5 : Int32) (hJ : jb_PM_ranks_97 N k7 M v0 v1 v3 v5 = some (r, M1)) : mv_G (xg l D E B sa) kd_PM_ranks M0 M1 none M 97 [(0, va_rf (some v0)), (1, .long v1), (3, .long v3), (5, .int v5)] [] := by
  unfold jb_PM_ranks_97 at hJ
  refine mv_iinc (pc := 97) (v := (v5 + 1)) (lv' := [(5, .int (v5 + 1)), (0, va_rf (some v0)), (1, .long v1), (3, .long v3)]) de_PM_ranks_97 3 rfl rfl (Nat.le_of_ble_eq_true rfl) rfl ?_
  refine mv_goto (pc := 100) (tgt := 7) de_PM_ranks_100 (by decide) ?_
  exact mv_sub [1, 2, 3, 0] rfl (hk7 M v0 v1 v3 (v5 + 1) hJ)
set_option maxHeartbeats 4000000 in
set_option maxRecDepth 100000 in
theorem tb_PM_ranks_68 (l : Launch) (D : va_G) (E : Nat → ClassId) (B : Nat) (sa : (Nat → Nat) × Nat × (Nat → Int32)) (M0 M1 : mv_M) (r : Unit) (N : Nat) (k7 : mv_M → Nat → Int64 → Int64 → Int32 → Option (Unit × mv_M)) (k35 : mv_M → Nat → Int64 → Int64 → Int32 → Int32 → Int32 → Option (Unit × mv_M)) (hk7 : ∀ (M : mv_M) (v0 : Nat) (v1 : Int64) (v3 : Int64) (v5 : Int32), k7 M v0 v1 v3 v5 = some (r, M1) → mv_G (xg l D E B sa) kd_PM_ranks M0 M1 none M 7 [(0, va_rf (some v0)), (1, .long v1), (3, .long v3), (5, .int v5)] []) (hk35 : ∀ (M : mv_M) (v0 : Nat) (v1 : Int64) (v3 : Int64) (v5 : Int32) (v6 : Int32) (v7 : Int32), k35 M v0 v1 v3 v5 v6 v7 = some (r, M1) → mv_G (xg l D E B sa) kd_PM_ranks M0 M1 none M 35 [(0, va_rf (some v0)), (1, .long v1), (3, .long v3), (5, .int v5), (6, .int v6), (7, .int v7)] []) (M : mv_M) (v0 : Nat) (v1 : Int64) (v3 : Int64) (v5 : Int32) (v7 : Int32) (s0 : Int32) (s1 : Int32) (hJ : jb_PM_ranks_68 N k7 k35 M v0 v1 v3 v5 v7 s0 s1 = some (r, M1)) : mv_G (xg l D E B sa) kd_PM_ranks M0 M1 none M 68 [(0, va_rf (some v0)), (1, .long v1), (3, .long v3), (5, .int v5), (7, .int v7)] [.int s1, .int s0] := by
  unfold jb_PM_ranks_68 at hJ
  refine mv_iadd (pc := 68) de_PM_ranks_68 ?_
  refine mv_istore (pc := 69) (lv' := [(6, .int (s0 + s1)), (0, va_rf (some v0)), (1, .long v1), (3, .long v3), (5, .int v5), (7, .int v7)]) de_PM_ranks_69 (Nat.le_of_ble_eq_true rfl) rfl ?_
  refine mv_iinc (pc := 71) (v := (v7 + 1)) (lv' := [(7, .int (v7 + 1)), (6, .int (s0 + s1)), (0, va_rf (some v0)), (1, .long v1), (3, .long v3), (5, .int v5)]) de_PM_ranks_71 5 rfl rfl (Nat.le_of_ble_eq_true rfl) rfl ?_
  refine mv_goto (pc := 74) (tgt := 35) de_PM_ranks_74 (by decide) ?_
  exact mv_sub [2, 3, 4, 5, 1, 0] rfl (hk35 M v0 v1 v3 v5 (s0 + s1) (v7 + 1) hJ)
set_option maxHeartbeats 4000000 in
set_option maxRecDepth 100000 in
theorem tb_PM_ranks_35 (l : Launch) (D : va_G) (E : Nat → ClassId) (B : Nat) (sa : (Nat → Nat) × Nat × (Nat → Int32)) (M0 M1 : mv_M) (r : Unit) (N : Nat) (k7 : mv_M → Nat → Int64 → Int64 → Int32 → Option (Unit × mv_M)) (hk7 : ∀ (M : mv_M) (v0 : Nat) (v1 : Int64) (v3 : Int64) (v5 : Int32), k7 M v0 v1 v3 v5 = some (r, M1) → mv_G (xg l D E B sa) kd_PM_ranks M0 M1 none M 7 [(0, va_rf (some v0)), (1, .long v1), (3, .long v3), (5, .int v5)] []) : ∀ (n : Nat) (M : mv_M) (v0 : Nat) (v1 : Int64) (v3 : Int64) (v5 : Int32) (v6 : Int32) (v7 : Int32) (hJ : jb_PM_ranks_35 N k7 n M v0 v1 v3 v5 v6 v7 = some (r, M1)), mv_G (xg l D E B sa) kd_PM_ranks M0 M1 none M 35 [(0, va_rf (some v0)), (1, .long v1), (3, .long v3), (5, .int v5), (6, .int v6), (7, .int v7)] [] := by
  intro n
  induction n with
  | zero => intro M v0 v1 v3 v5 v6 v7 hJ; cases hJ
  | succ n ih =>
    intro M v0 v1 v3 v5 v6 v7 hJ
    rw [jb_PM_ranks_35] at hJ
    refine mv_iload (pc := 35) de_PM_ranks_35 5 rfl ?_
    refine mv_aload_n (pc := 37) (i := 0) de_PM_ranks_37 rfl 0 rfl ?_
    refine mv_getI (pc := 38) (f := 28) (kc_1 l D E B sa) (Nat.le_of_ble_eq_true rfl) wt_4_108 de_PM_ranks_38 hJ (fun x38 e38 h38 => ?_)
    refine mv_icmp_ge (pc := 41) (tgt := 77) de_PM_ranks_41 (by decide) h38 (fun hc41 h41 => ?_) (fun hc41 h41 => ?_)
    · refine mv_aload_n (pc := 77) (i := 0) de_PM_ranks_77 rfl 0 rfl ?_
      refine mv_lload_n (pc := 78) (i := 1) de_PM_ranks_78 rfl 1 rfl ?_
      refine mv_lload_n (pc := 79) (i := 3) de_PM_ranks_79 rfl 2 rfl ?_
      refine mv_lconst (pc := 80) (v := 1) de_PM_ranks_80 (by decide) ?_
      refine mv_iload (pc := 81) de_PM_ranks_81 4 rfl ?_
      refine mv_i2l (pc := 83) de_PM_ranks_83 ?_
      obtain ⟨hi84, h84o⟩ := mj_obE h41
      obtain ⟨r84, Mm84, hz84, h84⟩ := mj_callE h84o
      refine mv_callV (pc := 84) (n := 4) (av := [.long v1, .long v3, .long 1, .long v6.toInt64]) (rest := []) de_PM_ranks_84 (kc_1 l D E B sa) hi84 (cm_PM_plus l D E B sa N M v0 v1 v3 1 v6.toInt64 _ _ hz84) wt_5_26 wt_5_28 wp_37 wt_1_8 wt_5_29 ⟨by decide, by decide, by decide +kernel⟩ rfl ⟨Nat.le_of_ble_eq_true rfl, Nat.le_of_ble_eq_true rfl⟩ (Nat.le_of_ble_eq_true rfl) rfl ?_
      refine mv_aload_n (pc := 87) (i := 0) de_PM_ranks_87 rfl 0 rfl ?_
      refine mv_getL (pc := 88) (f := 0) (kc_1 l D E B sa) (Nat.le_of_ble_eq_true rfl) wt_4_80 de_PM_ranks_88 h84 (fun x88 e88 h88 => ?_)
      refine mv_lstore_n (pc := 91) (i := 1) (lv' := [(1, .long x88), (0, va_rf (some v0)), (3, .long v3), (5, .int v5), (6, .int v6), (7, .int v7)]) de_PM_ranks_91 rfl (Nat.le_of_ble_eq_true rfl) rfl ?_
      refine mv_aload_n (pc := 92) (i := 0) de_PM_ranks_92 rfl 1 rfl ?_
      refine mv_getL (pc := 93) (f := 1) (kc_1 l D E B sa) (Nat.le_of_ble_eq_true rfl) wt_4_81 de_PM_ranks_93 h88 (fun x93 e93 h93 => ?_)
      refine mv_lstore_n (pc := 96) (i := 3) (lv' := [(3, .long x93), (1, .long x88), (0, va_rf (some v0)), (5, .int v5), (6, .int v6), (7, .int v7)]) de_PM_ranks_96 rfl (Nat.le_of_ble_eq_true rfl) rfl ?_
      exact mv_sub [2, 1, 0, 3] rfl (tb_PM_ranks_97 l D E B sa M0 M1 r N k7 hk7 Mm84 v0 x88 x93 v5 h93)
    · refine mv_iload (pc := 44) de_PM_ranks_44 4 rfl ?_
      refine mv_aload_n (pc := 46) (i := 0) de_PM_ranks_46 rfl 0 rfl ?_
      refine mv_getR (pc := 47) (f := 29) (kc_1 l D E B sa) (Nat.le_of_ble_eq_true rfl) wt_4_109 de_PM_ranks_47 h41 (fun x47 e47 h47 => ?_)
      refine mv_iload (pc := 50) de_PM_ranks_50 5 rfl ?_
      obtain ⟨a52, ha, h52a⟩ := mj_bindE h47
      subst ha
      refine mv_iald (pc := 52) (t := 0) rfl de_PM_ranks_52 h52a (fun x52 e52 h52 => ?_)
      refine mv_aload_n (pc := 53) (i := 0) de_PM_ranks_53 rfl 0 rfl ?_
      refine mv_getR (pc := 54) (f := 29) (kc_1 l D E B sa) (Nat.le_of_ble_eq_true rfl) wt_4_109 de_PM_ranks_54 h52 (fun x54 e54 h54 => ?_)
      refine mv_iload (pc := 57) de_PM_ranks_57 3 rfl ?_
      obtain ⟨a59, ha, h59a⟩ := mj_bindE h54
      subst ha
      refine mv_iald (pc := 59) (t := 0) rfl de_PM_ranks_59 h59a (fun x59 e59 h59 => ?_)
      refine mv_icmp_lt (pc := 60) (tgt := 67) de_PM_ranks_60 (by decide) h59 (fun hc60 h60 => ?_) (fun hc60 h60 => ?_)
      · refine mv_iconst (pc := 67) (v := 0) de_PM_ranks_67 (by decide) ?_
        exact mv_sub [0, 1, 2, 3, 5] rfl (tb_PM_ranks_68 l D E B sa M0 M1 r N k7 (jb_PM_ranks_35 N k7 n) hk7 ih M v0 v1 v3 v5 v7 v6 0 h60)
      · refine mv_iconst (pc := 63) (v := 1) de_PM_ranks_63 (by decide) ?_
        refine mv_goto (pc := 64) (tgt := 68) de_PM_ranks_64 (by decide) ?_
        exact mv_sub [0, 1, 2, 3, 5] rfl (tb_PM_ranks_68 l D E B sa M0 M1 r N k7 (jb_PM_ranks_35 N k7 n) hk7 ih M v0 v1 v3 v5 v7 v6 1 h60)
set_option maxHeartbeats 4000000 in
set_option maxRecDepth 100000 in
theorem tb_PM_ranks_7 (l : Launch) (D : va_G) (E : Nat → ClassId) (B : Nat) (sa : (Nat → Nat) × Nat × (Nat → Int32)) (M0 M1 : mv_M) (r : Unit) (N : Nat) : ∀ (n : Nat) (M : mv_M) (v0 : Nat) (v1 : Int64) (v3 : Int64) (v5 : Int32) (hJ : jb_PM_ranks_7 N n M v0 v1 v3 v5 = some (r, M1)), mv_G (xg l D E B sa) kd_PM_ranks M0 M1 none M 7 [(0, va_rf (some v0)), (1, .long v1), (3, .long v3), (5, .int v5)] [] := by
  intro n
  induction n with
  | zero => intro M v0 v1 v3 v5 hJ; cases hJ
  | succ n ih =>
    intro M v0 v1 v3 v5 hJ
    rw [jb_PM_ranks_7] at hJ
    refine mv_iload (pc := 7) de_PM_ranks_7 3 rfl ?_
    refine mv_aload_n (pc := 9) (i := 0) de_PM_ranks_9 rfl 0 rfl ?_
    refine mv_getI (pc := 10) (f := 28) (kc_1 l D E B sa) (Nat.le_of_ble_eq_true rfl) wt_4_108 de_PM_ranks_10 hJ (fun x10 e10 h10 => ?_)
    refine mv_icmp_ge (pc := 13) (tgt := 103) de_PM_ranks_13 (by decide) h10 (fun hc13 h13 => ?_) (fun hc13 h13 => ?_)
    · refine mv_aload_n (pc := 103) (i := 0) de_PM_ranks_103 rfl 0 rfl ?_
      refine mv_lload_n (pc := 104) (i := 1) de_PM_ranks_104 rfl 1 rfl ?_
      refine mv_lload_n (pc := 105) (i := 3) de_PM_ranks_105 rfl 2 rfl ?_
      refine mv_aload_n (pc := 106) (i := 0) de_PM_ranks_106 rfl 0 rfl ?_
      obtain ⟨hi107, h107o⟩ := mj_obE h13
      obtain ⟨r107, Mm107, hz107, h107⟩ := mj_callE h107o
      refine mv_callV (pc := 107) (n := 0) (av := []) (rest := [.long v3, .long v1, va_rf (some v0)]) de_PM_ranks_107 (kc_1 l D E B sa) hi107 (cm_PM_yes l D E B sa N M v0 _ _ hz107) wt_5_184 wt_5_186 wp_57 wt_1_8 wt_5_187 ⟨by decide, by decide, by decide +kernel⟩ rfl ⟨Nat.le_of_ble_eq_true rfl, Nat.le_of_ble_eq_true rfl⟩ (Nat.le_of_ble_eq_true rfl) rfl ?_
      refine mv_i2l (pc := 110) de_PM_ranks_110 ?_
      refine mv_lconst (pc := 111) (v := 1) de_PM_ranks_111 (by decide) ?_
      obtain ⟨hi112, h112o⟩ := mj_obE h107
      obtain ⟨r112, Mm112, hz112, h112⟩ := mj_callE h112o
      refine mv_callV (pc := 112) (n := 4) (av := [.long v1, .long v3, .long r107.toInt64, .long 1]) (rest := []) de_PM_ranks_112 (kc_1 l D E B sa) hi112 (cm_PM_over l D E B sa N Mm107 v0 v1 v3 r107.toInt64 1 _ _ hz112) wt_5_34 wt_5_36 wp_39 wt_1_8 wt_5_37 ⟨by decide, by decide, by decide +kernel⟩ rfl ⟨Nat.le_of_ble_eq_true rfl, Nat.le_of_ble_eq_true rfl⟩ (Nat.le_of_ble_eq_true rfl) rfl ?_
      exact mv_vret (pc := 115) rfl de_PM_ranks_115 h112
    · refine mv_aload_n (pc := 16) (i := 0) de_PM_ranks_16 rfl 0 rfl ?_
      refine mv_getR (pc := 17) (f := 30) (kc_1 l D E B sa) (Nat.le_of_ble_eq_true rfl) wt_4_110 de_PM_ranks_17 h13 (fun x17 e17 h17 => ?_)
      refine mv_iload (pc := 20) de_PM_ranks_20 3 rfl ?_
      obtain ⟨a22, ha, h22a⟩ := mj_bindE h17
      subst ha
      refine mv_zald (pc := 22) (t := 2) rfl de_PM_ranks_22 h22a (fun x22 e22 h22 => ?_)
      refine mv_if_ne (pc := 23) (tgt := 29) de_PM_ranks_23 (by decide) h22 (fun hc23 h23 => ?_) (fun hc23 h23 => ?_)
      · refine mv_goto (pc := 26) (tgt := 97) de_PM_ranks_26 (by decide) ?_
        exact mv_sub [0, 1, 2, 3] rfl (tb_PM_ranks_97 l D E B sa M0 M1 r N (jb_PM_ranks_7 N n) ih M v0 v1 v3 v5 h23)
      · refine mv_iconst (pc := 29) (v := 0) de_PM_ranks_29 (by decide) ?_
        refine mv_istore (pc := 30) (lv' := [(6, .int 0), (0, va_rf (some v0)), (1, .long v1), (3, .long v3), (5, .int v5)]) de_PM_ranks_30 (Nat.le_of_ble_eq_true rfl) rfl ?_
        refine mv_iconst (pc := 32) (v := 0) de_PM_ranks_32 (by decide) ?_
        refine mv_istore (pc := 33) (lv' := [(7, .int 0), (6, .int 0), (0, va_rf (some v0)), (1, .long v1), (3, .long v3), (5, .int v5)]) de_PM_ranks_33 (Nat.le_of_ble_eq_true rfl) rfl ?_
        exact mv_sub [2, 3, 4, 5, 1, 0] rfl (tb_PM_ranks_35 l D E B sa M0 M1 r N (jb_PM_ranks_7 N n) ih N M v0 v1 v3 v5 0 0 h23)
set_option maxHeartbeats 4000000 in
set_option maxRecDepth 100000 in
theorem tb_PM_ranks_0 (l : Launch) (D : va_G) (E : Nat → ClassId) (B : Nat) (sa : (Nat → Nat) × Nat × (Nat → Int32)) (M0 M1 : mv_M) (r : Unit) (N : Nat) (M : mv_M) (v0 : Nat) (hJ : jb_PM_ranks_0 N M v0 = some (r, M1)) : mv_G (xg l D E B sa) kd_PM_ranks M0 M1 none M 0 [(0, va_rf (some v0))] [] := by
  unfold jb_PM_ranks_0 at hJ
  refine mv_lconst (pc := 0) (v := 0) de_PM_ranks_0 (by decide) ?_
  refine mv_lstore_n (pc := 1) (i := 1) (lv' := [(1, .long 0), (0, va_rf (some v0))]) de_PM_ranks_1 rfl (Nat.le_of_ble_eq_true rfl) rfl ?_
  refine mv_lconst (pc := 2) (v := 1) de_PM_ranks_2 (by decide) ?_
  refine mv_lstore_n (pc := 3) (i := 3) (lv' := [(3, .long 1), (1, .long 0), (0, va_rf (some v0))]) de_PM_ranks_3 rfl (Nat.le_of_ble_eq_true rfl) rfl ?_
  refine mv_iconst (pc := 4) (v := 0) de_PM_ranks_4 (by decide) ?_
  refine mv_istore (pc := 5) (lv' := [(5, .int 0), (3, .long 1), (1, .long 0), (0, va_rf (some v0))]) de_PM_ranks_5 (Nat.le_of_ble_eq_true rfl) rfl ?_
  exact mv_sub [3, 2, 1, 0] rfl (tb_PM_ranks_7 l D E B sa M0 M1 r N N M v0 0 1 0 hJ)
theorem cm_PM_ranks (l : Launch) (D : va_G) (E : Nat → ClassId) (B : Nat) (sa : (Nat → Nat) × Nat × (Nat → Int32)) (N : Nat) (M : mv_M) (v0 : Nat) (r : Unit) (M1 : mv_M) (hJ : jf_PM_ranks N M v0 = some (r, M1)) : mv_Met (xg l D E B sa) yn_PM_ranks cd_PM_ranks 8 none 2 58 [va_rf (some v0)] M none M1 :=
  mv_enter (by decide) (Nat.le_of_ble_eq_true rfl) (mv_sub (lv := [(0, va_rf (some v0))]) [0] rfl (tb_PM_ranks_0 l D E B sa M M1 r N M v0 hJ))
/-! ===== PlainLearnerModel.score(II)J ===== -/
abbrev kd_PM_score : mv_Kd := (cd_PM_score, 3, "PlainLearnerModel", "score", (some .long), 3, 85)
theorem de_PM_score_0 : decode cd_PM_score 0 = .ok (.iload_n 1, 1) := by decide +kernel
theorem de_PM_score_1 : decode cd_PM_score 1 = .ok (.i2l, 1) := by decide +kernel
theorem de_PM_score_2 : decode cd_PM_score 2 = .ok (.lconst 0, 1) := by decide +kernel
theorem de_PM_score_3 : decode cd_PM_score 3 = .ok (.ldc2_w 103, 3) := by decide +kernel
theorem de_PM_score_6 : decode cd_PM_score 6 = .ok (.invokestatic 99, 3) := by decide +kernel
theorem de_PM_score_9 : decode cd_PM_score 9 = .ok (.ifCond .eq 13, 3) := by decide +kernel
theorem de_PM_score_12 : decode cd_PM_score 12 = .ok (.iload_n 2, 1) := by decide +kernel
theorem de_PM_score_13 : decode cd_PM_score 13 = .ok (.i2l, 1) := by decide +kernel
theorem de_PM_score_14 : decode cd_PM_score 14 = .ok (.lconst 0, 1) := by decide +kernel
theorem de_PM_score_15 : decode cd_PM_score 15 = .ok (.lconst 1, 1) := by decide +kernel
theorem de_PM_score_16 : decode cd_PM_score 16 = .ok (.invokestatic 99, 3) := by decide +kernel
theorem de_PM_score_19 : decode cd_PM_score 19 = .ok (.ifCond .ne 7, 3) := by decide +kernel
theorem de_PM_score_22 : decode cd_PM_score 22 = .ok (.ldc2_w 183, 3) := by decide +kernel
theorem de_PM_score_25 : decode cd_PM_score 25 = .ok (.lreturn, 1) := by decide +kernel
theorem de_PM_score_26 : decode cd_PM_score 26 = .ok (.iload_n 1, 1) := by decide +kernel
theorem de_PM_score_27 : decode cd_PM_score 27 = .ok (.ifCond .ne 10, 3) := by decide +kernel
theorem de_PM_score_30 : decode cd_PM_score 30 = .ok (.aload_n 0, 1) := by decide +kernel
theorem de_PM_score_31 : decode cd_PM_score 31 = .ok (.invokevirtual 280, 3) := by decide +kernel
theorem de_PM_score_34 : decode cd_PM_score 34 = .ok (.goto 29, 3) := by decide +kernel
theorem de_PM_score_37 : decode cd_PM_score 37 = .ok (.iload_n 1, 1) := by decide +kernel
theorem de_PM_score_38 : decode cd_PM_score 38 = .ok (.iconst 3, 1) := by decide +kernel
theorem de_PM_score_39 : decode cd_PM_score 39 = .ok (.if_icmp .ne 10, 3) := by decide +kernel
theorem de_PM_score_42 : decode cd_PM_score 42 = .ok (.aload_n 0, 1) := by decide +kernel
theorem de_PM_score_43 : decode cd_PM_score 43 = .ok (.invokevirtual 282, 3) := by decide +kernel
theorem de_PM_score_46 : decode cd_PM_score 46 = .ok (.goto 17, 3) := by decide +kernel
theorem de_PM_score_49 : decode cd_PM_score 49 = .ok (.aload_n 0, 1) := by decide +kernel
theorem de_PM_score_50 : decode cd_PM_score 50 = .ok (.iload_n 1, 1) := by decide +kernel
theorem de_PM_score_51 : decode cd_PM_score 51 = .ok (.iconst 1, 1) := by decide +kernel
theorem de_PM_score_52 : decode cd_PM_score 52 = .ok (.if_icmp .ne 7, 3) := by decide +kernel
theorem de_PM_score_55 : decode cd_PM_score 55 = .ok (.iconst 1, 1) := by decide +kernel
theorem de_PM_score_56 : decode cd_PM_score 56 = .ok (.goto 4, 3) := by decide +kernel
theorem de_PM_score_59 : decode cd_PM_score 59 = .ok (.iconst 0, 1) := by decide +kernel
theorem de_PM_score_60 : decode cd_PM_score 60 = .ok (.invokevirtual 285, 3) := by decide +kernel
theorem de_PM_score_63 : decode cd_PM_score 63 = .ok (.aload_n 0, 1) := by decide +kernel
theorem de_PM_score_64 : decode cd_PM_score 64 = .ok (.iload_n 2, 1) := by decide +kernel
theorem de_PM_score_65 : decode cd_PM_score 65 = .ok (.invokevirtual 188, 3) := by decide +kernel
theorem de_PM_score_68 : decode cd_PM_score 68 = .ok (.lreturn, 1) := by decide +kernel
def jb_PM_score_22 (N : Nat) (M : mv_M) : Option (Int64 × mv_M) :=
  some ((-1099511627776), M)
def jb_PM_score_63 (N : Nat) (M : mv_M) (v0 : Nat) (v2 : Int32) : Option (Int64 × mv_M) :=
  mj_ob M v0 1 <|
  mj_call (jf_PM_told N M v0 v2) fun r65 Mm65 =>
  some (r65, Mm65)
def jb_PM_score_60 (N : Nat) (M : mv_M) (v0 : Nat) (v2 : Int32) (s0 : Nat) (s1 : Int32) : Option (Int64 × mv_M) :=
  mj_ob M s0 1 <|
  mj_call (jf_PM_bounds N M s0 s1) fun r60 Mm60 =>
  jb_PM_score_63 N Mm60 v0 v2
def jb_PM_score_0 (N : Nat) (M : mv_M) (v0 : Nat) (v1 : Int32) (v2 : Int32) : Option (Int64 × mv_M) :=
  mj_call (jf_PM_isIn N M v1.toInt64 0 3) fun r6 Mm6 =>
  if r6 = 0 then (jb_PM_score_22 N Mm6) else
  mj_call (jf_PM_isIn N Mm6 v2.toInt64 0 1) fun r16 Mm16 =>
  if r16 = 0 then (jb_PM_score_22 N Mm16) else
  if v1 = 0 then (mj_ob Mm16 v0 1 <|
  mj_call (jf_PM_sides N Mm16 v0) fun r31 Mm31 =>
  jb_PM_score_63 N Mm31 v0 v2) else
  if v1 = 3 then (mj_ob Mm16 v0 1 <|
  mj_call (jf_PM_ranks N Mm16 v0) fun r43 Mm43 =>
  jb_PM_score_63 N Mm43 v0 v2) else
  if v1 = 1 then (jb_PM_score_60 N Mm16 v0 v2 v0 1) else
  jb_PM_score_60 N Mm16 v0 v2 v0 0
def jf_PM_score (N : Nat) (M : mv_M) (v0 : Nat) (v1 : Int32) (v2 : Int32) : Option (Int64 × mv_M) := jb_PM_score_0 N M v0 v1 v2
set_option maxHeartbeats 4000000 in
set_option maxRecDepth 100000 in
theorem tb_PM_score_22 (l : Launch) (D : va_G) (E : Nat → ClassId) (B : Nat) (sa : (Nat → Nat) × Nat × (Nat → Int32)) (M0 M1 : mv_M) (r : Int64) (N : Nat) (M : mv_M) (hJ : jb_PM_score_22 N M = some (r, M1)) : mv_G (xg l D E B sa) kd_PM_score M0 M1 (some (.long r)) M 22 [] [] := by
  unfold jb_PM_score_22 at hJ
  refine mv_ldc2 (pc := 22) de_PM_score_22 wt_5_9 ?_
  exact mv_lret (pc := 25) rfl de_PM_score_25 hJ
set_option maxHeartbeats 4000000 in
set_option maxRecDepth 100000 in
theorem tb_PM_score_63 (l : Launch) (D : va_G) (E : Nat → ClassId) (B : Nat) (sa : (Nat → Nat) × Nat × (Nat → Int32)) (M0 M1 : mv_M) (r : Int64) (N : Nat) (M : mv_M) (v0 : Nat) (v2 : Int32) (hJ : jb_PM_score_63 N M v0 v2 = some (r, M1)) : mv_G (xg l D E B sa) kd_PM_score M0 M1 (some (.long r)) M 63 [(0, va_rf (some v0)), (2, .int v2)] [] := by
  unfold jb_PM_score_63 at hJ
  refine mv_aload_n (pc := 63) (i := 0) de_PM_score_63 rfl 0 rfl ?_
  refine mv_iload_n (pc := 64) (i := 2) de_PM_score_64 rfl 1 rfl ?_
  obtain ⟨hi65, h65o⟩ := mj_obE hJ
  obtain ⟨r65, Mm65, hz65, h65⟩ := mj_callE h65o
  refine mv_callV (pc := 65) (n := 1) (av := [.int v2]) (rest := []) de_PM_score_65 (kc_1 l D E B sa) hi65 (cm_PM_told l D E B sa N M v0 v2 _ _ hz65) wt_5_65 wt_5_67 wp_46 wt_1_8 wt_5_68 ⟨by decide, by decide, by decide +kernel⟩ rfl ⟨Nat.le_of_ble_eq_true rfl, Nat.le_of_ble_eq_true rfl⟩ (Nat.le_of_ble_eq_true rfl) rfl ?_
  exact mv_lret (pc := 68) rfl de_PM_score_68 h65
set_option maxHeartbeats 4000000 in
set_option maxRecDepth 100000 in
theorem tb_PM_score_60 (l : Launch) (D : va_G) (E : Nat → ClassId) (B : Nat) (sa : (Nat → Nat) × Nat × (Nat → Int32)) (M0 M1 : mv_M) (r : Int64) (N : Nat) (M : mv_M) (v0 : Nat) (v2 : Int32) (s0 : Nat) (s1 : Int32) (hJ : jb_PM_score_60 N M v0 v2 s0 s1 = some (r, M1)) : mv_G (xg l D E B sa) kd_PM_score M0 M1 (some (.long r)) M 60 [(0, va_rf (some v0)), (2, .int v2)] [.int s1, va_rf (some s0)] := by
  unfold jb_PM_score_60 at hJ
  obtain ⟨hi60, h60o⟩ := mj_obE hJ
  obtain ⟨r60, Mm60, hz60, h60⟩ := mj_callE h60o
  refine mv_callV (pc := 60) (n := 1) (av := [.int s1]) (rest := []) de_PM_score_60 (kc_1 l D E B sa) hi60 (cm_PM_bounds l D E B sa N M s0 s1 _ _ hz60) wt_5_192 wt_5_194 wp_59 wt_1_8 wt_5_195 ⟨by decide, by decide, by decide +kernel⟩ rfl ⟨Nat.le_of_ble_eq_true rfl, Nat.le_of_ble_eq_true rfl⟩ (Nat.le_of_ble_eq_true rfl) rfl ?_
  exact mv_sub [0, 1] rfl (tb_PM_score_63 l D E B sa M0 M1 r N Mm60 v0 v2 h60)
set_option maxHeartbeats 4000000 in
set_option maxRecDepth 100000 in
theorem tb_PM_score_0 (l : Launch) (D : va_G) (E : Nat → ClassId) (B : Nat) (sa : (Nat → Nat) × Nat × (Nat → Int32)) (M0 M1 : mv_M) (r : Int64) (N : Nat) (M : mv_M) (v0 : Nat) (v1 : Int32) (v2 : Int32) (hJ : jb_PM_score_0 N M v0 v1 v2 = some (r, M1)) : mv_G (xg l D E B sa) kd_PM_score M0 M1 (some (.long r)) M 0 [(0, va_rf (some v0)), (1, .int v1), (2, .int v2)] [] := by
  unfold jb_PM_score_0 at hJ
  refine mv_iload_n (pc := 0) (i := 1) de_PM_score_0 rfl 1 rfl ?_
  refine mv_i2l (pc := 1) de_PM_score_1 ?_
  refine mv_lconst (pc := 2) (v := 0) de_PM_score_2 (by decide) ?_
  refine mv_ldc2 (pc := 3) de_PM_score_3 wt_4_196 ?_
  obtain ⟨r6, Mm6, hz6, h6⟩ := mj_callE hJ
  refine mv_callS (pc := 6) (n := 3) (av := [.long v1.toInt64, .long 0, .long 3]) (rest := []) de_PM_score_6 (cm_PM_isIn l D E B sa N M v1.toInt64 0 3 _ _ hz6) wt_4_197 wt_4_198 wt_1_8 wt_4_199 ⟨by decide, by decide, by decide +kernel⟩ rfl ⟨Nat.le_of_ble_eq_true rfl, Nat.le_of_ble_eq_true rfl⟩ (Nat.le_of_ble_eq_true rfl) rfl ?_
  refine mv_if_eq (pc := 9) (tgt := 22) de_PM_score_9 (by decide) h6 (fun hc9 h9 => ?_) (fun hc9 h9 => ?_)
  · exact mv_sub [] rfl (tb_PM_score_22 l D E B sa M0 M1 r N Mm6 h9)
  · refine mv_iload_n (pc := 12) (i := 2) de_PM_score_12 rfl 2 rfl ?_
    refine mv_i2l (pc := 13) de_PM_score_13 ?_
    refine mv_lconst (pc := 14) (v := 0) de_PM_score_14 (by decide) ?_
    refine mv_lconst (pc := 15) (v := 1) de_PM_score_15 (by decide) ?_
    obtain ⟨r16, Mm16, hz16, h16⟩ := mj_callE h9
    refine mv_callS (pc := 16) (n := 3) (av := [.long v2.toInt64, .long 0, .long 1]) (rest := []) de_PM_score_16 (cm_PM_isIn l D E B sa N Mm6 v2.toInt64 0 1 _ _ hz16) wt_4_197 wt_4_198 wt_1_8 wt_4_199 ⟨by decide, by decide, by decide +kernel⟩ rfl ⟨Nat.le_of_ble_eq_true rfl, Nat.le_of_ble_eq_true rfl⟩ (Nat.le_of_ble_eq_true rfl) rfl ?_
    refine mv_if_ne (pc := 19) (tgt := 26) de_PM_score_19 (by decide) h16 (fun hc19 h19 => ?_) (fun hc19 h19 => ?_)
    · exact mv_sub [] rfl (tb_PM_score_22 l D E B sa M0 M1 r N Mm16 h19)
    · refine mv_iload_n (pc := 26) (i := 1) de_PM_score_26 rfl 1 rfl ?_
      refine mv_if_ne (pc := 27) (tgt := 37) de_PM_score_27 (by decide) h19 (fun hc27 h27 => ?_) (fun hc27 h27 => ?_)
      · refine mv_aload_n (pc := 30) (i := 0) de_PM_score_30 rfl 0 rfl ?_
        obtain ⟨hi31, h31o⟩ := mj_obE h27
        obtain ⟨r31, Mm31, hz31, h31⟩ := mj_callE h31o
        refine mv_callV (pc := 31) (n := 0) (av := []) (rest := []) de_PM_score_31 (kc_1 l D E B sa) hi31 (cm_PM_sides l D E B sa N Mm16 v0 _ _ hz31) wt_5_180 wt_5_182 wp_56 wt_1_8 wt_5_183 ⟨by decide, by decide, by decide +kernel⟩ rfl ⟨Nat.le_of_ble_eq_true rfl, Nat.le_of_ble_eq_true rfl⟩ (Nat.le_of_ble_eq_true rfl) rfl ?_
        refine mv_goto (pc := 34) (tgt := 63) de_PM_score_34 (by decide) ?_
        exact mv_sub [0, 2] rfl (tb_PM_score_63 l D E B sa M0 M1 r N Mm31 v0 v2 h31)
      · refine mv_iload_n (pc := 37) (i := 1) de_PM_score_37 rfl 1 rfl ?_
        refine mv_iconst (pc := 38) (v := 3) de_PM_score_38 (by decide) ?_
        refine mv_icmp_ne (pc := 39) (tgt := 49) de_PM_score_39 (by decide) h27 (fun hc39 h39 => ?_) (fun hc39 h39 => ?_)
        · refine mv_aload_n (pc := 42) (i := 0) de_PM_score_42 rfl 0 rfl ?_
          obtain ⟨hi43, h43o⟩ := mj_obE h39
          obtain ⟨r43, Mm43, hz43, h43⟩ := mj_callE h43o
          refine mv_callV (pc := 43) (n := 0) (av := []) (rest := []) de_PM_score_43 (kc_1 l D E B sa) hi43 (cm_PM_ranks l D E B sa N Mm16 v0 _ _ hz43) wt_5_188 wt_5_190 wp_58 wt_1_8 wt_5_191 ⟨by decide, by decide, by decide +kernel⟩ rfl ⟨Nat.le_of_ble_eq_true rfl, Nat.le_of_ble_eq_true rfl⟩ (Nat.le_of_ble_eq_true rfl) rfl ?_
          refine mv_goto (pc := 46) (tgt := 63) de_PM_score_46 (by decide) ?_
          exact mv_sub [0, 2] rfl (tb_PM_score_63 l D E B sa M0 M1 r N Mm43 v0 v2 h43)
        · refine mv_aload_n (pc := 49) (i := 0) de_PM_score_49 rfl 0 rfl ?_
          refine mv_iload_n (pc := 50) (i := 1) de_PM_score_50 rfl 1 rfl ?_
          refine mv_iconst (pc := 51) (v := 1) de_PM_score_51 (by decide) ?_
          refine mv_icmp_ne (pc := 52) (tgt := 59) de_PM_score_52 (by decide) h39 (fun hc52 h52 => ?_) (fun hc52 h52 => ?_)
          · refine mv_iconst (pc := 55) (v := 1) de_PM_score_55 (by decide) ?_
            refine mv_goto (pc := 56) (tgt := 60) de_PM_score_56 (by decide) ?_
            exact mv_sub [0, 2] rfl (tb_PM_score_60 l D E B sa M0 M1 r N Mm16 v0 v2 v0 1 h52)
          · refine mv_iconst (pc := 59) (v := 0) de_PM_score_59 (by decide) ?_
            exact mv_sub [0, 2] rfl (tb_PM_score_60 l D E B sa M0 M1 r N Mm16 v0 v2 v0 0 h52)
theorem cm_PM_score (l : Launch) (D : va_G) (E : Nat → ClassId) (B : Nat) (sa : (Nat → Nat) × Nat × (Nat → Int32)) (N : Nat) (M : mv_M) (v0 : Nat) (v1 : Int32) (v2 : Int32) (r : Int64) (M1 : mv_M) (hJ : jf_PM_score N M v0 v1 v2 = some (r, M1)) : mv_Met (xg l D E B sa) yn_PM_score cd_PM_score 3 (some .long) 3 85 [va_rf (some v0), .int v1, .int v2] M (some (.long r)) M1 :=
  mv_enter (by decide) (Nat.le_of_ble_eq_true rfl) (mv_sub (lv := [(0, va_rf (some v0)), (1, .int v1), (2, .int v2)]) [0, 1, 2] rfl (tb_PM_score_0 l D E B sa M M1 r N M v0 v1 v2 hJ))
/-! ===== PlainLearnerModel.forget()I ===== -/
abbrev kd_PM_forget : mv_Kd := (cd_PM_forget, 2, "PlainLearnerModel", "forget", (some .int), 0, 0)
theorem de_PM_forget_0 : decode cd_PM_forget 0 = .ok (.aload_n 0, 1) := by decide +kernel
theorem de_PM_forget_1 : decode cd_PM_forget 1 = .ok (.getfield 273, 3) := by decide +kernel
theorem de_PM_forget_4 : decode cd_PM_forget 4 = .ok (.istore_n 1, 1) := by decide +kernel
theorem de_PM_forget_5 : decode cd_PM_forget 5 = .ok (.aload_n 0, 1) := by decide +kernel
theorem de_PM_forget_6 : decode cd_PM_forget 6 = .ok (.iconst 0, 1) := by decide +kernel
theorem de_PM_forget_7 : decode cd_PM_forget 7 = .ok (.putfield 273, 3) := by decide +kernel
theorem de_PM_forget_10 : decode cd_PM_forget 10 = .ok (.iload_n 1, 1) := by decide +kernel
theorem de_PM_forget_11 : decode cd_PM_forget 11 = .ok (.ireturn, 1) := by decide +kernel
def jb_PM_forget_0 (N : Nat) (M : mv_M) (v0 : Nat) : Option (Int32 × mv_M) :=
  Option.bind (mj_getI M v0 1 28) fun x1 =>
  Option.bind (mj_put M v0 1 28 (.int 0)) fun Mm7 =>
  some (x1, Mm7)
def jf_PM_forget (N : Nat) (M : mv_M) (v0 : Nat) : Option (Int32 × mv_M) := jb_PM_forget_0 N M v0
set_option maxHeartbeats 4000000 in
set_option maxRecDepth 100000 in
theorem tb_PM_forget_0 (l : Launch) (D : va_G) (E : Nat → ClassId) (B : Nat) (sa : (Nat → Nat) × Nat × (Nat → Int32)) (M0 M1 : mv_M) (r : Int32) (N : Nat) (M : mv_M) (v0 : Nat) (hJ : jb_PM_forget_0 N M v0 = some (r, M1)) : mv_G (xg l D E B sa) kd_PM_forget M0 M1 (some (.int r)) M 0 [(0, va_rf (some v0))] [] := by
  unfold jb_PM_forget_0 at hJ
  refine mv_aload_n (pc := 0) (i := 0) de_PM_forget_0 rfl 0 rfl ?_
  refine mv_getI (pc := 1) (f := 28) (kc_1 l D E B sa) (Nat.le_of_ble_eq_true rfl) wt_4_108 de_PM_forget_1 hJ (fun x1 e1 h1 => ?_)
  refine mv_istore_n (pc := 4) (i := 1) (lv' := [(1, .int x1), (0, va_rf (some v0))]) de_PM_forget_4 rfl (Nat.le_of_ble_eq_true rfl) rfl ?_
  refine mv_aload_n (pc := 5) (i := 0) de_PM_forget_5 rfl 1 rfl ?_
  refine mv_iconst (pc := 6) (v := 0) de_PM_forget_6 (by decide) ?_
  refine mv_put (pc := 7) (f := 28) (kc_1 l D E B sa) (Nat.le_of_ble_eq_true rfl) wt_4_108 rfl rfl rfl de_PM_forget_7 h1 (fun Mm7 e7 h7 => ?_)
  refine mv_iload_n (pc := 10) (i := 1) de_PM_forget_10 rfl 0 rfl ?_
  exact mv_iret (pc := 11) rfl de_PM_forget_11 h7
theorem cm_PM_forget (l : Launch) (D : va_G) (E : Nat → ClassId) (B : Nat) (sa : (Nat → Nat) × Nat × (Nat → Int32)) (N : Nat) (M : mv_M) (v0 : Nat) (r : Int32) (M1 : mv_M) (hJ : jf_PM_forget N M v0 = some (r, M1)) : mv_Met (xg l D E B sa) yn_PM_forget cd_PM_forget 2 (some .int) 0 0 [va_rf (some v0)] M (some (.int r)) M1 :=
  mv_enter (by decide) (Nat.le_of_ble_eq_true rfl) (mv_sub (lv := [(0, va_rf (some v0))]) [0] rfl (tb_PM_forget_0 l D E B sa M M1 r N M v0 hJ))
/-! ===== PlainLearnerModel.feed(JI)I ===== -/
abbrev kd_PM_feed : mv_Kd := (cd_PM_feed, 5, "PlainLearnerModel", "feed", (some .int), 1, 25)
theorem de_PM_feed_0 : decode cd_PM_feed 0 = .ok (.iload_n 3, 1) := by decide +kernel
theorem de_PM_feed_1 : decode cd_PM_feed 1 = .ok (.i2l, 1) := by decide +kernel
theorem de_PM_feed_2 : decode cd_PM_feed 2 = .ok (.lconst 1, 1) := by decide +kernel
theorem de_PM_feed_3 : decode cd_PM_feed 3 = .ok (.ldc2_w 261, 3) := by decide +kernel
theorem de_PM_feed_6 : decode cd_PM_feed 6 = .ok (.invokestatic 99, 3) := by decide +kernel
theorem de_PM_feed_9 : decode cd_PM_feed 9 = .ok (.ifCond .ne 5, 3) := by decide +kernel
theorem de_PM_feed_12 : decode cd_PM_feed 12 = .ok (.iconst (-1), 1) := by decide +kernel
theorem de_PM_feed_13 : decode cd_PM_feed 13 = .ok (.ireturn, 1) := by decide +kernel
theorem de_PM_feed_14 : decode cd_PM_feed 14 = .ok (.iconst 0, 1) := by decide +kernel
theorem de_PM_feed_15 : decode cd_PM_feed 15 = .ok (.istore 4, 2) := by decide +kernel
theorem de_PM_feed_17 : decode cd_PM_feed 17 = .ok (.iload 4, 2) := by decide +kernel
theorem de_PM_feed_19 : decode cd_PM_feed 19 = .ok (.iload_n 3, 1) := by decide +kernel
theorem de_PM_feed_20 : decode cd_PM_feed 20 = .ok (.if_icmp .ge 34, 3) := by decide +kernel
theorem de_PM_feed_23 : decode cd_PM_feed 23 = .ok (.lload_n 1, 1) := by decide +kernel
theorem de_PM_feed_24 : decode cd_PM_feed 24 = .ok (.bipush 8, 2) := by decide +kernel
theorem de_PM_feed_26 : decode cd_PM_feed 26 = .ok (.iload 4, 2) := by decide +kernel
theorem de_PM_feed_28 : decode cd_PM_feed 28 = .ok (.imul, 1) := by decide +kernel
theorem de_PM_feed_29 : decode cd_PM_feed 29 = .ok (.lushr, 1) := by decide +kernel
theorem de_PM_feed_30 : decode cd_PM_feed 30 = .ok (.ldc2_w 289, 3) := by decide +kernel
theorem de_PM_feed_33 : decode cd_PM_feed 33 = .ok (.land, 1) := by decide +kernel
theorem de_PM_feed_34 : decode cd_PM_feed 34 = .ok (.ldc2_w 291, 3) := by decide +kernel
theorem de_PM_feed_37 : decode cd_PM_feed 37 = .ok (.ldc2_w 293, 3) := by decide +kernel
theorem de_PM_feed_40 : decode cd_PM_feed 40 = .ok (.invokestatic 99, 3) := by decide +kernel
theorem de_PM_feed_43 : decode cd_PM_feed 43 = .ok (.ifCond .ne 5, 3) := by decide +kernel
theorem de_PM_feed_46 : decode cd_PM_feed 46 = .ok (.iconst (-1), 1) := by decide +kernel
theorem de_PM_feed_47 : decode cd_PM_feed 47 = .ok (.ireturn, 1) := by decide +kernel
theorem de_PM_feed_48 : decode cd_PM_feed 48 = .ok (.iinc 4 1, 3) := by decide +kernel
theorem de_PM_feed_51 : decode cd_PM_feed 51 = .ok (.goto (-34), 3) := by decide +kernel
theorem de_PM_feed_54 : decode cd_PM_feed 54 = .ok (.aload_n 0, 1) := by decide +kernel
theorem de_PM_feed_55 : decode cd_PM_feed 55 = .ok (.getfield 295, 3) := by decide +kernel
theorem de_PM_feed_58 : decode cd_PM_feed 58 = .ok (.iload_n 3, 1) := by decide +kernel
theorem de_PM_feed_59 : decode cd_PM_feed 59 = .ok (.iadd, 1) := by decide +kernel
theorem de_PM_feed_60 : decode cd_PM_feed 60 = .ok (.sipush 200, 3) := by decide +kernel
theorem de_PM_feed_63 : decode cd_PM_feed 63 = .ok (.if_icmp .le 6, 3) := by decide +kernel
theorem de_PM_feed_66 : decode cd_PM_feed 66 = .ok (.bipush (-3), 2) := by decide +kernel
theorem de_PM_feed_68 : decode cd_PM_feed 68 = .ok (.ireturn, 1) := by decide +kernel
theorem de_PM_feed_69 : decode cd_PM_feed 69 = .ok (.iconst 0, 1) := by decide +kernel
theorem de_PM_feed_70 : decode cd_PM_feed 70 = .ok (.istore 4, 2) := by decide +kernel
theorem de_PM_feed_72 : decode cd_PM_feed 72 = .ok (.iload 4, 2) := by decide +kernel
theorem de_PM_feed_74 : decode cd_PM_feed 74 = .ok (.iload_n 3, 1) := by decide +kernel
theorem de_PM_feed_75 : decode cd_PM_feed 75 = .ok (.if_icmp .ge 40, 3) := by decide +kernel
theorem de_PM_feed_78 : decode cd_PM_feed 78 = .ok (.aload_n 0, 1) := by decide +kernel
theorem de_PM_feed_79 : decode cd_PM_feed 79 = .ok (.getfield 60, 3) := by decide +kernel
theorem de_PM_feed_82 : decode cd_PM_feed 82 = .ok (.aload_n 0, 1) := by decide +kernel
theorem de_PM_feed_83 : decode cd_PM_feed 83 = .ok (.dup, 1) := by decide +kernel
theorem de_PM_feed_84 : decode cd_PM_feed 84 = .ok (.getfield 295, 3) := by decide +kernel
theorem de_PM_feed_87 : decode cd_PM_feed 87 = .ok (.dup_x1, 1) := by decide +kernel
theorem de_PM_feed_88 : decode cd_PM_feed 88 = .ok (.iconst 1, 1) := by decide +kernel
theorem de_PM_feed_89 : decode cd_PM_feed 89 = .ok (.iadd, 1) := by decide +kernel
theorem de_PM_feed_90 : decode cd_PM_feed 90 = .ok (.putfield 295, 3) := by decide +kernel
theorem de_PM_feed_93 : decode cd_PM_feed 93 = .ok (.lload_n 1, 1) := by decide +kernel
theorem de_PM_feed_94 : decode cd_PM_feed 94 = .ok (.bipush 8, 2) := by decide +kernel
theorem de_PM_feed_96 : decode cd_PM_feed 96 = .ok (.iload 4, 2) := by decide +kernel
theorem de_PM_feed_98 : decode cd_PM_feed 98 = .ok (.imul, 1) := by decide +kernel
theorem de_PM_feed_99 : decode cd_PM_feed 99 = .ok (.lushr, 1) := by decide +kernel
theorem de_PM_feed_100 : decode cd_PM_feed 100 = .ok (.ldc2_w 289, 3) := by decide +kernel
theorem de_PM_feed_103 : decode cd_PM_feed 103 = .ok (.land, 1) := by decide +kernel
theorem de_PM_feed_104 : decode cd_PM_feed 104 = .ok (.l2i, 1) := by decide +kernel
theorem de_PM_feed_105 : decode cd_PM_feed 105 = .ok (.bipush 97, 2) := by decide +kernel
theorem de_PM_feed_107 : decode cd_PM_feed 107 = .ok (.isub, 1) := by decide +kernel
theorem de_PM_feed_108 : decode cd_PM_feed 108 = .ok (.iastore, 1) := by decide +kernel
theorem de_PM_feed_109 : decode cd_PM_feed 109 = .ok (.iinc 4 1, 3) := by decide +kernel
theorem de_PM_feed_112 : decode cd_PM_feed 112 = .ok (.goto (-40), 3) := by decide +kernel
theorem de_PM_feed_115 : decode cd_PM_feed 115 = .ok (.aload_n 0, 1) := by decide +kernel
theorem de_PM_feed_116 : decode cd_PM_feed 116 = .ok (.getfield 295, 3) := by decide +kernel
theorem de_PM_feed_119 : decode cd_PM_feed 119 = .ok (.ireturn, 1) := by decide +kernel
def jb_PM_feed_72 (N : Nat) : Nat → mv_M → Nat → Int64 → Int32 → Int32 → Option (Int32 × mv_M)
  | 0, _, _, _, _, _ => none
  | n + 1, M, v0, v1, v3, v4 =>
    if v3 ≤ v4 then (Option.bind (mj_getI M v0 1 31) fun x116 =>
    some (x116, M)) else
    Option.bind (mj_getR M v0 1 32) fun x79 =>
    Option.bind (mj_getI M v0 1 31) fun x84 =>
    Option.bind (mj_put M v0 1 31 (.int (x84 + 1))) fun Mm90 =>
    Option.bind x79 fun a108 =>
    Option.bind (mj_ist Mm90 a108 0 x84 ((((v1.toUInt64 >>> (((8 * v4) : Int32).toInt64.toUInt64 &&& Int64.toUInt64 63)).toInt64) &&& 255).toInt32 - 97)) fun Mm108 =>
    jb_PM_feed_72 N n Mm108 v0 v1 v3 (v4 + 1)
def jb_PM_feed_17 (N : Nat) : Nat → mv_M → Nat → Int64 → Int32 → Int32 → Option (Int32 × mv_M)
  | 0, _, _, _, _, _ => none
  | n + 1, M, v0, v1, v3, v4 =>
    if v3 ≤ v4 then (Option.bind (mj_getI M v0 1 31) fun x55 =>
    if (x55 + v3) ≤ 200 then (jb_PM_feed_72 N N M v0 v1 v3 0) else
    some ((-3), M)) else
    mj_call (jf_PM_isIn N M (((v1.toUInt64 >>> (((8 * v4) : Int32).toInt64.toUInt64 &&& Int64.toUInt64 63)).toInt64) &&& 255) 97 122) fun r40 Mm40 =>
    if r40 = 0 then (some ((-1), Mm40)) else
    jb_PM_feed_17 N n Mm40 v0 v1 v3 (v4 + 1)
def jb_PM_feed_0 (N : Nat) (M : mv_M) (v0 : Nat) (v1 : Int64) (v3 : Int32) : Option (Int32 × mv_M) :=
  mj_call (jf_PM_isIn N M v3.toInt64 1 8) fun r6 Mm6 =>
  if r6 = 0 then (some ((-1), Mm6)) else
  jb_PM_feed_17 N N Mm6 v0 v1 v3 0
def jf_PM_feed (N : Nat) (M : mv_M) (v0 : Nat) (v1 : Int64) (v3 : Int32) : Option (Int32 × mv_M) := jb_PM_feed_0 N M v0 v1 v3
set_option maxHeartbeats 4000000 in
set_option maxRecDepth 100000 in
theorem tb_PM_feed_72 (l : Launch) (D : va_G) (E : Nat → ClassId) (B : Nat) (sa : (Nat → Nat) × Nat × (Nat → Int32)) (M0 M1 : mv_M) (r : Int32) (N : Nat) : ∀ (n : Nat) (M : mv_M) (v0 : Nat) (v1 : Int64) (v3 : Int32) (v4 : Int32) (hJ : jb_PM_feed_72 N n M v0 v1 v3 v4 = some (r, M1)), mv_G (xg l D E B sa) kd_PM_feed M0 M1 (some (.int r)) M 72 [(0, va_rf (some v0)), (1, .long v1), (3, .int v3), (4, .int v4)] [] := by
  intro n
  induction n with
  | zero => intro M v0 v1 v3 v4 hJ; cases hJ
  | succ n ih =>
    intro M v0 v1 v3 v4 hJ
    rw [jb_PM_feed_72] at hJ
    refine mv_iload (pc := 72) de_PM_feed_72 3 rfl ?_
    refine mv_iload_n (pc := 74) (i := 3) de_PM_feed_74 rfl 2 rfl ?_
    refine mv_icmp_ge (pc := 75) (tgt := 115) de_PM_feed_75 (by decide) hJ (fun hc75 h75 => ?_) (fun hc75 h75 => ?_)
    · refine mv_aload_n (pc := 115) (i := 0) de_PM_feed_115 rfl 0 rfl ?_
      refine mv_getI (pc := 116) (f := 31) (kc_1 l D E B sa) (Nat.le_of_ble_eq_true rfl) wt_4_111 de_PM_feed_116 h75 (fun x116 e116 h116 => ?_)
      exact mv_iret (pc := 119) rfl de_PM_feed_119 h116
    · refine mv_aload_n (pc := 78) (i := 0) de_PM_feed_78 rfl 0 rfl ?_
      refine mv_getR (pc := 79) (f := 32) (kc_1 l D E B sa) (Nat.le_of_ble_eq_true rfl) wt_4_112 de_PM_feed_79 h75 (fun x79 e79 h79 => ?_)
      refine mv_aload_n (pc := 82) (i := 0) de_PM_feed_82 rfl 0 rfl ?_
      refine mv_dup (pc := 83) de_PM_feed_83 rfl ?_
      refine mv_getI (pc := 84) (f := 31) (kc_1 l D E B sa) (Nat.le_of_ble_eq_true rfl) wt_4_111 de_PM_feed_84 h79 (fun x84 e84 h84 => ?_)
      refine mv_dup_x1 (pc := 87) de_PM_feed_87 rfl rfl ?_
      refine mv_iconst (pc := 88) (v := 1) de_PM_feed_88 (by decide) ?_
      refine mv_iadd (pc := 89) de_PM_feed_89 ?_
      refine mv_put (pc := 90) (f := 31) (kc_1 l D E B sa) (Nat.le_of_ble_eq_true rfl) wt_4_111 rfl rfl rfl de_PM_feed_90 h84 (fun Mm90 e90 h90 => ?_)
      refine mv_lload_n (pc := 93) (i := 1) de_PM_feed_93 rfl 1 rfl ?_
      refine mv_bipush (pc := 94) (v := 8) de_PM_feed_94 (by decide) ?_
      refine mv_iload (pc := 96) de_PM_feed_96 3 rfl ?_
      refine mv_imul (pc := 98) de_PM_feed_98 ?_
      refine mv_lushr (pc := 99) de_PM_feed_99 ?_
      refine mv_ldc2 (pc := 100) de_PM_feed_100 wt_5_204 ?_
      refine mv_land (pc := 103) de_PM_feed_103 ?_
      refine mv_l2i (pc := 104) de_PM_feed_104 ?_
      refine mv_bipush (pc := 105) (v := 97) de_PM_feed_105 (by decide) ?_
      refine mv_isub (pc := 107) de_PM_feed_107 ?_
      obtain ⟨a108, ha, h108a⟩ := mj_bindE h90
      subst ha
      refine mv_iast (pc := 108) (t := 0) rfl de_PM_feed_108 h108a (fun Mm108 e108 h108 => ?_)
      refine mv_iinc (pc := 109) (v := (v4 + 1)) (lv' := [(4, .int (v4 + 1)), (0, va_rf (some v0)), (1, .long v1), (3, .int v3)]) de_PM_feed_109 3 rfl rfl (Nat.le_of_ble_eq_true rfl) rfl ?_
      refine mv_goto (pc := 112) (tgt := 72) de_PM_feed_112 (by decide) ?_
      exact mv_sub [1, 2, 3, 0] rfl (ih Mm108 v0 v1 v3 (v4 + 1) h108)
set_option maxHeartbeats 4000000 in
set_option maxRecDepth 100000 in
theorem tb_PM_feed_17 (l : Launch) (D : va_G) (E : Nat → ClassId) (B : Nat) (sa : (Nat → Nat) × Nat × (Nat → Int32)) (M0 M1 : mv_M) (r : Int32) (N : Nat) : ∀ (n : Nat) (M : mv_M) (v0 : Nat) (v1 : Int64) (v3 : Int32) (v4 : Int32) (hJ : jb_PM_feed_17 N n M v0 v1 v3 v4 = some (r, M1)), mv_G (xg l D E B sa) kd_PM_feed M0 M1 (some (.int r)) M 17 [(0, va_rf (some v0)), (1, .long v1), (3, .int v3), (4, .int v4)] [] := by
  intro n
  induction n with
  | zero => intro M v0 v1 v3 v4 hJ; cases hJ
  | succ n ih =>
    intro M v0 v1 v3 v4 hJ
    rw [jb_PM_feed_17] at hJ
    refine mv_iload (pc := 17) de_PM_feed_17 3 rfl ?_
    refine mv_iload_n (pc := 19) (i := 3) de_PM_feed_19 rfl 2 rfl ?_
    refine mv_icmp_ge (pc := 20) (tgt := 54) de_PM_feed_20 (by decide) hJ (fun hc20 h20 => ?_) (fun hc20 h20 => ?_)
    · refine mv_aload_n (pc := 54) (i := 0) de_PM_feed_54 rfl 0 rfl ?_
      refine mv_getI (pc := 55) (f := 31) (kc_1 l D E B sa) (Nat.le_of_ble_eq_true rfl) wt_4_111 de_PM_feed_55 h20 (fun x55 e55 h55 => ?_)
      refine mv_iload_n (pc := 58) (i := 3) de_PM_feed_58 rfl 2 rfl ?_
      refine mv_iadd (pc := 59) de_PM_feed_59 ?_
      refine mv_sipush (pc := 60) (v := 200) de_PM_feed_60 (by decide) ?_
      refine mv_icmp_le (pc := 63) (tgt := 69) de_PM_feed_63 (by decide) h55 (fun hc63 h63 => ?_) (fun hc63 h63 => ?_)
      · refine mv_iconst (pc := 69) (v := 0) de_PM_feed_69 (by decide) ?_
        refine mv_istore (pc := 70) (lv' := [(4, .int 0), (0, va_rf (some v0)), (1, .long v1), (3, .int v3)]) de_PM_feed_70 (Nat.le_of_ble_eq_true rfl) rfl ?_
        exact mv_sub [1, 2, 3, 0] rfl (tb_PM_feed_72 l D E B sa M0 M1 r N N M v0 v1 v3 0 h63)
      · refine mv_bipush (pc := 66) (v := (-3)) de_PM_feed_66 (by decide) ?_
        exact mv_iret (pc := 68) rfl de_PM_feed_68 h63
    · refine mv_lload_n (pc := 23) (i := 1) de_PM_feed_23 rfl 1 rfl ?_
      refine mv_bipush (pc := 24) (v := 8) de_PM_feed_24 (by decide) ?_
      refine mv_iload (pc := 26) de_PM_feed_26 3 rfl ?_
      refine mv_imul (pc := 28) de_PM_feed_28 ?_
      refine mv_lushr (pc := 29) de_PM_feed_29 ?_
      refine mv_ldc2 (pc := 30) de_PM_feed_30 wt_5_204 ?_
      refine mv_land (pc := 33) de_PM_feed_33 ?_
      refine mv_ldc2 (pc := 34) de_PM_feed_34 wt_5_205 ?_
      refine mv_ldc2 (pc := 37) de_PM_feed_37 wt_5_206 ?_
      obtain ⟨r40, Mm40, hz40, h40⟩ := mj_callE h20
      refine mv_callS (pc := 40) (n := 3) (av := [.long (((v1.toUInt64 >>> (((8 * v4) : Int32).toInt64.toUInt64 &&& Int64.toUInt64 63)).toInt64) &&& 255), .long 97, .long 122]) (rest := []) de_PM_feed_40 (cm_PM_isIn l D E B sa N M (((v1.toUInt64 >>> (((8 * v4) : Int32).toInt64.toUInt64 &&& Int64.toUInt64 63)).toInt64) &&& 255) 97 122 _ _ hz40) wt_4_197 wt_4_198 wt_1_8 wt_4_199 ⟨by decide, by decide, by decide +kernel⟩ rfl ⟨Nat.le_of_ble_eq_true rfl, Nat.le_of_ble_eq_true rfl⟩ (Nat.le_of_ble_eq_true rfl) rfl ?_
      refine mv_if_ne (pc := 43) (tgt := 48) de_PM_feed_43 (by decide) h40 (fun hc43 h43 => ?_) (fun hc43 h43 => ?_)
      · refine mv_iconst (pc := 46) (v := (-1)) de_PM_feed_46 (by decide) ?_
        exact mv_iret (pc := 47) rfl de_PM_feed_47 h43
      · refine mv_iinc (pc := 48) (v := (v4 + 1)) (lv' := [(4, .int (v4 + 1)), (0, va_rf (some v0)), (1, .long v1), (3, .int v3)]) de_PM_feed_48 3 rfl rfl (Nat.le_of_ble_eq_true rfl) rfl ?_
        refine mv_goto (pc := 51) (tgt := 17) de_PM_feed_51 (by decide) ?_
        exact mv_sub [1, 2, 3, 0] rfl (ih Mm40 v0 v1 v3 (v4 + 1) h43)
set_option maxHeartbeats 4000000 in
set_option maxRecDepth 100000 in
theorem tb_PM_feed_0 (l : Launch) (D : va_G) (E : Nat → ClassId) (B : Nat) (sa : (Nat → Nat) × Nat × (Nat → Int32)) (M0 M1 : mv_M) (r : Int32) (N : Nat) (M : mv_M) (v0 : Nat) (v1 : Int64) (v3 : Int32) (hJ : jb_PM_feed_0 N M v0 v1 v3 = some (r, M1)) : mv_G (xg l D E B sa) kd_PM_feed M0 M1 (some (.int r)) M 0 [(0, va_rf (some v0)), (1, .long v1), (3, .int v3)] [] := by
  unfold jb_PM_feed_0 at hJ
  refine mv_iload_n (pc := 0) (i := 3) de_PM_feed_0 rfl 2 rfl ?_
  refine mv_i2l (pc := 1) de_PM_feed_1 ?_
  refine mv_lconst (pc := 2) (v := 1) de_PM_feed_2 (by decide) ?_
  refine mv_ldc2 (pc := 3) de_PM_feed_3 wt_5_158 ?_
  obtain ⟨r6, Mm6, hz6, h6⟩ := mj_callE hJ
  refine mv_callS (pc := 6) (n := 3) (av := [.long v3.toInt64, .long 1, .long 8]) (rest := []) de_PM_feed_6 (cm_PM_isIn l D E B sa N M v3.toInt64 1 8 _ _ hz6) wt_4_197 wt_4_198 wt_1_8 wt_4_199 ⟨by decide, by decide, by decide +kernel⟩ rfl ⟨Nat.le_of_ble_eq_true rfl, Nat.le_of_ble_eq_true rfl⟩ (Nat.le_of_ble_eq_true rfl) rfl ?_
  refine mv_if_ne (pc := 9) (tgt := 14) de_PM_feed_9 (by decide) h6 (fun hc9 h9 => ?_) (fun hc9 h9 => ?_)
  · refine mv_iconst (pc := 12) (v := (-1)) de_PM_feed_12 (by decide) ?_
    exact mv_iret (pc := 13) rfl de_PM_feed_13 h9
  · refine mv_iconst (pc := 14) (v := 0) de_PM_feed_14 (by decide) ?_
    refine mv_istore (pc := 15) (lv' := [(4, .int 0), (0, va_rf (some v0)), (1, .long v1), (3, .int v3)]) de_PM_feed_15 (Nat.le_of_ble_eq_true rfl) rfl ?_
    exact mv_sub [1, 2, 3, 0] rfl (tb_PM_feed_17 l D E B sa M0 M1 r N N Mm6 v0 v1 v3 0 h9)
theorem cm_PM_feed (l : Launch) (D : va_G) (E : Nat → ClassId) (B : Nat) (sa : (Nat → Nat) × Nat × (Nat → Int32)) (N : Nat) (M : mv_M) (v0 : Nat) (v1 : Int64) (v3 : Int32) (r : Int32) (M1 : mv_M) (hJ : jf_PM_feed N M v0 v1 v3 = some (r, M1)) : mv_Met (xg l D E B sa) yn_PM_feed cd_PM_feed 5 (some .int) 1 25 [va_rf (some v0), .long v1, .int v3] M (some (.int r)) M1 :=
  mv_enter (by decide) (Nat.le_of_ble_eq_true rfl) (mv_sub (lv := [(0, va_rf (some v0)), (1, .long v1), (3, .int v3)]) [0, 1, 2] rfl (tb_PM_feed_0 l D E B sa M M1 r N M v0 v1 v3 hJ))
/-! ===== PlainLearnerModel.empty()I ===== -/
abbrev kd_PM_empty : mv_Kd := (cd_PM_empty, 2, "PlainLearnerModel", "empty", (some .int), 0, 0)
theorem de_PM_empty_0 : decode cd_PM_empty 0 = .ok (.aload_n 0, 1) := by decide +kernel
theorem de_PM_empty_1 : decode cd_PM_empty 1 = .ok (.getfield 295, 3) := by decide +kernel
theorem de_PM_empty_4 : decode cd_PM_empty 4 = .ok (.istore_n 1, 1) := by decide +kernel
theorem de_PM_empty_5 : decode cd_PM_empty 5 = .ok (.aload_n 0, 1) := by decide +kernel
theorem de_PM_empty_6 : decode cd_PM_empty 6 = .ok (.iconst 0, 1) := by decide +kernel
theorem de_PM_empty_7 : decode cd_PM_empty 7 = .ok (.putfield 295, 3) := by decide +kernel
theorem de_PM_empty_10 : decode cd_PM_empty 10 = .ok (.iload_n 1, 1) := by decide +kernel
theorem de_PM_empty_11 : decode cd_PM_empty 11 = .ok (.ireturn, 1) := by decide +kernel
def jb_PM_empty_0 (N : Nat) (M : mv_M) (v0 : Nat) : Option (Int32 × mv_M) :=
  Option.bind (mj_getI M v0 1 31) fun x1 =>
  Option.bind (mj_put M v0 1 31 (.int 0)) fun Mm7 =>
  some (x1, Mm7)
def jf_PM_empty (N : Nat) (M : mv_M) (v0 : Nat) : Option (Int32 × mv_M) := jb_PM_empty_0 N M v0
set_option maxHeartbeats 4000000 in
set_option maxRecDepth 100000 in
theorem tb_PM_empty_0 (l : Launch) (D : va_G) (E : Nat → ClassId) (B : Nat) (sa : (Nat → Nat) × Nat × (Nat → Int32)) (M0 M1 : mv_M) (r : Int32) (N : Nat) (M : mv_M) (v0 : Nat) (hJ : jb_PM_empty_0 N M v0 = some (r, M1)) : mv_G (xg l D E B sa) kd_PM_empty M0 M1 (some (.int r)) M 0 [(0, va_rf (some v0))] [] := by
  unfold jb_PM_empty_0 at hJ
  refine mv_aload_n (pc := 0) (i := 0) de_PM_empty_0 rfl 0 rfl ?_
  refine mv_getI (pc := 1) (f := 31) (kc_1 l D E B sa) (Nat.le_of_ble_eq_true rfl) wt_4_111 de_PM_empty_1 hJ (fun x1 e1 h1 => ?_)
  refine mv_istore_n (pc := 4) (i := 1) (lv' := [(1, .int x1), (0, va_rf (some v0))]) de_PM_empty_4 rfl (Nat.le_of_ble_eq_true rfl) rfl ?_
  refine mv_aload_n (pc := 5) (i := 0) de_PM_empty_5 rfl 1 rfl ?_
  refine mv_iconst (pc := 6) (v := 0) de_PM_empty_6 (by decide) ?_
  refine mv_put (pc := 7) (f := 31) (kc_1 l D E B sa) (Nat.le_of_ble_eq_true rfl) wt_4_111 rfl rfl rfl de_PM_empty_7 h1 (fun Mm7 e7 h7 => ?_)
  refine mv_iload_n (pc := 10) (i := 1) de_PM_empty_10 rfl 0 rfl ?_
  exact mv_iret (pc := 11) rfl de_PM_empty_11 h7
theorem cm_PM_empty (l : Launch) (D : va_G) (E : Nat → ClassId) (B : Nat) (sa : (Nat → Nat) × Nat × (Nat → Int32)) (N : Nat) (M : mv_M) (v0 : Nat) (r : Int32) (M1 : mv_M) (hJ : jf_PM_empty N M v0 = some (r, M1)) : mv_Met (xg l D E B sa) yn_PM_empty cd_PM_empty 2 (some .int) 0 0 [va_rf (some v0)] M (some (.int r)) M1 :=
  mv_enter (by decide) (Nat.le_of_ble_eq_true rfl) (mv_sub (lv := [(0, va_rf (some v0))]) [0] rfl (tb_PM_empty_0 l D E B sa M M1 r N M v0 hJ))
/-! ===== PlainLearnerModel.often(II)I ===== -/
abbrev kd_PM_often : mv_Kd := (cd_PM_often, 6, "PlainLearnerModel", "often", (some .int), 0, 0)
theorem de_PM_often_0 : decode cd_PM_often 0 = .ok (.iconst 0, 1) := by decide +kernel
theorem de_PM_often_1 : decode cd_PM_often 1 = .ok (.istore_n 3, 1) := by decide +kernel
theorem de_PM_often_2 : decode cd_PM_often 2 = .ok (.iconst 0, 1) := by decide +kernel
theorem de_PM_often_3 : decode cd_PM_often 3 = .ok (.istore 4, 2) := by decide +kernel
theorem de_PM_often_5 : decode cd_PM_often 5 = .ok (.iload 4, 2) := by decide +kernel
theorem de_PM_often_7 : decode cd_PM_often 7 = .ok (.iconst 1, 1) := by decide +kernel
theorem de_PM_often_8 : decode cd_PM_often 8 = .ok (.iadd, 1) := by decide +kernel
theorem de_PM_often_9 : decode cd_PM_often 9 = .ok (.aload_n 0, 1) := by decide +kernel
theorem de_PM_often_10 : decode cd_PM_often 10 = .ok (.getfield 295, 3) := by decide +kernel
theorem de_PM_often_13 : decode cd_PM_often 13 = .ok (.if_icmp .ge 65, 3) := by decide +kernel
theorem de_PM_often_16 : decode cd_PM_often 16 = .ok (.aload_n 0, 1) := by decide +kernel
theorem de_PM_often_17 : decode cd_PM_often 17 = .ok (.getfield 60, 3) := by decide +kernel
theorem de_PM_often_20 : decode cd_PM_often 20 = .ok (.iload 4, 2) := by decide +kernel
theorem de_PM_often_22 : decode cd_PM_often 22 = .ok (.iaload, 1) := by decide +kernel
theorem de_PM_often_23 : decode cd_PM_often 23 = .ok (.iload_n 1, 1) := by decide +kernel
theorem de_PM_often_24 : decode cd_PM_often 24 = .ok (.if_icmp .ne 20, 3) := by decide +kernel
theorem de_PM_often_27 : decode cd_PM_often 27 = .ok (.aload_n 0, 1) := by decide +kernel
theorem de_PM_often_28 : decode cd_PM_often 28 = .ok (.getfield 60, 3) := by decide +kernel
theorem de_PM_often_31 : decode cd_PM_often 31 = .ok (.iload 4, 2) := by decide +kernel
theorem de_PM_often_33 : decode cd_PM_often 33 = .ok (.iconst 1, 1) := by decide +kernel
theorem de_PM_often_34 : decode cd_PM_often 34 = .ok (.iadd, 1) := by decide +kernel
theorem de_PM_often_35 : decode cd_PM_often 35 = .ok (.iaload, 1) := by decide +kernel
theorem de_PM_often_36 : decode cd_PM_often 36 = .ok (.iload_n 2, 1) := by decide +kernel
theorem de_PM_often_37 : decode cd_PM_often 37 = .ok (.if_icmp .ne 7, 3) := by decide +kernel
theorem de_PM_often_40 : decode cd_PM_often 40 = .ok (.iconst 1, 1) := by decide +kernel
theorem de_PM_often_41 : decode cd_PM_often 41 = .ok (.goto 4, 3) := by decide +kernel
theorem de_PM_often_44 : decode cd_PM_often 44 = .ok (.iconst 0, 1) := by decide +kernel
theorem de_PM_often_45 : decode cd_PM_often 45 = .ok (.istore 5, 2) := by decide +kernel
theorem de_PM_often_47 : decode cd_PM_often 47 = .ok (.iload_n 3, 1) := by decide +kernel
theorem de_PM_often_48 : decode cd_PM_often 48 = .ok (.iload 5, 2) := by decide +kernel
theorem de_PM_often_50 : decode cd_PM_often 50 = .ok (.ifCond .eq 7, 3) := by decide +kernel
theorem de_PM_often_53 : decode cd_PM_often 53 = .ok (.iconst 1, 1) := by decide +kernel
theorem de_PM_often_54 : decode cd_PM_often 54 = .ok (.goto 4, 3) := by decide +kernel
theorem de_PM_often_57 : decode cd_PM_often 57 = .ok (.iconst 0, 1) := by decide +kernel
theorem de_PM_often_58 : decode cd_PM_often 58 = .ok (.iadd, 1) := by decide +kernel
theorem de_PM_often_59 : decode cd_PM_often 59 = .ok (.istore_n 3, 1) := by decide +kernel
theorem de_PM_often_60 : decode cd_PM_often 60 = .ok (.iload 4, 2) := by decide +kernel
theorem de_PM_often_62 : decode cd_PM_often 62 = .ok (.iload 5, 2) := by decide +kernel
theorem de_PM_often_64 : decode cd_PM_often 64 = .ok (.ifCond .eq 7, 3) := by decide +kernel
theorem de_PM_often_67 : decode cd_PM_often 67 = .ok (.iconst 2, 1) := by decide +kernel
theorem de_PM_often_68 : decode cd_PM_often 68 = .ok (.goto 4, 3) := by decide +kernel
theorem de_PM_often_71 : decode cd_PM_often 71 = .ok (.iconst 1, 1) := by decide +kernel
theorem de_PM_often_72 : decode cd_PM_often 72 = .ok (.iadd, 1) := by decide +kernel
theorem de_PM_often_73 : decode cd_PM_often 73 = .ok (.istore 4, 2) := by decide +kernel
theorem de_PM_often_75 : decode cd_PM_often 75 = .ok (.goto (-70), 3) := by decide +kernel
theorem de_PM_often_78 : decode cd_PM_often 78 = .ok (.iload_n 3, 1) := by decide +kernel
theorem de_PM_often_79 : decode cd_PM_often 79 = .ok (.ireturn, 1) := by decide +kernel
def jb_PM_often_72 (N : Nat) (k5 : mv_M → Nat → Int32 → Int32 → Int32 → Int32 → Option (Int32 × mv_M)) (M : mv_M) (v0 : Nat) (v1 : Int32) (v2 : Int32) (v3 : Int32) (s0 : Int32) (s1 : Int32) : Option (Int32 × mv_M) :=
  k5 M v0 v1 v2 v3 (s0 + s1)
def jb_PM_often_58 (N : Nat) (k5 : mv_M → Nat → Int32 → Int32 → Int32 → Int32 → Option (Int32 × mv_M)) (M : mv_M) (v0 : Nat) (v1 : Int32) (v2 : Int32) (v4 : Int32) (v5 : Int32) (s0 : Int32) (s1 : Int32) : Option (Int32 × mv_M) :=
  if v5 = 0 then (jb_PM_often_72 N k5 M v0 v1 v2 (s0 + s1) v4 1) else
  jb_PM_often_72 N k5 M v0 v1 v2 (s0 + s1) v4 2
def jb_PM_often_45 (N : Nat) (k5 : mv_M → Nat → Int32 → Int32 → Int32 → Int32 → Option (Int32 × mv_M)) (M : mv_M) (v0 : Nat) (v1 : Int32) (v2 : Int32) (v3 : Int32) (v4 : Int32) (s0 : Int32) : Option (Int32 × mv_M) :=
  if s0 = 0 then (jb_PM_often_58 N k5 M v0 v1 v2 v4 s0 v3 0) else
  jb_PM_often_58 N k5 M v0 v1 v2 v4 s0 v3 1
def jb_PM_often_44 (N : Nat) (k5 : mv_M → Nat → Int32 → Int32 → Int32 → Int32 → Option (Int32 × mv_M)) (M : mv_M) (v0 : Nat) (v1 : Int32) (v2 : Int32) (v3 : Int32) (v4 : Int32) : Option (Int32 × mv_M) :=
  jb_PM_often_45 N k5 M v0 v1 v2 v3 v4 0
def jb_PM_often_5 (N : Nat) : Nat → mv_M → Nat → Int32 → Int32 → Int32 → Int32 → Option (Int32 × mv_M)
  | 0, _, _, _, _, _, _ => none
  | n + 1, M, v0, v1, v2, v3, v4 =>
    Option.bind (mj_getI M v0 1 31) fun x10 =>
    if x10 ≤ (v4 + 1) then (some (v3, M)) else
    Option.bind (mj_getR M v0 1 32) fun x17 =>
    Option.bind x17 fun a22 =>
    Option.bind (mj_ild M a22 0 v4) fun x22 =>
    if x22 = v1 then (Option.bind (mj_getR M v0 1 32) fun x28 =>
    Option.bind x28 fun a35 =>
    Option.bind (mj_ild M a35 0 (v4 + 1)) fun x35 =>
    if x35 = v2 then (jb_PM_often_45 N (jb_PM_often_5 N n) M v0 v1 v2 v3 v4 1) else
    jb_PM_often_44 N (jb_PM_often_5 N n) M v0 v1 v2 v3 v4) else
    jb_PM_often_44 N (jb_PM_often_5 N n) M v0 v1 v2 v3 v4
def jb_PM_often_0 (N : Nat) (M : mv_M) (v0 : Nat) (v1 : Int32) (v2 : Int32) : Option (Int32 × mv_M) :=
  jb_PM_often_5 N N M v0 v1 v2 0 0
def jf_PM_often (N : Nat) (M : mv_M) (v0 : Nat) (v1 : Int32) (v2 : Int32) : Option (Int32 × mv_M) := jb_PM_often_0 N M v0 v1 v2
set_option maxHeartbeats 4000000 in
set_option maxRecDepth 100000 in
theorem tb_PM_often_72 (l : Launch) (D : va_G) (E : Nat → ClassId) (B : Nat) (sa : (Nat → Nat) × Nat × (Nat → Int32)) (M0 M1 : mv_M) (r : Int32) (N : Nat) (k5 : mv_M → Nat → Int32 → Int32 → Int32 → Int32 → Option (Int32 × mv_M)) (hk5 : ∀ (M : mv_M) (v0 : Nat) (v1 : Int32) (v2 : Int32) (v3 : Int32) (v4 : Int32), k5 M v0 v1 v2 v3 v4 = some (r, M1) → mv_G (xg l D E B sa) kd_PM_often M0 M1 (some (.int r)) M 5 [(0, va_rf (some v0)), (1, .int v1), (2, .int v2), (3, .int v3), (4, .int v4)] []) (M : mv_M) (v0 : Nat) (v1 : Int32) (v2 : Int32) (v3 : Int32) (s0 : Int32) (s1 : Int32) (hJ : jb_PM_often_72 N k5 M v0 v1 v2 v3 s0 s1 = some (r, M1)) : mv_G (xg l D E B sa) kd_PM_often M0 M1 (some (.int r)) M 72 [(0, va_rf (some v0)), (1, .int v1), (2, .int v2), (3, .int v3)] [.int s1, .int s0] := by
  unfold jb_PM_often_72 at hJ
  refine mv_iadd (pc := 72) de_PM_often_72 ?_
  refine mv_istore (pc := 73) (lv' := [(4, .int (s0 + s1)), (0, va_rf (some v0)), (1, .int v1), (2, .int v2), (3, .int v3)]) de_PM_often_73 (Nat.le_of_ble_eq_true rfl) rfl ?_
  refine mv_goto (pc := 75) (tgt := 5) de_PM_often_75 (by decide) ?_
  exact mv_sub [1, 2, 3, 4, 0] rfl (hk5 M v0 v1 v2 v3 (s0 + s1) hJ)
set_option maxHeartbeats 4000000 in
set_option maxRecDepth 100000 in
theorem tb_PM_often_58 (l : Launch) (D : va_G) (E : Nat → ClassId) (B : Nat) (sa : (Nat → Nat) × Nat × (Nat → Int32)) (M0 M1 : mv_M) (r : Int32) (N : Nat) (k5 : mv_M → Nat → Int32 → Int32 → Int32 → Int32 → Option (Int32 × mv_M)) (hk5 : ∀ (M : mv_M) (v0 : Nat) (v1 : Int32) (v2 : Int32) (v3 : Int32) (v4 : Int32), k5 M v0 v1 v2 v3 v4 = some (r, M1) → mv_G (xg l D E B sa) kd_PM_often M0 M1 (some (.int r)) M 5 [(0, va_rf (some v0)), (1, .int v1), (2, .int v2), (3, .int v3), (4, .int v4)] []) (M : mv_M) (v0 : Nat) (v1 : Int32) (v2 : Int32) (v4 : Int32) (v5 : Int32) (s0 : Int32) (s1 : Int32) (hJ : jb_PM_often_58 N k5 M v0 v1 v2 v4 v5 s0 s1 = some (r, M1)) : mv_G (xg l D E B sa) kd_PM_often M0 M1 (some (.int r)) M 58 [(0, va_rf (some v0)), (1, .int v1), (2, .int v2), (4, .int v4), (5, .int v5)] [.int s1, .int s0] := by
  unfold jb_PM_often_58 at hJ
  refine mv_iadd (pc := 58) de_PM_often_58 ?_
  refine mv_istore_n (pc := 59) (i := 3) (lv' := [(3, .int (s0 + s1)), (0, va_rf (some v0)), (1, .int v1), (2, .int v2), (4, .int v4), (5, .int v5)]) de_PM_often_59 rfl (Nat.le_of_ble_eq_true rfl) rfl ?_
  refine mv_iload (pc := 60) de_PM_often_60 4 rfl ?_
  refine mv_iload (pc := 62) de_PM_often_62 5 rfl ?_
  refine mv_if_eq (pc := 64) (tgt := 71) de_PM_often_64 (by decide) hJ (fun hc64 h64 => ?_) (fun hc64 h64 => ?_)
  · refine mv_iconst (pc := 71) (v := 1) de_PM_often_71 (by decide) ?_
    exact mv_sub [1, 2, 3, 0] rfl (tb_PM_often_72 l D E B sa M0 M1 r N k5 hk5 M v0 v1 v2 (s0 + s1) v4 1 h64)
  · refine mv_iconst (pc := 67) (v := 2) de_PM_often_67 (by decide) ?_
    refine mv_goto (pc := 68) (tgt := 72) de_PM_often_68 (by decide) ?_
    exact mv_sub [1, 2, 3, 0] rfl (tb_PM_often_72 l D E B sa M0 M1 r N k5 hk5 M v0 v1 v2 (s0 + s1) v4 2 h64)
set_option maxHeartbeats 4000000 in
set_option maxRecDepth 100000 in
theorem tb_PM_often_45 (l : Launch) (D : va_G) (E : Nat → ClassId) (B : Nat) (sa : (Nat → Nat) × Nat × (Nat → Int32)) (M0 M1 : mv_M) (r : Int32) (N : Nat) (k5 : mv_M → Nat → Int32 → Int32 → Int32 → Int32 → Option (Int32 × mv_M)) (hk5 : ∀ (M : mv_M) (v0 : Nat) (v1 : Int32) (v2 : Int32) (v3 : Int32) (v4 : Int32), k5 M v0 v1 v2 v3 v4 = some (r, M1) → mv_G (xg l D E B sa) kd_PM_often M0 M1 (some (.int r)) M 5 [(0, va_rf (some v0)), (1, .int v1), (2, .int v2), (3, .int v3), (4, .int v4)] []) (M : mv_M) (v0 : Nat) (v1 : Int32) (v2 : Int32) (v3 : Int32) (v4 : Int32) (s0 : Int32) (hJ : jb_PM_often_45 N k5 M v0 v1 v2 v3 v4 s0 = some (r, M1)) : mv_G (xg l D E B sa) kd_PM_often M0 M1 (some (.int r)) M 45 [(0, va_rf (some v0)), (1, .int v1), (2, .int v2), (3, .int v3), (4, .int v4)] [.int s0] := by
  unfold jb_PM_often_45 at hJ
  refine mv_istore (pc := 45) (lv' := [(5, .int s0), (0, va_rf (some v0)), (1, .int v1), (2, .int v2), (3, .int v3), (4, .int v4)]) de_PM_often_45 (Nat.le_of_ble_eq_true rfl) rfl ?_
  refine mv_iload_n (pc := 47) (i := 3) de_PM_often_47 rfl 4 rfl ?_
  refine mv_iload (pc := 48) de_PM_often_48 0 rfl ?_
  refine mv_if_eq (pc := 50) (tgt := 57) de_PM_often_50 (by decide) hJ (fun hc50 h50 => ?_) (fun hc50 h50 => ?_)
  · refine mv_iconst (pc := 57) (v := 0) de_PM_often_57 (by decide) ?_
    exact mv_sub [1, 2, 3, 5, 0] rfl (tb_PM_often_58 l D E B sa M0 M1 r N k5 hk5 M v0 v1 v2 v4 s0 v3 0 h50)
  · refine mv_iconst (pc := 53) (v := 1) de_PM_often_53 (by decide) ?_
    refine mv_goto (pc := 54) (tgt := 58) de_PM_often_54 (by decide) ?_
    exact mv_sub [1, 2, 3, 5, 0] rfl (tb_PM_often_58 l D E B sa M0 M1 r N k5 hk5 M v0 v1 v2 v4 s0 v3 1 h50)
set_option maxHeartbeats 4000000 in
set_option maxRecDepth 100000 in
theorem tb_PM_often_44 (l : Launch) (D : va_G) (E : Nat → ClassId) (B : Nat) (sa : (Nat → Nat) × Nat × (Nat → Int32)) (M0 M1 : mv_M) (r : Int32) (N : Nat) (k5 : mv_M → Nat → Int32 → Int32 → Int32 → Int32 → Option (Int32 × mv_M)) (hk5 : ∀ (M : mv_M) (v0 : Nat) (v1 : Int32) (v2 : Int32) (v3 : Int32) (v4 : Int32), k5 M v0 v1 v2 v3 v4 = some (r, M1) → mv_G (xg l D E B sa) kd_PM_often M0 M1 (some (.int r)) M 5 [(0, va_rf (some v0)), (1, .int v1), (2, .int v2), (3, .int v3), (4, .int v4)] []) (M : mv_M) (v0 : Nat) (v1 : Int32) (v2 : Int32) (v3 : Int32) (v4 : Int32) (hJ : jb_PM_often_44 N k5 M v0 v1 v2 v3 v4 = some (r, M1)) : mv_G (xg l D E B sa) kd_PM_often M0 M1 (some (.int r)) M 44 [(0, va_rf (some v0)), (1, .int v1), (2, .int v2), (3, .int v3), (4, .int v4)] [] := by
  unfold jb_PM_often_44 at hJ
  refine mv_iconst (pc := 44) (v := 0) de_PM_often_44 (by decide) ?_
  exact mv_sub [0, 1, 2, 3, 4] rfl (tb_PM_often_45 l D E B sa M0 M1 r N k5 hk5 M v0 v1 v2 v3 v4 0 hJ)
set_option maxHeartbeats 4000000 in
set_option maxRecDepth 100000 in
theorem tb_PM_often_5 (l : Launch) (D : va_G) (E : Nat → ClassId) (B : Nat) (sa : (Nat → Nat) × Nat × (Nat → Int32)) (M0 M1 : mv_M) (r : Int32) (N : Nat) : ∀ (n : Nat) (M : mv_M) (v0 : Nat) (v1 : Int32) (v2 : Int32) (v3 : Int32) (v4 : Int32) (hJ : jb_PM_often_5 N n M v0 v1 v2 v3 v4 = some (r, M1)), mv_G (xg l D E B sa) kd_PM_often M0 M1 (some (.int r)) M 5 [(0, va_rf (some v0)), (1, .int v1), (2, .int v2), (3, .int v3), (4, .int v4)] [] := by
  intro n
  induction n with
  | zero => intro M v0 v1 v2 v3 v4 hJ; cases hJ
  | succ n ih =>
    intro M v0 v1 v2 v3 v4 hJ
    rw [jb_PM_often_5] at hJ
    refine mv_iload (pc := 5) de_PM_often_5 4 rfl ?_
    refine mv_iconst (pc := 7) (v := 1) de_PM_often_7 (by decide) ?_
    refine mv_iadd (pc := 8) de_PM_often_8 ?_
    refine mv_aload_n (pc := 9) (i := 0) de_PM_often_9 rfl 0 rfl ?_
    refine mv_getI (pc := 10) (f := 31) (kc_1 l D E B sa) (Nat.le_of_ble_eq_true rfl) wt_4_111 de_PM_often_10 hJ (fun x10 e10 h10 => ?_)
    refine mv_icmp_ge (pc := 13) (tgt := 78) de_PM_often_13 (by decide) h10 (fun hc13 h13 => ?_) (fun hc13 h13 => ?_)
    · refine mv_iload_n (pc := 78) (i := 3) de_PM_often_78 rfl 3 rfl ?_
      exact mv_iret (pc := 79) rfl de_PM_often_79 h13
    · refine mv_aload_n (pc := 16) (i := 0) de_PM_often_16 rfl 0 rfl ?_
      refine mv_getR (pc := 17) (f := 32) (kc_1 l D E B sa) (Nat.le_of_ble_eq_true rfl) wt_4_112 de_PM_often_17 h13 (fun x17 e17 h17 => ?_)
      refine mv_iload (pc := 20) de_PM_often_20 4 rfl ?_
      obtain ⟨a22, ha, h22a⟩ := mj_bindE h17
      subst ha
      refine mv_iald (pc := 22) (t := 0) rfl de_PM_often_22 h22a (fun x22 e22 h22 => ?_)
      refine mv_iload_n (pc := 23) (i := 1) de_PM_often_23 rfl 1 rfl ?_
      refine mv_icmp_ne (pc := 24) (tgt := 44) de_PM_often_24 (by decide) h22 (fun hc24 h24 => ?_) (fun hc24 h24 => ?_)
      · refine mv_aload_n (pc := 27) (i := 0) de_PM_often_27 rfl 0 rfl ?_
        refine mv_getR (pc := 28) (f := 32) (kc_1 l D E B sa) (Nat.le_of_ble_eq_true rfl) wt_4_112 de_PM_often_28 h24 (fun x28 e28 h28 => ?_)
        refine mv_iload (pc := 31) de_PM_often_31 4 rfl ?_
        refine mv_iconst (pc := 33) (v := 1) de_PM_often_33 (by decide) ?_
        refine mv_iadd (pc := 34) de_PM_often_34 ?_
        obtain ⟨a35, ha, h35a⟩ := mj_bindE h28
        subst ha
        refine mv_iald (pc := 35) (t := 0) rfl de_PM_often_35 h35a (fun x35 e35 h35 => ?_)
        refine mv_iload_n (pc := 36) (i := 2) de_PM_often_36 rfl 2 rfl ?_
        refine mv_icmp_ne (pc := 37) (tgt := 44) de_PM_often_37 (by decide) h35 (fun hc37 h37 => ?_) (fun hc37 h37 => ?_)
        · refine mv_iconst (pc := 40) (v := 1) de_PM_often_40 (by decide) ?_
          refine mv_goto (pc := 41) (tgt := 45) de_PM_often_41 (by decide) ?_
          exact mv_sub [0, 1, 2, 3, 4] rfl (tb_PM_often_45 l D E B sa M0 M1 r N (jb_PM_often_5 N n) ih M v0 v1 v2 v3 v4 1 h37)
        · exact mv_sub [0, 1, 2, 3, 4] rfl (tb_PM_often_44 l D E B sa M0 M1 r N (jb_PM_often_5 N n) ih M v0 v1 v2 v3 v4 h37)
      · exact mv_sub [0, 1, 2, 3, 4] rfl (tb_PM_often_44 l D E B sa M0 M1 r N (jb_PM_often_5 N n) ih M v0 v1 v2 v3 v4 h24)
set_option maxHeartbeats 4000000 in
set_option maxRecDepth 100000 in
theorem tb_PM_often_0 (l : Launch) (D : va_G) (E : Nat → ClassId) (B : Nat) (sa : (Nat → Nat) × Nat × (Nat → Int32)) (M0 M1 : mv_M) (r : Int32) (N : Nat) (M : mv_M) (v0 : Nat) (v1 : Int32) (v2 : Int32) (hJ : jb_PM_often_0 N M v0 v1 v2 = some (r, M1)) : mv_G (xg l D E B sa) kd_PM_often M0 M1 (some (.int r)) M 0 [(0, va_rf (some v0)), (1, .int v1), (2, .int v2)] [] := by
  unfold jb_PM_often_0 at hJ
  refine mv_iconst (pc := 0) (v := 0) de_PM_often_0 (by decide) ?_
  refine mv_istore_n (pc := 1) (i := 3) (lv' := [(3, .int 0), (0, va_rf (some v0)), (1, .int v1), (2, .int v2)]) de_PM_often_1 rfl (Nat.le_of_ble_eq_true rfl) rfl ?_
  refine mv_iconst (pc := 2) (v := 0) de_PM_often_2 (by decide) ?_
  refine mv_istore (pc := 3) (lv' := [(4, .int 0), (3, .int 0), (0, va_rf (some v0)), (1, .int v1), (2, .int v2)]) de_PM_often_3 (Nat.le_of_ble_eq_true rfl) rfl ?_
  exact mv_sub [2, 3, 4, 1, 0] rfl (tb_PM_often_5 l D E B sa M0 M1 r N N M v0 v1 v2 0 0 hJ)
theorem cm_PM_often (l : Launch) (D : va_G) (E : Nat → ClassId) (B : Nat) (sa : (Nat → Nat) × Nat × (Nat → Int32)) (N : Nat) (M : mv_M) (v0 : Nat) (v1 : Int32) (v2 : Int32) (r : Int32) (M1 : mv_M) (hJ : jf_PM_often N M v0 v1 v2 = some (r, M1)) : mv_Met (xg l D E B sa) yn_PM_often cd_PM_often 6 (some .int) 0 0 [va_rf (some v0), .int v1, .int v2] M (some (.int r)) M1 :=
  mv_enter (by decide) (Nat.le_of_ble_eq_true rfl) (mv_sub (lv := [(0, va_rf (some v0)), (1, .int v1), (2, .int v2)]) [0, 1, 2] rfl (tb_PM_often_0 l D E B sa M M1 r N M v0 v1 v2 hJ))
/-! ===== PlainLearnerModel.joins(III)V ===== -/
abbrev kd_PM_joins : mv_Kd := (cd_PM_joins, 7, "PlainLearnerModel", "joins", none, 0, 0)
theorem de_PM_joins_0 : decode cd_PM_joins 0 = .ok (.iconst 0, 1) := by decide +kernel
theorem de_PM_joins_1 : decode cd_PM_joins 1 = .ok (.istore 4, 2) := by decide +kernel
theorem de_PM_joins_3 : decode cd_PM_joins 3 = .ok (.iconst 0, 1) := by decide +kernel
theorem de_PM_joins_4 : decode cd_PM_joins 4 = .ok (.istore 5, 2) := by decide +kernel
theorem de_PM_joins_6 : decode cd_PM_joins 6 = .ok (.iload 5, 2) := by decide +kernel
theorem de_PM_joins_8 : decode cd_PM_joins 8 = .ok (.aload_n 0, 1) := by decide +kernel
theorem de_PM_joins_9 : decode cd_PM_joins 9 = .ok (.getfield 295, 3) := by decide +kernel
theorem de_PM_joins_12 : decode cd_PM_joins 12 = .ok (.if_icmp .ge 89, 3) := by decide +kernel
theorem de_PM_joins_15 : decode cd_PM_joins 15 = .ok (.iload 5, 2) := by decide +kernel
theorem de_PM_joins_17 : decode cd_PM_joins 17 = .ok (.iconst 1, 1) := by decide +kernel
theorem de_PM_joins_18 : decode cd_PM_joins 18 = .ok (.iadd, 1) := by decide +kernel
theorem de_PM_joins_19 : decode cd_PM_joins 19 = .ok (.aload_n 0, 1) := by decide +kernel
theorem de_PM_joins_20 : decode cd_PM_joins 20 = .ok (.getfield 295, 3) := by decide +kernel
theorem de_PM_joins_23 : decode cd_PM_joins 23 = .ok (.if_icmp .ge 31, 3) := by decide +kernel
theorem de_PM_joins_26 : decode cd_PM_joins 26 = .ok (.aload_n 0, 1) := by decide +kernel
theorem de_PM_joins_27 : decode cd_PM_joins 27 = .ok (.getfield 60, 3) := by decide +kernel
theorem de_PM_joins_30 : decode cd_PM_joins 30 = .ok (.iload 5, 2) := by decide +kernel
theorem de_PM_joins_32 : decode cd_PM_joins 32 = .ok (.iaload, 1) := by decide +kernel
theorem de_PM_joins_33 : decode cd_PM_joins 33 = .ok (.iload_n 1, 1) := by decide +kernel
theorem de_PM_joins_34 : decode cd_PM_joins 34 = .ok (.if_icmp .ne 20, 3) := by decide +kernel
theorem de_PM_joins_37 : decode cd_PM_joins 37 = .ok (.aload_n 0, 1) := by decide +kernel
theorem de_PM_joins_38 : decode cd_PM_joins 38 = .ok (.getfield 60, 3) := by decide +kernel
theorem de_PM_joins_41 : decode cd_PM_joins 41 = .ok (.iload 5, 2) := by decide +kernel
theorem de_PM_joins_43 : decode cd_PM_joins 43 = .ok (.iconst 1, 1) := by decide +kernel
theorem de_PM_joins_44 : decode cd_PM_joins 44 = .ok (.iadd, 1) := by decide +kernel
theorem de_PM_joins_45 : decode cd_PM_joins 45 = .ok (.iaload, 1) := by decide +kernel
theorem de_PM_joins_46 : decode cd_PM_joins 46 = .ok (.iload_n 2, 1) := by decide +kernel
theorem de_PM_joins_47 : decode cd_PM_joins 47 = .ok (.if_icmp .ne 7, 3) := by decide +kernel
theorem de_PM_joins_50 : decode cd_PM_joins 50 = .ok (.iconst 1, 1) := by decide +kernel
theorem de_PM_joins_51 : decode cd_PM_joins 51 = .ok (.goto 4, 3) := by decide +kernel
theorem de_PM_joins_54 : decode cd_PM_joins 54 = .ok (.iconst 0, 1) := by decide +kernel
theorem de_PM_joins_55 : decode cd_PM_joins 55 = .ok (.istore 6, 2) := by decide +kernel
theorem de_PM_joins_57 : decode cd_PM_joins 57 = .ok (.aload_n 0, 1) := by decide +kernel
theorem de_PM_joins_58 : decode cd_PM_joins 58 = .ok (.getfield 60, 3) := by decide +kernel
theorem de_PM_joins_61 : decode cd_PM_joins 61 = .ok (.iload 4, 2) := by decide +kernel
theorem de_PM_joins_63 : decode cd_PM_joins 63 = .ok (.iinc 4 1, 3) := by decide +kernel
theorem de_PM_joins_66 : decode cd_PM_joins 66 = .ok (.iload 6, 2) := by decide +kernel
theorem de_PM_joins_68 : decode cd_PM_joins 68 = .ok (.ifCond .eq 7, 3) := by decide +kernel
theorem de_PM_joins_71 : decode cd_PM_joins 71 = .ok (.iload_n 3, 1) := by decide +kernel
theorem de_PM_joins_72 : decode cd_PM_joins 72 = .ok (.goto 10, 3) := by decide +kernel
theorem de_PM_joins_75 : decode cd_PM_joins 75 = .ok (.aload_n 0, 1) := by decide +kernel
theorem de_PM_joins_76 : decode cd_PM_joins 76 = .ok (.getfield 60, 3) := by decide +kernel
theorem de_PM_joins_79 : decode cd_PM_joins 79 = .ok (.iload 5, 2) := by decide +kernel
theorem de_PM_joins_81 : decode cd_PM_joins 81 = .ok (.iaload, 1) := by decide +kernel
theorem de_PM_joins_82 : decode cd_PM_joins 82 = .ok (.iastore, 1) := by decide +kernel
theorem de_PM_joins_83 : decode cd_PM_joins 83 = .ok (.iload 5, 2) := by decide +kernel
theorem de_PM_joins_85 : decode cd_PM_joins 85 = .ok (.iload 6, 2) := by decide +kernel
theorem de_PM_joins_87 : decode cd_PM_joins 87 = .ok (.ifCond .eq 7, 3) := by decide +kernel
theorem de_PM_joins_90 : decode cd_PM_joins 90 = .ok (.iconst 2, 1) := by decide +kernel
theorem de_PM_joins_91 : decode cd_PM_joins 91 = .ok (.goto 4, 3) := by decide +kernel
theorem de_PM_joins_94 : decode cd_PM_joins 94 = .ok (.iconst 1, 1) := by decide +kernel
theorem de_PM_joins_95 : decode cd_PM_joins 95 = .ok (.iadd, 1) := by decide +kernel
theorem de_PM_joins_96 : decode cd_PM_joins 96 = .ok (.istore 5, 2) := by decide +kernel
theorem de_PM_joins_98 : decode cd_PM_joins 98 = .ok (.goto (-92), 3) := by decide +kernel
theorem de_PM_joins_101 : decode cd_PM_joins 101 = .ok (.aload_n 0, 1) := by decide +kernel
theorem de_PM_joins_102 : decode cd_PM_joins 102 = .ok (.iload 4, 2) := by decide +kernel
theorem de_PM_joins_104 : decode cd_PM_joins 104 = .ok (.putfield 295, 3) := by decide +kernel
theorem de_PM_joins_107 : decode cd_PM_joins 107 = .ok (.return_, 1) := by decide +kernel
def jb_PM_joins_95 (N : Nat) (k6 : mv_M → Nat → Int32 → Int32 → Int32 → Int32 → Int32 → Option (Unit × mv_M)) (M : mv_M) (v0 : Nat) (v1 : Int32) (v2 : Int32) (v3 : Int32) (v4 : Int32) (s0 : Int32) (s1 : Int32) : Option (Unit × mv_M) :=
  k6 M v0 v1 v2 v3 v4 (s0 + s1)
def jb_PM_joins_82 (N : Nat) (k6 : mv_M → Nat → Int32 → Int32 → Int32 → Int32 → Int32 → Option (Unit × mv_M)) (M : mv_M) (v0 : Nat) (v1 : Int32) (v2 : Int32) (v3 : Int32) (v4 : Int32) (v5 : Int32) (v6 : Int32) (s0 : Option Nat) (s1 : Int32) (s2 : Int32) : Option (Unit × mv_M) :=
  Option.bind s0 fun a82 =>
  Option.bind (mj_ist M a82 0 s1 s2) fun Mm82 =>
  if v6 = 0 then (jb_PM_joins_95 N k6 Mm82 v0 v1 v2 v3 v4 v5 1) else
  jb_PM_joins_95 N k6 Mm82 v0 v1 v2 v3 v4 v5 2
def jb_PM_joins_55 (N : Nat) (k6 : mv_M → Nat → Int32 → Int32 → Int32 → Int32 → Int32 → Option (Unit × mv_M)) (M : mv_M) (v0 : Nat) (v1 : Int32) (v2 : Int32) (v3 : Int32) (v4 : Int32) (v5 : Int32) (s0 : Int32) : Option (Unit × mv_M) :=
  Option.bind (mj_getR M v0 1 32) fun x58 =>
  if s0 = 0 then (Option.bind (mj_getR M v0 1 32) fun x76 =>
  Option.bind x76 fun a81 =>
  Option.bind (mj_ild M a81 0 v5) fun x81 =>
  jb_PM_joins_82 N k6 M v0 v1 v2 v3 (v4 + 1) v5 s0 x58 v4 x81) else
  jb_PM_joins_82 N k6 M v0 v1 v2 v3 (v4 + 1) v5 s0 x58 v4 v3
def jb_PM_joins_54 (N : Nat) (k6 : mv_M → Nat → Int32 → Int32 → Int32 → Int32 → Int32 → Option (Unit × mv_M)) (M : mv_M) (v0 : Nat) (v1 : Int32) (v2 : Int32) (v3 : Int32) (v4 : Int32) (v5 : Int32) : Option (Unit × mv_M) :=
  jb_PM_joins_55 N k6 M v0 v1 v2 v3 v4 v5 0
def jb_PM_joins_6 (N : Nat) : Nat → mv_M → Nat → Int32 → Int32 → Int32 → Int32 → Int32 → Option (Unit × mv_M)
  | 0, _, _, _, _, _, _, _ => none
  | n + 1, M, v0, v1, v2, v3, v4, v5 =>
    Option.bind (mj_getI M v0 1 31) fun x9 =>
    if x9 ≤ v5 then (Option.bind (mj_put M v0 1 31 (.int v4)) fun Mm104 =>
    some ((), Mm104)) else
    Option.bind (mj_getI M v0 1 31) fun x20 =>
    if x20 ≤ (v5 + 1) then (jb_PM_joins_54 N (jb_PM_joins_6 N n) M v0 v1 v2 v3 v4 v5) else
    Option.bind (mj_getR M v0 1 32) fun x27 =>
    Option.bind x27 fun a32 =>
    Option.bind (mj_ild M a32 0 v5) fun x32 =>
    if x32 = v1 then (Option.bind (mj_getR M v0 1 32) fun x38 =>
    Option.bind x38 fun a45 =>
    Option.bind (mj_ild M a45 0 (v5 + 1)) fun x45 =>
    if x45 = v2 then (jb_PM_joins_55 N (jb_PM_joins_6 N n) M v0 v1 v2 v3 v4 v5 1) else
    jb_PM_joins_54 N (jb_PM_joins_6 N n) M v0 v1 v2 v3 v4 v5) else
    jb_PM_joins_54 N (jb_PM_joins_6 N n) M v0 v1 v2 v3 v4 v5
def jb_PM_joins_0 (N : Nat) (M : mv_M) (v0 : Nat) (v1 : Int32) (v2 : Int32) (v3 : Int32) : Option (Unit × mv_M) :=
  jb_PM_joins_6 N N M v0 v1 v2 v3 0 0
def jf_PM_joins (N : Nat) (M : mv_M) (v0 : Nat) (v1 : Int32) (v2 : Int32) (v3 : Int32) : Option (Unit × mv_M) := jb_PM_joins_0 N M v0 v1 v2 v3
set_option maxHeartbeats 4000000 in
set_option maxRecDepth 100000 in
theorem tb_PM_joins_95 (l : Launch) (D : va_G) (E : Nat → ClassId) (B : Nat) (sa : (Nat → Nat) × Nat × (Nat → Int32)) (M0 M1 : mv_M) (r : Unit) (N : Nat) (k6 : mv_M → Nat → Int32 → Int32 → Int32 → Int32 → Int32 → Option (Unit × mv_M)) (hk6 : ∀ (M : mv_M) (v0 : Nat) (v1 : Int32) (v2 : Int32) (v3 : Int32) (v4 : Int32) (v5 : Int32), k6 M v0 v1 v2 v3 v4 v5 = some (r, M1) → mv_G (xg l D E B sa) kd_PM_joins M0 M1 none M 6 [(0, va_rf (some v0)), (1, .int v1), (2, .int v2), (3, .int v3), (4, .int v4), (5, .int v5)] []) (M : mv_M) (v0 : Nat) (v1 : Int32) (v2 : Int32) (v3 : Int32) (v4 : Int32) (s0 : Int32) (s1 : Int32) (hJ : jb_PM_joins_95 N k6 M v0 v1 v2 v3 v4 s0 s1 = some (r, M1)) : mv_G (xg l D E B sa) kd_PM_joins M0 M1 none M 95 [(0, va_rf (some v0)), (1, .int v1), (2, .int v2), (3, .int v3), (4, .int v4)] [.int s1, .int s0] := by
  unfold jb_PM_joins_95 at hJ
  refine mv_iadd (pc := 95) de_PM_joins_95 ?_
  refine mv_istore (pc := 96) (lv' := [(5, .int (s0 + s1)), (0, va_rf (some v0)), (1, .int v1), (2, .int v2), (3, .int v3), (4, .int v4)]) de_PM_joins_96 (Nat.le_of_ble_eq_true rfl) rfl ?_
  refine mv_goto (pc := 98) (tgt := 6) de_PM_joins_98 (by decide) ?_
  exact mv_sub [1, 2, 3, 4, 5, 0] rfl (hk6 M v0 v1 v2 v3 v4 (s0 + s1) hJ)
set_option maxHeartbeats 4000000 in
set_option maxRecDepth 100000 in
theorem tb_PM_joins_82 (l : Launch) (D : va_G) (E : Nat → ClassId) (B : Nat) (sa : (Nat → Nat) × Nat × (Nat → Int32)) (M0 M1 : mv_M) (r : Unit) (N : Nat) (k6 : mv_M → Nat → Int32 → Int32 → Int32 → Int32 → Int32 → Option (Unit × mv_M)) (hk6 : ∀ (M : mv_M) (v0 : Nat) (v1 : Int32) (v2 : Int32) (v3 : Int32) (v4 : Int32) (v5 : Int32), k6 M v0 v1 v2 v3 v4 v5 = some (r, M1) → mv_G (xg l D E B sa) kd_PM_joins M0 M1 none M 6 [(0, va_rf (some v0)), (1, .int v1), (2, .int v2), (3, .int v3), (4, .int v4), (5, .int v5)] []) (M : mv_M) (v0 : Nat) (v1 : Int32) (v2 : Int32) (v3 : Int32) (v4 : Int32) (v5 : Int32) (v6 : Int32) (s0 : Option Nat) (s1 : Int32) (s2 : Int32) (hJ : jb_PM_joins_82 N k6 M v0 v1 v2 v3 v4 v5 v6 s0 s1 s2 = some (r, M1)) : mv_G (xg l D E B sa) kd_PM_joins M0 M1 none M 82 [(0, va_rf (some v0)), (1, .int v1), (2, .int v2), (3, .int v3), (4, .int v4), (5, .int v5), (6, .int v6)] [.int s2, .int s1, va_rf s0] := by
  unfold jb_PM_joins_82 at hJ
  obtain ⟨a82, ha, h82a⟩ := mj_bindE hJ
  subst ha
  refine mv_iast (pc := 82) (t := 0) rfl de_PM_joins_82 h82a (fun Mm82 e82 h82 => ?_)
  refine mv_iload (pc := 83) de_PM_joins_83 5 rfl ?_
  refine mv_iload (pc := 85) de_PM_joins_85 6 rfl ?_
  refine mv_if_eq (pc := 87) (tgt := 94) de_PM_joins_87 (by decide) h82 (fun hc87 h87 => ?_) (fun hc87 h87 => ?_)
  · refine mv_iconst (pc := 94) (v := 1) de_PM_joins_94 (by decide) ?_
    exact mv_sub [0, 1, 2, 3, 4] rfl (tb_PM_joins_95 l D E B sa M0 M1 r N k6 hk6 Mm82 v0 v1 v2 v3 v4 v5 1 h87)
  · refine mv_iconst (pc := 90) (v := 2) de_PM_joins_90 (by decide) ?_
    refine mv_goto (pc := 91) (tgt := 95) de_PM_joins_91 (by decide) ?_
    exact mv_sub [0, 1, 2, 3, 4] rfl (tb_PM_joins_95 l D E B sa M0 M1 r N k6 hk6 Mm82 v0 v1 v2 v3 v4 v5 2 h87)
set_option maxHeartbeats 4000000 in
set_option maxRecDepth 100000 in
theorem tb_PM_joins_55 (l : Launch) (D : va_G) (E : Nat → ClassId) (B : Nat) (sa : (Nat → Nat) × Nat × (Nat → Int32)) (M0 M1 : mv_M) (r : Unit) (N : Nat) (k6 : mv_M → Nat → Int32 → Int32 → Int32 → Int32 → Int32 → Option (Unit × mv_M)) (hk6 : ∀ (M : mv_M) (v0 : Nat) (v1 : Int32) (v2 : Int32) (v3 : Int32) (v4 : Int32) (v5 : Int32), k6 M v0 v1 v2 v3 v4 v5 = some (r, M1) → mv_G (xg l D E B sa) kd_PM_joins M0 M1 none M 6 [(0, va_rf (some v0)), (1, .int v1), (2, .int v2), (3, .int v3), (4, .int v4), (5, .int v5)] []) (M : mv_M) (v0 : Nat) (v1 : Int32) (v2 : Int32) (v3 : Int32) (v4 : Int32) (v5 : Int32) (s0 : Int32) (hJ : jb_PM_joins_55 N k6 M v0 v1 v2 v3 v4 v5 s0 = some (r, M1)) : mv_G (xg l D E B sa) kd_PM_joins M0 M1 none M 55 [(0, va_rf (some v0)), (1, .int v1), (2, .int v2), (3, .int v3), (4, .int v4), (5, .int v5)] [.int s0] := by
  unfold jb_PM_joins_55 at hJ
  refine mv_istore (pc := 55) (lv' := [(6, .int s0), (0, va_rf (some v0)), (1, .int v1), (2, .int v2), (3, .int v3), (4, .int v4), (5, .int v5)]) de_PM_joins_55 (Nat.le_of_ble_eq_true rfl) rfl ?_
  refine mv_aload_n (pc := 57) (i := 0) de_PM_joins_57 rfl 1 rfl ?_
  refine mv_getR (pc := 58) (f := 32) (kc_1 l D E B sa) (Nat.le_of_ble_eq_true rfl) wt_4_112 de_PM_joins_58 hJ (fun x58 e58 h58 => ?_)
  refine mv_iload (pc := 61) de_PM_joins_61 5 rfl ?_
  refine mv_iinc (pc := 63) (v := (v4 + 1)) (lv' := [(4, .int (v4 + 1)), (6, .int s0), (0, va_rf (some v0)), (1, .int v1), (2, .int v2), (3, .int v3), (5, .int v5)]) de_PM_joins_63 5 rfl rfl (Nat.le_of_ble_eq_true rfl) rfl ?_
  refine mv_iload (pc := 66) de_PM_joins_66 1 rfl ?_
  refine mv_if_eq (pc := 68) (tgt := 75) de_PM_joins_68 (by decide) h58 (fun hc68 h68 => ?_) (fun hc68 h68 => ?_)
  · refine mv_aload_n (pc := 75) (i := 0) de_PM_joins_75 rfl 2 rfl ?_
    refine mv_getR (pc := 76) (f := 32) (kc_1 l D E B sa) (Nat.le_of_ble_eq_true rfl) wt_4_112 de_PM_joins_76 h68 (fun x76 e76 h76 => ?_)
    refine mv_iload (pc := 79) de_PM_joins_79 6 rfl ?_
    obtain ⟨a81, ha, h81a⟩ := mj_bindE h76
    subst ha
    refine mv_iald (pc := 81) (t := 0) rfl de_PM_joins_81 h81a (fun x81 e81 h81 => ?_)
    exact mv_sub [2, 3, 4, 5, 0, 6, 1] rfl (tb_PM_joins_82 l D E B sa M0 M1 r N k6 hk6 M v0 v1 v2 v3 (v4 + 1) v5 s0 x58 v4 x81 h81)
  · refine mv_iload_n (pc := 71) (i := 3) de_PM_joins_71 rfl 5 rfl ?_
    refine mv_goto (pc := 72) (tgt := 82) de_PM_joins_72 (by decide) ?_
    exact mv_sub [2, 3, 4, 5, 0, 6, 1] rfl (tb_PM_joins_82 l D E B sa M0 M1 r N k6 hk6 M v0 v1 v2 v3 (v4 + 1) v5 s0 x58 v4 v3 h68)
set_option maxHeartbeats 4000000 in
set_option maxRecDepth 100000 in
theorem tb_PM_joins_54 (l : Launch) (D : va_G) (E : Nat → ClassId) (B : Nat) (sa : (Nat → Nat) × Nat × (Nat → Int32)) (M0 M1 : mv_M) (r : Unit) (N : Nat) (k6 : mv_M → Nat → Int32 → Int32 → Int32 → Int32 → Int32 → Option (Unit × mv_M)) (hk6 : ∀ (M : mv_M) (v0 : Nat) (v1 : Int32) (v2 : Int32) (v3 : Int32) (v4 : Int32) (v5 : Int32), k6 M v0 v1 v2 v3 v4 v5 = some (r, M1) → mv_G (xg l D E B sa) kd_PM_joins M0 M1 none M 6 [(0, va_rf (some v0)), (1, .int v1), (2, .int v2), (3, .int v3), (4, .int v4), (5, .int v5)] []) (M : mv_M) (v0 : Nat) (v1 : Int32) (v2 : Int32) (v3 : Int32) (v4 : Int32) (v5 : Int32) (hJ : jb_PM_joins_54 N k6 M v0 v1 v2 v3 v4 v5 = some (r, M1)) : mv_G (xg l D E B sa) kd_PM_joins M0 M1 none M 54 [(0, va_rf (some v0)), (1, .int v1), (2, .int v2), (3, .int v3), (4, .int v4), (5, .int v5)] [] := by
  unfold jb_PM_joins_54 at hJ
  refine mv_iconst (pc := 54) (v := 0) de_PM_joins_54 (by decide) ?_
  exact mv_sub [0, 1, 2, 3, 4, 5] rfl (tb_PM_joins_55 l D E B sa M0 M1 r N k6 hk6 M v0 v1 v2 v3 v4 v5 0 hJ)
set_option maxHeartbeats 4000000 in
set_option maxRecDepth 100000 in
theorem tb_PM_joins_6 (l : Launch) (D : va_G) (E : Nat → ClassId) (B : Nat) (sa : (Nat → Nat) × Nat × (Nat → Int32)) (M0 M1 : mv_M) (r : Unit) (N : Nat) : ∀ (n : Nat) (M : mv_M) (v0 : Nat) (v1 : Int32) (v2 : Int32) (v3 : Int32) (v4 : Int32) (v5 : Int32) (hJ : jb_PM_joins_6 N n M v0 v1 v2 v3 v4 v5 = some (r, M1)), mv_G (xg l D E B sa) kd_PM_joins M0 M1 none M 6 [(0, va_rf (some v0)), (1, .int v1), (2, .int v2), (3, .int v3), (4, .int v4), (5, .int v5)] [] := by
  intro n
  induction n with
  | zero => intro M v0 v1 v2 v3 v4 v5 hJ; cases hJ
  | succ n ih =>
    intro M v0 v1 v2 v3 v4 v5 hJ
    rw [jb_PM_joins_6] at hJ
    refine mv_iload (pc := 6) de_PM_joins_6 5 rfl ?_
    refine mv_aload_n (pc := 8) (i := 0) de_PM_joins_8 rfl 0 rfl ?_
    refine mv_getI (pc := 9) (f := 31) (kc_1 l D E B sa) (Nat.le_of_ble_eq_true rfl) wt_4_111 de_PM_joins_9 hJ (fun x9 e9 h9 => ?_)
    refine mv_icmp_ge (pc := 12) (tgt := 101) de_PM_joins_12 (by decide) h9 (fun hc12 h12 => ?_) (fun hc12 h12 => ?_)
    · refine mv_aload_n (pc := 101) (i := 0) de_PM_joins_101 rfl 0 rfl ?_
      refine mv_iload (pc := 102) de_PM_joins_102 4 rfl ?_
      refine mv_put (pc := 104) (f := 31) (kc_1 l D E B sa) (Nat.le_of_ble_eq_true rfl) wt_4_111 rfl rfl rfl de_PM_joins_104 h12 (fun Mm104 e104 h104 => ?_)
      exact mv_vret (pc := 107) rfl de_PM_joins_107 h104
    · refine mv_iload (pc := 15) de_PM_joins_15 5 rfl ?_
      refine mv_iconst (pc := 17) (v := 1) de_PM_joins_17 (by decide) ?_
      refine mv_iadd (pc := 18) de_PM_joins_18 ?_
      refine mv_aload_n (pc := 19) (i := 0) de_PM_joins_19 rfl 0 rfl ?_
      refine mv_getI (pc := 20) (f := 31) (kc_1 l D E B sa) (Nat.le_of_ble_eq_true rfl) wt_4_111 de_PM_joins_20 h12 (fun x20 e20 h20 => ?_)
      refine mv_icmp_ge (pc := 23) (tgt := 54) de_PM_joins_23 (by decide) h20 (fun hc23 h23 => ?_) (fun hc23 h23 => ?_)
      · exact mv_sub [0, 1, 2, 3, 4, 5] rfl (tb_PM_joins_54 l D E B sa M0 M1 r N (jb_PM_joins_6 N n) ih M v0 v1 v2 v3 v4 v5 h23)
      · refine mv_aload_n (pc := 26) (i := 0) de_PM_joins_26 rfl 0 rfl ?_
        refine mv_getR (pc := 27) (f := 32) (kc_1 l D E B sa) (Nat.le_of_ble_eq_true rfl) wt_4_112 de_PM_joins_27 h23 (fun x27 e27 h27 => ?_)
        refine mv_iload (pc := 30) de_PM_joins_30 5 rfl ?_
        obtain ⟨a32, ha, h32a⟩ := mj_bindE h27
        subst ha
        refine mv_iald (pc := 32) (t := 0) rfl de_PM_joins_32 h32a (fun x32 e32 h32 => ?_)
        refine mv_iload_n (pc := 33) (i := 1) de_PM_joins_33 rfl 1 rfl ?_
        refine mv_icmp_ne (pc := 34) (tgt := 54) de_PM_joins_34 (by decide) h32 (fun hc34 h34 => ?_) (fun hc34 h34 => ?_)
        · refine mv_aload_n (pc := 37) (i := 0) de_PM_joins_37 rfl 0 rfl ?_
          refine mv_getR (pc := 38) (f := 32) (kc_1 l D E B sa) (Nat.le_of_ble_eq_true rfl) wt_4_112 de_PM_joins_38 h34 (fun x38 e38 h38 => ?_)
          refine mv_iload (pc := 41) de_PM_joins_41 5 rfl ?_
          refine mv_iconst (pc := 43) (v := 1) de_PM_joins_43 (by decide) ?_
          refine mv_iadd (pc := 44) de_PM_joins_44 ?_
          obtain ⟨a45, ha, h45a⟩ := mj_bindE h38
          subst ha
          refine mv_iald (pc := 45) (t := 0) rfl de_PM_joins_45 h45a (fun x45 e45 h45 => ?_)
          refine mv_iload_n (pc := 46) (i := 2) de_PM_joins_46 rfl 2 rfl ?_
          refine mv_icmp_ne (pc := 47) (tgt := 54) de_PM_joins_47 (by decide) h45 (fun hc47 h47 => ?_) (fun hc47 h47 => ?_)
          · refine mv_iconst (pc := 50) (v := 1) de_PM_joins_50 (by decide) ?_
            refine mv_goto (pc := 51) (tgt := 55) de_PM_joins_51 (by decide) ?_
            exact mv_sub [0, 1, 2, 3, 4, 5] rfl (tb_PM_joins_55 l D E B sa M0 M1 r N (jb_PM_joins_6 N n) ih M v0 v1 v2 v3 v4 v5 1 h47)
          · exact mv_sub [0, 1, 2, 3, 4, 5] rfl (tb_PM_joins_54 l D E B sa M0 M1 r N (jb_PM_joins_6 N n) ih M v0 v1 v2 v3 v4 v5 h47)
        · exact mv_sub [0, 1, 2, 3, 4, 5] rfl (tb_PM_joins_54 l D E B sa M0 M1 r N (jb_PM_joins_6 N n) ih M v0 v1 v2 v3 v4 v5 h34)
set_option maxHeartbeats 4000000 in
set_option maxRecDepth 100000 in
theorem tb_PM_joins_0 (l : Launch) (D : va_G) (E : Nat → ClassId) (B : Nat) (sa : (Nat → Nat) × Nat × (Nat → Int32)) (M0 M1 : mv_M) (r : Unit) (N : Nat) (M : mv_M) (v0 : Nat) (v1 : Int32) (v2 : Int32) (v3 : Int32) (hJ : jb_PM_joins_0 N M v0 v1 v2 v3 = some (r, M1)) : mv_G (xg l D E B sa) kd_PM_joins M0 M1 none M 0 [(0, va_rf (some v0)), (1, .int v1), (2, .int v2), (3, .int v3)] [] := by
  unfold jb_PM_joins_0 at hJ
  refine mv_iconst (pc := 0) (v := 0) de_PM_joins_0 (by decide) ?_
  refine mv_istore (pc := 1) (lv' := [(4, .int 0), (0, va_rf (some v0)), (1, .int v1), (2, .int v2), (3, .int v3)]) de_PM_joins_1 (Nat.le_of_ble_eq_true rfl) rfl ?_
  refine mv_iconst (pc := 3) (v := 0) de_PM_joins_3 (by decide) ?_
  refine mv_istore (pc := 4) (lv' := [(5, .int 0), (4, .int 0), (0, va_rf (some v0)), (1, .int v1), (2, .int v2), (3, .int v3)]) de_PM_joins_4 (Nat.le_of_ble_eq_true rfl) rfl ?_
  exact mv_sub [2, 3, 4, 5, 1, 0] rfl (tb_PM_joins_6 l D E B sa M0 M1 r N N M v0 v1 v2 v3 0 0 hJ)
theorem cm_PM_joins (l : Launch) (D : va_G) (E : Nat → ClassId) (B : Nat) (sa : (Nat → Nat) × Nat × (Nat → Int32)) (N : Nat) (M : mv_M) (v0 : Nat) (v1 : Int32) (v2 : Int32) (v3 : Int32) (r : Unit) (M1 : mv_M) (hJ : jf_PM_joins N M v0 v1 v2 v3 = some (r, M1)) : mv_Met (xg l D E B sa) yn_PM_joins cd_PM_joins 7 none 0 0 [va_rf (some v0), .int v1, .int v2, .int v3] M none M1 :=
  mv_enter (by decide) (Nat.le_of_ble_eq_true rfl) (mv_sub (lv := [(0, va_rf (some v0)), (1, .int v1), (2, .int v2), (3, .int v3)]) [0, 1, 2, 3] rfl (tb_PM_joins_0 l D E B sa M M1 r N M v0 v1 v2 v3 hJ))
