/-! ===== PlainLearnerModel.giveTwo(II)V ===== -/
abbrev kd_PM_giveTwo : mv_Kd := (cd_PM_giveTwo, 6, "PlainLearnerModel", "giveTwo", none, 3, 79)
theorem de_PM_giveTwo_0 : decode cd_PM_giveTwo 0 = .ok (.bipush 64, 2) := by decide +kernel
theorem de_PM_giveTwo_2 : decode cd_PM_giveTwo 2 = .ok (.aload_n 0, 1) := by decide +kernel
theorem de_PM_giveTwo_3 : decode cd_PM_giveTwo 3 = .ok (.getfield 13, 3) := by decide +kernel
theorem de_PM_giveTwo_6 : decode cd_PM_giveTwo 6 = .ok (.iload_n 1, 1) := by decide +kernel
theorem de_PM_giveTwo_7 : decode cd_PM_giveTwo 7 = .ok (.iaload, 1) := by decide +kernel
theorem de_PM_giveTwo_8 : decode cd_PM_giveTwo 8 = .ok (.imul, 1) := by decide +kernel
theorem de_PM_giveTwo_9 : decode cd_PM_giveTwo 9 = .ok (.aload_n 0, 1) := by decide +kernel
theorem de_PM_giveTwo_10 : decode cd_PM_giveTwo 10 = .ok (.iload_n 1, 1) := by decide +kernel
theorem de_PM_giveTwo_11 : decode cd_PM_giveTwo 11 = .ok (.iload_n 2, 1) := by decide +kernel
theorem de_PM_giveTwo_12 : decode cd_PM_giveTwo 12 = .ok (.aload_n 0, 1) := by decide +kernel
theorem de_PM_giveTwo_13 : decode cd_PM_giveTwo 13 = .ok (.getfield 13, 3) := by decide +kernel
theorem de_PM_giveTwo_16 : decode cd_PM_giveTwo 16 = .ok (.iload_n 1, 1) := by decide +kernel
theorem de_PM_giveTwo_17 : decode cd_PM_giveTwo 17 = .ok (.iaload, 1) := by decide +kernel
theorem de_PM_giveTwo_18 : decode cd_PM_giveTwo 18 = .ok (.invokevirtual 151, 3) := by decide +kernel
theorem de_PM_giveTwo_21 : decode cd_PM_giveTwo 21 = .ok (.iadd, 1) := by decide +kernel
theorem de_PM_giveTwo_22 : decode cd_PM_giveTwo 22 = .ok (.istore_n 3, 1) := by decide +kernel
theorem de_PM_giveTwo_23 : decode cd_PM_giveTwo 23 = .ok (.bipush 64, 2) := by decide +kernel
theorem de_PM_giveTwo_25 : decode cd_PM_giveTwo 25 = .ok (.aload_n 0, 1) := by decide +kernel
theorem de_PM_giveTwo_26 : decode cd_PM_giveTwo 26 = .ok (.getfield 16, 3) := by decide +kernel
theorem de_PM_giveTwo_29 : decode cd_PM_giveTwo 29 = .ok (.iload_n 1, 1) := by decide +kernel
theorem de_PM_giveTwo_30 : decode cd_PM_giveTwo 30 = .ok (.iaload, 1) := by decide +kernel
theorem de_PM_giveTwo_31 : decode cd_PM_giveTwo 31 = .ok (.imul, 1) := by decide +kernel
theorem de_PM_giveTwo_32 : decode cd_PM_giveTwo 32 = .ok (.aload_n 0, 1) := by decide +kernel
theorem de_PM_giveTwo_33 : decode cd_PM_giveTwo 33 = .ok (.iload_n 1, 1) := by decide +kernel
theorem de_PM_giveTwo_34 : decode cd_PM_giveTwo 34 = .ok (.iload_n 2, 1) := by decide +kernel
theorem de_PM_giveTwo_35 : decode cd_PM_giveTwo 35 = .ok (.aload_n 0, 1) := by decide +kernel
theorem de_PM_giveTwo_36 : decode cd_PM_giveTwo 36 = .ok (.getfield 16, 3) := by decide +kernel
theorem de_PM_giveTwo_39 : decode cd_PM_giveTwo 39 = .ok (.iload_n 1, 1) := by decide +kernel
theorem de_PM_giveTwo_40 : decode cd_PM_giveTwo 40 = .ok (.iaload, 1) := by decide +kernel
theorem de_PM_giveTwo_41 : decode cd_PM_giveTwo 41 = .ok (.invokevirtual 151, 3) := by decide +kernel
theorem de_PM_giveTwo_44 : decode cd_PM_giveTwo 44 = .ok (.iadd, 1) := by decide +kernel
theorem de_PM_giveTwo_45 : decode cd_PM_giveTwo 45 = .ok (.istore 4, 2) := by decide +kernel
theorem de_PM_giveTwo_47 : decode cd_PM_giveTwo 47 = .ok (.aload_n 0, 1) := by decide +kernel
theorem de_PM_giveTwo_48 : decode cd_PM_giveTwo 48 = .ok (.getfield 7, 3) := by decide +kernel
theorem de_PM_giveTwo_51 : decode cd_PM_giveTwo 51 = .ok (.iload_n 1, 1) := by decide +kernel
theorem de_PM_giveTwo_52 : decode cd_PM_giveTwo 52 = .ok (.iaload, 1) := by decide +kernel
theorem de_PM_giveTwo_53 : decode cd_PM_giveTwo 53 = .ok (.istore 5, 2) := by decide +kernel
theorem de_PM_giveTwo_55 : decode cd_PM_giveTwo 55 = .ok (.iload 5, 2) := by decide +kernel
theorem de_PM_giveTwo_57 : decode cd_PM_giveTwo 57 = .ok (.iconst 2, 1) := by decide +kernel
theorem de_PM_giveTwo_58 : decode cd_PM_giveTwo 58 = .ok (.if_icmp .ge 12, 3) := by decide +kernel
theorem de_PM_giveTwo_61 : decode cd_PM_giveTwo 61 = .ok (.aload_n 0, 1) := by decide +kernel
theorem de_PM_giveTwo_62 : decode cd_PM_giveTwo 62 = .ok (.lconst 1, 1) := by decide +kernel
theorem de_PM_giveTwo_63 : decode cd_PM_giveTwo 63 = .ok (.lconst 1, 1) := by decide +kernel
theorem de_PM_giveTwo_64 : decode cd_PM_giveTwo 64 = .ok (.invokevirtual 91, 3) := by decide +kernel
theorem de_PM_giveTwo_67 : decode cd_PM_giveTwo 67 = .ok (.goto 38, 3) := by decide +kernel
theorem de_PM_giveTwo_70 : decode cd_PM_giveTwo 70 = .ok (.iload 5, 2) := by decide +kernel
theorem de_PM_giveTwo_72 : decode cd_PM_giveTwo 72 = .ok (.iconst 2, 1) := by decide +kernel
theorem de_PM_giveTwo_73 : decode cd_PM_giveTwo 73 = .ok (.if_icmp .ne 12, 3) := by decide +kernel
theorem de_PM_giveTwo_76 : decode cd_PM_giveTwo 76 = .ok (.aload_n 0, 1) := by decide +kernel
theorem de_PM_giveTwo_77 : decode cd_PM_giveTwo 77 = .ok (.iload 4, 2) := by decide +kernel
theorem de_PM_giveTwo_79 : decode cd_PM_giveTwo 79 = .ok (.invokevirtual 165, 3) := by decide +kernel
theorem de_PM_giveTwo_82 : decode cd_PM_giveTwo 82 = .ok (.goto 23, 3) := by decide +kernel
theorem de_PM_giveTwo_85 : decode cd_PM_giveTwo 85 = .ok (.aload_n 0, 1) := by decide +kernel
theorem de_PM_giveTwo_86 : decode cd_PM_giveTwo 86 = .ok (.lconst 1, 1) := by decide +kernel
theorem de_PM_giveTwo_87 : decode cd_PM_giveTwo 87 = .ok (.lconst 1, 1) := by decide +kernel
theorem de_PM_giveTwo_88 : decode cd_PM_giveTwo 88 = .ok (.aload_n 0, 1) := by decide +kernel
theorem de_PM_giveTwo_89 : decode cd_PM_giveTwo 89 = .ok (.getfield 29, 3) := by decide +kernel
theorem de_PM_giveTwo_92 : decode cd_PM_giveTwo 92 = .ok (.iload 4, 2) := by decide +kernel
theorem de_PM_giveTwo_94 : decode cd_PM_giveTwo 94 = .ok (.laload, 1) := by decide +kernel
theorem de_PM_giveTwo_95 : decode cd_PM_giveTwo 95 = .ok (.aload_n 0, 1) := by decide +kernel
theorem de_PM_giveTwo_96 : decode cd_PM_giveTwo 96 = .ok (.getfield 33, 3) := by decide +kernel
theorem de_PM_giveTwo_99 : decode cd_PM_giveTwo 99 = .ok (.iload 4, 2) := by decide +kernel
theorem de_PM_giveTwo_101 : decode cd_PM_giveTwo 101 = .ok (.laload, 1) := by decide +kernel
theorem de_PM_giveTwo_102 : decode cd_PM_giveTwo 102 = .ok (.invokevirtual 148, 3) := by decide +kernel
theorem de_PM_giveTwo_105 : decode cd_PM_giveTwo 105 = .ok (.aload_n 0, 1) := by decide +kernel
theorem de_PM_giveTwo_106 : decode cd_PM_giveTwo 106 = .ok (.iload_n 3, 1) := by decide +kernel
theorem de_PM_giveTwo_107 : decode cd_PM_giveTwo 107 = .ok (.invokevirtual 207, 3) := by decide +kernel
theorem de_PM_giveTwo_110 : decode cd_PM_giveTwo 110 = .ok (.iload 5, 2) := by decide +kernel
theorem de_PM_giveTwo_112 : decode cd_PM_giveTwo 112 = .ok (.iconst 2, 1) := by decide +kernel
theorem de_PM_giveTwo_113 : decode cd_PM_giveTwo 113 = .ok (.if_icmp .ge 23, 3) := by decide +kernel
theorem de_PM_giveTwo_116 : decode cd_PM_giveTwo 116 = .ok (.aload_n 0, 1) := by decide +kernel
theorem de_PM_giveTwo_117 : decode cd_PM_giveTwo 117 = .ok (.iload 5, 2) := by decide +kernel
theorem de_PM_giveTwo_119 : decode cd_PM_giveTwo 119 = .ok (.ifCond .ne 7, 3) := by decide +kernel
theorem de_PM_giveTwo_122 : decode cd_PM_giveTwo 122 = .ok (.lconst 1, 1) := by decide +kernel
theorem de_PM_giveTwo_123 : decode cd_PM_giveTwo 123 = .ok (.goto 6, 3) := by decide +kernel
theorem de_PM_giveTwo_126 : decode cd_PM_giveTwo 126 = .ok (.ldc2_w 210, 3) := by decide +kernel
theorem de_PM_giveTwo_129 : decode cd_PM_giveTwo 129 = .ok (.lconst 1, 1) := by decide +kernel
theorem de_PM_giveTwo_130 : decode cd_PM_giveTwo 130 = .ok (.invokevirtual 91, 3) := by decide +kernel
theorem de_PM_giveTwo_133 : decode cd_PM_giveTwo 133 = .ok (.goto 74, 3) := by decide +kernel
theorem de_PM_giveTwo_136 : decode cd_PM_giveTwo 136 = .ok (.iload 5, 2) := by decide +kernel
theorem de_PM_giveTwo_138 : decode cd_PM_giveTwo 138 = .ok (.iconst 2, 1) := by decide +kernel
theorem de_PM_giveTwo_139 : decode cd_PM_giveTwo 139 = .ok (.if_icmp .ne 11, 3) := by decide +kernel
theorem de_PM_giveTwo_142 : decode cd_PM_giveTwo 142 = .ok (.aload_n 0, 1) := by decide +kernel
theorem de_PM_giveTwo_143 : decode cd_PM_giveTwo 143 = .ok (.iload_n 3, 1) := by decide +kernel
theorem de_PM_giveTwo_144 : decode cd_PM_giveTwo 144 = .ok (.invokevirtual 165, 3) := by decide +kernel
theorem de_PM_giveTwo_147 : decode cd_PM_giveTwo 147 = .ok (.goto 60, 3) := by decide +kernel
theorem de_PM_giveTwo_150 : decode cd_PM_giveTwo 150 = .ok (.aload_n 0, 1) := by decide +kernel
theorem de_PM_giveTwo_151 : decode cd_PM_giveTwo 151 = .ok (.aload_n 0, 1) := by decide +kernel
theorem de_PM_giveTwo_152 : decode cd_PM_giveTwo 152 = .ok (.getfield 29, 3) := by decide +kernel
theorem de_PM_giveTwo_155 : decode cd_PM_giveTwo 155 = .ok (.iload_n 3, 1) := by decide +kernel
theorem de_PM_giveTwo_156 : decode cd_PM_giveTwo 156 = .ok (.laload, 1) := by decide +kernel
theorem de_PM_giveTwo_157 : decode cd_PM_giveTwo 157 = .ok (.aload_n 0, 1) := by decide +kernel
theorem de_PM_giveTwo_158 : decode cd_PM_giveTwo 158 = .ok (.getfield 33, 3) := by decide +kernel
theorem de_PM_giveTwo_161 : decode cd_PM_giveTwo 161 = .ok (.iload_n 3, 1) := by decide +kernel
theorem de_PM_giveTwo_162 : decode cd_PM_giveTwo 162 = .ok (.laload, 1) := by decide +kernel
theorem de_PM_giveTwo_163 : decode cd_PM_giveTwo 163 = .ok (.aload_n 0, 1) := by decide +kernel
theorem de_PM_giveTwo_164 : decode cd_PM_giveTwo 164 = .ok (.getfield 29, 3) := by decide +kernel
theorem de_PM_giveTwo_167 : decode cd_PM_giveTwo 167 = .ok (.iload 4, 2) := by decide +kernel
theorem de_PM_giveTwo_169 : decode cd_PM_giveTwo 169 = .ok (.laload, 1) := by decide +kernel
theorem de_PM_giveTwo_170 : decode cd_PM_giveTwo 170 = .ok (.aload_n 0, 1) := by decide +kernel
theorem de_PM_giveTwo_171 : decode cd_PM_giveTwo 171 = .ok (.getfield 33, 3) := by decide +kernel
theorem de_PM_giveTwo_174 : decode cd_PM_giveTwo 174 = .ok (.iload 4, 2) := by decide +kernel
theorem de_PM_giveTwo_176 : decode cd_PM_giveTwo 176 = .ok (.laload, 1) := by decide +kernel
theorem de_PM_giveTwo_177 : decode cd_PM_giveTwo 177 = .ok (.invokevirtual 148, 3) := by decide +kernel
theorem de_PM_giveTwo_180 : decode cd_PM_giveTwo 180 = .ok (.aload_n 0, 1) := by decide +kernel
theorem de_PM_giveTwo_181 : decode cd_PM_giveTwo 181 = .ok (.aload_n 0, 1) := by decide +kernel
theorem de_PM_giveTwo_182 : decode cd_PM_giveTwo 182 = .ok (.getfield 81, 3) := by decide +kernel
theorem de_PM_giveTwo_185 : decode cd_PM_giveTwo 185 = .ok (.lneg, 1) := by decide +kernel
theorem de_PM_giveTwo_186 : decode cd_PM_giveTwo 186 = .ok (.aload_n 0, 1) := by decide +kernel
theorem de_PM_giveTwo_187 : decode cd_PM_giveTwo 187 = .ok (.getfield 84, 3) := by decide +kernel
theorem de_PM_giveTwo_190 : decode cd_PM_giveTwo 190 = .ok (.aload_n 0, 1) := by decide +kernel
theorem de_PM_giveTwo_191 : decode cd_PM_giveTwo 191 = .ok (.getfield 29, 3) := by decide +kernel
theorem de_PM_giveTwo_194 : decode cd_PM_giveTwo 194 = .ok (.iload 4, 2) := by decide +kernel
theorem de_PM_giveTwo_196 : decode cd_PM_giveTwo 196 = .ok (.laload, 1) := by decide +kernel
theorem de_PM_giveTwo_197 : decode cd_PM_giveTwo 197 = .ok (.aload_n 0, 1) := by decide +kernel
theorem de_PM_giveTwo_198 : decode cd_PM_giveTwo 198 = .ok (.getfield 33, 3) := by decide +kernel
theorem de_PM_giveTwo_201 : decode cd_PM_giveTwo 201 = .ok (.iload 4, 2) := by decide +kernel
theorem de_PM_giveTwo_203 : decode cd_PM_giveTwo 203 = .ok (.laload, 1) := by decide +kernel
theorem de_PM_giveTwo_204 : decode cd_PM_giveTwo 204 = .ok (.invokevirtual 148, 3) := by decide +kernel
theorem de_PM_giveTwo_207 : decode cd_PM_giveTwo 207 = .ok (.aload_n 0, 1) := by decide +kernel
theorem de_PM_giveTwo_208 : decode cd_PM_giveTwo 208 = .ok (.iload 4, 2) := by decide +kernel
theorem de_PM_giveTwo_210 : decode cd_PM_giveTwo 210 = .ok (.invokevirtual 207, 3) := by decide +kernel
theorem de_PM_giveTwo_213 : decode cd_PM_giveTwo 213 = .ok (.return_, 1) := by decide +kernel
def jb_PM_giveTwo_207 (N : Nat) (M : mv_M) (v0 : Nat) (v4 : Int32) : Option (Unit × mv_M) :=
  mj_ob M v0 1 <|
  mj_call (jf_PM_gives N M v0 v4) fun r210 Mm210 =>
  some ((), Mm210)
def jb_PM_giveTwo_129 (N : Nat) (M : mv_M) (v0 : Nat) (v4 : Int32) (s0 : Nat) (s1 : Int64) : Option (Unit × mv_M) :=
  mj_ob M s0 1 <|
  mj_call (jf_PM_least N M s0 s1 1) fun r130 Mm130 =>
  jb_PM_giveTwo_207 N Mm130 v0 v4
def jb_PM_giveTwo_105 (N : Nat) (M : mv_M) (v0 : Nat) (v3 : Int32) (v4 : Int32) (v5 : Int32) : Option (Unit × mv_M) :=
  mj_ob M v0 1 <|
  mj_call (jf_PM_gives N M v0 v3) fun r107 Mm107 =>
  if 2 ≤ v5 then (if v5 = 2 then (mj_ob Mm107 v0 1 <|
  mj_call (jf_PM_load N Mm107 v0 v3) fun r144 Mm144 =>
  jb_PM_giveTwo_207 N Mm144 v0 v4) else
  Option.bind (mj_getR Mm107 v0 1 9) fun x152 =>
  Option.bind x152 fun a156 =>
  Option.bind (mj_lld Mm107 a156 1 v3) fun x156 =>
  Option.bind (mj_getR Mm107 v0 1 10) fun x158 =>
  Option.bind x158 fun a162 =>
  Option.bind (mj_lld Mm107 a162 1 v3) fun x162 =>
  Option.bind (mj_getR Mm107 v0 1 9) fun x164 =>
  Option.bind x164 fun a169 =>
  Option.bind (mj_lld Mm107 a169 1 v4) fun x169 =>
  Option.bind (mj_getR Mm107 v0 1 10) fun x171 =>
  Option.bind x171 fun a176 =>
  Option.bind (mj_lld Mm107 a176 1 v4) fun x176 =>
  mj_ob Mm107 v0 1 <|
  mj_call (jf_PM_over N Mm107 v0 x156 x162 x169 x176) fun r177 Mm177 =>
  Option.bind (mj_getL Mm177 v0 1 0) fun x182 =>
  Option.bind (mj_getL Mm177 v0 1 1) fun x187 =>
  Option.bind (mj_getR Mm177 v0 1 9) fun x191 =>
  Option.bind x191 fun a196 =>
  Option.bind (mj_lld Mm177 a196 1 v4) fun x196 =>
  Option.bind (mj_getR Mm177 v0 1 10) fun x198 =>
  Option.bind x198 fun a203 =>
  Option.bind (mj_lld Mm177 a203 1 v4) fun x203 =>
  mj_ob Mm177 v0 1 <|
  mj_call (jf_PM_over N Mm177 v0 (-x182) x187 x196 x203) fun r204 Mm204 =>
  jb_PM_giveTwo_207 N Mm204 v0 v4) else
  if v5 = 0 then (jb_PM_giveTwo_129 N Mm107 v0 v4 v0 1) else
  jb_PM_giveTwo_129 N Mm107 v0 v4 v0 (-1)
def jb_PM_giveTwo_0 (N : Nat) (M : mv_M) (v0 : Nat) (v1 : Int32) (v2 : Int32) : Option (Unit × mv_M) :=
  Option.bind (mj_getR M v0 1 4) fun x3 =>
  Option.bind x3 fun a7 =>
  Option.bind (mj_ild M a7 0 v1) fun x7 =>
  Option.bind (mj_getR M v0 1 4) fun x13 =>
  Option.bind x13 fun a17 =>
  Option.bind (mj_ild M a17 0 v1) fun x17 =>
  mj_ob M v0 1 <|
  mj_call (jf_PM_spreadCell N M v0 v1 v2 x17) fun r18 Mm18 =>
  Option.bind (mj_getR Mm18 v0 1 5) fun x26 =>
  Option.bind x26 fun a30 =>
  Option.bind (mj_ild Mm18 a30 0 v1) fun x30 =>
  Option.bind (mj_getR Mm18 v0 1 5) fun x36 =>
  Option.bind x36 fun a40 =>
  Option.bind (mj_ild Mm18 a40 0 v1) fun x40 =>
  mj_ob Mm18 v0 1 <|
  mj_call (jf_PM_spreadCell N Mm18 v0 v1 v2 x40) fun r41 Mm41 =>
  Option.bind (mj_getR Mm41 v0 1 3) fun x48 =>
  Option.bind x48 fun a52 =>
  Option.bind (mj_ild Mm41 a52 0 v1) fun x52 =>
  if 2 ≤ x52 then (if x52 = 2 then (mj_ob Mm41 v0 1 <|
  mj_call (jf_PM_load N Mm41 v0 ((64 * x30) + r41)) fun r79 Mm79 =>
  jb_PM_giveTwo_105 N Mm79 v0 ((64 * x7) + r18) ((64 * x30) + r41) x52) else
  Option.bind (mj_getR Mm41 v0 1 9) fun x89 =>
  Option.bind x89 fun a94 =>
  Option.bind (mj_lld Mm41 a94 1 ((64 * x30) + r41)) fun x94 =>
  Option.bind (mj_getR Mm41 v0 1 10) fun x96 =>
  Option.bind x96 fun a101 =>
  Option.bind (mj_lld Mm41 a101 1 ((64 * x30) + r41)) fun x101 =>
  mj_ob Mm41 v0 1 <|
  mj_call (jf_PM_over N Mm41 v0 1 1 x94 x101) fun r102 Mm102 =>
  jb_PM_giveTwo_105 N Mm102 v0 ((64 * x7) + r18) ((64 * x30) + r41) x52) else
  mj_ob Mm41 v0 1 <|
  mj_call (jf_PM_least N Mm41 v0 1 1) fun r64 Mm64 =>
  jb_PM_giveTwo_105 N Mm64 v0 ((64 * x7) + r18) ((64 * x30) + r41) x52
def jf_PM_giveTwo (N : Nat) (M : mv_M) (v0 : Nat) (v1 : Int32) (v2 : Int32) : Option (Unit × mv_M) := jb_PM_giveTwo_0 N M v0 v1 v2
set_option maxHeartbeats 4000000 in
set_option maxRecDepth 100000 in
theorem tb_PM_giveTwo_207 (l : Launch) (D : va_G) (E : Nat → ClassId) (B : Nat) (sa : (Nat → Nat) × Nat × (Nat → Int32)) (M0 M1 : mv_M) (r : Unit) (N : Nat) (M : mv_M) (v0 : Nat) (v4 : Int32) (hJ : jb_PM_giveTwo_207 N M v0 v4 = some (r, M1)) : mv_G (xg l D E B sa) kd_PM_giveTwo M0 M1 none M 207 [(0, va_rf (some v0)), (4, .int v4)] [] := by
  unfold jb_PM_giveTwo_207 at hJ
  refine mv_aload_n (pc := 207) (i := 0) de_PM_giveTwo_207 rfl 0 rfl ?_
  refine mv_iload (pc := 208) de_PM_giveTwo_208 1 rfl ?_
  obtain ⟨hi210, h210o⟩ := mj_obE hJ
  obtain ⟨r210, Mm210, hz210, h210⟩ := mj_callE h210o
  refine mv_callV (pc := 210) (n := 1) (av := [.int v4]) (rest := []) de_PM_giveTwo_210 (kc_1 l D E B sa) hi210 (cm_PM_gives l D E B sa N M v0 v4 _ _ hz210) wt_5_85 wt_5_87 wp_50 wt_1_8 wt_5_88 ⟨by decide, by decide, by decide +kernel⟩ rfl ⟨Nat.le_of_ble_eq_true rfl, Nat.le_of_ble_eq_true rfl⟩ (Nat.le_of_ble_eq_true rfl) rfl ?_
  exact mv_vret (pc := 213) rfl de_PM_giveTwo_213 h210
set_option maxHeartbeats 4000000 in
set_option maxRecDepth 100000 in
theorem tb_PM_giveTwo_129 (l : Launch) (D : va_G) (E : Nat → ClassId) (B : Nat) (sa : (Nat → Nat) × Nat × (Nat → Int32)) (M0 M1 : mv_M) (r : Unit) (N : Nat) (M : mv_M) (v0 : Nat) (v4 : Int32) (s0 : Nat) (s1 : Int64) (hJ : jb_PM_giveTwo_129 N M v0 v4 s0 s1 = some (r, M1)) : mv_G (xg l D E B sa) kd_PM_giveTwo M0 M1 none M 129 [(0, va_rf (some v0)), (4, .int v4)] [.long s1, va_rf (some s0)] := by
  unfold jb_PM_giveTwo_129 at hJ
  refine mv_lconst (pc := 129) (v := 1) de_PM_giveTwo_129 (by decide) ?_
  obtain ⟨hi130, h130o⟩ := mj_obE hJ
  obtain ⟨r130, Mm130, hz130, h130⟩ := mj_callE h130o
  refine mv_callV (pc := 130) (n := 2) (av := [.long s1, .long 1]) (rest := []) de_PM_giveTwo_130 (kc_1 l D E B sa) hi130 (cm_PM_least l D E B sa N M s0 s1 1 _ _ hz130) wt_4_217 wt_4_219 wp_29 wt_1_8 wt_4_220 ⟨by decide, by decide, by decide +kernel⟩ rfl ⟨Nat.le_of_ble_eq_true rfl, Nat.le_of_ble_eq_true rfl⟩ (Nat.le_of_ble_eq_true rfl) rfl ?_
  refine mv_goto (pc := 133) (tgt := 207) de_PM_giveTwo_133 (by decide) ?_
  exact mv_sub [0, 1] rfl (tb_PM_giveTwo_207 l D E B sa M0 M1 r N Mm130 v0 v4 h130)
set_option maxHeartbeats 4000000 in
set_option maxRecDepth 100000 in
theorem tb_PM_giveTwo_105 (l : Launch) (D : va_G) (E : Nat → ClassId) (B : Nat) (sa : (Nat → Nat) × Nat × (Nat → Int32)) (M0 M1 : mv_M) (r : Unit) (N : Nat) (M : mv_M) (v0 : Nat) (v3 : Int32) (v4 : Int32) (v5 : Int32) (hJ : jb_PM_giveTwo_105 N M v0 v3 v4 v5 = some (r, M1)) : mv_G (xg l D E B sa) kd_PM_giveTwo M0 M1 none M 105 [(0, va_rf (some v0)), (3, .int v3), (4, .int v4), (5, .int v5)] [] := by
  unfold jb_PM_giveTwo_105 at hJ
  refine mv_aload_n (pc := 105) (i := 0) de_PM_giveTwo_105 rfl 0 rfl ?_
  refine mv_iload_n (pc := 106) (i := 3) de_PM_giveTwo_106 rfl 1 rfl ?_
  obtain ⟨hi107, h107o⟩ := mj_obE hJ
  obtain ⟨r107, Mm107, hz107, h107⟩ := mj_callE h107o
  refine mv_callV (pc := 107) (n := 1) (av := [.int v3]) (rest := []) de_PM_giveTwo_107 (kc_1 l D E B sa) hi107 (cm_PM_gives l D E B sa N M v0 v3 _ _ hz107) wt_5_85 wt_5_87 wp_50 wt_1_8 wt_5_88 ⟨by decide, by decide, by decide +kernel⟩ rfl ⟨Nat.le_of_ble_eq_true rfl, Nat.le_of_ble_eq_true rfl⟩ (Nat.le_of_ble_eq_true rfl) rfl ?_
  refine mv_iload (pc := 110) de_PM_giveTwo_110 3 rfl ?_
  refine mv_iconst (pc := 112) (v := 2) de_PM_giveTwo_112 (by decide) ?_
  refine mv_icmp_ge (pc := 113) (tgt := 136) de_PM_giveTwo_113 (by decide) h107 (fun hc113 h113 => ?_) (fun hc113 h113 => ?_)
  · refine mv_iload (pc := 136) de_PM_giveTwo_136 3 rfl ?_
    refine mv_iconst (pc := 138) (v := 2) de_PM_giveTwo_138 (by decide) ?_
    refine mv_icmp_ne (pc := 139) (tgt := 150) de_PM_giveTwo_139 (by decide) h113 (fun hc139 h139 => ?_) (fun hc139 h139 => ?_)
    · refine mv_aload_n (pc := 142) (i := 0) de_PM_giveTwo_142 rfl 0 rfl ?_
      refine mv_iload_n (pc := 143) (i := 3) de_PM_giveTwo_143 rfl 1 rfl ?_
      obtain ⟨hi144, h144o⟩ := mj_obE h139
      obtain ⟨r144, Mm144, hz144, h144⟩ := mj_callE h144o
      refine mv_callV (pc := 144) (n := 1) (av := [.int v3]) (rest := []) de_PM_giveTwo_144 (kc_1 l D E B sa) hi144 (cm_PM_load l D E B sa N Mm107 v0 v3 _ _ hz144) wt_5_57 wt_5_59 wp_44 wt_1_8 wt_5_60 ⟨by decide, by decide, by decide +kernel⟩ rfl ⟨Nat.le_of_ble_eq_true rfl, Nat.le_of_ble_eq_true rfl⟩ (Nat.le_of_ble_eq_true rfl) rfl ?_
      refine mv_goto (pc := 147) (tgt := 207) de_PM_giveTwo_147 (by decide) ?_
      exact mv_sub [0, 2] rfl (tb_PM_giveTwo_207 l D E B sa M0 M1 r N Mm144 v0 v4 h144)
    · refine mv_aload_n (pc := 150) (i := 0) de_PM_giveTwo_150 rfl 0 rfl ?_
      refine mv_aload_n (pc := 151) (i := 0) de_PM_giveTwo_151 rfl 0 rfl ?_
      refine mv_getR (pc := 152) (f := 9) (kc_1 l D E B sa) (Nat.le_of_ble_eq_true rfl) wt_4_89 de_PM_giveTwo_152 h139 (fun x152 e152 h152 => ?_)
      refine mv_iload_n (pc := 155) (i := 3) de_PM_giveTwo_155 rfl 1 rfl ?_
      obtain ⟨a156, ha, h156a⟩ := mj_bindE h152
      subst ha
      refine mv_lald (pc := 156) (t := 1) rfl de_PM_giveTwo_156 h156a (fun x156 e156 h156 => ?_)
      refine mv_aload_n (pc := 157) (i := 0) de_PM_giveTwo_157 rfl 0 rfl ?_
      refine mv_getR (pc := 158) (f := 10) (kc_1 l D E B sa) (Nat.le_of_ble_eq_true rfl) wt_4_90 de_PM_giveTwo_158 h156 (fun x158 e158 h158 => ?_)
      refine mv_iload_n (pc := 161) (i := 3) de_PM_giveTwo_161 rfl 1 rfl ?_
      obtain ⟨a162, ha, h162a⟩ := mj_bindE h158
      subst ha
      refine mv_lald (pc := 162) (t := 1) rfl de_PM_giveTwo_162 h162a (fun x162 e162 h162 => ?_)
      refine mv_aload_n (pc := 163) (i := 0) de_PM_giveTwo_163 rfl 0 rfl ?_
      refine mv_getR (pc := 164) (f := 9) (kc_1 l D E B sa) (Nat.le_of_ble_eq_true rfl) wt_4_89 de_PM_giveTwo_164 h162 (fun x164 e164 h164 => ?_)
      refine mv_iload (pc := 167) de_PM_giveTwo_167 2 rfl ?_
      obtain ⟨a169, ha, h169a⟩ := mj_bindE h164
      subst ha
      refine mv_lald (pc := 169) (t := 1) rfl de_PM_giveTwo_169 h169a (fun x169 e169 h169 => ?_)
      refine mv_aload_n (pc := 170) (i := 0) de_PM_giveTwo_170 rfl 0 rfl ?_
      refine mv_getR (pc := 171) (f := 10) (kc_1 l D E B sa) (Nat.le_of_ble_eq_true rfl) wt_4_90 de_PM_giveTwo_171 h169 (fun x171 e171 h171 => ?_)
      refine mv_iload (pc := 174) de_PM_giveTwo_174 2 rfl ?_
      obtain ⟨a176, ha, h176a⟩ := mj_bindE h171
      subst ha
      refine mv_lald (pc := 176) (t := 1) rfl de_PM_giveTwo_176 h176a (fun x176 e176 h176 => ?_)
      obtain ⟨hi177, h177o⟩ := mj_obE h176
      obtain ⟨r177, Mm177, hz177, h177⟩ := mj_callE h177o
      refine mv_callV (pc := 177) (n := 4) (av := [.long x156, .long x162, .long x169, .long x176]) (rest := []) de_PM_giveTwo_177 (kc_1 l D E B sa) hi177 (cm_PM_over l D E B sa N Mm107 v0 x156 x162 x169 x176 _ _ hz177) wt_5_34 wt_5_36 wp_39 wt_1_8 wt_5_37 ⟨by decide, by decide, by decide +kernel⟩ rfl ⟨Nat.le_of_ble_eq_true rfl, Nat.le_of_ble_eq_true rfl⟩ (Nat.le_of_ble_eq_true rfl) rfl ?_
      refine mv_aload_n (pc := 180) (i := 0) de_PM_giveTwo_180 rfl 0 rfl ?_
      refine mv_aload_n (pc := 181) (i := 0) de_PM_giveTwo_181 rfl 0 rfl ?_
      refine mv_getL (pc := 182) (f := 0) (kc_1 l D E B sa) (Nat.le_of_ble_eq_true rfl) wt_4_80 de_PM_giveTwo_182 h177 (fun x182 e182 h182 => ?_)
      refine mv_lneg (pc := 185) de_PM_giveTwo_185 ?_
      refine mv_aload_n (pc := 186) (i := 0) de_PM_giveTwo_186 rfl 0 rfl ?_
      refine mv_getL (pc := 187) (f := 1) (kc_1 l D E B sa) (Nat.le_of_ble_eq_true rfl) wt_4_81 de_PM_giveTwo_187 h182 (fun x187 e187 h187 => ?_)
      refine mv_aload_n (pc := 190) (i := 0) de_PM_giveTwo_190 rfl 0 rfl ?_
      refine mv_getR (pc := 191) (f := 9) (kc_1 l D E B sa) (Nat.le_of_ble_eq_true rfl) wt_4_89 de_PM_giveTwo_191 h187 (fun x191 e191 h191 => ?_)
      refine mv_iload (pc := 194) de_PM_giveTwo_194 2 rfl ?_
      obtain ⟨a196, ha, h196a⟩ := mj_bindE h191
      subst ha
      refine mv_lald (pc := 196) (t := 1) rfl de_PM_giveTwo_196 h196a (fun x196 e196 h196 => ?_)
      refine mv_aload_n (pc := 197) (i := 0) de_PM_giveTwo_197 rfl 0 rfl ?_
      refine mv_getR (pc := 198) (f := 10) (kc_1 l D E B sa) (Nat.le_of_ble_eq_true rfl) wt_4_90 de_PM_giveTwo_198 h196 (fun x198 e198 h198 => ?_)
      refine mv_iload (pc := 201) de_PM_giveTwo_201 2 rfl ?_
      obtain ⟨a203, ha, h203a⟩ := mj_bindE h198
      subst ha
      refine mv_lald (pc := 203) (t := 1) rfl de_PM_giveTwo_203 h203a (fun x203 e203 h203 => ?_)
      obtain ⟨hi204, h204o⟩ := mj_obE h203
      obtain ⟨r204, Mm204, hz204, h204⟩ := mj_callE h204o
      refine mv_callV (pc := 204) (n := 4) (av := [.long (-x182), .long x187, .long x196, .long x203]) (rest := []) de_PM_giveTwo_204 (kc_1 l D E B sa) hi204 (cm_PM_over l D E B sa N Mm177 v0 (-x182) x187 x196 x203 _ _ hz204) wt_5_34 wt_5_36 wp_39 wt_1_8 wt_5_37 ⟨by decide, by decide, by decide +kernel⟩ rfl ⟨Nat.le_of_ble_eq_true rfl, Nat.le_of_ble_eq_true rfl⟩ (Nat.le_of_ble_eq_true rfl) rfl ?_
      exact mv_sub [0, 2] rfl (tb_PM_giveTwo_207 l D E B sa M0 M1 r N Mm204 v0 v4 h204)
  · refine mv_aload_n (pc := 116) (i := 0) de_PM_giveTwo_116 rfl 0 rfl ?_
    refine mv_iload (pc := 117) de_PM_giveTwo_117 3 rfl ?_
    refine mv_if_ne (pc := 119) (tgt := 126) de_PM_giveTwo_119 (by decide) h113 (fun hc119 h119 => ?_) (fun hc119 h119 => ?_)
    · refine mv_lconst (pc := 122) (v := 1) de_PM_giveTwo_122 (by decide) ?_
      refine mv_goto (pc := 123) (tgt := 129) de_PM_giveTwo_123 (by decide) ?_
      exact mv_sub [0, 2] rfl (tb_PM_giveTwo_129 l D E B sa M0 M1 r N Mm107 v0 v4 v0 1 h119)
    · refine mv_ldc2 (pc := 126) de_PM_giveTwo_126 wt_5_89 ?_
      exact mv_sub [0, 2] rfl (tb_PM_giveTwo_129 l D E B sa M0 M1 r N Mm107 v0 v4 v0 (-1) h119)
set_option maxHeartbeats 4000000 in
set_option maxRecDepth 100000 in
theorem tb_PM_giveTwo_0 (l : Launch) (D : va_G) (E : Nat → ClassId) (B : Nat) (sa : (Nat → Nat) × Nat × (Nat → Int32)) (M0 M1 : mv_M) (r : Unit) (N : Nat) (M : mv_M) (v0 : Nat) (v1 : Int32) (v2 : Int32) (hJ : jb_PM_giveTwo_0 N M v0 v1 v2 = some (r, M1)) : mv_G (xg l D E B sa) kd_PM_giveTwo M0 M1 none M 0 [(0, va_rf (some v0)), (1, .int v1), (2, .int v2)] [] := by
  unfold jb_PM_giveTwo_0 at hJ
  refine mv_bipush (pc := 0) (v := 64) de_PM_giveTwo_0 (by decide) ?_
  refine mv_aload_n (pc := 2) (i := 0) de_PM_giveTwo_2 rfl 0 rfl ?_
  refine mv_getR (pc := 3) (f := 4) (kc_1 l D E B sa) (Nat.le_of_ble_eq_true rfl) wt_4_84 de_PM_giveTwo_3 hJ (fun x3 e3 h3 => ?_)
  refine mv_iload_n (pc := 6) (i := 1) de_PM_giveTwo_6 rfl 1 rfl ?_
  obtain ⟨a7, ha, h7a⟩ := mj_bindE h3
  subst ha
  refine mv_iald (pc := 7) (t := 0) rfl de_PM_giveTwo_7 h7a (fun x7 e7 h7 => ?_)
  refine mv_imul (pc := 8) de_PM_giveTwo_8 ?_
  refine mv_aload_n (pc := 9) (i := 0) de_PM_giveTwo_9 rfl 0 rfl ?_
  refine mv_iload_n (pc := 10) (i := 1) de_PM_giveTwo_10 rfl 1 rfl ?_
  refine mv_iload_n (pc := 11) (i := 2) de_PM_giveTwo_11 rfl 2 rfl ?_
  refine mv_aload_n (pc := 12) (i := 0) de_PM_giveTwo_12 rfl 0 rfl ?_
  refine mv_getR (pc := 13) (f := 4) (kc_1 l D E B sa) (Nat.le_of_ble_eq_true rfl) wt_4_84 de_PM_giveTwo_13 h7 (fun x13 e13 h13 => ?_)
  refine mv_iload_n (pc := 16) (i := 1) de_PM_giveTwo_16 rfl 1 rfl ?_
  obtain ⟨a17, ha, h17a⟩ := mj_bindE h13
  subst ha
  refine mv_iald (pc := 17) (t := 0) rfl de_PM_giveTwo_17 h17a (fun x17 e17 h17 => ?_)
  obtain ⟨hi18, h18o⟩ := mj_obE h17
  obtain ⟨r18, Mm18, hz18, h18⟩ := mj_callE h18o
  refine mv_callV (pc := 18) (n := 3) (av := [.int v1, .int v2, .int x17]) (rest := [.int (64 * x7)]) de_PM_giveTwo_18 (kc_1 l D E B sa) hi18 (cm_PM_spreadCell l D E B sa N M v0 v1 v2 x17 _ _ hz18) wt_5_18 wt_5_20 wp_35 wt_1_8 wt_5_21 ⟨by decide, by decide, by decide +kernel⟩ rfl ⟨Nat.le_of_ble_eq_true rfl, Nat.le_of_ble_eq_true rfl⟩ (Nat.le_of_ble_eq_true rfl) rfl ?_
  refine mv_iadd (pc := 21) de_PM_giveTwo_21 ?_
  refine mv_istore_n (pc := 22) (i := 3) (lv' := [(3, .int ((64 * x7) + r18)), (0, va_rf (some v0)), (1, .int v1), (2, .int v2)]) de_PM_giveTwo_22 rfl (Nat.le_of_ble_eq_true rfl) rfl ?_
  refine mv_bipush (pc := 23) (v := 64) de_PM_giveTwo_23 (by decide) ?_
  refine mv_aload_n (pc := 25) (i := 0) de_PM_giveTwo_25 rfl 1 rfl ?_
  refine mv_getR (pc := 26) (f := 5) (kc_1 l D E B sa) (Nat.le_of_ble_eq_true rfl) wt_4_85 de_PM_giveTwo_26 h18 (fun x26 e26 h26 => ?_)
  refine mv_iload_n (pc := 29) (i := 1) de_PM_giveTwo_29 rfl 2 rfl ?_
  obtain ⟨a30, ha, h30a⟩ := mj_bindE h26
  subst ha
  refine mv_iald (pc := 30) (t := 0) rfl de_PM_giveTwo_30 h30a (fun x30 e30 h30 => ?_)
  refine mv_imul (pc := 31) de_PM_giveTwo_31 ?_
  refine mv_aload_n (pc := 32) (i := 0) de_PM_giveTwo_32 rfl 1 rfl ?_
  refine mv_iload_n (pc := 33) (i := 1) de_PM_giveTwo_33 rfl 2 rfl ?_
  refine mv_iload_n (pc := 34) (i := 2) de_PM_giveTwo_34 rfl 3 rfl ?_
  refine mv_aload_n (pc := 35) (i := 0) de_PM_giveTwo_35 rfl 1 rfl ?_
  refine mv_getR (pc := 36) (f := 5) (kc_1 l D E B sa) (Nat.le_of_ble_eq_true rfl) wt_4_85 de_PM_giveTwo_36 h30 (fun x36 e36 h36 => ?_)
  refine mv_iload_n (pc := 39) (i := 1) de_PM_giveTwo_39 rfl 2 rfl ?_
  obtain ⟨a40, ha, h40a⟩ := mj_bindE h36
  subst ha
  refine mv_iald (pc := 40) (t := 0) rfl de_PM_giveTwo_40 h40a (fun x40 e40 h40 => ?_)
  obtain ⟨hi41, h41o⟩ := mj_obE h40
  obtain ⟨r41, Mm41, hz41, h41⟩ := mj_callE h41o
  refine mv_callV (pc := 41) (n := 3) (av := [.int v1, .int v2, .int x40]) (rest := [.int (64 * x30)]) de_PM_giveTwo_41 (kc_1 l D E B sa) hi41 (cm_PM_spreadCell l D E B sa N Mm18 v0 v1 v2 x40 _ _ hz41) wt_5_18 wt_5_20 wp_35 wt_1_8 wt_5_21 ⟨by decide, by decide, by decide +kernel⟩ rfl ⟨Nat.le_of_ble_eq_true rfl, Nat.le_of_ble_eq_true rfl⟩ (Nat.le_of_ble_eq_true rfl) rfl ?_
  refine mv_iadd (pc := 44) de_PM_giveTwo_44 ?_
  refine mv_istore (pc := 45) (lv' := [(4, .int ((64 * x30) + r41)), (3, .int ((64 * x7) + r18)), (0, va_rf (some v0)), (1, .int v1), (2, .int v2)]) de_PM_giveTwo_45 (Nat.le_of_ble_eq_true rfl) rfl ?_
  refine mv_aload_n (pc := 47) (i := 0) de_PM_giveTwo_47 rfl 2 rfl ?_
  refine mv_getR (pc := 48) (f := 3) (kc_1 l D E B sa) (Nat.le_of_ble_eq_true rfl) wt_4_83 de_PM_giveTwo_48 h41 (fun x48 e48 h48 => ?_)
  refine mv_iload_n (pc := 51) (i := 1) de_PM_giveTwo_51 rfl 3 rfl ?_
  obtain ⟨a52, ha, h52a⟩ := mj_bindE h48
  subst ha
  refine mv_iald (pc := 52) (t := 0) rfl de_PM_giveTwo_52 h52a (fun x52 e52 h52 => ?_)
  refine mv_istore (pc := 53) (lv' := [(5, .int x52), (4, .int ((64 * x30) + r41)), (3, .int ((64 * x7) + r18)), (0, va_rf (some v0)), (1, .int v1), (2, .int v2)]) de_PM_giveTwo_53 (Nat.le_of_ble_eq_true rfl) rfl ?_
  refine mv_iload (pc := 55) de_PM_giveTwo_55 0 rfl ?_
  refine mv_iconst (pc := 57) (v := 2) de_PM_giveTwo_57 (by decide) ?_
  refine mv_icmp_ge (pc := 58) (tgt := 70) de_PM_giveTwo_58 (by decide) h52 (fun hc58 h58 => ?_) (fun hc58 h58 => ?_)
  · refine mv_iload (pc := 70) de_PM_giveTwo_70 0 rfl ?_
    refine mv_iconst (pc := 72) (v := 2) de_PM_giveTwo_72 (by decide) ?_
    refine mv_icmp_ne (pc := 73) (tgt := 85) de_PM_giveTwo_73 (by decide) h58 (fun hc73 h73 => ?_) (fun hc73 h73 => ?_)
    · refine mv_aload_n (pc := 76) (i := 0) de_PM_giveTwo_76 rfl 3 rfl ?_
      refine mv_iload (pc := 77) de_PM_giveTwo_77 1 rfl ?_
      obtain ⟨hi79, h79o⟩ := mj_obE h73
      obtain ⟨r79, Mm79, hz79, h79⟩ := mj_callE h79o
      refine mv_callV (pc := 79) (n := 1) (av := [.int ((64 * x30) + r41)]) (rest := []) de_PM_giveTwo_79 (kc_1 l D E B sa) hi79 (cm_PM_load l D E B sa N Mm41 v0 ((64 * x30) + r41) _ _ hz79) wt_5_57 wt_5_59 wp_44 wt_1_8 wt_5_60 ⟨by decide, by decide, by decide +kernel⟩ rfl ⟨Nat.le_of_ble_eq_true rfl, Nat.le_of_ble_eq_true rfl⟩ (Nat.le_of_ble_eq_true rfl) rfl ?_
      refine mv_goto (pc := 82) (tgt := 105) de_PM_giveTwo_82 (by decide) ?_
      exact mv_sub [3, 2, 1, 0] rfl (tb_PM_giveTwo_105 l D E B sa M0 M1 r N Mm79 v0 ((64 * x7) + r18) ((64 * x30) + r41) x52 h79)
    · refine mv_aload_n (pc := 85) (i := 0) de_PM_giveTwo_85 rfl 3 rfl ?_
      refine mv_lconst (pc := 86) (v := 1) de_PM_giveTwo_86 (by decide) ?_
      refine mv_lconst (pc := 87) (v := 1) de_PM_giveTwo_87 (by decide) ?_
      refine mv_aload_n (pc := 88) (i := 0) de_PM_giveTwo_88 rfl 3 rfl ?_
      refine mv_getR (pc := 89) (f := 9) (kc_1 l D E B sa) (Nat.le_of_ble_eq_true rfl) wt_4_89 de_PM_giveTwo_89 h73 (fun x89 e89 h89 => ?_)
      refine mv_iload (pc := 92) de_PM_giveTwo_92 1 rfl ?_
      obtain ⟨a94, ha, h94a⟩ := mj_bindE h89
      subst ha
      refine mv_lald (pc := 94) (t := 1) rfl de_PM_giveTwo_94 h94a (fun x94 e94 h94 => ?_)
      refine mv_aload_n (pc := 95) (i := 0) de_PM_giveTwo_95 rfl 3 rfl ?_
      refine mv_getR (pc := 96) (f := 10) (kc_1 l D E B sa) (Nat.le_of_ble_eq_true rfl) wt_4_90 de_PM_giveTwo_96 h94 (fun x96 e96 h96 => ?_)
      refine mv_iload (pc := 99) de_PM_giveTwo_99 1 rfl ?_
      obtain ⟨a101, ha, h101a⟩ := mj_bindE h96
      subst ha
      refine mv_lald (pc := 101) (t := 1) rfl de_PM_giveTwo_101 h101a (fun x101 e101 h101 => ?_)
      obtain ⟨hi102, h102o⟩ := mj_obE h101
      obtain ⟨r102, Mm102, hz102, h102⟩ := mj_callE h102o
      refine mv_callV (pc := 102) (n := 4) (av := [.long 1, .long 1, .long x94, .long x101]) (rest := []) de_PM_giveTwo_102 (kc_1 l D E B sa) hi102 (cm_PM_over l D E B sa N Mm41 v0 1 1 x94 x101 _ _ hz102) wt_5_34 wt_5_36 wp_39 wt_1_8 wt_5_37 ⟨by decide, by decide, by decide +kernel⟩ rfl ⟨Nat.le_of_ble_eq_true rfl, Nat.le_of_ble_eq_true rfl⟩ (Nat.le_of_ble_eq_true rfl) rfl ?_
      exact mv_sub [3, 2, 1, 0] rfl (tb_PM_giveTwo_105 l D E B sa M0 M1 r N Mm102 v0 ((64 * x7) + r18) ((64 * x30) + r41) x52 h102)
  · refine mv_aload_n (pc := 61) (i := 0) de_PM_giveTwo_61 rfl 3 rfl ?_
    refine mv_lconst (pc := 62) (v := 1) de_PM_giveTwo_62 (by decide) ?_
    refine mv_lconst (pc := 63) (v := 1) de_PM_giveTwo_63 (by decide) ?_
    obtain ⟨hi64, h64o⟩ := mj_obE h58
    obtain ⟨r64, Mm64, hz64, h64⟩ := mj_callE h64o
    refine mv_callV (pc := 64) (n := 2) (av := [.long 1, .long 1]) (rest := []) de_PM_giveTwo_64 (kc_1 l D E B sa) hi64 (cm_PM_least l D E B sa N Mm41 v0 1 1 _ _ hz64) wt_4_217 wt_4_219 wp_29 wt_1_8 wt_4_220 ⟨by decide, by decide, by decide +kernel⟩ rfl ⟨Nat.le_of_ble_eq_true rfl, Nat.le_of_ble_eq_true rfl⟩ (Nat.le_of_ble_eq_true rfl) rfl ?_
    refine mv_goto (pc := 67) (tgt := 105) de_PM_giveTwo_67 (by decide) ?_
    exact mv_sub [3, 2, 1, 0] rfl (tb_PM_giveTwo_105 l D E B sa M0 M1 r N Mm64 v0 ((64 * x7) + r18) ((64 * x30) + r41) x52 h64)
theorem cm_PM_giveTwo (l : Launch) (D : va_G) (E : Nat → ClassId) (B : Nat) (sa : (Nat → Nat) × Nat × (Nat → Int32)) (N : Nat) (M : mv_M) (v0 : Nat) (v1 : Int32) (v2 : Int32) (r : Unit) (M1 : mv_M) (hJ : jf_PM_giveTwo N M v0 v1 v2 = some (r, M1)) : mv_Met (xg l D E B sa) yn_PM_giveTwo cd_PM_giveTwo 6 none 3 79 [va_rf (some v0), .int v1, .int v2] M none M1 :=
  mv_enter (by decide) (Nat.le_of_ble_eq_true rfl) (mv_sub (lv := [(0, va_rf (some v0)), (1, .int v1), (2, .int v2)]) [0, 1, 2] rfl (tb_PM_giveTwo_0 l D E B sa M M1 r N M v0 v1 v2 hJ))
/-! ===== PlainLearnerModel.giveProduct(II)V ===== -/
abbrev kd_PM_giveProduct : mv_Kd := (cd_PM_giveProduct, 10, "PlainLearnerModel", "giveProduct", none, 3, 79)
theorem de_PM_giveProduct_0 : decode cd_PM_giveProduct 0 = .ok (.aload_n 0, 1) := by decide +kernel
theorem de_PM_giveProduct_1 : decode cd_PM_giveProduct 1 = .ok (.getfield 13, 3) := by decide +kernel
theorem de_PM_giveProduct_4 : decode cd_PM_giveProduct 4 = .ok (.iload_n 1, 1) := by decide +kernel
theorem de_PM_giveProduct_5 : decode cd_PM_giveProduct 5 = .ok (.iaload, 1) := by decide +kernel
theorem de_PM_giveProduct_6 : decode cd_PM_giveProduct 6 = .ok (.istore_n 3, 1) := by decide +kernel
theorem de_PM_giveProduct_7 : decode cd_PM_giveProduct 7 = .ok (.aload_n 0, 1) := by decide +kernel
theorem de_PM_giveProduct_8 : decode cd_PM_giveProduct 8 = .ok (.getfield 16, 3) := by decide +kernel
theorem de_PM_giveProduct_11 : decode cd_PM_giveProduct 11 = .ok (.iload_n 1, 1) := by decide +kernel
theorem de_PM_giveProduct_12 : decode cd_PM_giveProduct 12 = .ok (.iaload, 1) := by decide +kernel
theorem de_PM_giveProduct_13 : decode cd_PM_giveProduct 13 = .ok (.istore 4, 2) := by decide +kernel
theorem de_PM_giveProduct_15 : decode cd_PM_giveProduct 15 = .ok (.aload_n 0, 1) := by decide +kernel
theorem de_PM_giveProduct_16 : decode cd_PM_giveProduct 16 = .ok (.iload 4, 2) := by decide +kernel
theorem de_PM_giveProduct_18 : decode cd_PM_giveProduct 18 = .ok (.iconst 1, 1) := by decide +kernel
theorem de_PM_giveProduct_19 : decode cd_PM_giveProduct 19 = .ok (.invokevirtual 125, 3) := by decide +kernel
theorem de_PM_giveProduct_22 : decode cd_PM_giveProduct 22 = .ok (.istore 5, 2) := by decide +kernel
theorem de_PM_giveProduct_24 : decode cd_PM_giveProduct 24 = .ok (.aload_n 0, 1) := by decide +kernel
theorem de_PM_giveProduct_25 : decode cd_PM_giveProduct 25 = .ok (.iload_n 3, 1) := by decide +kernel
theorem de_PM_giveProduct_26 : decode cd_PM_giveProduct 26 = .ok (.iconst 1, 1) := by decide +kernel
theorem de_PM_giveProduct_27 : decode cd_PM_giveProduct 27 = .ok (.invokevirtual 125, 3) := by decide +kernel
theorem de_PM_giveProduct_30 : decode cd_PM_giveProduct 30 = .ok (.istore 6, 2) := by decide +kernel
theorem de_PM_giveProduct_32 : decode cd_PM_giveProduct 32 = .ok (.iconst 0, 1) := by decide +kernel
theorem de_PM_giveProduct_33 : decode cd_PM_giveProduct 33 = .ok (.istore 7, 2) := by decide +kernel
theorem de_PM_giveProduct_35 : decode cd_PM_giveProduct 35 = .ok (.iload 7, 2) := by decide +kernel
theorem de_PM_giveProduct_37 : decode cd_PM_giveProduct 37 = .ok (.iload 6, 2) := by decide +kernel
theorem de_PM_giveProduct_39 : decode cd_PM_giveProduct 39 = .ok (.if_icmp .ge 68, 3) := by decide +kernel
theorem de_PM_giveProduct_42 : decode cd_PM_giveProduct 42 = .ok (.bipush 64, 2) := by decide +kernel
theorem de_PM_giveProduct_44 : decode cd_PM_giveProduct 44 = .ok (.iload_n 3, 1) := by decide +kernel
theorem de_PM_giveProduct_45 : decode cd_PM_giveProduct 45 = .ok (.imul, 1) := by decide +kernel
theorem de_PM_giveProduct_46 : decode cd_PM_giveProduct 46 = .ok (.iload_n 2, 1) := by decide +kernel
theorem de_PM_giveProduct_47 : decode cd_PM_giveProduct 47 = .ok (.iload 5, 2) := by decide +kernel
theorem de_PM_giveProduct_49 : decode cd_PM_giveProduct 49 = .ok (.idiv, 1) := by decide +kernel
theorem de_PM_giveProduct_50 : decode cd_PM_giveProduct 50 = .ok (.iload 6, 2) := by decide +kernel
theorem de_PM_giveProduct_52 : decode cd_PM_giveProduct 52 = .ok (.imul, 1) := by decide +kernel
theorem de_PM_giveProduct_53 : decode cd_PM_giveProduct 53 = .ok (.iadd, 1) := by decide +kernel
theorem de_PM_giveProduct_54 : decode cd_PM_giveProduct 54 = .ok (.iload 7, 2) := by decide +kernel
theorem de_PM_giveProduct_56 : decode cd_PM_giveProduct 56 = .ok (.iadd, 1) := by decide +kernel
theorem de_PM_giveProduct_57 : decode cd_PM_giveProduct 57 = .ok (.istore 8, 2) := by decide +kernel
theorem de_PM_giveProduct_59 : decode cd_PM_giveProduct 59 = .ok (.bipush 64, 2) := by decide +kernel
theorem de_PM_giveProduct_61 : decode cd_PM_giveProduct 61 = .ok (.iload 4, 2) := by decide +kernel
theorem de_PM_giveProduct_63 : decode cd_PM_giveProduct 63 = .ok (.imul, 1) := by decide +kernel
theorem de_PM_giveProduct_64 : decode cd_PM_giveProduct 64 = .ok (.iload 7, 2) := by decide +kernel
theorem de_PM_giveProduct_66 : decode cd_PM_giveProduct 66 = .ok (.iload 5, 2) := by decide +kernel
theorem de_PM_giveProduct_68 : decode cd_PM_giveProduct 68 = .ok (.imul, 1) := by decide +kernel
theorem de_PM_giveProduct_69 : decode cd_PM_giveProduct 69 = .ok (.iadd, 1) := by decide +kernel
theorem de_PM_giveProduct_70 : decode cd_PM_giveProduct 70 = .ok (.iload_n 2, 1) := by decide +kernel
theorem de_PM_giveProduct_71 : decode cd_PM_giveProduct 71 = .ok (.iload 5, 2) := by decide +kernel
theorem de_PM_giveProduct_73 : decode cd_PM_giveProduct 73 = .ok (.irem, 1) := by decide +kernel
theorem de_PM_giveProduct_74 : decode cd_PM_giveProduct 74 = .ok (.iadd, 1) := by decide +kernel
theorem de_PM_giveProduct_75 : decode cd_PM_giveProduct 75 = .ok (.istore 9, 2) := by decide +kernel
theorem de_PM_giveProduct_77 : decode cd_PM_giveProduct 77 = .ok (.aload_n 0, 1) := by decide +kernel
theorem de_PM_giveProduct_78 : decode cd_PM_giveProduct 78 = .ok (.iload 9, 2) := by decide +kernel
theorem de_PM_giveProduct_80 : decode cd_PM_giveProduct 80 = .ok (.invokevirtual 165, 3) := by decide +kernel
theorem de_PM_giveProduct_83 : decode cd_PM_giveProduct 83 = .ok (.aload_n 0, 1) := by decide +kernel
theorem de_PM_giveProduct_84 : decode cd_PM_giveProduct 84 = .ok (.iload 8, 2) := by decide +kernel
theorem de_PM_giveProduct_86 : decode cd_PM_giveProduct 86 = .ok (.invokevirtual 207, 3) := by decide +kernel
theorem de_PM_giveProduct_89 : decode cd_PM_giveProduct 89 = .ok (.aload_n 0, 1) := by decide +kernel
theorem de_PM_giveProduct_90 : decode cd_PM_giveProduct 90 = .ok (.iload 8, 2) := by decide +kernel
theorem de_PM_giveProduct_92 : decode cd_PM_giveProduct 92 = .ok (.invokevirtual 165, 3) := by decide +kernel
theorem de_PM_giveProduct_95 : decode cd_PM_giveProduct 95 = .ok (.aload_n 0, 1) := by decide +kernel
theorem de_PM_giveProduct_96 : decode cd_PM_giveProduct 96 = .ok (.iload 9, 2) := by decide +kernel
theorem de_PM_giveProduct_98 : decode cd_PM_giveProduct 98 = .ok (.invokevirtual 207, 3) := by decide +kernel
theorem de_PM_giveProduct_101 : decode cd_PM_giveProduct 101 = .ok (.iinc 7 1, 3) := by decide +kernel
theorem de_PM_giveProduct_104 : decode cd_PM_giveProduct 104 = .ok (.goto (-69), 3) := by decide +kernel
theorem de_PM_giveProduct_107 : decode cd_PM_giveProduct 107 = .ok (.return_, 1) := by decide +kernel
def jb_PM_giveProduct_35 (N : Nat) : Nat → mv_M → Nat → Int32 → Int32 → Int32 → Int32 → Int32 → Int32 → Option (Unit × mv_M)
  | 0, _, _, _, _, _, _, _, _ => none
  | n + 1, M, v0, v2, v3, v4, v5, v6, v7 =>
    if v6 ≤ v7 then (some ((), M)) else
    if v5 = 0 then none else
    if v5 = 0 then none else
    mj_ob M v0 1 <|
    mj_call (jf_PM_load N M v0 (((64 * v4) + (v7 * v5)) + (v2 - v2 / v5 * v5))) fun r80 Mm80 =>
    mj_ob Mm80 v0 1 <|
    mj_call (jf_PM_gives N Mm80 v0 (((64 * v3) + ((v2 / v5) * v6)) + v7)) fun r86 Mm86 =>
    mj_ob Mm86 v0 1 <|
    mj_call (jf_PM_load N Mm86 v0 (((64 * v3) + ((v2 / v5) * v6)) + v7)) fun r92 Mm92 =>
    mj_ob Mm92 v0 1 <|
    mj_call (jf_PM_gives N Mm92 v0 (((64 * v4) + (v7 * v5)) + (v2 - v2 / v5 * v5))) fun r98 Mm98 =>
    jb_PM_giveProduct_35 N n Mm98 v0 v2 v3 v4 v5 v6 (v7 + 1)
def jb_PM_giveProduct_0 (N : Nat) (M : mv_M) (v0 : Nat) (v1 : Int32) (v2 : Int32) : Option (Unit × mv_M) :=
  Option.bind (mj_getR M v0 1 4) fun x1 =>
  Option.bind x1 fun a5 =>
  Option.bind (mj_ild M a5 0 v1) fun x5 =>
  Option.bind (mj_getR M v0 1 5) fun x8 =>
  Option.bind x8 fun a12 =>
  Option.bind (mj_ild M a12 0 v1) fun x12 =>
  mj_ob M v0 1 <|
  mj_call (jf_PM_sideOf N M v0 x12 1) fun r19 Mm19 =>
  mj_ob Mm19 v0 1 <|
  mj_call (jf_PM_sideOf N Mm19 v0 x5 1) fun r27 Mm27 =>
  jb_PM_giveProduct_35 N N Mm27 v0 v2 x5 x12 r19 r27 0
def jf_PM_giveProduct (N : Nat) (M : mv_M) (v0 : Nat) (v1 : Int32) (v2 : Int32) : Option (Unit × mv_M) := jb_PM_giveProduct_0 N M v0 v1 v2
set_option maxHeartbeats 4000000 in
set_option maxRecDepth 100000 in
theorem tb_PM_giveProduct_35 (l : Launch) (D : va_G) (E : Nat → ClassId) (B : Nat) (sa : (Nat → Nat) × Nat × (Nat → Int32)) (M0 M1 : mv_M) (r : Unit) (N : Nat) : ∀ (n : Nat) (M : mv_M) (v0 : Nat) (v2 : Int32) (v3 : Int32) (v4 : Int32) (v5 : Int32) (v6 : Int32) (v7 : Int32) (hJ : jb_PM_giveProduct_35 N n M v0 v2 v3 v4 v5 v6 v7 = some (r, M1)), mv_G (xg l D E B sa) kd_PM_giveProduct M0 M1 none M 35 [(0, va_rf (some v0)), (2, .int v2), (3, .int v3), (4, .int v4), (5, .int v5), (6, .int v6), (7, .int v7)] [] := by
  intro n
  induction n with
  | zero => intro M v0 v2 v3 v4 v5 v6 v7 hJ; cases hJ
  | succ n ih =>
    intro M v0 v2 v3 v4 v5 v6 v7 hJ
    rw [jb_PM_giveProduct_35] at hJ
    refine mv_iload (pc := 35) de_PM_giveProduct_35 6 rfl ?_
    refine mv_iload (pc := 37) de_PM_giveProduct_37 5 rfl ?_
    refine mv_icmp_ge (pc := 39) (tgt := 107) de_PM_giveProduct_39 (by decide) hJ (fun hc39 h39 => ?_) (fun hc39 h39 => ?_)
    · exact mv_vret (pc := 107) rfl de_PM_giveProduct_107 h39
    · refine mv_bipush (pc := 42) (v := 64) de_PM_giveProduct_42 (by decide) ?_
      refine mv_iload_n (pc := 44) (i := 3) de_PM_giveProduct_44 rfl 2 rfl ?_
      refine mv_imul (pc := 45) de_PM_giveProduct_45 ?_
      refine mv_iload_n (pc := 46) (i := 2) de_PM_giveProduct_46 rfl 1 rfl ?_
      refine mv_iload (pc := 47) de_PM_giveProduct_47 4 rfl ?_
      refine mv_idiv (pc := 49) de_PM_giveProduct_49 h39 (fun hc_49 h49 => ?_)
      refine mv_iload (pc := 50) de_PM_giveProduct_50 5 rfl ?_
      refine mv_imul (pc := 52) de_PM_giveProduct_52 ?_
      refine mv_iadd (pc := 53) de_PM_giveProduct_53 ?_
      refine mv_iload (pc := 54) de_PM_giveProduct_54 6 rfl ?_
      refine mv_iadd (pc := 56) de_PM_giveProduct_56 ?_
      refine mv_istore (pc := 57) (lv' := [(8, .int (((64 * v3) + ((v2 / v5) * v6)) + v7)), (0, va_rf (some v0)), (2, .int v2), (3, .int v3), (4, .int v4), (5, .int v5), (6, .int v6), (7, .int v7)]) de_PM_giveProduct_57 (Nat.le_of_ble_eq_true rfl) rfl ?_
      refine mv_bipush (pc := 59) (v := 64) de_PM_giveProduct_59 (by decide) ?_
      refine mv_iload (pc := 61) de_PM_giveProduct_61 4 rfl ?_
      refine mv_imul (pc := 63) de_PM_giveProduct_63 ?_
      refine mv_iload (pc := 64) de_PM_giveProduct_64 7 rfl ?_
      refine mv_iload (pc := 66) de_PM_giveProduct_66 5 rfl ?_
      refine mv_imul (pc := 68) de_PM_giveProduct_68 ?_
      refine mv_iadd (pc := 69) de_PM_giveProduct_69 ?_
      refine mv_iload_n (pc := 70) (i := 2) de_PM_giveProduct_70 rfl 2 rfl ?_
      refine mv_iload (pc := 71) de_PM_giveProduct_71 5 rfl ?_
      refine mv_irem (pc := 73) de_PM_giveProduct_73 h49 (fun hc_73 h73 => ?_)
      refine mv_iadd (pc := 74) de_PM_giveProduct_74 ?_
      refine mv_istore (pc := 75) (lv' := [(9, .int (((64 * v4) + (v7 * v5)) + (v2 - v2 / v5 * v5))), (8, .int (((64 * v3) + ((v2 / v5) * v6)) + v7)), (0, va_rf (some v0)), (2, .int v2), (3, .int v3), (4, .int v4), (5, .int v5), (6, .int v6), (7, .int v7)]) de_PM_giveProduct_75 (Nat.le_of_ble_eq_true rfl) rfl ?_
      refine mv_aload_n (pc := 77) (i := 0) de_PM_giveProduct_77 rfl 2 rfl ?_
      refine mv_iload (pc := 78) de_PM_giveProduct_78 0 rfl ?_
      obtain ⟨hi80, h80o⟩ := mj_obE h73
      obtain ⟨r80, Mm80, hz80, h80⟩ := mj_callE h80o
      refine mv_callV (pc := 80) (n := 1) (av := [.int (((64 * v4) + (v7 * v5)) + (v2 - v2 / v5 * v5))]) (rest := []) de_PM_giveProduct_80 (kc_1 l D E B sa) hi80 (cm_PM_load l D E B sa N M v0 (((64 * v4) + (v7 * v5)) + (v2 - v2 / v5 * v5)) _ _ hz80) wt_5_57 wt_5_59 wp_44 wt_1_8 wt_5_60 ⟨by decide, by decide, by decide +kernel⟩ rfl ⟨Nat.le_of_ble_eq_true rfl, Nat.le_of_ble_eq_true rfl⟩ (Nat.le_of_ble_eq_true rfl) rfl ?_
      refine mv_aload_n (pc := 83) (i := 0) de_PM_giveProduct_83 rfl 2 rfl ?_
      refine mv_iload (pc := 84) de_PM_giveProduct_84 1 rfl ?_
      obtain ⟨hi86, h86o⟩ := mj_obE h80
      obtain ⟨r86, Mm86, hz86, h86⟩ := mj_callE h86o
      refine mv_callV (pc := 86) (n := 1) (av := [.int (((64 * v3) + ((v2 / v5) * v6)) + v7)]) (rest := []) de_PM_giveProduct_86 (kc_1 l D E B sa) hi86 (cm_PM_gives l D E B sa N Mm80 v0 (((64 * v3) + ((v2 / v5) * v6)) + v7) _ _ hz86) wt_5_85 wt_5_87 wp_50 wt_1_8 wt_5_88 ⟨by decide, by decide, by decide +kernel⟩ rfl ⟨Nat.le_of_ble_eq_true rfl, Nat.le_of_ble_eq_true rfl⟩ (Nat.le_of_ble_eq_true rfl) rfl ?_
      refine mv_aload_n (pc := 89) (i := 0) de_PM_giveProduct_89 rfl 2 rfl ?_
      refine mv_iload (pc := 90) de_PM_giveProduct_90 1 rfl ?_
      obtain ⟨hi92, h92o⟩ := mj_obE h86
      obtain ⟨r92, Mm92, hz92, h92⟩ := mj_callE h92o
      refine mv_callV (pc := 92) (n := 1) (av := [.int (((64 * v3) + ((v2 / v5) * v6)) + v7)]) (rest := []) de_PM_giveProduct_92 (kc_1 l D E B sa) hi92 (cm_PM_load l D E B sa N Mm86 v0 (((64 * v3) + ((v2 / v5) * v6)) + v7) _ _ hz92) wt_5_57 wt_5_59 wp_44 wt_1_8 wt_5_60 ⟨by decide, by decide, by decide +kernel⟩ rfl ⟨Nat.le_of_ble_eq_true rfl, Nat.le_of_ble_eq_true rfl⟩ (Nat.le_of_ble_eq_true rfl) rfl ?_
      refine mv_aload_n (pc := 95) (i := 0) de_PM_giveProduct_95 rfl 2 rfl ?_
      refine mv_iload (pc := 96) de_PM_giveProduct_96 0 rfl ?_
      obtain ⟨hi98, h98o⟩ := mj_obE h92
      obtain ⟨r98, Mm98, hz98, h98⟩ := mj_callE h98o
      refine mv_callV (pc := 98) (n := 1) (av := [.int (((64 * v4) + (v7 * v5)) + (v2 - v2 / v5 * v5))]) (rest := []) de_PM_giveProduct_98 (kc_1 l D E B sa) hi98 (cm_PM_gives l D E B sa N Mm92 v0 (((64 * v4) + (v7 * v5)) + (v2 - v2 / v5 * v5)) _ _ hz98) wt_5_85 wt_5_87 wp_50 wt_1_8 wt_5_88 ⟨by decide, by decide, by decide +kernel⟩ rfl ⟨Nat.le_of_ble_eq_true rfl, Nat.le_of_ble_eq_true rfl⟩ (Nat.le_of_ble_eq_true rfl) rfl ?_
      refine mv_iinc (pc := 101) (v := (v7 + 1)) (lv' := [(7, .int (v7 + 1)), (9, .int (((64 * v4) + (v7 * v5)) + (v2 - v2 / v5 * v5))), (8, .int (((64 * v3) + ((v2 / v5) * v6)) + v7)), (0, va_rf (some v0)), (2, .int v2), (3, .int v3), (4, .int v4), (5, .int v5), (6, .int v6)]) de_PM_giveProduct_101 8 rfl rfl (Nat.le_of_ble_eq_true rfl) rfl ?_
      refine mv_goto (pc := 104) (tgt := 35) de_PM_giveProduct_104 (by decide) ?_
      exact mv_sub [3, 4, 5, 6, 7, 8, 0] rfl (ih Mm98 v0 v2 v3 v4 v5 v6 (v7 + 1) h98)
set_option maxHeartbeats 4000000 in
set_option maxRecDepth 100000 in
theorem tb_PM_giveProduct_0 (l : Launch) (D : va_G) (E : Nat → ClassId) (B : Nat) (sa : (Nat → Nat) × Nat × (Nat → Int32)) (M0 M1 : mv_M) (r : Unit) (N : Nat) (M : mv_M) (v0 : Nat) (v1 : Int32) (v2 : Int32) (hJ : jb_PM_giveProduct_0 N M v0 v1 v2 = some (r, M1)) : mv_G (xg l D E B sa) kd_PM_giveProduct M0 M1 none M 0 [(0, va_rf (some v0)), (1, .int v1), (2, .int v2)] [] := by
  unfold jb_PM_giveProduct_0 at hJ
  refine mv_aload_n (pc := 0) (i := 0) de_PM_giveProduct_0 rfl 0 rfl ?_
  refine mv_getR (pc := 1) (f := 4) (kc_1 l D E B sa) (Nat.le_of_ble_eq_true rfl) wt_4_84 de_PM_giveProduct_1 hJ (fun x1 e1 h1 => ?_)
  refine mv_iload_n (pc := 4) (i := 1) de_PM_giveProduct_4 rfl 1 rfl ?_
  obtain ⟨a5, ha, h5a⟩ := mj_bindE h1
  subst ha
  refine mv_iald (pc := 5) (t := 0) rfl de_PM_giveProduct_5 h5a (fun x5 e5 h5 => ?_)
  refine mv_istore_n (pc := 6) (i := 3) (lv' := [(3, .int x5), (0, va_rf (some v0)), (1, .int v1), (2, .int v2)]) de_PM_giveProduct_6 rfl (Nat.le_of_ble_eq_true rfl) rfl ?_
  refine mv_aload_n (pc := 7) (i := 0) de_PM_giveProduct_7 rfl 1 rfl ?_
  refine mv_getR (pc := 8) (f := 5) (kc_1 l D E B sa) (Nat.le_of_ble_eq_true rfl) wt_4_85 de_PM_giveProduct_8 h5 (fun x8 e8 h8 => ?_)
  refine mv_iload_n (pc := 11) (i := 1) de_PM_giveProduct_11 rfl 2 rfl ?_
  obtain ⟨a12, ha, h12a⟩ := mj_bindE h8
  subst ha
  refine mv_iald (pc := 12) (t := 0) rfl de_PM_giveProduct_12 h12a (fun x12 e12 h12 => ?_)
  refine mv_istore (pc := 13) (lv' := [(4, .int x12), (3, .int x5), (0, va_rf (some v0)), (1, .int v1), (2, .int v2)]) de_PM_giveProduct_13 (Nat.le_of_ble_eq_true rfl) rfl ?_
  refine mv_aload_n (pc := 15) (i := 0) de_PM_giveProduct_15 rfl 2 rfl ?_
  refine mv_iload (pc := 16) de_PM_giveProduct_16 0 rfl ?_
  refine mv_iconst (pc := 18) (v := 1) de_PM_giveProduct_18 (by decide) ?_
  obtain ⟨hi19, h19o⟩ := mj_obE h12
  obtain ⟨r19, Mm19, hz19, h19⟩ := mj_callE h19o
  refine mv_callV (pc := 19) (n := 2) (av := [.int x12, .int 1]) (rest := []) de_PM_giveProduct_19 (kc_1 l D E B sa) hi19 (cm_PM_sideOf l D E B sa N M v0 x12 1 _ _ hz19) wt_4_236 wt_4_238 wp_32 wt_1_8 wt_4_239 ⟨by decide, by decide, by decide +kernel⟩ rfl ⟨Nat.le_of_ble_eq_true rfl, Nat.le_of_ble_eq_true rfl⟩ (Nat.le_of_ble_eq_true rfl) rfl ?_
  refine mv_istore (pc := 22) (lv' := [(5, .int r19), (4, .int x12), (3, .int x5), (0, va_rf (some v0)), (1, .int v1), (2, .int v2)]) de_PM_giveProduct_22 (Nat.le_of_ble_eq_true rfl) rfl ?_
  refine mv_aload_n (pc := 24) (i := 0) de_PM_giveProduct_24 rfl 3 rfl ?_
  refine mv_iload_n (pc := 25) (i := 3) de_PM_giveProduct_25 rfl 2 rfl ?_
  refine mv_iconst (pc := 26) (v := 1) de_PM_giveProduct_26 (by decide) ?_
  obtain ⟨hi27, h27o⟩ := mj_obE h19
  obtain ⟨r27, Mm27, hz27, h27⟩ := mj_callE h27o
  refine mv_callV (pc := 27) (n := 2) (av := [.int x5, .int 1]) (rest := []) de_PM_giveProduct_27 (kc_1 l D E B sa) hi27 (cm_PM_sideOf l D E B sa N Mm19 v0 x5 1 _ _ hz27) wt_4_236 wt_4_238 wp_32 wt_1_8 wt_4_239 ⟨by decide, by decide, by decide +kernel⟩ rfl ⟨Nat.le_of_ble_eq_true rfl, Nat.le_of_ble_eq_true rfl⟩ (Nat.le_of_ble_eq_true rfl) rfl ?_
  refine mv_istore (pc := 30) (lv' := [(6, .int r27), (5, .int r19), (4, .int x12), (3, .int x5), (0, va_rf (some v0)), (1, .int v1), (2, .int v2)]) de_PM_giveProduct_30 (Nat.le_of_ble_eq_true rfl) rfl ?_
  refine mv_iconst (pc := 32) (v := 0) de_PM_giveProduct_32 (by decide) ?_
  refine mv_istore (pc := 33) (lv' := [(7, .int 0), (6, .int r27), (5, .int r19), (4, .int x12), (3, .int x5), (0, va_rf (some v0)), (1, .int v1), (2, .int v2)]) de_PM_giveProduct_33 (Nat.le_of_ble_eq_true rfl) rfl ?_
  exact mv_sub [5, 7, 4, 3, 2, 1, 0] rfl (tb_PM_giveProduct_35 l D E B sa M0 M1 r N N Mm27 v0 v2 x5 x12 r19 r27 0 h27)
theorem cm_PM_giveProduct (l : Launch) (D : va_G) (E : Nat → ClassId) (B : Nat) (sa : (Nat → Nat) × Nat × (Nat → Int32)) (N : Nat) (M : mv_M) (v0 : Nat) (v1 : Int32) (v2 : Int32) (r : Unit) (M1 : mv_M) (hJ : jf_PM_giveProduct N M v0 v1 v2 = some (r, M1)) : mv_Met (xg l D E B sa) yn_PM_giveProduct cd_PM_giveProduct 10 none 3 79 [va_rf (some v0), .int v1, .int v2] M none M1 :=
  mv_enter (by decide) (Nat.le_of_ble_eq_true rfl) (mv_sub (lv := [(0, va_rf (some v0)), (1, .int v1), (2, .int v2)]) [0, 1, 2] rfl (tb_PM_giveProduct_0 l D E B sa M M1 r N M v0 v1 v2 hJ))
/-! ===== PlainLearnerModel.give(II)V ===== -/
abbrev kd_PM_give : mv_Kd := (cd_PM_give, 9, "PlainLearnerModel", "give", none, 4, 108)
theorem de_PM_give_0 : decode cd_PM_give 0 = .ok (.aload_n 0, 1) := by decide +kernel
theorem de_PM_give_1 : decode cd_PM_give 1 = .ok (.getfield 13, 3) := by decide +kernel
theorem de_PM_give_4 : decode cd_PM_give 4 = .ok (.iload_n 1, 1) := by decide +kernel
theorem de_PM_give_5 : decode cd_PM_give 5 = .ok (.iaload, 1) := by decide +kernel
theorem de_PM_give_6 : decode cd_PM_give 6 = .ok (.istore_n 3, 1) := by decide +kernel
theorem de_PM_give_7 : decode cd_PM_give 7 = .ok (.aload_n 0, 1) := by decide +kernel
theorem de_PM_give_8 : decode cd_PM_give 8 = .ok (.getfield 7, 3) := by decide +kernel
theorem de_PM_give_11 : decode cd_PM_give 11 = .ok (.iload_n 1, 1) := by decide +kernel
theorem de_PM_give_12 : decode cd_PM_give 12 = .ok (.iaload, 1) := by decide +kernel
theorem de_PM_give_13 : decode cd_PM_give 13 = .ok (.istore 4, 2) := by decide +kernel
theorem de_PM_give_15 : decode cd_PM_give 15 = .ok (.bipush 64, 2) := by decide +kernel
theorem de_PM_give_17 : decode cd_PM_give 17 = .ok (.iload_n 3, 1) := by decide +kernel
theorem de_PM_give_18 : decode cd_PM_give 18 = .ok (.imul, 1) := by decide +kernel
theorem de_PM_give_19 : decode cd_PM_give 19 = .ok (.istore 5, 2) := by decide +kernel
theorem de_PM_give_21 : decode cd_PM_give 21 = .ok (.iload 4, 2) := by decide +kernel
theorem de_PM_give_23 : decode cd_PM_give 23 = .ok (.iconst 4, 1) := by decide +kernel
theorem de_PM_give_24 : decode cd_PM_give 24 = .ok (.if_icmp .ge 12, 3) := by decide +kernel
theorem de_PM_give_27 : decode cd_PM_give 27 = .ok (.aload_n 0, 1) := by decide +kernel
theorem de_PM_give_28 : decode cd_PM_give 28 = .ok (.iload_n 1, 1) := by decide +kernel
theorem de_PM_give_29 : decode cd_PM_give 29 = .ok (.iload_n 2, 1) := by decide +kernel
theorem de_PM_give_30 : decode cd_PM_give 30 = .ok (.invokevirtual 201, 3) := by decide +kernel
theorem de_PM_give_33 : decode cd_PM_give 33 = .ok (.goto 398, 3) := by decide +kernel
theorem de_PM_give_36 : decode cd_PM_give 36 = .ok (.iload 4, 2) := by decide +kernel
theorem de_PM_give_38 : decode cd_PM_give 38 = .ok (.iconst 4, 1) := by decide +kernel
theorem de_PM_give_39 : decode cd_PM_give 39 = .ok (.if_icmp .ne 12, 3) := by decide +kernel
theorem de_PM_give_42 : decode cd_PM_give 42 = .ok (.aload_n 0, 1) := by decide +kernel
theorem de_PM_give_43 : decode cd_PM_give 43 = .ok (.iload_n 1, 1) := by decide +kernel
theorem de_PM_give_44 : decode cd_PM_give 44 = .ok (.iload_n 2, 1) := by decide +kernel
theorem de_PM_give_45 : decode cd_PM_give 45 = .ok (.invokevirtual 204, 3) := by decide +kernel
theorem de_PM_give_48 : decode cd_PM_give 48 = .ok (.goto 383, 3) := by decide +kernel
theorem de_PM_give_51 : decode cd_PM_give 51 = .ok (.iload 4, 2) := by decide +kernel
theorem de_PM_give_53 : decode cd_PM_give 53 = .ok (.bipush 8, 2) := by decide +kernel
theorem de_PM_give_55 : decode cd_PM_give 55 = .ok (.if_icmp .ge 142, 3) := by decide +kernel
theorem de_PM_give_58 : decode cd_PM_give 58 = .ok (.aload_n 0, 1) := by decide +kernel
theorem de_PM_give_59 : decode cd_PM_give 59 = .ok (.iload_n 3, 1) := by decide +kernel
theorem de_PM_give_60 : decode cd_PM_give 60 = .ok (.aload_n 0, 1) := by decide +kernel
theorem de_PM_give_61 : decode cd_PM_give 61 = .ok (.getfield 16, 3) := by decide +kernel
theorem de_PM_give_64 : decode cd_PM_give 64 = .ok (.iload_n 1, 1) := by decide +kernel
theorem de_PM_give_65 : decode cd_PM_give 65 = .ok (.iaload, 1) := by decide +kernel
theorem de_PM_give_66 : decode cd_PM_give 66 = .ok (.invokevirtual 125, 3) := by decide +kernel
theorem de_PM_give_69 : decode cd_PM_give 69 = .ok (.istore 6, 2) := by decide +kernel
theorem de_PM_give_71 : decode cd_PM_give 71 = .ok (.iload 4, 2) := by decide +kernel
theorem de_PM_give_73 : decode cd_PM_give 73 = .ok (.bipush 7, 2) := by decide +kernel
theorem de_PM_give_75 : decode cd_PM_give 75 = .ok (.if_icmp .ne 12, 3) := by decide +kernel
theorem de_PM_give_78 : decode cd_PM_give 78 = .ok (.aload_n 0, 1) := by decide +kernel
theorem de_PM_give_79 : decode cd_PM_give 79 = .ok (.iload_n 1, 1) := by decide +kernel
theorem de_PM_give_80 : decode cd_PM_give 80 = .ok (.iload_n 2, 1) := by decide +kernel
theorem de_PM_give_81 : decode cd_PM_give 81 = .ok (.invokevirtual 172, 3) := by decide +kernel
theorem de_PM_give_84 : decode cd_PM_give 84 = .ok (.goto 4, 3) := by decide +kernel
theorem de_PM_give_87 : decode cd_PM_give 87 = .ok (.iconst 0, 1) := by decide +kernel
theorem de_PM_give_88 : decode cd_PM_give 88 = .ok (.istore 7, 2) := by decide +kernel
theorem de_PM_give_90 : decode cd_PM_give 90 = .ok (.iconst 0, 1) := by decide +kernel
theorem de_PM_give_91 : decode cd_PM_give 91 = .ok (.istore 8, 2) := by decide +kernel
theorem de_PM_give_93 : decode cd_PM_give 93 = .ok (.iload 8, 2) := by decide +kernel
theorem de_PM_give_95 : decode cd_PM_give 95 = .ok (.iload 6, 2) := by decide +kernel
theorem de_PM_give_97 : decode cd_PM_give 97 = .ok (.if_icmp .ge 97, 3) := by decide +kernel
theorem de_PM_give_100 : decode cd_PM_give 100 = .ok (.iload 4, 2) := by decide +kernel
theorem de_PM_give_102 : decode cd_PM_give 102 = .ok (.bipush 7, 2) := by decide +kernel
theorem de_PM_give_104 : decode cd_PM_give 104 = .ok (.if_icmp .ne 17, 3) := by decide +kernel
theorem de_PM_give_107 : decode cd_PM_give 107 = .ok (.iload 7, 2) := by decide +kernel
theorem de_PM_give_109 : decode cd_PM_give 109 = .ok (.ifCond .ge 12, 3) := by decide +kernel
theorem de_PM_give_112 : decode cd_PM_give 112 = .ok (.aload_n 0, 1) := by decide +kernel
theorem de_PM_give_113 : decode cd_PM_give 113 = .ok (.lconst 0, 1) := by decide +kernel
theorem de_PM_give_114 : decode cd_PM_give 114 = .ok (.lconst 0, 1) := by decide +kernel
theorem de_PM_give_115 : decode cd_PM_give 115 = .ok (.invokevirtual 91, 3) := by decide +kernel
theorem de_PM_give_118 : decode cd_PM_give 118 = .ok (.goto 49, 3) := by decide +kernel
theorem de_PM_give_121 : decode cd_PM_give 121 = .ok (.iload 4, 2) := by decide +kernel
theorem de_PM_give_123 : decode cd_PM_give 123 = .ok (.bipush 7, 2) := by decide +kernel
theorem de_PM_give_125 : decode cd_PM_give 125 = .ok (.if_icmp .ne 23, 3) := by decide +kernel
theorem de_PM_give_128 : decode cd_PM_give 128 = .ok (.aload_n 0, 1) := by decide +kernel
theorem de_PM_give_129 : decode cd_PM_give 129 = .ok (.iload 8, 2) := by decide +kernel
theorem de_PM_give_131 : decode cd_PM_give 131 = .ok (.iload 7, 2) := by decide +kernel
theorem de_PM_give_133 : decode cd_PM_give 133 = .ok (.if_icmp .ne 7, 3) := by decide +kernel
theorem de_PM_give_136 : decode cd_PM_give 136 = .ok (.lconst 1, 1) := by decide +kernel
theorem de_PM_give_137 : decode cd_PM_give 137 = .ok (.goto 4, 3) := by decide +kernel
theorem de_PM_give_140 : decode cd_PM_give 140 = .ok (.lconst 0, 1) := by decide +kernel
theorem de_PM_give_141 : decode cd_PM_give 141 = .ok (.lconst 1, 1) := by decide +kernel
theorem de_PM_give_142 : decode cd_PM_give 142 = .ok (.invokevirtual 91, 3) := by decide +kernel
theorem de_PM_give_145 : decode cd_PM_give 145 = .ok (.goto 22, 3) := by decide +kernel
theorem de_PM_give_148 : decode cd_PM_give 148 = .ok (.aload_n 0, 1) := by decide +kernel
theorem de_PM_give_149 : decode cd_PM_give 149 = .ok (.lconst 1, 1) := by decide +kernel
theorem de_PM_give_150 : decode cd_PM_give 150 = .ok (.iload 4, 2) := by decide +kernel
theorem de_PM_give_152 : decode cd_PM_give 152 = .ok (.bipush 6, 2) := by decide +kernel
theorem de_PM_give_154 : decode cd_PM_give 154 = .ok (.if_icmp .ne 9, 3) := by decide +kernel
theorem de_PM_give_157 : decode cd_PM_give 157 = .ok (.iload 6, 2) := by decide +kernel
theorem de_PM_give_159 : decode cd_PM_give 159 = .ok (.i2l, 1) := by decide +kernel
theorem de_PM_give_160 : decode cd_PM_give 160 = .ok (.goto 4, 3) := by decide +kernel
theorem de_PM_give_163 : decode cd_PM_give 163 = .ok (.lconst 1, 1) := by decide +kernel
theorem de_PM_give_164 : decode cd_PM_give 164 = .ok (.invokevirtual 91, 3) := by decide +kernel
theorem de_PM_give_167 : decode cd_PM_give 167 = .ok (.aload_n 0, 1) := by decide +kernel
theorem de_PM_give_168 : decode cd_PM_give 168 = .ok (.iload 5, 2) := by decide +kernel
theorem de_PM_give_170 : decode cd_PM_give 170 = .ok (.aload_n 0, 1) := by decide +kernel
theorem de_PM_give_171 : decode cd_PM_give 171 = .ok (.iload_n 3, 1) := by decide +kernel
theorem de_PM_give_172 : decode cd_PM_give 172 = .ok (.aload_n 0, 1) := by decide +kernel
theorem de_PM_give_173 : decode cd_PM_give 173 = .ok (.getfield 16, 3) := by decide +kernel
theorem de_PM_give_176 : decode cd_PM_give 176 = .ok (.iload_n 1, 1) := by decide +kernel
theorem de_PM_give_177 : decode cd_PM_give 177 = .ok (.iaload, 1) := by decide +kernel
theorem de_PM_give_178 : decode cd_PM_give 178 = .ok (.iload_n 2, 1) := by decide +kernel
theorem de_PM_give_179 : decode cd_PM_give 179 = .ok (.iload 8, 2) := by decide +kernel
theorem de_PM_give_181 : decode cd_PM_give 181 = .ok (.invokevirtual 175, 3) := by decide +kernel
theorem de_PM_give_184 : decode cd_PM_give 184 = .ok (.iadd, 1) := by decide +kernel
theorem de_PM_give_185 : decode cd_PM_give 185 = .ok (.invokevirtual 207, 3) := by decide +kernel
theorem de_PM_give_188 : decode cd_PM_give 188 = .ok (.iinc 8 1, 3) := by decide +kernel
theorem de_PM_give_191 : decode cd_PM_give 191 = .ok (.goto (-98), 3) := by decide +kernel
theorem de_PM_give_194 : decode cd_PM_give 194 = .ok (.goto 237, 3) := by decide +kernel
theorem de_PM_give_197 : decode cd_PM_give 197 = .ok (.iload 4, 2) := by decide +kernel
theorem de_PM_give_199 : decode cd_PM_give 199 = .ok (.bipush 15, 2) := by decide +kernel
theorem de_PM_give_201 : decode cd_PM_give 201 = .ok (.if_icmp .ne 40, 3) := by decide +kernel
theorem de_PM_give_204 : decode cd_PM_give 204 = .ok (.iconst 0, 1) := by decide +kernel
theorem de_PM_give_205 : decode cd_PM_give 205 = .ok (.istore 6, 2) := by decide +kernel
theorem de_PM_give_207 : decode cd_PM_give 207 = .ok (.iload 6, 2) := by decide +kernel
theorem de_PM_give_209 : decode cd_PM_give 209 = .ok (.aload_n 0, 1) := by decide +kernel
theorem de_PM_give_210 : decode cd_PM_give 210 = .ok (.iload_n 3, 1) := by decide +kernel
theorem de_PM_give_211 : decode cd_PM_give 211 = .ok (.invokevirtual 114, 3) := by decide +kernel
theorem de_PM_give_214 : decode cd_PM_give 214 = .ok (.if_icmp .ge 24, 3) := by decide +kernel
theorem de_PM_give_217 : decode cd_PM_give 217 = .ok (.aload_n 0, 1) := by decide +kernel
theorem de_PM_give_218 : decode cd_PM_give 218 = .ok (.lconst 1, 1) := by decide +kernel
theorem de_PM_give_219 : decode cd_PM_give 219 = .ok (.lconst 1, 1) := by decide +kernel
theorem de_PM_give_220 : decode cd_PM_give 220 = .ok (.invokevirtual 91, 3) := by decide +kernel
theorem de_PM_give_223 : decode cd_PM_give 223 = .ok (.aload_n 0, 1) := by decide +kernel
theorem de_PM_give_224 : decode cd_PM_give 224 = .ok (.iload 5, 2) := by decide +kernel
theorem de_PM_give_226 : decode cd_PM_give 226 = .ok (.iload 6, 2) := by decide +kernel
theorem de_PM_give_228 : decode cd_PM_give 228 = .ok (.iadd, 1) := by decide +kernel
theorem de_PM_give_229 : decode cd_PM_give 229 = .ok (.invokevirtual 207, 3) := by decide +kernel
theorem de_PM_give_232 : decode cd_PM_give 232 = .ok (.iinc 6 1, 3) := by decide +kernel
theorem de_PM_give_235 : decode cd_PM_give 235 = .ok (.goto (-28), 3) := by decide +kernel
theorem de_PM_give_238 : decode cd_PM_give 238 = .ok (.goto 193, 3) := by decide +kernel
theorem de_PM_give_241 : decode cd_PM_give 241 = .ok (.iload 4, 2) := by decide +kernel
theorem de_PM_give_243 : decode cd_PM_give 243 = .ok (.bipush 8, 2) := by decide +kernel
theorem de_PM_give_245 : decode cd_PM_give 245 = .ok (.if_icmp .eq 10, 3) := by decide +kernel
theorem de_PM_give_248 : decode cd_PM_give 248 = .ok (.iload 4, 2) := by decide +kernel
theorem de_PM_give_250 : decode cd_PM_give 250 = .ok (.bipush 9, 2) := by decide +kernel
theorem de_PM_give_252 : decode cd_PM_give 252 = .ok (.if_icmp .ne 49, 3) := by decide +kernel
theorem de_PM_give_255 : decode cd_PM_give 255 = .ok (.aload_n 0, 1) := by decide +kernel
theorem de_PM_give_256 : decode cd_PM_give 256 = .ok (.lconst 1, 1) := by decide +kernel
theorem de_PM_give_257 : decode cd_PM_give 257 = .ok (.lconst 1, 1) := by decide +kernel
theorem de_PM_give_258 : decode cd_PM_give 258 = .ok (.invokevirtual 91, 3) := by decide +kernel
theorem de_PM_give_261 : decode cd_PM_give 261 = .ok (.aload_n 0, 1) := by decide +kernel
theorem de_PM_give_262 : decode cd_PM_give 262 = .ok (.iload 5, 2) := by decide +kernel
theorem de_PM_give_264 : decode cd_PM_give 264 = .ok (.iload 4, 2) := by decide +kernel
theorem de_PM_give_266 : decode cd_PM_give 266 = .ok (.bipush 8, 2) := by decide +kernel
theorem de_PM_give_268 : decode cd_PM_give 268 = .ok (.if_icmp .ne 20, 3) := by decide +kernel
theorem de_PM_give_271 : decode cd_PM_give 271 = .ok (.aload_n 0, 1) := by decide +kernel
theorem de_PM_give_272 : decode cd_PM_give 272 = .ok (.getfield 16, 3) := by decide +kernel
theorem de_PM_give_275 : decode cd_PM_give 275 = .ok (.iload_n 1, 1) := by decide +kernel
theorem de_PM_give_276 : decode cd_PM_give 276 = .ok (.iaload, 1) := by decide +kernel
theorem de_PM_give_277 : decode cd_PM_give 277 = .ok (.aload_n 0, 1) := by decide +kernel
theorem de_PM_give_278 : decode cd_PM_give 278 = .ok (.iload_n 1, 1) := by decide +kernel
theorem de_PM_give_279 : decode cd_PM_give 279 = .ok (.invokevirtual 114, 3) := by decide +kernel
theorem de_PM_give_282 : decode cd_PM_give 282 = .ok (.imul, 1) := by decide +kernel
theorem de_PM_give_283 : decode cd_PM_give 283 = .ok (.iload_n 2, 1) := by decide +kernel
theorem de_PM_give_284 : decode cd_PM_give 284 = .ok (.iadd, 1) := by decide +kernel
theorem de_PM_give_285 : decode cd_PM_give 285 = .ok (.goto 9, 3) := by decide +kernel
theorem de_PM_give_288 : decode cd_PM_give 288 = .ok (.aload_n 0, 1) := by decide +kernel
theorem de_PM_give_289 : decode cd_PM_give 289 = .ok (.iload_n 3, 1) := by decide +kernel
theorem de_PM_give_290 : decode cd_PM_give 290 = .ok (.iload_n 2, 1) := by decide +kernel
theorem de_PM_give_291 : decode cd_PM_give 291 = .ok (.invokevirtual 169, 3) := by decide +kernel
theorem de_PM_give_294 : decode cd_PM_give 294 = .ok (.iadd, 1) := by decide +kernel
theorem de_PM_give_295 : decode cd_PM_give 295 = .ok (.invokevirtual 207, 3) := by decide +kernel
theorem de_PM_give_298 : decode cd_PM_give 298 = .ok (.goto 133, 3) := by decide +kernel
theorem de_PM_give_301 : decode cd_PM_give 301 = .ok (.aload_n 0, 1) := by decide +kernel
theorem de_PM_give_302 : decode cd_PM_give 302 = .ok (.iload 5, 2) := by decide +kernel
theorem de_PM_give_304 : decode cd_PM_give 304 = .ok (.iload_n 2, 1) := by decide +kernel
theorem de_PM_give_305 : decode cd_PM_give 305 = .ok (.iadd, 1) := by decide +kernel
theorem de_PM_give_306 : decode cd_PM_give 306 = .ok (.invokevirtual 165, 3) := by decide +kernel
theorem de_PM_give_309 : decode cd_PM_give 309 = .ok (.iload 4, 2) := by decide +kernel
theorem de_PM_give_311 : decode cd_PM_give 311 = .ok (.bipush 10, 2) := by decide +kernel
theorem de_PM_give_313 : decode cd_PM_give 313 = .ok (.if_icmp .ne 14, 3) := by decide +kernel
theorem de_PM_give_316 : decode cd_PM_give 316 = .ok (.aload_n 0, 1) := by decide +kernel
theorem de_PM_give_317 : decode cd_PM_give 317 = .ok (.ldc2_w 210, 3) := by decide +kernel
theorem de_PM_give_320 : decode cd_PM_give 320 = .ok (.lconst 1, 1) := by decide +kernel
theorem de_PM_give_321 : decode cd_PM_give 321 = .ok (.invokevirtual 91, 3) := by decide +kernel
theorem de_PM_give_324 : decode cd_PM_give 324 = .ok (.goto 99, 3) := by decide +kernel
theorem de_PM_give_327 : decode cd_PM_give 327 = .ok (.iload 4, 2) := by decide +kernel
theorem de_PM_give_329 : decode cd_PM_give 329 = .ok (.bipush 14, 2) := by decide +kernel
theorem de_PM_give_331 : decode cd_PM_give 331 = .ok (.if_icmp .ne 12, 3) := by decide +kernel
theorem de_PM_give_334 : decode cd_PM_give 334 = .ok (.aload_n 0, 1) := by decide +kernel
theorem de_PM_give_335 : decode cd_PM_give 335 = .ok (.lconst 1, 1) := by decide +kernel
theorem de_PM_give_336 : decode cd_PM_give 336 = .ok (.lconst 1, 1) := by decide +kernel
theorem de_PM_give_337 : decode cd_PM_give 337 = .ok (.invokevirtual 91, 3) := by decide +kernel
theorem de_PM_give_340 : decode cd_PM_give 340 = .ok (.goto 83, 3) := by decide +kernel
theorem de_PM_give_343 : decode cd_PM_give 343 = .ok (.iload 4, 2) := by decide +kernel
theorem de_PM_give_345 : decode cd_PM_give 345 = .ok (.bipush 13, 2) := by decide +kernel
theorem de_PM_give_347 : decode cd_PM_give 347 = .ok (.if_icmp .ne 26, 3) := by decide +kernel
theorem de_PM_give_350 : decode cd_PM_give 350 = .ok (.aload_n 0, 1) := by decide +kernel
theorem de_PM_give_351 : decode cd_PM_give 351 = .ok (.aload_n 0, 1) := by decide +kernel
theorem de_PM_give_352 : decode cd_PM_give 352 = .ok (.getfield 81, 3) := by decide +kernel
theorem de_PM_give_355 : decode cd_PM_give 355 = .ok (.aload_n 0, 1) := by decide +kernel
theorem de_PM_give_356 : decode cd_PM_give 356 = .ok (.getfield 84, 3) := by decide +kernel
theorem de_PM_give_359 : decode cd_PM_give 359 = .ok (.aload_n 0, 1) := by decide +kernel
theorem de_PM_give_360 : decode cd_PM_give 360 = .ok (.getfield 81, 3) := by decide +kernel
theorem de_PM_give_363 : decode cd_PM_give 363 = .ok (.aload_n 0, 1) := by decide +kernel
theorem de_PM_give_364 : decode cd_PM_give 364 = .ok (.getfield 84, 3) := by decide +kernel
theorem de_PM_give_367 : decode cd_PM_give 367 = .ok (.invokevirtual 141, 3) := by decide +kernel
theorem de_PM_give_370 : decode cd_PM_give 370 = .ok (.goto 53, 3) := by decide +kernel
theorem de_PM_give_373 : decode cd_PM_give 373 = .ok (.aload_n 0, 1) := by decide +kernel
theorem de_PM_give_374 : decode cd_PM_give 374 = .ok (.getfield 84, 3) := by decide +kernel
theorem de_PM_give_377 : decode cd_PM_give 377 = .ok (.lconst 0, 1) := by decide +kernel
theorem de_PM_give_378 : decode cd_PM_give 378 = .ok (.lcmp, 1) := by decide +kernel
theorem de_PM_give_379 : decode cd_PM_give 379 = .ok (.ifCond .eq 44, 3) := by decide +kernel
theorem de_PM_give_382 : decode cd_PM_give 382 = .ok (.aload_n 0, 1) := by decide +kernel
theorem de_PM_give_383 : decode cd_PM_give 383 = .ok (.aload_n 0, 1) := by decide +kernel
theorem de_PM_give_384 : decode cd_PM_give 384 = .ok (.getfield 81, 3) := by decide +kernel
theorem de_PM_give_387 : decode cd_PM_give 387 = .ok (.lconst 0, 1) := by decide +kernel
theorem de_PM_give_388 : decode cd_PM_give 388 = .ok (.lcmp, 1) := by decide +kernel
theorem de_PM_give_389 : decode cd_PM_give 389 = .ok (.ifCond .le 7, 3) := by decide +kernel
theorem de_PM_give_392 : decode cd_PM_give 392 = .ok (.lconst 1, 1) := by decide +kernel
theorem de_PM_give_393 : decode cd_PM_give 393 = .ok (.goto 26, 3) := by decide +kernel
theorem de_PM_give_396 : decode cd_PM_give 396 = .ok (.iload 4, 2) := by decide +kernel
theorem de_PM_give_398 : decode cd_PM_give 398 = .ok (.bipush 12, 2) := by decide +kernel
theorem de_PM_give_400 : decode cd_PM_give 400 = .ok (.if_icmp .ne 18, 3) := by decide +kernel
theorem de_PM_give_403 : decode cd_PM_give 403 = .ok (.aload_n 0, 1) := by decide +kernel
theorem de_PM_give_404 : decode cd_PM_give 404 = .ok (.getfield 81, 3) := by decide +kernel
theorem de_PM_give_407 : decode cd_PM_give 407 = .ok (.lconst 0, 1) := by decide +kernel
theorem de_PM_give_408 : decode cd_PM_give 408 = .ok (.lcmp, 1) := by decide +kernel
theorem de_PM_give_409 : decode cd_PM_give 409 = .ok (.ifCond .ge 9, 3) := by decide +kernel
theorem de_PM_give_412 : decode cd_PM_give 412 = .ok (.ldc2_w 210, 3) := by decide +kernel
theorem de_PM_give_415 : decode cd_PM_give 415 = .ok (.goto 4, 3) := by decide +kernel
theorem de_PM_give_418 : decode cd_PM_give 418 = .ok (.lconst 0, 1) := by decide +kernel
theorem de_PM_give_419 : decode cd_PM_give 419 = .ok (.lconst 1, 1) := by decide +kernel
theorem de_PM_give_420 : decode cd_PM_give 420 = .ok (.invokevirtual 91, 3) := by decide +kernel
theorem de_PM_give_423 : decode cd_PM_give 423 = .ok (.aload_n 0, 1) := by decide +kernel
theorem de_PM_give_424 : decode cd_PM_give 424 = .ok (.iload 5, 2) := by decide +kernel
theorem de_PM_give_426 : decode cd_PM_give 426 = .ok (.iload_n 2, 1) := by decide +kernel
theorem de_PM_give_427 : decode cd_PM_give 427 = .ok (.iadd, 1) := by decide +kernel
theorem de_PM_give_428 : decode cd_PM_give 428 = .ok (.invokevirtual 207, 3) := by decide +kernel
theorem de_PM_give_431 : decode cd_PM_give 431 = .ok (.return_, 1) := by decide +kernel
def jb_PM_give_431 (N : Nat) (M : mv_M) : Option (Unit × mv_M) :=
  some ((), M)
def jb_PM_give_294 (N : Nat) (M : mv_M) (s0 : Nat) (s1 : Int32) (s2 : Int32) : Option (Unit × mv_M) :=
  mj_ob M s0 1 <|
  mj_call (jf_PM_gives N M s0 (s1 + s2)) fun r295 Mm295 =>
  jb_PM_give_431 N Mm295
def jb_PM_give_255 (N : Nat) (M : mv_M) (v0 : Nat) (v1 : Int32) (v2 : Int32) (v3 : Int32) (v4 : Int32) (v5 : Int32) : Option (Unit × mv_M) :=
  mj_ob M v0 1 <|
  mj_call (jf_PM_least N M v0 1 1) fun r258 Mm258 =>
  if v4 = 8 then (Option.bind (mj_getR Mm258 v0 1 5) fun x272 =>
  Option.bind x272 fun a276 =>
  Option.bind (mj_ild Mm258 a276 0 v1) fun x276 =>
  mj_ob Mm258 v0 1 <|
  mj_call (jf_PM_cells N Mm258 v0 v1) fun r279 Mm279 =>
  jb_PM_give_294 N Mm279 v0 v5 ((x276 * r279) + v2)) else
  mj_ob Mm258 v0 1 <|
  mj_call (jf_PM_turnedCell N Mm258 v0 v3 v2) fun r291 Mm291 =>
  jb_PM_give_294 N Mm291 v0 v5 r291
def jb_PM_give_423 (N : Nat) (M : mv_M) (v0 : Nat) (v2 : Int32) (v5 : Int32) : Option (Unit × mv_M) :=
  mj_ob M v0 1 <|
  mj_call (jf_PM_gives N M v0 (v5 + v2)) fun r428 Mm428 =>
  jb_PM_give_431 N Mm428
def jb_PM_give_419 (N : Nat) (M : mv_M) (v0 : Nat) (v2 : Int32) (v5 : Int32) (s0 : Nat) (s1 : Int64) : Option (Unit × mv_M) :=
  mj_ob M s0 1 <|
  mj_call (jf_PM_least N M s0 s1 1) fun r420 Mm420 =>
  jb_PM_give_423 N Mm420 v0 v2 v5
def jb_PM_give_418 (N : Nat) (M : mv_M) (v0 : Nat) (v2 : Int32) (v5 : Int32) (s0 : Nat) : Option (Unit × mv_M) :=
  jb_PM_give_419 N M v0 v2 v5 s0 0
def jb_PM_give_207 (N : Nat) : Nat → mv_M → Nat → Int32 → Int32 → Int32 → Option (Unit × mv_M)
  | 0, _, _, _, _, _ => none
  | n + 1, M, v0, v3, v5, v6 =>
    mj_ob M v0 1 <|
    mj_call (jf_PM_cells N M v0 v3) fun r211 Mm211 =>
    if r211 ≤ v6 then (jb_PM_give_431 N Mm211) else
    mj_ob Mm211 v0 1 <|
    mj_call (jf_PM_least N Mm211 v0 1 1) fun r220 Mm220 =>
    mj_ob Mm220 v0 1 <|
    mj_call (jf_PM_gives N Mm220 v0 (v5 + v6)) fun r229 Mm229 =>
    jb_PM_give_207 N n Mm229 v0 v3 v5 (v6 + 1)
def jb_PM_give_167 (N : Nat) (k93 : mv_M → Nat → Int32 → Int32 → Int32 → Int32 → Int32 → Int32 → Int32 → Int32 → Option (Unit × mv_M)) (M : mv_M) (v0 : Nat) (v1 : Int32) (v2 : Int32) (v3 : Int32) (v4 : Int32) (v5 : Int32) (v6 : Int32) (v7 : Int32) (v8 : Int32) : Option (Unit × mv_M) :=
  Option.bind (mj_getR M v0 1 5) fun x173 =>
  Option.bind x173 fun a177 =>
  Option.bind (mj_ild M a177 0 v1) fun x177 =>
  mj_ob M v0 1 <|
  mj_call (jf_PM_alongCell N M v0 v3 x177 v2 v8) fun r181 Mm181 =>
  mj_ob Mm181 v0 1 <|
  mj_call (jf_PM_gives N Mm181 v0 (v5 + r181)) fun r185 Mm185 =>
  k93 Mm185 v0 v1 v2 v3 v4 v5 v6 v7 (v8 + 1)
def jb_PM_give_164 (N : Nat) (k93 : mv_M → Nat → Int32 → Int32 → Int32 → Int32 → Int32 → Int32 → Int32 → Int32 → Option (Unit × mv_M)) (M : mv_M) (v0 : Nat) (v1 : Int32) (v2 : Int32) (v3 : Int32) (v4 : Int32) (v5 : Int32) (v6 : Int32) (v7 : Int32) (v8 : Int32) (s0 : Nat) (s1 : Int64) (s2 : Int64) : Option (Unit × mv_M) :=
  mj_ob M s0 1 <|
  mj_call (jf_PM_least N M s0 s1 s2) fun r164 Mm164 =>
  jb_PM_give_167 N k93 Mm164 v0 v1 v2 v3 v4 v5 v6 v7 v8
def jb_PM_give_141 (N : Nat) (k93 : mv_M → Nat → Int32 → Int32 → Int32 → Int32 → Int32 → Int32 → Int32 → Int32 → Option (Unit × mv_M)) (M : mv_M) (v0 : Nat) (v1 : Int32) (v2 : Int32) (v3 : Int32) (v4 : Int32) (v5 : Int32) (v6 : Int32) (v7 : Int32) (v8 : Int32) (s0 : Nat) (s1 : Int64) : Option (Unit × mv_M) :=
  mj_ob M s0 1 <|
  mj_call (jf_PM_least N M s0 s1 1) fun r142 Mm142 =>
  jb_PM_give_167 N k93 Mm142 v0 v1 v2 v3 v4 v5 v6 v7 v8
def jb_PM_give_121 (N : Nat) (k93 : mv_M → Nat → Int32 → Int32 → Int32 → Int32 → Int32 → Int32 → Int32 → Int32 → Option (Unit × mv_M)) (M : mv_M) (v0 : Nat) (v1 : Int32) (v2 : Int32) (v3 : Int32) (v4 : Int32) (v5 : Int32) (v6 : Int32) (v7 : Int32) (v8 : Int32) : Option (Unit × mv_M) :=
  if v4 = 7 then (if v8 = v7 then (jb_PM_give_141 N k93 M v0 v1 v2 v3 v4 v5 v6 v7 v8 v0 1) else
  jb_PM_give_141 N k93 M v0 v1 v2 v3 v4 v5 v6 v7 v8 v0 0) else
  if v4 = 6 then (jb_PM_give_164 N k93 M v0 v1 v2 v3 v4 v5 v6 v7 v8 v0 1 v6.toInt64) else
  jb_PM_give_164 N k93 M v0 v1 v2 v3 v4 v5 v6 v7 v8 v0 1 1
def jb_PM_give_93 (N : Nat) : Nat → mv_M → Nat → Int32 → Int32 → Int32 → Int32 → Int32 → Int32 → Int32 → Int32 → Option (Unit × mv_M)
  | 0, _, _, _, _, _, _, _, _, _, _ => none
  | n + 1, M, v0, v1, v2, v3, v4, v5, v6, v7, v8 =>
    if v6 ≤ v8 then (jb_PM_give_431 N M) else
    if v4 = 7 then (if 0 ≤ v7 then (jb_PM_give_121 N (jb_PM_give_93 N n) M v0 v1 v2 v3 v4 v5 v6 v7 v8) else
    mj_ob M v0 1 <|
    mj_call (jf_PM_least N M v0 0 0) fun r115 Mm115 =>
    jb_PM_give_167 N (jb_PM_give_93 N n) Mm115 v0 v1 v2 v3 v4 v5 v6 v7 v8) else
    jb_PM_give_121 N (jb_PM_give_93 N n) M v0 v1 v2 v3 v4 v5 v6 v7 v8
def jb_PM_give_88 (N : Nat) (M : mv_M) (v0 : Nat) (v1 : Int32) (v2 : Int32) (v3 : Int32) (v4 : Int32) (v5 : Int32) (v6 : Int32) (s0 : Int32) : Option (Unit × mv_M) :=
  jb_PM_give_93 N N M v0 v1 v2 v3 v4 v5 v6 s0 0
def jb_PM_give_0 (N : Nat) (M : mv_M) (v0 : Nat) (v1 : Int32) (v2 : Int32) : Option (Unit × mv_M) :=
  Option.bind (mj_getR M v0 1 4) fun x1 =>
  Option.bind x1 fun a5 =>
  Option.bind (mj_ild M a5 0 v1) fun x5 =>
  Option.bind (mj_getR M v0 1 3) fun x8 =>
  Option.bind x8 fun a12 =>
  Option.bind (mj_ild M a12 0 v1) fun x12 =>
  if 4 ≤ x12 then (if x12 = 4 then (mj_ob M v0 1 <|
  mj_call (jf_PM_giveProduct N M v0 v1 v2) fun r45 Mm45 =>
  jb_PM_give_431 N Mm45) else
  if 8 ≤ x12 then (if x12 = 15 then (jb_PM_give_207 N N M v0 x5 (64 * x5) 0) else
  if x12 = 8 then (jb_PM_give_255 N M v0 v1 v2 x5 x12 (64 * x5)) else
  if x12 = 9 then (jb_PM_give_255 N M v0 v1 v2 x5 x12 (64 * x5)) else
  mj_ob M v0 1 <|
  mj_call (jf_PM_load N M v0 ((64 * x5) + v2)) fun r306 Mm306 =>
  if x12 = 10 then (mj_ob Mm306 v0 1 <|
  mj_call (jf_PM_least N Mm306 v0 (-1) 1) fun r321 Mm321 =>
  jb_PM_give_423 N Mm321 v0 v2 (64 * x5)) else
  if x12 = 14 then (mj_ob Mm306 v0 1 <|
  mj_call (jf_PM_least N Mm306 v0 1 1) fun r337 Mm337 =>
  jb_PM_give_423 N Mm337 v0 v2 (64 * x5)) else
  if x12 = 13 then (Option.bind (mj_getL Mm306 v0 1 0) fun x352 =>
  Option.bind (mj_getL Mm306 v0 1 1) fun x356 =>
  Option.bind (mj_getL Mm306 v0 1 0) fun x360 =>
  Option.bind (mj_getL Mm306 v0 1 1) fun x364 =>
  mj_ob Mm306 v0 1 <|
  mj_call (jf_PM_plus N Mm306 v0 x352 x356 x360 x364) fun r367 Mm367 =>
  jb_PM_give_423 N Mm367 v0 v2 (64 * x5)) else
  Option.bind (mj_getL Mm306 v0 1 1) fun x374 =>
  if (lg_cmp x374 0) = 0 then (jb_PM_give_423 N Mm306 v0 v2 (64 * x5)) else
  Option.bind (mj_getL Mm306 v0 1 0) fun x384 =>
  if (lg_cmp x384 0) ≤ 0 then (if x12 = 12 then (Option.bind (mj_getL Mm306 v0 1 0) fun x404 =>
  if 0 ≤ (lg_cmp x404 0) then (jb_PM_give_418 N Mm306 v0 v2 (64 * x5) v0) else
  jb_PM_give_419 N Mm306 v0 v2 (64 * x5) v0 (-1)) else
  jb_PM_give_418 N Mm306 v0 v2 (64 * x5) v0) else
  jb_PM_give_419 N Mm306 v0 v2 (64 * x5) v0 1) else
  Option.bind (mj_getR M v0 1 5) fun x61 =>
  Option.bind x61 fun a65 =>
  Option.bind (mj_ild M a65 0 v1) fun x65 =>
  mj_ob M v0 1 <|
  mj_call (jf_PM_sideOf N M v0 x5 x65) fun r66 Mm66 =>
  if x12 = 7 then (mj_ob Mm66 v0 1 <|
  mj_call (jf_PM_greatest N Mm66 v0 v1 v2) fun r81 Mm81 =>
  jb_PM_give_88 N Mm81 v0 v1 v2 x5 x12 (64 * x5) r66 r81) else
  jb_PM_give_88 N Mm66 v0 v1 v2 x5 x12 (64 * x5) r66 0) else
  mj_ob M v0 1 <|
  mj_call (jf_PM_giveTwo N M v0 v1 v2) fun r30 Mm30 =>
  jb_PM_give_431 N Mm30
def jf_PM_give (N : Nat) (M : mv_M) (v0 : Nat) (v1 : Int32) (v2 : Int32) : Option (Unit × mv_M) := jb_PM_give_0 N M v0 v1 v2
set_option maxHeartbeats 4000000 in
set_option maxRecDepth 100000 in
theorem tb_PM_give_431 (l : Launch) (D : va_G) (E : Nat → ClassId) (B : Nat) (sa : (Nat → Nat) × Nat × (Nat → Int32)) (M0 M1 : mv_M) (r : Unit) (N : Nat) (M : mv_M) (hJ : jb_PM_give_431 N M = some (r, M1)) : mv_G (xg l D E B sa) kd_PM_give M0 M1 none M 431 [] [] := by
  unfold jb_PM_give_431 at hJ
  exact mv_vret (pc := 431) rfl de_PM_give_431 hJ
set_option maxHeartbeats 4000000 in
set_option maxRecDepth 100000 in
theorem tb_PM_give_294 (l : Launch) (D : va_G) (E : Nat → ClassId) (B : Nat) (sa : (Nat → Nat) × Nat × (Nat → Int32)) (M0 M1 : mv_M) (r : Unit) (N : Nat) (M : mv_M) (s0 : Nat) (s1 : Int32) (s2 : Int32) (hJ : jb_PM_give_294 N M s0 s1 s2 = some (r, M1)) : mv_G (xg l D E B sa) kd_PM_give M0 M1 none M 294 [] [.int s2, .int s1, va_rf (some s0)] := by
  unfold jb_PM_give_294 at hJ
  refine mv_iadd (pc := 294) de_PM_give_294 ?_
  obtain ⟨hi295, h295o⟩ := mj_obE hJ
  obtain ⟨r295, Mm295, hz295, h295⟩ := mj_callE h295o
  refine mv_callV (pc := 295) (n := 1) (av := [.int (s1 + s2)]) (rest := []) de_PM_give_295 (kc_1 l D E B sa) hi295 (cm_PM_gives l D E B sa N M s0 (s1 + s2) _ _ hz295) wt_5_85 wt_5_87 wp_50 wt_1_8 wt_5_88 ⟨by decide, by decide, by decide +kernel⟩ rfl ⟨Nat.le_of_ble_eq_true rfl, Nat.le_of_ble_eq_true rfl⟩ (Nat.le_of_ble_eq_true rfl) rfl ?_
  refine mv_goto (pc := 298) (tgt := 431) de_PM_give_298 (by decide) ?_
  exact mv_sub [] rfl (tb_PM_give_431 l D E B sa M0 M1 r N Mm295 h295)
set_option maxHeartbeats 4000000 in
set_option maxRecDepth 100000 in
theorem tb_PM_give_255 (l : Launch) (D : va_G) (E : Nat → ClassId) (B : Nat) (sa : (Nat → Nat) × Nat × (Nat → Int32)) (M0 M1 : mv_M) (r : Unit) (N : Nat) (M : mv_M) (v0 : Nat) (v1 : Int32) (v2 : Int32) (v3 : Int32) (v4 : Int32) (v5 : Int32) (hJ : jb_PM_give_255 N M v0 v1 v2 v3 v4 v5 = some (r, M1)) : mv_G (xg l D E B sa) kd_PM_give M0 M1 none M 255 [(0, va_rf (some v0)), (1, .int v1), (2, .int v2), (3, .int v3), (4, .int v4), (5, .int v5)] [] := by
  unfold jb_PM_give_255 at hJ
  refine mv_aload_n (pc := 255) (i := 0) de_PM_give_255 rfl 0 rfl ?_
  refine mv_lconst (pc := 256) (v := 1) de_PM_give_256 (by decide) ?_
  refine mv_lconst (pc := 257) (v := 1) de_PM_give_257 (by decide) ?_
  obtain ⟨hi258, h258o⟩ := mj_obE hJ
  obtain ⟨r258, Mm258, hz258, h258⟩ := mj_callE h258o
  refine mv_callV (pc := 258) (n := 2) (av := [.long 1, .long 1]) (rest := []) de_PM_give_258 (kc_1 l D E B sa) hi258 (cm_PM_least l D E B sa N M v0 1 1 _ _ hz258) wt_4_217 wt_4_219 wp_29 wt_1_8 wt_4_220 ⟨by decide, by decide, by decide +kernel⟩ rfl ⟨Nat.le_of_ble_eq_true rfl, Nat.le_of_ble_eq_true rfl⟩ (Nat.le_of_ble_eq_true rfl) rfl ?_
  refine mv_aload_n (pc := 261) (i := 0) de_PM_give_261 rfl 0 rfl ?_
  refine mv_iload (pc := 262) de_PM_give_262 5 rfl ?_
  refine mv_iload (pc := 264) de_PM_give_264 4 rfl ?_
  refine mv_bipush (pc := 266) (v := 8) de_PM_give_266 (by decide) ?_
  refine mv_icmp_ne (pc := 268) (tgt := 288) de_PM_give_268 (by decide) h258 (fun hc268 h268 => ?_) (fun hc268 h268 => ?_)
  · refine mv_aload_n (pc := 271) (i := 0) de_PM_give_271 rfl 0 rfl ?_
    refine mv_getR (pc := 272) (f := 5) (kc_1 l D E B sa) (Nat.le_of_ble_eq_true rfl) wt_4_85 de_PM_give_272 h268 (fun x272 e272 h272 => ?_)
    refine mv_iload_n (pc := 275) (i := 1) de_PM_give_275 rfl 1 rfl ?_
    obtain ⟨a276, ha, h276a⟩ := mj_bindE h272
    subst ha
    refine mv_iald (pc := 276) (t := 0) rfl de_PM_give_276 h276a (fun x276 e276 h276 => ?_)
    refine mv_aload_n (pc := 277) (i := 0) de_PM_give_277 rfl 0 rfl ?_
    refine mv_iload_n (pc := 278) (i := 1) de_PM_give_278 rfl 1 rfl ?_
    obtain ⟨hi279, h279o⟩ := mj_obE h276
    obtain ⟨r279, Mm279, hz279, h279⟩ := mj_callE h279o
    refine mv_callV (pc := 279) (n := 1) (av := [.int v1]) (rest := [.int x276, .int v5, va_rf (some v0)]) de_PM_give_279 (kc_1 l D E B sa) hi279 (cm_PM_cells l D E B sa N Mm258 v0 v1 _ _ hz279) wt_4_213 wt_4_215 wp_28 wt_1_8 wt_4_216 ⟨by decide, by decide, by decide +kernel⟩ rfl ⟨Nat.le_of_ble_eq_true rfl, Nat.le_of_ble_eq_true rfl⟩ (Nat.le_of_ble_eq_true rfl) rfl ?_
    refine mv_imul (pc := 282) de_PM_give_282 ?_
    refine mv_iload_n (pc := 283) (i := 2) de_PM_give_283 rfl 2 rfl ?_
    refine mv_iadd (pc := 284) de_PM_give_284 ?_
    refine mv_goto (pc := 285) (tgt := 294) de_PM_give_285 (by decide) ?_
    exact mv_sub [] rfl (tb_PM_give_294 l D E B sa M0 M1 r N Mm279 v0 v5 ((x276 * r279) + v2) h279)
  · refine mv_aload_n (pc := 288) (i := 0) de_PM_give_288 rfl 0 rfl ?_
    refine mv_iload_n (pc := 289) (i := 3) de_PM_give_289 rfl 3 rfl ?_
    refine mv_iload_n (pc := 290) (i := 2) de_PM_give_290 rfl 2 rfl ?_
    obtain ⟨hi291, h291o⟩ := mj_obE h268
    obtain ⟨r291, Mm291, hz291, h291⟩ := mj_callE h291o
    refine mv_callV (pc := 291) (n := 2) (av := [.int v3, .int v2]) (rest := [.int v5, va_rf (some v0)]) de_PM_give_291 (kc_1 l D E B sa) hi291 (cm_PM_turnedCell l D E B sa N Mm258 v0 v3 v2 _ _ hz291) wt_5_61 wt_5_63 wp_45 wt_1_8 wt_5_64 ⟨by decide, by decide, by decide +kernel⟩ rfl ⟨Nat.le_of_ble_eq_true rfl, Nat.le_of_ble_eq_true rfl⟩ (Nat.le_of_ble_eq_true rfl) rfl ?_
    exact mv_sub [] rfl (tb_PM_give_294 l D E B sa M0 M1 r N Mm291 v0 v5 r291 h291)
set_option maxHeartbeats 4000000 in
set_option maxRecDepth 100000 in
theorem tb_PM_give_423 (l : Launch) (D : va_G) (E : Nat → ClassId) (B : Nat) (sa : (Nat → Nat) × Nat × (Nat → Int32)) (M0 M1 : mv_M) (r : Unit) (N : Nat) (M : mv_M) (v0 : Nat) (v2 : Int32) (v5 : Int32) (hJ : jb_PM_give_423 N M v0 v2 v5 = some (r, M1)) : mv_G (xg l D E B sa) kd_PM_give M0 M1 none M 423 [(0, va_rf (some v0)), (2, .int v2), (5, .int v5)] [] := by
  unfold jb_PM_give_423 at hJ
  refine mv_aload_n (pc := 423) (i := 0) de_PM_give_423 rfl 0 rfl ?_
  refine mv_iload (pc := 424) de_PM_give_424 2 rfl ?_
  refine mv_iload_n (pc := 426) (i := 2) de_PM_give_426 rfl 1 rfl ?_
  refine mv_iadd (pc := 427) de_PM_give_427 ?_
  obtain ⟨hi428, h428o⟩ := mj_obE hJ
  obtain ⟨r428, Mm428, hz428, h428⟩ := mj_callE h428o
  refine mv_callV (pc := 428) (n := 1) (av := [.int (v5 + v2)]) (rest := []) de_PM_give_428 (kc_1 l D E B sa) hi428 (cm_PM_gives l D E B sa N M v0 (v5 + v2) _ _ hz428) wt_5_85 wt_5_87 wp_50 wt_1_8 wt_5_88 ⟨by decide, by decide, by decide +kernel⟩ rfl ⟨Nat.le_of_ble_eq_true rfl, Nat.le_of_ble_eq_true rfl⟩ (Nat.le_of_ble_eq_true rfl) rfl ?_
  exact mv_sub [] rfl (tb_PM_give_431 l D E B sa M0 M1 r N Mm428 h428)
set_option maxHeartbeats 4000000 in
set_option maxRecDepth 100000 in
theorem tb_PM_give_419 (l : Launch) (D : va_G) (E : Nat → ClassId) (B : Nat) (sa : (Nat → Nat) × Nat × (Nat → Int32)) (M0 M1 : mv_M) (r : Unit) (N : Nat) (M : mv_M) (v0 : Nat) (v2 : Int32) (v5 : Int32) (s0 : Nat) (s1 : Int64) (hJ : jb_PM_give_419 N M v0 v2 v5 s0 s1 = some (r, M1)) : mv_G (xg l D E B sa) kd_PM_give M0 M1 none M 419 [(0, va_rf (some v0)), (2, .int v2), (5, .int v5)] [.long s1, va_rf (some s0)] := by
  unfold jb_PM_give_419 at hJ
  refine mv_lconst (pc := 419) (v := 1) de_PM_give_419 (by decide) ?_
  obtain ⟨hi420, h420o⟩ := mj_obE hJ
  obtain ⟨r420, Mm420, hz420, h420⟩ := mj_callE h420o
  refine mv_callV (pc := 420) (n := 2) (av := [.long s1, .long 1]) (rest := []) de_PM_give_420 (kc_1 l D E B sa) hi420 (cm_PM_least l D E B sa N M s0 s1 1 _ _ hz420) wt_4_217 wt_4_219 wp_29 wt_1_8 wt_4_220 ⟨by decide, by decide, by decide +kernel⟩ rfl ⟨Nat.le_of_ble_eq_true rfl, Nat.le_of_ble_eq_true rfl⟩ (Nat.le_of_ble_eq_true rfl) rfl ?_
  exact mv_sub [0, 1, 2] rfl (tb_PM_give_423 l D E B sa M0 M1 r N Mm420 v0 v2 v5 h420)
set_option maxHeartbeats 4000000 in
set_option maxRecDepth 100000 in
theorem tb_PM_give_418 (l : Launch) (D : va_G) (E : Nat → ClassId) (B : Nat) (sa : (Nat → Nat) × Nat × (Nat → Int32)) (M0 M1 : mv_M) (r : Unit) (N : Nat) (M : mv_M) (v0 : Nat) (v2 : Int32) (v5 : Int32) (s0 : Nat) (hJ : jb_PM_give_418 N M v0 v2 v5 s0 = some (r, M1)) : mv_G (xg l D E B sa) kd_PM_give M0 M1 none M 418 [(0, va_rf (some v0)), (2, .int v2), (5, .int v5)] [va_rf (some s0)] := by
  unfold jb_PM_give_418 at hJ
  refine mv_lconst (pc := 418) (v := 0) de_PM_give_418 (by decide) ?_
  exact mv_sub [0, 1, 2] rfl (tb_PM_give_419 l D E B sa M0 M1 r N M v0 v2 v5 s0 0 hJ)
set_option maxHeartbeats 4000000 in
set_option maxRecDepth 100000 in
theorem tb_PM_give_207 (l : Launch) (D : va_G) (E : Nat → ClassId) (B : Nat) (sa : (Nat → Nat) × Nat × (Nat → Int32)) (M0 M1 : mv_M) (r : Unit) (N : Nat) : ∀ (n : Nat) (M : mv_M) (v0 : Nat) (v3 : Int32) (v5 : Int32) (v6 : Int32) (hJ : jb_PM_give_207 N n M v0 v3 v5 v6 = some (r, M1)), mv_G (xg l D E B sa) kd_PM_give M0 M1 none M 207 [(0, va_rf (some v0)), (3, .int v3), (5, .int v5), (6, .int v6)] [] := by
  intro n
  induction n with
  | zero => intro M v0 v3 v5 v6 hJ; cases hJ
  | succ n ih =>
    intro M v0 v3 v5 v6 hJ
    rw [jb_PM_give_207] at hJ
    refine mv_iload (pc := 207) de_PM_give_207 3 rfl ?_
    refine mv_aload_n (pc := 209) (i := 0) de_PM_give_209 rfl 0 rfl ?_
    refine mv_iload_n (pc := 210) (i := 3) de_PM_give_210 rfl 1 rfl ?_
    obtain ⟨hi211, h211o⟩ := mj_obE hJ
    obtain ⟨r211, Mm211, hz211, h211⟩ := mj_callE h211o
    refine mv_callV (pc := 211) (n := 1) (av := [.int v3]) (rest := [.int v6]) de_PM_give_211 (kc_1 l D E B sa) hi211 (cm_PM_cells l D E B sa N M v0 v3 _ _ hz211) wt_4_213 wt_4_215 wp_28 wt_1_8 wt_4_216 ⟨by decide, by decide, by decide +kernel⟩ rfl ⟨Nat.le_of_ble_eq_true rfl, Nat.le_of_ble_eq_true rfl⟩ (Nat.le_of_ble_eq_true rfl) rfl ?_
    refine mv_icmp_ge (pc := 214) (tgt := 238) de_PM_give_214 (by decide) h211 (fun hc214 h214 => ?_) (fun hc214 h214 => ?_)
    · refine mv_goto (pc := 238) (tgt := 431) de_PM_give_238 (by decide) ?_
      exact mv_sub [] rfl (tb_PM_give_431 l D E B sa M0 M1 r N Mm211 h214)
    · refine mv_aload_n (pc := 217) (i := 0) de_PM_give_217 rfl 0 rfl ?_
      refine mv_lconst (pc := 218) (v := 1) de_PM_give_218 (by decide) ?_
      refine mv_lconst (pc := 219) (v := 1) de_PM_give_219 (by decide) ?_
      obtain ⟨hi220, h220o⟩ := mj_obE h214
      obtain ⟨r220, Mm220, hz220, h220⟩ := mj_callE h220o
      refine mv_callV (pc := 220) (n := 2) (av := [.long 1, .long 1]) (rest := []) de_PM_give_220 (kc_1 l D E B sa) hi220 (cm_PM_least l D E B sa N Mm211 v0 1 1 _ _ hz220) wt_4_217 wt_4_219 wp_29 wt_1_8 wt_4_220 ⟨by decide, by decide, by decide +kernel⟩ rfl ⟨Nat.le_of_ble_eq_true rfl, Nat.le_of_ble_eq_true rfl⟩ (Nat.le_of_ble_eq_true rfl) rfl ?_
      refine mv_aload_n (pc := 223) (i := 0) de_PM_give_223 rfl 0 rfl ?_
      refine mv_iload (pc := 224) de_PM_give_224 2 rfl ?_
      refine mv_iload (pc := 226) de_PM_give_226 3 rfl ?_
      refine mv_iadd (pc := 228) de_PM_give_228 ?_
      obtain ⟨hi229, h229o⟩ := mj_obE h220
      obtain ⟨r229, Mm229, hz229, h229⟩ := mj_callE h229o
      refine mv_callV (pc := 229) (n := 1) (av := [.int (v5 + v6)]) (rest := []) de_PM_give_229 (kc_1 l D E B sa) hi229 (cm_PM_gives l D E B sa N Mm220 v0 (v5 + v6) _ _ hz229) wt_5_85 wt_5_87 wp_50 wt_1_8 wt_5_88 ⟨by decide, by decide, by decide +kernel⟩ rfl ⟨Nat.le_of_ble_eq_true rfl, Nat.le_of_ble_eq_true rfl⟩ (Nat.le_of_ble_eq_true rfl) rfl ?_
      refine mv_iinc (pc := 232) (v := (v6 + 1)) (lv' := [(6, .int (v6 + 1)), (0, va_rf (some v0)), (3, .int v3), (5, .int v5)]) de_PM_give_232 3 rfl rfl (Nat.le_of_ble_eq_true rfl) rfl ?_
      refine mv_goto (pc := 235) (tgt := 207) de_PM_give_235 (by decide) ?_
      exact mv_sub [1, 2, 3, 0] rfl (ih Mm229 v0 v3 v5 (v6 + 1) h229)
set_option maxHeartbeats 4000000 in
set_option maxRecDepth 100000 in
theorem tb_PM_give_167 (l : Launch) (D : va_G) (E : Nat → ClassId) (B : Nat) (sa : (Nat → Nat) × Nat × (Nat → Int32)) (M0 M1 : mv_M) (r : Unit) (N : Nat) (k93 : mv_M → Nat → Int32 → Int32 → Int32 → Int32 → Int32 → Int32 → Int32 → Int32 → Option (Unit × mv_M)) (hk93 : ∀ (M : mv_M) (v0 : Nat) (v1 : Int32) (v2 : Int32) (v3 : Int32) (v4 : Int32) (v5 : Int32) (v6 : Int32) (v7 : Int32) (v8 : Int32), k93 M v0 v1 v2 v3 v4 v5 v6 v7 v8 = some (r, M1) → mv_G (xg l D E B sa) kd_PM_give M0 M1 none M 93 [(0, va_rf (some v0)), (1, .int v1), (2, .int v2), (3, .int v3), (4, .int v4), (5, .int v5), (6, .int v6), (7, .int v7), (8, .int v8)] []) (M : mv_M) (v0 : Nat) (v1 : Int32) (v2 : Int32) (v3 : Int32) (v4 : Int32) (v5 : Int32) (v6 : Int32) (v7 : Int32) (v8 : Int32) (hJ : jb_PM_give_167 N k93 M v0 v1 v2 v3 v4 v5 v6 v7 v8 = some (r, M1)) : mv_G (xg l D E B sa) kd_PM_give M0 M1 none M 167 [(0, va_rf (some v0)), (1, .int v1), (2, .int v2), (3, .int v3), (4, .int v4), (5, .int v5), (6, .int v6), (7, .int v7), (8, .int v8)] [] := by
  unfold jb_PM_give_167 at hJ
  refine mv_aload_n (pc := 167) (i := 0) de_PM_give_167 rfl 0 rfl ?_
  refine mv_iload (pc := 168) de_PM_give_168 5 rfl ?_
  refine mv_aload_n (pc := 170) (i := 0) de_PM_give_170 rfl 0 rfl ?_
  refine mv_iload_n (pc := 171) (i := 3) de_PM_give_171 rfl 3 rfl ?_
  refine mv_aload_n (pc := 172) (i := 0) de_PM_give_172 rfl 0 rfl ?_
  refine mv_getR (pc := 173) (f := 5) (kc_1 l D E B sa) (Nat.le_of_ble_eq_true rfl) wt_4_85 de_PM_give_173 hJ (fun x173 e173 h173 => ?_)
  refine mv_iload_n (pc := 176) (i := 1) de_PM_give_176 rfl 1 rfl ?_
  obtain ⟨a177, ha, h177a⟩ := mj_bindE h173
  subst ha
  refine mv_iald (pc := 177) (t := 0) rfl de_PM_give_177 h177a (fun x177 e177 h177 => ?_)
  refine mv_iload_n (pc := 178) (i := 2) de_PM_give_178 rfl 2 rfl ?_
  refine mv_iload (pc := 179) de_PM_give_179 8 rfl ?_
  obtain ⟨hi181, h181o⟩ := mj_obE h177
  obtain ⟨r181, Mm181, hz181, h181⟩ := mj_callE h181o
  refine mv_callV (pc := 181) (n := 4) (av := [.int v3, .int x177, .int v2, .int v8]) (rest := [.int v5, va_rf (some v0)]) de_PM_give_181 (kc_1 l D E B sa) hi181 (cm_PM_alongCell l D E B sa N M v0 v3 x177 v2 v8 _ _ hz181) wt_5_50 wt_5_52 wp_43 wt_1_8 wt_5_53 ⟨by decide, by decide, by decide +kernel⟩ rfl ⟨Nat.le_of_ble_eq_true rfl, Nat.le_of_ble_eq_true rfl⟩ (Nat.le_of_ble_eq_true rfl) rfl ?_
  refine mv_iadd (pc := 184) de_PM_give_184 ?_
  obtain ⟨hi185, h185o⟩ := mj_obE h181
  obtain ⟨r185, Mm185, hz185, h185⟩ := mj_callE h185o
  refine mv_callV (pc := 185) (n := 1) (av := [.int (v5 + r181)]) (rest := []) de_PM_give_185 (kc_1 l D E B sa) hi185 (cm_PM_gives l D E B sa N Mm181 v0 (v5 + r181) _ _ hz185) wt_5_85 wt_5_87 wp_50 wt_1_8 wt_5_88 ⟨by decide, by decide, by decide +kernel⟩ rfl ⟨Nat.le_of_ble_eq_true rfl, Nat.le_of_ble_eq_true rfl⟩ (Nat.le_of_ble_eq_true rfl) rfl ?_
  refine mv_iinc (pc := 188) (v := (v8 + 1)) (lv' := [(8, .int (v8 + 1)), (0, va_rf (some v0)), (1, .int v1), (2, .int v2), (3, .int v3), (4, .int v4), (5, .int v5), (6, .int v6), (7, .int v7)]) de_PM_give_188 8 rfl rfl (Nat.le_of_ble_eq_true rfl) rfl ?_
  refine mv_goto (pc := 191) (tgt := 93) de_PM_give_191 (by decide) ?_
  exact mv_sub [1, 2, 3, 4, 5, 6, 7, 8, 0] rfl (hk93 Mm185 v0 v1 v2 v3 v4 v5 v6 v7 (v8 + 1) h185)
set_option maxHeartbeats 4000000 in
set_option maxRecDepth 100000 in
theorem tb_PM_give_164 (l : Launch) (D : va_G) (E : Nat → ClassId) (B : Nat) (sa : (Nat → Nat) × Nat × (Nat → Int32)) (M0 M1 : mv_M) (r : Unit) (N : Nat) (k93 : mv_M → Nat → Int32 → Int32 → Int32 → Int32 → Int32 → Int32 → Int32 → Int32 → Option (Unit × mv_M)) (hk93 : ∀ (M : mv_M) (v0 : Nat) (v1 : Int32) (v2 : Int32) (v3 : Int32) (v4 : Int32) (v5 : Int32) (v6 : Int32) (v7 : Int32) (v8 : Int32), k93 M v0 v1 v2 v3 v4 v5 v6 v7 v8 = some (r, M1) → mv_G (xg l D E B sa) kd_PM_give M0 M1 none M 93 [(0, va_rf (some v0)), (1, .int v1), (2, .int v2), (3, .int v3), (4, .int v4), (5, .int v5), (6, .int v6), (7, .int v7), (8, .int v8)] []) (M : mv_M) (v0 : Nat) (v1 : Int32) (v2 : Int32) (v3 : Int32) (v4 : Int32) (v5 : Int32) (v6 : Int32) (v7 : Int32) (v8 : Int32) (s0 : Nat) (s1 : Int64) (s2 : Int64) (hJ : jb_PM_give_164 N k93 M v0 v1 v2 v3 v4 v5 v6 v7 v8 s0 s1 s2 = some (r, M1)) : mv_G (xg l D E B sa) kd_PM_give M0 M1 none M 164 [(0, va_rf (some v0)), (1, .int v1), (2, .int v2), (3, .int v3), (4, .int v4), (5, .int v5), (6, .int v6), (7, .int v7), (8, .int v8)] [.long s2, .long s1, va_rf (some s0)] := by
  unfold jb_PM_give_164 at hJ
  obtain ⟨hi164, h164o⟩ := mj_obE hJ
  obtain ⟨r164, Mm164, hz164, h164⟩ := mj_callE h164o
  refine mv_callV (pc := 164) (n := 2) (av := [.long s1, .long s2]) (rest := []) de_PM_give_164 (kc_1 l D E B sa) hi164 (cm_PM_least l D E B sa N M s0 s1 s2 _ _ hz164) wt_4_217 wt_4_219 wp_29 wt_1_8 wt_4_220 ⟨by decide, by decide, by decide +kernel⟩ rfl ⟨Nat.le_of_ble_eq_true rfl, Nat.le_of_ble_eq_true rfl⟩ (Nat.le_of_ble_eq_true rfl) rfl ?_
  exact mv_sub [0, 1, 2, 3, 4, 5, 6, 7, 8] rfl (tb_PM_give_167 l D E B sa M0 M1 r N k93 hk93 Mm164 v0 v1 v2 v3 v4 v5 v6 v7 v8 h164)
set_option maxHeartbeats 4000000 in
set_option maxRecDepth 100000 in
theorem tb_PM_give_141 (l : Launch) (D : va_G) (E : Nat → ClassId) (B : Nat) (sa : (Nat → Nat) × Nat × (Nat → Int32)) (M0 M1 : mv_M) (r : Unit) (N : Nat) (k93 : mv_M → Nat → Int32 → Int32 → Int32 → Int32 → Int32 → Int32 → Int32 → Int32 → Option (Unit × mv_M)) (hk93 : ∀ (M : mv_M) (v0 : Nat) (v1 : Int32) (v2 : Int32) (v3 : Int32) (v4 : Int32) (v5 : Int32) (v6 : Int32) (v7 : Int32) (v8 : Int32), k93 M v0 v1 v2 v3 v4 v5 v6 v7 v8 = some (r, M1) → mv_G (xg l D E B sa) kd_PM_give M0 M1 none M 93 [(0, va_rf (some v0)), (1, .int v1), (2, .int v2), (3, .int v3), (4, .int v4), (5, .int v5), (6, .int v6), (7, .int v7), (8, .int v8)] []) (M : mv_M) (v0 : Nat) (v1 : Int32) (v2 : Int32) (v3 : Int32) (v4 : Int32) (v5 : Int32) (v6 : Int32) (v7 : Int32) (v8 : Int32) (s0 : Nat) (s1 : Int64) (hJ : jb_PM_give_141 N k93 M v0 v1 v2 v3 v4 v5 v6 v7 v8 s0 s1 = some (r, M1)) : mv_G (xg l D E B sa) kd_PM_give M0 M1 none M 141 [(0, va_rf (some v0)), (1, .int v1), (2, .int v2), (3, .int v3), (4, .int v4), (5, .int v5), (6, .int v6), (7, .int v7), (8, .int v8)] [.long s1, va_rf (some s0)] := by
  unfold jb_PM_give_141 at hJ
  refine mv_lconst (pc := 141) (v := 1) de_PM_give_141 (by decide) ?_
  obtain ⟨hi142, h142o⟩ := mj_obE hJ
  obtain ⟨r142, Mm142, hz142, h142⟩ := mj_callE h142o
  refine mv_callV (pc := 142) (n := 2) (av := [.long s1, .long 1]) (rest := []) de_PM_give_142 (kc_1 l D E B sa) hi142 (cm_PM_least l D E B sa N M s0 s1 1 _ _ hz142) wt_4_217 wt_4_219 wp_29 wt_1_8 wt_4_220 ⟨by decide, by decide, by decide +kernel⟩ rfl ⟨Nat.le_of_ble_eq_true rfl, Nat.le_of_ble_eq_true rfl⟩ (Nat.le_of_ble_eq_true rfl) rfl ?_
  refine mv_goto (pc := 145) (tgt := 167) de_PM_give_145 (by decide) ?_
  exact mv_sub [0, 1, 2, 3, 4, 5, 6, 7, 8] rfl (tb_PM_give_167 l D E B sa M0 M1 r N k93 hk93 Mm142 v0 v1 v2 v3 v4 v5 v6 v7 v8 h142)
set_option maxHeartbeats 4000000 in
set_option maxRecDepth 100000 in
theorem tb_PM_give_121 (l : Launch) (D : va_G) (E : Nat → ClassId) (B : Nat) (sa : (Nat → Nat) × Nat × (Nat → Int32)) (M0 M1 : mv_M) (r : Unit) (N : Nat) (k93 : mv_M → Nat → Int32 → Int32 → Int32 → Int32 → Int32 → Int32 → Int32 → Int32 → Option (Unit × mv_M)) (hk93 : ∀ (M : mv_M) (v0 : Nat) (v1 : Int32) (v2 : Int32) (v3 : Int32) (v4 : Int32) (v5 : Int32) (v6 : Int32) (v7 : Int32) (v8 : Int32), k93 M v0 v1 v2 v3 v4 v5 v6 v7 v8 = some (r, M1) → mv_G (xg l D E B sa) kd_PM_give M0 M1 none M 93 [(0, va_rf (some v0)), (1, .int v1), (2, .int v2), (3, .int v3), (4, .int v4), (5, .int v5), (6, .int v6), (7, .int v7), (8, .int v8)] []) (M : mv_M) (v0 : Nat) (v1 : Int32) (v2 : Int32) (v3 : Int32) (v4 : Int32) (v5 : Int32) (v6 : Int32) (v7 : Int32) (v8 : Int32) (hJ : jb_PM_give_121 N k93 M v0 v1 v2 v3 v4 v5 v6 v7 v8 = some (r, M1)) : mv_G (xg l D E B sa) kd_PM_give M0 M1 none M 121 [(0, va_rf (some v0)), (1, .int v1), (2, .int v2), (3, .int v3), (4, .int v4), (5, .int v5), (6, .int v6), (7, .int v7), (8, .int v8)] [] := by
  unfold jb_PM_give_121 at hJ
  refine mv_iload (pc := 121) de_PM_give_121 4 rfl ?_
  refine mv_bipush (pc := 123) (v := 7) de_PM_give_123 (by decide) ?_
  refine mv_icmp_ne (pc := 125) (tgt := 148) de_PM_give_125 (by decide) hJ (fun hc125 h125 => ?_) (fun hc125 h125 => ?_)
  · refine mv_aload_n (pc := 128) (i := 0) de_PM_give_128 rfl 0 rfl ?_
    refine mv_iload (pc := 129) de_PM_give_129 8 rfl ?_
    refine mv_iload (pc := 131) de_PM_give_131 7 rfl ?_
    refine mv_icmp_ne (pc := 133) (tgt := 140) de_PM_give_133 (by decide) h125 (fun hc133 h133 => ?_) (fun hc133 h133 => ?_)
    · refine mv_lconst (pc := 136) (v := 1) de_PM_give_136 (by decide) ?_
      refine mv_goto (pc := 137) (tgt := 141) de_PM_give_137 (by decide) ?_
      exact mv_sub [0, 1, 2, 3, 4, 5, 6, 7, 8] rfl (tb_PM_give_141 l D E B sa M0 M1 r N k93 hk93 M v0 v1 v2 v3 v4 v5 v6 v7 v8 v0 1 h133)
    · refine mv_lconst (pc := 140) (v := 0) de_PM_give_140 (by decide) ?_
      exact mv_sub [0, 1, 2, 3, 4, 5, 6, 7, 8] rfl (tb_PM_give_141 l D E B sa M0 M1 r N k93 hk93 M v0 v1 v2 v3 v4 v5 v6 v7 v8 v0 0 h133)
  · refine mv_aload_n (pc := 148) (i := 0) de_PM_give_148 rfl 0 rfl ?_
    refine mv_lconst (pc := 149) (v := 1) de_PM_give_149 (by decide) ?_
    refine mv_iload (pc := 150) de_PM_give_150 4 rfl ?_
    refine mv_bipush (pc := 152) (v := 6) de_PM_give_152 (by decide) ?_
    refine mv_icmp_ne (pc := 154) (tgt := 163) de_PM_give_154 (by decide) h125 (fun hc154 h154 => ?_) (fun hc154 h154 => ?_)
    · refine mv_iload (pc := 157) de_PM_give_157 6 rfl ?_
      refine mv_i2l (pc := 159) de_PM_give_159 ?_
      refine mv_goto (pc := 160) (tgt := 164) de_PM_give_160 (by decide) ?_
      exact mv_sub [0, 1, 2, 3, 4, 5, 6, 7, 8] rfl (tb_PM_give_164 l D E B sa M0 M1 r N k93 hk93 M v0 v1 v2 v3 v4 v5 v6 v7 v8 v0 1 v6.toInt64 h154)
    · refine mv_lconst (pc := 163) (v := 1) de_PM_give_163 (by decide) ?_
      exact mv_sub [0, 1, 2, 3, 4, 5, 6, 7, 8] rfl (tb_PM_give_164 l D E B sa M0 M1 r N k93 hk93 M v0 v1 v2 v3 v4 v5 v6 v7 v8 v0 1 1 h154)
set_option maxHeartbeats 4000000 in
set_option maxRecDepth 100000 in
theorem tb_PM_give_93 (l : Launch) (D : va_G) (E : Nat → ClassId) (B : Nat) (sa : (Nat → Nat) × Nat × (Nat → Int32)) (M0 M1 : mv_M) (r : Unit) (N : Nat) : ∀ (n : Nat) (M : mv_M) (v0 : Nat) (v1 : Int32) (v2 : Int32) (v3 : Int32) (v4 : Int32) (v5 : Int32) (v6 : Int32) (v7 : Int32) (v8 : Int32) (hJ : jb_PM_give_93 N n M v0 v1 v2 v3 v4 v5 v6 v7 v8 = some (r, M1)), mv_G (xg l D E B sa) kd_PM_give M0 M1 none M 93 [(0, va_rf (some v0)), (1, .int v1), (2, .int v2), (3, .int v3), (4, .int v4), (5, .int v5), (6, .int v6), (7, .int v7), (8, .int v8)] [] := by
  intro n
  induction n with
  | zero => intro M v0 v1 v2 v3 v4 v5 v6 v7 v8 hJ; cases hJ
  | succ n ih =>
    intro M v0 v1 v2 v3 v4 v5 v6 v7 v8 hJ
    rw [jb_PM_give_93] at hJ
    refine mv_iload (pc := 93) de_PM_give_93 8 rfl ?_
    refine mv_iload (pc := 95) de_PM_give_95 6 rfl ?_
    refine mv_icmp_ge (pc := 97) (tgt := 194) de_PM_give_97 (by decide) hJ (fun hc97 h97 => ?_) (fun hc97 h97 => ?_)
    · refine mv_goto (pc := 194) (tgt := 431) de_PM_give_194 (by decide) ?_
      exact mv_sub [] rfl (tb_PM_give_431 l D E B sa M0 M1 r N M h97)
    · refine mv_iload (pc := 100) de_PM_give_100 4 rfl ?_
      refine mv_bipush (pc := 102) (v := 7) de_PM_give_102 (by decide) ?_
      refine mv_icmp_ne (pc := 104) (tgt := 121) de_PM_give_104 (by decide) h97 (fun hc104 h104 => ?_) (fun hc104 h104 => ?_)
      · refine mv_iload (pc := 107) de_PM_give_107 7 rfl ?_
        refine mv_if_ge (pc := 109) (tgt := 121) de_PM_give_109 (by decide) h104 (fun hc109 h109 => ?_) (fun hc109 h109 => ?_)
        · exact mv_sub [0, 1, 2, 3, 4, 5, 6, 7, 8] rfl (tb_PM_give_121 l D E B sa M0 M1 r N (jb_PM_give_93 N n) ih M v0 v1 v2 v3 v4 v5 v6 v7 v8 h109)
        · refine mv_aload_n (pc := 112) (i := 0) de_PM_give_112 rfl 0 rfl ?_
          refine mv_lconst (pc := 113) (v := 0) de_PM_give_113 (by decide) ?_
          refine mv_lconst (pc := 114) (v := 0) de_PM_give_114 (by decide) ?_
          obtain ⟨hi115, h115o⟩ := mj_obE h109
          obtain ⟨r115, Mm115, hz115, h115⟩ := mj_callE h115o
          refine mv_callV (pc := 115) (n := 2) (av := [.long 0, .long 0]) (rest := []) de_PM_give_115 (kc_1 l D E B sa) hi115 (cm_PM_least l D E B sa N M v0 0 0 _ _ hz115) wt_4_217 wt_4_219 wp_29 wt_1_8 wt_4_220 ⟨by decide, by decide, by decide +kernel⟩ rfl ⟨Nat.le_of_ble_eq_true rfl, Nat.le_of_ble_eq_true rfl⟩ (Nat.le_of_ble_eq_true rfl) rfl ?_
          refine mv_goto (pc := 118) (tgt := 167) de_PM_give_118 (by decide) ?_
          exact mv_sub [0, 1, 2, 3, 4, 5, 6, 7, 8] rfl (tb_PM_give_167 l D E B sa M0 M1 r N (jb_PM_give_93 N n) ih Mm115 v0 v1 v2 v3 v4 v5 v6 v7 v8 h115)
      · exact mv_sub [0, 1, 2, 3, 4, 5, 6, 7, 8] rfl (tb_PM_give_121 l D E B sa M0 M1 r N (jb_PM_give_93 N n) ih M v0 v1 v2 v3 v4 v5 v6 v7 v8 h104)
set_option maxHeartbeats 4000000 in
set_option maxRecDepth 100000 in
theorem tb_PM_give_88 (l : Launch) (D : va_G) (E : Nat → ClassId) (B : Nat) (sa : (Nat → Nat) × Nat × (Nat → Int32)) (M0 M1 : mv_M) (r : Unit) (N : Nat) (M : mv_M) (v0 : Nat) (v1 : Int32) (v2 : Int32) (v3 : Int32) (v4 : Int32) (v5 : Int32) (v6 : Int32) (s0 : Int32) (hJ : jb_PM_give_88 N M v0 v1 v2 v3 v4 v5 v6 s0 = some (r, M1)) : mv_G (xg l D E B sa) kd_PM_give M0 M1 none M 88 [(0, va_rf (some v0)), (1, .int v1), (2, .int v2), (3, .int v3), (4, .int v4), (5, .int v5), (6, .int v6)] [.int s0] := by
  unfold jb_PM_give_88 at hJ
  refine mv_istore (pc := 88) (lv' := [(7, .int s0), (0, va_rf (some v0)), (1, .int v1), (2, .int v2), (3, .int v3), (4, .int v4), (5, .int v5), (6, .int v6)]) de_PM_give_88 (Nat.le_of_ble_eq_true rfl) rfl ?_
  refine mv_iconst (pc := 90) (v := 0) de_PM_give_90 (by decide) ?_
  refine mv_istore (pc := 91) (lv' := [(8, .int 0), (7, .int s0), (0, va_rf (some v0)), (1, .int v1), (2, .int v2), (3, .int v3), (4, .int v4), (5, .int v5), (6, .int v6)]) de_PM_give_91 (Nat.le_of_ble_eq_true rfl) rfl ?_
  exact mv_sub [2, 3, 4, 5, 6, 7, 8, 1, 0] rfl (tb_PM_give_93 l D E B sa M0 M1 r N N M v0 v1 v2 v3 v4 v5 v6 s0 0 hJ)
set_option maxHeartbeats 4000000 in
set_option maxRecDepth 100000 in
theorem tb_PM_give_0 (l : Launch) (D : va_G) (E : Nat → ClassId) (B : Nat) (sa : (Nat → Nat) × Nat × (Nat → Int32)) (M0 M1 : mv_M) (r : Unit) (N : Nat) (M : mv_M) (v0 : Nat) (v1 : Int32) (v2 : Int32) (hJ : jb_PM_give_0 N M v0 v1 v2 = some (r, M1)) : mv_G (xg l D E B sa) kd_PM_give M0 M1 none M 0 [(0, va_rf (some v0)), (1, .int v1), (2, .int v2)] [] := by
  unfold jb_PM_give_0 at hJ
  refine mv_aload_n (pc := 0) (i := 0) de_PM_give_0 rfl 0 rfl ?_
  refine mv_getR (pc := 1) (f := 4) (kc_1 l D E B sa) (Nat.le_of_ble_eq_true rfl) wt_4_84 de_PM_give_1 hJ (fun x1 e1 h1 => ?_)
  refine mv_iload_n (pc := 4) (i := 1) de_PM_give_4 rfl 1 rfl ?_
  obtain ⟨a5, ha, h5a⟩ := mj_bindE h1
  subst ha
  refine mv_iald (pc := 5) (t := 0) rfl de_PM_give_5 h5a (fun x5 e5 h5 => ?_)
  refine mv_istore_n (pc := 6) (i := 3) (lv' := [(3, .int x5), (0, va_rf (some v0)), (1, .int v1), (2, .int v2)]) de_PM_give_6 rfl (Nat.le_of_ble_eq_true rfl) rfl ?_
  refine mv_aload_n (pc := 7) (i := 0) de_PM_give_7 rfl 1 rfl ?_
  refine mv_getR (pc := 8) (f := 3) (kc_1 l D E B sa) (Nat.le_of_ble_eq_true rfl) wt_4_83 de_PM_give_8 h5 (fun x8 e8 h8 => ?_)
  refine mv_iload_n (pc := 11) (i := 1) de_PM_give_11 rfl 2 rfl ?_
  obtain ⟨a12, ha, h12a⟩ := mj_bindE h8
  subst ha
  refine mv_iald (pc := 12) (t := 0) rfl de_PM_give_12 h12a (fun x12 e12 h12 => ?_)
  refine mv_istore (pc := 13) (lv' := [(4, .int x12), (3, .int x5), (0, va_rf (some v0)), (1, .int v1), (2, .int v2)]) de_PM_give_13 (Nat.le_of_ble_eq_true rfl) rfl ?_
  refine mv_bipush (pc := 15) (v := 64) de_PM_give_15 (by decide) ?_
  refine mv_iload_n (pc := 17) (i := 3) de_PM_give_17 rfl 1 rfl ?_
  refine mv_imul (pc := 18) de_PM_give_18 ?_
  refine mv_istore (pc := 19) (lv' := [(5, .int (64 * x5)), (4, .int x12), (3, .int x5), (0, va_rf (some v0)), (1, .int v1), (2, .int v2)]) de_PM_give_19 (Nat.le_of_ble_eq_true rfl) rfl ?_
  refine mv_iload (pc := 21) de_PM_give_21 1 rfl ?_
  refine mv_iconst (pc := 23) (v := 4) de_PM_give_23 (by decide) ?_
  refine mv_icmp_ge (pc := 24) (tgt := 36) de_PM_give_24 (by decide) h12 (fun hc24 h24 => ?_) (fun hc24 h24 => ?_)
  · refine mv_iload (pc := 36) de_PM_give_36 1 rfl ?_
    refine mv_iconst (pc := 38) (v := 4) de_PM_give_38 (by decide) ?_
    refine mv_icmp_ne (pc := 39) (tgt := 51) de_PM_give_39 (by decide) h24 (fun hc39 h39 => ?_) (fun hc39 h39 => ?_)
    · refine mv_aload_n (pc := 42) (i := 0) de_PM_give_42 rfl 3 rfl ?_
      refine mv_iload_n (pc := 43) (i := 1) de_PM_give_43 rfl 4 rfl ?_
      refine mv_iload_n (pc := 44) (i := 2) de_PM_give_44 rfl 5 rfl ?_
      obtain ⟨hi45, h45o⟩ := mj_obE h39
      obtain ⟨r45, Mm45, hz45, h45⟩ := mj_callE h45o
      refine mv_callV (pc := 45) (n := 2) (av := [.int v1, .int v2]) (rest := []) de_PM_give_45 (kc_1 l D E B sa) hi45 (cm_PM_giveProduct l D E B sa N M v0 v1 v2 _ _ hz45) wt_5_90 wt_5_92 wp_51 wt_1_8 wt_5_93 ⟨by decide, by decide, by decide +kernel⟩ rfl ⟨Nat.le_of_ble_eq_true rfl, Nat.le_of_ble_eq_true rfl⟩ (Nat.le_of_ble_eq_true rfl) rfl ?_
      refine mv_goto (pc := 48) (tgt := 431) de_PM_give_48 (by decide) ?_
      exact mv_sub [] rfl (tb_PM_give_431 l D E B sa M0 M1 r N Mm45 h45)
    · refine mv_iload (pc := 51) de_PM_give_51 1 rfl ?_
      refine mv_bipush (pc := 53) (v := 8) de_PM_give_53 (by decide) ?_
      refine mv_icmp_ge (pc := 55) (tgt := 197) de_PM_give_55 (by decide) h39 (fun hc55 h55 => ?_) (fun hc55 h55 => ?_)
      · refine mv_iload (pc := 197) de_PM_give_197 1 rfl ?_
        refine mv_bipush (pc := 199) (v := 15) de_PM_give_199 (by decide) ?_
        refine mv_icmp_ne (pc := 201) (tgt := 241) de_PM_give_201 (by decide) h55 (fun hc201 h201 => ?_) (fun hc201 h201 => ?_)
        · refine mv_iconst (pc := 204) (v := 0) de_PM_give_204 (by decide) ?_
          refine mv_istore (pc := 205) (lv' := [(6, .int 0), (5, .int (64 * x5)), (4, .int x12), (3, .int x5), (0, va_rf (some v0)), (1, .int v1), (2, .int v2)]) de_PM_give_205 (Nat.le_of_ble_eq_true rfl) rfl ?_
          exact mv_sub [4, 3, 1, 0] rfl (tb_PM_give_207 l D E B sa M0 M1 r N N M v0 x5 (64 * x5) 0 h201)
        · refine mv_iload (pc := 241) de_PM_give_241 1 rfl ?_
          refine mv_bipush (pc := 243) (v := 8) de_PM_give_243 (by decide) ?_
          refine mv_icmp_eq (pc := 245) (tgt := 255) de_PM_give_245 (by decide) h201 (fun hc245 h245 => ?_) (fun hc245 h245 => ?_)
          · exact mv_sub [3, 4, 5, 2, 1, 0] rfl (tb_PM_give_255 l D E B sa M0 M1 r N M v0 v1 v2 x5 x12 (64 * x5) h245)
          · refine mv_iload (pc := 248) de_PM_give_248 1 rfl ?_
            refine mv_bipush (pc := 250) (v := 9) de_PM_give_250 (by decide) ?_
            refine mv_icmp_ne (pc := 252) (tgt := 301) de_PM_give_252 (by decide) h245 (fun hc252 h252 => ?_) (fun hc252 h252 => ?_)
            · exact mv_sub [3, 4, 5, 2, 1, 0] rfl (tb_PM_give_255 l D E B sa M0 M1 r N M v0 v1 v2 x5 x12 (64 * x5) h252)
            · refine mv_aload_n (pc := 301) (i := 0) de_PM_give_301 rfl 3 rfl ?_
              refine mv_iload (pc := 302) de_PM_give_302 0 rfl ?_
              refine mv_iload_n (pc := 304) (i := 2) de_PM_give_304 rfl 5 rfl ?_
              refine mv_iadd (pc := 305) de_PM_give_305 ?_
              obtain ⟨hi306, h306o⟩ := mj_obE h252
              obtain ⟨r306, Mm306, hz306, h306⟩ := mj_callE h306o
              refine mv_callV (pc := 306) (n := 1) (av := [.int ((64 * x5) + v2)]) (rest := []) de_PM_give_306 (kc_1 l D E B sa) hi306 (cm_PM_load l D E B sa N M v0 ((64 * x5) + v2) _ _ hz306) wt_5_57 wt_5_59 wp_44 wt_1_8 wt_5_60 ⟨by decide, by decide, by decide +kernel⟩ rfl ⟨Nat.le_of_ble_eq_true rfl, Nat.le_of_ble_eq_true rfl⟩ (Nat.le_of_ble_eq_true rfl) rfl ?_
              refine mv_iload (pc := 309) de_PM_give_309 1 rfl ?_
              refine mv_bipush (pc := 311) (v := 10) de_PM_give_311 (by decide) ?_
              refine mv_icmp_ne (pc := 313) (tgt := 327) de_PM_give_313 (by decide) h306 (fun hc313 h313 => ?_) (fun hc313 h313 => ?_)
              · refine mv_aload_n (pc := 316) (i := 0) de_PM_give_316 rfl 3 rfl ?_
                refine mv_ldc2 (pc := 317) de_PM_give_317 wt_5_89 ?_
                refine mv_lconst (pc := 320) (v := 1) de_PM_give_320 (by decide) ?_
                obtain ⟨hi321, h321o⟩ := mj_obE h313
                obtain ⟨r321, Mm321, hz321, h321⟩ := mj_callE h321o
                refine mv_callV (pc := 321) (n := 2) (av := [.long (-1), .long 1]) (rest := []) de_PM_give_321 (kc_1 l D E B sa) hi321 (cm_PM_least l D E B sa N Mm306 v0 (-1) 1 _ _ hz321) wt_4_217 wt_4_219 wp_29 wt_1_8 wt_4_220 ⟨by decide, by decide, by decide +kernel⟩ rfl ⟨Nat.le_of_ble_eq_true rfl, Nat.le_of_ble_eq_true rfl⟩ (Nat.le_of_ble_eq_true rfl) rfl ?_
                refine mv_goto (pc := 324) (tgt := 423) de_PM_give_324 (by decide) ?_
                exact mv_sub [3, 5, 0] rfl (tb_PM_give_423 l D E B sa M0 M1 r N Mm321 v0 v2 (64 * x5) h321)
              · refine mv_iload (pc := 327) de_PM_give_327 1 rfl ?_
                refine mv_bipush (pc := 329) (v := 14) de_PM_give_329 (by decide) ?_
                refine mv_icmp_ne (pc := 331) (tgt := 343) de_PM_give_331 (by decide) h313 (fun hc331 h331 => ?_) (fun hc331 h331 => ?_)
                · refine mv_aload_n (pc := 334) (i := 0) de_PM_give_334 rfl 3 rfl ?_
                  refine mv_lconst (pc := 335) (v := 1) de_PM_give_335 (by decide) ?_
                  refine mv_lconst (pc := 336) (v := 1) de_PM_give_336 (by decide) ?_
                  obtain ⟨hi337, h337o⟩ := mj_obE h331
                  obtain ⟨r337, Mm337, hz337, h337⟩ := mj_callE h337o
                  refine mv_callV (pc := 337) (n := 2) (av := [.long 1, .long 1]) (rest := []) de_PM_give_337 (kc_1 l D E B sa) hi337 (cm_PM_least l D E B sa N Mm306 v0 1 1 _ _ hz337) wt_4_217 wt_4_219 wp_29 wt_1_8 wt_4_220 ⟨by decide, by decide, by decide +kernel⟩ rfl ⟨Nat.le_of_ble_eq_true rfl, Nat.le_of_ble_eq_true rfl⟩ (Nat.le_of_ble_eq_true rfl) rfl ?_
                  refine mv_goto (pc := 340) (tgt := 423) de_PM_give_340 (by decide) ?_
                  exact mv_sub [3, 5, 0] rfl (tb_PM_give_423 l D E B sa M0 M1 r N Mm337 v0 v2 (64 * x5) h337)
                · refine mv_iload (pc := 343) de_PM_give_343 1 rfl ?_
                  refine mv_bipush (pc := 345) (v := 13) de_PM_give_345 (by decide) ?_
                  refine mv_icmp_ne (pc := 347) (tgt := 373) de_PM_give_347 (by decide) h331 (fun hc347 h347 => ?_) (fun hc347 h347 => ?_)
                  · refine mv_aload_n (pc := 350) (i := 0) de_PM_give_350 rfl 3 rfl ?_
                    refine mv_aload_n (pc := 351) (i := 0) de_PM_give_351 rfl 3 rfl ?_
                    refine mv_getL (pc := 352) (f := 0) (kc_1 l D E B sa) (Nat.le_of_ble_eq_true rfl) wt_4_80 de_PM_give_352 h347 (fun x352 e352 h352 => ?_)
                    refine mv_aload_n (pc := 355) (i := 0) de_PM_give_355 rfl 3 rfl ?_
                    refine mv_getL (pc := 356) (f := 1) (kc_1 l D E B sa) (Nat.le_of_ble_eq_true rfl) wt_4_81 de_PM_give_356 h352 (fun x356 e356 h356 => ?_)
                    refine mv_aload_n (pc := 359) (i := 0) de_PM_give_359 rfl 3 rfl ?_
                    refine mv_getL (pc := 360) (f := 0) (kc_1 l D E B sa) (Nat.le_of_ble_eq_true rfl) wt_4_80 de_PM_give_360 h356 (fun x360 e360 h360 => ?_)
                    refine mv_aload_n (pc := 363) (i := 0) de_PM_give_363 rfl 3 rfl ?_
                    refine mv_getL (pc := 364) (f := 1) (kc_1 l D E B sa) (Nat.le_of_ble_eq_true rfl) wt_4_81 de_PM_give_364 h360 (fun x364 e364 h364 => ?_)
                    obtain ⟨hi367, h367o⟩ := mj_obE h364
                    obtain ⟨r367, Mm367, hz367, h367⟩ := mj_callE h367o
                    refine mv_callV (pc := 367) (n := 4) (av := [.long x352, .long x356, .long x360, .long x364]) (rest := []) de_PM_give_367 (kc_1 l D E B sa) hi367 (cm_PM_plus l D E B sa N Mm306 v0 x352 x356 x360 x364 _ _ hz367) wt_5_26 wt_5_28 wp_37 wt_1_8 wt_5_29 ⟨by decide, by decide, by decide +kernel⟩ rfl ⟨Nat.le_of_ble_eq_true rfl, Nat.le_of_ble_eq_true rfl⟩ (Nat.le_of_ble_eq_true rfl) rfl ?_
                    refine mv_goto (pc := 370) (tgt := 423) de_PM_give_370 (by decide) ?_
                    exact mv_sub [3, 5, 0] rfl (tb_PM_give_423 l D E B sa M0 M1 r N Mm367 v0 v2 (64 * x5) h367)
                  · refine mv_aload_n (pc := 373) (i := 0) de_PM_give_373 rfl 3 rfl ?_
                    refine mv_getL (pc := 374) (f := 1) (kc_1 l D E B sa) (Nat.le_of_ble_eq_true rfl) wt_4_81 de_PM_give_374 h347 (fun x374 e374 h374 => ?_)
                    refine mv_lconst (pc := 377) (v := 0) de_PM_give_377 (by decide) ?_
                    refine mv_lcmp (pc := 378) de_PM_give_378 ?_
                    refine mv_if_eq (pc := 379) (tgt := 423) de_PM_give_379 (by decide) h374 (fun hc379 h379 => ?_) (fun hc379 h379 => ?_)
                    · exact mv_sub [3, 5, 0] rfl (tb_PM_give_423 l D E B sa M0 M1 r N Mm306 v0 v2 (64 * x5) h379)
                    · refine mv_aload_n (pc := 382) (i := 0) de_PM_give_382 rfl 3 rfl ?_
                      refine mv_aload_n (pc := 383) (i := 0) de_PM_give_383 rfl 3 rfl ?_
                      refine mv_getL (pc := 384) (f := 0) (kc_1 l D E B sa) (Nat.le_of_ble_eq_true rfl) wt_4_80 de_PM_give_384 h379 (fun x384 e384 h384 => ?_)
                      refine mv_lconst (pc := 387) (v := 0) de_PM_give_387 (by decide) ?_
                      refine mv_lcmp (pc := 388) de_PM_give_388 ?_
                      refine mv_if_le (pc := 389) (tgt := 396) de_PM_give_389 (by decide) h384 (fun hc389 h389 => ?_) (fun hc389 h389 => ?_)
                      · refine mv_iload (pc := 396) de_PM_give_396 1 rfl ?_
                        refine mv_bipush (pc := 398) (v := 12) de_PM_give_398 (by decide) ?_
                        refine mv_icmp_ne (pc := 400) (tgt := 418) de_PM_give_400 (by decide) h389 (fun hc400 h400 => ?_) (fun hc400 h400 => ?_)
                        · refine mv_aload_n (pc := 403) (i := 0) de_PM_give_403 rfl 3 rfl ?_
                          refine mv_getL (pc := 404) (f := 0) (kc_1 l D E B sa) (Nat.le_of_ble_eq_true rfl) wt_4_80 de_PM_give_404 h400 (fun x404 e404 h404 => ?_)
                          refine mv_lconst (pc := 407) (v := 0) de_PM_give_407 (by decide) ?_
                          refine mv_lcmp (pc := 408) de_PM_give_408 ?_
                          refine mv_if_ge (pc := 409) (tgt := 418) de_PM_give_409 (by decide) h404 (fun hc409 h409 => ?_) (fun hc409 h409 => ?_)
                          · exact mv_sub [3, 5, 0] rfl (tb_PM_give_418 l D E B sa M0 M1 r N Mm306 v0 v2 (64 * x5) v0 h409)
                          · refine mv_ldc2 (pc := 412) de_PM_give_412 wt_5_89 ?_
                            refine mv_goto (pc := 415) (tgt := 419) de_PM_give_415 (by decide) ?_
                            exact mv_sub [3, 5, 0] rfl (tb_PM_give_419 l D E B sa M0 M1 r N Mm306 v0 v2 (64 * x5) v0 (-1) h409)
                        · exact mv_sub [3, 5, 0] rfl (tb_PM_give_418 l D E B sa M0 M1 r N Mm306 v0 v2 (64 * x5) v0 h400)
                      · refine mv_lconst (pc := 392) (v := 1) de_PM_give_392 (by decide) ?_
                        refine mv_goto (pc := 393) (tgt := 419) de_PM_give_393 (by decide) ?_
                        exact mv_sub [3, 5, 0] rfl (tb_PM_give_419 l D E B sa M0 M1 r N Mm306 v0 v2 (64 * x5) v0 1 h389)
      · refine mv_aload_n (pc := 58) (i := 0) de_PM_give_58 rfl 3 rfl ?_
        refine mv_iload_n (pc := 59) (i := 3) de_PM_give_59 rfl 2 rfl ?_
        refine mv_aload_n (pc := 60) (i := 0) de_PM_give_60 rfl 3 rfl ?_
        refine mv_getR (pc := 61) (f := 5) (kc_1 l D E B sa) (Nat.le_of_ble_eq_true rfl) wt_4_85 de_PM_give_61 h55 (fun x61 e61 h61 => ?_)
        refine mv_iload_n (pc := 64) (i := 1) de_PM_give_64 rfl 4 rfl ?_
        obtain ⟨a65, ha, h65a⟩ := mj_bindE h61
        subst ha
        refine mv_iald (pc := 65) (t := 0) rfl de_PM_give_65 h65a (fun x65 e65 h65 => ?_)
        obtain ⟨hi66, h66o⟩ := mj_obE h65
        obtain ⟨r66, Mm66, hz66, h66⟩ := mj_callE h66o
        refine mv_callV (pc := 66) (n := 2) (av := [.int x5, .int x65]) (rest := []) de_PM_give_66 (kc_1 l D E B sa) hi66 (cm_PM_sideOf l D E B sa N M v0 x5 x65 _ _ hz66) wt_4_236 wt_4_238 wp_32 wt_1_8 wt_4_239 ⟨by decide, by decide, by decide +kernel⟩ rfl ⟨Nat.le_of_ble_eq_true rfl, Nat.le_of_ble_eq_true rfl⟩ (Nat.le_of_ble_eq_true rfl) rfl ?_
        refine mv_istore (pc := 69) (lv' := [(6, .int r66), (5, .int (64 * x5)), (4, .int x12), (3, .int x5), (0, va_rf (some v0)), (1, .int v1), (2, .int v2)]) de_PM_give_69 (Nat.le_of_ble_eq_true rfl) rfl ?_
        refine mv_iload (pc := 71) de_PM_give_71 2 rfl ?_
        refine mv_bipush (pc := 73) (v := 7) de_PM_give_73 (by decide) ?_
        refine mv_icmp_ne (pc := 75) (tgt := 87) de_PM_give_75 (by decide) h66 (fun hc75 h75 => ?_) (fun hc75 h75 => ?_)
        · refine mv_aload_n (pc := 78) (i := 0) de_PM_give_78 rfl 4 rfl ?_
          refine mv_iload_n (pc := 79) (i := 1) de_PM_give_79 rfl 5 rfl ?_
          refine mv_iload_n (pc := 80) (i := 2) de_PM_give_80 rfl 6 rfl ?_
          obtain ⟨hi81, h81o⟩ := mj_obE h75
          obtain ⟨r81, Mm81, hz81, h81⟩ := mj_callE h81o
          refine mv_callV (pc := 81) (n := 2) (av := [.int v1, .int v2]) (rest := []) de_PM_give_81 (kc_1 l D E B sa) hi81 (cm_PM_greatest l D E B sa N Mm66 v0 v1 v2 _ _ hz81) wt_5_46 wt_5_48 wp_42 wt_1_8 wt_5_49 ⟨by decide, by decide, by decide +kernel⟩ rfl ⟨Nat.le_of_ble_eq_true rfl, Nat.le_of_ble_eq_true rfl⟩ (Nat.le_of_ble_eq_true rfl) rfl ?_
          refine mv_goto (pc := 84) (tgt := 88) de_PM_give_84 (by decide) ?_
          exact mv_sub [4, 5, 6, 3, 2, 1, 0] rfl (tb_PM_give_88 l D E B sa M0 M1 r N Mm81 v0 v1 v2 x5 x12 (64 * x5) r66 r81 h81)
        · refine mv_iconst (pc := 87) (v := 0) de_PM_give_87 (by decide) ?_
          exact mv_sub [4, 5, 6, 3, 2, 1, 0] rfl (tb_PM_give_88 l D E B sa M0 M1 r N Mm66 v0 v1 v2 x5 x12 (64 * x5) r66 0 h75)
  · refine mv_aload_n (pc := 27) (i := 0) de_PM_give_27 rfl 3 rfl ?_
    refine mv_iload_n (pc := 28) (i := 1) de_PM_give_28 rfl 4 rfl ?_
    refine mv_iload_n (pc := 29) (i := 2) de_PM_give_29 rfl 5 rfl ?_
    obtain ⟨hi30, h30o⟩ := mj_obE h24
    obtain ⟨r30, Mm30, hz30, h30⟩ := mj_callE h30o
    refine mv_callV (pc := 30) (n := 2) (av := [.int v1, .int v2]) (rest := []) de_PM_give_30 (kc_1 l D E B sa) hi30 (cm_PM_giveTwo l D E B sa N M v0 v1 v2 _ _ hz30) wt_5_81 wt_5_83 wp_49 wt_1_8 wt_5_84 ⟨by decide, by decide, by decide +kernel⟩ rfl ⟨Nat.le_of_ble_eq_true rfl, Nat.le_of_ble_eq_true rfl⟩ (Nat.le_of_ble_eq_true rfl) rfl ?_
    refine mv_goto (pc := 33) (tgt := 431) de_PM_give_33 (by decide) ?_
    exact mv_sub [] rfl (tb_PM_give_431 l D E B sa M0 M1 r N Mm30 h30)
theorem cm_PM_give (l : Launch) (D : va_G) (E : Nat → ClassId) (B : Nat) (sa : (Nat → Nat) × Nat × (Nat → Int32)) (N : Nat) (M : mv_M) (v0 : Nat) (v1 : Int32) (v2 : Int32) (r : Unit) (M1 : mv_M) (hJ : jf_PM_give N M v0 v1 v2 = some (r, M1)) : mv_Met (xg l D E B sa) yn_PM_give cd_PM_give 9 none 4 108 [va_rf (some v0), .int v1, .int v2] M none M1 :=
  mv_enter (by decide) (Nat.le_of_ble_eq_true rfl) (mv_sub (lv := [(0, va_rf (some v0)), (1, .int v1), (2, .int v2)]) [0, 1, 2] rfl (tb_PM_give_0 l D E B sa M M1 r N M v0 v1 v2 hJ))
