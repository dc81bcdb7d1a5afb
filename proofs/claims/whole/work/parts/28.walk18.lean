/-! ===== PlainLearnerModel.merge()I ===== -/
abbrev kd_PM_merge : mv_Kd := (cd_PM_merge, 7, "PlainLearnerModel", "merge", (some .int), 1, 26)
theorem de_PM_merge_0 : decode cd_PM_merge 0 = .ok (.iconst 1, 1) := by decide +kernel
theorem de_PM_merge_1 : decode cd_PM_merge 1 = .ok (.istore_n 1, 1) := by decide +kernel
theorem de_PM_merge_2 : decode cd_PM_merge 2 = .ok (.iconst 0, 1) := by decide +kernel
theorem de_PM_merge_3 : decode cd_PM_merge 3 = .ok (.istore_n 2, 1) := by decide +kernel
theorem de_PM_merge_4 : decode cd_PM_merge 4 = .ok (.iconst 0, 1) := by decide +kernel
theorem de_PM_merge_5 : decode cd_PM_merge 5 = .ok (.istore_n 3, 1) := by decide +kernel
theorem de_PM_merge_6 : decode cd_PM_merge 6 = .ok (.iconst 0, 1) := by decide +kernel
theorem de_PM_merge_7 : decode cd_PM_merge 7 = .ok (.istore 4, 2) := by decide +kernel
theorem de_PM_merge_9 : decode cd_PM_merge 9 = .ok (.iload 4, 2) := by decide +kernel
theorem de_PM_merge_11 : decode cd_PM_merge 11 = .ok (.iconst 1, 1) := by decide +kernel
theorem de_PM_merge_12 : decode cd_PM_merge 12 = .ok (.iadd, 1) := by decide +kernel
theorem de_PM_merge_13 : decode cd_PM_merge 13 = .ok (.aload_n 0, 1) := by decide +kernel
theorem de_PM_merge_14 : decode cd_PM_merge 14 = .ok (.getfield 295, 3) := by decide +kernel
theorem de_PM_merge_17 : decode cd_PM_merge 17 = .ok (.if_icmp .ge 120, 3) := by decide +kernel
theorem de_PM_merge_20 : decode cd_PM_merge 20 = .ok (.aload_n 0, 1) := by decide +kernel
theorem de_PM_merge_21 : decode cd_PM_merge 21 = .ok (.aload_n 0, 1) := by decide +kernel
theorem de_PM_merge_22 : decode cd_PM_merge 22 = .ok (.getfield 60, 3) := by decide +kernel
theorem de_PM_merge_25 : decode cd_PM_merge 25 = .ok (.iload 4, 2) := by decide +kernel
theorem de_PM_merge_27 : decode cd_PM_merge 27 = .ok (.iaload, 1) := by decide +kernel
theorem de_PM_merge_28 : decode cd_PM_merge 28 = .ok (.aload_n 0, 1) := by decide +kernel
theorem de_PM_merge_29 : decode cd_PM_merge 29 = .ok (.getfield 60, 3) := by decide +kernel
theorem de_PM_merge_32 : decode cd_PM_merge 32 = .ok (.iload 4, 2) := by decide +kernel
theorem de_PM_merge_34 : decode cd_PM_merge 34 = .ok (.iconst 1, 1) := by decide +kernel
theorem de_PM_merge_35 : decode cd_PM_merge 35 = .ok (.iadd, 1) := by decide +kernel
theorem de_PM_merge_36 : decode cd_PM_merge 36 = .ok (.iaload, 1) := by decide +kernel
theorem de_PM_merge_37 : decode cd_PM_merge 37 = .ok (.invokevirtual 298, 3) := by decide +kernel
theorem de_PM_merge_40 : decode cd_PM_merge 40 = .ok (.istore 5, 2) := by decide +kernel
theorem de_PM_merge_42 : decode cd_PM_merge 42 = .ok (.aload_n 0, 1) := by decide +kernel
theorem de_PM_merge_43 : decode cd_PM_merge 43 = .ok (.getfield 60, 3) := by decide +kernel
theorem de_PM_merge_46 : decode cd_PM_merge 46 = .ok (.iload 4, 2) := by decide +kernel
theorem de_PM_merge_48 : decode cd_PM_merge 48 = .ok (.iaload, 1) := by decide +kernel
theorem de_PM_merge_49 : decode cd_PM_merge 49 = .ok (.iload_n 2, 1) := by decide +kernel
theorem de_PM_merge_50 : decode cd_PM_merge 50 = .ok (.if_icmp .lt 27, 3) := by decide +kernel
theorem de_PM_merge_53 : decode cd_PM_merge 53 = .ok (.aload_n 0, 1) := by decide +kernel
theorem de_PM_merge_54 : decode cd_PM_merge 54 = .ok (.getfield 60, 3) := by decide +kernel
theorem de_PM_merge_57 : decode cd_PM_merge 57 = .ok (.iload 4, 2) := by decide +kernel
theorem de_PM_merge_59 : decode cd_PM_merge 59 = .ok (.iaload, 1) := by decide +kernel
theorem de_PM_merge_60 : decode cd_PM_merge 60 = .ok (.iload_n 2, 1) := by decide +kernel
theorem de_PM_merge_61 : decode cd_PM_merge 61 = .ok (.if_icmp .ne 20, 3) := by decide +kernel
theorem de_PM_merge_64 : decode cd_PM_merge 64 = .ok (.aload_n 0, 1) := by decide +kernel
theorem de_PM_merge_65 : decode cd_PM_merge 65 = .ok (.getfield 60, 3) := by decide +kernel
theorem de_PM_merge_68 : decode cd_PM_merge 68 = .ok (.iload 4, 2) := by decide +kernel
theorem de_PM_merge_70 : decode cd_PM_merge 70 = .ok (.iconst 1, 1) := by decide +kernel
theorem de_PM_merge_71 : decode cd_PM_merge 71 = .ok (.iadd, 1) := by decide +kernel
theorem de_PM_merge_72 : decode cd_PM_merge 72 = .ok (.iaload, 1) := by decide +kernel
theorem de_PM_merge_73 : decode cd_PM_merge 73 = .ok (.iload_n 3, 1) := by decide +kernel
theorem de_PM_merge_74 : decode cd_PM_merge 74 = .ok (.if_icmp .ge 7, 3) := by decide +kernel
theorem de_PM_merge_77 : decode cd_PM_merge 77 = .ok (.iconst 1, 1) := by decide +kernel
theorem de_PM_merge_78 : decode cd_PM_merge 78 = .ok (.goto 4, 3) := by decide +kernel
theorem de_PM_merge_81 : decode cd_PM_merge 81 = .ok (.iconst 0, 1) := by decide +kernel
theorem de_PM_merge_82 : decode cd_PM_merge 82 = .ok (.istore 6, 2) := by decide +kernel
theorem de_PM_merge_84 : decode cd_PM_merge 84 = .ok (.iload 5, 2) := by decide +kernel
theorem de_PM_merge_86 : decode cd_PM_merge 86 = .ok (.iconst 2, 1) := by decide +kernel
theorem de_PM_merge_87 : decode cd_PM_merge 87 = .ok (.if_icmp .lt 44, 3) := by decide +kernel
theorem de_PM_merge_90 : decode cd_PM_merge 90 = .ok (.iload 5, 2) := by decide +kernel
theorem de_PM_merge_92 : decode cd_PM_merge 92 = .ok (.iload_n 1, 1) := by decide +kernel
theorem de_PM_merge_93 : decode cd_PM_merge 93 = .ok (.if_icmp .lt 38, 3) := by decide +kernel
theorem de_PM_merge_96 : decode cd_PM_merge 96 = .ok (.iload 5, 2) := by decide +kernel
theorem de_PM_merge_98 : decode cd_PM_merge 98 = .ok (.iload_n 1, 1) := by decide +kernel
theorem de_PM_merge_99 : decode cd_PM_merge 99 = .ok (.if_icmp .ne 11, 3) := by decide +kernel
theorem de_PM_merge_102 : decode cd_PM_merge 102 = .ok (.iload 6, 2) := by decide +kernel
theorem de_PM_merge_104 : decode cd_PM_merge 104 = .ok (.ifCond .ne 6, 3) := by decide +kernel
theorem de_PM_merge_107 : decode cd_PM_merge 107 = .ok (.goto 24, 3) := by decide +kernel
theorem de_PM_merge_110 : decode cd_PM_merge 110 = .ok (.iload 5, 2) := by decide +kernel
theorem de_PM_merge_112 : decode cd_PM_merge 112 = .ok (.istore_n 1, 1) := by decide +kernel
theorem de_PM_merge_113 : decode cd_PM_merge 113 = .ok (.aload_n 0, 1) := by decide +kernel
theorem de_PM_merge_114 : decode cd_PM_merge 114 = .ok (.getfield 60, 3) := by decide +kernel
theorem de_PM_merge_117 : decode cd_PM_merge 117 = .ok (.iload 4, 2) := by decide +kernel
theorem de_PM_merge_119 : decode cd_PM_merge 119 = .ok (.iaload, 1) := by decide +kernel
theorem de_PM_merge_120 : decode cd_PM_merge 120 = .ok (.istore_n 2, 1) := by decide +kernel
theorem de_PM_merge_121 : decode cd_PM_merge 121 = .ok (.aload_n 0, 1) := by decide +kernel
theorem de_PM_merge_122 : decode cd_PM_merge 122 = .ok (.getfield 60, 3) := by decide +kernel
theorem de_PM_merge_125 : decode cd_PM_merge 125 = .ok (.iload 4, 2) := by decide +kernel
theorem de_PM_merge_127 : decode cd_PM_merge 127 = .ok (.iconst 1, 1) := by decide +kernel
theorem de_PM_merge_128 : decode cd_PM_merge 128 = .ok (.iadd, 1) := by decide +kernel
theorem de_PM_merge_129 : decode cd_PM_merge 129 = .ok (.iaload, 1) := by decide +kernel
theorem de_PM_merge_130 : decode cd_PM_merge 130 = .ok (.istore_n 3, 1) := by decide +kernel
theorem de_PM_merge_131 : decode cd_PM_merge 131 = .ok (.iinc 4 1, 3) := by decide +kernel
theorem de_PM_merge_134 : decode cd_PM_merge 134 = .ok (.goto (-125), 3) := by decide +kernel
theorem de_PM_merge_137 : decode cd_PM_merge 137 = .ok (.iload_n 1, 1) := by decide +kernel
theorem de_PM_merge_138 : decode cd_PM_merge 138 = .ok (.iconst 2, 1) := by decide +kernel
theorem de_PM_merge_139 : decode cd_PM_merge 139 = .ok (.if_icmp .ge 6, 3) := by decide +kernel
theorem de_PM_merge_142 : decode cd_PM_merge 142 = .ok (.bipush (-2), 2) := by decide +kernel
theorem de_PM_merge_144 : decode cd_PM_merge 144 = .ok (.ireturn, 1) := by decide +kernel
theorem de_PM_merge_145 : decode cd_PM_merge 145 = .ok (.aload_n 0, 1) := by decide +kernel
theorem de_PM_merge_146 : decode cd_PM_merge 146 = .ok (.getfield 301, 3) := by decide +kernel
theorem de_PM_merge_149 : decode cd_PM_merge 149 = .ok (.bipush 60, 2) := by decide +kernel
theorem de_PM_merge_151 : decode cd_PM_merge 151 = .ok (.if_icmp .ne 6, 3) := by decide +kernel
theorem de_PM_merge_154 : decode cd_PM_merge 154 = .ok (.bipush (-3), 2) := by decide +kernel
theorem de_PM_merge_156 : decode cd_PM_merge 156 = .ok (.ireturn, 1) := by decide +kernel
theorem de_PM_merge_157 : decode cd_PM_merge 157 = .ok (.aload_n 0, 1) := by decide +kernel
theorem de_PM_merge_158 : decode cd_PM_merge 158 = .ok (.getfield 63, 3) := by decide +kernel
theorem de_PM_merge_161 : decode cd_PM_merge 161 = .ok (.aload_n 0, 1) := by decide +kernel
theorem de_PM_merge_162 : decode cd_PM_merge 162 = .ok (.getfield 301, 3) := by decide +kernel
theorem de_PM_merge_165 : decode cd_PM_merge 165 = .ok (.iload_n 2, 1) := by decide +kernel
theorem de_PM_merge_166 : decode cd_PM_merge 166 = .ok (.iastore, 1) := by decide +kernel
theorem de_PM_merge_167 : decode cd_PM_merge 167 = .ok (.aload_n 0, 1) := by decide +kernel
theorem de_PM_merge_168 : decode cd_PM_merge 168 = .ok (.getfield 66, 3) := by decide +kernel
theorem de_PM_merge_171 : decode cd_PM_merge 171 = .ok (.aload_n 0, 1) := by decide +kernel
theorem de_PM_merge_172 : decode cd_PM_merge 172 = .ok (.getfield 301, 3) := by decide +kernel
theorem de_PM_merge_175 : decode cd_PM_merge 175 = .ok (.iload_n 3, 1) := by decide +kernel
theorem de_PM_merge_176 : decode cd_PM_merge 176 = .ok (.iastore, 1) := by decide +kernel
theorem de_PM_merge_177 : decode cd_PM_merge 177 = .ok (.aload_n 0, 1) := by decide +kernel
theorem de_PM_merge_178 : decode cd_PM_merge 178 = .ok (.iload_n 2, 1) := by decide +kernel
theorem de_PM_merge_179 : decode cd_PM_merge 179 = .ok (.iload_n 3, 1) := by decide +kernel
theorem de_PM_merge_180 : decode cd_PM_merge 180 = .ok (.bipush 26, 2) := by decide +kernel
theorem de_PM_merge_182 : decode cd_PM_merge 182 = .ok (.aload_n 0, 1) := by decide +kernel
theorem de_PM_merge_183 : decode cd_PM_merge 183 = .ok (.getfield 301, 3) := by decide +kernel
theorem de_PM_merge_186 : decode cd_PM_merge 186 = .ok (.iadd, 1) := by decide +kernel
theorem de_PM_merge_187 : decode cd_PM_merge 187 = .ok (.invokevirtual 304, 3) := by decide +kernel
theorem de_PM_merge_190 : decode cd_PM_merge 190 = .ok (.bipush 26, 2) := by decide +kernel
theorem de_PM_merge_192 : decode cd_PM_merge 192 = .ok (.aload_n 0, 1) := by decide +kernel
theorem de_PM_merge_193 : decode cd_PM_merge 193 = .ok (.dup, 1) := by decide +kernel
theorem de_PM_merge_194 : decode cd_PM_merge 194 = .ok (.getfield 301, 3) := by decide +kernel
theorem de_PM_merge_197 : decode cd_PM_merge 197 = .ok (.dup_x1, 1) := by decide +kernel
theorem de_PM_merge_198 : decode cd_PM_merge 198 = .ok (.iconst 1, 1) := by decide +kernel
theorem de_PM_merge_199 : decode cd_PM_merge 199 = .ok (.iadd, 1) := by decide +kernel
theorem de_PM_merge_200 : decode cd_PM_merge 200 = .ok (.putfield 301, 3) := by decide +kernel
theorem de_PM_merge_203 : decode cd_PM_merge 203 = .ok (.iadd, 1) := by decide +kernel
theorem de_PM_merge_204 : decode cd_PM_merge 204 = .ok (.ireturn, 1) := by decide +kernel
def jb_PM_merge_131 (N : Nat) (k9 : mv_M → Nat → Int32 → Int32 → Int32 → Int32 → Option (Int32 × mv_M)) (M : mv_M) (v0 : Nat) (v1 : Int32) (v2 : Int32) (v3 : Int32) (v4 : Int32) : Option (Int32 × mv_M) :=
  k9 M v0 v1 v2 v3 (v4 + 1)
def jb_PM_merge_110 (N : Nat) (k9 : mv_M → Nat → Int32 → Int32 → Int32 → Int32 → Option (Int32 × mv_M)) (M : mv_M) (v0 : Nat) (v4 : Int32) (v5 : Int32) : Option (Int32 × mv_M) :=
  Option.bind (mj_getR M v0 1 32) fun x114 =>
  Option.bind x114 fun a119 =>
  Option.bind (mj_ild M a119 0 v4) fun x119 =>
  Option.bind (mj_getR M v0 1 32) fun x122 =>
  Option.bind x122 fun a129 =>
  Option.bind (mj_ild M a129 0 (v4 + 1)) fun x129 =>
  jb_PM_merge_131 N k9 M v0 v5 x119 x129 v4
def jb_PM_merge_82 (N : Nat) (k9 : mv_M → Nat → Int32 → Int32 → Int32 → Int32 → Option (Int32 × mv_M)) (M : mv_M) (v0 : Nat) (v1 : Int32) (v2 : Int32) (v3 : Int32) (v4 : Int32) (v5 : Int32) (s0 : Int32) : Option (Int32 × mv_M) :=
  if v5 < 2 then (jb_PM_merge_131 N k9 M v0 v1 v2 v3 v4) else
  if v5 < v1 then (jb_PM_merge_131 N k9 M v0 v1 v2 v3 v4) else
  if v5 = v1 then (if s0 = 0 then (jb_PM_merge_131 N k9 M v0 v1 v2 v3 v4) else
  jb_PM_merge_110 N k9 M v0 v4 v5) else
  jb_PM_merge_110 N k9 M v0 v4 v5
def jb_PM_merge_77 (N : Nat) (k9 : mv_M → Nat → Int32 → Int32 → Int32 → Int32 → Option (Int32 × mv_M)) (M : mv_M) (v0 : Nat) (v1 : Int32) (v2 : Int32) (v3 : Int32) (v4 : Int32) (v5 : Int32) : Option (Int32 × mv_M) :=
  jb_PM_merge_82 N k9 M v0 v1 v2 v3 v4 v5 1
def jb_PM_merge_81 (N : Nat) (k9 : mv_M → Nat → Int32 → Int32 → Int32 → Int32 → Option (Int32 × mv_M)) (M : mv_M) (v0 : Nat) (v1 : Int32) (v2 : Int32) (v3 : Int32) (v4 : Int32) (v5 : Int32) : Option (Int32 × mv_M) :=
  jb_PM_merge_82 N k9 M v0 v1 v2 v3 v4 v5 0
def jb_PM_merge_9 (N : Nat) : Nat → mv_M → Nat → Int32 → Int32 → Int32 → Int32 → Option (Int32 × mv_M)
  | 0, _, _, _, _, _, _ => none
  | n + 1, M, v0, v1, v2, v3, v4 =>
    Option.bind (mj_getI M v0 1 31) fun x14 =>
    if x14 ≤ (v4 + 1) then (if 2 ≤ v1 then (Option.bind (mj_getI M v0 1 33) fun x146 =>
    if x146 = 60 then (some ((-3), M)) else
    Option.bind (mj_getR M v0 1 34) fun x158 =>
    Option.bind (mj_getI M v0 1 33) fun x162 =>
    Option.bind x158 fun a166 =>
    Option.bind (mj_ist M a166 0 x162 v2) fun Mm166 =>
    Option.bind (mj_getR Mm166 v0 1 35) fun x168 =>
    Option.bind (mj_getI Mm166 v0 1 33) fun x172 =>
    Option.bind x168 fun a176 =>
    Option.bind (mj_ist Mm166 a176 0 x172 v3) fun Mm176 =>
    Option.bind (mj_getI Mm176 v0 1 33) fun x183 =>
    mj_ob Mm176 v0 1 <|
    mj_call (jf_PM_joins N Mm176 v0 v2 v3 (26 + x183)) fun r187 Mm187 =>
    Option.bind (mj_getI Mm187 v0 1 33) fun x194 =>
    Option.bind (mj_put Mm187 v0 1 33 (.int (x194 + 1))) fun Mm200 =>
    some ((26 + x194), Mm200)) else
    some ((-2), M)) else
    Option.bind (mj_getR M v0 1 32) fun x22 =>
    Option.bind x22 fun a27 =>
    Option.bind (mj_ild M a27 0 v4) fun x27 =>
    Option.bind (mj_getR M v0 1 32) fun x29 =>
    Option.bind x29 fun a36 =>
    Option.bind (mj_ild M a36 0 (v4 + 1)) fun x36 =>
    mj_ob M v0 1 <|
    mj_call (jf_PM_often N M v0 x27 x36) fun r37 Mm37 =>
    Option.bind (mj_getR Mm37 v0 1 32) fun x43 =>
    Option.bind x43 fun a48 =>
    Option.bind (mj_ild Mm37 a48 0 v4) fun x48 =>
    if x48 < v2 then (jb_PM_merge_77 N (jb_PM_merge_9 N n) Mm37 v0 v1 v2 v3 v4 r37) else
    Option.bind (mj_getR Mm37 v0 1 32) fun x54 =>
    Option.bind x54 fun a59 =>
    Option.bind (mj_ild Mm37 a59 0 v4) fun x59 =>
    if x59 = v2 then (Option.bind (mj_getR Mm37 v0 1 32) fun x65 =>
    Option.bind x65 fun a72 =>
    Option.bind (mj_ild Mm37 a72 0 (v4 + 1)) fun x72 =>
    if v3 ≤ x72 then (jb_PM_merge_81 N (jb_PM_merge_9 N n) Mm37 v0 v1 v2 v3 v4 r37) else
    jb_PM_merge_77 N (jb_PM_merge_9 N n) Mm37 v0 v1 v2 v3 v4 r37) else
    jb_PM_merge_81 N (jb_PM_merge_9 N n) Mm37 v0 v1 v2 v3 v4 r37
def jb_PM_merge_0 (N : Nat) (M : mv_M) (v0 : Nat) : Option (Int32 × mv_M) :=
  jb_PM_merge_9 N N M v0 1 0 0 0
def jf_PM_merge (N : Nat) (M : mv_M) (v0 : Nat) : Option (Int32 × mv_M) := jb_PM_merge_0 N M v0
set_option maxHeartbeats 4000000 in
set_option maxRecDepth 100000 in
theorem tb_PM_merge_131 (l : Launch) (D : va_G) (E : Nat → ClassId) (B : Nat) (sa : (Nat → Nat) × Nat × (Nat → Int32)) (M0 M1 : mv_M) (r : Int32) (N : Nat) (k9 : mv_M → Nat → Int32 → Int32 → Int32 → Int32 → Option (Int32 × mv_M)) (hk9 : ∀ (M : mv_M) (v0 : Nat) (v1 : Int32) (v2 : Int32) (v3 : Int32) (v4 : Int32), k9 M v0 v1 v2 v3 v4 = some (r, M1) → mv_G (xg l D E B sa) kd_PM_merge M0 M1 (some (.int r)) M 9 [(0, va_rf (some v0)), (1, .int v1), (2, .int v2), (3, .int v3), (4, .int v4)] []) (M : mv_M) (v0 : Nat) (v1 : Int32) (v2 : Int32) (v3 : Int32) (v4 : Int32) (hJ : jb_PM_merge_131 N k9 M v0 v1 v2 v3 v4 = some (r, M1)) : mv_G (xg l D E B sa) kd_PM_merge M0 M1 (some (.int r)) M 131 [(0, va_rf (some v0)), (1, .int v1), (2, .int v2), (3, .int v3), (4, .int v4)] [] := by
  unfold jb_PM_merge_131 at hJ
  refine mv_iinc (pc := 131) (v := (v4 + 1)) (lv' := [(4, .int (v4 + 1)), (0, va_rf (some v0)), (1, .int v1), (2, .int v2), (3, .int v3)]) de_PM_merge_131 4 rfl rfl (Nat.le_of_ble_eq_true rfl) rfl ?_
  refine mv_goto (pc := 134) (tgt := 9) de_PM_merge_134 (by decide) ?_
  exact mv_sub [1, 2, 3, 4, 0] rfl (hk9 M v0 v1 v2 v3 (v4 + 1) hJ)
set_option maxHeartbeats 4000000 in
set_option maxRecDepth 100000 in
theorem tb_PM_merge_110 (l : Launch) (D : va_G) (E : Nat → ClassId) (B : Nat) (sa : (Nat → Nat) × Nat × (Nat → Int32)) (M0 M1 : mv_M) (r : Int32) (N : Nat) (k9 : mv_M → Nat → Int32 → Int32 → Int32 → Int32 → Option (Int32 × mv_M)) (hk9 : ∀ (M : mv_M) (v0 : Nat) (v1 : Int32) (v2 : Int32) (v3 : Int32) (v4 : Int32), k9 M v0 v1 v2 v3 v4 = some (r, M1) → mv_G (xg l D E B sa) kd_PM_merge M0 M1 (some (.int r)) M 9 [(0, va_rf (some v0)), (1, .int v1), (2, .int v2), (3, .int v3), (4, .int v4)] []) (M : mv_M) (v0 : Nat) (v4 : Int32) (v5 : Int32) (hJ : jb_PM_merge_110 N k9 M v0 v4 v5 = some (r, M1)) : mv_G (xg l D E B sa) kd_PM_merge M0 M1 (some (.int r)) M 110 [(0, va_rf (some v0)), (4, .int v4), (5, .int v5)] [] := by
  unfold jb_PM_merge_110 at hJ
  refine mv_iload (pc := 110) de_PM_merge_110 2 rfl ?_
  refine mv_istore_n (pc := 112) (i := 1) (lv' := [(1, .int v5), (0, va_rf (some v0)), (4, .int v4), (5, .int v5)]) de_PM_merge_112 rfl (Nat.le_of_ble_eq_true rfl) rfl ?_
  refine mv_aload_n (pc := 113) (i := 0) de_PM_merge_113 rfl 1 rfl ?_
  refine mv_getR (pc := 114) (f := 32) (kc_1 l D E B sa) (Nat.le_of_ble_eq_true rfl) wt_4_112 de_PM_merge_114 hJ (fun x114 e114 h114 => ?_)
  refine mv_iload (pc := 117) de_PM_merge_117 2 rfl ?_
  obtain ⟨a119, ha, h119a⟩ := mj_bindE h114
  subst ha
  refine mv_iald (pc := 119) (t := 0) rfl de_PM_merge_119 h119a (fun x119 e119 h119 => ?_)
  refine mv_istore_n (pc := 120) (i := 2) (lv' := [(2, .int x119), (1, .int v5), (0, va_rf (some v0)), (4, .int v4), (5, .int v5)]) de_PM_merge_120 rfl (Nat.le_of_ble_eq_true rfl) rfl ?_
  refine mv_aload_n (pc := 121) (i := 0) de_PM_merge_121 rfl 2 rfl ?_
  refine mv_getR (pc := 122) (f := 32) (kc_1 l D E B sa) (Nat.le_of_ble_eq_true rfl) wt_4_112 de_PM_merge_122 h119 (fun x122 e122 h122 => ?_)
  refine mv_iload (pc := 125) de_PM_merge_125 3 rfl ?_
  refine mv_iconst (pc := 127) (v := 1) de_PM_merge_127 (by decide) ?_
  refine mv_iadd (pc := 128) de_PM_merge_128 ?_
  obtain ⟨a129, ha, h129a⟩ := mj_bindE h122
  subst ha
  refine mv_iald (pc := 129) (t := 0) rfl de_PM_merge_129 h129a (fun x129 e129 h129 => ?_)
  refine mv_istore_n (pc := 130) (i := 3) (lv' := [(3, .int x129), (2, .int x119), (1, .int v5), (0, va_rf (some v0)), (4, .int v4), (5, .int v5)]) de_PM_merge_130 rfl (Nat.le_of_ble_eq_true rfl) rfl ?_
  exact mv_sub [3, 2, 1, 0, 4] rfl (tb_PM_merge_131 l D E B sa M0 M1 r N k9 hk9 M v0 v5 x119 x129 v4 h129)
set_option maxHeartbeats 4000000 in
set_option maxRecDepth 100000 in
theorem tb_PM_merge_82 (l : Launch) (D : va_G) (E : Nat → ClassId) (B : Nat) (sa : (Nat → Nat) × Nat × (Nat → Int32)) (M0 M1 : mv_M) (r : Int32) (N : Nat) (k9 : mv_M → Nat → Int32 → Int32 → Int32 → Int32 → Option (Int32 × mv_M)) (hk9 : ∀ (M : mv_M) (v0 : Nat) (v1 : Int32) (v2 : Int32) (v3 : Int32) (v4 : Int32), k9 M v0 v1 v2 v3 v4 = some (r, M1) → mv_G (xg l D E B sa) kd_PM_merge M0 M1 (some (.int r)) M 9 [(0, va_rf (some v0)), (1, .int v1), (2, .int v2), (3, .int v3), (4, .int v4)] []) (M : mv_M) (v0 : Nat) (v1 : Int32) (v2 : Int32) (v3 : Int32) (v4 : Int32) (v5 : Int32) (s0 : Int32) (hJ : jb_PM_merge_82 N k9 M v0 v1 v2 v3 v4 v5 s0 = some (r, M1)) : mv_G (xg l D E B sa) kd_PM_merge M0 M1 (some (.int r)) M 82 [(0, va_rf (some v0)), (1, .int v1), (2, .int v2), (3, .int v3), (4, .int v4), (5, .int v5)] [.int s0] := by
  unfold jb_PM_merge_82 at hJ
  refine mv_istore (pc := 82) (lv' := [(6, .int s0), (0, va_rf (some v0)), (1, .int v1), (2, .int v2), (3, .int v3), (4, .int v4), (5, .int v5)]) de_PM_merge_82 (Nat.le_of_ble_eq_true rfl) rfl ?_
  refine mv_iload (pc := 84) de_PM_merge_84 6 rfl ?_
  refine mv_iconst (pc := 86) (v := 2) de_PM_merge_86 (by decide) ?_
  refine mv_icmp_lt (pc := 87) (tgt := 131) de_PM_merge_87 (by decide) hJ (fun hc87 h87 => ?_) (fun hc87 h87 => ?_)
  · exact mv_sub [1, 2, 3, 4, 5] rfl (tb_PM_merge_131 l D E B sa M0 M1 r N k9 hk9 M v0 v1 v2 v3 v4 h87)
  · refine mv_iload (pc := 90) de_PM_merge_90 6 rfl ?_
    refine mv_iload_n (pc := 92) (i := 1) de_PM_merge_92 rfl 2 rfl ?_
    refine mv_icmp_lt (pc := 93) (tgt := 131) de_PM_merge_93 (by decide) h87 (fun hc93 h93 => ?_) (fun hc93 h93 => ?_)
    · exact mv_sub [1, 2, 3, 4, 5] rfl (tb_PM_merge_131 l D E B sa M0 M1 r N k9 hk9 M v0 v1 v2 v3 v4 h93)
    · refine mv_iload (pc := 96) de_PM_merge_96 6 rfl ?_
      refine mv_iload_n (pc := 98) (i := 1) de_PM_merge_98 rfl 2 rfl ?_
      refine mv_icmp_ne (pc := 99) (tgt := 110) de_PM_merge_99 (by decide) h93 (fun hc99 h99 => ?_) (fun hc99 h99 => ?_)
      · refine mv_iload (pc := 102) de_PM_merge_102 0 rfl ?_
        refine mv_if_ne (pc := 104) (tgt := 110) de_PM_merge_104 (by decide) h99 (fun hc104 h104 => ?_) (fun hc104 h104 => ?_)
        · refine mv_goto (pc := 107) (tgt := 131) de_PM_merge_107 (by decide) ?_
          exact mv_sub [1, 2, 3, 4, 5] rfl (tb_PM_merge_131 l D E B sa M0 M1 r N k9 hk9 M v0 v1 v2 v3 v4 h104)
        · exact mv_sub [1, 5, 6] rfl (tb_PM_merge_110 l D E B sa M0 M1 r N k9 hk9 M v0 v4 v5 h104)
      · exact mv_sub [1, 5, 6] rfl (tb_PM_merge_110 l D E B sa M0 M1 r N k9 hk9 M v0 v4 v5 h99)
set_option maxHeartbeats 4000000 in
set_option maxRecDepth 100000 in
theorem tb_PM_merge_77 (l : Launch) (D : va_G) (E : Nat → ClassId) (B : Nat) (sa : (Nat → Nat) × Nat × (Nat → Int32)) (M0 M1 : mv_M) (r : Int32) (N : Nat) (k9 : mv_M → Nat → Int32 → Int32 → Int32 → Int32 → Option (Int32 × mv_M)) (hk9 : ∀ (M : mv_M) (v0 : Nat) (v1 : Int32) (v2 : Int32) (v3 : Int32) (v4 : Int32), k9 M v0 v1 v2 v3 v4 = some (r, M1) → mv_G (xg l D E B sa) kd_PM_merge M0 M1 (some (.int r)) M 9 [(0, va_rf (some v0)), (1, .int v1), (2, .int v2), (3, .int v3), (4, .int v4)] []) (M : mv_M) (v0 : Nat) (v1 : Int32) (v2 : Int32) (v3 : Int32) (v4 : Int32) (v5 : Int32) (hJ : jb_PM_merge_77 N k9 M v0 v1 v2 v3 v4 v5 = some (r, M1)) : mv_G (xg l D E B sa) kd_PM_merge M0 M1 (some (.int r)) M 77 [(0, va_rf (some v0)), (1, .int v1), (2, .int v2), (3, .int v3), (4, .int v4), (5, .int v5)] [] := by
  unfold jb_PM_merge_77 at hJ
  refine mv_iconst (pc := 77) (v := 1) de_PM_merge_77 (by decide) ?_
  refine mv_goto (pc := 78) (tgt := 82) de_PM_merge_78 (by decide) ?_
  exact mv_sub [0, 1, 2, 3, 4, 5] rfl (tb_PM_merge_82 l D E B sa M0 M1 r N k9 hk9 M v0 v1 v2 v3 v4 v5 1 hJ)
set_option maxHeartbeats 4000000 in
set_option maxRecDepth 100000 in
theorem tb_PM_merge_81 (l : Launch) (D : va_G) (E : Nat → ClassId) (B : Nat) (sa : (Nat → Nat) × Nat × (Nat → Int32)) (M0 M1 : mv_M) (r : Int32) (N : Nat) (k9 : mv_M → Nat → Int32 → Int32 → Int32 → Int32 → Option (Int32 × mv_M)) (hk9 : ∀ (M : mv_M) (v0 : Nat) (v1 : Int32) (v2 : Int32) (v3 : Int32) (v4 : Int32), k9 M v0 v1 v2 v3 v4 = some (r, M1) → mv_G (xg l D E B sa) kd_PM_merge M0 M1 (some (.int r)) M 9 [(0, va_rf (some v0)), (1, .int v1), (2, .int v2), (3, .int v3), (4, .int v4)] []) (M : mv_M) (v0 : Nat) (v1 : Int32) (v2 : Int32) (v3 : Int32) (v4 : Int32) (v5 : Int32) (hJ : jb_PM_merge_81 N k9 M v0 v1 v2 v3 v4 v5 = some (r, M1)) : mv_G (xg l D E B sa) kd_PM_merge M0 M1 (some (.int r)) M 81 [(0, va_rf (some v0)), (1, .int v1), (2, .int v2), (3, .int v3), (4, .int v4), (5, .int v5)] [] := by
  unfold jb_PM_merge_81 at hJ
  refine mv_iconst (pc := 81) (v := 0) de_PM_merge_81 (by decide) ?_
  exact mv_sub [0, 1, 2, 3, 4, 5] rfl (tb_PM_merge_82 l D E B sa M0 M1 r N k9 hk9 M v0 v1 v2 v3 v4 v5 0 hJ)
set_option maxHeartbeats 4000000 in
set_option maxRecDepth 100000 in
theorem tb_PM_merge_9 (l : Launch) (D : va_G) (E : Nat → ClassId) (B : Nat) (sa : (Nat → Nat) × Nat × (Nat → Int32)) (M0 M1 : mv_M) (r : Int32) (N : Nat) : ∀ (n : Nat) (M : mv_M) (v0 : Nat) (v1 : Int32) (v2 : Int32) (v3 : Int32) (v4 : Int32) (hJ : jb_PM_merge_9 N n M v0 v1 v2 v3 v4 = some (r, M1)), mv_G (xg l D E B sa) kd_PM_merge M0 M1 (some (.int r)) M 9 [(0, va_rf (some v0)), (1, .int v1), (2, .int v2), (3, .int v3), (4, .int v4)] [] := by
  intro n
  induction n with
  | zero => intro M v0 v1 v2 v3 v4 hJ; cases hJ
  | succ n ih =>
    intro M v0 v1 v2 v3 v4 hJ
    rw [jb_PM_merge_9] at hJ
    refine mv_iload (pc := 9) de_PM_merge_9 4 rfl ?_
    refine mv_iconst (pc := 11) (v := 1) de_PM_merge_11 (by decide) ?_
    refine mv_iadd (pc := 12) de_PM_merge_12 ?_
    refine mv_aload_n (pc := 13) (i := 0) de_PM_merge_13 rfl 0 rfl ?_
    refine mv_getI (pc := 14) (f := 31) (kc_1 l D E B sa) (Nat.le_of_ble_eq_true rfl) wt_4_111 de_PM_merge_14 hJ (fun x14 e14 h14 => ?_)
    refine mv_icmp_ge (pc := 17) (tgt := 137) de_PM_merge_17 (by decide) h14 (fun hc17 h17 => ?_) (fun hc17 h17 => ?_)
    · refine mv_iload_n (pc := 137) (i := 1) de_PM_merge_137 rfl 1 rfl ?_
      refine mv_iconst (pc := 138) (v := 2) de_PM_merge_138 (by decide) ?_
      refine mv_icmp_ge (pc := 139) (tgt := 145) de_PM_merge_139 (by decide) h17 (fun hc139 h139 => ?_) (fun hc139 h139 => ?_)
      · refine mv_aload_n (pc := 145) (i := 0) de_PM_merge_145 rfl 0 rfl ?_
        refine mv_getI (pc := 146) (f := 33) (kc_1 l D E B sa) (Nat.le_of_ble_eq_true rfl) wt_4_113 de_PM_merge_146 h139 (fun x146 e146 h146 => ?_)
        refine mv_bipush (pc := 149) (v := 60) de_PM_merge_149 (by decide) ?_
        refine mv_icmp_ne (pc := 151) (tgt := 157) de_PM_merge_151 (by decide) h146 (fun hc151 h151 => ?_) (fun hc151 h151 => ?_)
        · refine mv_bipush (pc := 154) (v := (-3)) de_PM_merge_154 (by decide) ?_
          exact mv_iret (pc := 156) rfl de_PM_merge_156 h151
        · refine mv_aload_n (pc := 157) (i := 0) de_PM_merge_157 rfl 0 rfl ?_
          refine mv_getR (pc := 158) (f := 34) (kc_1 l D E B sa) (Nat.le_of_ble_eq_true rfl) wt_4_114 de_PM_merge_158 h151 (fun x158 e158 h158 => ?_)
          refine mv_aload_n (pc := 161) (i := 0) de_PM_merge_161 rfl 0 rfl ?_
          refine mv_getI (pc := 162) (f := 33) (kc_1 l D E B sa) (Nat.le_of_ble_eq_true rfl) wt_4_113 de_PM_merge_162 h158 (fun x162 e162 h162 => ?_)
          refine mv_iload_n (pc := 165) (i := 2) de_PM_merge_165 rfl 2 rfl ?_
          obtain ⟨a166, ha, h166a⟩ := mj_bindE h162
          subst ha
          refine mv_iast (pc := 166) (t := 0) rfl de_PM_merge_166 h166a (fun Mm166 e166 h166 => ?_)
          refine mv_aload_n (pc := 167) (i := 0) de_PM_merge_167 rfl 0 rfl ?_
          refine mv_getR (pc := 168) (f := 35) (kc_1 l D E B sa) (Nat.le_of_ble_eq_true rfl) wt_4_115 de_PM_merge_168 h166 (fun x168 e168 h168 => ?_)
          refine mv_aload_n (pc := 171) (i := 0) de_PM_merge_171 rfl 0 rfl ?_
          refine mv_getI (pc := 172) (f := 33) (kc_1 l D E B sa) (Nat.le_of_ble_eq_true rfl) wt_4_113 de_PM_merge_172 h168 (fun x172 e172 h172 => ?_)
          refine mv_iload_n (pc := 175) (i := 3) de_PM_merge_175 rfl 3 rfl ?_
          obtain ⟨a176, ha, h176a⟩ := mj_bindE h172
          subst ha
          refine mv_iast (pc := 176) (t := 0) rfl de_PM_merge_176 h176a (fun Mm176 e176 h176 => ?_)
          refine mv_aload_n (pc := 177) (i := 0) de_PM_merge_177 rfl 0 rfl ?_
          refine mv_iload_n (pc := 178) (i := 2) de_PM_merge_178 rfl 2 rfl ?_
          refine mv_iload_n (pc := 179) (i := 3) de_PM_merge_179 rfl 3 rfl ?_
          refine mv_bipush (pc := 180) (v := 26) de_PM_merge_180 (by decide) ?_
          refine mv_aload_n (pc := 182) (i := 0) de_PM_merge_182 rfl 0 rfl ?_
          refine mv_getI (pc := 183) (f := 33) (kc_1 l D E B sa) (Nat.le_of_ble_eq_true rfl) wt_4_113 de_PM_merge_183 h176 (fun x183 e183 h183 => ?_)
          refine mv_iadd (pc := 186) de_PM_merge_186 ?_
          obtain ⟨hi187, h187o⟩ := mj_obE h183
          obtain ⟨r187, Mm187, hz187, h187⟩ := mj_callE h187o
          refine mv_callV (pc := 187) (n := 3) (av := [.int v2, .int v3, .int (26 + x183)]) (rest := []) de_PM_merge_187 (kc_1 l D E B sa) hi187 (cm_PM_joins l D E B sa N Mm176 v0 v2 v3 (26 + x183) _ _ hz187) wt_5_219 wt_5_221 wp_61 wt_1_8 wt_5_222 ⟨by decide, by decide, by decide +kernel⟩ rfl ⟨Nat.le_of_ble_eq_true rfl, Nat.le_of_ble_eq_true rfl⟩ (Nat.le_of_ble_eq_true rfl) rfl ?_
          refine mv_bipush (pc := 190) (v := 26) de_PM_merge_190 (by decide) ?_
          refine mv_aload_n (pc := 192) (i := 0) de_PM_merge_192 rfl 0 rfl ?_
          refine mv_dup (pc := 193) de_PM_merge_193 rfl ?_
          refine mv_getI (pc := 194) (f := 33) (kc_1 l D E B sa) (Nat.le_of_ble_eq_true rfl) wt_4_113 de_PM_merge_194 h187 (fun x194 e194 h194 => ?_)
          refine mv_dup_x1 (pc := 197) de_PM_merge_197 rfl rfl ?_
          refine mv_iconst (pc := 198) (v := 1) de_PM_merge_198 (by decide) ?_
          refine mv_iadd (pc := 199) de_PM_merge_199 ?_
          refine mv_put (pc := 200) (f := 33) (kc_1 l D E B sa) (Nat.le_of_ble_eq_true rfl) wt_4_113 rfl rfl rfl de_PM_merge_200 h194 (fun Mm200 e200 h200 => ?_)
          refine mv_iadd (pc := 203) de_PM_merge_203 ?_
          exact mv_iret (pc := 204) rfl de_PM_merge_204 h200
      · refine mv_bipush (pc := 142) (v := (-2)) de_PM_merge_142 (by decide) ?_
        exact mv_iret (pc := 144) rfl de_PM_merge_144 h139
    · refine mv_aload_n (pc := 20) (i := 0) de_PM_merge_20 rfl 0 rfl ?_
      refine mv_aload_n (pc := 21) (i := 0) de_PM_merge_21 rfl 0 rfl ?_
      refine mv_getR (pc := 22) (f := 32) (kc_1 l D E B sa) (Nat.le_of_ble_eq_true rfl) wt_4_112 de_PM_merge_22 h17 (fun x22 e22 h22 => ?_)
      refine mv_iload (pc := 25) de_PM_merge_25 4 rfl ?_
      obtain ⟨a27, ha, h27a⟩ := mj_bindE h22
      subst ha
      refine mv_iald (pc := 27) (t := 0) rfl de_PM_merge_27 h27a (fun x27 e27 h27 => ?_)
      refine mv_aload_n (pc := 28) (i := 0) de_PM_merge_28 rfl 0 rfl ?_
      refine mv_getR (pc := 29) (f := 32) (kc_1 l D E B sa) (Nat.le_of_ble_eq_true rfl) wt_4_112 de_PM_merge_29 h27 (fun x29 e29 h29 => ?_)
      refine mv_iload (pc := 32) de_PM_merge_32 4 rfl ?_
      refine mv_iconst (pc := 34) (v := 1) de_PM_merge_34 (by decide) ?_
      refine mv_iadd (pc := 35) de_PM_merge_35 ?_
      obtain ⟨a36, ha, h36a⟩ := mj_bindE h29
      subst ha
      refine mv_iald (pc := 36) (t := 0) rfl de_PM_merge_36 h36a (fun x36 e36 h36 => ?_)
      obtain ⟨hi37, h37o⟩ := mj_obE h36
      obtain ⟨r37, Mm37, hz37, h37⟩ := mj_callE h37o
      refine mv_callV (pc := 37) (n := 2) (av := [.int x27, .int x36]) (rest := []) de_PM_merge_37 (kc_1 l D E B sa) hi37 (cm_PM_often l D E B sa N M v0 x27 x36 _ _ hz37) wt_5_215 wt_5_217 wp_60 wt_1_8 wt_5_218 ⟨by decide, by decide, by decide +kernel⟩ rfl ⟨Nat.le_of_ble_eq_true rfl, Nat.le_of_ble_eq_true rfl⟩ (Nat.le_of_ble_eq_true rfl) rfl ?_
      refine mv_istore (pc := 40) (lv' := [(5, .int r37), (0, va_rf (some v0)), (1, .int v1), (2, .int v2), (3, .int v3), (4, .int v4)]) de_PM_merge_40 (Nat.le_of_ble_eq_true rfl) rfl ?_
      refine mv_aload_n (pc := 42) (i := 0) de_PM_merge_42 rfl 1 rfl ?_
      refine mv_getR (pc := 43) (f := 32) (kc_1 l D E B sa) (Nat.le_of_ble_eq_true rfl) wt_4_112 de_PM_merge_43 h37 (fun x43 e43 h43 => ?_)
      refine mv_iload (pc := 46) de_PM_merge_46 5 rfl ?_
      obtain ⟨a48, ha, h48a⟩ := mj_bindE h43
      subst ha
      refine mv_iald (pc := 48) (t := 0) rfl de_PM_merge_48 h48a (fun x48 e48 h48 => ?_)
      refine mv_iload_n (pc := 49) (i := 2) de_PM_merge_49 rfl 3 rfl ?_
      refine mv_icmp_lt (pc := 50) (tgt := 77) de_PM_merge_50 (by decide) h48 (fun hc50 h50 => ?_) (fun hc50 h50 => ?_)
      · exact mv_sub [1, 2, 3, 4, 5, 0] rfl (tb_PM_merge_77 l D E B sa M0 M1 r N (jb_PM_merge_9 N n) ih Mm37 v0 v1 v2 v3 v4 r37 h50)
      · refine mv_aload_n (pc := 53) (i := 0) de_PM_merge_53 rfl 1 rfl ?_
        refine mv_getR (pc := 54) (f := 32) (kc_1 l D E B sa) (Nat.le_of_ble_eq_true rfl) wt_4_112 de_PM_merge_54 h50 (fun x54 e54 h54 => ?_)
        refine mv_iload (pc := 57) de_PM_merge_57 5 rfl ?_
        obtain ⟨a59, ha, h59a⟩ := mj_bindE h54
        subst ha
        refine mv_iald (pc := 59) (t := 0) rfl de_PM_merge_59 h59a (fun x59 e59 h59 => ?_)
        refine mv_iload_n (pc := 60) (i := 2) de_PM_merge_60 rfl 3 rfl ?_
        refine mv_icmp_ne (pc := 61) (tgt := 81) de_PM_merge_61 (by decide) h59 (fun hc61 h61 => ?_) (fun hc61 h61 => ?_)
        · refine mv_aload_n (pc := 64) (i := 0) de_PM_merge_64 rfl 1 rfl ?_
          refine mv_getR (pc := 65) (f := 32) (kc_1 l D E B sa) (Nat.le_of_ble_eq_true rfl) wt_4_112 de_PM_merge_65 h61 (fun x65 e65 h65 => ?_)
          refine mv_iload (pc := 68) de_PM_merge_68 5 rfl ?_
          refine mv_iconst (pc := 70) (v := 1) de_PM_merge_70 (by decide) ?_
          refine mv_iadd (pc := 71) de_PM_merge_71 ?_
          obtain ⟨a72, ha, h72a⟩ := mj_bindE h65
          subst ha
          refine mv_iald (pc := 72) (t := 0) rfl de_PM_merge_72 h72a (fun x72 e72 h72 => ?_)
          refine mv_iload_n (pc := 73) (i := 3) de_PM_merge_73 rfl 4 rfl ?_
          refine mv_icmp_ge (pc := 74) (tgt := 81) de_PM_merge_74 (by decide) h72 (fun hc74 h74 => ?_) (fun hc74 h74 => ?_)
          · exact mv_sub [1, 2, 3, 4, 5, 0] rfl (tb_PM_merge_81 l D E B sa M0 M1 r N (jb_PM_merge_9 N n) ih Mm37 v0 v1 v2 v3 v4 r37 h74)
          · exact mv_sub [1, 2, 3, 4, 5, 0] rfl (tb_PM_merge_77 l D E B sa M0 M1 r N (jb_PM_merge_9 N n) ih Mm37 v0 v1 v2 v3 v4 r37 h74)
        · exact mv_sub [1, 2, 3, 4, 5, 0] rfl (tb_PM_merge_81 l D E B sa M0 M1 r N (jb_PM_merge_9 N n) ih Mm37 v0 v1 v2 v3 v4 r37 h61)
set_option maxHeartbeats 4000000 in
set_option maxRecDepth 100000 in
theorem tb_PM_merge_0 (l : Launch) (D : va_G) (E : Nat → ClassId) (B : Nat) (sa : (Nat → Nat) × Nat × (Nat → Int32)) (M0 M1 : mv_M) (r : Int32) (N : Nat) (M : mv_M) (v0 : Nat) (hJ : jb_PM_merge_0 N M v0 = some (r, M1)) : mv_G (xg l D E B sa) kd_PM_merge M0 M1 (some (.int r)) M 0 [(0, va_rf (some v0))] [] := by
  unfold jb_PM_merge_0 at hJ
  refine mv_iconst (pc := 0) (v := 1) de_PM_merge_0 (by decide) ?_
  refine mv_istore_n (pc := 1) (i := 1) (lv' := [(1, .int 1), (0, va_rf (some v0))]) de_PM_merge_1 rfl (Nat.le_of_ble_eq_true rfl) rfl ?_
  refine mv_iconst (pc := 2) (v := 0) de_PM_merge_2 (by decide) ?_
  refine mv_istore_n (pc := 3) (i := 2) (lv' := [(2, .int 0), (1, .int 1), (0, va_rf (some v0))]) de_PM_merge_3 rfl (Nat.le_of_ble_eq_true rfl) rfl ?_
  refine mv_iconst (pc := 4) (v := 0) de_PM_merge_4 (by decide) ?_
  refine mv_istore_n (pc := 5) (i := 3) (lv' := [(3, .int 0), (2, .int 0), (1, .int 1), (0, va_rf (some v0))]) de_PM_merge_5 rfl (Nat.le_of_ble_eq_true rfl) rfl ?_
  refine mv_iconst (pc := 6) (v := 0) de_PM_merge_6 (by decide) ?_
  refine mv_istore (pc := 7) (lv' := [(4, .int 0), (3, .int 0), (2, .int 0), (1, .int 1), (0, va_rf (some v0))]) de_PM_merge_7 (Nat.le_of_ble_eq_true rfl) rfl ?_
  exact mv_sub [4, 3, 2, 1, 0] rfl (tb_PM_merge_9 l D E B sa M0 M1 r N N M v0 1 0 0 0 hJ)
theorem cm_PM_merge (l : Launch) (D : va_G) (E : Nat → ClassId) (B : Nat) (sa : (Nat → Nat) × Nat × (Nat → Int32)) (N : Nat) (M : mv_M) (v0 : Nat) (r : Int32) (M1 : mv_M) (hJ : jf_PM_merge N M v0 = some (r, M1)) : mv_Met (xg l D E B sa) yn_PM_merge cd_PM_merge 7 (some .int) 1 26 [va_rf (some v0)] M (some (.int r)) M1 :=
  mv_enter (by decide) (Nat.le_of_ble_eq_true rfl) (mv_sub (lv := [(0, va_rf (some v0))]) [0] rfl (tb_PM_merge_0 l D E B sa M M1 r N M v0 hJ))
/-! ===== PlainLearnerModel.merged(II)I ===== -/
abbrev kd_PM_merged : mv_Kd := (cd_PM_merged, 4, "PlainLearnerModel", "merged", (some .int), 1, 25)
theorem de_PM_merged_0 : decode cd_PM_merged 0 = .ok (.iload_n 1, 1) := by decide +kernel
theorem de_PM_merged_1 : decode cd_PM_merged 1 = .ok (.i2l, 1) := by decide +kernel
theorem de_PM_merged_2 : decode cd_PM_merged 2 = .ok (.lconst 0, 1) := by decide +kernel
theorem de_PM_merged_3 : decode cd_PM_merged 3 = .ok (.aload_n 0, 1) := by decide +kernel
theorem de_PM_merged_4 : decode cd_PM_merged 4 = .ok (.getfield 301, 3) := by decide +kernel
theorem de_PM_merged_7 : decode cd_PM_merged 7 = .ok (.iconst 1, 1) := by decide +kernel
theorem de_PM_merged_8 : decode cd_PM_merged 8 = .ok (.isub, 1) := by decide +kernel
theorem de_PM_merged_9 : decode cd_PM_merged 9 = .ok (.i2l, 1) := by decide +kernel
theorem de_PM_merged_10 : decode cd_PM_merged 10 = .ok (.invokestatic 99, 3) := by decide +kernel
theorem de_PM_merged_13 : decode cd_PM_merged 13 = .ok (.ifCond .eq 15, 3) := by decide +kernel
theorem de_PM_merged_16 : decode cd_PM_merged 16 = .ok (.iload_n 2, 1) := by decide +kernel
theorem de_PM_merged_17 : decode cd_PM_merged 17 = .ok (.i2l, 1) := by decide +kernel
theorem de_PM_merged_18 : decode cd_PM_merged 18 = .ok (.lconst 0, 1) := by decide +kernel
theorem de_PM_merged_19 : decode cd_PM_merged 19 = .ok (.ldc2_w 223, 3) := by decide +kernel
theorem de_PM_merged_22 : decode cd_PM_merged 22 = .ok (.invokestatic 99, 3) := by decide +kernel
theorem de_PM_merged_25 : decode cd_PM_merged 25 = .ok (.ifCond .ne 5, 3) := by decide +kernel
theorem de_PM_merged_28 : decode cd_PM_merged 28 = .ok (.iconst (-1), 1) := by decide +kernel
theorem de_PM_merged_29 : decode cd_PM_merged 29 = .ok (.ireturn, 1) := by decide +kernel
theorem de_PM_merged_30 : decode cd_PM_merged 30 = .ok (.iload_n 2, 1) := by decide +kernel
theorem de_PM_merged_31 : decode cd_PM_merged 31 = .ok (.iconst 2, 1) := by decide +kernel
theorem de_PM_merged_32 : decode cd_PM_merged 32 = .ok (.if_icmp .ge 23, 3) := by decide +kernel
theorem de_PM_merged_35 : decode cd_PM_merged 35 = .ok (.iload_n 2, 1) := by decide +kernel
theorem de_PM_merged_36 : decode cd_PM_merged 36 = .ok (.ifCond .ne 12, 3) := by decide +kernel
theorem de_PM_merged_39 : decode cd_PM_merged 39 = .ok (.aload_n 0, 1) := by decide +kernel
theorem de_PM_merged_40 : decode cd_PM_merged 40 = .ok (.getfield 63, 3) := by decide +kernel
theorem de_PM_merged_43 : decode cd_PM_merged 43 = .ok (.iload_n 1, 1) := by decide +kernel
theorem de_PM_merged_44 : decode cd_PM_merged 44 = .ok (.iaload, 1) := by decide +kernel
theorem de_PM_merged_45 : decode cd_PM_merged 45 = .ok (.goto 9, 3) := by decide +kernel
theorem de_PM_merged_48 : decode cd_PM_merged 48 = .ok (.aload_n 0, 1) := by decide +kernel
theorem de_PM_merged_49 : decode cd_PM_merged 49 = .ok (.getfield 66, 3) := by decide +kernel
theorem de_PM_merged_52 : decode cd_PM_merged 52 = .ok (.iload_n 1, 1) := by decide +kernel
theorem de_PM_merged_53 : decode cd_PM_merged 53 = .ok (.iaload, 1) := by decide +kernel
theorem de_PM_merged_54 : decode cd_PM_merged 54 = .ok (.ireturn, 1) := by decide +kernel
theorem de_PM_merged_55 : decode cd_PM_merged 55 = .ok (.iconst 0, 1) := by decide +kernel
theorem de_PM_merged_56 : decode cd_PM_merged 56 = .ok (.istore_n 3, 1) := by decide +kernel
theorem de_PM_merged_57 : decode cd_PM_merged 57 = .ok (.iload_n 3, 1) := by decide +kernel
theorem de_PM_merged_58 : decode cd_PM_merged 58 = .ok (.iload_n 1, 1) := by decide +kernel
theorem de_PM_merged_59 : decode cd_PM_merged 59 = .ok (.if_icmp .gt 74, 3) := by decide +kernel
theorem de_PM_merged_62 : decode cd_PM_merged 62 = .ok (.aload_n 0, 1) := by decide +kernel
theorem de_PM_merged_63 : decode cd_PM_merged 63 = .ok (.getfield 69, 3) := by decide +kernel
theorem de_PM_merged_66 : decode cd_PM_merged 66 = .ok (.iload_n 3, 1) := by decide +kernel
theorem de_PM_merged_67 : decode cd_PM_merged 67 = .ok (.aload_n 0, 1) := by decide +kernel
theorem de_PM_merged_68 : decode cd_PM_merged 68 = .ok (.getfield 63, 3) := by decide +kernel
theorem de_PM_merged_71 : decode cd_PM_merged 71 = .ok (.iload_n 3, 1) := by decide +kernel
theorem de_PM_merged_72 : decode cd_PM_merged 72 = .ok (.iaload, 1) := by decide +kernel
theorem de_PM_merged_73 : decode cd_PM_merged 73 = .ok (.bipush 26, 2) := by decide +kernel
theorem de_PM_merged_75 : decode cd_PM_merged 75 = .ok (.if_icmp .ge 7, 3) := by decide +kernel
theorem de_PM_merged_78 : decode cd_PM_merged 78 = .ok (.iconst 1, 1) := by decide +kernel
theorem de_PM_merged_79 : decode cd_PM_merged 79 = .ok (.goto 17, 3) := by decide +kernel
theorem de_PM_merged_82 : decode cd_PM_merged 82 = .ok (.aload_n 0, 1) := by decide +kernel
theorem de_PM_merged_83 : decode cd_PM_merged 83 = .ok (.getfield 69, 3) := by decide +kernel
theorem de_PM_merged_86 : decode cd_PM_merged 86 = .ok (.aload_n 0, 1) := by decide +kernel
theorem de_PM_merged_87 : decode cd_PM_merged 87 = .ok (.getfield 63, 3) := by decide +kernel
theorem de_PM_merged_90 : decode cd_PM_merged 90 = .ok (.iload_n 3, 1) := by decide +kernel
theorem de_PM_merged_91 : decode cd_PM_merged 91 = .ok (.iaload, 1) := by decide +kernel
theorem de_PM_merged_92 : decode cd_PM_merged 92 = .ok (.bipush 26, 2) := by decide +kernel
theorem de_PM_merged_94 : decode cd_PM_merged 94 = .ok (.isub, 1) := by decide +kernel
theorem de_PM_merged_95 : decode cd_PM_merged 95 = .ok (.iaload, 1) := by decide +kernel
theorem de_PM_merged_96 : decode cd_PM_merged 96 = .ok (.aload_n 0, 1) := by decide +kernel
theorem de_PM_merged_97 : decode cd_PM_merged 97 = .ok (.getfield 66, 3) := by decide +kernel
theorem de_PM_merged_100 : decode cd_PM_merged 100 = .ok (.iload_n 3, 1) := by decide +kernel
theorem de_PM_merged_101 : decode cd_PM_merged 101 = .ok (.iaload, 1) := by decide +kernel
theorem de_PM_merged_102 : decode cd_PM_merged 102 = .ok (.bipush 26, 2) := by decide +kernel
theorem de_PM_merged_104 : decode cd_PM_merged 104 = .ok (.if_icmp .ge 7, 3) := by decide +kernel
theorem de_PM_merged_107 : decode cd_PM_merged 107 = .ok (.iconst 1, 1) := by decide +kernel
theorem de_PM_merged_108 : decode cd_PM_merged 108 = .ok (.goto 17, 3) := by decide +kernel
theorem de_PM_merged_111 : decode cd_PM_merged 111 = .ok (.aload_n 0, 1) := by decide +kernel
theorem de_PM_merged_112 : decode cd_PM_merged 112 = .ok (.getfield 69, 3) := by decide +kernel
theorem de_PM_merged_115 : decode cd_PM_merged 115 = .ok (.aload_n 0, 1) := by decide +kernel
theorem de_PM_merged_116 : decode cd_PM_merged 116 = .ok (.getfield 66, 3) := by decide +kernel
theorem de_PM_merged_119 : decode cd_PM_merged 119 = .ok (.iload_n 3, 1) := by decide +kernel
theorem de_PM_merged_120 : decode cd_PM_merged 120 = .ok (.iaload, 1) := by decide +kernel
theorem de_PM_merged_121 : decode cd_PM_merged 121 = .ok (.bipush 26, 2) := by decide +kernel
theorem de_PM_merged_123 : decode cd_PM_merged 123 = .ok (.isub, 1) := by decide +kernel
theorem de_PM_merged_124 : decode cd_PM_merged 124 = .ok (.iaload, 1) := by decide +kernel
theorem de_PM_merged_125 : decode cd_PM_merged 125 = .ok (.iadd, 1) := by decide +kernel
theorem de_PM_merged_126 : decode cd_PM_merged 126 = .ok (.iastore, 1) := by decide +kernel
theorem de_PM_merged_127 : decode cd_PM_merged 127 = .ok (.iinc 3 1, 3) := by decide +kernel
theorem de_PM_merged_130 : decode cd_PM_merged 130 = .ok (.goto (-73), 3) := by decide +kernel
theorem de_PM_merged_133 : decode cd_PM_merged 133 = .ok (.aload_n 0, 1) := by decide +kernel
theorem de_PM_merged_134 : decode cd_PM_merged 134 = .ok (.getfield 69, 3) := by decide +kernel
theorem de_PM_merged_137 : decode cd_PM_merged 137 = .ok (.iload_n 1, 1) := by decide +kernel
theorem de_PM_merged_138 : decode cd_PM_merged 138 = .ok (.iaload, 1) := by decide +kernel
theorem de_PM_merged_139 : decode cd_PM_merged 139 = .ok (.ireturn, 1) := by decide +kernel
def jb_PM_merged_28 (N : Nat) (M : mv_M) : Option (Int32 × mv_M) :=
  some ((-1), M)
def jb_PM_merged_125 (N : Nat) (k57 : mv_M → Nat → Int32 → Int32 → Option (Int32 × mv_M)) (M : mv_M) (v0 : Nat) (v1 : Int32) (v3 : Int32) (s0 : Option Nat) (s1 : Int32) (s2 : Int32) (s3 : Int32) : Option (Int32 × mv_M) :=
  Option.bind s0 fun a126 =>
  Option.bind (mj_ist M a126 0 s1 (s2 + s3)) fun Mm126 =>
  k57 Mm126 v0 v1 (v3 + 1)
def jb_PM_merged_96 (N : Nat) (k57 : mv_M → Nat → Int32 → Int32 → Option (Int32 × mv_M)) (M : mv_M) (v0 : Nat) (v1 : Int32) (v3 : Int32) (s0 : Option Nat) (s1 : Int32) (s2 : Int32) : Option (Int32 × mv_M) :=
  Option.bind (mj_getR M v0 1 35) fun x97 =>
  Option.bind x97 fun a101 =>
  Option.bind (mj_ild M a101 0 v3) fun x101 =>
  if 26 ≤ x101 then (Option.bind (mj_getR M v0 1 36) fun x112 =>
  Option.bind (mj_getR M v0 1 35) fun x116 =>
  Option.bind x116 fun a120 =>
  Option.bind (mj_ild M a120 0 v3) fun x120 =>
  Option.bind x112 fun a124 =>
  Option.bind (mj_ild M a124 0 (x120 - 26)) fun x124 =>
  jb_PM_merged_125 N k57 M v0 v1 v3 s0 s1 s2 x124) else
  jb_PM_merged_125 N k57 M v0 v1 v3 s0 s1 s2 1
def jb_PM_merged_57 (N : Nat) : Nat → mv_M → Nat → Int32 → Int32 → Option (Int32 × mv_M)
  | 0, _, _, _, _ => none
  | n + 1, M, v0, v1, v3 =>
    if v1 < v3 then (Option.bind (mj_getR M v0 1 36) fun x134 =>
    Option.bind x134 fun a138 =>
    Option.bind (mj_ild M a138 0 v1) fun x138 =>
    some (x138, M)) else
    Option.bind (mj_getR M v0 1 36) fun x63 =>
    Option.bind (mj_getR M v0 1 34) fun x68 =>
    Option.bind x68 fun a72 =>
    Option.bind (mj_ild M a72 0 v3) fun x72 =>
    if 26 ≤ x72 then (Option.bind (mj_getR M v0 1 36) fun x83 =>
    Option.bind (mj_getR M v0 1 34) fun x87 =>
    Option.bind x87 fun a91 =>
    Option.bind (mj_ild M a91 0 v3) fun x91 =>
    Option.bind x83 fun a95 =>
    Option.bind (mj_ild M a95 0 (x91 - 26)) fun x95 =>
    jb_PM_merged_96 N (jb_PM_merged_57 N n) M v0 v1 v3 x63 v3 x95) else
    jb_PM_merged_96 N (jb_PM_merged_57 N n) M v0 v1 v3 x63 v3 1
def jb_PM_merged_54 (N : Nat) (M : mv_M) (s0 : Int32) : Option (Int32 × mv_M) :=
  some (s0, M)
def jb_PM_merged_0 (N : Nat) (M : mv_M) (v0 : Nat) (v1 : Int32) (v2 : Int32) : Option (Int32 × mv_M) :=
  Option.bind (mj_getI M v0 1 33) fun x4 =>
  mj_call (jf_PM_isIn N M v1.toInt64 0 ((x4 - 1).toInt64)) fun r10 Mm10 =>
  if r10 = 0 then (jb_PM_merged_28 N Mm10) else
  mj_call (jf_PM_isIn N Mm10 v2.toInt64 0 2) fun r22 Mm22 =>
  if r22 = 0 then (jb_PM_merged_28 N Mm22) else
  if 2 ≤ v2 then (jb_PM_merged_57 N N Mm22 v0 v1 0) else
  if v2 = 0 then (Option.bind (mj_getR Mm22 v0 1 34) fun x40 =>
  Option.bind x40 fun a44 =>
  Option.bind (mj_ild Mm22 a44 0 v1) fun x44 =>
  jb_PM_merged_54 N Mm22 x44) else
  Option.bind (mj_getR Mm22 v0 1 35) fun x49 =>
  Option.bind x49 fun a53 =>
  Option.bind (mj_ild Mm22 a53 0 v1) fun x53 =>
  jb_PM_merged_54 N Mm22 x53
def jf_PM_merged (N : Nat) (M : mv_M) (v0 : Nat) (v1 : Int32) (v2 : Int32) : Option (Int32 × mv_M) := jb_PM_merged_0 N M v0 v1 v2
set_option maxHeartbeats 4000000 in
set_option maxRecDepth 100000 in
theorem tb_PM_merged_28 (l : Launch) (D : va_G) (E : Nat → ClassId) (B : Nat) (sa : (Nat → Nat) × Nat × (Nat → Int32)) (M0 M1 : mv_M) (r : Int32) (N : Nat) (M : mv_M) (hJ : jb_PM_merged_28 N M = some (r, M1)) : mv_G (xg l D E B sa) kd_PM_merged M0 M1 (some (.int r)) M 28 [] [] := by
  unfold jb_PM_merged_28 at hJ
  refine mv_iconst (pc := 28) (v := (-1)) de_PM_merged_28 (by decide) ?_
  exact mv_iret (pc := 29) rfl de_PM_merged_29 hJ
set_option maxHeartbeats 4000000 in
set_option maxRecDepth 100000 in
theorem tb_PM_merged_125 (l : Launch) (D : va_G) (E : Nat → ClassId) (B : Nat) (sa : (Nat → Nat) × Nat × (Nat → Int32)) (M0 M1 : mv_M) (r : Int32) (N : Nat) (k57 : mv_M → Nat → Int32 → Int32 → Option (Int32 × mv_M)) (hk57 : ∀ (M : mv_M) (v0 : Nat) (v1 : Int32) (v3 : Int32), k57 M v0 v1 v3 = some (r, M1) → mv_G (xg l D E B sa) kd_PM_merged M0 M1 (some (.int r)) M 57 [(0, va_rf (some v0)), (1, .int v1), (3, .int v3)] []) (M : mv_M) (v0 : Nat) (v1 : Int32) (v3 : Int32) (s0 : Option Nat) (s1 : Int32) (s2 : Int32) (s3 : Int32) (hJ : jb_PM_merged_125 N k57 M v0 v1 v3 s0 s1 s2 s3 = some (r, M1)) : mv_G (xg l D E B sa) kd_PM_merged M0 M1 (some (.int r)) M 125 [(0, va_rf (some v0)), (1, .int v1), (3, .int v3)] [.int s3, .int s2, .int s1, va_rf s0] := by
  unfold jb_PM_merged_125 at hJ
  refine mv_iadd (pc := 125) de_PM_merged_125 ?_
  obtain ⟨a126, ha, h126a⟩ := mj_bindE hJ
  subst ha
  refine mv_iast (pc := 126) (t := 0) rfl de_PM_merged_126 h126a (fun Mm126 e126 h126 => ?_)
  refine mv_iinc (pc := 127) (v := (v3 + 1)) (lv' := [(3, .int (v3 + 1)), (0, va_rf (some v0)), (1, .int v1)]) de_PM_merged_127 2 rfl rfl (Nat.le_of_ble_eq_true rfl) rfl ?_
  refine mv_goto (pc := 130) (tgt := 57) de_PM_merged_130 (by decide) ?_
  exact mv_sub [1, 2, 0] rfl (hk57 Mm126 v0 v1 (v3 + 1) h126)
set_option maxHeartbeats 4000000 in
set_option maxRecDepth 100000 in
theorem tb_PM_merged_96 (l : Launch) (D : va_G) (E : Nat → ClassId) (B : Nat) (sa : (Nat → Nat) × Nat × (Nat → Int32)) (M0 M1 : mv_M) (r : Int32) (N : Nat) (k57 : mv_M → Nat → Int32 → Int32 → Option (Int32 × mv_M)) (hk57 : ∀ (M : mv_M) (v0 : Nat) (v1 : Int32) (v3 : Int32), k57 M v0 v1 v3 = some (r, M1) → mv_G (xg l D E B sa) kd_PM_merged M0 M1 (some (.int r)) M 57 [(0, va_rf (some v0)), (1, .int v1), (3, .int v3)] []) (M : mv_M) (v0 : Nat) (v1 : Int32) (v3 : Int32) (s0 : Option Nat) (s1 : Int32) (s2 : Int32) (hJ : jb_PM_merged_96 N k57 M v0 v1 v3 s0 s1 s2 = some (r, M1)) : mv_G (xg l D E B sa) kd_PM_merged M0 M1 (some (.int r)) M 96 [(0, va_rf (some v0)), (1, .int v1), (3, .int v3)] [.int s2, .int s1, va_rf s0] := by
  unfold jb_PM_merged_96 at hJ
  refine mv_aload_n (pc := 96) (i := 0) de_PM_merged_96 rfl 0 rfl ?_
  refine mv_getR (pc := 97) (f := 35) (kc_1 l D E B sa) (Nat.le_of_ble_eq_true rfl) wt_4_115 de_PM_merged_97 hJ (fun x97 e97 h97 => ?_)
  refine mv_iload_n (pc := 100) (i := 3) de_PM_merged_100 rfl 2 rfl ?_
  obtain ⟨a101, ha, h101a⟩ := mj_bindE h97
  subst ha
  refine mv_iald (pc := 101) (t := 0) rfl de_PM_merged_101 h101a (fun x101 e101 h101 => ?_)
  refine mv_bipush (pc := 102) (v := 26) de_PM_merged_102 (by decide) ?_
  refine mv_icmp_ge (pc := 104) (tgt := 111) de_PM_merged_104 (by decide) h101 (fun hc104 h104 => ?_) (fun hc104 h104 => ?_)
  · refine mv_aload_n (pc := 111) (i := 0) de_PM_merged_111 rfl 0 rfl ?_
    refine mv_getR (pc := 112) (f := 36) (kc_1 l D E B sa) (Nat.le_of_ble_eq_true rfl) wt_4_116 de_PM_merged_112 h104 (fun x112 e112 h112 => ?_)
    refine mv_aload_n (pc := 115) (i := 0) de_PM_merged_115 rfl 0 rfl ?_
    refine mv_getR (pc := 116) (f := 35) (kc_1 l D E B sa) (Nat.le_of_ble_eq_true rfl) wt_4_115 de_PM_merged_116 h112 (fun x116 e116 h116 => ?_)
    refine mv_iload_n (pc := 119) (i := 3) de_PM_merged_119 rfl 2 rfl ?_
    obtain ⟨a120, ha, h120a⟩ := mj_bindE h116
    subst ha
    refine mv_iald (pc := 120) (t := 0) rfl de_PM_merged_120 h120a (fun x120 e120 h120 => ?_)
    refine mv_bipush (pc := 121) (v := 26) de_PM_merged_121 (by decide) ?_
    refine mv_isub (pc := 123) de_PM_merged_123 ?_
    obtain ⟨a124, ha, h124a⟩ := mj_bindE h120
    subst ha
    refine mv_iald (pc := 124) (t := 0) rfl de_PM_merged_124 h124a (fun x124 e124 h124 => ?_)
    exact mv_sub [0, 1, 2] rfl (tb_PM_merged_125 l D E B sa M0 M1 r N k57 hk57 M v0 v1 v3 s0 s1 s2 x124 h124)
  · refine mv_iconst (pc := 107) (v := 1) de_PM_merged_107 (by decide) ?_
    refine mv_goto (pc := 108) (tgt := 125) de_PM_merged_108 (by decide) ?_
    exact mv_sub [0, 1, 2] rfl (tb_PM_merged_125 l D E B sa M0 M1 r N k57 hk57 M v0 v1 v3 s0 s1 s2 1 h104)
set_option maxHeartbeats 4000000 in
set_option maxRecDepth 100000 in
theorem tb_PM_merged_57 (l : Launch) (D : va_G) (E : Nat → ClassId) (B : Nat) (sa : (Nat → Nat) × Nat × (Nat → Int32)) (M0 M1 : mv_M) (r : Int32) (N : Nat) : ∀ (n : Nat) (M : mv_M) (v0 : Nat) (v1 : Int32) (v3 : Int32) (hJ : jb_PM_merged_57 N n M v0 v1 v3 = some (r, M1)), mv_G (xg l D E B sa) kd_PM_merged M0 M1 (some (.int r)) M 57 [(0, va_rf (some v0)), (1, .int v1), (3, .int v3)] [] := by
  intro n
  induction n with
  | zero => intro M v0 v1 v3 hJ; cases hJ
  | succ n ih =>
    intro M v0 v1 v3 hJ
    rw [jb_PM_merged_57] at hJ
    refine mv_iload_n (pc := 57) (i := 3) de_PM_merged_57 rfl 2 rfl ?_
    refine mv_iload_n (pc := 58) (i := 1) de_PM_merged_58 rfl 1 rfl ?_
    refine mv_icmp_gt (pc := 59) (tgt := 133) de_PM_merged_59 (by decide) hJ (fun hc59 h59 => ?_) (fun hc59 h59 => ?_)
    · refine mv_aload_n (pc := 133) (i := 0) de_PM_merged_133 rfl 0 rfl ?_
      refine mv_getR (pc := 134) (f := 36) (kc_1 l D E B sa) (Nat.le_of_ble_eq_true rfl) wt_4_116 de_PM_merged_134 h59 (fun x134 e134 h134 => ?_)
      refine mv_iload_n (pc := 137) (i := 1) de_PM_merged_137 rfl 1 rfl ?_
      obtain ⟨a138, ha, h138a⟩ := mj_bindE h134
      subst ha
      refine mv_iald (pc := 138) (t := 0) rfl de_PM_merged_138 h138a (fun x138 e138 h138 => ?_)
      exact mv_iret (pc := 139) rfl de_PM_merged_139 h138
    · refine mv_aload_n (pc := 62) (i := 0) de_PM_merged_62 rfl 0 rfl ?_
      refine mv_getR (pc := 63) (f := 36) (kc_1 l D E B sa) (Nat.le_of_ble_eq_true rfl) wt_4_116 de_PM_merged_63 h59 (fun x63 e63 h63 => ?_)
      refine mv_iload_n (pc := 66) (i := 3) de_PM_merged_66 rfl 2 rfl ?_
      refine mv_aload_n (pc := 67) (i := 0) de_PM_merged_67 rfl 0 rfl ?_
      refine mv_getR (pc := 68) (f := 34) (kc_1 l D E B sa) (Nat.le_of_ble_eq_true rfl) wt_4_114 de_PM_merged_68 h63 (fun x68 e68 h68 => ?_)
      refine mv_iload_n (pc := 71) (i := 3) de_PM_merged_71 rfl 2 rfl ?_
      obtain ⟨a72, ha, h72a⟩ := mj_bindE h68
      subst ha
      refine mv_iald (pc := 72) (t := 0) rfl de_PM_merged_72 h72a (fun x72 e72 h72 => ?_)
      refine mv_bipush (pc := 73) (v := 26) de_PM_merged_73 (by decide) ?_
      refine mv_icmp_ge (pc := 75) (tgt := 82) de_PM_merged_75 (by decide) h72 (fun hc75 h75 => ?_) (fun hc75 h75 => ?_)
      · refine mv_aload_n (pc := 82) (i := 0) de_PM_merged_82 rfl 0 rfl ?_
        refine mv_getR (pc := 83) (f := 36) (kc_1 l D E B sa) (Nat.le_of_ble_eq_true rfl) wt_4_116 de_PM_merged_83 h75 (fun x83 e83 h83 => ?_)
        refine mv_aload_n (pc := 86) (i := 0) de_PM_merged_86 rfl 0 rfl ?_
        refine mv_getR (pc := 87) (f := 34) (kc_1 l D E B sa) (Nat.le_of_ble_eq_true rfl) wt_4_114 de_PM_merged_87 h83 (fun x87 e87 h87 => ?_)
        refine mv_iload_n (pc := 90) (i := 3) de_PM_merged_90 rfl 2 rfl ?_
        obtain ⟨a91, ha, h91a⟩ := mj_bindE h87
        subst ha
        refine mv_iald (pc := 91) (t := 0) rfl de_PM_merged_91 h91a (fun x91 e91 h91 => ?_)
        refine mv_bipush (pc := 92) (v := 26) de_PM_merged_92 (by decide) ?_
        refine mv_isub (pc := 94) de_PM_merged_94 ?_
        obtain ⟨a95, ha, h95a⟩ := mj_bindE h91
        subst ha
        refine mv_iald (pc := 95) (t := 0) rfl de_PM_merged_95 h95a (fun x95 e95 h95 => ?_)
        exact mv_sub [0, 1, 2] rfl (tb_PM_merged_96 l D E B sa M0 M1 r N (jb_PM_merged_57 N n) ih M v0 v1 v3 x63 v3 x95 h95)
      · refine mv_iconst (pc := 78) (v := 1) de_PM_merged_78 (by decide) ?_
        refine mv_goto (pc := 79) (tgt := 96) de_PM_merged_79 (by decide) ?_
        exact mv_sub [0, 1, 2] rfl (tb_PM_merged_96 l D E B sa M0 M1 r N (jb_PM_merged_57 N n) ih M v0 v1 v3 x63 v3 1 h75)
set_option maxHeartbeats 4000000 in
set_option maxRecDepth 100000 in
theorem tb_PM_merged_54 (l : Launch) (D : va_G) (E : Nat → ClassId) (B : Nat) (sa : (Nat → Nat) × Nat × (Nat → Int32)) (M0 M1 : mv_M) (r : Int32) (N : Nat) (M : mv_M) (s0 : Int32) (hJ : jb_PM_merged_54 N M s0 = some (r, M1)) : mv_G (xg l D E B sa) kd_PM_merged M0 M1 (some (.int r)) M 54 [] [.int s0] := by
  unfold jb_PM_merged_54 at hJ
  exact mv_iret (pc := 54) rfl de_PM_merged_54 hJ
set_option maxHeartbeats 4000000 in
set_option maxRecDepth 100000 in
theorem tb_PM_merged_0 (l : Launch) (D : va_G) (E : Nat → ClassId) (B : Nat) (sa : (Nat → Nat) × Nat × (Nat → Int32)) (M0 M1 : mv_M) (r : Int32) (N : Nat) (M : mv_M) (v0 : Nat) (v1 : Int32) (v2 : Int32) (hJ : jb_PM_merged_0 N M v0 v1 v2 = some (r, M1)) : mv_G (xg l D E B sa) kd_PM_merged M0 M1 (some (.int r)) M 0 [(0, va_rf (some v0)), (1, .int v1), (2, .int v2)] [] := by
  unfold jb_PM_merged_0 at hJ
  refine mv_iload_n (pc := 0) (i := 1) de_PM_merged_0 rfl 1 rfl ?_
  refine mv_i2l (pc := 1) de_PM_merged_1 ?_
  refine mv_lconst (pc := 2) (v := 0) de_PM_merged_2 (by decide) ?_
  refine mv_aload_n (pc := 3) (i := 0) de_PM_merged_3 rfl 0 rfl ?_
  refine mv_getI (pc := 4) (f := 33) (kc_1 l D E B sa) (Nat.le_of_ble_eq_true rfl) wt_4_113 de_PM_merged_4 hJ (fun x4 e4 h4 => ?_)
  refine mv_iconst (pc := 7) (v := 1) de_PM_merged_7 (by decide) ?_
  refine mv_isub (pc := 8) de_PM_merged_8 ?_
  refine mv_i2l (pc := 9) de_PM_merged_9 ?_
  obtain ⟨r10, Mm10, hz10, h10⟩ := mj_callE h4
  refine mv_callS (pc := 10) (n := 3) (av := [.long v1.toInt64, .long 0, .long (x4 - 1).toInt64]) (rest := []) de_PM_merged_10 (cm_PM_isIn l D E B sa N M v1.toInt64 0 ((x4 - 1).toInt64) _ _ hz10) wt_4_197 wt_4_198 wt_1_8 wt_4_199 ⟨by decide, by decide, by decide +kernel⟩ rfl ⟨Nat.le_of_ble_eq_true rfl, Nat.le_of_ble_eq_true rfl⟩ (Nat.le_of_ble_eq_true rfl) rfl ?_
  refine mv_if_eq (pc := 13) (tgt := 28) de_PM_merged_13 (by decide) h10 (fun hc13 h13 => ?_) (fun hc13 h13 => ?_)
  · exact mv_sub [] rfl (tb_PM_merged_28 l D E B sa M0 M1 r N Mm10 h13)
  · refine mv_iload_n (pc := 16) (i := 2) de_PM_merged_16 rfl 2 rfl ?_
    refine mv_i2l (pc := 17) de_PM_merged_17 ?_
    refine mv_lconst (pc := 18) (v := 0) de_PM_merged_18 (by decide) ?_
    refine mv_ldc2 (pc := 19) de_PM_merged_19 wt_5_121 ?_
    obtain ⟨r22, Mm22, hz22, h22⟩ := mj_callE h13
    refine mv_callS (pc := 22) (n := 3) (av := [.long v2.toInt64, .long 0, .long 2]) (rest := []) de_PM_merged_22 (cm_PM_isIn l D E B sa N Mm10 v2.toInt64 0 2 _ _ hz22) wt_4_197 wt_4_198 wt_1_8 wt_4_199 ⟨by decide, by decide, by decide +kernel⟩ rfl ⟨Nat.le_of_ble_eq_true rfl, Nat.le_of_ble_eq_true rfl⟩ (Nat.le_of_ble_eq_true rfl) rfl ?_
    refine mv_if_ne (pc := 25) (tgt := 30) de_PM_merged_25 (by decide) h22 (fun hc25 h25 => ?_) (fun hc25 h25 => ?_)
    · exact mv_sub [] rfl (tb_PM_merged_28 l D E B sa M0 M1 r N Mm22 h25)
    · refine mv_iload_n (pc := 30) (i := 2) de_PM_merged_30 rfl 2 rfl ?_
      refine mv_iconst (pc := 31) (v := 2) de_PM_merged_31 (by decide) ?_
      refine mv_icmp_ge (pc := 32) (tgt := 55) de_PM_merged_32 (by decide) h25 (fun hc32 h32 => ?_) (fun hc32 h32 => ?_)
      · refine mv_iconst (pc := 55) (v := 0) de_PM_merged_55 (by decide) ?_
        refine mv_istore_n (pc := 56) (i := 3) (lv' := [(3, .int 0), (0, va_rf (some v0)), (1, .int v1), (2, .int v2)]) de_PM_merged_56 rfl (Nat.le_of_ble_eq_true rfl) rfl ?_
        exact mv_sub [1, 2, 0] rfl (tb_PM_merged_57 l D E B sa M0 M1 r N N Mm22 v0 v1 0 h32)
      · refine mv_iload_n (pc := 35) (i := 2) de_PM_merged_35 rfl 2 rfl ?_
        refine mv_if_ne (pc := 36) (tgt := 48) de_PM_merged_36 (by decide) h32 (fun hc36 h36 => ?_) (fun hc36 h36 => ?_)
        · refine mv_aload_n (pc := 39) (i := 0) de_PM_merged_39 rfl 0 rfl ?_
          refine mv_getR (pc := 40) (f := 34) (kc_1 l D E B sa) (Nat.le_of_ble_eq_true rfl) wt_4_114 de_PM_merged_40 h36 (fun x40 e40 h40 => ?_)
          refine mv_iload_n (pc := 43) (i := 1) de_PM_merged_43 rfl 1 rfl ?_
          obtain ⟨a44, ha, h44a⟩ := mj_bindE h40
          subst ha
          refine mv_iald (pc := 44) (t := 0) rfl de_PM_merged_44 h44a (fun x44 e44 h44 => ?_)
          refine mv_goto (pc := 45) (tgt := 54) de_PM_merged_45 (by decide) ?_
          exact mv_sub [] rfl (tb_PM_merged_54 l D E B sa M0 M1 r N Mm22 x44 h44)
        · refine mv_aload_n (pc := 48) (i := 0) de_PM_merged_48 rfl 0 rfl ?_
          refine mv_getR (pc := 49) (f := 35) (kc_1 l D E B sa) (Nat.le_of_ble_eq_true rfl) wt_4_115 de_PM_merged_49 h36 (fun x49 e49 h49 => ?_)
          refine mv_iload_n (pc := 52) (i := 1) de_PM_merged_52 rfl 1 rfl ?_
          obtain ⟨a53, ha, h53a⟩ := mj_bindE h49
          subst ha
          refine mv_iald (pc := 53) (t := 0) rfl de_PM_merged_53 h53a (fun x53 e53 h53 => ?_)
          exact mv_sub [] rfl (tb_PM_merged_54 l D E B sa M0 M1 r N Mm22 x53 h53)
theorem cm_PM_merged (l : Launch) (D : va_G) (E : Nat → ClassId) (B : Nat) (sa : (Nat → Nat) × Nat × (Nat → Int32)) (N : Nat) (M : mv_M) (v0 : Nat) (v1 : Int32) (v2 : Int32) (r : Int32) (M1 : mv_M) (hJ : jf_PM_merged N M v0 v1 v2 = some (r, M1)) : mv_Met (xg l D E B sa) yn_PM_merged cd_PM_merged 4 (some .int) 1 25 [va_rf (some v0), .int v1, .int v2] M (some (.int r)) M1 :=
  mv_enter (by decide) (Nat.le_of_ble_eq_true rfl) (mv_sub (lv := [(0, va_rf (some v0)), (1, .int v1), (2, .int v2)]) [0, 1, 2] rfl (tb_PM_merged_0 l D E B sa M M1 r N M v0 v1 v2 hJ))
/-! ===== PlainLearnerModel.encode()I ===== -/
abbrev kd_PM_encode : mv_Kd := (cd_PM_encode, 2, "PlainLearnerModel", "encode", (some .int), 1, 26)
theorem de_PM_encode_0 : decode cd_PM_encode 0 = .ok (.iconst 0, 1) := by decide +kernel
theorem de_PM_encode_1 : decode cd_PM_encode 1 = .ok (.istore_n 1, 1) := by decide +kernel
theorem de_PM_encode_2 : decode cd_PM_encode 2 = .ok (.iload_n 1, 1) := by decide +kernel
theorem de_PM_encode_3 : decode cd_PM_encode 3 = .ok (.aload_n 0, 1) := by decide +kernel
theorem de_PM_encode_4 : decode cd_PM_encode 4 = .ok (.getfield 301, 3) := by decide +kernel
theorem de_PM_encode_7 : decode cd_PM_encode 7 = .ok (.if_icmp .ge 29, 3) := by decide +kernel
theorem de_PM_encode_10 : decode cd_PM_encode 10 = .ok (.aload_n 0, 1) := by decide +kernel
theorem de_PM_encode_11 : decode cd_PM_encode 11 = .ok (.aload_n 0, 1) := by decide +kernel
theorem de_PM_encode_12 : decode cd_PM_encode 12 = .ok (.getfield 63, 3) := by decide +kernel
theorem de_PM_encode_15 : decode cd_PM_encode 15 = .ok (.iload_n 1, 1) := by decide +kernel
theorem de_PM_encode_16 : decode cd_PM_encode 16 = .ok (.iaload, 1) := by decide +kernel
theorem de_PM_encode_17 : decode cd_PM_encode 17 = .ok (.aload_n 0, 1) := by decide +kernel
theorem de_PM_encode_18 : decode cd_PM_encode 18 = .ok (.getfield 66, 3) := by decide +kernel
theorem de_PM_encode_21 : decode cd_PM_encode 21 = .ok (.iload_n 1, 1) := by decide +kernel
theorem de_PM_encode_22 : decode cd_PM_encode 22 = .ok (.iaload, 1) := by decide +kernel
theorem de_PM_encode_23 : decode cd_PM_encode 23 = .ok (.bipush 26, 2) := by decide +kernel
theorem de_PM_encode_25 : decode cd_PM_encode 25 = .ok (.iload_n 1, 1) := by decide +kernel
theorem de_PM_encode_26 : decode cd_PM_encode 26 = .ok (.iadd, 1) := by decide +kernel
theorem de_PM_encode_27 : decode cd_PM_encode 27 = .ok (.invokevirtual 304, 3) := by decide +kernel
theorem de_PM_encode_30 : decode cd_PM_encode 30 = .ok (.iinc 1 1, 3) := by decide +kernel
theorem de_PM_encode_33 : decode cd_PM_encode 33 = .ok (.goto (-31), 3) := by decide +kernel
theorem de_PM_encode_36 : decode cd_PM_encode 36 = .ok (.aload_n 0, 1) := by decide +kernel
theorem de_PM_encode_37 : decode cd_PM_encode 37 = .ok (.getfield 295, 3) := by decide +kernel
theorem de_PM_encode_40 : decode cd_PM_encode 40 = .ok (.ireturn, 1) := by decide +kernel
def jb_PM_encode_2 (N : Nat) : Nat → mv_M → Nat → Int32 → Option (Int32 × mv_M)
  | 0, _, _, _ => none
  | n + 1, M, v0, v1 =>
    Option.bind (mj_getI M v0 1 33) fun x4 =>
    if x4 ≤ v1 then (Option.bind (mj_getI M v0 1 31) fun x37 =>
    some (x37, M)) else
    Option.bind (mj_getR M v0 1 34) fun x12 =>
    Option.bind x12 fun a16 =>
    Option.bind (mj_ild M a16 0 v1) fun x16 =>
    Option.bind (mj_getR M v0 1 35) fun x18 =>
    Option.bind x18 fun a22 =>
    Option.bind (mj_ild M a22 0 v1) fun x22 =>
    mj_ob M v0 1 <|
    mj_call (jf_PM_joins N M v0 x16 x22 (26 + v1)) fun r27 Mm27 =>
    jb_PM_encode_2 N n Mm27 v0 (v1 + 1)
def jb_PM_encode_0 (N : Nat) (M : mv_M) (v0 : Nat) : Option (Int32 × mv_M) :=
  jb_PM_encode_2 N N M v0 0
def jf_PM_encode (N : Nat) (M : mv_M) (v0 : Nat) : Option (Int32 × mv_M) := jb_PM_encode_0 N M v0
set_option maxHeartbeats 4000000 in
set_option maxRecDepth 100000 in
theorem tb_PM_encode_2 (l : Launch) (D : va_G) (E : Nat → ClassId) (B : Nat) (sa : (Nat → Nat) × Nat × (Nat → Int32)) (M0 M1 : mv_M) (r : Int32) (N : Nat) : ∀ (n : Nat) (M : mv_M) (v0 : Nat) (v1 : Int32) (hJ : jb_PM_encode_2 N n M v0 v1 = some (r, M1)), mv_G (xg l D E B sa) kd_PM_encode M0 M1 (some (.int r)) M 2 [(0, va_rf (some v0)), (1, .int v1)] [] := by
  intro n
  induction n with
  | zero => intro M v0 v1 hJ; cases hJ
  | succ n ih =>
    intro M v0 v1 hJ
    rw [jb_PM_encode_2] at hJ
    refine mv_iload_n (pc := 2) (i := 1) de_PM_encode_2 rfl 1 rfl ?_
    refine mv_aload_n (pc := 3) (i := 0) de_PM_encode_3 rfl 0 rfl ?_
    refine mv_getI (pc := 4) (f := 33) (kc_1 l D E B sa) (Nat.le_of_ble_eq_true rfl) wt_4_113 de_PM_encode_4 hJ (fun x4 e4 h4 => ?_)
    refine mv_icmp_ge (pc := 7) (tgt := 36) de_PM_encode_7 (by decide) h4 (fun hc7 h7 => ?_) (fun hc7 h7 => ?_)
    · refine mv_aload_n (pc := 36) (i := 0) de_PM_encode_36 rfl 0 rfl ?_
      refine mv_getI (pc := 37) (f := 31) (kc_1 l D E B sa) (Nat.le_of_ble_eq_true rfl) wt_4_111 de_PM_encode_37 h7 (fun x37 e37 h37 => ?_)
      exact mv_iret (pc := 40) rfl de_PM_encode_40 h37
    · refine mv_aload_n (pc := 10) (i := 0) de_PM_encode_10 rfl 0 rfl ?_
      refine mv_aload_n (pc := 11) (i := 0) de_PM_encode_11 rfl 0 rfl ?_
      refine mv_getR (pc := 12) (f := 34) (kc_1 l D E B sa) (Nat.le_of_ble_eq_true rfl) wt_4_114 de_PM_encode_12 h7 (fun x12 e12 h12 => ?_)
      refine mv_iload_n (pc := 15) (i := 1) de_PM_encode_15 rfl 1 rfl ?_
      obtain ⟨a16, ha, h16a⟩ := mj_bindE h12
      subst ha
      refine mv_iald (pc := 16) (t := 0) rfl de_PM_encode_16 h16a (fun x16 e16 h16 => ?_)
      refine mv_aload_n (pc := 17) (i := 0) de_PM_encode_17 rfl 0 rfl ?_
      refine mv_getR (pc := 18) (f := 35) (kc_1 l D E B sa) (Nat.le_of_ble_eq_true rfl) wt_4_115 de_PM_encode_18 h16 (fun x18 e18 h18 => ?_)
      refine mv_iload_n (pc := 21) (i := 1) de_PM_encode_21 rfl 1 rfl ?_
      obtain ⟨a22, ha, h22a⟩ := mj_bindE h18
      subst ha
      refine mv_iald (pc := 22) (t := 0) rfl de_PM_encode_22 h22a (fun x22 e22 h22 => ?_)
      refine mv_bipush (pc := 23) (v := 26) de_PM_encode_23 (by decide) ?_
      refine mv_iload_n (pc := 25) (i := 1) de_PM_encode_25 rfl 1 rfl ?_
      refine mv_iadd (pc := 26) de_PM_encode_26 ?_
      obtain ⟨hi27, h27o⟩ := mj_obE h22
      obtain ⟨r27, Mm27, hz27, h27⟩ := mj_callE h27o
      refine mv_callV (pc := 27) (n := 3) (av := [.int x16, .int x22, .int (26 + v1)]) (rest := []) de_PM_encode_27 (kc_1 l D E B sa) hi27 (cm_PM_joins l D E B sa N M v0 x16 x22 (26 + v1) _ _ hz27) wt_5_219 wt_5_221 wp_61 wt_1_8 wt_5_222 ⟨by decide, by decide, by decide +kernel⟩ rfl ⟨Nat.le_of_ble_eq_true rfl, Nat.le_of_ble_eq_true rfl⟩ (Nat.le_of_ble_eq_true rfl) rfl ?_
      refine mv_iinc (pc := 30) (v := (v1 + 1)) (lv' := [(1, .int (v1 + 1)), (0, va_rf (some v0))]) de_PM_encode_30 1 rfl rfl (Nat.le_of_ble_eq_true rfl) rfl ?_
      refine mv_goto (pc := 33) (tgt := 2) de_PM_encode_33 (by decide) ?_
      exact mv_sub [1, 0] rfl (ih Mm27 v0 (v1 + 1) h27)
set_option maxHeartbeats 4000000 in
set_option maxRecDepth 100000 in
theorem tb_PM_encode_0 (l : Launch) (D : va_G) (E : Nat → ClassId) (B : Nat) (sa : (Nat → Nat) × Nat × (Nat → Int32)) (M0 M1 : mv_M) (r : Int32) (N : Nat) (M : mv_M) (v0 : Nat) (hJ : jb_PM_encode_0 N M v0 = some (r, M1)) : mv_G (xg l D E B sa) kd_PM_encode M0 M1 (some (.int r)) M 0 [(0, va_rf (some v0))] [] := by
  unfold jb_PM_encode_0 at hJ
  refine mv_iconst (pc := 0) (v := 0) de_PM_encode_0 (by decide) ?_
  refine mv_istore_n (pc := 1) (i := 1) (lv' := [(1, .int 0), (0, va_rf (some v0))]) de_PM_encode_1 rfl (Nat.le_of_ble_eq_true rfl) rfl ?_
  exact mv_sub [1, 0] rfl (tb_PM_encode_2 l D E B sa M0 M1 r N N M v0 0 hJ)
theorem cm_PM_encode (l : Launch) (D : va_G) (E : Nat → ClassId) (B : Nat) (sa : (Nat → Nat) × Nat × (Nat → Int32)) (N : Nat) (M : mv_M) (v0 : Nat) (r : Int32) (M1 : mv_M) (hJ : jf_PM_encode N M v0 = some (r, M1)) : mv_Met (xg l D E B sa) yn_PM_encode cd_PM_encode 2 (some .int) 1 26 [va_rf (some v0)] M (some (.int r)) M1 :=
  mv_enter (by decide) (Nat.le_of_ble_eq_true rfl) (mv_sub (lv := [(0, va_rf (some v0))]) [0] rfl (tb_PM_encode_0 l D E B sa M M1 r N M v0 hJ))
/-! ===== PlainLearnerModel.token(I)I ===== -/
abbrev kd_PM_token : mv_Kd := (cd_PM_token, 2, "PlainLearnerModel", "token", (some .int), 1, 25)
theorem de_PM_token_0 : decode cd_PM_token 0 = .ok (.iload_n 1, 1) := by decide +kernel
theorem de_PM_token_1 : decode cd_PM_token 1 = .ok (.i2l, 1) := by decide +kernel
theorem de_PM_token_2 : decode cd_PM_token 2 = .ok (.lconst 0, 1) := by decide +kernel
theorem de_PM_token_3 : decode cd_PM_token 3 = .ok (.aload_n 0, 1) := by decide +kernel
theorem de_PM_token_4 : decode cd_PM_token 4 = .ok (.getfield 295, 3) := by decide +kernel
theorem de_PM_token_7 : decode cd_PM_token 7 = .ok (.iconst 1, 1) := by decide +kernel
theorem de_PM_token_8 : decode cd_PM_token 8 = .ok (.isub, 1) := by decide +kernel
theorem de_PM_token_9 : decode cd_PM_token 9 = .ok (.i2l, 1) := by decide +kernel
theorem de_PM_token_10 : decode cd_PM_token 10 = .ok (.invokestatic 99, 3) := by decide +kernel
theorem de_PM_token_13 : decode cd_PM_token 13 = .ok (.ifCond .eq 12, 3) := by decide +kernel
theorem de_PM_token_16 : decode cd_PM_token 16 = .ok (.aload_n 0, 1) := by decide +kernel
theorem de_PM_token_17 : decode cd_PM_token 17 = .ok (.getfield 60, 3) := by decide +kernel
theorem de_PM_token_20 : decode cd_PM_token 20 = .ok (.iload_n 1, 1) := by decide +kernel
theorem de_PM_token_21 : decode cd_PM_token 21 = .ok (.iaload, 1) := by decide +kernel
theorem de_PM_token_22 : decode cd_PM_token 22 = .ok (.goto 5, 3) := by decide +kernel
theorem de_PM_token_25 : decode cd_PM_token 25 = .ok (.bipush (-2), 2) := by decide +kernel
theorem de_PM_token_27 : decode cd_PM_token 27 = .ok (.ireturn, 1) := by decide +kernel
def jb_PM_token_27 (N : Nat) (M : mv_M) (s0 : Int32) : Option (Int32 × mv_M) :=
  some (s0, M)
def jb_PM_token_0 (N : Nat) (M : mv_M) (v0 : Nat) (v1 : Int32) : Option (Int32 × mv_M) :=
  Option.bind (mj_getI M v0 1 31) fun x4 =>
  mj_call (jf_PM_isIn N M v1.toInt64 0 ((x4 - 1).toInt64)) fun r10 Mm10 =>
  if r10 = 0 then (jb_PM_token_27 N Mm10 (-2)) else
  Option.bind (mj_getR Mm10 v0 1 32) fun x17 =>
  Option.bind x17 fun a21 =>
  Option.bind (mj_ild Mm10 a21 0 v1) fun x21 =>
  jb_PM_token_27 N Mm10 x21
def jf_PM_token (N : Nat) (M : mv_M) (v0 : Nat) (v1 : Int32) : Option (Int32 × mv_M) := jb_PM_token_0 N M v0 v1
set_option maxHeartbeats 4000000 in
set_option maxRecDepth 100000 in
theorem tb_PM_token_27 (l : Launch) (D : va_G) (E : Nat → ClassId) (B : Nat) (sa : (Nat → Nat) × Nat × (Nat → Int32)) (M0 M1 : mv_M) (r : Int32) (N : Nat) (M : mv_M) (s0 : Int32) (hJ : jb_PM_token_27 N M s0 = some (r, M1)) : mv_G (xg l D E B sa) kd_PM_token M0 M1 (some (.int r)) M 27 [] [.int s0] := by
  unfold jb_PM_token_27 at hJ
  exact mv_iret (pc := 27) rfl de_PM_token_27 hJ
set_option maxHeartbeats 4000000 in
set_option maxRecDepth 100000 in
theorem tb_PM_token_0 (l : Launch) (D : va_G) (E : Nat → ClassId) (B : Nat) (sa : (Nat → Nat) × Nat × (Nat → Int32)) (M0 M1 : mv_M) (r : Int32) (N : Nat) (M : mv_M) (v0 : Nat) (v1 : Int32) (hJ : jb_PM_token_0 N M v0 v1 = some (r, M1)) : mv_G (xg l D E B sa) kd_PM_token M0 M1 (some (.int r)) M 0 [(0, va_rf (some v0)), (1, .int v1)] [] := by
  unfold jb_PM_token_0 at hJ
  refine mv_iload_n (pc := 0) (i := 1) de_PM_token_0 rfl 1 rfl ?_
  refine mv_i2l (pc := 1) de_PM_token_1 ?_
  refine mv_lconst (pc := 2) (v := 0) de_PM_token_2 (by decide) ?_
  refine mv_aload_n (pc := 3) (i := 0) de_PM_token_3 rfl 0 rfl ?_
  refine mv_getI (pc := 4) (f := 31) (kc_1 l D E B sa) (Nat.le_of_ble_eq_true rfl) wt_4_111 de_PM_token_4 hJ (fun x4 e4 h4 => ?_)
  refine mv_iconst (pc := 7) (v := 1) de_PM_token_7 (by decide) ?_
  refine mv_isub (pc := 8) de_PM_token_8 ?_
  refine mv_i2l (pc := 9) de_PM_token_9 ?_
  obtain ⟨r10, Mm10, hz10, h10⟩ := mj_callE h4
  refine mv_callS (pc := 10) (n := 3) (av := [.long v1.toInt64, .long 0, .long (x4 - 1).toInt64]) (rest := []) de_PM_token_10 (cm_PM_isIn l D E B sa N M v1.toInt64 0 ((x4 - 1).toInt64) _ _ hz10) wt_4_197 wt_4_198 wt_1_8 wt_4_199 ⟨by decide, by decide, by decide +kernel⟩ rfl ⟨Nat.le_of_ble_eq_true rfl, Nat.le_of_ble_eq_true rfl⟩ (Nat.le_of_ble_eq_true rfl) rfl ?_
  refine mv_if_eq (pc := 13) (tgt := 25) de_PM_token_13 (by decide) h10 (fun hc13 h13 => ?_) (fun hc13 h13 => ?_)
  · refine mv_bipush (pc := 25) (v := (-2)) de_PM_token_25 (by decide) ?_
    exact mv_sub [] rfl (tb_PM_token_27 l D E B sa M0 M1 r N Mm10 (-2) h13)
  · refine mv_aload_n (pc := 16) (i := 0) de_PM_token_16 rfl 0 rfl ?_
    refine mv_getR (pc := 17) (f := 32) (kc_1 l D E B sa) (Nat.le_of_ble_eq_true rfl) wt_4_112 de_PM_token_17 h13 (fun x17 e17 h17 => ?_)
    refine mv_iload_n (pc := 20) (i := 1) de_PM_token_20 rfl 1 rfl ?_
    obtain ⟨a21, ha, h21a⟩ := mj_bindE h17
    subst ha
    refine mv_iald (pc := 21) (t := 0) rfl de_PM_token_21 h21a (fun x21 e21 h21 => ?_)
    refine mv_goto (pc := 22) (tgt := 27) de_PM_token_22 (by decide) ?_
    exact mv_sub [] rfl (tb_PM_token_27 l D E B sa M0 M1 r N Mm10 x21 h21)
theorem cm_PM_token (l : Launch) (D : va_G) (E : Nat → ClassId) (B : Nat) (sa : (Nat → Nat) × Nat × (Nat → Int32)) (N : Nat) (M : mv_M) (v0 : Nat) (v1 : Int32) (r : Int32) (M1 : mv_M) (hJ : jf_PM_token N M v0 v1 = some (r, M1)) : mv_Met (xg l D E B sa) yn_PM_token cd_PM_token 2 (some .int) 1 25 [va_rf (some v0), .int v1] M (some (.int r)) M1 :=
  mv_enter (by decide) (Nat.le_of_ble_eq_true rfl) (mv_sub (lv := [(0, va_rf (some v0)), (1, .int v1)]) [0, 1] rfl (tb_PM_token_0 l D E B sa M M1 r N M v0 v1 hJ))
/-! ===== PlainLearnerModel.count(I)I ===== -/
abbrev kd_PM_count : mv_Kd := (cd_PM_count, 4, "PlainLearnerModel", "count", (some .int), 0, 0)
theorem de_PM_count_0 : decode cd_PM_count 0 = .ok (.iload_n 1, 1) := by decide +kernel
theorem de_PM_count_1 : decode cd_PM_count 1 = .ok (.tableswitch 110 0 6 #[43, 48, 53, 58, 63, 68, 73], 43) := by decide +kernel
theorem de_PM_count_44 : decode cd_PM_count 44 = .ok (.aload_n 0, 1) := by decide +kernel
theorem de_PM_count_45 : decode cd_PM_count 45 = .ok (.getfield 95, 3) := by decide +kernel
theorem de_PM_count_48 : decode cd_PM_count 48 = .ok (.ireturn, 1) := by decide +kernel
theorem de_PM_count_49 : decode cd_PM_count 49 = .ok (.aload_n 0, 1) := by decide +kernel
theorem de_PM_count_50 : decode cd_PM_count 50 = .ok (.getfield 236, 3) := by decide +kernel
theorem de_PM_count_53 : decode cd_PM_count 53 = .ok (.ireturn, 1) := by decide +kernel
theorem de_PM_count_54 : decode cd_PM_count 54 = .ok (.aload_n 0, 1) := by decide +kernel
theorem de_PM_count_55 : decode cd_PM_count 55 = .ok (.getfield 263, 3) := by decide +kernel
theorem de_PM_count_58 : decode cd_PM_count 58 = .ok (.ireturn, 1) := by decide +kernel
theorem de_PM_count_59 : decode cd_PM_count 59 = .ok (.aload_n 0, 1) := by decide +kernel
theorem de_PM_count_60 : decode cd_PM_count 60 = .ok (.getfield 273, 3) := by decide +kernel
theorem de_PM_count_63 : decode cd_PM_count 63 = .ok (.ireturn, 1) := by decide +kernel
theorem de_PM_count_64 : decode cd_PM_count 64 = .ok (.aload_n 0, 1) := by decide +kernel
theorem de_PM_count_65 : decode cd_PM_count 65 = .ok (.getfield 295, 3) := by decide +kernel
theorem de_PM_count_68 : decode cd_PM_count 68 = .ok (.ireturn, 1) := by decide +kernel
theorem de_PM_count_69 : decode cd_PM_count 69 = .ok (.aload_n 0, 1) := by decide +kernel
theorem de_PM_count_70 : decode cd_PM_count 70 = .ok (.getfield 301, 3) := by decide +kernel
theorem de_PM_count_73 : decode cd_PM_count 73 = .ok (.ireturn, 1) := by decide +kernel
theorem de_PM_count_74 : decode cd_PM_count 74 = .ok (.iconst 0, 1) := by decide +kernel
theorem de_PM_count_75 : decode cd_PM_count 75 = .ok (.istore_n 2, 1) := by decide +kernel
theorem de_PM_count_76 : decode cd_PM_count 76 = .ok (.iconst 0, 1) := by decide +kernel
theorem de_PM_count_77 : decode cd_PM_count 77 = .ok (.istore_n 3, 1) := by decide +kernel
theorem de_PM_count_78 : decode cd_PM_count 78 = .ok (.iload_n 3, 1) := by decide +kernel
theorem de_PM_count_79 : decode cd_PM_count 79 = .ok (.aload_n 0, 1) := by decide +kernel
theorem de_PM_count_80 : decode cd_PM_count 80 = .ok (.getfield 95, 3) := by decide +kernel
theorem de_PM_count_83 : decode cd_PM_count 83 = .ok (.if_icmp .ge 26, 3) := by decide +kernel
theorem de_PM_count_86 : decode cd_PM_count 86 = .ok (.iload_n 2, 1) := by decide +kernel
theorem de_PM_count_87 : decode cd_PM_count 87 = .ok (.aload_n 0, 1) := by decide +kernel
theorem de_PM_count_88 : decode cd_PM_count 88 = .ok (.getfield 25, 3) := by decide +kernel
theorem de_PM_count_91 : decode cd_PM_count 91 = .ok (.iload_n 3, 1) := by decide +kernel
theorem de_PM_count_92 : decode cd_PM_count 92 = .ok (.baload, 1) := by decide +kernel
theorem de_PM_count_93 : decode cd_PM_count 93 = .ok (.ifCond .eq 7, 3) := by decide +kernel
theorem de_PM_count_96 : decode cd_PM_count 96 = .ok (.iconst 1, 1) := by decide +kernel
theorem de_PM_count_97 : decode cd_PM_count 97 = .ok (.goto 4, 3) := by decide +kernel
theorem de_PM_count_100 : decode cd_PM_count 100 = .ok (.iconst 0, 1) := by decide +kernel
theorem de_PM_count_101 : decode cd_PM_count 101 = .ok (.iadd, 1) := by decide +kernel
theorem de_PM_count_102 : decode cd_PM_count 102 = .ok (.istore_n 2, 1) := by decide +kernel
theorem de_PM_count_103 : decode cd_PM_count 103 = .ok (.iinc 3 1, 3) := by decide +kernel
theorem de_PM_count_106 : decode cd_PM_count 106 = .ok (.goto (-28), 3) := by decide +kernel
theorem de_PM_count_109 : decode cd_PM_count 109 = .ok (.iload_n 2, 1) := by decide +kernel
theorem de_PM_count_110 : decode cd_PM_count 110 = .ok (.ireturn, 1) := by decide +kernel
theorem de_PM_count_111 : decode cd_PM_count 111 = .ok (.iconst (-1), 1) := by decide +kernel
theorem de_PM_count_112 : decode cd_PM_count 112 = .ok (.ireturn, 1) := by decide +kernel
def jb_PM_count_101 (N : Nat) (k78 : mv_M → Nat → Int32 → Int32 → Option (Int32 × mv_M)) (M : mv_M) (v0 : Nat) (v3 : Int32) (s0 : Int32) (s1 : Int32) : Option (Int32 × mv_M) :=
  k78 M v0 (s0 + s1) (v3 + 1)
def jb_PM_count_78 (N : Nat) : Nat → mv_M → Nat → Int32 → Int32 → Option (Int32 × mv_M)
  | 0, _, _, _, _ => none
  | n + 1, M, v0, v2, v3 =>
    Option.bind (mj_getI M v0 1 2) fun x80 =>
    if x80 ≤ v3 then (some (v2, M)) else
    Option.bind (mj_getR M v0 1 8) fun x88 =>
    Option.bind x88 fun a92 =>
    Option.bind (mj_ild M a92 2 v3) fun x92 =>
    if x92 = 0 then (jb_PM_count_101 N (jb_PM_count_78 N n) M v0 v3 v2 0) else
    jb_PM_count_101 N (jb_PM_count_78 N n) M v0 v3 v2 1
def jb_PM_count_0 (N : Nat) (M : mv_M) (v0 : Nat) (v1 : Int32) : Option (Int32 × mv_M) :=
  if v1 = 0 then (Option.bind (mj_getI M v0 1 2) fun x45 =>
  some (x45, M)) else
  if v1 = 1 then (Option.bind (mj_getI M v0 1 20) fun x50 =>
  some (x50, M)) else
  if v1 = 2 then (Option.bind (mj_getI M v0 1 26) fun x55 =>
  some (x55, M)) else
  if v1 = 3 then (Option.bind (mj_getI M v0 1 28) fun x60 =>
  some (x60, M)) else
  if v1 = 4 then (Option.bind (mj_getI M v0 1 31) fun x65 =>
  some (x65, M)) else
  if v1 = 5 then (Option.bind (mj_getI M v0 1 33) fun x70 =>
  some (x70, M)) else
  if v1 = 6 then (jb_PM_count_78 N N M v0 0 0) else
  some ((-1), M)
def jf_PM_count (N : Nat) (M : mv_M) (v0 : Nat) (v1 : Int32) : Option (Int32 × mv_M) := jb_PM_count_0 N M v0 v1
set_option maxHeartbeats 4000000 in
set_option maxRecDepth 100000 in
theorem tb_PM_count_101 (l : Launch) (D : va_G) (E : Nat → ClassId) (B : Nat) (sa : (Nat → Nat) × Nat × (Nat → Int32)) (M0 M1 : mv_M) (r : Int32) (N : Nat) (k78 : mv_M → Nat → Int32 → Int32 → Option (Int32 × mv_M)) (hk78 : ∀ (M : mv_M) (v0 : Nat) (v2 : Int32) (v3 : Int32), k78 M v0 v2 v3 = some (r, M1) → mv_G (xg l D E B sa) kd_PM_count M0 M1 (some (.int r)) M 78 [(0, va_rf (some v0)), (2, .int v2), (3, .int v3)] []) (M : mv_M) (v0 : Nat) (v3 : Int32) (s0 : Int32) (s1 : Int32) (hJ : jb_PM_count_101 N k78 M v0 v3 s0 s1 = some (r, M1)) : mv_G (xg l D E B sa) kd_PM_count M0 M1 (some (.int r)) M 101 [(0, va_rf (some v0)), (3, .int v3)] [.int s1, .int s0] := by
  unfold jb_PM_count_101 at hJ
  refine mv_iadd (pc := 101) de_PM_count_101 ?_
  refine mv_istore_n (pc := 102) (i := 2) (lv' := [(2, .int (s0 + s1)), (0, va_rf (some v0)), (3, .int v3)]) de_PM_count_102 rfl (Nat.le_of_ble_eq_true rfl) rfl ?_
  refine mv_iinc (pc := 103) (v := (v3 + 1)) (lv' := [(3, .int (v3 + 1)), (2, .int (s0 + s1)), (0, va_rf (some v0))]) de_PM_count_103 2 rfl rfl (Nat.le_of_ble_eq_true rfl) rfl ?_
  refine mv_goto (pc := 106) (tgt := 78) de_PM_count_106 (by decide) ?_
  exact mv_sub [2, 1, 0] rfl (hk78 M v0 (s0 + s1) (v3 + 1) hJ)
set_option maxHeartbeats 4000000 in
set_option maxRecDepth 100000 in
theorem tb_PM_count_78 (l : Launch) (D : va_G) (E : Nat → ClassId) (B : Nat) (sa : (Nat → Nat) × Nat × (Nat → Int32)) (M0 M1 : mv_M) (r : Int32) (N : Nat) : ∀ (n : Nat) (M : mv_M) (v0 : Nat) (v2 : Int32) (v3 : Int32) (hJ : jb_PM_count_78 N n M v0 v2 v3 = some (r, M1)), mv_G (xg l D E B sa) kd_PM_count M0 M1 (some (.int r)) M 78 [(0, va_rf (some v0)), (2, .int v2), (3, .int v3)] [] := by
  intro n
  induction n with
  | zero => intro M v0 v2 v3 hJ; cases hJ
  | succ n ih =>
    intro M v0 v2 v3 hJ
    rw [jb_PM_count_78] at hJ
    refine mv_iload_n (pc := 78) (i := 3) de_PM_count_78 rfl 2 rfl ?_
    refine mv_aload_n (pc := 79) (i := 0) de_PM_count_79 rfl 0 rfl ?_
    refine mv_getI (pc := 80) (f := 2) (kc_1 l D E B sa) (Nat.le_of_ble_eq_true rfl) wt_4_82 de_PM_count_80 hJ (fun x80 e80 h80 => ?_)
    refine mv_icmp_ge (pc := 83) (tgt := 109) de_PM_count_83 (by decide) h80 (fun hc83 h83 => ?_) (fun hc83 h83 => ?_)
    · refine mv_iload_n (pc := 109) (i := 2) de_PM_count_109 rfl 1 rfl ?_
      exact mv_iret (pc := 110) rfl de_PM_count_110 h83
    · refine mv_iload_n (pc := 86) (i := 2) de_PM_count_86 rfl 1 rfl ?_
      refine mv_aload_n (pc := 87) (i := 0) de_PM_count_87 rfl 0 rfl ?_
      refine mv_getR (pc := 88) (f := 8) (kc_1 l D E B sa) (Nat.le_of_ble_eq_true rfl) wt_4_88 de_PM_count_88 h83 (fun x88 e88 h88 => ?_)
      refine mv_iload_n (pc := 91) (i := 3) de_PM_count_91 rfl 2 rfl ?_
      obtain ⟨a92, ha, h92a⟩ := mj_bindE h88
      subst ha
      refine mv_zald (pc := 92) (t := 2) rfl de_PM_count_92 h92a (fun x92 e92 h92 => ?_)
      refine mv_if_eq (pc := 93) (tgt := 100) de_PM_count_93 (by decide) h92 (fun hc93 h93 => ?_) (fun hc93 h93 => ?_)
      · refine mv_iconst (pc := 100) (v := 0) de_PM_count_100 (by decide) ?_
        exact mv_sub [0, 2] rfl (tb_PM_count_101 l D E B sa M0 M1 r N (jb_PM_count_78 N n) ih M v0 v3 v2 0 h93)
      · refine mv_iconst (pc := 96) (v := 1) de_PM_count_96 (by decide) ?_
        refine mv_goto (pc := 97) (tgt := 101) de_PM_count_97 (by decide) ?_
        exact mv_sub [0, 2] rfl (tb_PM_count_101 l D E B sa M0 M1 r N (jb_PM_count_78 N n) ih M v0 v3 v2 1 h93)
set_option maxHeartbeats 4000000 in
set_option maxRecDepth 100000 in
theorem tb_PM_count_0 (l : Launch) (D : va_G) (E : Nat → ClassId) (B : Nat) (sa : (Nat → Nat) × Nat × (Nat → Int32)) (M0 M1 : mv_M) (r : Int32) (N : Nat) (M : mv_M) (v0 : Nat) (v1 : Int32) (hJ : jb_PM_count_0 N M v0 v1 = some (r, M1)) : mv_G (xg l D E B sa) kd_PM_count M0 M1 (some (.int r)) M 0 [(0, va_rf (some v0)), (1, .int v1)] [] := by
  unfold jb_PM_count_0 at hJ
  refine mv_iload_n (pc := 0) (i := 1) de_PM_count_0 rfl 1 rfl ?_
  by_cases hs1_0 : v1 = 0
  · rw [if_pos hs1_0] at hJ
    refine mv_tin (pc := 1) (tgt := 44) (off := 43) 0 de_PM_count_1 hs1_0 (by decide) (by decide) ?_
    refine mv_aload_n (pc := 44) (i := 0) de_PM_count_44 rfl 0 rfl ?_
    refine mv_getI (pc := 45) (f := 2) (kc_1 l D E B sa) (Nat.le_of_ble_eq_true rfl) wt_4_82 de_PM_count_45 hJ (fun x45 e45 h45 => ?_)
    exact mv_iret (pc := 48) rfl de_PM_count_48 h45
  rw [if_neg hs1_0] at hJ
  by_cases hs1_1 : v1 = 1
  · rw [if_pos hs1_1] at hJ
    refine mv_tin (pc := 1) (tgt := 49) (off := 48) 1 de_PM_count_1 hs1_1 (by decide) (by decide) ?_
    refine mv_aload_n (pc := 49) (i := 0) de_PM_count_49 rfl 0 rfl ?_
    refine mv_getI (pc := 50) (f := 20) (kc_1 l D E B sa) (Nat.le_of_ble_eq_true rfl) wt_4_100 de_PM_count_50 hJ (fun x50 e50 h50 => ?_)
    exact mv_iret (pc := 53) rfl de_PM_count_53 h50
  rw [if_neg hs1_1] at hJ
  by_cases hs1_2 : v1 = 2
  · rw [if_pos hs1_2] at hJ
    refine mv_tin (pc := 1) (tgt := 54) (off := 53) 2 de_PM_count_1 hs1_2 (by decide) (by decide) ?_
    refine mv_aload_n (pc := 54) (i := 0) de_PM_count_54 rfl 0 rfl ?_
    refine mv_getI (pc := 55) (f := 26) (kc_1 l D E B sa) (Nat.le_of_ble_eq_true rfl) wt_4_106 de_PM_count_55 hJ (fun x55 e55 h55 => ?_)
    exact mv_iret (pc := 58) rfl de_PM_count_58 h55
  rw [if_neg hs1_2] at hJ
  by_cases hs1_3 : v1 = 3
  · rw [if_pos hs1_3] at hJ
    refine mv_tin (pc := 1) (tgt := 59) (off := 58) 3 de_PM_count_1 hs1_3 (by decide) (by decide) ?_
    refine mv_aload_n (pc := 59) (i := 0) de_PM_count_59 rfl 0 rfl ?_
    refine mv_getI (pc := 60) (f := 28) (kc_1 l D E B sa) (Nat.le_of_ble_eq_true rfl) wt_4_108 de_PM_count_60 hJ (fun x60 e60 h60 => ?_)
    exact mv_iret (pc := 63) rfl de_PM_count_63 h60
  rw [if_neg hs1_3] at hJ
  by_cases hs1_4 : v1 = 4
  · rw [if_pos hs1_4] at hJ
    refine mv_tin (pc := 1) (tgt := 64) (off := 63) 4 de_PM_count_1 hs1_4 (by decide) (by decide) ?_
    refine mv_aload_n (pc := 64) (i := 0) de_PM_count_64 rfl 0 rfl ?_
    refine mv_getI (pc := 65) (f := 31) (kc_1 l D E B sa) (Nat.le_of_ble_eq_true rfl) wt_4_111 de_PM_count_65 hJ (fun x65 e65 h65 => ?_)
    exact mv_iret (pc := 68) rfl de_PM_count_68 h65
  rw [if_neg hs1_4] at hJ
  by_cases hs1_5 : v1 = 5
  · rw [if_pos hs1_5] at hJ
    refine mv_tin (pc := 1) (tgt := 69) (off := 68) 5 de_PM_count_1 hs1_5 (by decide) (by decide) ?_
    refine mv_aload_n (pc := 69) (i := 0) de_PM_count_69 rfl 0 rfl ?_
    refine mv_getI (pc := 70) (f := 33) (kc_1 l D E B sa) (Nat.le_of_ble_eq_true rfl) wt_4_113 de_PM_count_70 hJ (fun x70 e70 h70 => ?_)
    exact mv_iret (pc := 73) rfl de_PM_count_73 h70
  rw [if_neg hs1_5] at hJ
  by_cases hs1_6 : v1 = 6
  · rw [if_pos hs1_6] at hJ
    refine mv_tin (pc := 1) (tgt := 74) (off := 73) 6 de_PM_count_1 hs1_6 (by decide) (by decide) ?_
    refine mv_iconst (pc := 74) (v := 0) de_PM_count_74 (by decide) ?_
    refine mv_istore_n (pc := 75) (i := 2) (lv' := [(2, .int 0), (0, va_rf (some v0)), (1, .int v1)]) de_PM_count_75 rfl (Nat.le_of_ble_eq_true rfl) rfl ?_
    refine mv_iconst (pc := 76) (v := 0) de_PM_count_76 (by decide) ?_
    refine mv_istore_n (pc := 77) (i := 3) (lv' := [(3, .int 0), (2, .int 0), (0, va_rf (some v0)), (1, .int v1)]) de_PM_count_77 rfl (Nat.le_of_ble_eq_true rfl) rfl ?_
    exact mv_sub [2, 1, 0] rfl (tb_PM_count_78 l D E B sa M0 M1 r N N M v0 0 0 hJ)
  rw [if_neg hs1_6] at hJ
  have qhs1_0 := lv_neT (a := 0) hs1_0 (by decide)
  have qhs1_1 := lv_neT (a := 1) hs1_1 (by decide)
  have qhs1_2 := lv_neT (a := 2) hs1_2 (by decide)
  have qhs1_3 := lv_neT (a := 3) hs1_3 (by decide)
  have qhs1_4 := lv_neT (a := 4) hs1_4 (by decide)
  have qhs1_5 := lv_neT (a := 5) hs1_5 (by decide)
  have qhs1_6 := lv_neT (a := 6) hs1_6 (by decide)
  refine mv_tout (pc := 1) (tgt := 111) de_PM_count_1 (by omega) (by decide) ?_
  refine mv_iconst (pc := 111) (v := (-1)) de_PM_count_111 (by decide) ?_
  exact mv_iret (pc := 112) rfl de_PM_count_112 hJ
theorem cm_PM_count (l : Launch) (D : va_G) (E : Nat → ClassId) (B : Nat) (sa : (Nat → Nat) × Nat × (Nat → Int32)) (N : Nat) (M : mv_M) (v0 : Nat) (v1 : Int32) (r : Int32) (M1 : mv_M) (hJ : jf_PM_count N M v0 v1 = some (r, M1)) : mv_Met (xg l D E B sa) yn_PM_count cd_PM_count 4 (some .int) 0 0 [va_rf (some v0), .int v1] M (some (.int r)) M1 :=
  mv_enter (by decide) (Nat.le_of_ble_eq_true rfl) (mv_sub (lv := [(0, va_rf (some v0)), (1, .int v1)]) [0, 1] rfl (tb_PM_count_0 l D E B sa M M1 r N M v0 v1 hJ))
