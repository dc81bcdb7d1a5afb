/-! ===== PlainLearnerModel.cut(I)I ===== -/
abbrev kd_PM_cut : mv_Kd := (cd_PM_cut, 6, "PlainLearnerModel", "cut", (some .int), 2, 60)
theorem de_PM_cut_0 : decode cd_PM_cut 0 = .ok (.iload_n 1, 1) := by decide +kernel
theorem de_PM_cut_1 : decode cd_PM_cut 1 = .ok (.i2l, 1) := by decide +kernel
theorem de_PM_cut_2 : decode cd_PM_cut 2 = .ok (.lconst 0, 1) := by decide +kernel
theorem de_PM_cut_3 : decode cd_PM_cut 3 = .ok (.ldc2_w 103, 3) := by decide +kernel
theorem de_PM_cut_6 : decode cd_PM_cut 6 = .ok (.invokestatic 99, 3) := by decide +kernel
theorem de_PM_cut_9 : decode cd_PM_cut 9 = .ok (.ifCond .ne 5, 3) := by decide +kernel
theorem de_PM_cut_12 : decode cd_PM_cut 12 = .ok (.iconst (-1), 1) := by decide +kernel
theorem de_PM_cut_13 : decode cd_PM_cut 13 = .ok (.ireturn, 1) := by decide +kernel
theorem de_PM_cut_14 : decode cd_PM_cut 14 = .ok (.sipush 10000, 3) := by decide +kernel
theorem de_PM_cut_17 : decode cd_PM_cut 17 = .ok (.istore_n 2, 1) := by decide +kernel
theorem de_PM_cut_18 : decode cd_PM_cut 18 = .ok (.aload_n 0, 1) := by decide +kernel
theorem de_PM_cut_19 : decode cd_PM_cut 19 = .ok (.lconst 0, 1) := by decide +kernel
theorem de_PM_cut_20 : decode cd_PM_cut 20 = .ok (.putfield 249, 3) := by decide +kernel
theorem de_PM_cut_23 : decode cd_PM_cut 23 = .ok (.aload_n 0, 1) := by decide +kernel
theorem de_PM_cut_24 : decode cd_PM_cut 24 = .ok (.lconst 0, 1) := by decide +kernel
theorem de_PM_cut_25 : decode cd_PM_cut 25 = .ok (.putfield 252, 3) := by decide +kernel
theorem de_PM_cut_28 : decode cd_PM_cut 28 = .ok (.iconst 0, 1) := by decide +kernel
theorem de_PM_cut_29 : decode cd_PM_cut 29 = .ok (.istore_n 3, 1) := by decide +kernel
theorem de_PM_cut_30 : decode cd_PM_cut 30 = .ok (.iload_n 3, 1) := by decide +kernel
theorem de_PM_cut_31 : decode cd_PM_cut 31 = .ok (.aload_n 0, 1) := by decide +kernel
theorem de_PM_cut_32 : decode cd_PM_cut 32 = .ok (.getfield 236, 3) := by decide +kernel
theorem de_PM_cut_35 : decode cd_PM_cut 35 = .ok (.if_icmp .ge 127, 3) := by decide +kernel
theorem de_PM_cut_38 : decode cd_PM_cut 38 = .ok (.aload_n 0, 1) := by decide +kernel
theorem de_PM_cut_39 : decode cd_PM_cut 39 = .ok (.getfield 48, 3) := by decide +kernel
theorem de_PM_cut_42 : decode cd_PM_cut 42 = .ok (.iconst 5, 1) := by decide +kernel
theorem de_PM_cut_43 : decode cd_PM_cut 43 = .ok (.iload_n 3, 1) := by decide +kernel
theorem de_PM_cut_44 : decode cd_PM_cut 44 = .ok (.imul, 1) := by decide +kernel
theorem de_PM_cut_45 : decode cd_PM_cut 45 = .ok (.iload_n 1, 1) := by decide +kernel
theorem de_PM_cut_46 : decode cd_PM_cut 46 = .ok (.iadd, 1) := by decide +kernel
theorem de_PM_cut_47 : decode cd_PM_cut 47 = .ok (.iaload, 1) := by decide +kernel
theorem de_PM_cut_48 : decode cd_PM_cut 48 = .ok (.istore 4, 2) := by decide +kernel
theorem de_PM_cut_50 : decode cd_PM_cut 50 = .ok (.aload_n 0, 1) := by decide +kernel
theorem de_PM_cut_51 : decode cd_PM_cut 51 = .ok (.iload_n 1, 1) := by decide +kernel
theorem de_PM_cut_52 : decode cd_PM_cut 52 = .ok (.iload 4, 2) := by decide +kernel
theorem de_PM_cut_54 : decode cd_PM_cut 54 = .ok (.invokevirtual 255, 3) := by decide +kernel
theorem de_PM_cut_57 : decode cd_PM_cut 57 = .ok (.ifCond .ne 6, 3) := by decide +kernel
theorem de_PM_cut_60 : decode cd_PM_cut 60 = .ok (.goto 96, 3) := by decide +kernel
theorem de_PM_cut_63 : decode cd_PM_cut 63 = .ok (.iload_n 2, 1) := by decide +kernel
theorem de_PM_cut_64 : decode cd_PM_cut 64 = .ok (.sipush 10000, 3) := by decide +kernel
theorem de_PM_cut_67 : decode cd_PM_cut 67 = .ok (.if_icmp .eq 55, 3) := by decide +kernel
theorem de_PM_cut_70 : decode cd_PM_cut 70 = .ok (.aload_n 0, 1) := by decide +kernel
theorem de_PM_cut_71 : decode cd_PM_cut 71 = .ok (.getfield 249, 3) := by decide +kernel
theorem de_PM_cut_74 : decode cd_PM_cut 74 = .ok (.aload_n 0, 1) := by decide +kernel
theorem de_PM_cut_75 : decode cd_PM_cut 75 = .ok (.getfield 252, 3) := by decide +kernel
theorem de_PM_cut_78 : decode cd_PM_cut 78 = .ok (.aload_n 0, 1) := by decide +kernel
theorem de_PM_cut_79 : decode cd_PM_cut 79 = .ok (.getfield 81, 3) := by decide +kernel
theorem de_PM_cut_82 : decode cd_PM_cut 82 = .ok (.aload_n 0, 1) := by decide +kernel
theorem de_PM_cut_83 : decode cd_PM_cut 83 = .ok (.getfield 84, 3) := by decide +kernel
theorem de_PM_cut_86 : decode cd_PM_cut 86 = .ok (.invokestatic 179, 3) := by decide +kernel
theorem de_PM_cut_89 : decode cd_PM_cut 89 = .ok (.ifCond .ne 33, 3) := by decide +kernel
theorem de_PM_cut_92 : decode cd_PM_cut 92 = .ok (.iload 4, 2) := by decide +kernel
theorem de_PM_cut_94 : decode cd_PM_cut 94 = .ok (.iload_n 2, 1) := by decide +kernel
theorem de_PM_cut_95 : decode cd_PM_cut 95 = .ok (.if_icmp .ge 31, 3) := by decide +kernel
theorem de_PM_cut_98 : decode cd_PM_cut 98 = .ok (.aload_n 0, 1) := by decide +kernel
theorem de_PM_cut_99 : decode cd_PM_cut 99 = .ok (.getfield 81, 3) := by decide +kernel
theorem de_PM_cut_102 : decode cd_PM_cut 102 = .ok (.aload_n 0, 1) := by decide +kernel
theorem de_PM_cut_103 : decode cd_PM_cut 103 = .ok (.getfield 249, 3) := by decide +kernel
theorem de_PM_cut_106 : decode cd_PM_cut 106 = .ok (.lcmp, 1) := by decide +kernel
theorem de_PM_cut_107 : decode cd_PM_cut 107 = .ok (.ifCond .ne 19, 3) := by decide +kernel
theorem de_PM_cut_110 : decode cd_PM_cut 110 = .ok (.aload_n 0, 1) := by decide +kernel
theorem de_PM_cut_111 : decode cd_PM_cut 111 = .ok (.getfield 84, 3) := by decide +kernel
theorem de_PM_cut_114 : decode cd_PM_cut 114 = .ok (.aload_n 0, 1) := by decide +kernel
theorem de_PM_cut_115 : decode cd_PM_cut 115 = .ok (.getfield 252, 3) := by decide +kernel
theorem de_PM_cut_118 : decode cd_PM_cut 118 = .ok (.lcmp, 1) := by decide +kernel
theorem de_PM_cut_119 : decode cd_PM_cut 119 = .ok (.ifCond .ne 7, 3) := by decide +kernel
theorem de_PM_cut_122 : decode cd_PM_cut 122 = .ok (.iconst 1, 1) := by decide +kernel
theorem de_PM_cut_123 : decode cd_PM_cut 123 = .ok (.goto 4, 3) := by decide +kernel
theorem de_PM_cut_126 : decode cd_PM_cut 126 = .ok (.iconst 0, 1) := by decide +kernel
theorem de_PM_cut_127 : decode cd_PM_cut 127 = .ok (.istore 5, 2) := by decide +kernel
theorem de_PM_cut_129 : decode cd_PM_cut 129 = .ok (.iload 5, 2) := by decide +kernel
theorem de_PM_cut_131 : decode cd_PM_cut 131 = .ok (.ifCond .ne 6, 3) := by decide +kernel
theorem de_PM_cut_134 : decode cd_PM_cut 134 = .ok (.goto 22, 3) := by decide +kernel
theorem de_PM_cut_137 : decode cd_PM_cut 137 = .ok (.iload 4, 2) := by decide +kernel
theorem de_PM_cut_139 : decode cd_PM_cut 139 = .ok (.istore_n 2, 1) := by decide +kernel
theorem de_PM_cut_140 : decode cd_PM_cut 140 = .ok (.aload_n 0, 1) := by decide +kernel
theorem de_PM_cut_141 : decode cd_PM_cut 141 = .ok (.aload_n 0, 1) := by decide +kernel
theorem de_PM_cut_142 : decode cd_PM_cut 142 = .ok (.getfield 81, 3) := by decide +kernel
theorem de_PM_cut_145 : decode cd_PM_cut 145 = .ok (.putfield 249, 3) := by decide +kernel
theorem de_PM_cut_148 : decode cd_PM_cut 148 = .ok (.aload_n 0, 1) := by decide +kernel
theorem de_PM_cut_149 : decode cd_PM_cut 149 = .ok (.aload_n 0, 1) := by decide +kernel
theorem de_PM_cut_150 : decode cd_PM_cut 150 = .ok (.getfield 84, 3) := by decide +kernel
theorem de_PM_cut_153 : decode cd_PM_cut 153 = .ok (.putfield 252, 3) := by decide +kernel
theorem de_PM_cut_156 : decode cd_PM_cut 156 = .ok (.iinc 3 1, 3) := by decide +kernel
theorem de_PM_cut_159 : decode cd_PM_cut 159 = .ok (.goto (-129), 3) := by decide +kernel
theorem de_PM_cut_162 : decode cd_PM_cut 162 = .ok (.iload_n 2, 1) := by decide +kernel
theorem de_PM_cut_163 : decode cd_PM_cut 163 = .ok (.ireturn, 1) := by decide +kernel
def jb_PM_cut_156 (N : Nat) (k30 : mv_M → Nat → Int32 → Int32 → Int32 → Option (Int32 × mv_M)) (M : mv_M) (v0 : Nat) (v1 : Int32) (v2 : Int32) (v3 : Int32) : Option (Int32 × mv_M) :=
  k30 M v0 v1 v2 (v3 + 1)
def jb_PM_cut_127 (N : Nat) (k30 : mv_M → Nat → Int32 → Int32 → Int32 → Option (Int32 × mv_M)) (M : mv_M) (v0 : Nat) (v1 : Int32) (v2 : Int32) (v3 : Int32) (v4 : Int32) (s0 : Int32) : Option (Int32 × mv_M) :=
  if s0 = 0 then (jb_PM_cut_156 N k30 M v0 v1 v2 v3) else
  Option.bind (mj_getL M v0 1 0) fun x142 =>
  Option.bind (mj_put M v0 1 24 (.long x142)) fun Mm145 =>
  Option.bind (mj_getL Mm145 v0 1 1) fun x150 =>
  Option.bind (mj_put Mm145 v0 1 25 (.long x150)) fun Mm153 =>
  jb_PM_cut_156 N k30 Mm153 v0 v1 v4 v3
def jb_PM_cut_122 (N : Nat) (k30 : mv_M → Nat → Int32 → Int32 → Int32 → Option (Int32 × mv_M)) (M : mv_M) (v0 : Nat) (v1 : Int32) (v2 : Int32) (v3 : Int32) (v4 : Int32) : Option (Int32 × mv_M) :=
  jb_PM_cut_127 N k30 M v0 v1 v2 v3 v4 1
def jb_PM_cut_126 (N : Nat) (k30 : mv_M → Nat → Int32 → Int32 → Int32 → Option (Int32 × mv_M)) (M : mv_M) (v0 : Nat) (v1 : Int32) (v2 : Int32) (v3 : Int32) (v4 : Int32) : Option (Int32 × mv_M) :=
  jb_PM_cut_127 N k30 M v0 v1 v2 v3 v4 0
def jb_PM_cut_30 (N : Nat) : Nat → mv_M → Nat → Int32 → Int32 → Int32 → Option (Int32 × mv_M)
  | 0, _, _, _, _, _ => none
  | n + 1, M, v0, v1, v2, v3 =>
    Option.bind (mj_getI M v0 1 20) fun x32 =>
    if x32 ≤ v3 then (some (v2, M)) else
    Option.bind (mj_getR M v0 1 21) fun x39 =>
    Option.bind x39 fun a47 =>
    Option.bind (mj_ild M a47 0 ((5 * v3) + v1)) fun x47 =>
    mj_ob M v0 1 <|
    mj_call (jf_PM_costs N M v0 v1 x47) fun r54 Mm54 =>
    if r54 = 0 then (jb_PM_cut_156 N (jb_PM_cut_30 N n) Mm54 v0 v1 v2 v3) else
    if v2 = 10000 then (jb_PM_cut_122 N (jb_PM_cut_30 N n) Mm54 v0 v1 v2 v3 x47) else
    Option.bind (mj_getL Mm54 v0 1 24) fun x71 =>
    Option.bind (mj_getL Mm54 v0 1 25) fun x75 =>
    Option.bind (mj_getL Mm54 v0 1 0) fun x79 =>
    Option.bind (mj_getL Mm54 v0 1 1) fun x83 =>
    mj_call (jf_PM_isAbove N Mm54 x71 x75 x79 x83) fun r86 Mm86 =>
    if r86 = 0 then (if v2 ≤ x47 then (jb_PM_cut_126 N (jb_PM_cut_30 N n) Mm86 v0 v1 v2 v3 x47) else
    Option.bind (mj_getL Mm86 v0 1 0) fun x99 =>
    Option.bind (mj_getL Mm86 v0 1 24) fun x103 =>
    if (lg_cmp x99 x103) = 0 then (Option.bind (mj_getL Mm86 v0 1 1) fun x111 =>
    Option.bind (mj_getL Mm86 v0 1 25) fun x115 =>
    if (lg_cmp x111 x115) = 0 then (jb_PM_cut_122 N (jb_PM_cut_30 N n) Mm86 v0 v1 v2 v3 x47) else
    jb_PM_cut_126 N (jb_PM_cut_30 N n) Mm86 v0 v1 v2 v3 x47) else
    jb_PM_cut_126 N (jb_PM_cut_30 N n) Mm86 v0 v1 v2 v3 x47) else
    jb_PM_cut_122 N (jb_PM_cut_30 N n) Mm86 v0 v1 v2 v3 x47
def jb_PM_cut_0 (N : Nat) (M : mv_M) (v0 : Nat) (v1 : Int32) : Option (Int32 × mv_M) :=
  mj_call (jf_PM_isIn N M v1.toInt64 0 3) fun r6 Mm6 =>
  if r6 = 0 then (some ((-1), Mm6)) else
  Option.bind (mj_put Mm6 v0 1 24 (.long 0)) fun Mm20 =>
  Option.bind (mj_put Mm20 v0 1 25 (.long 0)) fun Mm25 =>
  jb_PM_cut_30 N N Mm25 v0 v1 10000 0
def jf_PM_cut (N : Nat) (M : mv_M) (v0 : Nat) (v1 : Int32) : Option (Int32 × mv_M) := jb_PM_cut_0 N M v0 v1
set_option maxHeartbeats 4000000 in
set_option maxRecDepth 100000 in
theorem tb_PM_cut_156 (l : Launch) (D : va_G) (E : Nat → ClassId) (B : Nat) (sa : (Nat → Nat) × Nat × (Nat → Int32)) (M0 M1 : mv_M) (r : Int32) (N : Nat) (k30 : mv_M → Nat → Int32 → Int32 → Int32 → Option (Int32 × mv_M)) (hk30 : ∀ (M : mv_M) (v0 : Nat) (v1 : Int32) (v2 : Int32) (v3 : Int32), k30 M v0 v1 v2 v3 = some (r, M1) → mv_G (xg l D E B sa) kd_PM_cut M0 M1 (some (.int r)) M 30 [(0, va_rf (some v0)), (1, .int v1), (2, .int v2), (3, .int v3)] []) (M : mv_M) (v0 : Nat) (v1 : Int32) (v2 : Int32) (v3 : Int32) (hJ : jb_PM_cut_156 N k30 M v0 v1 v2 v3 = some (r, M1)) : mv_G (xg l D E B sa) kd_PM_cut M0 M1 (some (.int r)) M 156 [(0, va_rf (some v0)), (1, .int v1), (2, .int v2), (3, .int v3)] [] := by
  unfold jb_PM_cut_156 at hJ
  refine mv_iinc (pc := 156) (v := (v3 + 1)) (lv' := [(3, .int (v3 + 1)), (0, va_rf (some v0)), (1, .int v1), (2, .int v2)]) de_PM_cut_156 3 rfl rfl (Nat.le_of_ble_eq_true rfl) rfl ?_
  refine mv_goto (pc := 159) (tgt := 30) de_PM_cut_159 (by decide) ?_
  exact mv_sub [1, 2, 3, 0] rfl (hk30 M v0 v1 v2 (v3 + 1) hJ)
set_option maxHeartbeats 4000000 in
set_option maxRecDepth 100000 in
theorem tb_PM_cut_127 (l : Launch) (D : va_G) (E : Nat → ClassId) (B : Nat) (sa : (Nat → Nat) × Nat × (Nat → Int32)) (M0 M1 : mv_M) (r : Int32) (N : Nat) (k30 : mv_M → Nat → Int32 → Int32 → Int32 → Option (Int32 × mv_M)) (hk30 : ∀ (M : mv_M) (v0 : Nat) (v1 : Int32) (v2 : Int32) (v3 : Int32), k30 M v0 v1 v2 v3 = some (r, M1) → mv_G (xg l D E B sa) kd_PM_cut M0 M1 (some (.int r)) M 30 [(0, va_rf (some v0)), (1, .int v1), (2, .int v2), (3, .int v3)] []) (M : mv_M) (v0 : Nat) (v1 : Int32) (v2 : Int32) (v3 : Int32) (v4 : Int32) (s0 : Int32) (hJ : jb_PM_cut_127 N k30 M v0 v1 v2 v3 v4 s0 = some (r, M1)) : mv_G (xg l D E B sa) kd_PM_cut M0 M1 (some (.int r)) M 127 [(0, va_rf (some v0)), (1, .int v1), (2, .int v2), (3, .int v3), (4, .int v4)] [.int s0] := by
  unfold jb_PM_cut_127 at hJ
  refine mv_istore (pc := 127) (lv' := [(5, .int s0), (0, va_rf (some v0)), (1, .int v1), (2, .int v2), (3, .int v3), (4, .int v4)]) de_PM_cut_127 (Nat.le_of_ble_eq_true rfl) rfl ?_
  refine mv_iload (pc := 129) de_PM_cut_129 0 rfl ?_
  refine mv_if_ne (pc := 131) (tgt := 137) de_PM_cut_131 (by decide) hJ (fun hc131 h131 => ?_) (fun hc131 h131 => ?_)
  · refine mv_goto (pc := 134) (tgt := 156) de_PM_cut_134 (by decide) ?_
    exact mv_sub [1, 2, 3, 4] rfl (tb_PM_cut_156 l D E B sa M0 M1 r N k30 hk30 M v0 v1 v2 v3 h131)
  · refine mv_iload (pc := 137) de_PM_cut_137 5 rfl ?_
    refine mv_istore_n (pc := 139) (i := 2) (lv' := [(2, .int v4), (5, .int s0), (0, va_rf (some v0)), (1, .int v1), (3, .int v3), (4, .int v4)]) de_PM_cut_139 rfl (Nat.le_of_ble_eq_true rfl) rfl ?_
    refine mv_aload_n (pc := 140) (i := 0) de_PM_cut_140 rfl 2 rfl ?_
    refine mv_aload_n (pc := 141) (i := 0) de_PM_cut_141 rfl 2 rfl ?_
    refine mv_getL (pc := 142) (f := 0) (kc_1 l D E B sa) (Nat.le_of_ble_eq_true rfl) wt_4_80 de_PM_cut_142 h131 (fun x142 e142 h142 => ?_)
    refine mv_put (pc := 145) (f := 24) (kc_1 l D E B sa) (Nat.le_of_ble_eq_true rfl) wt_4_104 rfl rfl rfl de_PM_cut_145 h142 (fun Mm145 e145 h145 => ?_)
    refine mv_aload_n (pc := 148) (i := 0) de_PM_cut_148 rfl 2 rfl ?_
    refine mv_aload_n (pc := 149) (i := 0) de_PM_cut_149 rfl 2 rfl ?_
    refine mv_getL (pc := 150) (f := 1) (kc_1 l D E B sa) (Nat.le_of_ble_eq_true rfl) wt_4_81 de_PM_cut_150 h145 (fun x150 e150 h150 => ?_)
    refine mv_put (pc := 153) (f := 25) (kc_1 l D E B sa) (Nat.le_of_ble_eq_true rfl) wt_4_105 rfl rfl rfl de_PM_cut_153 h150 (fun Mm153 e153 h153 => ?_)
    exact mv_sub [2, 3, 0, 4] rfl (tb_PM_cut_156 l D E B sa M0 M1 r N k30 hk30 Mm153 v0 v1 v4 v3 h153)
set_option maxHeartbeats 4000000 in
set_option maxRecDepth 100000 in
theorem tb_PM_cut_122 (l : Launch) (D : va_G) (E : Nat → ClassId) (B : Nat) (sa : (Nat → Nat) × Nat × (Nat → Int32)) (M0 M1 : mv_M) (r : Int32) (N : Nat) (k30 : mv_M → Nat → Int32 → Int32 → Int32 → Option (Int32 × mv_M)) (hk30 : ∀ (M : mv_M) (v0 : Nat) (v1 : Int32) (v2 : Int32) (v3 : Int32), k30 M v0 v1 v2 v3 = some (r, M1) → mv_G (xg l D E B sa) kd_PM_cut M0 M1 (some (.int r)) M 30 [(0, va_rf (some v0)), (1, .int v1), (2, .int v2), (3, .int v3)] []) (M : mv_M) (v0 : Nat) (v1 : Int32) (v2 : Int32) (v3 : Int32) (v4 : Int32) (hJ : jb_PM_cut_122 N k30 M v0 v1 v2 v3 v4 = some (r, M1)) : mv_G (xg l D E B sa) kd_PM_cut M0 M1 (some (.int r)) M 122 [(0, va_rf (some v0)), (1, .int v1), (2, .int v2), (3, .int v3), (4, .int v4)] [] := by
  unfold jb_PM_cut_122 at hJ
  refine mv_iconst (pc := 122) (v := 1) de_PM_cut_122 (by decide) ?_
  refine mv_goto (pc := 123) (tgt := 127) de_PM_cut_123 (by decide) ?_
  exact mv_sub [0, 1, 2, 3, 4] rfl (tb_PM_cut_127 l D E B sa M0 M1 r N k30 hk30 M v0 v1 v2 v3 v4 1 hJ)
set_option maxHeartbeats 4000000 in
set_option maxRecDepth 100000 in
theorem tb_PM_cut_126 (l : Launch) (D : va_G) (E : Nat → ClassId) (B : Nat) (sa : (Nat → Nat) × Nat × (Nat → Int32)) (M0 M1 : mv_M) (r : Int32) (N : Nat) (k30 : mv_M → Nat → Int32 → Int32 → Int32 → Option (Int32 × mv_M)) (hk30 : ∀ (M : mv_M) (v0 : Nat) (v1 : Int32) (v2 : Int32) (v3 : Int32), k30 M v0 v1 v2 v3 = some (r, M1) → mv_G (xg l D E B sa) kd_PM_cut M0 M1 (some (.int r)) M 30 [(0, va_rf (some v0)), (1, .int v1), (2, .int v2), (3, .int v3)] []) (M : mv_M) (v0 : Nat) (v1 : Int32) (v2 : Int32) (v3 : Int32) (v4 : Int32) (hJ : jb_PM_cut_126 N k30 M v0 v1 v2 v3 v4 = some (r, M1)) : mv_G (xg l D E B sa) kd_PM_cut M0 M1 (some (.int r)) M 126 [(0, va_rf (some v0)), (1, .int v1), (2, .int v2), (3, .int v3), (4, .int v4)] [] := by
  unfold jb_PM_cut_126 at hJ
  refine mv_iconst (pc := 126) (v := 0) de_PM_cut_126 (by decide) ?_
  exact mv_sub [0, 1, 2, 3, 4] rfl (tb_PM_cut_127 l D E B sa M0 M1 r N k30 hk30 M v0 v1 v2 v3 v4 0 hJ)
set_option maxHeartbeats 4000000 in
set_option maxRecDepth 100000 in
theorem tb_PM_cut_30 (l : Launch) (D : va_G) (E : Nat → ClassId) (B : Nat) (sa : (Nat → Nat) × Nat × (Nat → Int32)) (M0 M1 : mv_M) (r : Int32) (N : Nat) : ∀ (n : Nat) (M : mv_M) (v0 : Nat) (v1 : Int32) (v2 : Int32) (v3 : Int32) (hJ : jb_PM_cut_30 N n M v0 v1 v2 v3 = some (r, M1)), mv_G (xg l D E B sa) kd_PM_cut M0 M1 (some (.int r)) M 30 [(0, va_rf (some v0)), (1, .int v1), (2, .int v2), (3, .int v3)] [] := by
  intro n
  induction n with
  | zero => intro M v0 v1 v2 v3 hJ; cases hJ
  | succ n ih =>
    intro M v0 v1 v2 v3 hJ
    rw [jb_PM_cut_30] at hJ
    refine mv_iload_n (pc := 30) (i := 3) de_PM_cut_30 rfl 3 rfl ?_
    refine mv_aload_n (pc := 31) (i := 0) de_PM_cut_31 rfl 0 rfl ?_
    refine mv_getI (pc := 32) (f := 20) (kc_1 l D E B sa) (Nat.le_of_ble_eq_true rfl) wt_4_100 de_PM_cut_32 hJ (fun x32 e32 h32 => ?_)
    refine mv_icmp_ge (pc := 35) (tgt := 162) de_PM_cut_35 (by decide) h32 (fun hc35 h35 => ?_) (fun hc35 h35 => ?_)
    · refine mv_iload_n (pc := 162) (i := 2) de_PM_cut_162 rfl 2 rfl ?_
      exact mv_iret (pc := 163) rfl de_PM_cut_163 h35
    · refine mv_aload_n (pc := 38) (i := 0) de_PM_cut_38 rfl 0 rfl ?_
      refine mv_getR (pc := 39) (f := 21) (kc_1 l D E B sa) (Nat.le_of_ble_eq_true rfl) wt_4_101 de_PM_cut_39 h35 (fun x39 e39 h39 => ?_)
      refine mv_iconst (pc := 42) (v := 5) de_PM_cut_42 (by decide) ?_
      refine mv_iload_n (pc := 43) (i := 3) de_PM_cut_43 rfl 3 rfl ?_
      refine mv_imul (pc := 44) de_PM_cut_44 ?_
      refine mv_iload_n (pc := 45) (i := 1) de_PM_cut_45 rfl 1 rfl ?_
      refine mv_iadd (pc := 46) de_PM_cut_46 ?_
      obtain ⟨a47, ha, h47a⟩ := mj_bindE h39
      subst ha
      refine mv_iald (pc := 47) (t := 0) rfl de_PM_cut_47 h47a (fun x47 e47 h47 => ?_)
      refine mv_istore (pc := 48) (lv' := [(4, .int x47), (0, va_rf (some v0)), (1, .int v1), (2, .int v2), (3, .int v3)]) de_PM_cut_48 (Nat.le_of_ble_eq_true rfl) rfl ?_
      refine mv_aload_n (pc := 50) (i := 0) de_PM_cut_50 rfl 1 rfl ?_
      refine mv_iload_n (pc := 51) (i := 1) de_PM_cut_51 rfl 2 rfl ?_
      refine mv_iload (pc := 52) de_PM_cut_52 0 rfl ?_
      obtain ⟨hi54, h54o⟩ := mj_obE h47
      obtain ⟨r54, Mm54, hz54, h54⟩ := mj_callE h54o
      refine mv_callV (pc := 54) (n := 2) (av := [.int v1, .int x47]) (rest := []) de_PM_cut_54 (kc_1 l D E B sa) hi54 (cm_PM_costs l D E B sa N M v0 v1 x47 _ _ hz54) wt_5_133 wt_5_135 wp_54 wt_1_8 wt_5_136 ⟨by decide, by decide, by decide +kernel⟩ rfl ⟨Nat.le_of_ble_eq_true rfl, Nat.le_of_ble_eq_true rfl⟩ (Nat.le_of_ble_eq_true rfl) rfl ?_
      refine mv_if_ne (pc := 57) (tgt := 63) de_PM_cut_57 (by decide) h54 (fun hc57 h57 => ?_) (fun hc57 h57 => ?_)
      · refine mv_goto (pc := 60) (tgt := 156) de_PM_cut_60 (by decide) ?_
        exact mv_sub [1, 2, 3, 4] rfl (tb_PM_cut_156 l D E B sa M0 M1 r N (jb_PM_cut_30 N n) ih Mm54 v0 v1 v2 v3 h57)
      · refine mv_iload_n (pc := 63) (i := 2) de_PM_cut_63 rfl 3 rfl ?_
        refine mv_sipush (pc := 64) (v := 10000) de_PM_cut_64 (by decide) ?_
        refine mv_icmp_eq (pc := 67) (tgt := 122) de_PM_cut_67 (by decide) h57 (fun hc67 h67 => ?_) (fun hc67 h67 => ?_)
        · exact mv_sub [1, 2, 3, 4, 0] rfl (tb_PM_cut_122 l D E B sa M0 M1 r N (jb_PM_cut_30 N n) ih Mm54 v0 v1 v2 v3 x47 h67)
        · refine mv_aload_n (pc := 70) (i := 0) de_PM_cut_70 rfl 1 rfl ?_
          refine mv_getL (pc := 71) (f := 24) (kc_1 l D E B sa) (Nat.le_of_ble_eq_true rfl) wt_4_104 de_PM_cut_71 h67 (fun x71 e71 h71 => ?_)
          refine mv_aload_n (pc := 74) (i := 0) de_PM_cut_74 rfl 1 rfl ?_
          refine mv_getL (pc := 75) (f := 25) (kc_1 l D E B sa) (Nat.le_of_ble_eq_true rfl) wt_4_105 de_PM_cut_75 h71 (fun x75 e75 h75 => ?_)
          refine mv_aload_n (pc := 78) (i := 0) de_PM_cut_78 rfl 1 rfl ?_
          refine mv_getL (pc := 79) (f := 0) (kc_1 l D E B sa) (Nat.le_of_ble_eq_true rfl) wt_4_80 de_PM_cut_79 h75 (fun x79 e79 h79 => ?_)
          refine mv_aload_n (pc := 82) (i := 0) de_PM_cut_82 rfl 1 rfl ?_
          refine mv_getL (pc := 83) (f := 1) (kc_1 l D E B sa) (Nat.le_of_ble_eq_true rfl) wt_4_81 de_PM_cut_83 h79 (fun x83 e83 h83 => ?_)
          obtain ⟨r86, Mm86, hz86, h86⟩ := mj_callE h83
          refine mv_callS (pc := 86) (n := 4) (av := [.long x71, .long x75, .long x79, .long x83]) (rest := []) de_PM_cut_86 (cm_PM_isAbove l D E B sa N Mm54 x71 x75 x79 x83 _ _ hz86) wt_5_54 wt_5_55 wt_1_8 wt_5_56 ⟨by decide, by decide, by decide +kernel⟩ rfl ⟨Nat.le_of_ble_eq_true rfl, Nat.le_of_ble_eq_true rfl⟩ (Nat.le_of_ble_eq_true rfl) rfl ?_
          refine mv_if_ne (pc := 89) (tgt := 122) de_PM_cut_89 (by decide) h86 (fun hc89 h89 => ?_) (fun hc89 h89 => ?_)
          · refine mv_iload (pc := 92) de_PM_cut_92 0 rfl ?_
            refine mv_iload_n (pc := 94) (i := 2) de_PM_cut_94 rfl 3 rfl ?_
            refine mv_icmp_ge (pc := 95) (tgt := 126) de_PM_cut_95 (by decide) h89 (fun hc95 h95 => ?_) (fun hc95 h95 => ?_)
            · exact mv_sub [1, 2, 3, 4, 0] rfl (tb_PM_cut_126 l D E B sa M0 M1 r N (jb_PM_cut_30 N n) ih Mm86 v0 v1 v2 v3 x47 h95)
            · refine mv_aload_n (pc := 98) (i := 0) de_PM_cut_98 rfl 1 rfl ?_
              refine mv_getL (pc := 99) (f := 0) (kc_1 l D E B sa) (Nat.le_of_ble_eq_true rfl) wt_4_80 de_PM_cut_99 h95 (fun x99 e99 h99 => ?_)
              refine mv_aload_n (pc := 102) (i := 0) de_PM_cut_102 rfl 1 rfl ?_
              refine mv_getL (pc := 103) (f := 24) (kc_1 l D E B sa) (Nat.le_of_ble_eq_true rfl) wt_4_104 de_PM_cut_103 h99 (fun x103 e103 h103 => ?_)
              refine mv_lcmp (pc := 106) de_PM_cut_106 ?_
              refine mv_if_ne (pc := 107) (tgt := 126) de_PM_cut_107 (by decide) h103 (fun hc107 h107 => ?_) (fun hc107 h107 => ?_)
              · refine mv_aload_n (pc := 110) (i := 0) de_PM_cut_110 rfl 1 rfl ?_
                refine mv_getL (pc := 111) (f := 1) (kc_1 l D E B sa) (Nat.le_of_ble_eq_true rfl) wt_4_81 de_PM_cut_111 h107 (fun x111 e111 h111 => ?_)
                refine mv_aload_n (pc := 114) (i := 0) de_PM_cut_114 rfl 1 rfl ?_
                refine mv_getL (pc := 115) (f := 25) (kc_1 l D E B sa) (Nat.le_of_ble_eq_true rfl) wt_4_105 de_PM_cut_115 h111 (fun x115 e115 h115 => ?_)
                refine mv_lcmp (pc := 118) de_PM_cut_118 ?_
                refine mv_if_ne (pc := 119) (tgt := 126) de_PM_cut_119 (by decide) h115 (fun hc119 h119 => ?_) (fun hc119 h119 => ?_)
                · exact mv_sub [1, 2, 3, 4, 0] rfl (tb_PM_cut_122 l D E B sa M0 M1 r N (jb_PM_cut_30 N n) ih Mm86 v0 v1 v2 v3 x47 h119)
                · exact mv_sub [1, 2, 3, 4, 0] rfl (tb_PM_cut_126 l D E B sa M0 M1 r N (jb_PM_cut_30 N n) ih Mm86 v0 v1 v2 v3 x47 h119)
              · exact mv_sub [1, 2, 3, 4, 0] rfl (tb_PM_cut_126 l D E B sa M0 M1 r N (jb_PM_cut_30 N n) ih Mm86 v0 v1 v2 v3 x47 h107)
          · exact mv_sub [1, 2, 3, 4, 0] rfl (tb_PM_cut_122 l D E B sa M0 M1 r N (jb_PM_cut_30 N n) ih Mm86 v0 v1 v2 v3 x47 h89)
set_option maxHeartbeats 4000000 in
set_option maxRecDepth 100000 in
theorem tb_PM_cut_0 (l : Launch) (D : va_G) (E : Nat → ClassId) (B : Nat) (sa : (Nat → Nat) × Nat × (Nat → Int32)) (M0 M1 : mv_M) (r : Int32) (N : Nat) (M : mv_M) (v0 : Nat) (v1 : Int32) (hJ : jb_PM_cut_0 N M v0 v1 = some (r, M1)) : mv_G (xg l D E B sa) kd_PM_cut M0 M1 (some (.int r)) M 0 [(0, va_rf (some v0)), (1, .int v1)] [] := by
  unfold jb_PM_cut_0 at hJ
  refine mv_iload_n (pc := 0) (i := 1) de_PM_cut_0 rfl 1 rfl ?_
  refine mv_i2l (pc := 1) de_PM_cut_1 ?_
  refine mv_lconst (pc := 2) (v := 0) de_PM_cut_2 (by decide) ?_
  refine mv_ldc2 (pc := 3) de_PM_cut_3 wt_4_196 ?_
  obtain ⟨r6, Mm6, hz6, h6⟩ := mj_callE hJ
  refine mv_callS (pc := 6) (n := 3) (av := [.long v1.toInt64, .long 0, .long 3]) (rest := []) de_PM_cut_6 (cm_PM_isIn l D E B sa N M v1.toInt64 0 3 _ _ hz6) wt_4_197 wt_4_198 wt_1_8 wt_4_199 ⟨by decide, by decide, by decide +kernel⟩ rfl ⟨Nat.le_of_ble_eq_true rfl, Nat.le_of_ble_eq_true rfl⟩ (Nat.le_of_ble_eq_true rfl) rfl ?_
  refine mv_if_ne (pc := 9) (tgt := 14) de_PM_cut_9 (by decide) h6 (fun hc9 h9 => ?_) (fun hc9 h9 => ?_)
  · refine mv_iconst (pc := 12) (v := (-1)) de_PM_cut_12 (by decide) ?_
    exact mv_iret (pc := 13) rfl de_PM_cut_13 h9
  · refine mv_sipush (pc := 14) (v := 10000) de_PM_cut_14 (by decide) ?_
    refine mv_istore_n (pc := 17) (i := 2) (lv' := [(2, .int 10000), (0, va_rf (some v0)), (1, .int v1)]) de_PM_cut_17 rfl (Nat.le_of_ble_eq_true rfl) rfl ?_
    refine mv_aload_n (pc := 18) (i := 0) de_PM_cut_18 rfl 1 rfl ?_
    refine mv_lconst (pc := 19) (v := 0) de_PM_cut_19 (by decide) ?_
    refine mv_put (pc := 20) (f := 24) (kc_1 l D E B sa) (Nat.le_of_ble_eq_true rfl) wt_4_104 rfl rfl rfl de_PM_cut_20 h9 (fun Mm20 e20 h20 => ?_)
    refine mv_aload_n (pc := 23) (i := 0) de_PM_cut_23 rfl 1 rfl ?_
    refine mv_lconst (pc := 24) (v := 0) de_PM_cut_24 (by decide) ?_
    refine mv_put (pc := 25) (f := 25) (kc_1 l D E B sa) (Nat.le_of_ble_eq_true rfl) wt_4_105 rfl rfl rfl de_PM_cut_25 h20 (fun Mm25 e25 h25 => ?_)
    refine mv_iconst (pc := 28) (v := 0) de_PM_cut_28 (by decide) ?_
    refine mv_istore_n (pc := 29) (i := 3) (lv' := [(3, .int 0), (2, .int 10000), (0, va_rf (some v0)), (1, .int v1)]) de_PM_cut_29 rfl (Nat.le_of_ble_eq_true rfl) rfl ?_
    exact mv_sub [2, 3, 1, 0] rfl (tb_PM_cut_30 l D E B sa M0 M1 r N N Mm25 v0 v1 10000 0 h25)
theorem cm_PM_cut (l : Launch) (D : va_G) (E : Nat → ClassId) (B : Nat) (sa : (Nat → Nat) × Nat × (Nat → Int32)) (N : Nat) (M : mv_M) (v0 : Nat) (v1 : Int32) (r : Int32) (M1 : mv_M) (hJ : jf_PM_cut N M v0 v1 = some (r, M1)) : mv_Met (xg l D E B sa) yn_PM_cut cd_PM_cut 6 (some .int) 2 60 [va_rf (some v0), .int v1] M (some (.int r)) M1 :=
  mv_enter (by decide) (Nat.le_of_ble_eq_true rfl) (mv_sub (lv := [(0, va_rf (some v0)), (1, .int v1)]) [0, 1] rfl (tb_PM_cut_0 l D E B sa M M1 r N M v0 v1 hJ))
/-! ===== PlainLearnerModel.cost(III)J ===== -/
abbrev kd_PM_cost : mv_Kd := (cd_PM_cost, 4, "PlainLearnerModel", "cost", (some .long), 2, 60)
theorem de_PM_cost_0 : decode cd_PM_cost 0 = .ok (.iload_n 1, 1) := by decide +kernel
theorem de_PM_cost_1 : decode cd_PM_cost 1 = .ok (.i2l, 1) := by decide +kernel
theorem de_PM_cost_2 : decode cd_PM_cost 2 = .ok (.lconst 0, 1) := by decide +kernel
theorem de_PM_cost_3 : decode cd_PM_cost 3 = .ok (.ldc2_w 103, 3) := by decide +kernel
theorem de_PM_cost_6 : decode cd_PM_cost 6 = .ok (.invokestatic 99, 3) := by decide +kernel
theorem de_PM_cost_9 : decode cd_PM_cost 9 = .ok (.ifCond .eq 13, 3) := by decide +kernel
theorem de_PM_cost_12 : decode cd_PM_cost 12 = .ok (.iload_n 3, 1) := by decide +kernel
theorem de_PM_cost_13 : decode cd_PM_cost 13 = .ok (.i2l, 1) := by decide +kernel
theorem de_PM_cost_14 : decode cd_PM_cost 14 = .ok (.lconst 0, 1) := by decide +kernel
theorem de_PM_cost_15 : decode cd_PM_cost 15 = .ok (.lconst 1, 1) := by decide +kernel
theorem de_PM_cost_16 : decode cd_PM_cost 16 = .ok (.invokestatic 99, 3) := by decide +kernel
theorem de_PM_cost_19 : decode cd_PM_cost 19 = .ok (.ifCond .ne 7, 3) := by decide +kernel
theorem de_PM_cost_22 : decode cd_PM_cost 22 = .ok (.ldc2_w 183, 3) := by decide +kernel
theorem de_PM_cost_25 : decode cd_PM_cost 25 = .ok (.lreturn, 1) := by decide +kernel
theorem de_PM_cost_26 : decode cd_PM_cost 26 = .ok (.aload_n 0, 1) := by decide +kernel
theorem de_PM_cost_27 : decode cd_PM_cost 27 = .ok (.iload_n 1, 1) := by decide +kernel
theorem de_PM_cost_28 : decode cd_PM_cost 28 = .ok (.iload_n 2, 1) := by decide +kernel
theorem de_PM_cost_29 : decode cd_PM_cost 29 = .ok (.invokevirtual 255, 3) := by decide +kernel
theorem de_PM_cost_32 : decode cd_PM_cost 32 = .ok (.pop, 1) := by decide +kernel
theorem de_PM_cost_33 : decode cd_PM_cost 33 = .ok (.aload_n 0, 1) := by decide +kernel
theorem de_PM_cost_34 : decode cd_PM_cost 34 = .ok (.iload_n 3, 1) := by decide +kernel
theorem de_PM_cost_35 : decode cd_PM_cost 35 = .ok (.invokevirtual 188, 3) := by decide +kernel
theorem de_PM_cost_38 : decode cd_PM_cost 38 = .ok (.lreturn, 1) := by decide +kernel
def jb_PM_cost_22 (N : Nat) (M : mv_M) : Option (Int64 × mv_M) :=
  some ((-1099511627776), M)
def jb_PM_cost_0 (N : Nat) (M : mv_M) (v0 : Nat) (v1 : Int32) (v2 : Int32) (v3 : Int32) : Option (Int64 × mv_M) :=
  mj_call (jf_PM_isIn N M v1.toInt64 0 3) fun r6 Mm6 =>
  if r6 = 0 then (jb_PM_cost_22 N Mm6) else
  mj_call (jf_PM_isIn N Mm6 v3.toInt64 0 1) fun r16 Mm16 =>
  if r16 = 0 then (jb_PM_cost_22 N Mm16) else
  mj_ob Mm16 v0 1 <|
  mj_call (jf_PM_costs N Mm16 v0 v1 v2) fun r29 Mm29 =>
  mj_ob Mm29 v0 1 <|
  mj_call (jf_PM_told N Mm29 v0 v3) fun r35 Mm35 =>
  some (r35, Mm35)
def jf_PM_cost (N : Nat) (M : mv_M) (v0 : Nat) (v1 : Int32) (v2 : Int32) (v3 : Int32) : Option (Int64 × mv_M) := jb_PM_cost_0 N M v0 v1 v2 v3
set_option maxHeartbeats 4000000 in
set_option maxRecDepth 100000 in
theorem tb_PM_cost_22 (l : Launch) (D : va_G) (E : Nat → ClassId) (B : Nat) (sa : (Nat → Nat) × Nat × (Nat → Int32)) (M0 M1 : mv_M) (r : Int64) (N : Nat) (M : mv_M) (hJ : jb_PM_cost_22 N M = some (r, M1)) : mv_G (xg l D E B sa) kd_PM_cost M0 M1 (some (.long r)) M 22 [] [] := by
  unfold jb_PM_cost_22 at hJ
  refine mv_ldc2 (pc := 22) de_PM_cost_22 wt_5_9 ?_
  exact mv_lret (pc := 25) rfl de_PM_cost_25 hJ
set_option maxHeartbeats 4000000 in
set_option maxRecDepth 100000 in
theorem tb_PM_cost_0 (l : Launch) (D : va_G) (E : Nat → ClassId) (B : Nat) (sa : (Nat → Nat) × Nat × (Nat → Int32)) (M0 M1 : mv_M) (r : Int64) (N : Nat) (M : mv_M) (v0 : Nat) (v1 : Int32) (v2 : Int32) (v3 : Int32) (hJ : jb_PM_cost_0 N M v0 v1 v2 v3 = some (r, M1)) : mv_G (xg l D E B sa) kd_PM_cost M0 M1 (some (.long r)) M 0 [(0, va_rf (some v0)), (1, .int v1), (2, .int v2), (3, .int v3)] [] := by
  unfold jb_PM_cost_0 at hJ
  refine mv_iload_n (pc := 0) (i := 1) de_PM_cost_0 rfl 1 rfl ?_
  refine mv_i2l (pc := 1) de_PM_cost_1 ?_
  refine mv_lconst (pc := 2) (v := 0) de_PM_cost_2 (by decide) ?_
  refine mv_ldc2 (pc := 3) de_PM_cost_3 wt_4_196 ?_
  obtain ⟨r6, Mm6, hz6, h6⟩ := mj_callE hJ
  refine mv_callS (pc := 6) (n := 3) (av := [.long v1.toInt64, .long 0, .long 3]) (rest := []) de_PM_cost_6 (cm_PM_isIn l D E B sa N M v1.toInt64 0 3 _ _ hz6) wt_4_197 wt_4_198 wt_1_8 wt_4_199 ⟨by decide, by decide, by decide +kernel⟩ rfl ⟨Nat.le_of_ble_eq_true rfl, Nat.le_of_ble_eq_true rfl⟩ (Nat.le_of_ble_eq_true rfl) rfl ?_
  refine mv_if_eq (pc := 9) (tgt := 22) de_PM_cost_9 (by decide) h6 (fun hc9 h9 => ?_) (fun hc9 h9 => ?_)
  · exact mv_sub [] rfl (tb_PM_cost_22 l D E B sa M0 M1 r N Mm6 h9)
  · refine mv_iload_n (pc := 12) (i := 3) de_PM_cost_12 rfl 3 rfl ?_
    refine mv_i2l (pc := 13) de_PM_cost_13 ?_
    refine mv_lconst (pc := 14) (v := 0) de_PM_cost_14 (by decide) ?_
    refine mv_lconst (pc := 15) (v := 1) de_PM_cost_15 (by decide) ?_
    obtain ⟨r16, Mm16, hz16, h16⟩ := mj_callE h9
    refine mv_callS (pc := 16) (n := 3) (av := [.long v3.toInt64, .long 0, .long 1]) (rest := []) de_PM_cost_16 (cm_PM_isIn l D E B sa N Mm6 v3.toInt64 0 1 _ _ hz16) wt_4_197 wt_4_198 wt_1_8 wt_4_199 ⟨by decide, by decide, by decide +kernel⟩ rfl ⟨Nat.le_of_ble_eq_true rfl, Nat.le_of_ble_eq_true rfl⟩ (Nat.le_of_ble_eq_true rfl) rfl ?_
    refine mv_if_ne (pc := 19) (tgt := 26) de_PM_cost_19 (by decide) h16 (fun hc19 h19 => ?_) (fun hc19 h19 => ?_)
    · exact mv_sub [] rfl (tb_PM_cost_22 l D E B sa M0 M1 r N Mm16 h19)
    · refine mv_aload_n (pc := 26) (i := 0) de_PM_cost_26 rfl 0 rfl ?_
      refine mv_iload_n (pc := 27) (i := 1) de_PM_cost_27 rfl 1 rfl ?_
      refine mv_iload_n (pc := 28) (i := 2) de_PM_cost_28 rfl 2 rfl ?_
      obtain ⟨hi29, h29o⟩ := mj_obE h19
      obtain ⟨r29, Mm29, hz29, h29⟩ := mj_callE h29o
      refine mv_callV (pc := 29) (n := 2) (av := [.int v1, .int v2]) (rest := []) de_PM_cost_29 (kc_1 l D E B sa) hi29 (cm_PM_costs l D E B sa N Mm16 v0 v1 v2 _ _ hz29) wt_5_133 wt_5_135 wp_54 wt_1_8 wt_5_136 ⟨by decide, by decide, by decide +kernel⟩ rfl ⟨Nat.le_of_ble_eq_true rfl, Nat.le_of_ble_eq_true rfl⟩ (Nat.le_of_ble_eq_true rfl) rfl ?_
      refine mv_pop (pc := 32) de_PM_cost_32 rfl ?_
      refine mv_aload_n (pc := 33) (i := 0) de_PM_cost_33 rfl 0 rfl ?_
      refine mv_iload_n (pc := 34) (i := 3) de_PM_cost_34 rfl 3 rfl ?_
      obtain ⟨hi35, h35o⟩ := mj_obE h29
      obtain ⟨r35, Mm35, hz35, h35⟩ := mj_callE h35o
      refine mv_callV (pc := 35) (n := 1) (av := [.int v3]) (rest := []) de_PM_cost_35 (kc_1 l D E B sa) hi35 (cm_PM_told l D E B sa N Mm29 v0 v3 _ _ hz35) wt_5_65 wt_5_67 wp_46 wt_1_8 wt_5_68 ⟨by decide, by decide, by decide +kernel⟩ rfl ⟨Nat.le_of_ble_eq_true rfl, Nat.le_of_ble_eq_true rfl⟩ (Nat.le_of_ble_eq_true rfl) rfl ?_
      exact mv_lret (pc := 38) rfl de_PM_cost_38 h35
theorem cm_PM_cost (l : Launch) (D : va_G) (E : Nat → ClassId) (B : Nat) (sa : (Nat → Nat) × Nat × (Nat → Int32)) (N : Nat) (M : mv_M) (v0 : Nat) (v1 : Int32) (v2 : Int32) (v3 : Int32) (r : Int64) (M1 : mv_M) (hJ : jf_PM_cost N M v0 v1 v2 v3 = some (r, M1)) : mv_Met (xg l D E B sa) yn_PM_cost cd_PM_cost 4 (some .long) 2 60 [va_rf (some v0), .int v1, .int v2, .int v3] M (some (.long r)) M1 :=
  mv_enter (by decide) (Nat.le_of_ble_eq_true rfl) (mv_sub (lv := [(0, va_rf (some v0)), (1, .int v1), (2, .int v2), (3, .int v3)]) [0, 1, 2, 3] rfl (tb_PM_cost_0 l D E B sa M M1 r N M v0 v1 v2 v3 hJ))
/-! ===== PlainLearnerModel.best()I ===== -/
abbrev kd_PM_best : mv_Kd := (cd_PM_best, 7, "PlainLearnerModel", "best", (some .int), 3, 85)
theorem de_PM_best_0 : decode cd_PM_best 0 = .ok (.bipush (-2), 2) := by decide +kernel
theorem de_PM_best_2 : decode cd_PM_best 2 = .ok (.istore_n 1, 1) := by decide +kernel
theorem de_PM_best_3 : decode cd_PM_best 3 = .ok (.lconst 0, 1) := by decide +kernel
theorem de_PM_best_4 : decode cd_PM_best 4 = .ok (.lstore_n 2, 1) := by decide +kernel
theorem de_PM_best_5 : decode cd_PM_best 5 = .ok (.lconst 0, 1) := by decide +kernel
theorem de_PM_best_6 : decode cd_PM_best 6 = .ok (.lstore 4, 2) := by decide +kernel
theorem de_PM_best_8 : decode cd_PM_best 8 = .ok (.iconst 0, 1) := by decide +kernel
theorem de_PM_best_9 : decode cd_PM_best 9 = .ok (.istore 6, 2) := by decide +kernel
theorem de_PM_best_11 : decode cd_PM_best 11 = .ok (.iload 6, 2) := by decide +kernel
theorem de_PM_best_13 : decode cd_PM_best 13 = .ok (.iconst 4, 1) := by decide +kernel
theorem de_PM_best_14 : decode cd_PM_best 14 = .ok (.if_icmp .ge 61, 3) := by decide +kernel
theorem de_PM_best_17 : decode cd_PM_best 17 = .ok (.aload_n 0, 1) := by decide +kernel
theorem de_PM_best_18 : decode cd_PM_best 18 = .ok (.iload 6, 2) := by decide +kernel
theorem de_PM_best_20 : decode cd_PM_best 20 = .ok (.invokevirtual 258, 3) := by decide +kernel
theorem de_PM_best_23 : decode cd_PM_best 23 = .ok (.sipush 10000, 3) := by decide +kernel
theorem de_PM_best_26 : decode cd_PM_best 26 = .ok (.if_icmp .eq 43, 3) := by decide +kernel
theorem de_PM_best_29 : decode cd_PM_best 29 = .ok (.iload_n 1, 1) := by decide +kernel
theorem de_PM_best_30 : decode cd_PM_best 30 = .ok (.bipush (-2), 2) := by decide +kernel
theorem de_PM_best_32 : decode cd_PM_best 32 = .ok (.if_icmp .eq 23, 3) := by decide +kernel
theorem de_PM_best_35 : decode cd_PM_best 35 = .ok (.lload_n 2, 1) := by decide +kernel
theorem de_PM_best_36 : decode cd_PM_best 36 = .ok (.lload 4, 2) := by decide +kernel
theorem de_PM_best_38 : decode cd_PM_best 38 = .ok (.aload_n 0, 1) := by decide +kernel
theorem de_PM_best_39 : decode cd_PM_best 39 = .ok (.getfield 249, 3) := by decide +kernel
theorem de_PM_best_42 : decode cd_PM_best 42 = .ok (.aload_n 0, 1) := by decide +kernel
theorem de_PM_best_43 : decode cd_PM_best 43 = .ok (.getfield 252, 3) := by decide +kernel
theorem de_PM_best_46 : decode cd_PM_best 46 = .ok (.invokestatic 179, 3) := by decide +kernel
theorem de_PM_best_49 : decode cd_PM_best 49 = .ok (.ifCond .ne 6, 3) := by decide +kernel
theorem de_PM_best_52 : decode cd_PM_best 52 = .ok (.goto 17, 3) := by decide +kernel
theorem de_PM_best_55 : decode cd_PM_best 55 = .ok (.iload 6, 2) := by decide +kernel
theorem de_PM_best_57 : decode cd_PM_best 57 = .ok (.istore_n 1, 1) := by decide +kernel
theorem de_PM_best_58 : decode cd_PM_best 58 = .ok (.aload_n 0, 1) := by decide +kernel
theorem de_PM_best_59 : decode cd_PM_best 59 = .ok (.getfield 249, 3) := by decide +kernel
theorem de_PM_best_62 : decode cd_PM_best 62 = .ok (.lstore_n 2, 1) := by decide +kernel
theorem de_PM_best_63 : decode cd_PM_best 63 = .ok (.aload_n 0, 1) := by decide +kernel
theorem de_PM_best_64 : decode cd_PM_best 64 = .ok (.getfield 252, 3) := by decide +kernel
theorem de_PM_best_67 : decode cd_PM_best 67 = .ok (.lstore 4, 2) := by decide +kernel
theorem de_PM_best_69 : decode cd_PM_best 69 = .ok (.iinc 6 1, 3) := by decide +kernel
theorem de_PM_best_72 : decode cd_PM_best 72 = .ok (.goto (-61), 3) := by decide +kernel
theorem de_PM_best_75 : decode cd_PM_best 75 = .ok (.iload_n 1, 1) := by decide +kernel
theorem de_PM_best_76 : decode cd_PM_best 76 = .ok (.ireturn, 1) := by decide +kernel
def jb_PM_best_69 (N : Nat) (k11 : mv_M → Nat → Int32 → Int64 → Int64 → Int32 → Option (Int32 × mv_M)) (M : mv_M) (v0 : Nat) (v1 : Int32) (v2 : Int64) (v4 : Int64) (v6 : Int32) : Option (Int32 × mv_M) :=
  k11 M v0 v1 v2 v4 (v6 + 1)
def jb_PM_best_55 (N : Nat) (k11 : mv_M → Nat → Int32 → Int64 → Int64 → Int32 → Option (Int32 × mv_M)) (M : mv_M) (v0 : Nat) (v6 : Int32) : Option (Int32 × mv_M) :=
  Option.bind (mj_getL M v0 1 24) fun x59 =>
  Option.bind (mj_getL M v0 1 25) fun x64 =>
  jb_PM_best_69 N k11 M v0 v6 x59 x64 v6
def jb_PM_best_11 (N : Nat) : Nat → mv_M → Nat → Int32 → Int64 → Int64 → Int32 → Option (Int32 × mv_M)
  | 0, _, _, _, _, _, _ => none
  | n + 1, M, v0, v1, v2, v4, v6 =>
    if 4 ≤ v6 then (some (v1, M)) else
    mj_ob M v0 1 <|
    mj_call (jf_PM_cut N M v0 v6) fun r20 Mm20 =>
    if r20 = 10000 then (jb_PM_best_69 N (jb_PM_best_11 N n) Mm20 v0 v1 v2 v4 v6) else
    if v1 = (-2) then (jb_PM_best_55 N (jb_PM_best_11 N n) Mm20 v0 v6) else
    Option.bind (mj_getL Mm20 v0 1 24) fun x39 =>
    Option.bind (mj_getL Mm20 v0 1 25) fun x43 =>
    mj_call (jf_PM_isAbove N Mm20 v2 v4 x39 x43) fun r46 Mm46 =>
    if r46 = 0 then (jb_PM_best_69 N (jb_PM_best_11 N n) Mm46 v0 v1 v2 v4 v6) else
    jb_PM_best_55 N (jb_PM_best_11 N n) Mm46 v0 v6
def jb_PM_best_0 (N : Nat) (M : mv_M) (v0 : Nat) : Option (Int32 × mv_M) :=
  jb_PM_best_11 N N M v0 (-2) 0 0 0
def jf_PM_best (N : Nat) (M : mv_M) (v0 : Nat) : Option (Int32 × mv_M) := jb_PM_best_0 N M v0
set_option maxHeartbeats 4000000 in
set_option maxRecDepth 100000 in
theorem tb_PM_best_69 (l : Launch) (D : va_G) (E : Nat → ClassId) (B : Nat) (sa : (Nat → Nat) × Nat × (Nat → Int32)) (M0 M1 : mv_M) (r : Int32) (N : Nat) (k11 : mv_M → Nat → Int32 → Int64 → Int64 → Int32 → Option (Int32 × mv_M)) (hk11 : ∀ (M : mv_M) (v0 : Nat) (v1 : Int32) (v2 : Int64) (v4 : Int64) (v6 : Int32), k11 M v0 v1 v2 v4 v6 = some (r, M1) → mv_G (xg l D E B sa) kd_PM_best M0 M1 (some (.int r)) M 11 [(0, va_rf (some v0)), (1, .int v1), (2, .long v2), (4, .long v4), (6, .int v6)] []) (M : mv_M) (v0 : Nat) (v1 : Int32) (v2 : Int64) (v4 : Int64) (v6 : Int32) (hJ : jb_PM_best_69 N k11 M v0 v1 v2 v4 v6 = some (r, M1)) : mv_G (xg l D E B sa) kd_PM_best M0 M1 (some (.int r)) M 69 [(0, va_rf (some v0)), (1, .int v1), (2, .long v2), (4, .long v4), (6, .int v6)] [] := by
  unfold jb_PM_best_69 at hJ
  refine mv_iinc (pc := 69) (v := (v6 + 1)) (lv' := [(6, .int (v6 + 1)), (0, va_rf (some v0)), (1, .int v1), (2, .long v2), (4, .long v4)]) de_PM_best_69 4 rfl rfl (Nat.le_of_ble_eq_true rfl) rfl ?_
  refine mv_goto (pc := 72) (tgt := 11) de_PM_best_72 (by decide) ?_
  exact mv_sub [1, 2, 3, 4, 0] rfl (hk11 M v0 v1 v2 v4 (v6 + 1) hJ)
set_option maxHeartbeats 4000000 in
set_option maxRecDepth 100000 in
theorem tb_PM_best_55 (l : Launch) (D : va_G) (E : Nat → ClassId) (B : Nat) (sa : (Nat → Nat) × Nat × (Nat → Int32)) (M0 M1 : mv_M) (r : Int32) (N : Nat) (k11 : mv_M → Nat → Int32 → Int64 → Int64 → Int32 → Option (Int32 × mv_M)) (hk11 : ∀ (M : mv_M) (v0 : Nat) (v1 : Int32) (v2 : Int64) (v4 : Int64) (v6 : Int32), k11 M v0 v1 v2 v4 v6 = some (r, M1) → mv_G (xg l D E B sa) kd_PM_best M0 M1 (some (.int r)) M 11 [(0, va_rf (some v0)), (1, .int v1), (2, .long v2), (4, .long v4), (6, .int v6)] []) (M : mv_M) (v0 : Nat) (v6 : Int32) (hJ : jb_PM_best_55 N k11 M v0 v6 = some (r, M1)) : mv_G (xg l D E B sa) kd_PM_best M0 M1 (some (.int r)) M 55 [(0, va_rf (some v0)), (6, .int v6)] [] := by
  unfold jb_PM_best_55 at hJ
  refine mv_iload (pc := 55) de_PM_best_55 1 rfl ?_
  refine mv_istore_n (pc := 57) (i := 1) (lv' := [(1, .int v6), (0, va_rf (some v0)), (6, .int v6)]) de_PM_best_57 rfl (Nat.le_of_ble_eq_true rfl) rfl ?_
  refine mv_aload_n (pc := 58) (i := 0) de_PM_best_58 rfl 1 rfl ?_
  refine mv_getL (pc := 59) (f := 24) (kc_1 l D E B sa) (Nat.le_of_ble_eq_true rfl) wt_4_104 de_PM_best_59 hJ (fun x59 e59 h59 => ?_)
  refine mv_lstore_n (pc := 62) (i := 2) (lv' := [(2, .long x59), (1, .int v6), (0, va_rf (some v0)), (6, .int v6)]) de_PM_best_62 rfl (Nat.le_of_ble_eq_true rfl) rfl ?_
  refine mv_aload_n (pc := 63) (i := 0) de_PM_best_63 rfl 2 rfl ?_
  refine mv_getL (pc := 64) (f := 25) (kc_1 l D E B sa) (Nat.le_of_ble_eq_true rfl) wt_4_105 de_PM_best_64 h59 (fun x64 e64 h64 => ?_)
  refine mv_lstore (pc := 67) (lv' := [(4, .long x64), (2, .long x59), (1, .int v6), (0, va_rf (some v0)), (6, .int v6)]) de_PM_best_67 (Nat.le_of_ble_eq_true rfl) rfl ?_
  exact mv_sub [3, 2, 1, 0, 4] rfl (tb_PM_best_69 l D E B sa M0 M1 r N k11 hk11 M v0 v6 x59 x64 v6 h64)
set_option maxHeartbeats 4000000 in
set_option maxRecDepth 100000 in
theorem tb_PM_best_11 (l : Launch) (D : va_G) (E : Nat → ClassId) (B : Nat) (sa : (Nat → Nat) × Nat × (Nat → Int32)) (M0 M1 : mv_M) (r : Int32) (N : Nat) : ∀ (n : Nat) (M : mv_M) (v0 : Nat) (v1 : Int32) (v2 : Int64) (v4 : Int64) (v6 : Int32) (hJ : jb_PM_best_11 N n M v0 v1 v2 v4 v6 = some (r, M1)), mv_G (xg l D E B sa) kd_PM_best M0 M1 (some (.int r)) M 11 [(0, va_rf (some v0)), (1, .int v1), (2, .long v2), (4, .long v4), (6, .int v6)] [] := by
  intro n
  induction n with
  | zero => intro M v0 v1 v2 v4 v6 hJ; cases hJ
  | succ n ih =>
    intro M v0 v1 v2 v4 v6 hJ
    rw [jb_PM_best_11] at hJ
    refine mv_iload (pc := 11) de_PM_best_11 4 rfl ?_
    refine mv_iconst (pc := 13) (v := 4) de_PM_best_13 (by decide) ?_
    refine mv_icmp_ge (pc := 14) (tgt := 75) de_PM_best_14 (by decide) hJ (fun hc14 h14 => ?_) (fun hc14 h14 => ?_)
    · refine mv_iload_n (pc := 75) (i := 1) de_PM_best_75 rfl 1 rfl ?_
      exact mv_iret (pc := 76) rfl de_PM_best_76 h14
    · refine mv_aload_n (pc := 17) (i := 0) de_PM_best_17 rfl 0 rfl ?_
      refine mv_iload (pc := 18) de_PM_best_18 4 rfl ?_
      obtain ⟨hi20, h20o⟩ := mj_obE h14
      obtain ⟨r20, Mm20, hz20, h20⟩ := mj_callE h20o
      refine mv_callV (pc := 20) (n := 1) (av := [.int v6]) (rest := []) de_PM_best_20 (kc_1 l D E B sa) hi20 (cm_PM_cut l D E B sa N M v0 v6 _ _ hz20) wt_5_149 wt_5_130 wt_5_131 wt_1_8 wt_5_132 ⟨by decide, by decide, by decide +kernel⟩ rfl ⟨Nat.le_of_ble_eq_true rfl, Nat.le_of_ble_eq_true rfl⟩ (Nat.le_of_ble_eq_true rfl) rfl ?_
      refine mv_sipush (pc := 23) (v := 10000) de_PM_best_23 (by decide) ?_
      refine mv_icmp_eq (pc := 26) (tgt := 69) de_PM_best_26 (by decide) h20 (fun hc26 h26 => ?_) (fun hc26 h26 => ?_)
      · exact mv_sub [0, 1, 2, 3, 4] rfl (tb_PM_best_69 l D E B sa M0 M1 r N (jb_PM_best_11 N n) ih Mm20 v0 v1 v2 v4 v6 h26)
      · refine mv_iload_n (pc := 29) (i := 1) de_PM_best_29 rfl 1 rfl ?_
        refine mv_bipush (pc := 30) (v := (-2)) de_PM_best_30 (by decide) ?_
        refine mv_icmp_eq (pc := 32) (tgt := 55) de_PM_best_32 (by decide) h26 (fun hc32 h32 => ?_) (fun hc32 h32 => ?_)
        · exact mv_sub [0, 4] rfl (tb_PM_best_55 l D E B sa M0 M1 r N (jb_PM_best_11 N n) ih Mm20 v0 v6 h32)
        · refine mv_lload_n (pc := 35) (i := 2) de_PM_best_35 rfl 2 rfl ?_
          refine mv_lload (pc := 36) de_PM_best_36 3 rfl ?_
          refine mv_aload_n (pc := 38) (i := 0) de_PM_best_38 rfl 0 rfl ?_
          refine mv_getL (pc := 39) (f := 24) (kc_1 l D E B sa) (Nat.le_of_ble_eq_true rfl) wt_4_104 de_PM_best_39 h32 (fun x39 e39 h39 => ?_)
          refine mv_aload_n (pc := 42) (i := 0) de_PM_best_42 rfl 0 rfl ?_
          refine mv_getL (pc := 43) (f := 25) (kc_1 l D E B sa) (Nat.le_of_ble_eq_true rfl) wt_4_105 de_PM_best_43 h39 (fun x43 e43 h43 => ?_)
          obtain ⟨r46, Mm46, hz46, h46⟩ := mj_callE h43
          refine mv_callS (pc := 46) (n := 4) (av := [.long v2, .long v4, .long x39, .long x43]) (rest := []) de_PM_best_46 (cm_PM_isAbove l D E B sa N Mm20 v2 v4 x39 x43 _ _ hz46) wt_5_54 wt_5_55 wt_1_8 wt_5_56 ⟨by decide, by decide, by decide +kernel⟩ rfl ⟨Nat.le_of_ble_eq_true rfl, Nat.le_of_ble_eq_true rfl⟩ (Nat.le_of_ble_eq_true rfl) rfl ?_
          refine mv_if_ne (pc := 49) (tgt := 55) de_PM_best_49 (by decide) h46 (fun hc49 h49 => ?_) (fun hc49 h49 => ?_)
          · refine mv_goto (pc := 52) (tgt := 69) de_PM_best_52 (by decide) ?_
            exact mv_sub [0, 1, 2, 3, 4] rfl (tb_PM_best_69 l D E B sa M0 M1 r N (jb_PM_best_11 N n) ih Mm46 v0 v1 v2 v4 v6 h49)
          · exact mv_sub [0, 4] rfl (tb_PM_best_55 l D E B sa M0 M1 r N (jb_PM_best_11 N n) ih Mm46 v0 v6 h49)
set_option maxHeartbeats 4000000 in
set_option maxRecDepth 100000 in
theorem tb_PM_best_0 (l : Launch) (D : va_G) (E : Nat → ClassId) (B : Nat) (sa : (Nat → Nat) × Nat × (Nat → Int32)) (M0 M1 : mv_M) (r : Int32) (N : Nat) (M : mv_M) (v0 : Nat) (hJ : jb_PM_best_0 N M v0 = some (r, M1)) : mv_G (xg l D E B sa) kd_PM_best M0 M1 (some (.int r)) M 0 [(0, va_rf (some v0))] [] := by
  unfold jb_PM_best_0 at hJ
  refine mv_bipush (pc := 0) (v := (-2)) de_PM_best_0 (by decide) ?_
  refine mv_istore_n (pc := 2) (i := 1) (lv' := [(1, .int (-2)), (0, va_rf (some v0))]) de_PM_best_2 rfl (Nat.le_of_ble_eq_true rfl) rfl ?_
  refine mv_lconst (pc := 3) (v := 0) de_PM_best_3 (by decide) ?_
  refine mv_lstore_n (pc := 4) (i := 2) (lv' := [(2, .long 0), (1, .int (-2)), (0, va_rf (some v0))]) de_PM_best_4 rfl (Nat.le_of_ble_eq_true rfl) rfl ?_
  refine mv_lconst (pc := 5) (v := 0) de_PM_best_5 (by decide) ?_
  refine mv_lstore (pc := 6) (lv' := [(4, .long 0), (2, .long 0), (1, .int (-2)), (0, va_rf (some v0))]) de_PM_best_6 (Nat.le_of_ble_eq_true rfl) rfl ?_
  refine mv_iconst (pc := 8) (v := 0) de_PM_best_8 (by decide) ?_
  refine mv_istore (pc := 9) (lv' := [(6, .int 0), (4, .long 0), (2, .long 0), (1, .int (-2)), (0, va_rf (some v0))]) de_PM_best_9 (Nat.le_of_ble_eq_true rfl) rfl ?_
  exact mv_sub [4, 3, 2, 1, 0] rfl (tb_PM_best_11 l D E B sa M0 M1 r N N M v0 (-2) 0 0 0 hJ)
theorem cm_PM_best (l : Launch) (D : va_G) (E : Nat → ClassId) (B : Nat) (sa : (Nat → Nat) × Nat × (Nat → Int32)) (N : Nat) (M : mv_M) (v0 : Nat) (r : Int32) (M1 : mv_M) (hJ : jf_PM_best N M v0 = some (r, M1)) : mv_Met (xg l D E B sa) yn_PM_best cd_PM_best 7 (some .int) 3 85 [va_rf (some v0)] M (some (.int r)) M1 :=
  mv_enter (by decide) (Nat.le_of_ble_eq_true rfl) (mv_sub (lv := [(0, va_rf (some v0))]) [0] rfl (tb_PM_best_0 l D E B sa M M1 r N M v0 hJ))
/-! ===== PlainLearnerModel.clear()I ===== -/
abbrev kd_PM_clear : mv_Kd := (cd_PM_clear, 2, "PlainLearnerModel", "clear", (some .int), 0, 0)
theorem de_PM_clear_0 : decode cd_PM_clear 0 = .ok (.aload_n 0, 1) := by decide +kernel
theorem de_PM_clear_1 : decode cd_PM_clear 1 = .ok (.getfield 236, 3) := by decide +kernel
theorem de_PM_clear_4 : decode cd_PM_clear 4 = .ok (.istore_n 1, 1) := by decide +kernel
theorem de_PM_clear_5 : decode cd_PM_clear 5 = .ok (.aload_n 0, 1) := by decide +kernel
theorem de_PM_clear_6 : decode cd_PM_clear 6 = .ok (.iconst 0, 1) := by decide +kernel
theorem de_PM_clear_7 : decode cd_PM_clear 7 = .ok (.putfield 236, 3) := by decide +kernel
theorem de_PM_clear_10 : decode cd_PM_clear 10 = .ok (.iload_n 1, 1) := by decide +kernel
theorem de_PM_clear_11 : decode cd_PM_clear 11 = .ok (.ireturn, 1) := by decide +kernel
def jb_PM_clear_0 (N : Nat) (M : mv_M) (v0 : Nat) : Option (Int32 × mv_M) :=
  Option.bind (mj_getI M v0 1 20) fun x1 =>
  Option.bind (mj_put M v0 1 20 (.int 0)) fun Mm7 =>
  some (x1, Mm7)
def jf_PM_clear (N : Nat) (M : mv_M) (v0 : Nat) : Option (Int32 × mv_M) := jb_PM_clear_0 N M v0
set_option maxHeartbeats 4000000 in
set_option maxRecDepth 100000 in
theorem tb_PM_clear_0 (l : Launch) (D : va_G) (E : Nat → ClassId) (B : Nat) (sa : (Nat → Nat) × Nat × (Nat → Int32)) (M0 M1 : mv_M) (r : Int32) (N : Nat) (M : mv_M) (v0 : Nat) (hJ : jb_PM_clear_0 N M v0 = some (r, M1)) : mv_G (xg l D E B sa) kd_PM_clear M0 M1 (some (.int r)) M 0 [(0, va_rf (some v0))] [] := by
  unfold jb_PM_clear_0 at hJ
  refine mv_aload_n (pc := 0) (i := 0) de_PM_clear_0 rfl 0 rfl ?_
  refine mv_getI (pc := 1) (f := 20) (kc_1 l D E B sa) (Nat.le_of_ble_eq_true rfl) wt_4_100 de_PM_clear_1 hJ (fun x1 e1 h1 => ?_)
  refine mv_istore_n (pc := 4) (i := 1) (lv' := [(1, .int x1), (0, va_rf (some v0))]) de_PM_clear_4 rfl (Nat.le_of_ble_eq_true rfl) rfl ?_
  refine mv_aload_n (pc := 5) (i := 0) de_PM_clear_5 rfl 1 rfl ?_
  refine mv_iconst (pc := 6) (v := 0) de_PM_clear_6 (by decide) ?_
  refine mv_put (pc := 7) (f := 20) (kc_1 l D E B sa) (Nat.le_of_ble_eq_true rfl) wt_4_100 rfl rfl rfl de_PM_clear_7 h1 (fun Mm7 e7 h7 => ?_)
  refine mv_iload_n (pc := 10) (i := 1) de_PM_clear_10 rfl 0 rfl ?_
  exact mv_iret (pc := 11) rfl de_PM_clear_11 h7
theorem cm_PM_clear (l : Launch) (D : va_G) (E : Nat → ClassId) (B : Nat) (sa : (Nat → Nat) × Nat × (Nat → Int32)) (N : Nat) (M : mv_M) (v0 : Nat) (r : Int32) (M1 : mv_M) (hJ : jf_PM_clear N M v0 = some (r, M1)) : mv_Met (xg l D E B sa) yn_PM_clear cd_PM_clear 2 (some .int) 0 0 [va_rf (some v0)] M (some (.int r)) M1 :=
  mv_enter (by decide) (Nat.le_of_ble_eq_true rfl) (mv_sub (lv := [(0, va_rf (some v0))]) [0] rfl (tb_PM_clear_0 l D E B sa M M1 r N M v0 hJ))
/-! ===== PlainLearnerModel.game(I)I ===== -/
abbrev kd_PM_game : mv_Kd := (cd_PM_game, 3, "PlainLearnerModel", "game", (some .int), 1, 25)
theorem de_PM_game_0 : decode cd_PM_game 0 = .ok (.iload_n 1, 1) := by decide +kernel
theorem de_PM_game_1 : decode cd_PM_game 1 = .ok (.i2l, 1) := by decide +kernel
theorem de_PM_game_2 : decode cd_PM_game 2 = .ok (.lconst 0, 1) := by decide +kernel
theorem de_PM_game_3 : decode cd_PM_game 3 = .ok (.ldc2_w 261, 3) := by decide +kernel
theorem de_PM_game_6 : decode cd_PM_game 6 = .ok (.invokestatic 99, 3) := by decide +kernel
theorem de_PM_game_9 : decode cd_PM_game 9 = .ok (.ifCond .ne 5, 3) := by decide +kernel
theorem de_PM_game_12 : decode cd_PM_game 12 = .ok (.iconst (-1), 1) := by decide +kernel
theorem de_PM_game_13 : decode cd_PM_game 13 = .ok (.ireturn, 1) := by decide +kernel
theorem de_PM_game_14 : decode cd_PM_game 14 = .ok (.aload_n 0, 1) := by decide +kernel
theorem de_PM_game_15 : decode cd_PM_game 15 = .ok (.iload_n 1, 1) := by decide +kernel
theorem de_PM_game_16 : decode cd_PM_game 16 = .ok (.putfield 263, 3) := by decide +kernel
theorem de_PM_game_19 : decode cd_PM_game 19 = .ok (.iconst 0, 1) := by decide +kernel
theorem de_PM_game_20 : decode cd_PM_game 20 = .ok (.istore_n 2, 1) := by decide +kernel
theorem de_PM_game_21 : decode cd_PM_game 21 = .ok (.iload_n 2, 1) := by decide +kernel
theorem de_PM_game_22 : decode cd_PM_game 22 = .ok (.sipush 256, 3) := by decide +kernel
theorem de_PM_game_25 : decode cd_PM_game 25 = .ok (.if_icmp .ge 16, 3) := by decide +kernel
theorem de_PM_game_28 : decode cd_PM_game 28 = .ok (.aload_n 0, 1) := by decide +kernel
theorem de_PM_game_29 : decode cd_PM_game 29 = .ok (.getfield 51, 3) := by decide +kernel
theorem de_PM_game_32 : decode cd_PM_game 32 = .ok (.iload_n 2, 1) := by decide +kernel
theorem de_PM_game_33 : decode cd_PM_game 33 = .ok (.iconst 0, 1) := by decide +kernel
theorem de_PM_game_34 : decode cd_PM_game 34 = .ok (.iastore, 1) := by decide +kernel
theorem de_PM_game_35 : decode cd_PM_game 35 = .ok (.iinc 2 1, 3) := by decide +kernel
theorem de_PM_game_38 : decode cd_PM_game 38 = .ok (.goto (-17), 3) := by decide +kernel
theorem de_PM_game_41 : decode cd_PM_game 41 = .ok (.iconst 0, 1) := by decide +kernel
theorem de_PM_game_42 : decode cd_PM_game 42 = .ok (.ireturn, 1) := by decide +kernel
def jb_PM_game_21 (N : Nat) : Nat → mv_M → Nat → Int32 → Option (Int32 × mv_M)
  | 0, _, _, _ => none
  | n + 1, M, v0, v2 =>
    if 256 ≤ v2 then (some (0, M)) else
    Option.bind (mj_getR M v0 1 27) fun x29 =>
    Option.bind x29 fun a34 =>
    Option.bind (mj_ist M a34 0 v2 0) fun Mm34 =>
    jb_PM_game_21 N n Mm34 v0 (v2 + 1)
def jb_PM_game_0 (N : Nat) (M : mv_M) (v0 : Nat) (v1 : Int32) : Option (Int32 × mv_M) :=
  mj_call (jf_PM_isIn N M v1.toInt64 0 8) fun r6 Mm6 =>
  if r6 = 0 then (some ((-1), Mm6)) else
  Option.bind (mj_put Mm6 v0 1 26 (.int v1)) fun Mm16 =>
  jb_PM_game_21 N N Mm16 v0 0
def jf_PM_game (N : Nat) (M : mv_M) (v0 : Nat) (v1 : Int32) : Option (Int32 × mv_M) := jb_PM_game_0 N M v0 v1
set_option maxHeartbeats 4000000 in
set_option maxRecDepth 100000 in
theorem tb_PM_game_21 (l : Launch) (D : va_G) (E : Nat → ClassId) (B : Nat) (sa : (Nat → Nat) × Nat × (Nat → Int32)) (M0 M1 : mv_M) (r : Int32) (N : Nat) : ∀ (n : Nat) (M : mv_M) (v0 : Nat) (v2 : Int32) (hJ : jb_PM_game_21 N n M v0 v2 = some (r, M1)), mv_G (xg l D E B sa) kd_PM_game M0 M1 (some (.int r)) M 21 [(0, va_rf (some v0)), (2, .int v2)] [] := by
  intro n
  induction n with
  | zero => intro M v0 v2 hJ; cases hJ
  | succ n ih =>
    intro M v0 v2 hJ
    rw [jb_PM_game_21] at hJ
    refine mv_iload_n (pc := 21) (i := 2) de_PM_game_21 rfl 1 rfl ?_
    refine mv_sipush (pc := 22) (v := 256) de_PM_game_22 (by decide) ?_
    refine mv_icmp_ge (pc := 25) (tgt := 41) de_PM_game_25 (by decide) hJ (fun hc25 h25 => ?_) (fun hc25 h25 => ?_)
    · refine mv_iconst (pc := 41) (v := 0) de_PM_game_41 (by decide) ?_
      exact mv_iret (pc := 42) rfl de_PM_game_42 h25
    · refine mv_aload_n (pc := 28) (i := 0) de_PM_game_28 rfl 0 rfl ?_
      refine mv_getR (pc := 29) (f := 27) (kc_1 l D E B sa) (Nat.le_of_ble_eq_true rfl) wt_4_107 de_PM_game_29 h25 (fun x29 e29 h29 => ?_)
      refine mv_iload_n (pc := 32) (i := 2) de_PM_game_32 rfl 1 rfl ?_
      refine mv_iconst (pc := 33) (v := 0) de_PM_game_33 (by decide) ?_
      obtain ⟨a34, ha, h34a⟩ := mj_bindE h29
      subst ha
      refine mv_iast (pc := 34) (t := 0) rfl de_PM_game_34 h34a (fun Mm34 e34 h34 => ?_)
      refine mv_iinc (pc := 35) (v := (v2 + 1)) (lv' := [(2, .int (v2 + 1)), (0, va_rf (some v0))]) de_PM_game_35 1 rfl rfl (Nat.le_of_ble_eq_true rfl) rfl ?_
      refine mv_goto (pc := 38) (tgt := 21) de_PM_game_38 (by decide) ?_
      exact mv_sub [1, 0] rfl (ih Mm34 v0 (v2 + 1) h34)
set_option maxHeartbeats 4000000 in
set_option maxRecDepth 100000 in
theorem tb_PM_game_0 (l : Launch) (D : va_G) (E : Nat → ClassId) (B : Nat) (sa : (Nat → Nat) × Nat × (Nat → Int32)) (M0 M1 : mv_M) (r : Int32) (N : Nat) (M : mv_M) (v0 : Nat) (v1 : Int32) (hJ : jb_PM_game_0 N M v0 v1 = some (r, M1)) : mv_G (xg l D E B sa) kd_PM_game M0 M1 (some (.int r)) M 0 [(0, va_rf (some v0)), (1, .int v1)] [] := by
  unfold jb_PM_game_0 at hJ
  refine mv_iload_n (pc := 0) (i := 1) de_PM_game_0 rfl 1 rfl ?_
  refine mv_i2l (pc := 1) de_PM_game_1 ?_
  refine mv_lconst (pc := 2) (v := 0) de_PM_game_2 (by decide) ?_
  refine mv_ldc2 (pc := 3) de_PM_game_3 wt_5_158 ?_
  obtain ⟨r6, Mm6, hz6, h6⟩ := mj_callE hJ
  refine mv_callS (pc := 6) (n := 3) (av := [.long v1.toInt64, .long 0, .long 8]) (rest := []) de_PM_game_6 (cm_PM_isIn l D E B sa N M v1.toInt64 0 8 _ _ hz6) wt_4_197 wt_4_198 wt_1_8 wt_4_199 ⟨by decide, by decide, by decide +kernel⟩ rfl ⟨Nat.le_of_ble_eq_true rfl, Nat.le_of_ble_eq_true rfl⟩ (Nat.le_of_ble_eq_true rfl) rfl ?_
  refine mv_if_ne (pc := 9) (tgt := 14) de_PM_game_9 (by decide) h6 (fun hc9 h9 => ?_) (fun hc9 h9 => ?_)
  · refine mv_iconst (pc := 12) (v := (-1)) de_PM_game_12 (by decide) ?_
    exact mv_iret (pc := 13) rfl de_PM_game_13 h9
  · refine mv_aload_n (pc := 14) (i := 0) de_PM_game_14 rfl 0 rfl ?_
    refine mv_iload_n (pc := 15) (i := 1) de_PM_game_15 rfl 1 rfl ?_
    refine mv_put (pc := 16) (f := 26) (kc_1 l D E B sa) (Nat.le_of_ble_eq_true rfl) wt_4_106 rfl rfl rfl de_PM_game_16 h9 (fun Mm16 e16 h16 => ?_)
    refine mv_iconst (pc := 19) (v := 0) de_PM_game_19 (by decide) ?_
    refine mv_istore_n (pc := 20) (i := 2) (lv' := [(2, .int 0), (0, va_rf (some v0)), (1, .int v1)]) de_PM_game_20 rfl (Nat.le_of_ble_eq_true rfl) rfl ?_
    exact mv_sub [1, 0] rfl (tb_PM_game_21 l D E B sa M0 M1 r N N Mm16 v0 0 h16)
theorem cm_PM_game (l : Launch) (D : va_G) (E : Nat → ClassId) (B : Nat) (sa : (Nat → Nat) × Nat × (Nat → Int32)) (N : Nat) (M : mv_M) (v0 : Nat) (v1 : Int32) (r : Int32) (M1 : mv_M) (hJ : jf_PM_game N M v0 v1 = some (r, M1)) : mv_Met (xg l D E B sa) yn_PM_game cd_PM_game 3 (some .int) 1 25 [va_rf (some v0), .int v1] M (some (.int r)) M1 :=
  mv_enter (by decide) (Nat.le_of_ble_eq_true rfl) (mv_sub (lv := [(0, va_rf (some v0)), (1, .int v1)]) [0, 1] rfl (tb_PM_game_0 l D E B sa M M1 r N M v0 v1 hJ))
/-! ===== PlainLearnerModel.worth(II)I ===== -/
abbrev kd_PM_worth : mv_Kd := (cd_PM_worth, 4, "PlainLearnerModel", "worth", (some .int), 1, 25)
theorem de_PM_worth_0 : decode cd_PM_worth 0 = .ok (.iload_n 1, 1) := by decide +kernel
theorem de_PM_worth_1 : decode cd_PM_worth 1 = .ok (.i2l, 1) := by decide +kernel
theorem de_PM_worth_2 : decode cd_PM_worth 2 = .ok (.lconst 1, 1) := by decide +kernel
theorem de_PM_worth_3 : decode cd_PM_worth 3 = .ok (.iconst 1, 1) := by decide +kernel
theorem de_PM_worth_4 : decode cd_PM_worth 4 = .ok (.aload_n 0, 1) := by decide +kernel
theorem de_PM_worth_5 : decode cd_PM_worth 5 = .ok (.getfield 263, 3) := by decide +kernel
theorem de_PM_worth_8 : decode cd_PM_worth 8 = .ok (.ishl, 1) := by decide +kernel
theorem de_PM_worth_9 : decode cd_PM_worth 9 = .ok (.iconst 1, 1) := by decide +kernel
theorem de_PM_worth_10 : decode cd_PM_worth 10 = .ok (.isub, 1) := by decide +kernel
theorem de_PM_worth_11 : decode cd_PM_worth 11 = .ok (.i2l, 1) := by decide +kernel
theorem de_PM_worth_12 : decode cd_PM_worth 12 = .ok (.invokestatic 99, 3) := by decide +kernel
theorem de_PM_worth_15 : decode cd_PM_worth 15 = .ok (.ifCond .eq 17, 3) := by decide +kernel
theorem de_PM_worth_18 : decode cd_PM_worth 18 = .ok (.iload_n 2, 1) := by decide +kernel
theorem de_PM_worth_19 : decode cd_PM_worth 19 = .ok (.i2l, 1) := by decide +kernel
theorem de_PM_worth_20 : decode cd_PM_worth 20 = .ok (.ldc2_w 266, 3) := by decide +kernel
theorem de_PM_worth_23 : decode cd_PM_worth 23 = .ok (.ldc2_w 268, 3) := by decide +kernel
theorem de_PM_worth_26 : decode cd_PM_worth 26 = .ok (.invokestatic 99, 3) := by decide +kernel
theorem de_PM_worth_29 : decode cd_PM_worth 29 = .ok (.ifCond .ne 5, 3) := by decide +kernel
theorem de_PM_worth_32 : decode cd_PM_worth 32 = .ok (.iconst (-1), 1) := by decide +kernel
theorem de_PM_worth_33 : decode cd_PM_worth 33 = .ok (.ireturn, 1) := by decide +kernel
theorem de_PM_worth_34 : decode cd_PM_worth 34 = .ok (.aload_n 0, 1) := by decide +kernel
theorem de_PM_worth_35 : decode cd_PM_worth 35 = .ok (.getfield 51, 3) := by decide +kernel
theorem de_PM_worth_38 : decode cd_PM_worth 38 = .ok (.iload_n 1, 1) := by decide +kernel
theorem de_PM_worth_39 : decode cd_PM_worth 39 = .ok (.iaload, 1) := by decide +kernel
theorem de_PM_worth_40 : decode cd_PM_worth 40 = .ok (.istore_n 3, 1) := by decide +kernel
theorem de_PM_worth_41 : decode cd_PM_worth 41 = .ok (.aload_n 0, 1) := by decide +kernel
theorem de_PM_worth_42 : decode cd_PM_worth 42 = .ok (.getfield 51, 3) := by decide +kernel
theorem de_PM_worth_45 : decode cd_PM_worth 45 = .ok (.iload_n 1, 1) := by decide +kernel
theorem de_PM_worth_46 : decode cd_PM_worth 46 = .ok (.iload_n 2, 1) := by decide +kernel
theorem de_PM_worth_47 : decode cd_PM_worth 47 = .ok (.iastore, 1) := by decide +kernel
theorem de_PM_worth_48 : decode cd_PM_worth 48 = .ok (.iload_n 3, 1) := by decide +kernel
theorem de_PM_worth_49 : decode cd_PM_worth 49 = .ok (.ireturn, 1) := by decide +kernel
def jb_PM_worth_32 (N : Nat) (M : mv_M) : Option (Int32 × mv_M) :=
  some ((-1), M)
def jb_PM_worth_0 (N : Nat) (M : mv_M) (v0 : Nat) (v1 : Int32) (v2 : Int32) : Option (Int32 × mv_M) :=
  Option.bind (mj_getI M v0 1 26) fun x5 =>
  mj_call (jf_PM_isIn N M v1.toInt64 1 ((((1 : Int32) <<< (x5 &&& 31)) - 1).toInt64)) fun r12 Mm12 =>
  if r12 = 0 then (jb_PM_worth_32 N Mm12) else
  mj_call (jf_PM_isIn N Mm12 v2.toInt64 (-10000) 10000) fun r26 Mm26 =>
  if r26 = 0 then (jb_PM_worth_32 N Mm26) else
  Option.bind (mj_getR Mm26 v0 1 27) fun x35 =>
  Option.bind x35 fun a39 =>
  Option.bind (mj_ild Mm26 a39 0 v1) fun x39 =>
  Option.bind (mj_getR Mm26 v0 1 27) fun x42 =>
  Option.bind x42 fun a47 =>
  Option.bind (mj_ist Mm26 a47 0 v1 v2) fun Mm47 =>
  some (x39, Mm47)
def jf_PM_worth (N : Nat) (M : mv_M) (v0 : Nat) (v1 : Int32) (v2 : Int32) : Option (Int32 × mv_M) := jb_PM_worth_0 N M v0 v1 v2
set_option maxHeartbeats 4000000 in
set_option maxRecDepth 100000 in
theorem tb_PM_worth_32 (l : Launch) (D : va_G) (E : Nat → ClassId) (B : Nat) (sa : (Nat → Nat) × Nat × (Nat → Int32)) (M0 M1 : mv_M) (r : Int32) (N : Nat) (M : mv_M) (hJ : jb_PM_worth_32 N M = some (r, M1)) : mv_G (xg l D E B sa) kd_PM_worth M0 M1 (some (.int r)) M 32 [] [] := by
  unfold jb_PM_worth_32 at hJ
  refine mv_iconst (pc := 32) (v := (-1)) de_PM_worth_32 (by decide) ?_
  exact mv_iret (pc := 33) rfl de_PM_worth_33 hJ
set_option maxHeartbeats 4000000 in
set_option maxRecDepth 100000 in
theorem tb_PM_worth_0 (l : Launch) (D : va_G) (E : Nat → ClassId) (B : Nat) (sa : (Nat → Nat) × Nat × (Nat → Int32)) (M0 M1 : mv_M) (r : Int32) (N : Nat) (M : mv_M) (v0 : Nat) (v1 : Int32) (v2 : Int32) (hJ : jb_PM_worth_0 N M v0 v1 v2 = some (r, M1)) : mv_G (xg l D E B sa) kd_PM_worth M0 M1 (some (.int r)) M 0 [(0, va_rf (some v0)), (1, .int v1), (2, .int v2)] [] := by
  unfold jb_PM_worth_0 at hJ
  refine mv_iload_n (pc := 0) (i := 1) de_PM_worth_0 rfl 1 rfl ?_
  refine mv_i2l (pc := 1) de_PM_worth_1 ?_
  refine mv_lconst (pc := 2) (v := 1) de_PM_worth_2 (by decide) ?_
  refine mv_iconst (pc := 3) (v := 1) de_PM_worth_3 (by decide) ?_
  refine mv_aload_n (pc := 4) (i := 0) de_PM_worth_4 rfl 0 rfl ?_
  refine mv_getI (pc := 5) (f := 26) (kc_1 l D E B sa) (Nat.le_of_ble_eq_true rfl) wt_4_106 de_PM_worth_5 hJ (fun x5 e5 h5 => ?_)
  refine mv_ishl (pc := 8) de_PM_worth_8 ?_
  refine mv_iconst (pc := 9) (v := 1) de_PM_worth_9 (by decide) ?_
  refine mv_isub (pc := 10) de_PM_worth_10 ?_
  refine mv_i2l (pc := 11) de_PM_worth_11 ?_
  obtain ⟨r12, Mm12, hz12, h12⟩ := mj_callE h5
  refine mv_callS (pc := 12) (n := 3) (av := [.long v1.toInt64, .long 1, .long (((1 : Int32) <<< (x5 &&& 31)) - 1).toInt64]) (rest := []) de_PM_worth_12 (cm_PM_isIn l D E B sa N M v1.toInt64 1 ((((1 : Int32) <<< (x5 &&& 31)) - 1).toInt64) _ _ hz12) wt_4_197 wt_4_198 wt_1_8 wt_4_199 ⟨by decide, by decide, by decide +kernel⟩ rfl ⟨Nat.le_of_ble_eq_true rfl, Nat.le_of_ble_eq_true rfl⟩ (Nat.le_of_ble_eq_true rfl) rfl ?_
  refine mv_if_eq (pc := 15) (tgt := 32) de_PM_worth_15 (by decide) h12 (fun hc15 h15 => ?_) (fun hc15 h15 => ?_)
  · exact mv_sub [] rfl (tb_PM_worth_32 l D E B sa M0 M1 r N Mm12 h15)
  · refine mv_iload_n (pc := 18) (i := 2) de_PM_worth_18 rfl 2 rfl ?_
    refine mv_i2l (pc := 19) de_PM_worth_19 ?_
    refine mv_ldc2 (pc := 20) de_PM_worth_20 wt_5_163 ?_
    refine mv_ldc2 (pc := 23) de_PM_worth_23 wt_5_164 ?_
    obtain ⟨r26, Mm26, hz26, h26⟩ := mj_callE h15
    refine mv_callS (pc := 26) (n := 3) (av := [.long v2.toInt64, .long (-10000), .long 10000]) (rest := []) de_PM_worth_26 (cm_PM_isIn l D E B sa N Mm12 v2.toInt64 (-10000) 10000 _ _ hz26) wt_4_197 wt_4_198 wt_1_8 wt_4_199 ⟨by decide, by decide, by decide +kernel⟩ rfl ⟨Nat.le_of_ble_eq_true rfl, Nat.le_of_ble_eq_true rfl⟩ (Nat.le_of_ble_eq_true rfl) rfl ?_
    refine mv_if_ne (pc := 29) (tgt := 34) de_PM_worth_29 (by decide) h26 (fun hc29 h29 => ?_) (fun hc29 h29 => ?_)
    · exact mv_sub [] rfl (tb_PM_worth_32 l D E B sa M0 M1 r N Mm26 h29)
    · refine mv_aload_n (pc := 34) (i := 0) de_PM_worth_34 rfl 0 rfl ?_
      refine mv_getR (pc := 35) (f := 27) (kc_1 l D E B sa) (Nat.le_of_ble_eq_true rfl) wt_4_107 de_PM_worth_35 h29 (fun x35 e35 h35 => ?_)
      refine mv_iload_n (pc := 38) (i := 1) de_PM_worth_38 rfl 1 rfl ?_
      obtain ⟨a39, ha, h39a⟩ := mj_bindE h35
      subst ha
      refine mv_iald (pc := 39) (t := 0) rfl de_PM_worth_39 h39a (fun x39 e39 h39 => ?_)
      refine mv_istore_n (pc := 40) (i := 3) (lv' := [(3, .int x39), (0, va_rf (some v0)), (1, .int v1), (2, .int v2)]) de_PM_worth_40 rfl (Nat.le_of_ble_eq_true rfl) rfl ?_
      refine mv_aload_n (pc := 41) (i := 0) de_PM_worth_41 rfl 1 rfl ?_
      refine mv_getR (pc := 42) (f := 27) (kc_1 l D E B sa) (Nat.le_of_ble_eq_true rfl) wt_4_107 de_PM_worth_42 h39 (fun x42 e42 h42 => ?_)
      refine mv_iload_n (pc := 45) (i := 1) de_PM_worth_45 rfl 2 rfl ?_
      refine mv_iload_n (pc := 46) (i := 2) de_PM_worth_46 rfl 3 rfl ?_
      obtain ⟨a47, ha, h47a⟩ := mj_bindE h42
      subst ha
      refine mv_iast (pc := 47) (t := 0) rfl de_PM_worth_47 h47a (fun Mm47 e47 h47 => ?_)
      refine mv_iload_n (pc := 48) (i := 3) de_PM_worth_48 rfl 0 rfl ?_
      exact mv_iret (pc := 49) rfl de_PM_worth_49 h47
theorem cm_PM_worth (l : Launch) (D : va_G) (E : Nat → ClassId) (B : Nat) (sa : (Nat → Nat) × Nat × (Nat → Int32)) (N : Nat) (M : mv_M) (v0 : Nat) (v1 : Int32) (v2 : Int32) (r : Int32) (M1 : mv_M) (hJ : jf_PM_worth N M v0 v1 v2 = some (r, M1)) : mv_Met (xg l D E B sa) yn_PM_worth cd_PM_worth 4 (some .int) 1 25 [va_rf (some v0), .int v1, .int v2] M (some (.int r)) M1 :=
  mv_enter (by decide) (Nat.le_of_ble_eq_true rfl) (mv_sub (lv := [(0, va_rf (some v0)), (1, .int v1), (2, .int v2)]) [0, 1, 2] rfl (tb_PM_worth_0 l D E B sa M M1 r N M v0 v1 v2 hJ))
/-! ===== PlainLearnerModel.orders(I)J ===== -/
abbrev kd_PM_orders : mv_Kd := (cd_PM_orders, 4, "PlainLearnerModel", "orders", (some .long), 0, 0)
theorem de_PM_orders_0 : decode cd_PM_orders 0 = .ok (.lconst 1, 1) := by decide +kernel
theorem de_PM_orders_1 : decode cd_PM_orders 1 = .ok (.lstore_n 1, 1) := by decide +kernel
theorem de_PM_orders_2 : decode cd_PM_orders 2 = .ok (.iconst 2, 1) := by decide +kernel
theorem de_PM_orders_3 : decode cd_PM_orders 3 = .ok (.istore_n 3, 1) := by decide +kernel
theorem de_PM_orders_4 : decode cd_PM_orders 4 = .ok (.iload_n 3, 1) := by decide +kernel
theorem de_PM_orders_5 : decode cd_PM_orders 5 = .ok (.iload_n 0, 1) := by decide +kernel
theorem de_PM_orders_6 : decode cd_PM_orders 6 = .ok (.if_icmp .gt 14, 3) := by decide +kernel
theorem de_PM_orders_9 : decode cd_PM_orders 9 = .ok (.lload_n 1, 1) := by decide +kernel
theorem de_PM_orders_10 : decode cd_PM_orders 10 = .ok (.iload_n 3, 1) := by decide +kernel
theorem de_PM_orders_11 : decode cd_PM_orders 11 = .ok (.i2l, 1) := by decide +kernel
theorem de_PM_orders_12 : decode cd_PM_orders 12 = .ok (.lmul, 1) := by decide +kernel
theorem de_PM_orders_13 : decode cd_PM_orders 13 = .ok (.lstore_n 1, 1) := by decide +kernel
theorem de_PM_orders_14 : decode cd_PM_orders 14 = .ok (.iinc 3 1, 3) := by decide +kernel
theorem de_PM_orders_17 : decode cd_PM_orders 17 = .ok (.goto (-13), 3) := by decide +kernel
theorem de_PM_orders_20 : decode cd_PM_orders 20 = .ok (.lload_n 1, 1) := by decide +kernel
theorem de_PM_orders_21 : decode cd_PM_orders 21 = .ok (.lreturn, 1) := by decide +kernel
def jb_PM_orders_4 (N : Nat) : Nat → mv_M → Int32 → Int64 → Int32 → Option (Int64 × mv_M)
  | 0, _, _, _, _ => none
  | n + 1, M, v0, v1, v3 =>
    if v0 < v3 then (some (v1, M)) else
    jb_PM_orders_4 N n M v0 (v1 * v3.toInt64) (v3 + 1)
def jb_PM_orders_0 (N : Nat) (M : mv_M) (v0 : Int32) : Option (Int64 × mv_M) :=
  jb_PM_orders_4 N N M v0 1 2
def jf_PM_orders (N : Nat) (M : mv_M) (v0 : Int32) : Option (Int64 × mv_M) := jb_PM_orders_0 N M v0
set_option maxHeartbeats 4000000 in
set_option maxRecDepth 100000 in
theorem tb_PM_orders_4 (l : Launch) (D : va_G) (E : Nat → ClassId) (B : Nat) (sa : (Nat → Nat) × Nat × (Nat → Int32)) (M0 M1 : mv_M) (r : Int64) (N : Nat) : ∀ (n : Nat) (M : mv_M) (v0 : Int32) (v1 : Int64) (v3 : Int32) (hJ : jb_PM_orders_4 N n M v0 v1 v3 = some (r, M1)), mv_G (xg l D E B sa) kd_PM_orders M0 M1 (some (.long r)) M 4 [(0, .int v0), (1, .long v1), (3, .int v3)] [] := by
  intro n
  induction n with
  | zero => intro M v0 v1 v3 hJ; cases hJ
  | succ n ih =>
    intro M v0 v1 v3 hJ
    rw [jb_PM_orders_4] at hJ
    refine mv_iload_n (pc := 4) (i := 3) de_PM_orders_4 rfl 2 rfl ?_
    refine mv_iload_n (pc := 5) (i := 0) de_PM_orders_5 rfl 0 rfl ?_
    refine mv_icmp_gt (pc := 6) (tgt := 20) de_PM_orders_6 (by decide) hJ (fun hc6 h6 => ?_) (fun hc6 h6 => ?_)
    · refine mv_lload_n (pc := 20) (i := 1) de_PM_orders_20 rfl 1 rfl ?_
      exact mv_lret (pc := 21) rfl de_PM_orders_21 h6
    · refine mv_lload_n (pc := 9) (i := 1) de_PM_orders_9 rfl 1 rfl ?_
      refine mv_iload_n (pc := 10) (i := 3) de_PM_orders_10 rfl 2 rfl ?_
      refine mv_i2l (pc := 11) de_PM_orders_11 ?_
      refine mv_lmul (pc := 12) de_PM_orders_12 ?_
      refine mv_lstore_n (pc := 13) (i := 1) (lv' := [(1, .long (v1 * v3.toInt64)), (0, .int v0), (3, .int v3)]) de_PM_orders_13 rfl (Nat.le_of_ble_eq_true rfl) rfl ?_
      refine mv_iinc (pc := 14) (v := (v3 + 1)) (lv' := [(3, .int (v3 + 1)), (1, .long (v1 * v3.toInt64)), (0, .int v0)]) de_PM_orders_14 2 rfl rfl (Nat.le_of_ble_eq_true rfl) rfl ?_
      refine mv_goto (pc := 17) (tgt := 4) de_PM_orders_17 (by decide) ?_
      exact mv_sub [2, 1, 0] rfl (ih M v0 (v1 * v3.toInt64) (v3 + 1) h6)
set_option maxHeartbeats 4000000 in
set_option maxRecDepth 100000 in
theorem tb_PM_orders_0 (l : Launch) (D : va_G) (E : Nat → ClassId) (B : Nat) (sa : (Nat → Nat) × Nat × (Nat → Int32)) (M0 M1 : mv_M) (r : Int64) (N : Nat) (M : mv_M) (v0 : Int32) (hJ : jb_PM_orders_0 N M v0 = some (r, M1)) : mv_G (xg l D E B sa) kd_PM_orders M0 M1 (some (.long r)) M 0 [(0, .int v0)] [] := by
  unfold jb_PM_orders_0 at hJ
  refine mv_lconst (pc := 0) (v := 1) de_PM_orders_0 (by decide) ?_
  refine mv_lstore_n (pc := 1) (i := 1) (lv' := [(1, .long 1), (0, .int v0)]) de_PM_orders_1 rfl (Nat.le_of_ble_eq_true rfl) rfl ?_
  refine mv_iconst (pc := 2) (v := 2) de_PM_orders_2 (by decide) ?_
  refine mv_istore_n (pc := 3) (i := 3) (lv' := [(3, .int 2), (1, .long 1), (0, .int v0)]) de_PM_orders_3 rfl (Nat.le_of_ble_eq_true rfl) rfl ?_
  exact mv_sub [2, 1, 0] rfl (tb_PM_orders_4 l D E B sa M0 M1 r N N M v0 1 2 hJ)
theorem cm_PM_orders (l : Launch) (D : va_G) (E : Nat → ClassId) (B : Nat) (sa : (Nat → Nat) × Nat × (Nat → Int32)) (N : Nat) (M : mv_M) (v0 : Int32) (r : Int64) (M1 : mv_M) (hJ : jf_PM_orders N M v0 = some (r, M1)) : mv_Met (xg l D E B sa) yn_PM_orders cd_PM_orders 4 (some .long) 0 0 [.int v0] M (some (.long r)) M1 :=
  mv_enter (by decide) (Nat.le_of_ble_eq_true rfl) (mv_sub (lv := [(0, .int v0)]) [0] rfl (tb_PM_orders_0 l D E B sa M M1 r N M v0 hJ))
/-! ===== PlainLearnerModel.share(II)J ===== -/
abbrev kd_PM_share : mv_Kd := (cd_PM_share, 8, "PlainLearnerModel", "share", (some .long), 1, 30)
theorem de_PM_share_0 : decode cd_PM_share 0 = .ok (.iload_n 1, 1) := by decide +kernel
theorem de_PM_share_1 : decode cd_PM_share 1 = .ok (.i2l, 1) := by decide +kernel
theorem de_PM_share_2 : decode cd_PM_share 2 = .ok (.lconst 0, 1) := by decide +kernel
theorem de_PM_share_3 : decode cd_PM_share 3 = .ok (.aload_n 0, 1) := by decide +kernel
theorem de_PM_share_4 : decode cd_PM_share 4 = .ok (.getfield 263, 3) := by decide +kernel
theorem de_PM_share_7 : decode cd_PM_share 7 = .ok (.iconst 1, 1) := by decide +kernel
theorem de_PM_share_8 : decode cd_PM_share 8 = .ok (.isub, 1) := by decide +kernel
theorem de_PM_share_9 : decode cd_PM_share 9 = .ok (.i2l, 1) := by decide +kernel
theorem de_PM_share_10 : decode cd_PM_share 10 = .ok (.invokestatic 99, 3) := by decide +kernel
theorem de_PM_share_13 : decode cd_PM_share 13 = .ok (.ifCond .eq 13, 3) := by decide +kernel
theorem de_PM_share_16 : decode cd_PM_share 16 = .ok (.iload_n 2, 1) := by decide +kernel
theorem de_PM_share_17 : decode cd_PM_share 17 = .ok (.i2l, 1) := by decide +kernel
theorem de_PM_share_18 : decode cd_PM_share 18 = .ok (.lconst 0, 1) := by decide +kernel
theorem de_PM_share_19 : decode cd_PM_share 19 = .ok (.lconst 1, 1) := by decide +kernel
theorem de_PM_share_20 : decode cd_PM_share 20 = .ok (.invokestatic 99, 3) := by decide +kernel
theorem de_PM_share_23 : decode cd_PM_share 23 = .ok (.ifCond .ne 7, 3) := by decide +kernel
theorem de_PM_share_26 : decode cd_PM_share 26 = .ok (.ldc2_w 183, 3) := by decide +kernel
theorem de_PM_share_29 : decode cd_PM_share 29 = .ok (.lreturn, 1) := by decide +kernel
theorem de_PM_share_30 : decode cd_PM_share 30 = .ok (.lconst 0, 1) := by decide +kernel
theorem de_PM_share_31 : decode cd_PM_share 31 = .ok (.lstore_n 3, 1) := by decide +kernel
theorem de_PM_share_32 : decode cd_PM_share 32 = .ok (.iconst 0, 1) := by decide +kernel
theorem de_PM_share_33 : decode cd_PM_share 33 = .ok (.istore 5, 2) := by decide +kernel
theorem de_PM_share_35 : decode cd_PM_share 35 = .ok (.iload 5, 2) := by decide +kernel
theorem de_PM_share_37 : decode cd_PM_share 37 = .ok (.iconst 1, 1) := by decide +kernel
theorem de_PM_share_38 : decode cd_PM_share 38 = .ok (.aload_n 0, 1) := by decide +kernel
theorem de_PM_share_39 : decode cd_PM_share 39 = .ok (.getfield 263, 3) := by decide +kernel
theorem de_PM_share_42 : decode cd_PM_share 42 = .ok (.ishl, 1) := by decide +kernel
theorem de_PM_share_43 : decode cd_PM_share 43 = .ok (.if_icmp .ge 97, 3) := by decide +kernel
theorem de_PM_share_46 : decode cd_PM_share 46 = .ok (.iload 5, 2) := by decide +kernel
theorem de_PM_share_48 : decode cd_PM_share 48 = .ok (.iload_n 1, 1) := by decide +kernel
theorem de_PM_share_49 : decode cd_PM_share 49 = .ok (.ishr, 1) := by decide +kernel
theorem de_PM_share_50 : decode cd_PM_share 50 = .ok (.iconst 1, 1) := by decide +kernel
theorem de_PM_share_51 : decode cd_PM_share 51 = .ok (.iand, 1) := by decide +kernel
theorem de_PM_share_52 : decode cd_PM_share 52 = .ok (.iconst 1, 1) := by decide +kernel
theorem de_PM_share_53 : decode cd_PM_share 53 = .ok (.if_icmp .ne 6, 3) := by decide +kernel
theorem de_PM_share_56 : decode cd_PM_share 56 = .ok (.goto 78, 3) := by decide +kernel
theorem de_PM_share_59 : decode cd_PM_share 59 = .ok (.iconst 0, 1) := by decide +kernel
theorem de_PM_share_60 : decode cd_PM_share 60 = .ok (.istore 6, 2) := by decide +kernel
theorem de_PM_share_62 : decode cd_PM_share 62 = .ok (.iconst 0, 1) := by decide +kernel
theorem de_PM_share_63 : decode cd_PM_share 63 = .ok (.istore 7, 2) := by decide +kernel
theorem de_PM_share_65 : decode cd_PM_share 65 = .ok (.iload 7, 2) := by decide +kernel
theorem de_PM_share_67 : decode cd_PM_share 67 = .ok (.aload_n 0, 1) := by decide +kernel
theorem de_PM_share_68 : decode cd_PM_share 68 = .ok (.getfield 263, 3) := by decide +kernel
theorem de_PM_share_71 : decode cd_PM_share 71 = .ok (.if_icmp .ge 21, 3) := by decide +kernel
theorem de_PM_share_74 : decode cd_PM_share 74 = .ok (.iload 6, 2) := by decide +kernel
theorem de_PM_share_76 : decode cd_PM_share 76 = .ok (.iload 5, 2) := by decide +kernel
theorem de_PM_share_78 : decode cd_PM_share 78 = .ok (.iload 7, 2) := by decide +kernel
theorem de_PM_share_80 : decode cd_PM_share 80 = .ok (.ishr, 1) := by decide +kernel
theorem de_PM_share_81 : decode cd_PM_share 81 = .ok (.iconst 1, 1) := by decide +kernel
theorem de_PM_share_82 : decode cd_PM_share 82 = .ok (.iand, 1) := by decide +kernel
theorem de_PM_share_83 : decode cd_PM_share 83 = .ok (.iadd, 1) := by decide +kernel
theorem de_PM_share_84 : decode cd_PM_share 84 = .ok (.istore 6, 2) := by decide +kernel
theorem de_PM_share_86 : decode cd_PM_share 86 = .ok (.iinc 7 1, 3) := by decide +kernel
theorem de_PM_share_89 : decode cd_PM_share 89 = .ok (.goto (-24), 3) := by decide +kernel
theorem de_PM_share_92 : decode cd_PM_share 92 = .ok (.lload_n 3, 1) := by decide +kernel
theorem de_PM_share_93 : decode cd_PM_share 93 = .ok (.iload 6, 2) := by decide +kernel
theorem de_PM_share_95 : decode cd_PM_share 95 = .ok (.invokestatic 270, 3) := by decide +kernel
theorem de_PM_share_98 : decode cd_PM_share 98 = .ok (.aload_n 0, 1) := by decide +kernel
theorem de_PM_share_99 : decode cd_PM_share 99 = .ok (.getfield 263, 3) := by decide +kernel
theorem de_PM_share_102 : decode cd_PM_share 102 = .ok (.iload 6, 2) := by decide +kernel
theorem de_PM_share_104 : decode cd_PM_share 104 = .ok (.isub, 1) := by decide +kernel
theorem de_PM_share_105 : decode cd_PM_share 105 = .ok (.iconst 1, 1) := by decide +kernel
theorem de_PM_share_106 : decode cd_PM_share 106 = .ok (.isub, 1) := by decide +kernel
theorem de_PM_share_107 : decode cd_PM_share 107 = .ok (.invokestatic 270, 3) := by decide +kernel
theorem de_PM_share_110 : decode cd_PM_share 110 = .ok (.lmul, 1) := by decide +kernel
theorem de_PM_share_111 : decode cd_PM_share 111 = .ok (.aload_n 0, 1) := by decide +kernel
theorem de_PM_share_112 : decode cd_PM_share 112 = .ok (.getfield 51, 3) := by decide +kernel
theorem de_PM_share_115 : decode cd_PM_share 115 = .ok (.iload 5, 2) := by decide +kernel
theorem de_PM_share_117 : decode cd_PM_share 117 = .ok (.iconst 1, 1) := by decide +kernel
theorem de_PM_share_118 : decode cd_PM_share 118 = .ok (.iload_n 1, 1) := by decide +kernel
theorem de_PM_share_119 : decode cd_PM_share 119 = .ok (.ishl, 1) := by decide +kernel
theorem de_PM_share_120 : decode cd_PM_share 120 = .ok (.ior, 1) := by decide +kernel
theorem de_PM_share_121 : decode cd_PM_share 121 = .ok (.iaload, 1) := by decide +kernel
theorem de_PM_share_122 : decode cd_PM_share 122 = .ok (.aload_n 0, 1) := by decide +kernel
theorem de_PM_share_123 : decode cd_PM_share 123 = .ok (.getfield 51, 3) := by decide +kernel
theorem de_PM_share_126 : decode cd_PM_share 126 = .ok (.iload 5, 2) := by decide +kernel
theorem de_PM_share_128 : decode cd_PM_share 128 = .ok (.iaload, 1) := by decide +kernel
theorem de_PM_share_129 : decode cd_PM_share 129 = .ok (.isub, 1) := by decide +kernel
theorem de_PM_share_130 : decode cd_PM_share 130 = .ok (.i2l, 1) := by decide +kernel
theorem de_PM_share_131 : decode cd_PM_share 131 = .ok (.lmul, 1) := by decide +kernel
theorem de_PM_share_132 : decode cd_PM_share 132 = .ok (.ladd, 1) := by decide +kernel
theorem de_PM_share_133 : decode cd_PM_share 133 = .ok (.lstore_n 3, 1) := by decide +kernel
theorem de_PM_share_134 : decode cd_PM_share 134 = .ok (.iinc 5 1, 3) := by decide +kernel
theorem de_PM_share_137 : decode cd_PM_share 137 = .ok (.goto (-102), 3) := by decide +kernel
theorem de_PM_share_140 : decode cd_PM_share 140 = .ok (.aload_n 0, 1) := by decide +kernel
theorem de_PM_share_141 : decode cd_PM_share 141 = .ok (.lload_n 3, 1) := by decide +kernel
theorem de_PM_share_142 : decode cd_PM_share 142 = .ok (.aload_n 0, 1) := by decide +kernel
theorem de_PM_share_143 : decode cd_PM_share 143 = .ok (.getfield 263, 3) := by decide +kernel
theorem de_PM_share_146 : decode cd_PM_share 146 = .ok (.invokestatic 270, 3) := by decide +kernel
theorem de_PM_share_149 : decode cd_PM_share 149 = .ok (.invokevirtual 91, 3) := by decide +kernel
theorem de_PM_share_152 : decode cd_PM_share 152 = .ok (.aload_n 0, 1) := by decide +kernel
theorem de_PM_share_153 : decode cd_PM_share 153 = .ok (.iload_n 2, 1) := by decide +kernel
theorem de_PM_share_154 : decode cd_PM_share 154 = .ok (.invokevirtual 188, 3) := by decide +kernel
theorem de_PM_share_157 : decode cd_PM_share 157 = .ok (.lreturn, 1) := by decide +kernel
def jb_PM_share_26 (N : Nat) (M : mv_M) : Option (Int64 × mv_M) :=
  some ((-1099511627776), M)
def jb_PM_share_134 (N : Nat) (k35 : mv_M → Nat → Int32 → Int32 → Int64 → Int32 → Option (Int64 × mv_M)) (M : mv_M) (v0 : Nat) (v1 : Int32) (v2 : Int32) (v3 : Int64) (v5 : Int32) : Option (Int64 × mv_M) :=
  k35 M v0 v1 v2 v3 (v5 + 1)
def jb_PM_share_65 (N : Nat) (k35 : mv_M → Nat → Int32 → Int32 → Int64 → Int32 → Option (Int64 × mv_M)) : Nat → mv_M → Nat → Int32 → Int32 → Int64 → Int32 → Int32 → Int32 → Option (Int64 × mv_M)
  | 0, _, _, _, _, _, _, _, _ => none
  | n + 1, M, v0, v1, v2, v3, v5, v6, v7 =>
    Option.bind (mj_getI M v0 1 26) fun x68 =>
    if x68 ≤ v7 then (mj_call (jf_PM_orders N M v6) fun r95 Mm95 =>
    Option.bind (mj_getI Mm95 v0 1 26) fun x99 =>
    mj_call (jf_PM_orders N Mm95 ((x99 - v6) - 1)) fun r107 Mm107 =>
    Option.bind (mj_getR Mm107 v0 1 27) fun x112 =>
    Option.bind x112 fun a121 =>
    Option.bind (mj_ild Mm107 a121 0 (v5 ||| ((1 : Int32) <<< (v1 &&& 31)))) fun x121 =>
    Option.bind (mj_getR Mm107 v0 1 27) fun x123 =>
    Option.bind x123 fun a128 =>
    Option.bind (mj_ild Mm107 a128 0 v5) fun x128 =>
    jb_PM_share_134 N k35 Mm107 v0 v1 v2 (v3 + ((r95 * r107) * (x121 - x128).toInt64)) v5) else
    jb_PM_share_65 N k35 n M v0 v1 v2 v3 v5 (v6 + ((v5 >>> (v7 &&& 31)) &&& 1)) (v7 + 1)
def jb_PM_share_35 (N : Nat) : Nat → mv_M → Nat → Int32 → Int32 → Int64 → Int32 → Option (Int64 × mv_M)
  | 0, _, _, _, _, _, _ => none
  | n + 1, M, v0, v1, v2, v3, v5 =>
    Option.bind (mj_getI M v0 1 26) fun x39 =>
    if ((1 : Int32) <<< (x39 &&& 31)) ≤ v5 then (Option.bind (mj_getI M v0 1 26) fun x143 =>
    mj_call (jf_PM_orders N M x143) fun r146 Mm146 =>
    mj_ob Mm146 v0 1 <|
    mj_call (jf_PM_least N Mm146 v0 v3 r146) fun r149 Mm149 =>
    mj_ob Mm149 v0 1 <|
    mj_call (jf_PM_told N Mm149 v0 v2) fun r154 Mm154 =>
    some (r154, Mm154)) else
    if ((v5 >>> (v1 &&& 31)) &&& 1) = 1 then (jb_PM_share_134 N (jb_PM_share_35 N n) M v0 v1 v2 v3 v5) else
    jb_PM_share_65 N (jb_PM_share_35 N n) N M v0 v1 v2 v3 v5 0 0
def jb_PM_share_0 (N : Nat) (M : mv_M) (v0 : Nat) (v1 : Int32) (v2 : Int32) : Option (Int64 × mv_M) :=
  Option.bind (mj_getI M v0 1 26) fun x4 =>
  mj_call (jf_PM_isIn N M v1.toInt64 0 ((x4 - 1).toInt64)) fun r10 Mm10 =>
  if r10 = 0 then (jb_PM_share_26 N Mm10) else
  mj_call (jf_PM_isIn N Mm10 v2.toInt64 0 1) fun r20 Mm20 =>
  if r20 = 0 then (jb_PM_share_26 N Mm20) else
  jb_PM_share_35 N N Mm20 v0 v1 v2 0 0
def jf_PM_share (N : Nat) (M : mv_M) (v0 : Nat) (v1 : Int32) (v2 : Int32) : Option (Int64 × mv_M) := jb_PM_share_0 N M v0 v1 v2
set_option maxHeartbeats 4000000 in
set_option maxRecDepth 100000 in
theorem tb_PM_share_26 (l : Launch) (D : va_G) (E : Nat → ClassId) (B : Nat) (sa : (Nat → Nat) × Nat × (Nat → Int32)) (M0 M1 : mv_M) (r : Int64) (N : Nat) (M : mv_M) (hJ : jb_PM_share_26 N M = some (r, M1)) : mv_G (xg l D E B sa) kd_PM_share M0 M1 (some (.long r)) M 26 [] [] := by
  unfold jb_PM_share_26 at hJ
  refine mv_ldc2 (pc := 26) de_PM_share_26 wt_5_9 ?_
  exact mv_lret (pc := 29) rfl de_PM_share_29 hJ
set_option maxHeartbeats 4000000 in
set_option maxRecDepth 100000 in
theorem tb_PM_share_134 (l : Launch) (D : va_G) (E : Nat → ClassId) (B : Nat) (sa : (Nat → Nat) × Nat × (Nat → Int32)) (M0 M1 : mv_M) (r : Int64) (N : Nat) (k35 : mv_M → Nat → Int32 → Int32 → Int64 → Int32 → Option (Int64 × mv_M)) (hk35 : ∀ (M : mv_M) (v0 : Nat) (v1 : Int32) (v2 : Int32) (v3 : Int64) (v5 : Int32), k35 M v0 v1 v2 v3 v5 = some (r, M1) → mv_G (xg l D E B sa) kd_PM_share M0 M1 (some (.long r)) M 35 [(0, va_rf (some v0)), (1, .int v1), (2, .int v2), (3, .long v3), (5, .int v5)] []) (M : mv_M) (v0 : Nat) (v1 : Int32) (v2 : Int32) (v3 : Int64) (v5 : Int32) (hJ : jb_PM_share_134 N k35 M v0 v1 v2 v3 v5 = some (r, M1)) : mv_G (xg l D E B sa) kd_PM_share M0 M1 (some (.long r)) M 134 [(0, va_rf (some v0)), (1, .int v1), (2, .int v2), (3, .long v3), (5, .int v5)] [] := by
  unfold jb_PM_share_134 at hJ
  refine mv_iinc (pc := 134) (v := (v5 + 1)) (lv' := [(5, .int (v5 + 1)), (0, va_rf (some v0)), (1, .int v1), (2, .int v2), (3, .long v3)]) de_PM_share_134 4 rfl rfl (Nat.le_of_ble_eq_true rfl) rfl ?_
  refine mv_goto (pc := 137) (tgt := 35) de_PM_share_137 (by decide) ?_
  exact mv_sub [1, 2, 3, 4, 0] rfl (hk35 M v0 v1 v2 v3 (v5 + 1) hJ)
set_option maxHeartbeats 4000000 in
set_option maxRecDepth 100000 in
theorem tb_PM_share_65 (l : Launch) (D : va_G) (E : Nat → ClassId) (B : Nat) (sa : (Nat → Nat) × Nat × (Nat → Int32)) (M0 M1 : mv_M) (r : Int64) (N : Nat) (k35 : mv_M → Nat → Int32 → Int32 → Int64 → Int32 → Option (Int64 × mv_M)) (hk35 : ∀ (M : mv_M) (v0 : Nat) (v1 : Int32) (v2 : Int32) (v3 : Int64) (v5 : Int32), k35 M v0 v1 v2 v3 v5 = some (r, M1) → mv_G (xg l D E B sa) kd_PM_share M0 M1 (some (.long r)) M 35 [(0, va_rf (some v0)), (1, .int v1), (2, .int v2), (3, .long v3), (5, .int v5)] []) : ∀ (n : Nat) (M : mv_M) (v0 : Nat) (v1 : Int32) (v2 : Int32) (v3 : Int64) (v5 : Int32) (v6 : Int32) (v7 : Int32) (hJ : jb_PM_share_65 N k35 n M v0 v1 v2 v3 v5 v6 v7 = some (r, M1)), mv_G (xg l D E B sa) kd_PM_share M0 M1 (some (.long r)) M 65 [(0, va_rf (some v0)), (1, .int v1), (2, .int v2), (3, .long v3), (5, .int v5), (6, .int v6), (7, .int v7)] [] := by
  intro n
  induction n with
  | zero => intro M v0 v1 v2 v3 v5 v6 v7 hJ; cases hJ
  | succ n ih =>
    intro M v0 v1 v2 v3 v5 v6 v7 hJ
    rw [jb_PM_share_65] at hJ
    refine mv_iload (pc := 65) de_PM_share_65 6 rfl ?_
    refine mv_aload_n (pc := 67) (i := 0) de_PM_share_67 rfl 0 rfl ?_
    refine mv_getI (pc := 68) (f := 26) (kc_1 l D E B sa) (Nat.le_of_ble_eq_true rfl) wt_4_106 de_PM_share_68 hJ (fun x68 e68 h68 => ?_)
    refine mv_icmp_ge (pc := 71) (tgt := 92) de_PM_share_71 (by decide) h68 (fun hc71 h71 => ?_) (fun hc71 h71 => ?_)
    · refine mv_lload_n (pc := 92) (i := 3) de_PM_share_92 rfl 3 rfl ?_
      refine mv_iload (pc := 93) de_PM_share_93 5 rfl ?_
      obtain ⟨r95, Mm95, hz95, h95⟩ := mj_callE h71
      refine mv_callS (pc := 95) (n := 1) (av := [.int v6]) (rest := [.long v3]) de_PM_share_95 (cm_PM_orders l D E B sa N M v6 _ _ hz95) wt_5_169 wt_5_170 wt_1_8 wt_5_171 ⟨by decide, by decide, by decide +kernel⟩ rfl ⟨Nat.le_of_ble_eq_true rfl, Nat.le_of_ble_eq_true rfl⟩ (Nat.le_of_ble_eq_true rfl) rfl ?_
      refine mv_aload_n (pc := 98) (i := 0) de_PM_share_98 rfl 0 rfl ?_
      refine mv_getI (pc := 99) (f := 26) (kc_1 l D E B sa) (Nat.le_of_ble_eq_true rfl) wt_4_106 de_PM_share_99 h95 (fun x99 e99 h99 => ?_)
      refine mv_iload (pc := 102) de_PM_share_102 5 rfl ?_
      refine mv_isub (pc := 104) de_PM_share_104 ?_
      refine mv_iconst (pc := 105) (v := 1) de_PM_share_105 (by decide) ?_
      refine mv_isub (pc := 106) de_PM_share_106 ?_
      obtain ⟨r107, Mm107, hz107, h107⟩ := mj_callE h99
      refine mv_callS (pc := 107) (n := 1) (av := [.int ((x99 - v6) - 1)]) (rest := [.long r95, .long v3]) de_PM_share_107 (cm_PM_orders l D E B sa N Mm95 ((x99 - v6) - 1) _ _ hz107) wt_5_169 wt_5_170 wt_1_8 wt_5_171 ⟨by decide, by decide, by decide +kernel⟩ rfl ⟨Nat.le_of_ble_eq_true rfl, Nat.le_of_ble_eq_true rfl⟩ (Nat.le_of_ble_eq_true rfl) rfl ?_
      refine mv_lmul (pc := 110) de_PM_share_110 ?_
      refine mv_aload_n (pc := 111) (i := 0) de_PM_share_111 rfl 0 rfl ?_
      refine mv_getR (pc := 112) (f := 27) (kc_1 l D E B sa) (Nat.le_of_ble_eq_true rfl) wt_4_107 de_PM_share_112 h107 (fun x112 e112 h112 => ?_)
      refine mv_iload (pc := 115) de_PM_share_115 4 rfl ?_
      refine mv_iconst (pc := 117) (v := 1) de_PM_share_117 (by decide) ?_
      refine mv_iload_n (pc := 118) (i := 1) de_PM_share_118 rfl 1 rfl ?_
      refine mv_ishl (pc := 119) de_PM_share_119 ?_
      refine mv_ior (pc := 120) de_PM_share_120 ?_
      obtain ⟨a121, ha, h121a⟩ := mj_bindE h112
      subst ha
      refine mv_iald (pc := 121) (t := 0) rfl de_PM_share_121 h121a (fun x121 e121 h121 => ?_)
      refine mv_aload_n (pc := 122) (i := 0) de_PM_share_122 rfl 0 rfl ?_
      refine mv_getR (pc := 123) (f := 27) (kc_1 l D E B sa) (Nat.le_of_ble_eq_true rfl) wt_4_107 de_PM_share_123 h121 (fun x123 e123 h123 => ?_)
      refine mv_iload (pc := 126) de_PM_share_126 4 rfl ?_
      obtain ⟨a128, ha, h128a⟩ := mj_bindE h123
      subst ha
      refine mv_iald (pc := 128) (t := 0) rfl de_PM_share_128 h128a (fun x128 e128 h128 => ?_)
      refine mv_isub (pc := 129) de_PM_share_129 ?_
      refine mv_i2l (pc := 130) de_PM_share_130 ?_
      refine mv_lmul (pc := 131) de_PM_share_131 ?_
      refine mv_ladd (pc := 132) de_PM_share_132 ?_
      refine mv_lstore_n (pc := 133) (i := 3) (lv' := [(3, .long (v3 + ((r95 * r107) * (x121 - x128).toInt64))), (0, va_rf (some v0)), (1, .int v1), (2, .int v2), (5, .int v5), (6, .int v6), (7, .int v7)]) de_PM_share_133 rfl (Nat.le_of_ble_eq_true rfl) rfl ?_
      exact mv_sub [1, 2, 3, 0, 4] rfl (tb_PM_share_134 l D E B sa M0 M1 r N k35 hk35 Mm107 v0 v1 v2 (v3 + ((r95 * r107) * (x121 - x128).toInt64)) v5 h128)
    · refine mv_iload (pc := 74) de_PM_share_74 5 rfl ?_
      refine mv_iload (pc := 76) de_PM_share_76 4 rfl ?_
      refine mv_iload (pc := 78) de_PM_share_78 6 rfl ?_
      refine mv_ishr (pc := 80) de_PM_share_80 ?_
      refine mv_iconst (pc := 81) (v := 1) de_PM_share_81 (by decide) ?_
      refine mv_iand (pc := 82) de_PM_share_82 ?_
      refine mv_iadd (pc := 83) de_PM_share_83 ?_
      refine mv_istore (pc := 84) (lv' := [(6, .int (v6 + ((v5 >>> (v7 &&& 31)) &&& 1))), (0, va_rf (some v0)), (1, .int v1), (2, .int v2), (3, .long v3), (5, .int v5), (7, .int v7)]) de_PM_share_84 (Nat.le_of_ble_eq_true rfl) rfl ?_
      refine mv_iinc (pc := 86) (v := (v7 + 1)) (lv' := [(7, .int (v7 + 1)), (6, .int (v6 + ((v5 >>> (v7 &&& 31)) &&& 1))), (0, va_rf (some v0)), (1, .int v1), (2, .int v2), (3, .long v3), (5, .int v5)]) de_PM_share_86 6 rfl rfl (Nat.le_of_ble_eq_true rfl) rfl ?_
      refine mv_goto (pc := 89) (tgt := 65) de_PM_share_89 (by decide) ?_
      exact mv_sub [2, 3, 4, 5, 6, 1, 0] rfl (ih M v0 v1 v2 v3 v5 (v6 + ((v5 >>> (v7 &&& 31)) &&& 1)) (v7 + 1) h71)
set_option maxHeartbeats 4000000 in
set_option maxRecDepth 100000 in
theorem tb_PM_share_35 (l : Launch) (D : va_G) (E : Nat → ClassId) (B : Nat) (sa : (Nat → Nat) × Nat × (Nat → Int32)) (M0 M1 : mv_M) (r : Int64) (N : Nat) : ∀ (n : Nat) (M : mv_M) (v0 : Nat) (v1 : Int32) (v2 : Int32) (v3 : Int64) (v5 : Int32) (hJ : jb_PM_share_35 N n M v0 v1 v2 v3 v5 = some (r, M1)), mv_G (xg l D E B sa) kd_PM_share M0 M1 (some (.long r)) M 35 [(0, va_rf (some v0)), (1, .int v1), (2, .int v2), (3, .long v3), (5, .int v5)] [] := by
  intro n
  induction n with
  | zero => intro M v0 v1 v2 v3 v5 hJ; cases hJ
  | succ n ih =>
    intro M v0 v1 v2 v3 v5 hJ
    rw [jb_PM_share_35] at hJ
    refine mv_iload (pc := 35) de_PM_share_35 4 rfl ?_
    refine mv_iconst (pc := 37) (v := 1) de_PM_share_37 (by decide) ?_
    refine mv_aload_n (pc := 38) (i := 0) de_PM_share_38 rfl 0 rfl ?_
    refine mv_getI (pc := 39) (f := 26) (kc_1 l D E B sa) (Nat.le_of_ble_eq_true rfl) wt_4_106 de_PM_share_39 hJ (fun x39 e39 h39 => ?_)
    refine mv_ishl (pc := 42) de_PM_share_42 ?_
    refine mv_icmp_ge (pc := 43) (tgt := 140) de_PM_share_43 (by decide) h39 (fun hc43 h43 => ?_) (fun hc43 h43 => ?_)
    · refine mv_aload_n (pc := 140) (i := 0) de_PM_share_140 rfl 0 rfl ?_
      refine mv_lload_n (pc := 141) (i := 3) de_PM_share_141 rfl 3 rfl ?_
      refine mv_aload_n (pc := 142) (i := 0) de_PM_share_142 rfl 0 rfl ?_
      refine mv_getI (pc := 143) (f := 26) (kc_1 l D E B sa) (Nat.le_of_ble_eq_true rfl) wt_4_106 de_PM_share_143 h43 (fun x143 e143 h143 => ?_)
      obtain ⟨r146, Mm146, hz146, h146⟩ := mj_callE h143
      refine mv_callS (pc := 146) (n := 1) (av := [.int x143]) (rest := [.long v3, va_rf (some v0)]) de_PM_share_146 (cm_PM_orders l D E B sa N M x143 _ _ hz146) wt_5_169 wt_5_170 wt_1_8 wt_5_171 ⟨by decide, by decide, by decide +kernel⟩ rfl ⟨Nat.le_of_ble_eq_true rfl, Nat.le_of_ble_eq_true rfl⟩ (Nat.le_of_ble_eq_true rfl) rfl ?_
      obtain ⟨hi149, h149o⟩ := mj_obE h146
      obtain ⟨r149, Mm149, hz149, h149⟩ := mj_callE h149o
      refine mv_callV (pc := 149) (n := 2) (av := [.long v3, .long r146]) (rest := []) de_PM_share_149 (kc_1 l D E B sa) hi149 (cm_PM_least l D E B sa N Mm146 v0 v3 r146 _ _ hz149) wt_4_217 wt_4_219 wp_29 wt_1_8 wt_4_220 ⟨by decide, by decide, by decide +kernel⟩ rfl ⟨Nat.le_of_ble_eq_true rfl, Nat.le_of_ble_eq_true rfl⟩ (Nat.le_of_ble_eq_true rfl) rfl ?_
      refine mv_aload_n (pc := 152) (i := 0) de_PM_share_152 rfl 0 rfl ?_
      refine mv_iload_n (pc := 153) (i := 2) de_PM_share_153 rfl 2 rfl ?_
      obtain ⟨hi154, h154o⟩ := mj_obE h149
      obtain ⟨r154, Mm154, hz154, h154⟩ := mj_callE h154o
      refine mv_callV (pc := 154) (n := 1) (av := [.int v2]) (rest := []) de_PM_share_154 (kc_1 l D E B sa) hi154 (cm_PM_told l D E B sa N Mm149 v0 v2 _ _ hz154) wt_5_65 wt_5_67 wp_46 wt_1_8 wt_5_68 ⟨by decide, by decide, by decide +kernel⟩ rfl ⟨Nat.le_of_ble_eq_true rfl, Nat.le_of_ble_eq_true rfl⟩ (Nat.le_of_ble_eq_true rfl) rfl ?_
      exact mv_lret (pc := 157) rfl de_PM_share_157 h154
    · refine mv_iload (pc := 46) de_PM_share_46 4 rfl ?_
      refine mv_iload_n (pc := 48) (i := 1) de_PM_share_48 rfl 1 rfl ?_
      refine mv_ishr (pc := 49) de_PM_share_49 ?_
      refine mv_iconst (pc := 50) (v := 1) de_PM_share_50 (by decide) ?_
      refine mv_iand (pc := 51) de_PM_share_51 ?_
      refine mv_iconst (pc := 52) (v := 1) de_PM_share_52 (by decide) ?_
      refine mv_icmp_ne (pc := 53) (tgt := 59) de_PM_share_53 (by decide) h43 (fun hc53 h53 => ?_) (fun hc53 h53 => ?_)
      · refine mv_goto (pc := 56) (tgt := 134) de_PM_share_56 (by decide) ?_
        exact mv_sub [0, 1, 2, 3, 4] rfl (tb_PM_share_134 l D E B sa M0 M1 r N (jb_PM_share_35 N n) ih M v0 v1 v2 v3 v5 h53)
      · refine mv_iconst (pc := 59) (v := 0) de_PM_share_59 (by decide) ?_
        refine mv_istore (pc := 60) (lv' := [(6, .int 0), (0, va_rf (some v0)), (1, .int v1), (2, .int v2), (3, .long v3), (5, .int v5)]) de_PM_share_60 (Nat.le_of_ble_eq_true rfl) rfl ?_
        refine mv_iconst (pc := 62) (v := 0) de_PM_share_62 (by decide) ?_
        refine mv_istore (pc := 63) (lv' := [(7, .int 0), (6, .int 0), (0, va_rf (some v0)), (1, .int v1), (2, .int v2), (3, .long v3), (5, .int v5)]) de_PM_share_63 (Nat.le_of_ble_eq_true rfl) rfl ?_
        exact mv_sub [2, 3, 4, 5, 6, 1, 0] rfl (tb_PM_share_65 l D E B sa M0 M1 r N (jb_PM_share_35 N n) ih N M v0 v1 v2 v3 v5 0 0 h53)
set_option maxHeartbeats 4000000 in
set_option maxRecDepth 100000 in
theorem tb_PM_share_0 (l : Launch) (D : va_G) (E : Nat → ClassId) (B : Nat) (sa : (Nat → Nat) × Nat × (Nat → Int32)) (M0 M1 : mv_M) (r : Int64) (N : Nat) (M : mv_M) (v0 : Nat) (v1 : Int32) (v2 : Int32) (hJ : jb_PM_share_0 N M v0 v1 v2 = some (r, M1)) : mv_G (xg l D E B sa) kd_PM_share M0 M1 (some (.long r)) M 0 [(0, va_rf (some v0)), (1, .int v1), (2, .int v2)] [] := by
  unfold jb_PM_share_0 at hJ
  refine mv_iload_n (pc := 0) (i := 1) de_PM_share_0 rfl 1 rfl ?_
  refine mv_i2l (pc := 1) de_PM_share_1 ?_
  refine mv_lconst (pc := 2) (v := 0) de_PM_share_2 (by decide) ?_
  refine mv_aload_n (pc := 3) (i := 0) de_PM_share_3 rfl 0 rfl ?_
  refine mv_getI (pc := 4) (f := 26) (kc_1 l D E B sa) (Nat.le_of_ble_eq_true rfl) wt_4_106 de_PM_share_4 hJ (fun x4 e4 h4 => ?_)
  refine mv_iconst (pc := 7) (v := 1) de_PM_share_7 (by decide) ?_
  refine mv_isub (pc := 8) de_PM_share_8 ?_
  refine mv_i2l (pc := 9) de_PM_share_9 ?_
  obtain ⟨r10, Mm10, hz10, h10⟩ := mj_callE h4
  refine mv_callS (pc := 10) (n := 3) (av := [.long v1.toInt64, .long 0, .long (x4 - 1).toInt64]) (rest := []) de_PM_share_10 (cm_PM_isIn l D E B sa N M v1.toInt64 0 ((x4 - 1).toInt64) _ _ hz10) wt_4_197 wt_4_198 wt_1_8 wt_4_199 ⟨by decide, by decide, by decide +kernel⟩ rfl ⟨Nat.le_of_ble_eq_true rfl, Nat.le_of_ble_eq_true rfl⟩ (Nat.le_of_ble_eq_true rfl) rfl ?_
  refine mv_if_eq (pc := 13) (tgt := 26) de_PM_share_13 (by decide) h10 (fun hc13 h13 => ?_) (fun hc13 h13 => ?_)
  · exact mv_sub [] rfl (tb_PM_share_26 l D E B sa M0 M1 r N Mm10 h13)
  · refine mv_iload_n (pc := 16) (i := 2) de_PM_share_16 rfl 2 rfl ?_
    refine mv_i2l (pc := 17) de_PM_share_17 ?_
    refine mv_lconst (pc := 18) (v := 0) de_PM_share_18 (by decide) ?_
    refine mv_lconst (pc := 19) (v := 1) de_PM_share_19 (by decide) ?_
    obtain ⟨r20, Mm20, hz20, h20⟩ := mj_callE h13
    refine mv_callS (pc := 20) (n := 3) (av := [.long v2.toInt64, .long 0, .long 1]) (rest := []) de_PM_share_20 (cm_PM_isIn l D E B sa N Mm10 v2.toInt64 0 1 _ _ hz20) wt_4_197 wt_4_198 wt_1_8 wt_4_199 ⟨by decide, by decide, by decide +kernel⟩ rfl ⟨Nat.le_of_ble_eq_true rfl, Nat.le_of_ble_eq_true rfl⟩ (Nat.le_of_ble_eq_true rfl) rfl ?_
    refine mv_if_ne (pc := 23) (tgt := 30) de_PM_share_23 (by decide) h20 (fun hc23 h23 => ?_) (fun hc23 h23 => ?_)
    · exact mv_sub [] rfl (tb_PM_share_26 l D E B sa M0 M1 r N Mm20 h23)
    · refine mv_lconst (pc := 30) (v := 0) de_PM_share_30 (by decide) ?_
      refine mv_lstore_n (pc := 31) (i := 3) (lv' := [(3, .long 0), (0, va_rf (some v0)), (1, .int v1), (2, .int v2)]) de_PM_share_31 rfl (Nat.le_of_ble_eq_true rfl) rfl ?_
      refine mv_iconst (pc := 32) (v := 0) de_PM_share_32 (by decide) ?_
      refine mv_istore (pc := 33) (lv' := [(5, .int 0), (3, .long 0), (0, va_rf (some v0)), (1, .int v1), (2, .int v2)]) de_PM_share_33 (Nat.le_of_ble_eq_true rfl) rfl ?_
      exact mv_sub [2, 3, 4, 1, 0] rfl (tb_PM_share_35 l D E B sa M0 M1 r N N Mm20 v0 v1 v2 0 0 h23)
theorem cm_PM_share (l : Launch) (D : va_G) (E : Nat → ClassId) (B : Nat) (sa : (Nat → Nat) × Nat × (Nat → Int32)) (N : Nat) (M : mv_M) (v0 : Nat) (v1 : Int32) (v2 : Int32) (r : Int64) (M1 : mv_M) (hJ : jf_PM_share N M v0 v1 v2 = some (r, M1)) : mv_Met (xg l D E B sa) yn_PM_share cd_PM_share 8 (some .long) 1 30 [va_rf (some v0), .int v1, .int v2] M (some (.long r)) M1 :=
  mv_enter (by decide) (Nat.le_of_ble_eq_true rfl) (mv_sub (lv := [(0, va_rf (some v0)), (1, .int v1), (2, .int v2)]) [0, 1, 2] rfl (tb_PM_share_0 l D E B sa M M1 r N M v0 v1 v2 hJ))
/-! ===== PlainLearnerModel.pair(IZ)I ===== -/
abbrev kd_PM_pair : mv_Kd := (cd_PM_pair, 3, "PlainLearnerModel", "pair", (some .int), 0, 0)
theorem de_PM_pair_0 : decode cd_PM_pair 0 = .ok (.aload_n 0, 1) := by decide +kernel
theorem de_PM_pair_1 : decode cd_PM_pair 1 = .ok (.getfield 273, 3) := by decide +kernel
theorem de_PM_pair_4 : decode cd_PM_pair 4 = .ok (.bipush 40, 2) := by decide +kernel
theorem de_PM_pair_6 : decode cd_PM_pair 6 = .ok (.if_icmp .ne 6, 3) := by decide +kernel
theorem de_PM_pair_9 : decode cd_PM_pair 9 = .ok (.bipush (-3), 2) := by decide +kernel
theorem de_PM_pair_11 : decode cd_PM_pair 11 = .ok (.ireturn, 1) := by decide +kernel
theorem de_PM_pair_12 : decode cd_PM_pair 12 = .ok (.aload_n 0, 1) := by decide +kernel
theorem de_PM_pair_13 : decode cd_PM_pair 13 = .ok (.getfield 54, 3) := by decide +kernel
theorem de_PM_pair_16 : decode cd_PM_pair 16 = .ok (.aload_n 0, 1) := by decide +kernel
theorem de_PM_pair_17 : decode cd_PM_pair 17 = .ok (.getfield 273, 3) := by decide +kernel
theorem de_PM_pair_20 : decode cd_PM_pair 20 = .ok (.iload_n 1, 1) := by decide +kernel
theorem de_PM_pair_21 : decode cd_PM_pair 21 = .ok (.iastore, 1) := by decide +kernel
theorem de_PM_pair_22 : decode cd_PM_pair 22 = .ok (.aload_n 0, 1) := by decide +kernel
theorem de_PM_pair_23 : decode cd_PM_pair 23 = .ok (.getfield 57, 3) := by decide +kernel
theorem de_PM_pair_26 : decode cd_PM_pair 26 = .ok (.aload_n 0, 1) := by decide +kernel
theorem de_PM_pair_27 : decode cd_PM_pair 27 = .ok (.getfield 273, 3) := by decide +kernel
theorem de_PM_pair_30 : decode cd_PM_pair 30 = .ok (.iload_n 2, 1) := by decide +kernel
theorem de_PM_pair_31 : decode cd_PM_pair 31 = .ok (.bastore, 1) := by decide +kernel
theorem de_PM_pair_32 : decode cd_PM_pair 32 = .ok (.aload_n 0, 1) := by decide +kernel
theorem de_PM_pair_33 : decode cd_PM_pair 33 = .ok (.dup, 1) := by decide +kernel
theorem de_PM_pair_34 : decode cd_PM_pair 34 = .ok (.getfield 273, 3) := by decide +kernel
theorem de_PM_pair_37 : decode cd_PM_pair 37 = .ok (.iconst 1, 1) := by decide +kernel
theorem de_PM_pair_38 : decode cd_PM_pair 38 = .ok (.iadd, 1) := by decide +kernel
theorem de_PM_pair_39 : decode cd_PM_pair 39 = .ok (.dup_x1, 1) := by decide +kernel
theorem de_PM_pair_40 : decode cd_PM_pair 40 = .ok (.putfield 273, 3) := by decide +kernel
theorem de_PM_pair_43 : decode cd_PM_pair 43 = .ok (.ireturn, 1) := by decide +kernel
def jb_PM_pair_0 (N : Nat) (M : mv_M) (v0 : Nat) (v1 : Int32) (v2 : Int32) : Option (Int32 × mv_M) :=
  Option.bind (mj_getI M v0 1 28) fun x1 =>
  if x1 = 40 then (some ((-3), M)) else
  Option.bind (mj_getR M v0 1 29) fun x13 =>
  Option.bind (mj_getI M v0 1 28) fun x17 =>
  Option.bind x13 fun a21 =>
  Option.bind (mj_ist M a21 0 x17 v1) fun Mm21 =>
  Option.bind (mj_getR Mm21 v0 1 30) fun x23 =>
  Option.bind (mj_getI Mm21 v0 1 28) fun x27 =>
  Option.bind x23 fun a31 =>
  Option.bind (mj_ist Mm21 a31 2 x27 (vp_nar .boolean v2)) fun Mm31 =>
  Option.bind (mj_getI Mm31 v0 1 28) fun x34 =>
  Option.bind (mj_put Mm31 v0 1 28 (.int (x34 + 1))) fun Mm40 =>
  some ((x34 + 1), Mm40)
def jf_PM_pair (N : Nat) (M : mv_M) (v0 : Nat) (v1 : Int32) (v2 : Int32) : Option (Int32 × mv_M) := jb_PM_pair_0 N M v0 v1 v2
set_option maxHeartbeats 4000000 in
set_option maxRecDepth 100000 in
theorem tb_PM_pair_0 (l : Launch) (D : va_G) (E : Nat → ClassId) (B : Nat) (sa : (Nat → Nat) × Nat × (Nat → Int32)) (M0 M1 : mv_M) (r : Int32) (N : Nat) (M : mv_M) (v0 : Nat) (v1 : Int32) (v2 : Int32) (hJ : jb_PM_pair_0 N M v0 v1 v2 = some (r, M1)) : mv_G (xg l D E B sa) kd_PM_pair M0 M1 (some (.int r)) M 0 [(0, va_rf (some v0)), (1, .int v1), (2, .int v2)] [] := by
  unfold jb_PM_pair_0 at hJ
  refine mv_aload_n (pc := 0) (i := 0) de_PM_pair_0 rfl 0 rfl ?_
  refine mv_getI (pc := 1) (f := 28) (kc_1 l D E B sa) (Nat.le_of_ble_eq_true rfl) wt_4_108 de_PM_pair_1 hJ (fun x1 e1 h1 => ?_)
  refine mv_bipush (pc := 4) (v := 40) de_PM_pair_4 (by decide) ?_
  refine mv_icmp_ne (pc := 6) (tgt := 12) de_PM_pair_6 (by decide) h1 (fun hc6 h6 => ?_) (fun hc6 h6 => ?_)
  · refine mv_bipush (pc := 9) (v := (-3)) de_PM_pair_9 (by decide) ?_
    exact mv_iret (pc := 11) rfl de_PM_pair_11 h6
  · refine mv_aload_n (pc := 12) (i := 0) de_PM_pair_12 rfl 0 rfl ?_
    refine mv_getR (pc := 13) (f := 29) (kc_1 l D E B sa) (Nat.le_of_ble_eq_true rfl) wt_4_109 de_PM_pair_13 h6 (fun x13 e13 h13 => ?_)
    refine mv_aload_n (pc := 16) (i := 0) de_PM_pair_16 rfl 0 rfl ?_
    refine mv_getI (pc := 17) (f := 28) (kc_1 l D E B sa) (Nat.le_of_ble_eq_true rfl) wt_4_108 de_PM_pair_17 h13 (fun x17 e17 h17 => ?_)
    refine mv_iload_n (pc := 20) (i := 1) de_PM_pair_20 rfl 1 rfl ?_
    obtain ⟨a21, ha, h21a⟩ := mj_bindE h17
    subst ha
    refine mv_iast (pc := 21) (t := 0) rfl de_PM_pair_21 h21a (fun Mm21 e21 h21 => ?_)
    refine mv_aload_n (pc := 22) (i := 0) de_PM_pair_22 rfl 0 rfl ?_
    refine mv_getR (pc := 23) (f := 30) (kc_1 l D E B sa) (Nat.le_of_ble_eq_true rfl) wt_4_110 de_PM_pair_23 h21 (fun x23 e23 h23 => ?_)
    refine mv_aload_n (pc := 26) (i := 0) de_PM_pair_26 rfl 0 rfl ?_
    refine mv_getI (pc := 27) (f := 28) (kc_1 l D E B sa) (Nat.le_of_ble_eq_true rfl) wt_4_108 de_PM_pair_27 h23 (fun x27 e27 h27 => ?_)
    refine mv_iload_n (pc := 30) (i := 2) de_PM_pair_30 rfl 2 rfl ?_
    obtain ⟨a31, ha, h31a⟩ := mj_bindE h27
    subst ha
    refine mv_zast (pc := 31) (t := 2) rfl de_PM_pair_31 h31a (fun Mm31 e31 h31 => ?_)
    refine mv_aload_n (pc := 32) (i := 0) de_PM_pair_32 rfl 0 rfl ?_
    refine mv_dup (pc := 33) de_PM_pair_33 rfl ?_
    refine mv_getI (pc := 34) (f := 28) (kc_1 l D E B sa) (Nat.le_of_ble_eq_true rfl) wt_4_108 de_PM_pair_34 h31 (fun x34 e34 h34 => ?_)
    refine mv_iconst (pc := 37) (v := 1) de_PM_pair_37 (by decide) ?_
    refine mv_iadd (pc := 38) de_PM_pair_38 ?_
    refine mv_dup_x1 (pc := 39) de_PM_pair_39 rfl rfl ?_
    refine mv_put (pc := 40) (f := 28) (kc_1 l D E B sa) (Nat.le_of_ble_eq_true rfl) wt_4_108 rfl rfl rfl de_PM_pair_40 h34 (fun Mm40 e40 h40 => ?_)
    exact mv_iret (pc := 43) rfl de_PM_pair_43 h40
theorem cm_PM_pair (l : Launch) (D : va_G) (E : Nat → ClassId) (B : Nat) (sa : (Nat → Nat) × Nat × (Nat → Int32)) (N : Nat) (M : mv_M) (v0 : Nat) (v1 : Int32) (v2 : Int32) (r : Int32) (M1 : mv_M) (hJ : jf_PM_pair N M v0 v1 v2 = some (r, M1)) : mv_Met (xg l D E B sa) yn_PM_pair cd_PM_pair 3 (some .int) 0 0 [va_rf (some v0), .int v1, .int v2] M (some (.int r)) M1 :=
  mv_enter (by decide) (Nat.le_of_ble_eq_true rfl) (mv_sub (lv := [(0, va_rf (some v0)), (1, .int v1), (2, .int v2)]) [0, 1, 2] rfl (tb_PM_pair_0 l D E B sa M M1 r N M v0 v1 v2 hJ))
/-! ===== PlainLearnerModel.yes()I ===== -/
abbrev kd_PM_yes : mv_Kd := (cd_PM_yes, 3, "PlainLearnerModel", "yes", (some .int), 0, 0)
theorem de_PM_yes_0 : decode cd_PM_yes 0 = .ok (.iconst 0, 1) := by decide +kernel
theorem de_PM_yes_1 : decode cd_PM_yes 1 = .ok (.istore_n 1, 1) := by decide +kernel
theorem de_PM_yes_2 : decode cd_PM_yes 2 = .ok (.iconst 0, 1) := by decide +kernel
theorem de_PM_yes_3 : decode cd_PM_yes 3 = .ok (.istore_n 2, 1) := by decide +kernel
theorem de_PM_yes_4 : decode cd_PM_yes 4 = .ok (.iload_n 2, 1) := by decide +kernel
theorem de_PM_yes_5 : decode cd_PM_yes 5 = .ok (.aload_n 0, 1) := by decide +kernel
theorem de_PM_yes_6 : decode cd_PM_yes 6 = .ok (.getfield 273, 3) := by decide +kernel
theorem de_PM_yes_9 : decode cd_PM_yes 9 = .ok (.if_icmp .ge 26, 3) := by decide +kernel
theorem de_PM_yes_12 : decode cd_PM_yes 12 = .ok (.iload_n 1, 1) := by decide +kernel
theorem de_PM_yes_13 : decode cd_PM_yes 13 = .ok (.aload_n 0, 1) := by decide +kernel
theorem de_PM_yes_14 : decode cd_PM_yes 14 = .ok (.getfield 57, 3) := by decide +kernel
theorem de_PM_yes_17 : decode cd_PM_yes 17 = .ok (.iload_n 2, 1) := by decide +kernel
theorem de_PM_yes_18 : decode cd_PM_yes 18 = .ok (.baload, 1) := by decide +kernel
theorem de_PM_yes_19 : decode cd_PM_yes 19 = .ok (.ifCond .eq 7, 3) := by decide +kernel
theorem de_PM_yes_22 : decode cd_PM_yes 22 = .ok (.iconst 1, 1) := by decide +kernel
theorem de_PM_yes_23 : decode cd_PM_yes 23 = .ok (.goto 4, 3) := by decide +kernel
theorem de_PM_yes_26 : decode cd_PM_yes 26 = .ok (.iconst 0, 1) := by decide +kernel
theorem de_PM_yes_27 : decode cd_PM_yes 27 = .ok (.iadd, 1) := by decide +kernel
theorem de_PM_yes_28 : decode cd_PM_yes 28 = .ok (.istore_n 1, 1) := by decide +kernel
theorem de_PM_yes_29 : decode cd_PM_yes 29 = .ok (.iinc 2 1, 3) := by decide +kernel
theorem de_PM_yes_32 : decode cd_PM_yes 32 = .ok (.goto (-28), 3) := by decide +kernel
theorem de_PM_yes_35 : decode cd_PM_yes 35 = .ok (.iload_n 1, 1) := by decide +kernel
theorem de_PM_yes_36 : decode cd_PM_yes 36 = .ok (.ireturn, 1) := by decide +kernel
def jb_PM_yes_27 (N : Nat) (k4 : mv_M → Nat → Int32 → Int32 → Option (Int32 × mv_M)) (M : mv_M) (v0 : Nat) (v2 : Int32) (s0 : Int32) (s1 : Int32) : Option (Int32 × mv_M) :=
  k4 M v0 (s0 + s1) (v2 + 1)
def jb_PM_yes_4 (N : Nat) : Nat → mv_M → Nat → Int32 → Int32 → Option (Int32 × mv_M)
  | 0, _, _, _, _ => none
  | n + 1, M, v0, v1, v2 =>
    Option.bind (mj_getI M v0 1 28) fun x6 =>
    if x6 ≤ v2 then (some (v1, M)) else
    Option.bind (mj_getR M v0 1 30) fun x14 =>
    Option.bind x14 fun a18 =>
    Option.bind (mj_ild M a18 2 v2) fun x18 =>
    if x18 = 0 then (jb_PM_yes_27 N (jb_PM_yes_4 N n) M v0 v2 v1 0) else
    jb_PM_yes_27 N (jb_PM_yes_4 N n) M v0 v2 v1 1
def jb_PM_yes_0 (N : Nat) (M : mv_M) (v0 : Nat) : Option (Int32 × mv_M) :=
  jb_PM_yes_4 N N M v0 0 0
def jf_PM_yes (N : Nat) (M : mv_M) (v0 : Nat) : Option (Int32 × mv_M) := jb_PM_yes_0 N M v0
set_option maxHeartbeats 4000000 in
set_option maxRecDepth 100000 in
theorem tb_PM_yes_27 (l : Launch) (D : va_G) (E : Nat → ClassId) (B : Nat) (sa : (Nat → Nat) × Nat × (Nat → Int32)) (M0 M1 : mv_M) (r : Int32) (N : Nat) (k4 : mv_M → Nat → Int32 → Int32 → Option (Int32 × mv_M)) (hk4 : ∀ (M : mv_M) (v0 : Nat) (v1 : Int32) (v2 : Int32), k4 M v0 v1 v2 = some (r, M1) → mv_G (xg l D E B sa) kd_PM_yes M0 M1 (some (.int r)) M 4 [(0, va_rf (some v0)), (1, .int v1), (2, .int v2)] []) (M : mv_M) (v0 : Nat) (v2 : Int32) (s0 : Int32) (s1 : Int32) (hJ : jb_PM_yes_27 N k4 M v0 v2 s0 s1 = some (r, M1)) : mv_G (xg l D E B sa) kd_PM_yes M0 M1 (some (.int r)) M 27 [(0, va_rf (some v0)), (2, .int v2)] [.int s1, .int s0] := by
  unfold jb_PM_yes_27 at hJ
  refine mv_iadd (pc := 27) de_PM_yes_27 ?_
  refine mv_istore_n (pc := 28) (i := 1) (lv' := [(1, .int (s0 + s1)), (0, va_rf (some v0)), (2, .int v2)]) de_PM_yes_28 rfl (Nat.le_of_ble_eq_true rfl) rfl ?_
  refine mv_iinc (pc := 29) (v := (v2 + 1)) (lv' := [(2, .int (v2 + 1)), (1, .int (s0 + s1)), (0, va_rf (some v0))]) de_PM_yes_29 2 rfl rfl (Nat.le_of_ble_eq_true rfl) rfl ?_
  refine mv_goto (pc := 32) (tgt := 4) de_PM_yes_32 (by decide) ?_
  exact mv_sub [2, 1, 0] rfl (hk4 M v0 (s0 + s1) (v2 + 1) hJ)
set_option maxHeartbeats 4000000 in
set_option maxRecDepth 100000 in
theorem tb_PM_yes_4 (l : Launch) (D : va_G) (E : Nat → ClassId) (B : Nat) (sa : (Nat → Nat) × Nat × (Nat → Int32)) (M0 M1 : mv_M) (r : Int32) (N : Nat) : ∀ (n : Nat) (M : mv_M) (v0 : Nat) (v1 : Int32) (v2 : Int32) (hJ : jb_PM_yes_4 N n M v0 v1 v2 = some (r, M1)), mv_G (xg l D E B sa) kd_PM_yes M0 M1 (some (.int r)) M 4 [(0, va_rf (some v0)), (1, .int v1), (2, .int v2)] [] := by
  intro n
  induction n with
  | zero => intro M v0 v1 v2 hJ; cases hJ
  | succ n ih =>
    intro M v0 v1 v2 hJ
    rw [jb_PM_yes_4] at hJ
    refine mv_iload_n (pc := 4) (i := 2) de_PM_yes_4 rfl 2 rfl ?_
    refine mv_aload_n (pc := 5) (i := 0) de_PM_yes_5 rfl 0 rfl ?_
    refine mv_getI (pc := 6) (f := 28) (kc_1 l D E B sa) (Nat.le_of_ble_eq_true rfl) wt_4_108 de_PM_yes_6 hJ (fun x6 e6 h6 => ?_)
    refine mv_icmp_ge (pc := 9) (tgt := 35) de_PM_yes_9 (by decide) h6 (fun hc9 h9 => ?_) (fun hc9 h9 => ?_)
    · refine mv_iload_n (pc := 35) (i := 1) de_PM_yes_35 rfl 1 rfl ?_
      exact mv_iret (pc := 36) rfl de_PM_yes_36 h9
    · refine mv_iload_n (pc := 12) (i := 1) de_PM_yes_12 rfl 1 rfl ?_
      refine mv_aload_n (pc := 13) (i := 0) de_PM_yes_13 rfl 0 rfl ?_
      refine mv_getR (pc := 14) (f := 30) (kc_1 l D E B sa) (Nat.le_of_ble_eq_true rfl) wt_4_110 de_PM_yes_14 h9 (fun x14 e14 h14 => ?_)
      refine mv_iload_n (pc := 17) (i := 2) de_PM_yes_17 rfl 2 rfl ?_
      obtain ⟨a18, ha, h18a⟩ := mj_bindE h14
      subst ha
      refine mv_zald (pc := 18) (t := 2) rfl de_PM_yes_18 h18a (fun x18 e18 h18 => ?_)
      refine mv_if_eq (pc := 19) (tgt := 26) de_PM_yes_19 (by decide) h18 (fun hc19 h19 => ?_) (fun hc19 h19 => ?_)
      · refine mv_iconst (pc := 26) (v := 0) de_PM_yes_26 (by decide) ?_
        exact mv_sub [0, 2] rfl (tb_PM_yes_27 l D E B sa M0 M1 r N (jb_PM_yes_4 N n) ih M v0 v2 v1 0 h19)
      · refine mv_iconst (pc := 22) (v := 1) de_PM_yes_22 (by decide) ?_
        refine mv_goto (pc := 23) (tgt := 27) de_PM_yes_23 (by decide) ?_
        exact mv_sub [0, 2] rfl (tb_PM_yes_27 l D E B sa M0 M1 r N (jb_PM_yes_4 N n) ih M v0 v2 v1 1 h19)
set_option maxHeartbeats 4000000 in
set_option maxRecDepth 100000 in
theorem tb_PM_yes_0 (l : Launch) (D : va_G) (E : Nat → ClassId) (B : Nat) (sa : (Nat → Nat) × Nat × (Nat → Int32)) (M0 M1 : mv_M) (r : Int32) (N : Nat) (M : mv_M) (v0 : Nat) (hJ : jb_PM_yes_0 N M v0 = some (r, M1)) : mv_G (xg l D E B sa) kd_PM_yes M0 M1 (some (.int r)) M 0 [(0, va_rf (some v0))] [] := by
  unfold jb_PM_yes_0 at hJ
  refine mv_iconst (pc := 0) (v := 0) de_PM_yes_0 (by decide) ?_
  refine mv_istore_n (pc := 1) (i := 1) (lv' := [(1, .int 0), (0, va_rf (some v0))]) de_PM_yes_1 rfl (Nat.le_of_ble_eq_true rfl) rfl ?_
  refine mv_iconst (pc := 2) (v := 0) de_PM_yes_2 (by decide) ?_
  refine mv_istore_n (pc := 3) (i := 2) (lv' := [(2, .int 0), (1, .int 0), (0, va_rf (some v0))]) de_PM_yes_3 rfl (Nat.le_of_ble_eq_true rfl) rfl ?_
  exact mv_sub [2, 1, 0] rfl (tb_PM_yes_4 l D E B sa M0 M1 r N N M v0 0 0 hJ)
theorem cm_PM_yes (l : Launch) (D : va_G) (E : Nat → ClassId) (B : Nat) (sa : (Nat → Nat) × Nat × (Nat → Int32)) (N : Nat) (M : mv_M) (v0 : Nat) (r : Int32) (M1 : mv_M) (hJ : jf_PM_yes N M v0 = some (r, M1)) : mv_Met (xg l D E B sa) yn_PM_yes cd_PM_yes 3 (some .int) 0 0 [va_rf (some v0)] M (some (.int r)) M1 :=
  mv_enter (by decide) (Nat.le_of_ble_eq_true rfl) (mv_sub (lv := [(0, va_rf (some v0))]) [0] rfl (tb_PM_yes_0 l D E B sa M M1 r N M v0 hJ))
/-! ===== PlainLearnerModel.sides()V ===== -/
abbrev kd_PM_sides : mv_Kd := (cd_PM_sides, 5, "PlainLearnerModel", "sides", none, 1, 30)
theorem de_PM_sides_0 : decode cd_PM_sides 0 = .ok (.lconst 0, 1) := by decide +kernel
theorem de_PM_sides_1 : decode cd_PM_sides 1 = .ok (.lstore_n 1, 1) := by decide +kernel
theorem de_PM_sides_2 : decode cd_PM_sides 2 = .ok (.iconst 0, 1) := by decide +kernel
theorem de_PM_sides_3 : decode cd_PM_sides 3 = .ok (.istore_n 3, 1) := by decide +kernel
theorem de_PM_sides_4 : decode cd_PM_sides 4 = .ok (.iload_n 3, 1) := by decide +kernel
theorem de_PM_sides_5 : decode cd_PM_sides 5 = .ok (.aload_n 0, 1) := by decide +kernel
theorem de_PM_sides_6 : decode cd_PM_sides 6 = .ok (.getfield 273, 3) := by decide +kernel
theorem de_PM_sides_9 : decode cd_PM_sides 9 = .ok (.if_icmp .ge 92, 3) := by decide +kernel
theorem de_PM_sides_12 : decode cd_PM_sides 12 = .ok (.iconst 0, 1) := by decide +kernel
theorem de_PM_sides_13 : decode cd_PM_sides 13 = .ok (.istore 4, 2) := by decide +kernel
theorem de_PM_sides_15 : decode cd_PM_sides 15 = .ok (.iload 4, 2) := by decide +kernel
theorem de_PM_sides_17 : decode cd_PM_sides 17 = .ok (.aload_n 0, 1) := by decide +kernel
theorem de_PM_sides_18 : decode cd_PM_sides 18 = .ok (.getfield 273, 3) := by decide +kernel
theorem de_PM_sides_21 : decode cd_PM_sides 21 = .ok (.if_icmp .ge 74, 3) := by decide +kernel
theorem de_PM_sides_24 : decode cd_PM_sides 24 = .ok (.aload_n 0, 1) := by decide +kernel
theorem de_PM_sides_25 : decode cd_PM_sides 25 = .ok (.getfield 57, 3) := by decide +kernel
theorem de_PM_sides_28 : decode cd_PM_sides 28 = .ok (.iload_n 3, 1) := by decide +kernel
theorem de_PM_sides_29 : decode cd_PM_sides 29 = .ok (.baload, 1) := by decide +kernel
theorem de_PM_sides_30 : decode cd_PM_sides 30 = .ok (.ifCond .eq 59, 3) := by decide +kernel
theorem de_PM_sides_33 : decode cd_PM_sides 33 = .ok (.aload_n 0, 1) := by decide +kernel
theorem de_PM_sides_34 : decode cd_PM_sides 34 = .ok (.getfield 57, 3) := by decide +kernel
theorem de_PM_sides_37 : decode cd_PM_sides 37 = .ok (.iload 4, 2) := by decide +kernel
theorem de_PM_sides_39 : decode cd_PM_sides 39 = .ok (.baload, 1) := by decide +kernel
theorem de_PM_sides_40 : decode cd_PM_sides 40 = .ok (.ifCond .ne 49, 3) := by decide +kernel
theorem de_PM_sides_43 : decode cd_PM_sides 43 = .ok (.lload_n 1, 1) := by decide +kernel
theorem de_PM_sides_44 : decode cd_PM_sides 44 = .ok (.aload_n 0, 1) := by decide +kernel
theorem de_PM_sides_45 : decode cd_PM_sides 45 = .ok (.getfield 54, 3) := by decide +kernel
theorem de_PM_sides_48 : decode cd_PM_sides 48 = .ok (.iload_n 3, 1) := by decide +kernel
theorem de_PM_sides_49 : decode cd_PM_sides 49 = .ok (.iaload, 1) := by decide +kernel
theorem de_PM_sides_50 : decode cd_PM_sides 50 = .ok (.aload_n 0, 1) := by decide +kernel
theorem de_PM_sides_51 : decode cd_PM_sides 51 = .ok (.getfield 54, 3) := by decide +kernel
theorem de_PM_sides_54 : decode cd_PM_sides 54 = .ok (.iload 4, 2) := by decide +kernel
theorem de_PM_sides_56 : decode cd_PM_sides 56 = .ok (.iaload, 1) := by decide +kernel
theorem de_PM_sides_57 : decode cd_PM_sides 57 = .ok (.if_icmp .le 9, 3) := by decide +kernel
theorem de_PM_sides_60 : decode cd_PM_sides 60 = .ok (.ldc2_w 223, 3) := by decide +kernel
theorem de_PM_sides_63 : decode cd_PM_sides 63 = .ok (.goto 24, 3) := by decide +kernel
theorem de_PM_sides_66 : decode cd_PM_sides 66 = .ok (.aload_n 0, 1) := by decide +kernel
theorem de_PM_sides_67 : decode cd_PM_sides 67 = .ok (.getfield 54, 3) := by decide +kernel
theorem de_PM_sides_70 : decode cd_PM_sides 70 = .ok (.iload_n 3, 1) := by decide +kernel
theorem de_PM_sides_71 : decode cd_PM_sides 71 = .ok (.iaload, 1) := by decide +kernel
theorem de_PM_sides_72 : decode cd_PM_sides 72 = .ok (.aload_n 0, 1) := by decide +kernel
theorem de_PM_sides_73 : decode cd_PM_sides 73 = .ok (.getfield 54, 3) := by decide +kernel
theorem de_PM_sides_76 : decode cd_PM_sides 76 = .ok (.iload 4, 2) := by decide +kernel
theorem de_PM_sides_78 : decode cd_PM_sides 78 = .ok (.iaload, 1) := by decide +kernel
theorem de_PM_sides_79 : decode cd_PM_sides 79 = .ok (.if_icmp .ne 7, 3) := by decide +kernel
theorem de_PM_sides_82 : decode cd_PM_sides 82 = .ok (.lconst 1, 1) := by decide +kernel
theorem de_PM_sides_83 : decode cd_PM_sides 83 = .ok (.goto 4, 3) := by decide +kernel
theorem de_PM_sides_86 : decode cd_PM_sides 86 = .ok (.lconst 0, 1) := by decide +kernel
theorem de_PM_sides_87 : decode cd_PM_sides 87 = .ok (.ladd, 1) := by decide +kernel
theorem de_PM_sides_88 : decode cd_PM_sides 88 = .ok (.lstore_n 1, 1) := by decide +kernel
theorem de_PM_sides_89 : decode cd_PM_sides 89 = .ok (.iinc 4 1, 3) := by decide +kernel
theorem de_PM_sides_92 : decode cd_PM_sides 92 = .ok (.goto (-77), 3) := by decide +kernel
theorem de_PM_sides_95 : decode cd_PM_sides 95 = .ok (.iinc 3 1, 3) := by decide +kernel
theorem de_PM_sides_98 : decode cd_PM_sides 98 = .ok (.goto (-94), 3) := by decide +kernel
theorem de_PM_sides_101 : decode cd_PM_sides 101 = .ok (.aload_n 0, 1) := by decide +kernel
theorem de_PM_sides_102 : decode cd_PM_sides 102 = .ok (.lload_n 1, 1) := by decide +kernel
theorem de_PM_sides_103 : decode cd_PM_sides 103 = .ok (.ldc2_w 223, 3) := by decide +kernel
theorem de_PM_sides_106 : decode cd_PM_sides 106 = .ok (.aload_n 0, 1) := by decide +kernel
theorem de_PM_sides_107 : decode cd_PM_sides 107 = .ok (.invokevirtual 276, 3) := by decide +kernel
theorem de_PM_sides_110 : decode cd_PM_sides 110 = .ok (.i2l, 1) := by decide +kernel
theorem de_PM_sides_111 : decode cd_PM_sides 111 = .ok (.lmul, 1) := by decide +kernel
theorem de_PM_sides_112 : decode cd_PM_sides 112 = .ok (.aload_n 0, 1) := by decide +kernel
theorem de_PM_sides_113 : decode cd_PM_sides 113 = .ok (.getfield 273, 3) := by decide +kernel
theorem de_PM_sides_116 : decode cd_PM_sides 116 = .ok (.aload_n 0, 1) := by decide +kernel
theorem de_PM_sides_117 : decode cd_PM_sides 117 = .ok (.invokevirtual 276, 3) := by decide +kernel
theorem de_PM_sides_120 : decode cd_PM_sides 120 = .ok (.isub, 1) := by decide +kernel
theorem de_PM_sides_121 : decode cd_PM_sides 121 = .ok (.i2l, 1) := by decide +kernel
theorem de_PM_sides_122 : decode cd_PM_sides 122 = .ok (.lmul, 1) := by decide +kernel
theorem de_PM_sides_123 : decode cd_PM_sides 123 = .ok (.invokevirtual 91, 3) := by decide +kernel
theorem de_PM_sides_126 : decode cd_PM_sides 126 = .ok (.return_, 1) := by decide +kernel
def jb_PM_sides_89 (N : Nat) (k4 : mv_M → Nat → Int64 → Int32 → Option (Unit × mv_M)) (k15 : mv_M → Nat → Int64 → Int32 → Int32 → Option (Unit × mv_M)) (M : mv_M) (v0 : Nat) (v1 : Int64) (v3 : Int32) (v4 : Int32) : Option (Unit × mv_M) :=
  k15 M v0 v1 v3 (v4 + 1)
def jb_PM_sides_87 (N : Nat) (k4 : mv_M → Nat → Int64 → Int32 → Option (Unit × mv_M)) (k15 : mv_M → Nat → Int64 → Int32 → Int32 → Option (Unit × mv_M)) (M : mv_M) (v0 : Nat) (v3 : Int32) (v4 : Int32) (s0 : Int64) (s1 : Int64) : Option (Unit × mv_M) :=
  jb_PM_sides_89 N k4 k15 M v0 (s0 + s1) v3 v4
def jb_PM_sides_15 (N : Nat) (k4 : mv_M → Nat → Int64 → Int32 → Option (Unit × mv_M)) : Nat → mv_M → Nat → Int64 → Int32 → Int32 → Option (Unit × mv_M)
  | 0, _, _, _, _, _ => none
  | n + 1, M, v0, v1, v3, v4 =>
    Option.bind (mj_getI M v0 1 28) fun x18 =>
    if x18 ≤ v4 then (k4 M v0 v1 (v3 + 1)) else
    Option.bind (mj_getR M v0 1 30) fun x25 =>
    Option.bind x25 fun a29 =>
    Option.bind (mj_ild M a29 2 v3) fun x29 =>
    if x29 = 0 then (jb_PM_sides_89 N k4 (jb_PM_sides_15 N k4 n) M v0 v1 v3 v4) else
    Option.bind (mj_getR M v0 1 30) fun x34 =>
    Option.bind x34 fun a39 =>
    Option.bind (mj_ild M a39 2 v4) fun x39 =>
    if x39 = 0 then (Option.bind (mj_getR M v0 1 29) fun x45 =>
    Option.bind x45 fun a49 =>
    Option.bind (mj_ild M a49 0 v3) fun x49 =>
    Option.bind (mj_getR M v0 1 29) fun x51 =>
    Option.bind x51 fun a56 =>
    Option.bind (mj_ild M a56 0 v4) fun x56 =>
    if x49 ≤ x56 then (Option.bind (mj_getR M v0 1 29) fun x67 =>
    Option.bind x67 fun a71 =>
    Option.bind (mj_ild M a71 0 v3) fun x71 =>
    Option.bind (mj_getR M v0 1 29) fun x73 =>
    Option.bind x73 fun a78 =>
    Option.bind (mj_ild M a78 0 v4) fun x78 =>
    if x71 = x78 then (jb_PM_sides_87 N k4 (jb_PM_sides_15 N k4 n) M v0 v3 v4 v1 1) else
    jb_PM_sides_87 N k4 (jb_PM_sides_15 N k4 n) M v0 v3 v4 v1 0) else
    jb_PM_sides_87 N k4 (jb_PM_sides_15 N k4 n) M v0 v3 v4 v1 2) else
    jb_PM_sides_89 N k4 (jb_PM_sides_15 N k4 n) M v0 v1 v3 v4
def jb_PM_sides_4 (N : Nat) : Nat → mv_M → Nat → Int64 → Int32 → Option (Unit × mv_M)
  | 0, _, _, _, _ => none
  | n + 1, M, v0, v1, v3 =>
    Option.bind (mj_getI M v0 1 28) fun x6 =>
    if x6 ≤ v3 then (mj_ob M v0 1 <|
    mj_call (jf_PM_yes N M v0) fun r107 Mm107 =>
    Option.bind (mj_getI Mm107 v0 1 28) fun x113 =>
    mj_ob Mm107 v0 1 <|
    mj_call (jf_PM_yes N Mm107 v0) fun r117 Mm117 =>
    mj_ob Mm117 v0 1 <|
    mj_call (jf_PM_least N Mm117 v0 v1 ((2 * r107.toInt64) * (x113 - r117).toInt64)) fun r123 Mm123 =>
    some ((), Mm123)) else
    jb_PM_sides_15 N (jb_PM_sides_4 N n) N M v0 v1 v3 0
def jb_PM_sides_0 (N : Nat) (M : mv_M) (v0 : Nat) : Option (Unit × mv_M) :=
  jb_PM_sides_4 N N M v0 0 0
def jf_PM_sides (N : Nat) (M : mv_M) (v0 : Nat) : Option (Unit × mv_M) := jb_PM_sides_0 N M v0
set_option maxHeartbeats 4000000 in
set_option maxRecDepth 100000 in
theorem tb_PM_sides_89 (l : Launch) (D : va_G) (E : Nat → ClassId) (B : Nat) (sa : (Nat → Nat) × Nat × (Nat → Int32)) (M0 M1 : mv_M) (r : Unit) (N : Nat) (k4 : mv_M → Nat → Int64 → Int32 → Option (Unit × mv_M)) (k15 : mv_M → Nat → Int64 → Int32 → Int32 → Option (Unit × mv_M)) (hk4 : ∀ (M : mv_M) (v0 : Nat) (v1 : Int64) (v3 : Int32), k4 M v0 v1 v3 = some (r, M1) → mv_G (xg l D E B sa) kd_PM_sides M0 M1 none M 4 [(0, va_rf (some v0)), (1, .long v1), (3, .int v3)] []) (hk15 : ∀ (M : mv_M) (v0 : Nat) (v1 : Int64) (v3 : Int32) (v4 : Int32), k15 M v0 v1 v3 v4 = some (r, M1) → mv_G (xg l D E B sa) kd_PM_sides M0 M1 none M 15 [(0, va_rf (some v0)), (1, .long v1), (3, .int v3), (4, .int v4)] []) (M : mv_M) (v0 : Nat) (v1 : Int64) (v3 : Int32) (v4 : Int32) (hJ : jb_PM_sides_89 N k4 k15 M v0 v1 v3 v4 = some (r, M1)) : mv_G (xg l D E B sa) kd_PM_sides M0 M1 none M 89 [(0, va_rf (some v0)), (1, .long v1), (3, .int v3), (4, .int v4)] [] := by
  unfold jb_PM_sides_89 at hJ
  refine mv_iinc (pc := 89) (v := (v4 + 1)) (lv' := [(4, .int (v4 + 1)), (0, va_rf (some v0)), (1, .long v1), (3, .int v3)]) de_PM_sides_89 3 rfl rfl (Nat.le_of_ble_eq_true rfl) rfl ?_
  refine mv_goto (pc := 92) (tgt := 15) de_PM_sides_92 (by decide) ?_
  exact mv_sub [1, 2, 3, 0] rfl (hk15 M v0 v1 v3 (v4 + 1) hJ)
set_option maxHeartbeats 4000000 in
set_option maxRecDepth 100000 in
theorem tb_PM_sides_87 (l : Launch) (D : va_G) (E : Nat → ClassId) (B : Nat) (sa : (Nat → Nat) × Nat × (Nat → Int32)) (M0 M1 : mv_M) (r : Unit) (N : Nat) (k4 : mv_M → Nat → Int64 → Int32 → Option (Unit × mv_M)) (k15 : mv_M → Nat → Int64 → Int32 → Int32 → Option (Unit × mv_M)) (hk4 : ∀ (M : mv_M) (v0 : Nat) (v1 : Int64) (v3 : Int32), k4 M v0 v1 v3 = some (r, M1) → mv_G (xg l D E B sa) kd_PM_sides M0 M1 none M 4 [(0, va_rf (some v0)), (1, .long v1), (3, .int v3)] []) (hk15 : ∀ (M : mv_M) (v0 : Nat) (v1 : Int64) (v3 : Int32) (v4 : Int32), k15 M v0 v1 v3 v4 = some (r, M1) → mv_G (xg l D E B sa) kd_PM_sides M0 M1 none M 15 [(0, va_rf (some v0)), (1, .long v1), (3, .int v3), (4, .int v4)] []) (M : mv_M) (v0 : Nat) (v3 : Int32) (v4 : Int32) (s0 : Int64) (s1 : Int64) (hJ : jb_PM_sides_87 N k4 k15 M v0 v3 v4 s0 s1 = some (r, M1)) : mv_G (xg l D E B sa) kd_PM_sides M0 M1 none M 87 [(0, va_rf (some v0)), (3, .int v3), (4, .int v4)] [.long s1, .long s0] := by
  unfold jb_PM_sides_87 at hJ
  refine mv_ladd (pc := 87) de_PM_sides_87 ?_
  refine mv_lstore_n (pc := 88) (i := 1) (lv' := [(1, .long (s0 + s1)), (0, va_rf (some v0)), (3, .int v3), (4, .int v4)]) de_PM_sides_88 rfl (Nat.le_of_ble_eq_true rfl) rfl ?_
  exact mv_sub [1, 0, 2, 3] rfl (tb_PM_sides_89 l D E B sa M0 M1 r N k4 k15 hk4 hk15 M v0 (s0 + s1) v3 v4 hJ)
set_option maxHeartbeats 4000000 in
set_option maxRecDepth 100000 in
theorem tb_PM_sides_15 (l : Launch) (D : va_G) (E : Nat → ClassId) (B : Nat) (sa : (Nat → Nat) × Nat × (Nat → Int32)) (M0 M1 : mv_M) (r : Unit) (N : Nat) (k4 : mv_M → Nat → Int64 → Int32 → Option (Unit × mv_M)) (hk4 : ∀ (M : mv_M) (v0 : Nat) (v1 : Int64) (v3 : Int32), k4 M v0 v1 v3 = some (r, M1) → mv_G (xg l D E B sa) kd_PM_sides M0 M1 none M 4 [(0, va_rf (some v0)), (1, .long v1), (3, .int v3)] []) : ∀ (n : Nat) (M : mv_M) (v0 : Nat) (v1 : Int64) (v3 : Int32) (v4 : Int32) (hJ : jb_PM_sides_15 N k4 n M v0 v1 v3 v4 = some (r, M1)), mv_G (xg l D E B sa) kd_PM_sides M0 M1 none M 15 [(0, va_rf (some v0)), (1, .long v1), (3, .int v3), (4, .int v4)] [] := by
  intro n
  induction n with
  | zero => intro M v0 v1 v3 v4 hJ; cases hJ
  | succ n ih =>
    intro M v0 v1 v3 v4 hJ
    rw [jb_PM_sides_15] at hJ
    refine mv_iload (pc := 15) de_PM_sides_15 3 rfl ?_
    refine mv_aload_n (pc := 17) (i := 0) de_PM_sides_17 rfl 0 rfl ?_
    refine mv_getI (pc := 18) (f := 28) (kc_1 l D E B sa) (Nat.le_of_ble_eq_true rfl) wt_4_108 de_PM_sides_18 hJ (fun x18 e18 h18 => ?_)
    refine mv_icmp_ge (pc := 21) (tgt := 95) de_PM_sides_21 (by decide) h18 (fun hc21 h21 => ?_) (fun hc21 h21 => ?_)
    · refine mv_iinc (pc := 95) (v := (v3 + 1)) (lv' := [(3, .int (v3 + 1)), (0, va_rf (some v0)), (1, .long v1), (4, .int v4)]) de_PM_sides_95 2 rfl rfl (Nat.le_of_ble_eq_true rfl) rfl ?_
      refine mv_goto (pc := 98) (tgt := 4) de_PM_sides_98 (by decide) ?_
      exact mv_sub [1, 2, 0] rfl (hk4 M v0 v1 (v3 + 1) h21)
    · refine mv_aload_n (pc := 24) (i := 0) de_PM_sides_24 rfl 0 rfl ?_
      refine mv_getR (pc := 25) (f := 30) (kc_1 l D E B sa) (Nat.le_of_ble_eq_true rfl) wt_4_110 de_PM_sides_25 h21 (fun x25 e25 h25 => ?_)
      refine mv_iload_n (pc := 28) (i := 3) de_PM_sides_28 rfl 2 rfl ?_
      obtain ⟨a29, ha, h29a⟩ := mj_bindE h25
      subst ha
      refine mv_zald (pc := 29) (t := 2) rfl de_PM_sides_29 h29a (fun x29 e29 h29 => ?_)
      refine mv_if_eq (pc := 30) (tgt := 89) de_PM_sides_30 (by decide) h29 (fun hc30 h30 => ?_) (fun hc30 h30 => ?_)
      · exact mv_sub [0, 1, 2, 3] rfl (tb_PM_sides_89 l D E B sa M0 M1 r N k4 (jb_PM_sides_15 N k4 n) hk4 ih M v0 v1 v3 v4 h30)
      · refine mv_aload_n (pc := 33) (i := 0) de_PM_sides_33 rfl 0 rfl ?_
        refine mv_getR (pc := 34) (f := 30) (kc_1 l D E B sa) (Nat.le_of_ble_eq_true rfl) wt_4_110 de_PM_sides_34 h30 (fun x34 e34 h34 => ?_)
        refine mv_iload (pc := 37) de_PM_sides_37 3 rfl ?_
        obtain ⟨a39, ha, h39a⟩ := mj_bindE h34
        subst ha
        refine mv_zald (pc := 39) (t := 2) rfl de_PM_sides_39 h39a (fun x39 e39 h39 => ?_)
        refine mv_if_ne (pc := 40) (tgt := 89) de_PM_sides_40 (by decide) h39 (fun hc40 h40 => ?_) (fun hc40 h40 => ?_)
        · refine mv_lload_n (pc := 43) (i := 1) de_PM_sides_43 rfl 1 rfl ?_
          refine mv_aload_n (pc := 44) (i := 0) de_PM_sides_44 rfl 0 rfl ?_
          refine mv_getR (pc := 45) (f := 29) (kc_1 l D E B sa) (Nat.le_of_ble_eq_true rfl) wt_4_109 de_PM_sides_45 h40 (fun x45 e45 h45 => ?_)
          refine mv_iload_n (pc := 48) (i := 3) de_PM_sides_48 rfl 2 rfl ?_
          obtain ⟨a49, ha, h49a⟩ := mj_bindE h45
          subst ha
          refine mv_iald (pc := 49) (t := 0) rfl de_PM_sides_49 h49a (fun x49 e49 h49 => ?_)
          refine mv_aload_n (pc := 50) (i := 0) de_PM_sides_50 rfl 0 rfl ?_
          refine mv_getR (pc := 51) (f := 29) (kc_1 l D E B sa) (Nat.le_of_ble_eq_true rfl) wt_4_109 de_PM_sides_51 h49 (fun x51 e51 h51 => ?_)
          refine mv_iload (pc := 54) de_PM_sides_54 3 rfl ?_
          obtain ⟨a56, ha, h56a⟩ := mj_bindE h51
          subst ha
          refine mv_iald (pc := 56) (t := 0) rfl de_PM_sides_56 h56a (fun x56 e56 h56 => ?_)
          refine mv_icmp_le (pc := 57) (tgt := 66) de_PM_sides_57 (by decide) h56 (fun hc57 h57 => ?_) (fun hc57 h57 => ?_)
          · refine mv_aload_n (pc := 66) (i := 0) de_PM_sides_66 rfl 0 rfl ?_
            refine mv_getR (pc := 67) (f := 29) (kc_1 l D E B sa) (Nat.le_of_ble_eq_true rfl) wt_4_109 de_PM_sides_67 h57 (fun x67 e67 h67 => ?_)
            refine mv_iload_n (pc := 70) (i := 3) de_PM_sides_70 rfl 2 rfl ?_
            obtain ⟨a71, ha, h71a⟩ := mj_bindE h67
            subst ha
            refine mv_iald (pc := 71) (t := 0) rfl de_PM_sides_71 h71a (fun x71 e71 h71 => ?_)
            refine mv_aload_n (pc := 72) (i := 0) de_PM_sides_72 rfl 0 rfl ?_
            refine mv_getR (pc := 73) (f := 29) (kc_1 l D E B sa) (Nat.le_of_ble_eq_true rfl) wt_4_109 de_PM_sides_73 h71 (fun x73 e73 h73 => ?_)
            refine mv_iload (pc := 76) de_PM_sides_76 3 rfl ?_
            obtain ⟨a78, ha, h78a⟩ := mj_bindE h73
            subst ha
            refine mv_iald (pc := 78) (t := 0) rfl de_PM_sides_78 h78a (fun x78 e78 h78 => ?_)
            refine mv_icmp_ne (pc := 79) (tgt := 86) de_PM_sides_79 (by decide) h78 (fun hc79 h79 => ?_) (fun hc79 h79 => ?_)
            · refine mv_lconst (pc := 82) (v := 1) de_PM_sides_82 (by decide) ?_
              refine mv_goto (pc := 83) (tgt := 87) de_PM_sides_83 (by decide) ?_
              exact mv_sub [0, 2, 3] rfl (tb_PM_sides_87 l D E B sa M0 M1 r N k4 (jb_PM_sides_15 N k4 n) hk4 ih M v0 v3 v4 v1 1 h79)
            · refine mv_lconst (pc := 86) (v := 0) de_PM_sides_86 (by decide) ?_
              exact mv_sub [0, 2, 3] rfl (tb_PM_sides_87 l D E B sa M0 M1 r N k4 (jb_PM_sides_15 N k4 n) hk4 ih M v0 v3 v4 v1 0 h79)
          · refine mv_ldc2 (pc := 60) de_PM_sides_60 wt_5_121 ?_
            refine mv_goto (pc := 63) (tgt := 87) de_PM_sides_63 (by decide) ?_
            exact mv_sub [0, 2, 3] rfl (tb_PM_sides_87 l D E B sa M0 M1 r N k4 (jb_PM_sides_15 N k4 n) hk4 ih M v0 v3 v4 v1 2 h57)
        · exact mv_sub [0, 1, 2, 3] rfl (tb_PM_sides_89 l D E B sa M0 M1 r N k4 (jb_PM_sides_15 N k4 n) hk4 ih M v0 v1 v3 v4 h40)
set_option maxHeartbeats 4000000 in
set_option maxRecDepth 100000 in
theorem tb_PM_sides_4 (l : Launch) (D : va_G) (E : Nat → ClassId) (B : Nat) (sa : (Nat → Nat) × Nat × (Nat → Int32)) (M0 M1 : mv_M) (r : Unit) (N : Nat) : ∀ (n : Nat) (M : mv_M) (v0 : Nat) (v1 : Int64) (v3 : Int32) (hJ : jb_PM_sides_4 N n M v0 v1 v3 = some (r, M1)), mv_G (xg l D E B sa) kd_PM_sides M0 M1 none M 4 [(0, va_rf (some v0)), (1, .long v1), (3, .int v3)] [] := by
  intro n
  induction n with
  | zero => intro M v0 v1 v3 hJ; cases hJ
  | succ n ih =>
    intro M v0 v1 v3 hJ
    rw [jb_PM_sides_4] at hJ
    refine mv_iload_n (pc := 4) (i := 3) de_PM_sides_4 rfl 2 rfl ?_
    refine mv_aload_n (pc := 5) (i := 0) de_PM_sides_5 rfl 0 rfl ?_
    refine mv_getI (pc := 6) (f := 28) (kc_1 l D E B sa) (Nat.le_of_ble_eq_true rfl) wt_4_108 de_PM_sides_6 hJ (fun x6 e6 h6 => ?_)
    refine mv_icmp_ge (pc := 9) (tgt := 101) de_PM_sides_9 (by decide) h6 (fun hc9 h9 => ?_) (fun hc9 h9 => ?_)
    · refine mv_aload_n (pc := 101) (i := 0) de_PM_sides_101 rfl 0 rfl ?_
      refine mv_lload_n (pc := 102) (i := 1) de_PM_sides_102 rfl 1 rfl ?_
      refine mv_ldc2 (pc := 103) de_PM_sides_103 wt_5_121 ?_
      refine mv_aload_n (pc := 106) (i := 0) de_PM_sides_106 rfl 0 rfl ?_
      obtain ⟨hi107, h107o⟩ := mj_obE h9
      obtain ⟨r107, Mm107, hz107, h107⟩ := mj_callE h107o
      refine mv_callV (pc := 107) (n := 0) (av := []) (rest := [.long 2, .long v1, va_rf (some v0)]) de_PM_sides_107 (kc_1 l D E B sa) hi107 (cm_PM_yes l D E B sa N M v0 _ _ hz107) wt_5_184 wt_5_186 wp_57 wt_1_8 wt_5_187 ⟨by decide, by decide, by decide +kernel⟩ rfl ⟨Nat.le_of_ble_eq_true rfl, Nat.le_of_ble_eq_true rfl⟩ (Nat.le_of_ble_eq_true rfl) rfl ?_
      refine mv_i2l (pc := 110) de_PM_sides_110 ?_
      refine mv_lmul (pc := 111) de_PM_sides_111 ?_
      refine mv_aload_n (pc := 112) (i := 0) de_PM_sides_112 rfl 0 rfl ?_
      refine mv_getI (pc := 113) (f := 28) (kc_1 l D E B sa) (Nat.le_of_ble_eq_true rfl) wt_4_108 de_PM_sides_113 h107 (fun x113 e113 h113 => ?_)
      refine mv_aload_n (pc := 116) (i := 0) de_PM_sides_116 rfl 0 rfl ?_
      obtain ⟨hi117, h117o⟩ := mj_obE h113
      obtain ⟨r117, Mm117, hz117, h117⟩ := mj_callE h117o
      refine mv_callV (pc := 117) (n := 0) (av := []) (rest := [.int x113, .long (2 * r107.toInt64), .long v1, va_rf (some v0)]) de_PM_sides_117 (kc_1 l D E B sa) hi117 (cm_PM_yes l D E B sa N Mm107 v0 _ _ hz117) wt_5_184 wt_5_186 wp_57 wt_1_8 wt_5_187 ⟨by decide, by decide, by decide +kernel⟩ rfl ⟨Nat.le_of_ble_eq_true rfl, Nat.le_of_ble_eq_true rfl⟩ (Nat.le_of_ble_eq_true rfl) rfl ?_
      refine mv_isub (pc := 120) de_PM_sides_120 ?_
      refine mv_i2l (pc := 121) de_PM_sides_121 ?_
      refine mv_lmul (pc := 122) de_PM_sides_122 ?_
      obtain ⟨hi123, h123o⟩ := mj_obE h117
      obtain ⟨r123, Mm123, hz123, h123⟩ := mj_callE h123o
      refine mv_callV (pc := 123) (n := 2) (av := [.long v1, .long ((2 * r107.toInt64) * (x113 - r117).toInt64)]) (rest := []) de_PM_sides_123 (kc_1 l D E B sa) hi123 (cm_PM_least l D E B sa N Mm117 v0 v1 ((2 * r107.toInt64) * (x113 - r117).toInt64) _ _ hz123) wt_4_217 wt_4_219 wp_29 wt_1_8 wt_4_220 ⟨by decide, by decide, by decide +kernel⟩ rfl ⟨Nat.le_of_ble_eq_true rfl, Nat.le_of_ble_eq_true rfl⟩ (Nat.le_of_ble_eq_true rfl) rfl ?_
      exact mv_vret (pc := 126) rfl de_PM_sides_126 h123
    · refine mv_iconst (pc := 12) (v := 0) de_PM_sides_12 (by decide) ?_
      refine mv_istore (pc := 13) (lv' := [(4, .int 0), (0, va_rf (some v0)), (1, .long v1), (3, .int v3)]) de_PM_sides_13 (Nat.le_of_ble_eq_true rfl) rfl ?_
      exact mv_sub [1, 2, 3, 0] rfl (tb_PM_sides_15 l D E B sa M0 M1 r N (jb_PM_sides_4 N n) ih N M v0 v1 v3 0 h9)
set_option maxHeartbeats 4000000 in
set_option maxRecDepth 100000 in
theorem tb_PM_sides_0 (l : Launch) (D : va_G) (E : Nat → ClassId) (B : Nat) (sa : (Nat → Nat) × Nat × (Nat → Int32)) (M0 M1 : mv_M) (r : Unit) (N : Nat) (M : mv_M) (v0 : Nat) (hJ : jb_PM_sides_0 N M v0 = some (r, M1)) : mv_G (xg l D E B sa) kd_PM_sides M0 M1 none M 0 [(0, va_rf (some v0))] [] := by
  unfold jb_PM_sides_0 at hJ
  refine mv_lconst (pc := 0) (v := 0) de_PM_sides_0 (by decide) ?_
  refine mv_lstore_n (pc := 1) (i := 1) (lv' := [(1, .long 0), (0, va_rf (some v0))]) de_PM_sides_1 rfl (Nat.le_of_ble_eq_true rfl) rfl ?_
  refine mv_iconst (pc := 2) (v := 0) de_PM_sides_2 (by decide) ?_
  refine mv_istore_n (pc := 3) (i := 3) (lv' := [(3, .int 0), (1, .long 0), (0, va_rf (some v0))]) de_PM_sides_3 rfl (Nat.le_of_ble_eq_true rfl) rfl ?_
  exact mv_sub [2, 1, 0] rfl (tb_PM_sides_4 l D E B sa M0 M1 r N N M v0 0 0 hJ)
theorem cm_PM_sides (l : Launch) (D : va_G) (E : Nat → ClassId) (B : Nat) (sa : (Nat → Nat) × Nat × (Nat → Int32)) (N : Nat) (M : mv_M) (v0 : Nat) (r : Unit) (M1 : mv_M) (hJ : jf_PM_sides N M v0 = some (r, M1)) : mv_Met (xg l D E B sa) yn_PM_sides cd_PM_sides 5 none 1 30 [va_rf (some v0)] M none M1 :=
  mv_enter (by decide) (Nat.le_of_ble_eq_true rfl) (mv_sub (lv := [(0, va_rf (some v0))]) [0] rfl (tb_PM_sides_0 l D E B sa M M1 r N M v0 hJ))
