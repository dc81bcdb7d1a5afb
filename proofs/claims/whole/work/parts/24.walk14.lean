/-! ===== PlainLearnerModel.slopes(II)V ===== -/
abbrev kd_PM_slopes : mv_Kd := (cd_PM_slopes, 6, "PlainLearnerModel", "slopes", none, 5, 145)
theorem de_PM_slopes_0 : decode cd_PM_slopes 0 = .ok (.aload_n 0, 1) := by decide +kernel
theorem de_PM_slopes_1 : decode cd_PM_slopes 1 = .ok (.iload_n 1, 1) := by decide +kernel
theorem de_PM_slopes_2 : decode cd_PM_slopes 2 = .ok (.invokevirtual 185, 3) := by decide +kernel
theorem de_PM_slopes_5 : decode cd_PM_slopes 5 = .ok (.iconst 0, 1) := by decide +kernel
theorem de_PM_slopes_6 : decode cd_PM_slopes 6 = .ok (.istore_n 3, 1) := by decide +kernel
theorem de_PM_slopes_7 : decode cd_PM_slopes 7 = .ok (.iload_n 3, 1) := by decide +kernel
theorem de_PM_slopes_8 : decode cd_PM_slopes 8 = .ok (.bipush 64, 2) := by decide +kernel
theorem de_PM_slopes_10 : decode cd_PM_slopes 10 = .ok (.iload_n 1, 1) := by decide +kernel
theorem de_PM_slopes_11 : decode cd_PM_slopes 11 = .ok (.iconst 1, 1) := by decide +kernel
theorem de_PM_slopes_12 : decode cd_PM_slopes 12 = .ok (.iadd, 1) := by decide +kernel
theorem de_PM_slopes_13 : decode cd_PM_slopes 13 = .ok (.imul, 1) := by decide +kernel
theorem de_PM_slopes_14 : decode cd_PM_slopes 14 = .ok (.if_icmp .ge 23, 3) := by decide +kernel
theorem de_PM_slopes_17 : decode cd_PM_slopes 17 = .ok (.aload_n 0, 1) := by decide +kernel
theorem de_PM_slopes_18 : decode cd_PM_slopes 18 = .ok (.getfield 39, 3) := by decide +kernel
theorem de_PM_slopes_21 : decode cd_PM_slopes 21 = .ok (.iload_n 3, 1) := by decide +kernel
theorem de_PM_slopes_22 : decode cd_PM_slopes 22 = .ok (.lconst 0, 1) := by decide +kernel
theorem de_PM_slopes_23 : decode cd_PM_slopes 23 = .ok (.lastore, 1) := by decide +kernel
theorem de_PM_slopes_24 : decode cd_PM_slopes 24 = .ok (.aload_n 0, 1) := by decide +kernel
theorem de_PM_slopes_25 : decode cd_PM_slopes 25 = .ok (.getfield 42, 3) := by decide +kernel
theorem de_PM_slopes_28 : decode cd_PM_slopes 28 = .ok (.iload_n 3, 1) := by decide +kernel
theorem de_PM_slopes_29 : decode cd_PM_slopes 29 = .ok (.lconst 1, 1) := by decide +kernel
theorem de_PM_slopes_30 : decode cd_PM_slopes 30 = .ok (.lastore, 1) := by decide +kernel
theorem de_PM_slopes_31 : decode cd_PM_slopes 31 = .ok (.iinc 3 1, 3) := by decide +kernel
theorem de_PM_slopes_34 : decode cd_PM_slopes 34 = .ok (.goto (-27), 3) := by decide +kernel
theorem de_PM_slopes_37 : decode cd_PM_slopes 37 = .ok (.iconst 0, 1) := by decide +kernel
theorem de_PM_slopes_38 : decode cd_PM_slopes 38 = .ok (.istore_n 3, 1) := by decide +kernel
theorem de_PM_slopes_39 : decode cd_PM_slopes 39 = .ok (.iload_n 3, 1) := by decide +kernel
theorem de_PM_slopes_40 : decode cd_PM_slopes 40 = .ok (.aload_n 0, 1) := by decide +kernel
theorem de_PM_slopes_41 : decode cd_PM_slopes 41 = .ok (.iload_n 1, 1) := by decide +kernel
theorem de_PM_slopes_42 : decode cd_PM_slopes 42 = .ok (.invokevirtual 114, 3) := by decide +kernel
theorem de_PM_slopes_45 : decode cd_PM_slopes 45 = .ok (.if_icmp .ge 21, 3) := by decide +kernel
theorem de_PM_slopes_48 : decode cd_PM_slopes 48 = .ok (.aload_n 0, 1) := by decide +kernel
theorem de_PM_slopes_49 : decode cd_PM_slopes 49 = .ok (.getfield 39, 3) := by decide +kernel
theorem de_PM_slopes_52 : decode cd_PM_slopes 52 = .ok (.bipush 64, 2) := by decide +kernel
theorem de_PM_slopes_54 : decode cd_PM_slopes 54 = .ok (.iload_n 1, 1) := by decide +kernel
theorem de_PM_slopes_55 : decode cd_PM_slopes 55 = .ok (.imul, 1) := by decide +kernel
theorem de_PM_slopes_56 : decode cd_PM_slopes 56 = .ok (.iload_n 3, 1) := by decide +kernel
theorem de_PM_slopes_57 : decode cd_PM_slopes 57 = .ok (.iadd, 1) := by decide +kernel
theorem de_PM_slopes_58 : decode cd_PM_slopes 58 = .ok (.lconst 1, 1) := by decide +kernel
theorem de_PM_slopes_59 : decode cd_PM_slopes 59 = .ok (.lastore, 1) := by decide +kernel
theorem de_PM_slopes_60 : decode cd_PM_slopes 60 = .ok (.iinc 3 1, 3) := by decide +kernel
theorem de_PM_slopes_63 : decode cd_PM_slopes 63 = .ok (.goto (-24), 3) := by decide +kernel
theorem de_PM_slopes_66 : decode cd_PM_slopes 66 = .ok (.iload_n 1, 1) := by decide +kernel
theorem de_PM_slopes_67 : decode cd_PM_slopes 67 = .ok (.istore_n 3, 1) := by decide +kernel
theorem de_PM_slopes_68 : decode cd_PM_slopes 68 = .ok (.iload_n 3, 1) := by decide +kernel
theorem de_PM_slopes_69 : decode cd_PM_slopes 69 = .ok (.iload_n 2, 1) := by decide +kernel
theorem de_PM_slopes_70 : decode cd_PM_slopes 70 = .ok (.if_icmp .le 103, 3) := by decide +kernel
theorem de_PM_slopes_73 : decode cd_PM_slopes 73 = .ok (.aload_n 0, 1) := by decide +kernel
theorem de_PM_slopes_74 : decode cd_PM_slopes 74 = .ok (.getfield 7, 3) := by decide +kernel
theorem de_PM_slopes_77 : decode cd_PM_slopes 77 = .ok (.iload_n 3, 1) := by decide +kernel
theorem de_PM_slopes_78 : decode cd_PM_slopes 78 = .ok (.iaload, 1) := by decide +kernel
theorem de_PM_slopes_79 : decode cd_PM_slopes 79 = .ok (.bipush (-2), 2) := by decide +kernel
theorem de_PM_slopes_81 : decode cd_PM_slopes 81 = .ok (.if_icmp .ne 6, 3) := by decide +kernel
theorem de_PM_slopes_84 : decode cd_PM_slopes 84 = .ok (.goto 83, 3) := by decide +kernel
theorem de_PM_slopes_87 : decode cd_PM_slopes 87 = .ok (.aload_n 0, 1) := by decide +kernel
theorem de_PM_slopes_88 : decode cd_PM_slopes 88 = .ok (.iload_n 3, 1) := by decide +kernel
theorem de_PM_slopes_89 : decode cd_PM_slopes 89 = .ok (.invokevirtual 114, 3) := by decide +kernel
theorem de_PM_slopes_92 : decode cd_PM_slopes 92 = .ok (.istore 4, 2) := by decide +kernel
theorem de_PM_slopes_94 : decode cd_PM_slopes 94 = .ok (.iconst 0, 1) := by decide +kernel
theorem de_PM_slopes_95 : decode cd_PM_slopes 95 = .ok (.istore 5, 2) := by decide +kernel
theorem de_PM_slopes_97 : decode cd_PM_slopes 97 = .ok (.iload 5, 2) := by decide +kernel
theorem de_PM_slopes_99 : decode cd_PM_slopes 99 = .ok (.iload 4, 2) := by decide +kernel
theorem de_PM_slopes_101 : decode cd_PM_slopes 101 = .ok (.if_icmp .ge 66, 3) := by decide +kernel
theorem de_PM_slopes_104 : decode cd_PM_slopes 104 = .ok (.aload_n 0, 1) := by decide +kernel
theorem de_PM_slopes_105 : decode cd_PM_slopes 105 = .ok (.aload_n 0, 1) := by decide +kernel
theorem de_PM_slopes_106 : decode cd_PM_slopes 106 = .ok (.getfield 39, 3) := by decide +kernel
theorem de_PM_slopes_109 : decode cd_PM_slopes 109 = .ok (.bipush 64, 2) := by decide +kernel
theorem de_PM_slopes_111 : decode cd_PM_slopes 111 = .ok (.iload_n 3, 1) := by decide +kernel
theorem de_PM_slopes_112 : decode cd_PM_slopes 112 = .ok (.imul, 1) := by decide +kernel
theorem de_PM_slopes_113 : decode cd_PM_slopes 113 = .ok (.iload 5, 2) := by decide +kernel
theorem de_PM_slopes_115 : decode cd_PM_slopes 115 = .ok (.iadd, 1) := by decide +kernel
theorem de_PM_slopes_116 : decode cd_PM_slopes 116 = .ok (.laload, 1) := by decide +kernel
theorem de_PM_slopes_117 : decode cd_PM_slopes 117 = .ok (.putfield 192, 3) := by decide +kernel
theorem de_PM_slopes_120 : decode cd_PM_slopes 120 = .ok (.aload_n 0, 1) := by decide +kernel
theorem de_PM_slopes_121 : decode cd_PM_slopes 121 = .ok (.aload_n 0, 1) := by decide +kernel
theorem de_PM_slopes_122 : decode cd_PM_slopes 122 = .ok (.getfield 42, 3) := by decide +kernel
theorem de_PM_slopes_125 : decode cd_PM_slopes 125 = .ok (.bipush 64, 2) := by decide +kernel
theorem de_PM_slopes_127 : decode cd_PM_slopes 127 = .ok (.iload_n 3, 1) := by decide +kernel
theorem de_PM_slopes_128 : decode cd_PM_slopes 128 = .ok (.imul, 1) := by decide +kernel
theorem de_PM_slopes_129 : decode cd_PM_slopes 129 = .ok (.iload 5, 2) := by decide +kernel
theorem de_PM_slopes_131 : decode cd_PM_slopes 131 = .ok (.iadd, 1) := by decide +kernel
theorem de_PM_slopes_132 : decode cd_PM_slopes 132 = .ok (.laload, 1) := by decide +kernel
theorem de_PM_slopes_133 : decode cd_PM_slopes 133 = .ok (.putfield 195, 3) := by decide +kernel
theorem de_PM_slopes_136 : decode cd_PM_slopes 136 = .ok (.aload_n 0, 1) := by decide +kernel
theorem de_PM_slopes_137 : decode cd_PM_slopes 137 = .ok (.getfield 192, 3) := by decide +kernel
theorem de_PM_slopes_140 : decode cd_PM_slopes 140 = .ok (.lconst 0, 1) := by decide +kernel
theorem de_PM_slopes_141 : decode cd_PM_slopes 141 = .ok (.lcmp, 1) := by decide +kernel
theorem de_PM_slopes_142 : decode cd_PM_slopes 142 = .ok (.ifCond .ne 12, 3) := by decide +kernel
theorem de_PM_slopes_145 : decode cd_PM_slopes 145 = .ok (.aload_n 0, 1) := by decide +kernel
theorem de_PM_slopes_146 : decode cd_PM_slopes 146 = .ok (.getfield 195, 3) := by decide +kernel
theorem de_PM_slopes_149 : decode cd_PM_slopes 149 = .ok (.lconst 0, 1) := by decide +kernel
theorem de_PM_slopes_150 : decode cd_PM_slopes 150 = .ok (.lcmp, 1) := by decide +kernel
theorem de_PM_slopes_151 : decode cd_PM_slopes 151 = .ok (.ifCond .ne 10, 3) := by decide +kernel
theorem de_PM_slopes_154 : decode cd_PM_slopes 154 = .ok (.aload_n 0, 1) := by decide +kernel
theorem de_PM_slopes_155 : decode cd_PM_slopes 155 = .ok (.iload_n 3, 1) := by decide +kernel
theorem de_PM_slopes_156 : decode cd_PM_slopes 156 = .ok (.iload 5, 2) := by decide +kernel
theorem de_PM_slopes_158 : decode cd_PM_slopes 158 = .ok (.invokevirtual 198, 3) := by decide +kernel
theorem de_PM_slopes_161 : decode cd_PM_slopes 161 = .ok (.iinc 5 1, 3) := by decide +kernel
theorem de_PM_slopes_164 : decode cd_PM_slopes 164 = .ok (.goto (-67), 3) := by decide +kernel
theorem de_PM_slopes_167 : decode cd_PM_slopes 167 = .ok (.iinc 3 (-1), 3) := by decide +kernel
theorem de_PM_slopes_170 : decode cd_PM_slopes 170 = .ok (.goto (-102), 3) := by decide +kernel
theorem de_PM_slopes_173 : decode cd_PM_slopes 173 = .ok (.return_, 1) := by decide +kernel
def jb_PM_slopes_167 (N : Nat) (k68 : mv_M → Nat → Int32 → Int32 → Option (Unit × mv_M)) (M : mv_M) (v0 : Nat) (v2 : Int32) (v3 : Int32) : Option (Unit × mv_M) :=
  k68 M v0 v2 (v3 + (-1))
def jb_PM_slopes_161 (N : Nat) (k68 : mv_M → Nat → Int32 → Int32 → Option (Unit × mv_M)) (k97 : mv_M → Nat → Int32 → Int32 → Int32 → Int32 → Option (Unit × mv_M)) (M : mv_M) (v0 : Nat) (v2 : Int32) (v3 : Int32) (v4 : Int32) (v5 : Int32) : Option (Unit × mv_M) :=
  k97 M v0 v2 v3 v4 (v5 + 1)
def jb_PM_slopes_154 (N : Nat) (k68 : mv_M → Nat → Int32 → Int32 → Option (Unit × mv_M)) (k97 : mv_M → Nat → Int32 → Int32 → Int32 → Int32 → Option (Unit × mv_M)) (M : mv_M) (v0 : Nat) (v2 : Int32) (v3 : Int32) (v4 : Int32) (v5 : Int32) : Option (Unit × mv_M) :=
  mj_ob M v0 1 <|
  mj_call (jf_PM_give N M v0 v3 v5) fun r158 Mm158 =>
  jb_PM_slopes_161 N k68 k97 Mm158 v0 v2 v3 v4 v5
def jb_PM_slopes_97 (N : Nat) (k68 : mv_M → Nat → Int32 → Int32 → Option (Unit × mv_M)) : Nat → mv_M → Nat → Int32 → Int32 → Int32 → Int32 → Option (Unit × mv_M)
  | 0, _, _, _, _, _, _ => none
  | n + 1, M, v0, v2, v3, v4, v5 =>
    if v4 ≤ v5 then (jb_PM_slopes_167 N k68 M v0 v2 v3) else
    Option.bind (mj_getR M v0 1 13) fun x106 =>
    Option.bind x106 fun a116 =>
    Option.bind (mj_lld M a116 1 ((64 * v3) + v5)) fun x116 =>
    Option.bind (mj_put M v0 1 15 (.long x116)) fun Mm117 =>
    Option.bind (mj_getR Mm117 v0 1 14) fun x122 =>
    Option.bind x122 fun a132 =>
    Option.bind (mj_lld Mm117 a132 1 ((64 * v3) + v5)) fun x132 =>
    Option.bind (mj_put Mm117 v0 1 16 (.long x132)) fun Mm133 =>
    Option.bind (mj_getL Mm133 v0 1 15) fun x137 =>
    if (lg_cmp x137 0) = 0 then (Option.bind (mj_getL Mm133 v0 1 16) fun x146 =>
    if (lg_cmp x146 0) = 0 then (jb_PM_slopes_154 N k68 (jb_PM_slopes_97 N k68 n) Mm133 v0 v2 v3 v4 v5) else
    jb_PM_slopes_161 N k68 (jb_PM_slopes_97 N k68 n) Mm133 v0 v2 v3 v4 v5) else
    jb_PM_slopes_154 N k68 (jb_PM_slopes_97 N k68 n) Mm133 v0 v2 v3 v4 v5
def jb_PM_slopes_68 (N : Nat) : Nat → mv_M → Nat → Int32 → Int32 → Option (Unit × mv_M)
  | 0, _, _, _, _ => none
  | n + 1, M, v0, v2, v3 =>
    if v3 ≤ v2 then (some ((), M)) else
    Option.bind (mj_getR M v0 1 3) fun x74 =>
    Option.bind x74 fun a78 =>
    Option.bind (mj_ild M a78 0 v3) fun x78 =>
    if x78 = (-2) then (jb_PM_slopes_167 N (jb_PM_slopes_68 N n) M v0 v2 v3) else
    mj_ob M v0 1 <|
    mj_call (jf_PM_cells N M v0 v3) fun r89 Mm89 =>
    jb_PM_slopes_97 N (jb_PM_slopes_68 N n) N Mm89 v0 v2 v3 r89 0
def jb_PM_slopes_39 (N : Nat) : Nat → mv_M → Nat → Int32 → Int32 → Int32 → Option (Unit × mv_M)
  | 0, _, _, _, _, _ => none
  | n + 1, M, v0, v1, v2, v3 =>
    mj_ob M v0 1 <|
    mj_call (jf_PM_cells N M v0 v1) fun r42 Mm42 =>
    if r42 ≤ v3 then (jb_PM_slopes_68 N N Mm42 v0 v2 v1) else
    Option.bind (mj_getR Mm42 v0 1 13) fun x49 =>
    Option.bind x49 fun a59 =>
    Option.bind (mj_lst Mm42 a59 1 ((64 * v1) + v3) 1) fun Mm59 =>
    jb_PM_slopes_39 N n Mm59 v0 v1 v2 (v3 + 1)
def jb_PM_slopes_7 (N : Nat) : Nat → mv_M → Nat → Int32 → Int32 → Int32 → Option (Unit × mv_M)
  | 0, _, _, _, _, _ => none
  | n + 1, M, v0, v1, v2, v3 =>
    if (64 * (v1 + 1)) ≤ v3 then (jb_PM_slopes_39 N N M v0 v1 v2 0) else
    Option.bind (mj_getR M v0 1 13) fun x18 =>
    Option.bind x18 fun a23 =>
    Option.bind (mj_lst M a23 1 v3 0) fun Mm23 =>
    Option.bind (mj_getR Mm23 v0 1 14) fun x25 =>
    Option.bind x25 fun a30 =>
    Option.bind (mj_lst Mm23 a30 1 v3 1) fun Mm30 =>
    jb_PM_slopes_7 N n Mm30 v0 v1 v2 (v3 + 1)
def jb_PM_slopes_0 (N : Nat) (M : mv_M) (v0 : Nat) (v1 : Int32) (v2 : Int32) : Option (Unit × mv_M) :=
  mj_ob M v0 1 <|
  mj_call (jf_PM_reckon N M v0 v1) fun r2 Mm2 =>
  jb_PM_slopes_7 N N Mm2 v0 v1 v2 0
def jf_PM_slopes (N : Nat) (M : mv_M) (v0 : Nat) (v1 : Int32) (v2 : Int32) : Option (Unit × mv_M) := jb_PM_slopes_0 N M v0 v1 v2
set_option maxHeartbeats 4000000 in
set_option maxRecDepth 100000 in
theorem tb_PM_slopes_167 (l : Launch) (D : va_G) (E : Nat → ClassId) (B : Nat) (sa : (Nat → Nat) × Nat × (Nat → Int32)) (M0 M1 : mv_M) (r : Unit) (N : Nat) (k68 : mv_M → Nat → Int32 → Int32 → Option (Unit × mv_M)) (hk68 : ∀ (M : mv_M) (v0 : Nat) (v2 : Int32) (v3 : Int32), k68 M v0 v2 v3 = some (r, M1) → mv_G (xg l D E B sa) kd_PM_slopes M0 M1 none M 68 [(0, va_rf (some v0)), (2, .int v2), (3, .int v3)] []) (M : mv_M) (v0 : Nat) (v2 : Int32) (v3 : Int32) (hJ : jb_PM_slopes_167 N k68 M v0 v2 v3 = some (r, M1)) : mv_G (xg l D E B sa) kd_PM_slopes M0 M1 none M 167 [(0, va_rf (some v0)), (2, .int v2), (3, .int v3)] [] := by
  unfold jb_PM_slopes_167 at hJ
  refine mv_iinc (pc := 167) (v := (v3 + (-1))) (lv' := [(3, .int (v3 + (-1))), (0, va_rf (some v0)), (2, .int v2)]) de_PM_slopes_167 2 rfl rfl (Nat.le_of_ble_eq_true rfl) rfl ?_
  refine mv_goto (pc := 170) (tgt := 68) de_PM_slopes_170 (by decide) ?_
  exact mv_sub [1, 2, 0] rfl (hk68 M v0 v2 (v3 + (-1)) hJ)
set_option maxHeartbeats 4000000 in
set_option maxRecDepth 100000 in
theorem tb_PM_slopes_161 (l : Launch) (D : va_G) (E : Nat → ClassId) (B : Nat) (sa : (Nat → Nat) × Nat × (Nat → Int32)) (M0 M1 : mv_M) (r : Unit) (N : Nat) (k68 : mv_M → Nat → Int32 → Int32 → Option (Unit × mv_M)) (k97 : mv_M → Nat → Int32 → Int32 → Int32 → Int32 → Option (Unit × mv_M)) (hk68 : ∀ (M : mv_M) (v0 : Nat) (v2 : Int32) (v3 : Int32), k68 M v0 v2 v3 = some (r, M1) → mv_G (xg l D E B sa) kd_PM_slopes M0 M1 none M 68 [(0, va_rf (some v0)), (2, .int v2), (3, .int v3)] []) (hk97 : ∀ (M : mv_M) (v0 : Nat) (v2 : Int32) (v3 : Int32) (v4 : Int32) (v5 : Int32), k97 M v0 v2 v3 v4 v5 = some (r, M1) → mv_G (xg l D E B sa) kd_PM_slopes M0 M1 none M 97 [(0, va_rf (some v0)), (2, .int v2), (3, .int v3), (4, .int v4), (5, .int v5)] []) (M : mv_M) (v0 : Nat) (v2 : Int32) (v3 : Int32) (v4 : Int32) (v5 : Int32) (hJ : jb_PM_slopes_161 N k68 k97 M v0 v2 v3 v4 v5 = some (r, M1)) : mv_G (xg l D E B sa) kd_PM_slopes M0 M1 none M 161 [(0, va_rf (some v0)), (2, .int v2), (3, .int v3), (4, .int v4), (5, .int v5)] [] := by
  unfold jb_PM_slopes_161 at hJ
  refine mv_iinc (pc := 161) (v := (v5 + 1)) (lv' := [(5, .int (v5 + 1)), (0, va_rf (some v0)), (2, .int v2), (3, .int v3), (4, .int v4)]) de_PM_slopes_161 4 rfl rfl (Nat.le_of_ble_eq_true rfl) rfl ?_
  refine mv_goto (pc := 164) (tgt := 97) de_PM_slopes_164 (by decide) ?_
  exact mv_sub [1, 2, 3, 4, 0] rfl (hk97 M v0 v2 v3 v4 (v5 + 1) hJ)
set_option maxHeartbeats 4000000 in
set_option maxRecDepth 100000 in
theorem tb_PM_slopes_154 (l : Launch) (D : va_G) (E : Nat → ClassId) (B : Nat) (sa : (Nat → Nat) × Nat × (Nat → Int32)) (M0 M1 : mv_M) (r : Unit) (N : Nat) (k68 : mv_M → Nat → Int32 → Int32 → Option (Unit × mv_M)) (k97 : mv_M → Nat → Int32 → Int32 → Int32 → Int32 → Option (Unit × mv_M)) (hk68 : ∀ (M : mv_M) (v0 : Nat) (v2 : Int32) (v3 : Int32), k68 M v0 v2 v3 = some (r, M1) → mv_G (xg l D E B sa) kd_PM_slopes M0 M1 none M 68 [(0, va_rf (some v0)), (2, .int v2), (3, .int v3)] []) (hk97 : ∀ (M : mv_M) (v0 : Nat) (v2 : Int32) (v3 : Int32) (v4 : Int32) (v5 : Int32), k97 M v0 v2 v3 v4 v5 = some (r, M1) → mv_G (xg l D E B sa) kd_PM_slopes M0 M1 none M 97 [(0, va_rf (some v0)), (2, .int v2), (3, .int v3), (4, .int v4), (5, .int v5)] []) (M : mv_M) (v0 : Nat) (v2 : Int32) (v3 : Int32) (v4 : Int32) (v5 : Int32) (hJ : jb_PM_slopes_154 N k68 k97 M v0 v2 v3 v4 v5 = some (r, M1)) : mv_G (xg l D E B sa) kd_PM_slopes M0 M1 none M 154 [(0, va_rf (some v0)), (2, .int v2), (3, .int v3), (4, .int v4), (5, .int v5)] [] := by
  unfold jb_PM_slopes_154 at hJ
  refine mv_aload_n (pc := 154) (i := 0) de_PM_slopes_154 rfl 0 rfl ?_
  refine mv_iload_n (pc := 155) (i := 3) de_PM_slopes_155 rfl 2 rfl ?_
  refine mv_iload (pc := 156) de_PM_slopes_156 4 rfl ?_
  obtain ⟨hi158, h158o⟩ := mj_obE hJ
  obtain ⟨r158, Mm158, hz158, h158⟩ := mj_callE h158o
  refine mv_callV (pc := 158) (n := 2) (av := [.int v3, .int v5]) (rest := []) de_PM_slopes_158 (kc_1 l D E B sa) hi158 (cm_PM_give l D E B sa N M v0 v3 v5 _ _ hz158) wt_5_77 wt_5_79 wp_48 wt_1_8 wt_5_80 ⟨by decide, by decide, by decide +kernel⟩ rfl ⟨Nat.le_of_ble_eq_true rfl, Nat.le_of_ble_eq_true rfl⟩ (Nat.le_of_ble_eq_true rfl) rfl ?_
  exact mv_sub [0, 1, 2, 3, 4] rfl (tb_PM_slopes_161 l D E B sa M0 M1 r N k68 k97 hk68 hk97 Mm158 v0 v2 v3 v4 v5 h158)
set_option maxHeartbeats 4000000 in
set_option maxRecDepth 100000 in
theorem tb_PM_slopes_97 (l : Launch) (D : va_G) (E : Nat → ClassId) (B : Nat) (sa : (Nat → Nat) × Nat × (Nat → Int32)) (M0 M1 : mv_M) (r : Unit) (N : Nat) (k68 : mv_M → Nat → Int32 → Int32 → Option (Unit × mv_M)) (hk68 : ∀ (M : mv_M) (v0 : Nat) (v2 : Int32) (v3 : Int32), k68 M v0 v2 v3 = some (r, M1) → mv_G (xg l D E B sa) kd_PM_slopes M0 M1 none M 68 [(0, va_rf (some v0)), (2, .int v2), (3, .int v3)] []) : ∀ (n : Nat) (M : mv_M) (v0 : Nat) (v2 : Int32) (v3 : Int32) (v4 : Int32) (v5 : Int32) (hJ : jb_PM_slopes_97 N k68 n M v0 v2 v3 v4 v5 = some (r, M1)), mv_G (xg l D E B sa) kd_PM_slopes M0 M1 none M 97 [(0, va_rf (some v0)), (2, .int v2), (3, .int v3), (4, .int v4), (5, .int v5)] [] := by
  intro n
  induction n with
  | zero => intro M v0 v2 v3 v4 v5 hJ; cases hJ
  | succ n ih =>
    intro M v0 v2 v3 v4 v5 hJ
    rw [jb_PM_slopes_97] at hJ
    refine mv_iload (pc := 97) de_PM_slopes_97 4 rfl ?_
    refine mv_iload (pc := 99) de_PM_slopes_99 3 rfl ?_
    refine mv_icmp_ge (pc := 101) (tgt := 167) de_PM_slopes_101 (by decide) hJ (fun hc101 h101 => ?_) (fun hc101 h101 => ?_)
    · exact mv_sub [0, 1, 2] rfl (tb_PM_slopes_167 l D E B sa M0 M1 r N k68 hk68 M v0 v2 v3 h101)
    · refine mv_aload_n (pc := 104) (i := 0) de_PM_slopes_104 rfl 0 rfl ?_
      refine mv_aload_n (pc := 105) (i := 0) de_PM_slopes_105 rfl 0 rfl ?_
      refine mv_getR (pc := 106) (f := 13) (kc_1 l D E B sa) (Nat.le_of_ble_eq_true rfl) wt_4_93 de_PM_slopes_106 h101 (fun x106 e106 h106 => ?_)
      refine mv_bipush (pc := 109) (v := 64) de_PM_slopes_109 (by decide) ?_
      refine mv_iload_n (pc := 111) (i := 3) de_PM_slopes_111 rfl 2 rfl ?_
      refine mv_imul (pc := 112) de_PM_slopes_112 ?_
      refine mv_iload (pc := 113) de_PM_slopes_113 4 rfl ?_
      refine mv_iadd (pc := 115) de_PM_slopes_115 ?_
      obtain ⟨a116, ha, h116a⟩ := mj_bindE h106
      subst ha
      refine mv_lald (pc := 116) (t := 1) rfl de_PM_slopes_116 h116a (fun x116 e116 h116 => ?_)
      refine mv_put (pc := 117) (f := 15) (kc_1 l D E B sa) (Nat.le_of_ble_eq_true rfl) wt_4_95 rfl rfl rfl de_PM_slopes_117 h116 (fun Mm117 e117 h117 => ?_)
      refine mv_aload_n (pc := 120) (i := 0) de_PM_slopes_120 rfl 0 rfl ?_
      refine mv_aload_n (pc := 121) (i := 0) de_PM_slopes_121 rfl 0 rfl ?_
      refine mv_getR (pc := 122) (f := 14) (kc_1 l D E B sa) (Nat.le_of_ble_eq_true rfl) wt_4_94 de_PM_slopes_122 h117 (fun x122 e122 h122 => ?_)
      refine mv_bipush (pc := 125) (v := 64) de_PM_slopes_125 (by decide) ?_
      refine mv_iload_n (pc := 127) (i := 3) de_PM_slopes_127 rfl 2 rfl ?_
      refine mv_imul (pc := 128) de_PM_slopes_128 ?_
      refine mv_iload (pc := 129) de_PM_slopes_129 4 rfl ?_
      refine mv_iadd (pc := 131) de_PM_slopes_131 ?_
      obtain ⟨a132, ha, h132a⟩ := mj_bindE h122
      subst ha
      refine mv_lald (pc := 132) (t := 1) rfl de_PM_slopes_132 h132a (fun x132 e132 h132 => ?_)
      refine mv_put (pc := 133) (f := 16) (kc_1 l D E B sa) (Nat.le_of_ble_eq_true rfl) wt_4_96 rfl rfl rfl de_PM_slopes_133 h132 (fun Mm133 e133 h133 => ?_)
      refine mv_aload_n (pc := 136) (i := 0) de_PM_slopes_136 rfl 0 rfl ?_
      refine mv_getL (pc := 137) (f := 15) (kc_1 l D E B sa) (Nat.le_of_ble_eq_true rfl) wt_4_95 de_PM_slopes_137 h133 (fun x137 e137 h137 => ?_)
      refine mv_lconst (pc := 140) (v := 0) de_PM_slopes_140 (by decide) ?_
      refine mv_lcmp (pc := 141) de_PM_slopes_141 ?_
      refine mv_if_ne (pc := 142) (tgt := 154) de_PM_slopes_142 (by decide) h137 (fun hc142 h142 => ?_) (fun hc142 h142 => ?_)
      · refine mv_aload_n (pc := 145) (i := 0) de_PM_slopes_145 rfl 0 rfl ?_
        refine mv_getL (pc := 146) (f := 16) (kc_1 l D E B sa) (Nat.le_of_ble_eq_true rfl) wt_4_96 de_PM_slopes_146 h142 (fun x146 e146 h146 => ?_)
        refine mv_lconst (pc := 149) (v := 0) de_PM_slopes_149 (by decide) ?_
        refine mv_lcmp (pc := 150) de_PM_slopes_150 ?_
        refine mv_if_ne (pc := 151) (tgt := 161) de_PM_slopes_151 (by decide) h146 (fun hc151 h151 => ?_) (fun hc151 h151 => ?_)
        · exact mv_sub [0, 1, 2, 3, 4] rfl (tb_PM_slopes_154 l D E B sa M0 M1 r N k68 (jb_PM_slopes_97 N k68 n) hk68 ih Mm133 v0 v2 v3 v4 v5 h151)
        · exact mv_sub [0, 1, 2, 3, 4] rfl (tb_PM_slopes_161 l D E B sa M0 M1 r N k68 (jb_PM_slopes_97 N k68 n) hk68 ih Mm133 v0 v2 v3 v4 v5 h151)
      · exact mv_sub [0, 1, 2, 3, 4] rfl (tb_PM_slopes_154 l D E B sa M0 M1 r N k68 (jb_PM_slopes_97 N k68 n) hk68 ih Mm133 v0 v2 v3 v4 v5 h142)
set_option maxHeartbeats 4000000 in
set_option maxRecDepth 100000 in
theorem tb_PM_slopes_68 (l : Launch) (D : va_G) (E : Nat → ClassId) (B : Nat) (sa : (Nat → Nat) × Nat × (Nat → Int32)) (M0 M1 : mv_M) (r : Unit) (N : Nat) : ∀ (n : Nat) (M : mv_M) (v0 : Nat) (v2 : Int32) (v3 : Int32) (hJ : jb_PM_slopes_68 N n M v0 v2 v3 = some (r, M1)), mv_G (xg l D E B sa) kd_PM_slopes M0 M1 none M 68 [(0, va_rf (some v0)), (2, .int v2), (3, .int v3)] [] := by
  intro n
  induction n with
  | zero => intro M v0 v2 v3 hJ; cases hJ
  | succ n ih =>
    intro M v0 v2 v3 hJ
    rw [jb_PM_slopes_68] at hJ
    refine mv_iload_n (pc := 68) (i := 3) de_PM_slopes_68 rfl 2 rfl ?_
    refine mv_iload_n (pc := 69) (i := 2) de_PM_slopes_69 rfl 1 rfl ?_
    refine mv_icmp_le (pc := 70) (tgt := 173) de_PM_slopes_70 (by decide) hJ (fun hc70 h70 => ?_) (fun hc70 h70 => ?_)
    · exact mv_vret (pc := 173) rfl de_PM_slopes_173 h70
    · refine mv_aload_n (pc := 73) (i := 0) de_PM_slopes_73 rfl 0 rfl ?_
      refine mv_getR (pc := 74) (f := 3) (kc_1 l D E B sa) (Nat.le_of_ble_eq_true rfl) wt_4_83 de_PM_slopes_74 h70 (fun x74 e74 h74 => ?_)
      refine mv_iload_n (pc := 77) (i := 3) de_PM_slopes_77 rfl 2 rfl ?_
      obtain ⟨a78, ha, h78a⟩ := mj_bindE h74
      subst ha
      refine mv_iald (pc := 78) (t := 0) rfl de_PM_slopes_78 h78a (fun x78 e78 h78 => ?_)
      refine mv_bipush (pc := 79) (v := (-2)) de_PM_slopes_79 (by decide) ?_
      refine mv_icmp_ne (pc := 81) (tgt := 87) de_PM_slopes_81 (by decide) h78 (fun hc81 h81 => ?_) (fun hc81 h81 => ?_)
      · refine mv_goto (pc := 84) (tgt := 167) de_PM_slopes_84 (by decide) ?_
        exact mv_sub [0, 1, 2] rfl (tb_PM_slopes_167 l D E B sa M0 M1 r N (jb_PM_slopes_68 N n) ih M v0 v2 v3 h81)
      · refine mv_aload_n (pc := 87) (i := 0) de_PM_slopes_87 rfl 0 rfl ?_
        refine mv_iload_n (pc := 88) (i := 3) de_PM_slopes_88 rfl 2 rfl ?_
        obtain ⟨hi89, h89o⟩ := mj_obE h81
        obtain ⟨r89, Mm89, hz89, h89⟩ := mj_callE h89o
        refine mv_callV (pc := 89) (n := 1) (av := [.int v3]) (rest := []) de_PM_slopes_89 (kc_1 l D E B sa) hi89 (cm_PM_cells l D E B sa N M v0 v3 _ _ hz89) wt_4_213 wt_4_215 wp_28 wt_1_8 wt_4_216 ⟨by decide, by decide, by decide +kernel⟩ rfl ⟨Nat.le_of_ble_eq_true rfl, Nat.le_of_ble_eq_true rfl⟩ (Nat.le_of_ble_eq_true rfl) rfl ?_
        refine mv_istore (pc := 92) (lv' := [(4, .int r89), (0, va_rf (some v0)), (2, .int v2), (3, .int v3)]) de_PM_slopes_92 (Nat.le_of_ble_eq_true rfl) rfl ?_
        refine mv_iconst (pc := 94) (v := 0) de_PM_slopes_94 (by decide) ?_
        refine mv_istore (pc := 95) (lv' := [(5, .int 0), (4, .int r89), (0, va_rf (some v0)), (2, .int v2), (3, .int v3)]) de_PM_slopes_95 (Nat.le_of_ble_eq_true rfl) rfl ?_
        exact mv_sub [2, 3, 4, 1, 0] rfl (tb_PM_slopes_97 l D E B sa M0 M1 r N (jb_PM_slopes_68 N n) ih N Mm89 v0 v2 v3 r89 0 h89)
set_option maxHeartbeats 4000000 in
set_option maxRecDepth 100000 in
theorem tb_PM_slopes_39 (l : Launch) (D : va_G) (E : Nat → ClassId) (B : Nat) (sa : (Nat → Nat) × Nat × (Nat → Int32)) (M0 M1 : mv_M) (r : Unit) (N : Nat) : ∀ (n : Nat) (M : mv_M) (v0 : Nat) (v1 : Int32) (v2 : Int32) (v3 : Int32) (hJ : jb_PM_slopes_39 N n M v0 v1 v2 v3 = some (r, M1)), mv_G (xg l D E B sa) kd_PM_slopes M0 M1 none M 39 [(0, va_rf (some v0)), (1, .int v1), (2, .int v2), (3, .int v3)] [] := by
  intro n
  induction n with
  | zero => intro M v0 v1 v2 v3 hJ; cases hJ
  | succ n ih =>
    intro M v0 v1 v2 v3 hJ
    rw [jb_PM_slopes_39] at hJ
    refine mv_iload_n (pc := 39) (i := 3) de_PM_slopes_39 rfl 3 rfl ?_
    refine mv_aload_n (pc := 40) (i := 0) de_PM_slopes_40 rfl 0 rfl ?_
    refine mv_iload_n (pc := 41) (i := 1) de_PM_slopes_41 rfl 1 rfl ?_
    obtain ⟨hi42, h42o⟩ := mj_obE hJ
    obtain ⟨r42, Mm42, hz42, h42⟩ := mj_callE h42o
    refine mv_callV (pc := 42) (n := 1) (av := [.int v1]) (rest := [.int v3]) de_PM_slopes_42 (kc_1 l D E B sa) hi42 (cm_PM_cells l D E B sa N M v0 v1 _ _ hz42) wt_4_213 wt_4_215 wp_28 wt_1_8 wt_4_216 ⟨by decide, by decide, by decide +kernel⟩ rfl ⟨Nat.le_of_ble_eq_true rfl, Nat.le_of_ble_eq_true rfl⟩ (Nat.le_of_ble_eq_true rfl) rfl ?_
    refine mv_icmp_ge (pc := 45) (tgt := 66) de_PM_slopes_45 (by decide) h42 (fun hc45 h45 => ?_) (fun hc45 h45 => ?_)
    · refine mv_iload_n (pc := 66) (i := 1) de_PM_slopes_66 rfl 1 rfl ?_
      refine mv_istore_n (pc := 67) (i := 3) (lv' := [(3, .int v1), (0, va_rf (some v0)), (1, .int v1), (2, .int v2)]) de_PM_slopes_67 rfl (Nat.le_of_ble_eq_true rfl) rfl ?_
      exact mv_sub [1, 3, 0] rfl (tb_PM_slopes_68 l D E B sa M0 M1 r N N Mm42 v0 v2 v1 h45)
    · refine mv_aload_n (pc := 48) (i := 0) de_PM_slopes_48 rfl 0 rfl ?_
      refine mv_getR (pc := 49) (f := 13) (kc_1 l D E B sa) (Nat.le_of_ble_eq_true rfl) wt_4_93 de_PM_slopes_49 h45 (fun x49 e49 h49 => ?_)
      refine mv_bipush (pc := 52) (v := 64) de_PM_slopes_52 (by decide) ?_
      refine mv_iload_n (pc := 54) (i := 1) de_PM_slopes_54 rfl 1 rfl ?_
      refine mv_imul (pc := 55) de_PM_slopes_55 ?_
      refine mv_iload_n (pc := 56) (i := 3) de_PM_slopes_56 rfl 3 rfl ?_
      refine mv_iadd (pc := 57) de_PM_slopes_57 ?_
      refine mv_lconst (pc := 58) (v := 1) de_PM_slopes_58 (by decide) ?_
      obtain ⟨a59, ha, h59a⟩ := mj_bindE h49
      subst ha
      refine mv_last (pc := 59) (t := 1) rfl de_PM_slopes_59 h59a (fun Mm59 e59 h59 => ?_)
      refine mv_iinc (pc := 60) (v := (v3 + 1)) (lv' := [(3, .int (v3 + 1)), (0, va_rf (some v0)), (1, .int v1), (2, .int v2)]) de_PM_slopes_60 3 rfl rfl (Nat.le_of_ble_eq_true rfl) rfl ?_
      refine mv_goto (pc := 63) (tgt := 39) de_PM_slopes_63 (by decide) ?_
      exact mv_sub [1, 2, 3, 0] rfl (ih Mm59 v0 v1 v2 (v3 + 1) h59)
set_option maxHeartbeats 4000000 in
set_option maxRecDepth 100000 in
theorem tb_PM_slopes_7 (l : Launch) (D : va_G) (E : Nat → ClassId) (B : Nat) (sa : (Nat → Nat) × Nat × (Nat → Int32)) (M0 M1 : mv_M) (r : Unit) (N : Nat) : ∀ (n : Nat) (M : mv_M) (v0 : Nat) (v1 : Int32) (v2 : Int32) (v3 : Int32) (hJ : jb_PM_slopes_7 N n M v0 v1 v2 v3 = some (r, M1)), mv_G (xg l D E B sa) kd_PM_slopes M0 M1 none M 7 [(0, va_rf (some v0)), (1, .int v1), (2, .int v2), (3, .int v3)] [] := by
  intro n
  induction n with
  | zero => intro M v0 v1 v2 v3 hJ; cases hJ
  | succ n ih =>
    intro M v0 v1 v2 v3 hJ
    rw [jb_PM_slopes_7] at hJ
    refine mv_iload_n (pc := 7) (i := 3) de_PM_slopes_7 rfl 3 rfl ?_
    refine mv_bipush (pc := 8) (v := 64) de_PM_slopes_8 (by decide) ?_
    refine mv_iload_n (pc := 10) (i := 1) de_PM_slopes_10 rfl 1 rfl ?_
    refine mv_iconst (pc := 11) (v := 1) de_PM_slopes_11 (by decide) ?_
    refine mv_iadd (pc := 12) de_PM_slopes_12 ?_
    refine mv_imul (pc := 13) de_PM_slopes_13 ?_
    refine mv_icmp_ge (pc := 14) (tgt := 37) de_PM_slopes_14 (by decide) hJ (fun hc14 h14 => ?_) (fun hc14 h14 => ?_)
    · refine mv_iconst (pc := 37) (v := 0) de_PM_slopes_37 (by decide) ?_
      refine mv_istore_n (pc := 38) (i := 3) (lv' := [(3, .int 0), (0, va_rf (some v0)), (1, .int v1), (2, .int v2)]) de_PM_slopes_38 rfl (Nat.le_of_ble_eq_true rfl) rfl ?_
      exact mv_sub [1, 2, 3, 0] rfl (tb_PM_slopes_39 l D E B sa M0 M1 r N N M v0 v1 v2 0 h14)
    · refine mv_aload_n (pc := 17) (i := 0) de_PM_slopes_17 rfl 0 rfl ?_
      refine mv_getR (pc := 18) (f := 13) (kc_1 l D E B sa) (Nat.le_of_ble_eq_true rfl) wt_4_93 de_PM_slopes_18 h14 (fun x18 e18 h18 => ?_)
      refine mv_iload_n (pc := 21) (i := 3) de_PM_slopes_21 rfl 3 rfl ?_
      refine mv_lconst (pc := 22) (v := 0) de_PM_slopes_22 (by decide) ?_
      obtain ⟨a23, ha, h23a⟩ := mj_bindE h18
      subst ha
      refine mv_last (pc := 23) (t := 1) rfl de_PM_slopes_23 h23a (fun Mm23 e23 h23 => ?_)
      refine mv_aload_n (pc := 24) (i := 0) de_PM_slopes_24 rfl 0 rfl ?_
      refine mv_getR (pc := 25) (f := 14) (kc_1 l D E B sa) (Nat.le_of_ble_eq_true rfl) wt_4_94 de_PM_slopes_25 h23 (fun x25 e25 h25 => ?_)
      refine mv_iload_n (pc := 28) (i := 3) de_PM_slopes_28 rfl 3 rfl ?_
      refine mv_lconst (pc := 29) (v := 1) de_PM_slopes_29 (by decide) ?_
      obtain ⟨a30, ha, h30a⟩ := mj_bindE h25
      subst ha
      refine mv_last (pc := 30) (t := 1) rfl de_PM_slopes_30 h30a (fun Mm30 e30 h30 => ?_)
      refine mv_iinc (pc := 31) (v := (v3 + 1)) (lv' := [(3, .int (v3 + 1)), (0, va_rf (some v0)), (1, .int v1), (2, .int v2)]) de_PM_slopes_31 3 rfl rfl (Nat.le_of_ble_eq_true rfl) rfl ?_
      refine mv_goto (pc := 34) (tgt := 7) de_PM_slopes_34 (by decide) ?_
      exact mv_sub [1, 2, 3, 0] rfl (ih Mm30 v0 v1 v2 (v3 + 1) h30)
set_option maxHeartbeats 4000000 in
set_option maxRecDepth 100000 in
theorem tb_PM_slopes_0 (l : Launch) (D : va_G) (E : Nat → ClassId) (B : Nat) (sa : (Nat → Nat) × Nat × (Nat → Int32)) (M0 M1 : mv_M) (r : Unit) (N : Nat) (M : mv_M) (v0 : Nat) (v1 : Int32) (v2 : Int32) (hJ : jb_PM_slopes_0 N M v0 v1 v2 = some (r, M1)) : mv_G (xg l D E B sa) kd_PM_slopes M0 M1 none M 0 [(0, va_rf (some v0)), (1, .int v1), (2, .int v2)] [] := by
  unfold jb_PM_slopes_0 at hJ
  refine mv_aload_n (pc := 0) (i := 0) de_PM_slopes_0 rfl 0 rfl ?_
  refine mv_iload_n (pc := 1) (i := 1) de_PM_slopes_1 rfl 1 rfl ?_
  obtain ⟨hi2, h2o⟩ := mj_obE hJ
  obtain ⟨r2, Mm2, hz2, h2⟩ := mj_callE h2o
  refine mv_callV (pc := 2) (n := 1) (av := [.int v1]) (rest := []) de_PM_slopes_2 (kc_1 l D E B sa) hi2 (cm_PM_reckon l D E B sa N M v0 v1 _ _ hz2) wt_5_10 wt_5_12 wp_33 wt_1_8 wt_5_13 ⟨by decide, by decide, by decide +kernel⟩ rfl ⟨Nat.le_of_ble_eq_true rfl, Nat.le_of_ble_eq_true rfl⟩ (Nat.le_of_ble_eq_true rfl) rfl ?_
  refine mv_iconst (pc := 5) (v := 0) de_PM_slopes_5 (by decide) ?_
  refine mv_istore_n (pc := 6) (i := 3) (lv' := [(3, .int 0), (0, va_rf (some v0)), (1, .int v1), (2, .int v2)]) de_PM_slopes_6 rfl (Nat.le_of_ble_eq_true rfl) rfl ?_
  exact mv_sub [1, 2, 3, 0] rfl (tb_PM_slopes_7 l D E B sa M0 M1 r N N Mm2 v0 v1 v2 0 h2)
theorem cm_PM_slopes (l : Launch) (D : va_G) (E : Nat → ClassId) (B : Nat) (sa : (Nat → Nat) × Nat × (Nat → Int32)) (N : Nat) (M : mv_M) (v0 : Nat) (v1 : Int32) (v2 : Int32) (r : Unit) (M1 : mv_M) (hJ : jf_PM_slopes N M v0 v1 v2 = some (r, M1)) : mv_Met (xg l D E B sa) yn_PM_slopes cd_PM_slopes 6 none 5 145 [va_rf (some v0), .int v1, .int v2] M none M1 :=
  mv_enter (by decide) (Nat.le_of_ble_eq_true rfl) (mv_sub (lv := [(0, va_rf (some v0)), (1, .int v1), (2, .int v2)]) [0, 1, 2] rfl (tb_PM_slopes_0 l D E B sa M M1 r N M v0 v1 v2 hJ))
/-! ===== PlainLearnerModel.slope(IIII)J ===== -/
abbrev kd_PM_slope : mv_Kd := (cd_PM_slope, 5, "PlainLearnerModel", "slope", (some .long), 6, 170)
theorem de_PM_slope_0 : decode cd_PM_slope 0 = .ok (.aload_n 0, 1) := by decide +kernel
theorem de_PM_slope_1 : decode cd_PM_slope 1 = .ok (.iload_n 1, 1) := by decide +kernel
theorem de_PM_slope_2 : decode cd_PM_slope 2 = .ok (.invokevirtual 107, 3) := by decide +kernel
theorem de_PM_slope_5 : decode cd_PM_slope 5 = .ok (.ifCond .eq 42, 3) := by decide +kernel
theorem de_PM_slope_8 : decode cd_PM_slope 8 = .ok (.iload_n 2, 1) := by decide +kernel
theorem de_PM_slope_9 : decode cd_PM_slope 9 = .ok (.i2l, 1) := by decide +kernel
theorem de_PM_slope_10 : decode cd_PM_slope 10 = .ok (.lconst 0, 1) := by decide +kernel
theorem de_PM_slope_11 : decode cd_PM_slope 11 = .ok (.iload_n 1, 1) := by decide +kernel
theorem de_PM_slope_12 : decode cd_PM_slope 12 = .ok (.i2l, 1) := by decide +kernel
theorem de_PM_slope_13 : decode cd_PM_slope 13 = .ok (.invokestatic 99, 3) := by decide +kernel
theorem de_PM_slope_16 : decode cd_PM_slope 16 = .ok (.ifCond .eq 31, 3) := by decide +kernel
theorem de_PM_slope_19 : decode cd_PM_slope 19 = .ok (.iload_n 3, 1) := by decide +kernel
theorem de_PM_slope_20 : decode cd_PM_slope 20 = .ok (.i2l, 1) := by decide +kernel
theorem de_PM_slope_21 : decode cd_PM_slope 21 = .ok (.lconst 0, 1) := by decide +kernel
theorem de_PM_slope_22 : decode cd_PM_slope 22 = .ok (.aload_n 0, 1) := by decide +kernel
theorem de_PM_slope_23 : decode cd_PM_slope 23 = .ok (.iload_n 2, 1) := by decide +kernel
theorem de_PM_slope_24 : decode cd_PM_slope 24 = .ok (.invokevirtual 114, 3) := by decide +kernel
theorem de_PM_slope_27 : decode cd_PM_slope 27 = .ok (.iconst 1, 1) := by decide +kernel
theorem de_PM_slope_28 : decode cd_PM_slope 28 = .ok (.isub, 1) := by decide +kernel
theorem de_PM_slope_29 : decode cd_PM_slope 29 = .ok (.i2l, 1) := by decide +kernel
theorem de_PM_slope_30 : decode cd_PM_slope 30 = .ok (.invokestatic 99, 3) := by decide +kernel
theorem de_PM_slope_33 : decode cd_PM_slope 33 = .ok (.ifCond .eq 14, 3) := by decide +kernel
theorem de_PM_slope_36 : decode cd_PM_slope 36 = .ok (.iload 4, 2) := by decide +kernel
theorem de_PM_slope_38 : decode cd_PM_slope 38 = .ok (.i2l, 1) := by decide +kernel
theorem de_PM_slope_39 : decode cd_PM_slope 39 = .ok (.lconst 0, 1) := by decide +kernel
theorem de_PM_slope_40 : decode cd_PM_slope 40 = .ok (.lconst 1, 1) := by decide +kernel
theorem de_PM_slope_41 : decode cd_PM_slope 41 = .ok (.invokestatic 99, 3) := by decide +kernel
theorem de_PM_slope_44 : decode cd_PM_slope 44 = .ok (.ifCond .ne 7, 3) := by decide +kernel
theorem de_PM_slope_47 : decode cd_PM_slope 47 = .ok (.ldc2_w 183, 3) := by decide +kernel
theorem de_PM_slope_50 : decode cd_PM_slope 50 = .ok (.lreturn, 1) := by decide +kernel
theorem de_PM_slope_51 : decode cd_PM_slope 51 = .ok (.aload_n 0, 1) := by decide +kernel
theorem de_PM_slope_52 : decode cd_PM_slope 52 = .ok (.iload_n 1, 1) := by decide +kernel
theorem de_PM_slope_53 : decode cd_PM_slope 53 = .ok (.iload_n 2, 1) := by decide +kernel
theorem de_PM_slope_54 : decode cd_PM_slope 54 = .ok (.invokevirtual 212, 3) := by decide +kernel
theorem de_PM_slope_57 : decode cd_PM_slope 57 = .ok (.aload_n 0, 1) := by decide +kernel
theorem de_PM_slope_58 : decode cd_PM_slope 58 = .ok (.aload_n 0, 1) := by decide +kernel
theorem de_PM_slope_59 : decode cd_PM_slope 59 = .ok (.getfield 39, 3) := by decide +kernel
theorem de_PM_slope_62 : decode cd_PM_slope 62 = .ok (.bipush 64, 2) := by decide +kernel
theorem de_PM_slope_64 : decode cd_PM_slope 64 = .ok (.iload_n 2, 1) := by decide +kernel
theorem de_PM_slope_65 : decode cd_PM_slope 65 = .ok (.imul, 1) := by decide +kernel
theorem de_PM_slope_66 : decode cd_PM_slope 66 = .ok (.iload_n 3, 1) := by decide +kernel
theorem de_PM_slope_67 : decode cd_PM_slope 67 = .ok (.iadd, 1) := by decide +kernel
theorem de_PM_slope_68 : decode cd_PM_slope 68 = .ok (.laload, 1) := by decide +kernel
theorem de_PM_slope_69 : decode cd_PM_slope 69 = .ok (.putfield 81, 3) := by decide +kernel
theorem de_PM_slope_72 : decode cd_PM_slope 72 = .ok (.aload_n 0, 1) := by decide +kernel
theorem de_PM_slope_73 : decode cd_PM_slope 73 = .ok (.aload_n 0, 1) := by decide +kernel
theorem de_PM_slope_74 : decode cd_PM_slope 74 = .ok (.getfield 42, 3) := by decide +kernel
theorem de_PM_slope_77 : decode cd_PM_slope 77 = .ok (.bipush 64, 2) := by decide +kernel
theorem de_PM_slope_79 : decode cd_PM_slope 79 = .ok (.iload_n 2, 1) := by decide +kernel
theorem de_PM_slope_80 : decode cd_PM_slope 80 = .ok (.imul, 1) := by decide +kernel
theorem de_PM_slope_81 : decode cd_PM_slope 81 = .ok (.iload_n 3, 1) := by decide +kernel
theorem de_PM_slope_82 : decode cd_PM_slope 82 = .ok (.iadd, 1) := by decide +kernel
theorem de_PM_slope_83 : decode cd_PM_slope 83 = .ok (.laload, 1) := by decide +kernel
theorem de_PM_slope_84 : decode cd_PM_slope 84 = .ok (.putfield 84, 3) := by decide +kernel
theorem de_PM_slope_87 : decode cd_PM_slope 87 = .ok (.aload_n 0, 1) := by decide +kernel
theorem de_PM_slope_88 : decode cd_PM_slope 88 = .ok (.iload 4, 2) := by decide +kernel
theorem de_PM_slope_90 : decode cd_PM_slope 90 = .ok (.invokevirtual 188, 3) := by decide +kernel
theorem de_PM_slope_93 : decode cd_PM_slope 93 = .ok (.lreturn, 1) := by decide +kernel
def jb_PM_slope_47 (N : Nat) (M : mv_M) : Option (Int64 × mv_M) :=
  some ((-1099511627776), M)
def jb_PM_slope_0 (N : Nat) (M : mv_M) (v0 : Nat) (v1 : Int32) (v2 : Int32) (v3 : Int32) (v4 : Int32) : Option (Int64 × mv_M) :=
  mj_ob M v0 1 <|
  mj_call (jf_PM_isNode N M v0 v1) fun r2 Mm2 =>
  if r2 = 0 then (jb_PM_slope_47 N Mm2) else
  mj_call (jf_PM_isIn N Mm2 v2.toInt64 0 v1.toInt64) fun r13 Mm13 =>
  if r13 = 0 then (jb_PM_slope_47 N Mm13) else
  mj_ob Mm13 v0 1 <|
  mj_call (jf_PM_cells N Mm13 v0 v2) fun r24 Mm24 =>
  mj_call (jf_PM_isIn N Mm24 v3.toInt64 0 ((r24 - 1).toInt64)) fun r30 Mm30 =>
  if r30 = 0 then (jb_PM_slope_47 N Mm30) else
  mj_call (jf_PM_isIn N Mm30 v4.toInt64 0 1) fun r41 Mm41 =>
  if r41 = 0 then (jb_PM_slope_47 N Mm41) else
  mj_ob Mm41 v0 1 <|
  mj_call (jf_PM_slopes N Mm41 v0 v1 v2) fun r54 Mm54 =>
  Option.bind (mj_getR Mm54 v0 1 13) fun x59 =>
  Option.bind x59 fun a68 =>
  Option.bind (mj_lld Mm54 a68 1 ((64 * v2) + v3)) fun x68 =>
  Option.bind (mj_put Mm54 v0 1 0 (.long x68)) fun Mm69 =>
  Option.bind (mj_getR Mm69 v0 1 14) fun x74 =>
  Option.bind x74 fun a83 =>
  Option.bind (mj_lld Mm69 a83 1 ((64 * v2) + v3)) fun x83 =>
  Option.bind (mj_put Mm69 v0 1 1 (.long x83)) fun Mm84 =>
  mj_ob Mm84 v0 1 <|
  mj_call (jf_PM_told N Mm84 v0 v4) fun r90 Mm90 =>
  some (r90, Mm90)
def jf_PM_slope (N : Nat) (M : mv_M) (v0 : Nat) (v1 : Int32) (v2 : Int32) (v3 : Int32) (v4 : Int32) : Option (Int64 × mv_M) := jb_PM_slope_0 N M v0 v1 v2 v3 v4
set_option maxHeartbeats 4000000 in
set_option maxRecDepth 100000 in
theorem tb_PM_slope_47 (l : Launch) (D : va_G) (E : Nat → ClassId) (B : Nat) (sa : (Nat → Nat) × Nat × (Nat → Int32)) (M0 M1 : mv_M) (r : Int64) (N : Nat) (M : mv_M) (hJ : jb_PM_slope_47 N M = some (r, M1)) : mv_G (xg l D E B sa) kd_PM_slope M0 M1 (some (.long r)) M 47 [] [] := by
  unfold jb_PM_slope_47 at hJ
  refine mv_ldc2 (pc := 47) de_PM_slope_47 wt_5_9 ?_
  exact mv_lret (pc := 50) rfl de_PM_slope_50 hJ
set_option maxHeartbeats 4000000 in
set_option maxRecDepth 100000 in
theorem tb_PM_slope_0 (l : Launch) (D : va_G) (E : Nat → ClassId) (B : Nat) (sa : (Nat → Nat) × Nat × (Nat → Int32)) (M0 M1 : mv_M) (r : Int64) (N : Nat) (M : mv_M) (v0 : Nat) (v1 : Int32) (v2 : Int32) (v3 : Int32) (v4 : Int32) (hJ : jb_PM_slope_0 N M v0 v1 v2 v3 v4 = some (r, M1)) : mv_G (xg l D E B sa) kd_PM_slope M0 M1 (some (.long r)) M 0 [(0, va_rf (some v0)), (1, .int v1), (2, .int v2), (3, .int v3), (4, .int v4)] [] := by
  unfold jb_PM_slope_0 at hJ
  refine mv_aload_n (pc := 0) (i := 0) de_PM_slope_0 rfl 0 rfl ?_
  refine mv_iload_n (pc := 1) (i := 1) de_PM_slope_1 rfl 1 rfl ?_
  obtain ⟨hi2, h2o⟩ := mj_obE hJ
  obtain ⟨r2, Mm2, hz2, h2⟩ := mj_callE h2o
  refine mv_callV (pc := 2) (n := 1) (av := [.int v1]) (rest := []) de_PM_slope_2 (kc_1 l D E B sa) hi2 (cm_PM_isNode l D E B sa N M v0 v1 _ _ hz2) wt_4_209 wt_4_211 wp_27 wt_1_8 wt_4_212 ⟨by decide, by decide, by decide +kernel⟩ rfl ⟨Nat.le_of_ble_eq_true rfl, Nat.le_of_ble_eq_true rfl⟩ (Nat.le_of_ble_eq_true rfl) rfl ?_
  refine mv_if_eq (pc := 5) (tgt := 47) de_PM_slope_5 (by decide) h2 (fun hc5 h5 => ?_) (fun hc5 h5 => ?_)
  · exact mv_sub [] rfl (tb_PM_slope_47 l D E B sa M0 M1 r N Mm2 h5)
  · refine mv_iload_n (pc := 8) (i := 2) de_PM_slope_8 rfl 2 rfl ?_
    refine mv_i2l (pc := 9) de_PM_slope_9 ?_
    refine mv_lconst (pc := 10) (v := 0) de_PM_slope_10 (by decide) ?_
    refine mv_iload_n (pc := 11) (i := 1) de_PM_slope_11 rfl 1 rfl ?_
    refine mv_i2l (pc := 12) de_PM_slope_12 ?_
    obtain ⟨r13, Mm13, hz13, h13⟩ := mj_callE h5
    refine mv_callS (pc := 13) (n := 3) (av := [.long v2.toInt64, .long 0, .long v1.toInt64]) (rest := []) de_PM_slope_13 (cm_PM_isIn l D E B sa N Mm2 v2.toInt64 0 v1.toInt64 _ _ hz13) wt_4_197 wt_4_198 wt_1_8 wt_4_199 ⟨by decide, by decide, by decide +kernel⟩ rfl ⟨Nat.le_of_ble_eq_true rfl, Nat.le_of_ble_eq_true rfl⟩ (Nat.le_of_ble_eq_true rfl) rfl ?_
    refine mv_if_eq (pc := 16) (tgt := 47) de_PM_slope_16 (by decide) h13 (fun hc16 h16 => ?_) (fun hc16 h16 => ?_)
    · exact mv_sub [] rfl (tb_PM_slope_47 l D E B sa M0 M1 r N Mm13 h16)
    · refine mv_iload_n (pc := 19) (i := 3) de_PM_slope_19 rfl 3 rfl ?_
      refine mv_i2l (pc := 20) de_PM_slope_20 ?_
      refine mv_lconst (pc := 21) (v := 0) de_PM_slope_21 (by decide) ?_
      refine mv_aload_n (pc := 22) (i := 0) de_PM_slope_22 rfl 0 rfl ?_
      refine mv_iload_n (pc := 23) (i := 2) de_PM_slope_23 rfl 2 rfl ?_
      obtain ⟨hi24, h24o⟩ := mj_obE h16
      obtain ⟨r24, Mm24, hz24, h24⟩ := mj_callE h24o
      refine mv_callV (pc := 24) (n := 1) (av := [.int v2]) (rest := [.long 0, .long v3.toInt64]) de_PM_slope_24 (kc_1 l D E B sa) hi24 (cm_PM_cells l D E B sa N Mm13 v0 v2 _ _ hz24) wt_4_213 wt_4_215 wp_28 wt_1_8 wt_4_216 ⟨by decide, by decide, by decide +kernel⟩ rfl ⟨Nat.le_of_ble_eq_true rfl, Nat.le_of_ble_eq_true rfl⟩ (Nat.le_of_ble_eq_true rfl) rfl ?_
      refine mv_iconst (pc := 27) (v := 1) de_PM_slope_27 (by decide) ?_
      refine mv_isub (pc := 28) de_PM_slope_28 ?_
      refine mv_i2l (pc := 29) de_PM_slope_29 ?_
      obtain ⟨r30, Mm30, hz30, h30⟩ := mj_callE h24
      refine mv_callS (pc := 30) (n := 3) (av := [.long v3.toInt64, .long 0, .long (r24 - 1).toInt64]) (rest := []) de_PM_slope_30 (cm_PM_isIn l D E B sa N Mm24 v3.toInt64 0 ((r24 - 1).toInt64) _ _ hz30) wt_4_197 wt_4_198 wt_1_8 wt_4_199 ⟨by decide, by decide, by decide +kernel⟩ rfl ⟨Nat.le_of_ble_eq_true rfl, Nat.le_of_ble_eq_true rfl⟩ (Nat.le_of_ble_eq_true rfl) rfl ?_
      refine mv_if_eq (pc := 33) (tgt := 47) de_PM_slope_33 (by decide) h30 (fun hc33 h33 => ?_) (fun hc33 h33 => ?_)
      · exact mv_sub [] rfl (tb_PM_slope_47 l D E B sa M0 M1 r N Mm30 h33)
      · refine mv_iload (pc := 36) de_PM_slope_36 4 rfl ?_
        refine mv_i2l (pc := 38) de_PM_slope_38 ?_
        refine mv_lconst (pc := 39) (v := 0) de_PM_slope_39 (by decide) ?_
        refine mv_lconst (pc := 40) (v := 1) de_PM_slope_40 (by decide) ?_
        obtain ⟨r41, Mm41, hz41, h41⟩ := mj_callE h33
        refine mv_callS (pc := 41) (n := 3) (av := [.long v4.toInt64, .long 0, .long 1]) (rest := []) de_PM_slope_41 (cm_PM_isIn l D E B sa N Mm30 v4.toInt64 0 1 _ _ hz41) wt_4_197 wt_4_198 wt_1_8 wt_4_199 ⟨by decide, by decide, by decide +kernel⟩ rfl ⟨Nat.le_of_ble_eq_true rfl, Nat.le_of_ble_eq_true rfl⟩ (Nat.le_of_ble_eq_true rfl) rfl ?_
        refine mv_if_ne (pc := 44) (tgt := 51) de_PM_slope_44 (by decide) h41 (fun hc44 h44 => ?_) (fun hc44 h44 => ?_)
        · exact mv_sub [] rfl (tb_PM_slope_47 l D E B sa M0 M1 r N Mm41 h44)
        · refine mv_aload_n (pc := 51) (i := 0) de_PM_slope_51 rfl 0 rfl ?_
          refine mv_iload_n (pc := 52) (i := 1) de_PM_slope_52 rfl 1 rfl ?_
          refine mv_iload_n (pc := 53) (i := 2) de_PM_slope_53 rfl 2 rfl ?_
          obtain ⟨hi54, h54o⟩ := mj_obE h44
          obtain ⟨r54, Mm54, hz54, h54⟩ := mj_callE h54o
          refine mv_callV (pc := 54) (n := 2) (av := [.int v1, .int v2]) (rest := []) de_PM_slope_54 (kc_1 l D E B sa) hi54 (cm_PM_slopes l D E B sa N Mm41 v0 v1 v2 _ _ hz54) wt_5_73 wt_5_75 wp_47 wt_1_8 wt_5_76 ⟨by decide, by decide, by decide +kernel⟩ rfl ⟨Nat.le_of_ble_eq_true rfl, Nat.le_of_ble_eq_true rfl⟩ (Nat.le_of_ble_eq_true rfl) rfl ?_
          refine mv_aload_n (pc := 57) (i := 0) de_PM_slope_57 rfl 0 rfl ?_
          refine mv_aload_n (pc := 58) (i := 0) de_PM_slope_58 rfl 0 rfl ?_
          refine mv_getR (pc := 59) (f := 13) (kc_1 l D E B sa) (Nat.le_of_ble_eq_true rfl) wt_4_93 de_PM_slope_59 h54 (fun x59 e59 h59 => ?_)
          refine mv_bipush (pc := 62) (v := 64) de_PM_slope_62 (by decide) ?_
          refine mv_iload_n (pc := 64) (i := 2) de_PM_slope_64 rfl 2 rfl ?_
          refine mv_imul (pc := 65) de_PM_slope_65 ?_
          refine mv_iload_n (pc := 66) (i := 3) de_PM_slope_66 rfl 3 rfl ?_
          refine mv_iadd (pc := 67) de_PM_slope_67 ?_
          obtain ⟨a68, ha, h68a⟩ := mj_bindE h59
          subst ha
          refine mv_lald (pc := 68) (t := 1) rfl de_PM_slope_68 h68a (fun x68 e68 h68 => ?_)
          refine mv_put (pc := 69) (f := 0) (kc_1 l D E B sa) (Nat.le_of_ble_eq_true rfl) wt_4_80 rfl rfl rfl de_PM_slope_69 h68 (fun Mm69 e69 h69 => ?_)
          refine mv_aload_n (pc := 72) (i := 0) de_PM_slope_72 rfl 0 rfl ?_
          refine mv_aload_n (pc := 73) (i := 0) de_PM_slope_73 rfl 0 rfl ?_
          refine mv_getR (pc := 74) (f := 14) (kc_1 l D E B sa) (Nat.le_of_ble_eq_true rfl) wt_4_94 de_PM_slope_74 h69 (fun x74 e74 h74 => ?_)
          refine mv_bipush (pc := 77) (v := 64) de_PM_slope_77 (by decide) ?_
          refine mv_iload_n (pc := 79) (i := 2) de_PM_slope_79 rfl 2 rfl ?_
          refine mv_imul (pc := 80) de_PM_slope_80 ?_
          refine mv_iload_n (pc := 81) (i := 3) de_PM_slope_81 rfl 3 rfl ?_
          refine mv_iadd (pc := 82) de_PM_slope_82 ?_
          obtain ⟨a83, ha, h83a⟩ := mj_bindE h74
          subst ha
          refine mv_lald (pc := 83) (t := 1) rfl de_PM_slope_83 h83a (fun x83 e83 h83 => ?_)
          refine mv_put (pc := 84) (f := 1) (kc_1 l D E B sa) (Nat.le_of_ble_eq_true rfl) wt_4_81 rfl rfl rfl de_PM_slope_84 h83 (fun Mm84 e84 h84 => ?_)
          refine mv_aload_n (pc := 87) (i := 0) de_PM_slope_87 rfl 0 rfl ?_
          refine mv_iload (pc := 88) de_PM_slope_88 4 rfl ?_
          obtain ⟨hi90, h90o⟩ := mj_obE h84
          obtain ⟨r90, Mm90, hz90, h90⟩ := mj_callE h90o
          refine mv_callV (pc := 90) (n := 1) (av := [.int v4]) (rest := []) de_PM_slope_90 (kc_1 l D E B sa) hi90 (cm_PM_told l D E B sa N Mm84 v0 v4 _ _ hz90) wt_5_65 wt_5_67 wp_46 wt_1_8 wt_5_68 ⟨by decide, by decide, by decide +kernel⟩ rfl ⟨Nat.le_of_ble_eq_true rfl, Nat.le_of_ble_eq_true rfl⟩ (Nat.le_of_ble_eq_true rfl) rfl ?_
          exact mv_lret (pc := 93) rfl de_PM_slope_93 h90
theorem cm_PM_slope (l : Launch) (D : va_G) (E : Nat → ClassId) (B : Nat) (sa : (Nat → Nat) × Nat × (Nat → Int32)) (N : Nat) (M : mv_M) (v0 : Nat) (v1 : Int32) (v2 : Int32) (v3 : Int32) (v4 : Int32) (r : Int64) (M1 : mv_M) (hJ : jf_PM_slope N M v0 v1 v2 v3 v4 = some (r, M1)) : mv_Met (xg l D E B sa) yn_PM_slope cd_PM_slope 5 (some .long) 6 170 [va_rf (some v0), .int v1, .int v2, .int v3, .int v4] M (some (.long r)) M1 :=
  mv_enter (by decide) (Nat.le_of_ble_eq_true rfl) (mv_sub (lv := [(0, va_rf (some v0)), (1, .int v1), (2, .int v2), (3, .int v3), (4, .int v4)]) [0, 1, 2, 3, 4] rfl (tb_PM_slope_0 l D E B sa M M1 r N M v0 v1 v2 v3 v4 hJ))
/-! ===== PlainLearnerModel.toWay(IJ)V ===== -/
abbrev kd_PM_toWay : mv_Kd := (cd_PM_toWay, 4, "PlainLearnerModel", "toWay", none, 0, 0)
theorem de_PM_toWay_0 : decode cd_PM_toWay 0 = .ok (.aload_n 0, 1) := by decide +kernel
theorem de_PM_toWay_1 : decode cd_PM_toWay 1 = .ok (.getfield 45, 3) := by decide +kernel
theorem de_PM_toWay_4 : decode cd_PM_toWay 4 = .ok (.iload_n 1, 1) := by decide +kernel
theorem de_PM_toWay_5 : decode cd_PM_toWay 5 = .ok (.dup2, 1) := by decide +kernel
theorem de_PM_toWay_6 : decode cd_PM_toWay 6 = .ok (.laload, 1) := by decide +kernel
theorem de_PM_toWay_7 : decode cd_PM_toWay 7 = .ok (.lload_n 2, 1) := by decide +kernel
theorem de_PM_toWay_8 : decode cd_PM_toWay 8 = .ok (.ladd, 1) := by decide +kernel
theorem de_PM_toWay_9 : decode cd_PM_toWay 9 = .ok (.lastore, 1) := by decide +kernel
theorem de_PM_toWay_10 : decode cd_PM_toWay 10 = .ok (.aload_n 0, 1) := by decide +kernel
theorem de_PM_toWay_11 : decode cd_PM_toWay 11 = .ok (.getfield 45, 3) := by decide +kernel
theorem de_PM_toWay_14 : decode cd_PM_toWay 14 = .ok (.iload_n 1, 1) := by decide +kernel
theorem de_PM_toWay_15 : decode cd_PM_toWay 15 = .ok (.laload, 1) := by decide +kernel
theorem de_PM_toWay_16 : decode cd_PM_toWay 16 = .ok (.ldc2_w 219, 3) := by decide +kernel
theorem de_PM_toWay_19 : decode cd_PM_toWay 19 = .ok (.lcmp, 1) := by decide +kernel
theorem de_PM_toWay_20 : decode cd_PM_toWay 20 = .ok (.ifCond .le 12, 3) := by decide +kernel
theorem de_PM_toWay_23 : decode cd_PM_toWay 23 = .ok (.aload_n 0, 1) := by decide +kernel
theorem de_PM_toWay_24 : decode cd_PM_toWay 24 = .ok (.getfield 45, 3) := by decide +kernel
theorem de_PM_toWay_27 : decode cd_PM_toWay 27 = .ok (.iload_n 1, 1) := by decide +kernel
theorem de_PM_toWay_28 : decode cd_PM_toWay 28 = .ok (.ldc2_w 219, 3) := by decide +kernel
theorem de_PM_toWay_31 : decode cd_PM_toWay 31 = .ok (.lastore, 1) := by decide +kernel
theorem de_PM_toWay_32 : decode cd_PM_toWay 32 = .ok (.return_, 1) := by decide +kernel
def jb_PM_toWay_32 (N : Nat) (M : mv_M) : Option (Unit × mv_M) :=
  some ((), M)
def jb_PM_toWay_0 (N : Nat) (M : mv_M) (v0 : Nat) (v1 : Int32) (v2 : Int64) : Option (Unit × mv_M) :=
  Option.bind (mj_getR M v0 1 17) fun x1 =>
  Option.bind x1 fun a6 =>
  Option.bind (mj_lld M a6 1 v1) fun x6 =>
  Option.bind (mj_lst M a6 1 v1 (x6 + v2)) fun Mm9 =>
  Option.bind (mj_getR Mm9 v0 1 17) fun x11 =>
  Option.bind x11 fun a15 =>
  Option.bind (mj_lld Mm9 a15 1 v1) fun x15 =>
  if (lg_cmp x15 1000000000000000000) ≤ 0 then (jb_PM_toWay_32 N Mm9) else
  Option.bind (mj_getR Mm9 v0 1 17) fun x24 =>
  Option.bind x24 fun a31 =>
  Option.bind (mj_lst Mm9 a31 1 v1 1000000000000000000) fun Mm31 =>
  jb_PM_toWay_32 N Mm31
def jf_PM_toWay (N : Nat) (M : mv_M) (v0 : Nat) (v1 : Int32) (v2 : Int64) : Option (Unit × mv_M) := jb_PM_toWay_0 N M v0 v1 v2
set_option maxHeartbeats 4000000 in
set_option maxRecDepth 100000 in
theorem tb_PM_toWay_32 (l : Launch) (D : va_G) (E : Nat → ClassId) (B : Nat) (sa : (Nat → Nat) × Nat × (Nat → Int32)) (M0 M1 : mv_M) (r : Unit) (N : Nat) (M : mv_M) (hJ : jb_PM_toWay_32 N M = some (r, M1)) : mv_G (xg l D E B sa) kd_PM_toWay M0 M1 none M 32 [] [] := by
  unfold jb_PM_toWay_32 at hJ
  exact mv_vret (pc := 32) rfl de_PM_toWay_32 hJ
set_option maxHeartbeats 4000000 in
set_option maxRecDepth 100000 in
theorem tb_PM_toWay_0 (l : Launch) (D : va_G) (E : Nat → ClassId) (B : Nat) (sa : (Nat → Nat) × Nat × (Nat → Int32)) (M0 M1 : mv_M) (r : Unit) (N : Nat) (M : mv_M) (v0 : Nat) (v1 : Int32) (v2 : Int64) (hJ : jb_PM_toWay_0 N M v0 v1 v2 = some (r, M1)) : mv_G (xg l D E B sa) kd_PM_toWay M0 M1 none M 0 [(0, va_rf (some v0)), (1, .int v1), (2, .long v2)] [] := by
  unfold jb_PM_toWay_0 at hJ
  refine mv_aload_n (pc := 0) (i := 0) de_PM_toWay_0 rfl 0 rfl ?_
  refine mv_getR (pc := 1) (f := 17) (kc_1 l D E B sa) (Nat.le_of_ble_eq_true rfl) wt_4_97 de_PM_toWay_1 hJ (fun x1 e1 h1 => ?_)
  refine mv_iload_n (pc := 4) (i := 1) de_PM_toWay_4 rfl 1 rfl ?_
  refine mv_dup2_11 (pc := 5) de_PM_toWay_5 rfl (mv_cat _) ?_
  obtain ⟨a6, ha, h6a⟩ := mj_bindE h1
  subst ha
  refine mv_lald (pc := 6) (t := 1) rfl de_PM_toWay_6 h6a (fun x6 e6 h6 => ?_)
  refine mv_lload_n (pc := 7) (i := 2) de_PM_toWay_7 rfl 2 rfl ?_
  refine mv_ladd (pc := 8) de_PM_toWay_8 ?_
  refine mv_last (pc := 9) (t := 1) rfl de_PM_toWay_9 h6 (fun Mm9 e9 h9 => ?_)
  refine mv_aload_n (pc := 10) (i := 0) de_PM_toWay_10 rfl 0 rfl ?_
  refine mv_getR (pc := 11) (f := 17) (kc_1 l D E B sa) (Nat.le_of_ble_eq_true rfl) wt_4_97 de_PM_toWay_11 h9 (fun x11 e11 h11 => ?_)
  refine mv_iload_n (pc := 14) (i := 1) de_PM_toWay_14 rfl 1 rfl ?_
  obtain ⟨a15, ha, h15a⟩ := mj_bindE h11
  subst ha
  refine mv_lald (pc := 15) (t := 1) rfl de_PM_toWay_15 h15a (fun x15 e15 h15 => ?_)
  refine mv_ldc2 (pc := 16) de_PM_toWay_16 wt_5_102 ?_
  refine mv_lcmp (pc := 19) de_PM_toWay_19 ?_
  refine mv_if_le (pc := 20) (tgt := 32) de_PM_toWay_20 (by decide) h15 (fun hc20 h20 => ?_) (fun hc20 h20 => ?_)
  · exact mv_sub [] rfl (tb_PM_toWay_32 l D E B sa M0 M1 r N Mm9 h20)
  · refine mv_aload_n (pc := 23) (i := 0) de_PM_toWay_23 rfl 0 rfl ?_
    refine mv_getR (pc := 24) (f := 17) (kc_1 l D E B sa) (Nat.le_of_ble_eq_true rfl) wt_4_97 de_PM_toWay_24 h20 (fun x24 e24 h24 => ?_)
    refine mv_iload_n (pc := 27) (i := 1) de_PM_toWay_27 rfl 1 rfl ?_
    refine mv_ldc2 (pc := 28) de_PM_toWay_28 wt_5_102 ?_
    obtain ⟨a31, ha, h31a⟩ := mj_bindE h24
    subst ha
    refine mv_last (pc := 31) (t := 1) rfl de_PM_toWay_31 h31a (fun Mm31 e31 h31 => ?_)
    exact mv_sub [] rfl (tb_PM_toWay_32 l D E B sa M0 M1 r N Mm31 h31)
theorem cm_PM_toWay (l : Launch) (D : va_G) (E : Nat → ClassId) (B : Nat) (sa : (Nat → Nat) × Nat × (Nat → Int32)) (N : Nat) (M : mv_M) (v0 : Nat) (v1 : Int32) (v2 : Int64) (r : Unit) (M1 : mv_M) (hJ : jf_PM_toWay N M v0 v1 v2 = some (r, M1)) : mv_Met (xg l D E B sa) yn_PM_toWay cd_PM_toWay 4 none 0 0 [va_rf (some v0), .int v1, .long v2] M none M1 :=
  mv_enter (by decide) (Nat.le_of_ble_eq_true rfl) (mv_sub (lv := [(0, va_rf (some v0)), (1, .int v1), (2, .long v2)]) [0, 1, 2] rfl (tb_PM_toWay_0 l D E B sa M M1 r N M v0 v1 v2 hJ))
/-! ===== PlainLearnerModel.ways(II)J ===== -/
abbrev kd_PM_ways : mv_Kd := (cd_PM_ways, 4, "PlainLearnerModel", "ways", (some .long), 2, 46)
theorem de_PM_ways_0 : decode cd_PM_ways 0 = .ok (.aload_n 0, 1) := by decide +kernel
theorem de_PM_ways_1 : decode cd_PM_ways 1 = .ok (.iload_n 1, 1) := by decide +kernel
theorem de_PM_ways_2 : decode cd_PM_ways 2 = .ok (.invokevirtual 107, 3) := by decide +kernel
theorem de_PM_ways_5 : decode cd_PM_ways 5 = .ok (.ifCond .eq 14, 3) := by decide +kernel
theorem de_PM_ways_8 : decode cd_PM_ways 8 = .ok (.iload_n 2, 1) := by decide +kernel
theorem de_PM_ways_9 : decode cd_PM_ways 9 = .ok (.i2l, 1) := by decide +kernel
theorem de_PM_ways_10 : decode cd_PM_ways 10 = .ok (.lconst 0, 1) := by decide +kernel
theorem de_PM_ways_11 : decode cd_PM_ways 11 = .ok (.iload_n 1, 1) := by decide +kernel
theorem de_PM_ways_12 : decode cd_PM_ways 12 = .ok (.i2l, 1) := by decide +kernel
theorem de_PM_ways_13 : decode cd_PM_ways 13 = .ok (.invokestatic 99, 3) := by decide +kernel
theorem de_PM_ways_16 : decode cd_PM_ways 16 = .ok (.ifCond .ne 7, 3) := by decide +kernel
theorem de_PM_ways_19 : decode cd_PM_ways 19 = .ok (.ldc2_w 210, 3) := by decide +kernel
theorem de_PM_ways_22 : decode cd_PM_ways 22 = .ok (.lreturn, 1) := by decide +kernel
theorem de_PM_ways_23 : decode cd_PM_ways 23 = .ok (.iconst 0, 1) := by decide +kernel
theorem de_PM_ways_24 : decode cd_PM_ways 24 = .ok (.istore_n 3, 1) := by decide +kernel
theorem de_PM_ways_25 : decode cd_PM_ways 25 = .ok (.iload_n 3, 1) := by decide +kernel
theorem de_PM_ways_26 : decode cd_PM_ways 26 = .ok (.iload_n 1, 1) := by decide +kernel
theorem de_PM_ways_27 : decode cd_PM_ways 27 = .ok (.if_icmp .gt 16, 3) := by decide +kernel
theorem de_PM_ways_30 : decode cd_PM_ways 30 = .ok (.aload_n 0, 1) := by decide +kernel
theorem de_PM_ways_31 : decode cd_PM_ways 31 = .ok (.getfield 45, 3) := by decide +kernel
theorem de_PM_ways_34 : decode cd_PM_ways 34 = .ok (.iload_n 3, 1) := by decide +kernel
theorem de_PM_ways_35 : decode cd_PM_ways 35 = .ok (.lconst 0, 1) := by decide +kernel
theorem de_PM_ways_36 : decode cd_PM_ways 36 = .ok (.lastore, 1) := by decide +kernel
theorem de_PM_ways_37 : decode cd_PM_ways 37 = .ok (.iinc 3 1, 3) := by decide +kernel
theorem de_PM_ways_40 : decode cd_PM_ways 40 = .ok (.goto (-15), 3) := by decide +kernel
theorem de_PM_ways_43 : decode cd_PM_ways 43 = .ok (.aload_n 0, 1) := by decide +kernel
theorem de_PM_ways_44 : decode cd_PM_ways 44 = .ok (.getfield 45, 3) := by decide +kernel
theorem de_PM_ways_47 : decode cd_PM_ways 47 = .ok (.iload_n 1, 1) := by decide +kernel
theorem de_PM_ways_48 : decode cd_PM_ways 48 = .ok (.lconst 1, 1) := by decide +kernel
theorem de_PM_ways_49 : decode cd_PM_ways 49 = .ok (.lastore, 1) := by decide +kernel
theorem de_PM_ways_50 : decode cd_PM_ways 50 = .ok (.iload_n 1, 1) := by decide +kernel
theorem de_PM_ways_51 : decode cd_PM_ways 51 = .ok (.istore_n 3, 1) := by decide +kernel
theorem de_PM_ways_52 : decode cd_PM_ways 52 = .ok (.iload_n 3, 1) := by decide +kernel
theorem de_PM_ways_53 : decode cd_PM_ways 53 = .ok (.iload_n 2, 1) := by decide +kernel
theorem de_PM_ways_54 : decode cd_PM_ways 54 = .ok (.if_icmp .le 65, 3) := by decide +kernel
theorem de_PM_ways_57 : decode cd_PM_ways 57 = .ok (.aload_n 0, 1) := by decide +kernel
theorem de_PM_ways_58 : decode cd_PM_ways 58 = .ok (.getfield 7, 3) := by decide +kernel
theorem de_PM_ways_61 : decode cd_PM_ways 61 = .ok (.iload_n 3, 1) := by decide +kernel
theorem de_PM_ways_62 : decode cd_PM_ways 62 = .ok (.iaload, 1) := by decide +kernel
theorem de_PM_ways_63 : decode cd_PM_ways 63 = .ok (.bipush (-2), 2) := by decide +kernel
theorem de_PM_ways_65 : decode cd_PM_ways 65 = .ok (.if_icmp .ne 6, 3) := by decide +kernel
theorem de_PM_ways_68 : decode cd_PM_ways 68 = .ok (.goto 45, 3) := by decide +kernel
theorem de_PM_ways_71 : decode cd_PM_ways 71 = .ok (.aload_n 0, 1) := by decide +kernel
theorem de_PM_ways_72 : decode cd_PM_ways 72 = .ok (.aload_n 0, 1) := by decide +kernel
theorem de_PM_ways_73 : decode cd_PM_ways 73 = .ok (.getfield 13, 3) := by decide +kernel
theorem de_PM_ways_76 : decode cd_PM_ways 76 = .ok (.iload_n 3, 1) := by decide +kernel
theorem de_PM_ways_77 : decode cd_PM_ways 77 = .ok (.iaload, 1) := by decide +kernel
theorem de_PM_ways_78 : decode cd_PM_ways 78 = .ok (.aload_n 0, 1) := by decide +kernel
theorem de_PM_ways_79 : decode cd_PM_ways 79 = .ok (.getfield 45, 3) := by decide +kernel
theorem de_PM_ways_82 : decode cd_PM_ways 82 = .ok (.iload_n 3, 1) := by decide +kernel
theorem de_PM_ways_83 : decode cd_PM_ways 83 = .ok (.laload, 1) := by decide +kernel
theorem de_PM_ways_84 : decode cd_PM_ways 84 = .ok (.invokevirtual 215, 3) := by decide +kernel
theorem de_PM_ways_87 : decode cd_PM_ways 87 = .ok (.aload_n 0, 1) := by decide +kernel
theorem de_PM_ways_88 : decode cd_PM_ways 88 = .ok (.getfield 7, 3) := by decide +kernel
theorem de_PM_ways_91 : decode cd_PM_ways 91 = .ok (.iload_n 3, 1) := by decide +kernel
theorem de_PM_ways_92 : decode cd_PM_ways 92 = .ok (.iaload, 1) := by decide +kernel
theorem de_PM_ways_93 : decode cd_PM_ways 93 = .ok (.iconst 5, 1) := by decide +kernel
theorem de_PM_ways_94 : decode cd_PM_ways 94 = .ok (.if_icmp .ge 19, 3) := by decide +kernel
theorem de_PM_ways_97 : decode cd_PM_ways 97 = .ok (.aload_n 0, 1) := by decide +kernel
theorem de_PM_ways_98 : decode cd_PM_ways 98 = .ok (.aload_n 0, 1) := by decide +kernel
theorem de_PM_ways_99 : decode cd_PM_ways 99 = .ok (.getfield 16, 3) := by decide +kernel
theorem de_PM_ways_102 : decode cd_PM_ways 102 = .ok (.iload_n 3, 1) := by decide +kernel
theorem de_PM_ways_103 : decode cd_PM_ways 103 = .ok (.iaload, 1) := by decide +kernel
theorem de_PM_ways_104 : decode cd_PM_ways 104 = .ok (.aload_n 0, 1) := by decide +kernel
theorem de_PM_ways_105 : decode cd_PM_ways 105 = .ok (.getfield 45, 3) := by decide +kernel
theorem de_PM_ways_108 : decode cd_PM_ways 108 = .ok (.iload_n 3, 1) := by decide +kernel
theorem de_PM_ways_109 : decode cd_PM_ways 109 = .ok (.laload, 1) := by decide +kernel
theorem de_PM_ways_110 : decode cd_PM_ways 110 = .ok (.invokevirtual 215, 3) := by decide +kernel
theorem de_PM_ways_113 : decode cd_PM_ways 113 = .ok (.iinc 3 (-1), 3) := by decide +kernel
theorem de_PM_ways_116 : decode cd_PM_ways 116 = .ok (.goto (-64), 3) := by decide +kernel
theorem de_PM_ways_119 : decode cd_PM_ways 119 = .ok (.aload_n 0, 1) := by decide +kernel
theorem de_PM_ways_120 : decode cd_PM_ways 120 = .ok (.getfield 45, 3) := by decide +kernel
theorem de_PM_ways_123 : decode cd_PM_ways 123 = .ok (.iload_n 2, 1) := by decide +kernel
theorem de_PM_ways_124 : decode cd_PM_ways 124 = .ok (.laload, 1) := by decide +kernel
theorem de_PM_ways_125 : decode cd_PM_ways 125 = .ok (.lreturn, 1) := by decide +kernel
def jb_PM_ways_19 (N : Nat) (M : mv_M) : Option (Int64 × mv_M) :=
  some ((-1), M)
def jb_PM_ways_113 (N : Nat) (k52 : mv_M → Nat → Int32 → Int32 → Option (Int64 × mv_M)) (M : mv_M) (v0 : Nat) (v2 : Int32) (v3 : Int32) : Option (Int64 × mv_M) :=
  k52 M v0 v2 (v3 + (-1))
def jb_PM_ways_52 (N : Nat) : Nat → mv_M → Nat → Int32 → Int32 → Option (Int64 × mv_M)
  | 0, _, _, _, _ => none
  | n + 1, M, v0, v2, v3 =>
    if v3 ≤ v2 then (Option.bind (mj_getR M v0 1 17) fun x120 =>
    Option.bind x120 fun a124 =>
    Option.bind (mj_lld M a124 1 v2) fun x124 =>
    some (x124, M)) else
    Option.bind (mj_getR M v0 1 3) fun x58 =>
    Option.bind x58 fun a62 =>
    Option.bind (mj_ild M a62 0 v3) fun x62 =>
    if x62 = (-2) then (jb_PM_ways_113 N (jb_PM_ways_52 N n) M v0 v2 v3) else
    Option.bind (mj_getR M v0 1 4) fun x73 =>
    Option.bind x73 fun a77 =>
    Option.bind (mj_ild M a77 0 v3) fun x77 =>
    Option.bind (mj_getR M v0 1 17) fun x79 =>
    Option.bind x79 fun a83 =>
    Option.bind (mj_lld M a83 1 v3) fun x83 =>
    mj_ob M v0 1 <|
    mj_call (jf_PM_toWay N M v0 x77 x83) fun r84 Mm84 =>
    Option.bind (mj_getR Mm84 v0 1 3) fun x88 =>
    Option.bind x88 fun a92 =>
    Option.bind (mj_ild Mm84 a92 0 v3) fun x92 =>
    if 5 ≤ x92 then (jb_PM_ways_113 N (jb_PM_ways_52 N n) Mm84 v0 v2 v3) else
    Option.bind (mj_getR Mm84 v0 1 5) fun x99 =>
    Option.bind x99 fun a103 =>
    Option.bind (mj_ild Mm84 a103 0 v3) fun x103 =>
    Option.bind (mj_getR Mm84 v0 1 17) fun x105 =>
    Option.bind x105 fun a109 =>
    Option.bind (mj_lld Mm84 a109 1 v3) fun x109 =>
    mj_ob Mm84 v0 1 <|
    mj_call (jf_PM_toWay N Mm84 v0 x103 x109) fun r110 Mm110 =>
    jb_PM_ways_113 N (jb_PM_ways_52 N n) Mm110 v0 v2 v3
def jb_PM_ways_25 (N : Nat) : Nat → mv_M → Nat → Int32 → Int32 → Int32 → Option (Int64 × mv_M)
  | 0, _, _, _, _, _ => none
  | n + 1, M, v0, v1, v2, v3 =>
    if v1 < v3 then (Option.bind (mj_getR M v0 1 17) fun x44 =>
    Option.bind x44 fun a49 =>
    Option.bind (mj_lst M a49 1 v1 1) fun Mm49 =>
    jb_PM_ways_52 N N Mm49 v0 v2 v1) else
    Option.bind (mj_getR M v0 1 17) fun x31 =>
    Option.bind x31 fun a36 =>
    Option.bind (mj_lst M a36 1 v3 0) fun Mm36 =>
    jb_PM_ways_25 N n Mm36 v0 v1 v2 (v3 + 1)
def jb_PM_ways_0 (N : Nat) (M : mv_M) (v0 : Nat) (v1 : Int32) (v2 : Int32) : Option (Int64 × mv_M) :=
  mj_ob M v0 1 <|
  mj_call (jf_PM_isNode N M v0 v1) fun r2 Mm2 =>
  if r2 = 0 then (jb_PM_ways_19 N Mm2) else
  mj_call (jf_PM_isIn N Mm2 v2.toInt64 0 v1.toInt64) fun r13 Mm13 =>
  if r13 = 0 then (jb_PM_ways_19 N Mm13) else
  jb_PM_ways_25 N N Mm13 v0 v1 v2 0
def jf_PM_ways (N : Nat) (M : mv_M) (v0 : Nat) (v1 : Int32) (v2 : Int32) : Option (Int64 × mv_M) := jb_PM_ways_0 N M v0 v1 v2
set_option maxHeartbeats 4000000 in
set_option maxRecDepth 100000 in
theorem tb_PM_ways_19 (l : Launch) (D : va_G) (E : Nat → ClassId) (B : Nat) (sa : (Nat → Nat) × Nat × (Nat → Int32)) (M0 M1 : mv_M) (r : Int64) (N : Nat) (M : mv_M) (hJ : jb_PM_ways_19 N M = some (r, M1)) : mv_G (xg l D E B sa) kd_PM_ways M0 M1 (some (.long r)) M 19 [] [] := by
  unfold jb_PM_ways_19 at hJ
  refine mv_ldc2 (pc := 19) de_PM_ways_19 wt_5_89 ?_
  exact mv_lret (pc := 22) rfl de_PM_ways_22 hJ
set_option maxHeartbeats 4000000 in
set_option maxRecDepth 100000 in
theorem tb_PM_ways_113 (l : Launch) (D : va_G) (E : Nat → ClassId) (B : Nat) (sa : (Nat → Nat) × Nat × (Nat → Int32)) (M0 M1 : mv_M) (r : Int64) (N : Nat) (k52 : mv_M → Nat → Int32 → Int32 → Option (Int64 × mv_M)) (hk52 : ∀ (M : mv_M) (v0 : Nat) (v2 : Int32) (v3 : Int32), k52 M v0 v2 v3 = some (r, M1) → mv_G (xg l D E B sa) kd_PM_ways M0 M1 (some (.long r)) M 52 [(0, va_rf (some v0)), (2, .int v2), (3, .int v3)] []) (M : mv_M) (v0 : Nat) (v2 : Int32) (v3 : Int32) (hJ : jb_PM_ways_113 N k52 M v0 v2 v3 = some (r, M1)) : mv_G (xg l D E B sa) kd_PM_ways M0 M1 (some (.long r)) M 113 [(0, va_rf (some v0)), (2, .int v2), (3, .int v3)] [] := by
  unfold jb_PM_ways_113 at hJ
  refine mv_iinc (pc := 113) (v := (v3 + (-1))) (lv' := [(3, .int (v3 + (-1))), (0, va_rf (some v0)), (2, .int v2)]) de_PM_ways_113 2 rfl rfl (Nat.le_of_ble_eq_true rfl) rfl ?_
  refine mv_goto (pc := 116) (tgt := 52) de_PM_ways_116 (by decide) ?_
  exact mv_sub [1, 2, 0] rfl (hk52 M v0 v2 (v3 + (-1)) hJ)
set_option maxHeartbeats 4000000 in
set_option maxRecDepth 100000 in
theorem tb_PM_ways_52 (l : Launch) (D : va_G) (E : Nat → ClassId) (B : Nat) (sa : (Nat → Nat) × Nat × (Nat → Int32)) (M0 M1 : mv_M) (r : Int64) (N : Nat) : ∀ (n : Nat) (M : mv_M) (v0 : Nat) (v2 : Int32) (v3 : Int32) (hJ : jb_PM_ways_52 N n M v0 v2 v3 = some (r, M1)), mv_G (xg l D E B sa) kd_PM_ways M0 M1 (some (.long r)) M 52 [(0, va_rf (some v0)), (2, .int v2), (3, .int v3)] [] := by
  intro n
  induction n with
  | zero => intro M v0 v2 v3 hJ; cases hJ
  | succ n ih =>
    intro M v0 v2 v3 hJ
    rw [jb_PM_ways_52] at hJ
    refine mv_iload_n (pc := 52) (i := 3) de_PM_ways_52 rfl 2 rfl ?_
    refine mv_iload_n (pc := 53) (i := 2) de_PM_ways_53 rfl 1 rfl ?_
    refine mv_icmp_le (pc := 54) (tgt := 119) de_PM_ways_54 (by decide) hJ (fun hc54 h54 => ?_) (fun hc54 h54 => ?_)
    · refine mv_aload_n (pc := 119) (i := 0) de_PM_ways_119 rfl 0 rfl ?_
      refine mv_getR (pc := 120) (f := 17) (kc_1 l D E B sa) (Nat.le_of_ble_eq_true rfl) wt_4_97 de_PM_ways_120 h54 (fun x120 e120 h120 => ?_)
      refine mv_iload_n (pc := 123) (i := 2) de_PM_ways_123 rfl 1 rfl ?_
      obtain ⟨a124, ha, h124a⟩ := mj_bindE h120
      subst ha
      refine mv_lald (pc := 124) (t := 1) rfl de_PM_ways_124 h124a (fun x124 e124 h124 => ?_)
      exact mv_lret (pc := 125) rfl de_PM_ways_125 h124
    · refine mv_aload_n (pc := 57) (i := 0) de_PM_ways_57 rfl 0 rfl ?_
      refine mv_getR (pc := 58) (f := 3) (kc_1 l D E B sa) (Nat.le_of_ble_eq_true rfl) wt_4_83 de_PM_ways_58 h54 (fun x58 e58 h58 => ?_)
      refine mv_iload_n (pc := 61) (i := 3) de_PM_ways_61 rfl 2 rfl ?_
      obtain ⟨a62, ha, h62a⟩ := mj_bindE h58
      subst ha
      refine mv_iald (pc := 62) (t := 0) rfl de_PM_ways_62 h62a (fun x62 e62 h62 => ?_)
      refine mv_bipush (pc := 63) (v := (-2)) de_PM_ways_63 (by decide) ?_
      refine mv_icmp_ne (pc := 65) (tgt := 71) de_PM_ways_65 (by decide) h62 (fun hc65 h65 => ?_) (fun hc65 h65 => ?_)
      · refine mv_goto (pc := 68) (tgt := 113) de_PM_ways_68 (by decide) ?_
        exact mv_sub [0, 1, 2] rfl (tb_PM_ways_113 l D E B sa M0 M1 r N (jb_PM_ways_52 N n) ih M v0 v2 v3 h65)
      · refine mv_aload_n (pc := 71) (i := 0) de_PM_ways_71 rfl 0 rfl ?_
        refine mv_aload_n (pc := 72) (i := 0) de_PM_ways_72 rfl 0 rfl ?_
        refine mv_getR (pc := 73) (f := 4) (kc_1 l D E B sa) (Nat.le_of_ble_eq_true rfl) wt_4_84 de_PM_ways_73 h65 (fun x73 e73 h73 => ?_)
        refine mv_iload_n (pc := 76) (i := 3) de_PM_ways_76 rfl 2 rfl ?_
        obtain ⟨a77, ha, h77a⟩ := mj_bindE h73
        subst ha
        refine mv_iald (pc := 77) (t := 0) rfl de_PM_ways_77 h77a (fun x77 e77 h77 => ?_)
        refine mv_aload_n (pc := 78) (i := 0) de_PM_ways_78 rfl 0 rfl ?_
        refine mv_getR (pc := 79) (f := 17) (kc_1 l D E B sa) (Nat.le_of_ble_eq_true rfl) wt_4_97 de_PM_ways_79 h77 (fun x79 e79 h79 => ?_)
        refine mv_iload_n (pc := 82) (i := 3) de_PM_ways_82 rfl 2 rfl ?_
        obtain ⟨a83, ha, h83a⟩ := mj_bindE h79
        subst ha
        refine mv_lald (pc := 83) (t := 1) rfl de_PM_ways_83 h83a (fun x83 e83 h83 => ?_)
        obtain ⟨hi84, h84o⟩ := mj_obE h83
        obtain ⟨r84, Mm84, hz84, h84⟩ := mj_callE h84o
        refine mv_callV (pc := 84) (n := 2) (av := [.int x77, .long x83]) (rest := []) de_PM_ways_84 (kc_1 l D E B sa) hi84 (cm_PM_toWay l D E B sa N M v0 x77 x83 _ _ hz84) wt_5_98 wt_5_100 wp_52 wt_1_8 wt_5_101 ⟨by decide, by decide, by decide +kernel⟩ rfl ⟨Nat.le_of_ble_eq_true rfl, Nat.le_of_ble_eq_true rfl⟩ (Nat.le_of_ble_eq_true rfl) rfl ?_
        refine mv_aload_n (pc := 87) (i := 0) de_PM_ways_87 rfl 0 rfl ?_
        refine mv_getR (pc := 88) (f := 3) (kc_1 l D E B sa) (Nat.le_of_ble_eq_true rfl) wt_4_83 de_PM_ways_88 h84 (fun x88 e88 h88 => ?_)
        refine mv_iload_n (pc := 91) (i := 3) de_PM_ways_91 rfl 2 rfl ?_
        obtain ⟨a92, ha, h92a⟩ := mj_bindE h88
        subst ha
        refine mv_iald (pc := 92) (t := 0) rfl de_PM_ways_92 h92a (fun x92 e92 h92 => ?_)
        refine mv_iconst (pc := 93) (v := 5) de_PM_ways_93 (by decide) ?_
        refine mv_icmp_ge (pc := 94) (tgt := 113) de_PM_ways_94 (by decide) h92 (fun hc94 h94 => ?_) (fun hc94 h94 => ?_)
        · exact mv_sub [0, 1, 2] rfl (tb_PM_ways_113 l D E B sa M0 M1 r N (jb_PM_ways_52 N n) ih Mm84 v0 v2 v3 h94)
        · refine mv_aload_n (pc := 97) (i := 0) de_PM_ways_97 rfl 0 rfl ?_
          refine mv_aload_n (pc := 98) (i := 0) de_PM_ways_98 rfl 0 rfl ?_
          refine mv_getR (pc := 99) (f := 5) (kc_1 l D E B sa) (Nat.le_of_ble_eq_true rfl) wt_4_85 de_PM_ways_99 h94 (fun x99 e99 h99 => ?_)
          refine mv_iload_n (pc := 102) (i := 3) de_PM_ways_102 rfl 2 rfl ?_
          obtain ⟨a103, ha, h103a⟩ := mj_bindE h99
          subst ha
          refine mv_iald (pc := 103) (t := 0) rfl de_PM_ways_103 h103a (fun x103 e103 h103 => ?_)
          refine mv_aload_n (pc := 104) (i := 0) de_PM_ways_104 rfl 0 rfl ?_
          refine mv_getR (pc := 105) (f := 17) (kc_1 l D E B sa) (Nat.le_of_ble_eq_true rfl) wt_4_97 de_PM_ways_105 h103 (fun x105 e105 h105 => ?_)
          refine mv_iload_n (pc := 108) (i := 3) de_PM_ways_108 rfl 2 rfl ?_
          obtain ⟨a109, ha, h109a⟩ := mj_bindE h105
          subst ha
          refine mv_lald (pc := 109) (t := 1) rfl de_PM_ways_109 h109a (fun x109 e109 h109 => ?_)
          obtain ⟨hi110, h110o⟩ := mj_obE h109
          obtain ⟨r110, Mm110, hz110, h110⟩ := mj_callE h110o
          refine mv_callV (pc := 110) (n := 2) (av := [.int x103, .long x109]) (rest := []) de_PM_ways_110 (kc_1 l D E B sa) hi110 (cm_PM_toWay l D E B sa N Mm84 v0 x103 x109 _ _ hz110) wt_5_98 wt_5_100 wp_52 wt_1_8 wt_5_101 ⟨by decide, by decide, by decide +kernel⟩ rfl ⟨Nat.le_of_ble_eq_true rfl, Nat.le_of_ble_eq_true rfl⟩ (Nat.le_of_ble_eq_true rfl) rfl ?_
          exact mv_sub [0, 1, 2] rfl (tb_PM_ways_113 l D E B sa M0 M1 r N (jb_PM_ways_52 N n) ih Mm110 v0 v2 v3 h110)
set_option maxHeartbeats 4000000 in
set_option maxRecDepth 100000 in
theorem tb_PM_ways_25 (l : Launch) (D : va_G) (E : Nat → ClassId) (B : Nat) (sa : (Nat → Nat) × Nat × (Nat → Int32)) (M0 M1 : mv_M) (r : Int64) (N : Nat) : ∀ (n : Nat) (M : mv_M) (v0 : Nat) (v1 : Int32) (v2 : Int32) (v3 : Int32) (hJ : jb_PM_ways_25 N n M v0 v1 v2 v3 = some (r, M1)), mv_G (xg l D E B sa) kd_PM_ways M0 M1 (some (.long r)) M 25 [(0, va_rf (some v0)), (1, .int v1), (2, .int v2), (3, .int v3)] [] := by
  intro n
  induction n with
  | zero => intro M v0 v1 v2 v3 hJ; cases hJ
  | succ n ih =>
    intro M v0 v1 v2 v3 hJ
    rw [jb_PM_ways_25] at hJ
    refine mv_iload_n (pc := 25) (i := 3) de_PM_ways_25 rfl 3 rfl ?_
    refine mv_iload_n (pc := 26) (i := 1) de_PM_ways_26 rfl 1 rfl ?_
    refine mv_icmp_gt (pc := 27) (tgt := 43) de_PM_ways_27 (by decide) hJ (fun hc27 h27 => ?_) (fun hc27 h27 => ?_)
    · refine mv_aload_n (pc := 43) (i := 0) de_PM_ways_43 rfl 0 rfl ?_
      refine mv_getR (pc := 44) (f := 17) (kc_1 l D E B sa) (Nat.le_of_ble_eq_true rfl) wt_4_97 de_PM_ways_44 h27 (fun x44 e44 h44 => ?_)
      refine mv_iload_n (pc := 47) (i := 1) de_PM_ways_47 rfl 1 rfl ?_
      refine mv_lconst (pc := 48) (v := 1) de_PM_ways_48 (by decide) ?_
      obtain ⟨a49, ha, h49a⟩ := mj_bindE h44
      subst ha
      refine mv_last (pc := 49) (t := 1) rfl de_PM_ways_49 h49a (fun Mm49 e49 h49 => ?_)
      refine mv_iload_n (pc := 50) (i := 1) de_PM_ways_50 rfl 1 rfl ?_
      refine mv_istore_n (pc := 51) (i := 3) (lv' := [(3, .int v1), (0, va_rf (some v0)), (1, .int v1), (2, .int v2)]) de_PM_ways_51 rfl (Nat.le_of_ble_eq_true rfl) rfl ?_
      exact mv_sub [1, 3, 0] rfl (tb_PM_ways_52 l D E B sa M0 M1 r N N Mm49 v0 v2 v1 h49)
    · refine mv_aload_n (pc := 30) (i := 0) de_PM_ways_30 rfl 0 rfl ?_
      refine mv_getR (pc := 31) (f := 17) (kc_1 l D E B sa) (Nat.le_of_ble_eq_true rfl) wt_4_97 de_PM_ways_31 h27 (fun x31 e31 h31 => ?_)
      refine mv_iload_n (pc := 34) (i := 3) de_PM_ways_34 rfl 3 rfl ?_
      refine mv_lconst (pc := 35) (v := 0) de_PM_ways_35 (by decide) ?_
      obtain ⟨a36, ha, h36a⟩ := mj_bindE h31
      subst ha
      refine mv_last (pc := 36) (t := 1) rfl de_PM_ways_36 h36a (fun Mm36 e36 h36 => ?_)
      refine mv_iinc (pc := 37) (v := (v3 + 1)) (lv' := [(3, .int (v3 + 1)), (0, va_rf (some v0)), (1, .int v1), (2, .int v2)]) de_PM_ways_37 3 rfl rfl (Nat.le_of_ble_eq_true rfl) rfl ?_
      refine mv_goto (pc := 40) (tgt := 25) de_PM_ways_40 (by decide) ?_
      exact mv_sub [1, 2, 3, 0] rfl (ih Mm36 v0 v1 v2 (v3 + 1) h36)
set_option maxHeartbeats 4000000 in
set_option maxRecDepth 100000 in
theorem tb_PM_ways_0 (l : Launch) (D : va_G) (E : Nat → ClassId) (B : Nat) (sa : (Nat → Nat) × Nat × (Nat → Int32)) (M0 M1 : mv_M) (r : Int64) (N : Nat) (M : mv_M) (v0 : Nat) (v1 : Int32) (v2 : Int32) (hJ : jb_PM_ways_0 N M v0 v1 v2 = some (r, M1)) : mv_G (xg l D E B sa) kd_PM_ways M0 M1 (some (.long r)) M 0 [(0, va_rf (some v0)), (1, .int v1), (2, .int v2)] [] := by
  unfold jb_PM_ways_0 at hJ
  refine mv_aload_n (pc := 0) (i := 0) de_PM_ways_0 rfl 0 rfl ?_
  refine mv_iload_n (pc := 1) (i := 1) de_PM_ways_1 rfl 1 rfl ?_
  obtain ⟨hi2, h2o⟩ := mj_obE hJ
  obtain ⟨r2, Mm2, hz2, h2⟩ := mj_callE h2o
  refine mv_callV (pc := 2) (n := 1) (av := [.int v1]) (rest := []) de_PM_ways_2 (kc_1 l D E B sa) hi2 (cm_PM_isNode l D E B sa N M v0 v1 _ _ hz2) wt_4_209 wt_4_211 wp_27 wt_1_8 wt_4_212 ⟨by decide, by decide, by decide +kernel⟩ rfl ⟨Nat.le_of_ble_eq_true rfl, Nat.le_of_ble_eq_true rfl⟩ (Nat.le_of_ble_eq_true rfl) rfl ?_
  refine mv_if_eq (pc := 5) (tgt := 19) de_PM_ways_5 (by decide) h2 (fun hc5 h5 => ?_) (fun hc5 h5 => ?_)
  · exact mv_sub [] rfl (tb_PM_ways_19 l D E B sa M0 M1 r N Mm2 h5)
  · refine mv_iload_n (pc := 8) (i := 2) de_PM_ways_8 rfl 2 rfl ?_
    refine mv_i2l (pc := 9) de_PM_ways_9 ?_
    refine mv_lconst (pc := 10) (v := 0) de_PM_ways_10 (by decide) ?_
    refine mv_iload_n (pc := 11) (i := 1) de_PM_ways_11 rfl 1 rfl ?_
    refine mv_i2l (pc := 12) de_PM_ways_12 ?_
    obtain ⟨r13, Mm13, hz13, h13⟩ := mj_callE h5
    refine mv_callS (pc := 13) (n := 3) (av := [.long v2.toInt64, .long 0, .long v1.toInt64]) (rest := []) de_PM_ways_13 (cm_PM_isIn l D E B sa N Mm2 v2.toInt64 0 v1.toInt64 _ _ hz13) wt_4_197 wt_4_198 wt_1_8 wt_4_199 ⟨by decide, by decide, by decide +kernel⟩ rfl ⟨Nat.le_of_ble_eq_true rfl, Nat.le_of_ble_eq_true rfl⟩ (Nat.le_of_ble_eq_true rfl) rfl ?_
    refine mv_if_ne (pc := 16) (tgt := 23) de_PM_ways_16 (by decide) h13 (fun hc16 h16 => ?_) (fun hc16 h16 => ?_)
    · exact mv_sub [] rfl (tb_PM_ways_19 l D E B sa M0 M1 r N Mm13 h16)
    · refine mv_iconst (pc := 23) (v := 0) de_PM_ways_23 (by decide) ?_
      refine mv_istore_n (pc := 24) (i := 3) (lv' := [(3, .int 0), (0, va_rf (some v0)), (1, .int v1), (2, .int v2)]) de_PM_ways_24 rfl (Nat.le_of_ble_eq_true rfl) rfl ?_
      exact mv_sub [1, 2, 3, 0] rfl (tb_PM_ways_25 l D E B sa M0 M1 r N N Mm13 v0 v1 v2 0 h16)
theorem cm_PM_ways (l : Launch) (D : va_G) (E : Nat → ClassId) (B : Nat) (sa : (Nat → Nat) × Nat × (Nat → Int32)) (N : Nat) (M : mv_M) (v0 : Nat) (v1 : Int32) (v2 : Int32) (r : Int64) (M1 : mv_M) (hJ : jf_PM_ways N M v0 v1 v2 = some (r, M1)) : mv_Met (xg l D E B sa) yn_PM_ways cd_PM_ways 4 (some .long) 2 46 [va_rf (some v0), .int v1, .int v2] M (some (.long r)) M1 :=
  mv_enter (by decide) (Nat.le_of_ble_eq_true rfl) (mv_sub (lv := [(0, va_rf (some v0)), (1, .int v1), (2, .int v2)]) [0, 1, 2] rfl (tb_PM_ways_0 l D E B sa M M1 r N M v0 v1 v2 hJ))
/-! ===== PlainLearnerModel.parameter(IZ)I ===== -/
abbrev kd_PM_parameter : mv_Kd := (cd_PM_parameter, 4, "PlainLearnerModel", "parameter", (some .int), 3, 67)
theorem de_PM_parameter_0 : decode cd_PM_parameter 0 = .ok (.aload_n 0, 1) := by decide +kernel
theorem de_PM_parameter_1 : decode cd_PM_parameter 1 = .ok (.iload_n 1, 1) := by decide +kernel
theorem de_PM_parameter_2 : decode cd_PM_parameter 2 = .ok (.invokevirtual 111, 3) := by decide +kernel
theorem de_PM_parameter_5 : decode cd_PM_parameter 5 = .ok (.ifCond .ne 5, 3) := by decide +kernel
theorem de_PM_parameter_8 : decode cd_PM_parameter 8 = .ok (.iconst (-1), 1) := by decide +kernel
theorem de_PM_parameter_9 : decode cd_PM_parameter 9 = .ok (.ireturn, 1) := by decide +kernel
theorem de_PM_parameter_10 : decode cd_PM_parameter 10 = .ok (.aload_n 0, 1) := by decide +kernel
theorem de_PM_parameter_11 : decode cd_PM_parameter 11 = .ok (.getfield 25, 3) := by decide +kernel
theorem de_PM_parameter_14 : decode cd_PM_parameter 14 = .ok (.iload_n 1, 1) := by decide +kernel
theorem de_PM_parameter_15 : decode cd_PM_parameter 15 = .ok (.baload, 1) := by decide +kernel
theorem de_PM_parameter_16 : decode cd_PM_parameter 16 = .ok (.istore_n 3, 1) := by decide +kernel
theorem de_PM_parameter_17 : decode cd_PM_parameter 17 = .ok (.aload_n 0, 1) := by decide +kernel
theorem de_PM_parameter_18 : decode cd_PM_parameter 18 = .ok (.getfield 25, 3) := by decide +kernel
theorem de_PM_parameter_21 : decode cd_PM_parameter 21 = .ok (.iload_n 1, 1) := by decide +kernel
theorem de_PM_parameter_22 : decode cd_PM_parameter 22 = .ok (.iload_n 2, 1) := by decide +kernel
theorem de_PM_parameter_23 : decode cd_PM_parameter 23 = .ok (.bastore, 1) := by decide +kernel
theorem de_PM_parameter_24 : decode cd_PM_parameter 24 = .ok (.iload_n 3, 1) := by decide +kernel
theorem de_PM_parameter_25 : decode cd_PM_parameter 25 = .ok (.ifCond .eq 7, 3) := by decide +kernel
theorem de_PM_parameter_28 : decode cd_PM_parameter 28 = .ok (.iconst 1, 1) := by decide +kernel
theorem de_PM_parameter_29 : decode cd_PM_parameter 29 = .ok (.goto 4, 3) := by decide +kernel
theorem de_PM_parameter_32 : decode cd_PM_parameter 32 = .ok (.iconst 0, 1) := by decide +kernel
theorem de_PM_parameter_33 : decode cd_PM_parameter 33 = .ok (.ireturn, 1) := by decide +kernel
def jb_PM_parameter_33 (N : Nat) (M : mv_M) (s0 : Int32) : Option (Int32 × mv_M) :=
  some (s0, M)
def jb_PM_parameter_0 (N : Nat) (M : mv_M) (v0 : Nat) (v1 : Int32) (v2 : Int32) : Option (Int32 × mv_M) :=
  mj_ob M v0 1 <|
  mj_call (jf_PM_isLeaf N M v0 v1) fun r2 Mm2 =>
  if r2 = 0 then (some ((-1), Mm2)) else
  Option.bind (mj_getR Mm2 v0 1 8) fun x11 =>
  Option.bind x11 fun a15 =>
  Option.bind (mj_ild Mm2 a15 2 v1) fun x15 =>
  Option.bind (mj_getR Mm2 v0 1 8) fun x18 =>
  Option.bind x18 fun a23 =>
  Option.bind (mj_ist Mm2 a23 2 v1 (vp_nar .boolean v2)) fun Mm23 =>
  if x15 = 0 then (jb_PM_parameter_33 N Mm23 0) else
  jb_PM_parameter_33 N Mm23 1
def jf_PM_parameter (N : Nat) (M : mv_M) (v0 : Nat) (v1 : Int32) (v2 : Int32) : Option (Int32 × mv_M) := jb_PM_parameter_0 N M v0 v1 v2
set_option maxHeartbeats 4000000 in
set_option maxRecDepth 100000 in
theorem tb_PM_parameter_33 (l : Launch) (D : va_G) (E : Nat → ClassId) (B : Nat) (sa : (Nat → Nat) × Nat × (Nat → Int32)) (M0 M1 : mv_M) (r : Int32) (N : Nat) (M : mv_M) (s0 : Int32) (hJ : jb_PM_parameter_33 N M s0 = some (r, M1)) : mv_G (xg l D E B sa) kd_PM_parameter M0 M1 (some (.int r)) M 33 [] [.int s0] := by
  unfold jb_PM_parameter_33 at hJ
  exact mv_iret (pc := 33) rfl de_PM_parameter_33 hJ
set_option maxHeartbeats 4000000 in
set_option maxRecDepth 100000 in
theorem tb_PM_parameter_0 (l : Launch) (D : va_G) (E : Nat → ClassId) (B : Nat) (sa : (Nat → Nat) × Nat × (Nat → Int32)) (M0 M1 : mv_M) (r : Int32) (N : Nat) (M : mv_M) (v0 : Nat) (v1 : Int32) (v2 : Int32) (hJ : jb_PM_parameter_0 N M v0 v1 v2 = some (r, M1)) : mv_G (xg l D E B sa) kd_PM_parameter M0 M1 (some (.int r)) M 0 [(0, va_rf (some v0)), (1, .int v1), (2, .int v2)] [] := by
  unfold jb_PM_parameter_0 at hJ
  refine mv_aload_n (pc := 0) (i := 0) de_PM_parameter_0 rfl 0 rfl ?_
  refine mv_iload_n (pc := 1) (i := 1) de_PM_parameter_1 rfl 1 rfl ?_
  obtain ⟨hi2, h2o⟩ := mj_obE hJ
  obtain ⟨r2, Mm2, hz2, h2⟩ := mj_callE h2o
  refine mv_callV (pc := 2) (n := 1) (av := [.int v1]) (rest := []) de_PM_parameter_2 (kc_1 l D E B sa) hi2 (cm_PM_isLeaf l D E B sa N M v0 v1 _ _ hz2) wt_4_205 wt_4_207 wp_26 wt_1_8 wt_4_208 ⟨by decide, by decide, by decide +kernel⟩ rfl ⟨Nat.le_of_ble_eq_true rfl, Nat.le_of_ble_eq_true rfl⟩ (Nat.le_of_ble_eq_true rfl) rfl ?_
  refine mv_if_ne (pc := 5) (tgt := 10) de_PM_parameter_5 (by decide) h2 (fun hc5 h5 => ?_) (fun hc5 h5 => ?_)
  · refine mv_iconst (pc := 8) (v := (-1)) de_PM_parameter_8 (by decide) ?_
    exact mv_iret (pc := 9) rfl de_PM_parameter_9 h5
  · refine mv_aload_n (pc := 10) (i := 0) de_PM_parameter_10 rfl 0 rfl ?_
    refine mv_getR (pc := 11) (f := 8) (kc_1 l D E B sa) (Nat.le_of_ble_eq_true rfl) wt_4_88 de_PM_parameter_11 h5 (fun x11 e11 h11 => ?_)
    refine mv_iload_n (pc := 14) (i := 1) de_PM_parameter_14 rfl 1 rfl ?_
    obtain ⟨a15, ha, h15a⟩ := mj_bindE h11
    subst ha
    refine mv_zald (pc := 15) (t := 2) rfl de_PM_parameter_15 h15a (fun x15 e15 h15 => ?_)
    refine mv_istore_n (pc := 16) (i := 3) (lv' := [(3, .int x15), (0, va_rf (some v0)), (1, .int v1), (2, .int v2)]) de_PM_parameter_16 rfl (Nat.le_of_ble_eq_true rfl) rfl ?_
    refine mv_aload_n (pc := 17) (i := 0) de_PM_parameter_17 rfl 1 rfl ?_
    refine mv_getR (pc := 18) (f := 8) (kc_1 l D E B sa) (Nat.le_of_ble_eq_true rfl) wt_4_88 de_PM_parameter_18 h15 (fun x18 e18 h18 => ?_)
    refine mv_iload_n (pc := 21) (i := 1) de_PM_parameter_21 rfl 2 rfl ?_
    refine mv_iload_n (pc := 22) (i := 2) de_PM_parameter_22 rfl 3 rfl ?_
    obtain ⟨a23, ha, h23a⟩ := mj_bindE h18
    subst ha
    refine mv_zast (pc := 23) (t := 2) rfl de_PM_parameter_23 h23a (fun Mm23 e23 h23 => ?_)
    refine mv_iload_n (pc := 24) (i := 3) de_PM_parameter_24 rfl 0 rfl ?_
    refine mv_if_eq (pc := 25) (tgt := 32) de_PM_parameter_25 (by decide) h23 (fun hc25 h25 => ?_) (fun hc25 h25 => ?_)
    · refine mv_iconst (pc := 32) (v := 0) de_PM_parameter_32 (by decide) ?_
      exact mv_sub [] rfl (tb_PM_parameter_33 l D E B sa M0 M1 r N Mm23 0 h25)
    · refine mv_iconst (pc := 28) (v := 1) de_PM_parameter_28 (by decide) ?_
      refine mv_goto (pc := 29) (tgt := 33) de_PM_parameter_29 (by decide) ?_
      exact mv_sub [] rfl (tb_PM_parameter_33 l D E B sa M0 M1 r N Mm23 1 h25)
theorem cm_PM_parameter (l : Launch) (D : va_G) (E : Nat → ClassId) (B : Nat) (sa : (Nat → Nat) × Nat × (Nat → Int32)) (N : Nat) (M : mv_M) (v0 : Nat) (v1 : Int32) (v2 : Int32) (r : Int32) (M1 : mv_M) (hJ : jf_PM_parameter N M v0 v1 v2 = some (r, M1)) : mv_Met (xg l D E B sa) yn_PM_parameter cd_PM_parameter 4 (some .int) 3 67 [va_rf (some v0), .int v1, .int v2] M (some (.int r)) M1 :=
  mv_enter (by decide) (Nat.le_of_ble_eq_true rfl) (mv_sub (lv := [(0, va_rf (some v0)), (1, .int v1), (2, .int v2)]) [0, 1, 2] rfl (tb_PM_parameter_0 l D E B sa M M1 r N M v0 v1 v2 hJ))
/-! ===== PlainLearnerModel.rate(II)I ===== -/
abbrev kd_PM_rate : mv_Kd := (cd_PM_rate, 3, "PlainLearnerModel", "rate", (some .int), 1, 30)
theorem de_PM_rate_0 : decode cd_PM_rate 0 = .ok (.iload_n 2, 1) := by decide +kernel
theorem de_PM_rate_1 : decode cd_PM_rate 1 = .ok (.iconst 1, 1) := by decide +kernel
theorem de_PM_rate_2 : decode cd_PM_rate 2 = .ok (.if_icmp .ge 5, 3) := by decide +kernel
theorem de_PM_rate_5 : decode cd_PM_rate 5 = .ok (.iconst (-1), 1) := by decide +kernel
theorem de_PM_rate_6 : decode cd_PM_rate 6 = .ok (.ireturn, 1) := by decide +kernel
theorem de_PM_rate_7 : decode cd_PM_rate 7 = .ok (.aload_n 0, 1) := by decide +kernel
theorem de_PM_rate_8 : decode cd_PM_rate 8 = .ok (.iload_n 1, 1) := by decide +kernel
theorem de_PM_rate_9 : decode cd_PM_rate 9 = .ok (.i2l, 1) := by decide +kernel
theorem de_PM_rate_10 : decode cd_PM_rate 10 = .ok (.iload_n 2, 1) := by decide +kernel
theorem de_PM_rate_11 : decode cd_PM_rate 11 = .ok (.i2l, 1) := by decide +kernel
theorem de_PM_rate_12 : decode cd_PM_rate 12 = .ok (.invokevirtual 91, 3) := by decide +kernel
theorem de_PM_rate_15 : decode cd_PM_rate 15 = .ok (.aload_n 0, 1) := by decide +kernel
theorem de_PM_rate_16 : decode cd_PM_rate 16 = .ok (.aload_n 0, 1) := by decide +kernel
theorem de_PM_rate_17 : decode cd_PM_rate 17 = .ok (.getfield 81, 3) := by decide +kernel
theorem de_PM_rate_20 : decode cd_PM_rate 20 = .ok (.putfield 72, 3) := by decide +kernel
theorem de_PM_rate_23 : decode cd_PM_rate 23 = .ok (.aload_n 0, 1) := by decide +kernel
theorem de_PM_rate_24 : decode cd_PM_rate 24 = .ok (.aload_n 0, 1) := by decide +kernel
theorem de_PM_rate_25 : decode cd_PM_rate 25 = .ok (.getfield 84, 3) := by decide +kernel
theorem de_PM_rate_28 : decode cd_PM_rate 28 = .ok (.putfield 78, 3) := by decide +kernel
theorem de_PM_rate_31 : decode cd_PM_rate 31 = .ok (.iconst 0, 1) := by decide +kernel
theorem de_PM_rate_32 : decode cd_PM_rate 32 = .ok (.ireturn, 1) := by decide +kernel
def jb_PM_rate_0 (N : Nat) (M : mv_M) (v0 : Nat) (v1 : Int32) (v2 : Int32) : Option (Int32 × mv_M) :=
  if 1 ≤ v2 then (mj_ob M v0 1 <|
  mj_call (jf_PM_least N M v0 v1.toInt64 v2.toInt64) fun r12 Mm12 =>
  Option.bind (mj_getL Mm12 v0 1 0) fun x17 =>
  Option.bind (mj_put Mm12 v0 1 18 (.long x17)) fun Mm20 =>
  Option.bind (mj_getL Mm20 v0 1 1) fun x25 =>
  Option.bind (mj_put Mm20 v0 1 19 (.long x25)) fun Mm28 =>
  some (0, Mm28)) else
  some ((-1), M)
def jf_PM_rate (N : Nat) (M : mv_M) (v0 : Nat) (v1 : Int32) (v2 : Int32) : Option (Int32 × mv_M) := jb_PM_rate_0 N M v0 v1 v2
set_option maxHeartbeats 4000000 in
set_option maxRecDepth 100000 in
theorem tb_PM_rate_0 (l : Launch) (D : va_G) (E : Nat → ClassId) (B : Nat) (sa : (Nat → Nat) × Nat × (Nat → Int32)) (M0 M1 : mv_M) (r : Int32) (N : Nat) (M : mv_M) (v0 : Nat) (v1 : Int32) (v2 : Int32) (hJ : jb_PM_rate_0 N M v0 v1 v2 = some (r, M1)) : mv_G (xg l D E B sa) kd_PM_rate M0 M1 (some (.int r)) M 0 [(0, va_rf (some v0)), (1, .int v1), (2, .int v2)] [] := by
  unfold jb_PM_rate_0 at hJ
  refine mv_iload_n (pc := 0) (i := 2) de_PM_rate_0 rfl 2 rfl ?_
  refine mv_iconst (pc := 1) (v := 1) de_PM_rate_1 (by decide) ?_
  refine mv_icmp_ge (pc := 2) (tgt := 7) de_PM_rate_2 (by decide) hJ (fun hc2 h2 => ?_) (fun hc2 h2 => ?_)
  · refine mv_aload_n (pc := 7) (i := 0) de_PM_rate_7 rfl 0 rfl ?_
    refine mv_iload_n (pc := 8) (i := 1) de_PM_rate_8 rfl 1 rfl ?_
    refine mv_i2l (pc := 9) de_PM_rate_9 ?_
    refine mv_iload_n (pc := 10) (i := 2) de_PM_rate_10 rfl 2 rfl ?_
    refine mv_i2l (pc := 11) de_PM_rate_11 ?_
    obtain ⟨hi12, h12o⟩ := mj_obE h2
    obtain ⟨r12, Mm12, hz12, h12⟩ := mj_callE h12o
    refine mv_callV (pc := 12) (n := 2) (av := [.long v1.toInt64, .long v2.toInt64]) (rest := []) de_PM_rate_12 (kc_1 l D E B sa) hi12 (cm_PM_least l D E B sa N M v0 v1.toInt64 v2.toInt64 _ _ hz12) wt_4_217 wt_4_219 wp_29 wt_1_8 wt_4_220 ⟨by decide, by decide, by decide +kernel⟩ rfl ⟨Nat.le_of_ble_eq_true rfl, Nat.le_of_ble_eq_true rfl⟩ (Nat.le_of_ble_eq_true rfl) rfl ?_
    refine mv_aload_n (pc := 15) (i := 0) de_PM_rate_15 rfl 0 rfl ?_
    refine mv_aload_n (pc := 16) (i := 0) de_PM_rate_16 rfl 0 rfl ?_
    refine mv_getL (pc := 17) (f := 0) (kc_1 l D E B sa) (Nat.le_of_ble_eq_true rfl) wt_4_80 de_PM_rate_17 h12 (fun x17 e17 h17 => ?_)
    refine mv_put (pc := 20) (f := 18) (kc_1 l D E B sa) (Nat.le_of_ble_eq_true rfl) wt_4_98 rfl rfl rfl de_PM_rate_20 h17 (fun Mm20 e20 h20 => ?_)
    refine mv_aload_n (pc := 23) (i := 0) de_PM_rate_23 rfl 0 rfl ?_
    refine mv_aload_n (pc := 24) (i := 0) de_PM_rate_24 rfl 0 rfl ?_
    refine mv_getL (pc := 25) (f := 1) (kc_1 l D E B sa) (Nat.le_of_ble_eq_true rfl) wt_4_81 de_PM_rate_25 h20 (fun x25 e25 h25 => ?_)
    refine mv_put (pc := 28) (f := 19) (kc_1 l D E B sa) (Nat.le_of_ble_eq_true rfl) wt_4_99 rfl rfl rfl de_PM_rate_28 h25 (fun Mm28 e28 h28 => ?_)
    refine mv_iconst (pc := 31) (v := 0) de_PM_rate_31 (by decide) ?_
    exact mv_iret (pc := 32) rfl de_PM_rate_32 h28
  · refine mv_iconst (pc := 5) (v := (-1)) de_PM_rate_5 (by decide) ?_
    exact mv_iret (pc := 6) rfl de_PM_rate_6 h2
theorem cm_PM_rate (l : Launch) (D : va_G) (E : Nat → ClassId) (B : Nat) (sa : (Nat → Nat) × Nat × (Nat → Int32)) (N : Nat) (M : mv_M) (v0 : Nat) (v1 : Int32) (v2 : Int32) (r : Int32) (M1 : mv_M) (hJ : jf_PM_rate N M v0 v1 v2 = some (r, M1)) : mv_Met (xg l D E B sa) yn_PM_rate cd_PM_rate 3 (some .int) 1 30 [va_rf (some v0), .int v1, .int v2] M (some (.int r)) M1 :=
  mv_enter (by decide) (Nat.le_of_ble_eq_true rfl) (mv_sub (lv := [(0, va_rf (some v0)), (1, .int v1), (2, .int v2)]) [0, 1, 2] rfl (tb_PM_rate_0 l D E B sa M M1 r N M v0 v1 v2 hJ))
/-! ===== PlainLearnerModel.round()V ===== -/
abbrev kd_PM_round : mv_Kd := (cd_PM_round, 7, "PlainLearnerModel", "round", none, 1, 30)
theorem de_PM_round_0 : decode cd_PM_round 0 = .ok (.aload_n 0, 1) := by decide +kernel
theorem de_PM_round_1 : decode cd_PM_round 1 = .ok (.getfield 84, 3) := by decide +kernel
theorem de_PM_round_4 : decode cd_PM_round 4 = .ok (.lconst 0, 1) := by decide +kernel
theorem de_PM_round_5 : decode cd_PM_round 5 = .ok (.lcmp, 1) := by decide +kernel
theorem de_PM_round_6 : decode cd_PM_round 6 = .ok (.ifCond .ne 4, 3) := by decide +kernel
theorem de_PM_round_9 : decode cd_PM_round 9 = .ok (.return_, 1) := by decide +kernel
theorem de_PM_round_10 : decode cd_PM_round 10 = .ok (.ldc2_w 221, 3) := by decide +kernel
theorem de_PM_round_13 : decode cd_PM_round 13 = .ok (.aload_n 0, 1) := by decide +kernel
theorem de_PM_round_14 : decode cd_PM_round 14 = .ok (.getfield 81, 3) := by decide +kernel
theorem de_PM_round_17 : decode cd_PM_round 17 = .ok (.lmul, 1) := by decide +kernel
theorem de_PM_round_18 : decode cd_PM_round 18 = .ok (.aload_n 0, 1) := by decide +kernel
theorem de_PM_round_19 : decode cd_PM_round 19 = .ok (.getfield 84, 3) := by decide +kernel
theorem de_PM_round_22 : decode cd_PM_round 22 = .ok (.ladd, 1) := by decide +kernel
theorem de_PM_round_23 : decode cd_PM_round 23 = .ok (.lstore_n 1, 1) := by decide +kernel
theorem de_PM_round_24 : decode cd_PM_round 24 = .ok (.ldc2_w 223, 3) := by decide +kernel
theorem de_PM_round_27 : decode cd_PM_round 27 = .ok (.aload_n 0, 1) := by decide +kernel
theorem de_PM_round_28 : decode cd_PM_round 28 = .ok (.getfield 84, 3) := by decide +kernel
theorem de_PM_round_31 : decode cd_PM_round 31 = .ok (.lmul, 1) := by decide +kernel
theorem de_PM_round_32 : decode cd_PM_round 32 = .ok (.lstore_n 3, 1) := by decide +kernel
theorem de_PM_round_33 : decode cd_PM_round 33 = .ok (.lload_n 1, 1) := by decide +kernel
theorem de_PM_round_34 : decode cd_PM_round 34 = .ok (.lload_n 3, 1) := by decide +kernel
theorem de_PM_round_35 : decode cd_PM_round 35 = .ok (.ldiv, 1) := by decide +kernel
theorem de_PM_round_36 : decode cd_PM_round 36 = .ok (.lstore 5, 2) := by decide +kernel
theorem de_PM_round_38 : decode cd_PM_round 38 = .ok (.lload_n 1, 1) := by decide +kernel
theorem de_PM_round_39 : decode cd_PM_round 39 = .ok (.lload_n 3, 1) := by decide +kernel
theorem de_PM_round_40 : decode cd_PM_round 40 = .ok (.lrem, 1) := by decide +kernel
theorem de_PM_round_41 : decode cd_PM_round 41 = .ok (.lconst 0, 1) := by decide +kernel
theorem de_PM_round_42 : decode cd_PM_round 42 = .ok (.lcmp, 1) := by decide +kernel
theorem de_PM_round_43 : decode cd_PM_round 43 = .ok (.ifCond .ge 9, 3) := by decide +kernel
theorem de_PM_round_46 : decode cd_PM_round 46 = .ok (.lload 5, 2) := by decide +kernel
theorem de_PM_round_48 : decode cd_PM_round 48 = .ok (.lconst 1, 1) := by decide +kernel
theorem de_PM_round_49 : decode cd_PM_round 49 = .ok (.lsub, 1) := by decide +kernel
theorem de_PM_round_50 : decode cd_PM_round 50 = .ok (.lstore 5, 2) := by decide +kernel
theorem de_PM_round_52 : decode cd_PM_round 52 = .ok (.aload_n 0, 1) := by decide +kernel
theorem de_PM_round_53 : decode cd_PM_round 53 = .ok (.lload 5, 2) := by decide +kernel
theorem de_PM_round_55 : decode cd_PM_round 55 = .ok (.ldc2_w 225, 3) := by decide +kernel
theorem de_PM_round_58 : decode cd_PM_round 58 = .ok (.invokevirtual 91, 3) := by decide +kernel
theorem de_PM_round_61 : decode cd_PM_round 61 = .ok (.return_, 1) := by decide +kernel
def jb_PM_round_52 (N : Nat) (M : mv_M) (v0 : Nat) (v5 : Int64) : Option (Unit × mv_M) :=
  mj_ob M v0 1 <|
  mj_call (jf_PM_least N M v0 v5 4096) fun r58 Mm58 =>
  some ((), Mm58)
def jb_PM_round_0 (N : Nat) (M : mv_M) (v0 : Nat) : Option (Unit × mv_M) :=
  Option.bind (mj_getL M v0 1 1) fun x1 =>
  if (lg_cmp x1 0) = 0 then (some ((), M)) else
  Option.bind (mj_getL M v0 1 0) fun x14 =>
  Option.bind (mj_getL M v0 1 1) fun x19 =>
  Option.bind (mj_getL M v0 1 1) fun x28 =>
  if (2 * x28) = 0 then none else
  if (2 * x28) = 0 then none else
  if 0 ≤ (lg_cmp (((8192 * x14) + x19) - ((8192 * x14) + x19) / (2 * x28) * (2 * x28)) 0) then (jb_PM_round_52 N M v0 (((8192 * x14) + x19) / (2 * x28))) else
  jb_PM_round_52 N M v0 ((((8192 * x14) + x19) / (2 * x28)) - 1)
def jf_PM_round (N : Nat) (M : mv_M) (v0 : Nat) : Option (Unit × mv_M) := jb_PM_round_0 N M v0
set_option maxHeartbeats 4000000 in
set_option maxRecDepth 100000 in
theorem tb_PM_round_52 (l : Launch) (D : va_G) (E : Nat → ClassId) (B : Nat) (sa : (Nat → Nat) × Nat × (Nat → Int32)) (M0 M1 : mv_M) (r : Unit) (N : Nat) (M : mv_M) (v0 : Nat) (v5 : Int64) (hJ : jb_PM_round_52 N M v0 v5 = some (r, M1)) : mv_G (xg l D E B sa) kd_PM_round M0 M1 none M 52 [(0, va_rf (some v0)), (5, .long v5)] [] := by
  unfold jb_PM_round_52 at hJ
  refine mv_aload_n (pc := 52) (i := 0) de_PM_round_52 rfl 0 rfl ?_
  refine mv_lload (pc := 53) de_PM_round_53 1 rfl ?_
  refine mv_ldc2 (pc := 55) de_PM_round_55 wt_5_122 ?_
  obtain ⟨hi58, h58o⟩ := mj_obE hJ
  obtain ⟨r58, Mm58, hz58, h58⟩ := mj_callE h58o
  refine mv_callV (pc := 58) (n := 2) (av := [.long v5, .long 4096]) (rest := []) de_PM_round_58 (kc_1 l D E B sa) hi58 (cm_PM_least l D E B sa N M v0 v5 4096 _ _ hz58) wt_4_217 wt_4_219 wp_29 wt_1_8 wt_4_220 ⟨by decide, by decide, by decide +kernel⟩ rfl ⟨Nat.le_of_ble_eq_true rfl, Nat.le_of_ble_eq_true rfl⟩ (Nat.le_of_ble_eq_true rfl) rfl ?_
  exact mv_vret (pc := 61) rfl de_PM_round_61 h58
set_option maxHeartbeats 4000000 in
set_option maxRecDepth 100000 in
theorem tb_PM_round_0 (l : Launch) (D : va_G) (E : Nat → ClassId) (B : Nat) (sa : (Nat → Nat) × Nat × (Nat → Int32)) (M0 M1 : mv_M) (r : Unit) (N : Nat) (M : mv_M) (v0 : Nat) (hJ : jb_PM_round_0 N M v0 = some (r, M1)) : mv_G (xg l D E B sa) kd_PM_round M0 M1 none M 0 [(0, va_rf (some v0))] [] := by
  unfold jb_PM_round_0 at hJ
  refine mv_aload_n (pc := 0) (i := 0) de_PM_round_0 rfl 0 rfl ?_
  refine mv_getL (pc := 1) (f := 1) (kc_1 l D E B sa) (Nat.le_of_ble_eq_true rfl) wt_4_81 de_PM_round_1 hJ (fun x1 e1 h1 => ?_)
  refine mv_lconst (pc := 4) (v := 0) de_PM_round_4 (by decide) ?_
  refine mv_lcmp (pc := 5) de_PM_round_5 ?_
  refine mv_if_ne (pc := 6) (tgt := 10) de_PM_round_6 (by decide) h1 (fun hc6 h6 => ?_) (fun hc6 h6 => ?_)
  · exact mv_vret (pc := 9) rfl de_PM_round_9 h6
  · refine mv_ldc2 (pc := 10) de_PM_round_10 wt_5_120 ?_
    refine mv_aload_n (pc := 13) (i := 0) de_PM_round_13 rfl 0 rfl ?_
    refine mv_getL (pc := 14) (f := 0) (kc_1 l D E B sa) (Nat.le_of_ble_eq_true rfl) wt_4_80 de_PM_round_14 h6 (fun x14 e14 h14 => ?_)
    refine mv_lmul (pc := 17) de_PM_round_17 ?_
    refine mv_aload_n (pc := 18) (i := 0) de_PM_round_18 rfl 0 rfl ?_
    refine mv_getL (pc := 19) (f := 1) (kc_1 l D E B sa) (Nat.le_of_ble_eq_true rfl) wt_4_81 de_PM_round_19 h14 (fun x19 e19 h19 => ?_)
    refine mv_ladd (pc := 22) de_PM_round_22 ?_
    refine mv_lstore_n (pc := 23) (i := 1) (lv' := [(1, .long ((8192 * x14) + x19)), (0, va_rf (some v0))]) de_PM_round_23 rfl (Nat.le_of_ble_eq_true rfl) rfl ?_
    refine mv_ldc2 (pc := 24) de_PM_round_24 wt_5_121 ?_
    refine mv_aload_n (pc := 27) (i := 0) de_PM_round_27 rfl 1 rfl ?_
    refine mv_getL (pc := 28) (f := 1) (kc_1 l D E B sa) (Nat.le_of_ble_eq_true rfl) wt_4_81 de_PM_round_28 h19 (fun x28 e28 h28 => ?_)
    refine mv_lmul (pc := 31) de_PM_round_31 ?_
    refine mv_lstore_n (pc := 32) (i := 3) (lv' := [(3, .long (2 * x28)), (1, .long ((8192 * x14) + x19)), (0, va_rf (some v0))]) de_PM_round_32 rfl (Nat.le_of_ble_eq_true rfl) rfl ?_
    refine mv_lload_n (pc := 33) (i := 1) de_PM_round_33 rfl 1 rfl ?_
    refine mv_lload_n (pc := 34) (i := 3) de_PM_round_34 rfl 0 rfl ?_
    refine mv_ldiv (pc := 35) de_PM_round_35 h28 (fun hc_35 h35 => ?_)
    refine mv_lstore (pc := 36) (lv' := [(5, .long (((8192 * x14) + x19) / (2 * x28))), (3, .long (2 * x28)), (1, .long ((8192 * x14) + x19)), (0, va_rf (some v0))]) de_PM_round_36 (Nat.le_of_ble_eq_true rfl) rfl ?_
    refine mv_lload_n (pc := 38) (i := 1) de_PM_round_38 rfl 2 rfl ?_
    refine mv_lload_n (pc := 39) (i := 3) de_PM_round_39 rfl 1 rfl ?_
    refine mv_lrem (pc := 40) de_PM_round_40 h35 (fun hc_40 h40 => ?_)
    refine mv_lconst (pc := 41) (v := 0) de_PM_round_41 (by decide) ?_
    refine mv_lcmp (pc := 42) de_PM_round_42 ?_
    refine mv_if_ge (pc := 43) (tgt := 52) de_PM_round_43 (by decide) h40 (fun hc43 h43 => ?_) (fun hc43 h43 => ?_)
    · exact mv_sub [3, 0] rfl (tb_PM_round_52 l D E B sa M0 M1 r N M v0 (((8192 * x14) + x19) / (2 * x28)) h43)
    · refine mv_lload (pc := 46) de_PM_round_46 0 rfl ?_
      refine mv_lconst (pc := 48) (v := 1) de_PM_round_48 (by decide) ?_
      refine mv_lsub (pc := 49) de_PM_round_49 ?_
      refine mv_lstore (pc := 50) (lv' := [(5, .long ((((8192 * x14) + x19) / (2 * x28)) - 1)), (3, .long (2 * x28)), (1, .long ((8192 * x14) + x19)), (0, va_rf (some v0))]) de_PM_round_50 (Nat.le_of_ble_eq_true rfl) rfl ?_
      exact mv_sub [3, 0] rfl (tb_PM_round_52 l D E B sa M0 M1 r N M v0 ((((8192 * x14) + x19) / (2 * x28)) - 1) h43)
theorem cm_PM_round (l : Launch) (D : va_G) (E : Nat → ClassId) (B : Nat) (sa : (Nat → Nat) × Nat × (Nat → Int32)) (N : Nat) (M : mv_M) (v0 : Nat) (r : Unit) (M1 : mv_M) (hJ : jf_PM_round N M v0 = some (r, M1)) : mv_Met (xg l D E B sa) yn_PM_round cd_PM_round 7 none 1 30 [va_rf (some v0)] M none M1 :=
  mv_enter (by decide) (Nat.le_of_ble_eq_true rfl) (mv_sub (lv := [(0, va_rf (some v0))]) [0] rfl (tb_PM_round_0 l D E B sa M M1 r N M v0 hJ))
