/-! ===== PlainLearnerModel.spreads(II)Z ===== -/
abbrev kd_PM_spreads : mv_Kd := (cd_PM_spreads, 7, "PlainLearnerModel", "spreads", (some .boolean), 0, 0)
theorem de_PM_spreads_0 : decode cd_PM_spreads 0 = .ok (.aload_n 0, 1) := by decide +kernel
theorem de_PM_spreads_1 : decode cd_PM_spreads 1 = .ok (.getfield 19, 3) := by decide +kernel
theorem de_PM_spreads_4 : decode cd_PM_spreads 4 = .ok (.iload_n 1, 1) := by decide +kernel
theorem de_PM_spreads_5 : decode cd_PM_spreads 5 = .ok (.iaload, 1) := by decide +kernel
theorem de_PM_spreads_6 : decode cd_PM_spreads 6 = .ok (.aload_n 0, 1) := by decide +kernel
theorem de_PM_spreads_7 : decode cd_PM_spreads 7 = .ok (.getfield 19, 3) := by decide +kernel
theorem de_PM_spreads_10 : decode cd_PM_spreads 10 = .ok (.iload_n 2, 1) := by decide +kernel
theorem de_PM_spreads_11 : decode cd_PM_spreads 11 = .ok (.iaload, 1) := by decide +kernel
theorem de_PM_spreads_12 : decode cd_PM_spreads 12 = .ok (.if_icmp .le 12, 3) := by decide +kernel
theorem de_PM_spreads_15 : decode cd_PM_spreads 15 = .ok (.aload_n 0, 1) := by decide +kernel
theorem de_PM_spreads_16 : decode cd_PM_spreads 16 = .ok (.getfield 19, 3) := by decide +kernel
theorem de_PM_spreads_19 : decode cd_PM_spreads 19 = .ok (.iload_n 1, 1) := by decide +kernel
theorem de_PM_spreads_20 : decode cd_PM_spreads 20 = .ok (.iaload, 1) := by decide +kernel
theorem de_PM_spreads_21 : decode cd_PM_spreads 21 = .ok (.goto 9, 3) := by decide +kernel
theorem de_PM_spreads_24 : decode cd_PM_spreads 24 = .ok (.aload_n 0, 1) := by decide +kernel
theorem de_PM_spreads_25 : decode cd_PM_spreads 25 = .ok (.getfield 19, 3) := by decide +kernel
theorem de_PM_spreads_28 : decode cd_PM_spreads 28 = .ok (.iload_n 2, 1) := by decide +kernel
theorem de_PM_spreads_29 : decode cd_PM_spreads 29 = .ok (.iaload, 1) := by decide +kernel
theorem de_PM_spreads_30 : decode cd_PM_spreads 30 = .ok (.istore_n 3, 1) := by decide +kernel
theorem de_PM_spreads_31 : decode cd_PM_spreads 31 = .ok (.iconst 1, 1) := by decide +kernel
theorem de_PM_spreads_32 : decode cd_PM_spreads 32 = .ok (.istore 4, 2) := by decide +kernel
theorem de_PM_spreads_34 : decode cd_PM_spreads 34 = .ok (.iload 4, 2) := by decide +kernel
theorem de_PM_spreads_36 : decode cd_PM_spreads 36 = .ok (.iload_n 3, 1) := by decide +kernel
theorem de_PM_spreads_37 : decode cd_PM_spreads 37 = .ok (.if_icmp .gt 123, 3) := by decide +kernel
theorem de_PM_spreads_40 : decode cd_PM_spreads 40 = .ok (.iload 4, 2) := by decide +kernel
theorem de_PM_spreads_42 : decode cd_PM_spreads 42 = .ok (.aload_n 0, 1) := by decide +kernel
theorem de_PM_spreads_43 : decode cd_PM_spreads 43 = .ok (.getfield 19, 3) := by decide +kernel
theorem de_PM_spreads_46 : decode cd_PM_spreads 46 = .ok (.iload_n 1, 1) := by decide +kernel
theorem de_PM_spreads_47 : decode cd_PM_spreads 47 = .ok (.iaload, 1) := by decide +kernel
theorem de_PM_spreads_48 : decode cd_PM_spreads 48 = .ok (.if_icmp .gt 24, 3) := by decide +kernel
theorem de_PM_spreads_51 : decode cd_PM_spreads 51 = .ok (.aload_n 0, 1) := by decide +kernel
theorem de_PM_spreads_52 : decode cd_PM_spreads 52 = .ok (.getfield 22, 3) := by decide +kernel
theorem de_PM_spreads_55 : decode cd_PM_spreads 55 = .ok (.iconst 3, 1) := by decide +kernel
theorem de_PM_spreads_56 : decode cd_PM_spreads 56 = .ok (.iload_n 1, 1) := by decide +kernel
theorem de_PM_spreads_57 : decode cd_PM_spreads 57 = .ok (.imul, 1) := by decide +kernel
theorem de_PM_spreads_58 : decode cd_PM_spreads 58 = .ok (.aload_n 0, 1) := by decide +kernel
theorem de_PM_spreads_59 : decode cd_PM_spreads 59 = .ok (.getfield 19, 3) := by decide +kernel
theorem de_PM_spreads_62 : decode cd_PM_spreads 62 = .ok (.iload_n 1, 1) := by decide +kernel
theorem de_PM_spreads_63 : decode cd_PM_spreads 63 = .ok (.iaload, 1) := by decide +kernel
theorem de_PM_spreads_64 : decode cd_PM_spreads 64 = .ok (.iadd, 1) := by decide +kernel
theorem de_PM_spreads_65 : decode cd_PM_spreads 65 = .ok (.iload 4, 2) := by decide +kernel
theorem de_PM_spreads_67 : decode cd_PM_spreads 67 = .ok (.isub, 1) := by decide +kernel
theorem de_PM_spreads_68 : decode cd_PM_spreads 68 = .ok (.iaload, 1) := by decide +kernel
theorem de_PM_spreads_69 : decode cd_PM_spreads 69 = .ok (.goto 4, 3) := by decide +kernel
theorem de_PM_spreads_72 : decode cd_PM_spreads 72 = .ok (.iconst 1, 1) := by decide +kernel
theorem de_PM_spreads_73 : decode cd_PM_spreads 73 = .ok (.istore 5, 2) := by decide +kernel
theorem de_PM_spreads_75 : decode cd_PM_spreads 75 = .ok (.iload 4, 2) := by decide +kernel
theorem de_PM_spreads_77 : decode cd_PM_spreads 77 = .ok (.aload_n 0, 1) := by decide +kernel
theorem de_PM_spreads_78 : decode cd_PM_spreads 78 = .ok (.getfield 19, 3) := by decide +kernel
theorem de_PM_spreads_81 : decode cd_PM_spreads 81 = .ok (.iload_n 2, 1) := by decide +kernel
theorem de_PM_spreads_82 : decode cd_PM_spreads 82 = .ok (.iaload, 1) := by decide +kernel
theorem de_PM_spreads_83 : decode cd_PM_spreads 83 = .ok (.if_icmp .gt 24, 3) := by decide +kernel
theorem de_PM_spreads_86 : decode cd_PM_spreads 86 = .ok (.aload_n 0, 1) := by decide +kernel
theorem de_PM_spreads_87 : decode cd_PM_spreads 87 = .ok (.getfield 22, 3) := by decide +kernel
theorem de_PM_spreads_90 : decode cd_PM_spreads 90 = .ok (.iconst 3, 1) := by decide +kernel
theorem de_PM_spreads_91 : decode cd_PM_spreads 91 = .ok (.iload_n 2, 1) := by decide +kernel
theorem de_PM_spreads_92 : decode cd_PM_spreads 92 = .ok (.imul, 1) := by decide +kernel
theorem de_PM_spreads_93 : decode cd_PM_spreads 93 = .ok (.aload_n 0, 1) := by decide +kernel
theorem de_PM_spreads_94 : decode cd_PM_spreads 94 = .ok (.getfield 19, 3) := by decide +kernel
theorem de_PM_spreads_97 : decode cd_PM_spreads 97 = .ok (.iload_n 2, 1) := by decide +kernel
theorem de_PM_spreads_98 : decode cd_PM_spreads 98 = .ok (.iaload, 1) := by decide +kernel
theorem de_PM_spreads_99 : decode cd_PM_spreads 99 = .ok (.iadd, 1) := by decide +kernel
theorem de_PM_spreads_100 : decode cd_PM_spreads 100 = .ok (.iload 4, 2) := by decide +kernel
theorem de_PM_spreads_102 : decode cd_PM_spreads 102 = .ok (.isub, 1) := by decide +kernel
theorem de_PM_spreads_103 : decode cd_PM_spreads 103 = .ok (.iaload, 1) := by decide +kernel
theorem de_PM_spreads_104 : decode cd_PM_spreads 104 = .ok (.goto 4, 3) := by decide +kernel
theorem de_PM_spreads_107 : decode cd_PM_spreads 107 = .ok (.iconst 1, 1) := by decide +kernel
theorem de_PM_spreads_108 : decode cd_PM_spreads 108 = .ok (.istore 6, 2) := by decide +kernel
theorem de_PM_spreads_110 : decode cd_PM_spreads 110 = .ok (.iload 5, 2) := by decide +kernel
theorem de_PM_spreads_112 : decode cd_PM_spreads 112 = .ok (.iload 6, 2) := by decide +kernel
theorem de_PM_spreads_114 : decode cd_PM_spreads 114 = .ok (.if_icmp .eq 17, 3) := by decide +kernel
theorem de_PM_spreads_117 : decode cd_PM_spreads 117 = .ok (.iload 5, 2) := by decide +kernel
theorem de_PM_spreads_119 : decode cd_PM_spreads 119 = .ok (.iconst 1, 1) := by decide +kernel
theorem de_PM_spreads_120 : decode cd_PM_spreads 120 = .ok (.if_icmp .eq 11, 3) := by decide +kernel
theorem de_PM_spreads_123 : decode cd_PM_spreads 123 = .ok (.iload 6, 2) := by decide +kernel
theorem de_PM_spreads_125 : decode cd_PM_spreads 125 = .ok (.iconst 1, 1) := by decide +kernel
theorem de_PM_spreads_126 : decode cd_PM_spreads 126 = .ok (.if_icmp .eq 5, 3) := by decide +kernel
theorem de_PM_spreads_129 : decode cd_PM_spreads 129 = .ok (.iconst 0, 1) := by decide +kernel
theorem de_PM_spreads_130 : decode cd_PM_spreads 130 = .ok (.ireturn, 1) := by decide +kernel
theorem de_PM_spreads_131 : decode cd_PM_spreads 131 = .ok (.aload_n 0, 1) := by decide +kernel
theorem de_PM_spreads_132 : decode cd_PM_spreads 132 = .ok (.getfield 36, 3) := by decide +kernel
theorem de_PM_spreads_135 : decode cd_PM_spreads 135 = .ok (.iload_n 3, 1) := by decide +kernel
theorem de_PM_spreads_136 : decode cd_PM_spreads 136 = .ok (.iload 4, 2) := by decide +kernel
theorem de_PM_spreads_138 : decode cd_PM_spreads 138 = .ok (.isub, 1) := by decide +kernel
theorem de_PM_spreads_139 : decode cd_PM_spreads 139 = .ok (.iload 5, 2) := by decide +kernel
theorem de_PM_spreads_141 : decode cd_PM_spreads 141 = .ok (.iload 6, 2) := by decide +kernel
theorem de_PM_spreads_143 : decode cd_PM_spreads 143 = .ok (.if_icmp .le 8, 3) := by decide +kernel
theorem de_PM_spreads_146 : decode cd_PM_spreads 146 = .ok (.iload 5, 2) := by decide +kernel
theorem de_PM_spreads_148 : decode cd_PM_spreads 148 = .ok (.goto 5, 3) := by decide +kernel
theorem de_PM_spreads_151 : decode cd_PM_spreads 151 = .ok (.iload 6, 2) := by decide +kernel
theorem de_PM_spreads_153 : decode cd_PM_spreads 153 = .ok (.iastore, 1) := by decide +kernel
theorem de_PM_spreads_154 : decode cd_PM_spreads 154 = .ok (.iinc 4 1, 3) := by decide +kernel
theorem de_PM_spreads_157 : decode cd_PM_spreads 157 = .ok (.goto (-123), 3) := by decide +kernel
theorem de_PM_spreads_160 : decode cd_PM_spreads 160 = .ok (.aload_n 0, 1) := by decide +kernel
theorem de_PM_spreads_161 : decode cd_PM_spreads 161 = .ok (.iload_n 3, 1) := by decide +kernel
theorem de_PM_spreads_162 : decode cd_PM_spreads 162 = .ok (.putfield 118, 3) := by decide +kernel
theorem de_PM_spreads_165 : decode cd_PM_spreads 165 = .ok (.iconst 1, 1) := by decide +kernel
theorem de_PM_spreads_166 : decode cd_PM_spreads 166 = .ok (.ireturn, 1) := by decide +kernel
def jb_PM_spreads_153 (N : Nat) (k34 : mv_M → Nat → Int32 → Int32 → Int32 → Int32 → Option (Int32 × mv_M)) (M : mv_M) (v0 : Nat) (v1 : Int32) (v2 : Int32) (v3 : Int32) (v4 : Int32) (s0 : Option Nat) (s1 : Int32) (s2 : Int32) : Option (Int32 × mv_M) :=
  Option.bind s0 fun a153 =>
  Option.bind (mj_ist M a153 0 s1 s2) fun Mm153 =>
  k34 Mm153 v0 v1 v2 v3 (v4 + 1)
def jb_PM_spreads_131 (N : Nat) (k34 : mv_M → Nat → Int32 → Int32 → Int32 → Int32 → Option (Int32 × mv_M)) (M : mv_M) (v0 : Nat) (v1 : Int32) (v2 : Int32) (v3 : Int32) (v4 : Int32) (v5 : Int32) (v6 : Int32) : Option (Int32 × mv_M) :=
  Option.bind (mj_getR M v0 1 12) fun x132 =>
  if v5 ≤ v6 then (jb_PM_spreads_153 N k34 M v0 v1 v2 v3 v4 x132 (v3 - v4) v6) else
  jb_PM_spreads_153 N k34 M v0 v1 v2 v3 v4 x132 (v3 - v4) v5
def jb_PM_spreads_108 (N : Nat) (k34 : mv_M → Nat → Int32 → Int32 → Int32 → Int32 → Option (Int32 × mv_M)) (M : mv_M) (v0 : Nat) (v1 : Int32) (v2 : Int32) (v3 : Int32) (v4 : Int32) (v5 : Int32) (s0 : Int32) : Option (Int32 × mv_M) :=
  if v5 = s0 then (jb_PM_spreads_131 N k34 M v0 v1 v2 v3 v4 v5 s0) else
  if v5 = 1 then (jb_PM_spreads_131 N k34 M v0 v1 v2 v3 v4 v5 s0) else
  if s0 = 1 then (jb_PM_spreads_131 N k34 M v0 v1 v2 v3 v4 v5 s0) else
  if (0 : Int32) = 0 ∨ (0 : Int32) = 1 then some (0, M) else none
def jb_PM_spreads_73 (N : Nat) (k34 : mv_M → Nat → Int32 → Int32 → Int32 → Int32 → Option (Int32 × mv_M)) (M : mv_M) (v0 : Nat) (v1 : Int32) (v2 : Int32) (v3 : Int32) (v4 : Int32) (s0 : Int32) : Option (Int32 × mv_M) :=
  Option.bind (mj_getR M v0 1 6) fun x78 =>
  Option.bind x78 fun a82 =>
  Option.bind (mj_ild M a82 0 v2) fun x82 =>
  if x82 < v4 then (jb_PM_spreads_108 N k34 M v0 v1 v2 v3 v4 s0 1) else
  Option.bind (mj_getR M v0 1 7) fun x87 =>
  Option.bind (mj_getR M v0 1 6) fun x94 =>
  Option.bind x94 fun a98 =>
  Option.bind (mj_ild M a98 0 v2) fun x98 =>
  Option.bind x87 fun a103 =>
  Option.bind (mj_ild M a103 0 (((3 * v2) + x98) - v4)) fun x103 =>
  jb_PM_spreads_108 N k34 M v0 v1 v2 v3 v4 s0 x103
def jb_PM_spreads_34 (N : Nat) : Nat → mv_M → Nat → Int32 → Int32 → Int32 → Int32 → Option (Int32 × mv_M)
  | 0, _, _, _, _, _, _ => none
  | n + 1, M, v0, v1, v2, v3, v4 =>
    if v3 < v4 then (Option.bind (mj_put M v0 1 11 (.int v3)) fun Mm162 =>
    if (1 : Int32) = 0 ∨ (1 : Int32) = 1 then some (1, Mm162) else none) else
    Option.bind (mj_getR M v0 1 6) fun x43 =>
    Option.bind x43 fun a47 =>
    Option.bind (mj_ild M a47 0 v1) fun x47 =>
    if x47 < v4 then (jb_PM_spreads_73 N (jb_PM_spreads_34 N n) M v0 v1 v2 v3 v4 1) else
    Option.bind (mj_getR M v0 1 7) fun x52 =>
    Option.bind (mj_getR M v0 1 6) fun x59 =>
    Option.bind x59 fun a63 =>
    Option.bind (mj_ild M a63 0 v1) fun x63 =>
    Option.bind x52 fun a68 =>
    Option.bind (mj_ild M a68 0 (((3 * v1) + x63) - v4)) fun x68 =>
    jb_PM_spreads_73 N (jb_PM_spreads_34 N n) M v0 v1 v2 v3 v4 x68
def jb_PM_spreads_30 (N : Nat) (M : mv_M) (v0 : Nat) (v1 : Int32) (v2 : Int32) (s0 : Int32) : Option (Int32 × mv_M) :=
  jb_PM_spreads_34 N N M v0 v1 v2 s0 1
def jb_PM_spreads_0 (N : Nat) (M : mv_M) (v0 : Nat) (v1 : Int32) (v2 : Int32) : Option (Int32 × mv_M) :=
  Option.bind (mj_getR M v0 1 6) fun x1 =>
  Option.bind x1 fun a5 =>
  Option.bind (mj_ild M a5 0 v1) fun x5 =>
  Option.bind (mj_getR M v0 1 6) fun x7 =>
  Option.bind x7 fun a11 =>
  Option.bind (mj_ild M a11 0 v2) fun x11 =>
  if x5 ≤ x11 then (Option.bind (mj_getR M v0 1 6) fun x25 =>
  Option.bind x25 fun a29 =>
  Option.bind (mj_ild M a29 0 v2) fun x29 =>
  jb_PM_spreads_30 N M v0 v1 v2 x29) else
  Option.bind (mj_getR M v0 1 6) fun x16 =>
  Option.bind x16 fun a20 =>
  Option.bind (mj_ild M a20 0 v1) fun x20 =>
  jb_PM_spreads_30 N M v0 v1 v2 x20
def jf_PM_spreads (N : Nat) (M : mv_M) (v0 : Nat) (v1 : Int32) (v2 : Int32) : Option (Int32 × mv_M) := jb_PM_spreads_0 N M v0 v1 v2
set_option maxHeartbeats 4000000 in
set_option maxRecDepth 100000 in
theorem tb_PM_spreads_153 (l : Launch) (D : va_G) (E : Nat → ClassId) (B : Nat) (sa : (Nat → Nat) × Nat × (Nat → Int32)) (M0 M1 : mv_M) (r : Int32) (N : Nat) (k34 : mv_M → Nat → Int32 → Int32 → Int32 → Int32 → Option (Int32 × mv_M)) (hk34 : ∀ (M : mv_M) (v0 : Nat) (v1 : Int32) (v2 : Int32) (v3 : Int32) (v4 : Int32), k34 M v0 v1 v2 v3 v4 = some (r, M1) → mv_G (xg l D E B sa) kd_PM_spreads M0 M1 (some (.int r)) M 34 [(0, va_rf (some v0)), (1, .int v1), (2, .int v2), (3, .int v3), (4, .int v4)] []) (M : mv_M) (v0 : Nat) (v1 : Int32) (v2 : Int32) (v3 : Int32) (v4 : Int32) (s0 : Option Nat) (s1 : Int32) (s2 : Int32) (hJ : jb_PM_spreads_153 N k34 M v0 v1 v2 v3 v4 s0 s1 s2 = some (r, M1)) : mv_G (xg l D E B sa) kd_PM_spreads M0 M1 (some (.int r)) M 153 [(0, va_rf (some v0)), (1, .int v1), (2, .int v2), (3, .int v3), (4, .int v4)] [.int s2, .int s1, va_rf s0] := by
  unfold jb_PM_spreads_153 at hJ
  obtain ⟨a153, ha, h153a⟩ := mj_bindE hJ
  subst ha
  refine mv_iast (pc := 153) (t := 0) rfl de_PM_spreads_153 h153a (fun Mm153 e153 h153 => ?_)
  refine mv_iinc (pc := 154) (v := (v4 + 1)) (lv' := [(4, .int (v4 + 1)), (0, va_rf (some v0)), (1, .int v1), (2, .int v2), (3, .int v3)]) de_PM_spreads_154 4 rfl rfl (Nat.le_of_ble_eq_true rfl) rfl ?_
  refine mv_goto (pc := 157) (tgt := 34) de_PM_spreads_157 (by decide) ?_
  exact mv_sub [1, 2, 3, 4, 0] rfl (hk34 Mm153 v0 v1 v2 v3 (v4 + 1) h153)
set_option maxHeartbeats 4000000 in
set_option maxRecDepth 100000 in
theorem tb_PM_spreads_131 (l : Launch) (D : va_G) (E : Nat → ClassId) (B : Nat) (sa : (Nat → Nat) × Nat × (Nat → Int32)) (M0 M1 : mv_M) (r : Int32) (N : Nat) (k34 : mv_M → Nat → Int32 → Int32 → Int32 → Int32 → Option (Int32 × mv_M)) (hk34 : ∀ (M : mv_M) (v0 : Nat) (v1 : Int32) (v2 : Int32) (v3 : Int32) (v4 : Int32), k34 M v0 v1 v2 v3 v4 = some (r, M1) → mv_G (xg l D E B sa) kd_PM_spreads M0 M1 (some (.int r)) M 34 [(0, va_rf (some v0)), (1, .int v1), (2, .int v2), (3, .int v3), (4, .int v4)] []) (M : mv_M) (v0 : Nat) (v1 : Int32) (v2 : Int32) (v3 : Int32) (v4 : Int32) (v5 : Int32) (v6 : Int32) (hJ : jb_PM_spreads_131 N k34 M v0 v1 v2 v3 v4 v5 v6 = some (r, M1)) : mv_G (xg l D E B sa) kd_PM_spreads M0 M1 (some (.int r)) M 131 [(0, va_rf (some v0)), (1, .int v1), (2, .int v2), (3, .int v3), (4, .int v4), (5, .int v5), (6, .int v6)] [] := by
  unfold jb_PM_spreads_131 at hJ
  refine mv_aload_n (pc := 131) (i := 0) de_PM_spreads_131 rfl 0 rfl ?_
  refine mv_getR (pc := 132) (f := 12) (kc_1 l D E B sa) (Nat.le_of_ble_eq_true rfl) wt_4_92 de_PM_spreads_132 hJ (fun x132 e132 h132 => ?_)
  refine mv_iload_n (pc := 135) (i := 3) de_PM_spreads_135 rfl 3 rfl ?_
  refine mv_iload (pc := 136) de_PM_spreads_136 4 rfl ?_
  refine mv_isub (pc := 138) de_PM_spreads_138 ?_
  refine mv_iload (pc := 139) de_PM_spreads_139 5 rfl ?_
  refine mv_iload (pc := 141) de_PM_spreads_141 6 rfl ?_
  refine mv_icmp_le (pc := 143) (tgt := 151) de_PM_spreads_143 (by decide) h132 (fun hc143 h143 => ?_) (fun hc143 h143 => ?_)
  · refine mv_iload (pc := 151) de_PM_spreads_151 6 rfl ?_
    exact mv_sub [0, 1, 2, 3, 4] rfl (tb_PM_spreads_153 l D E B sa M0 M1 r N k34 hk34 M v0 v1 v2 v3 v4 x132 (v3 - v4) v6 h143)
  · refine mv_iload (pc := 146) de_PM_spreads_146 5 rfl ?_
    refine mv_goto (pc := 148) (tgt := 153) de_PM_spreads_148 (by decide) ?_
    exact mv_sub [0, 1, 2, 3, 4] rfl (tb_PM_spreads_153 l D E B sa M0 M1 r N k34 hk34 M v0 v1 v2 v3 v4 x132 (v3 - v4) v5 h143)
set_option maxHeartbeats 4000000 in
set_option maxRecDepth 100000 in
theorem tb_PM_spreads_108 (l : Launch) (D : va_G) (E : Nat → ClassId) (B : Nat) (sa : (Nat → Nat) × Nat × (Nat → Int32)) (M0 M1 : mv_M) (r : Int32) (N : Nat) (k34 : mv_M → Nat → Int32 → Int32 → Int32 → Int32 → Option (Int32 × mv_M)) (hk34 : ∀ (M : mv_M) (v0 : Nat) (v1 : Int32) (v2 : Int32) (v3 : Int32) (v4 : Int32), k34 M v0 v1 v2 v3 v4 = some (r, M1) → mv_G (xg l D E B sa) kd_PM_spreads M0 M1 (some (.int r)) M 34 [(0, va_rf (some v0)), (1, .int v1), (2, .int v2), (3, .int v3), (4, .int v4)] []) (M : mv_M) (v0 : Nat) (v1 : Int32) (v2 : Int32) (v3 : Int32) (v4 : Int32) (v5 : Int32) (s0 : Int32) (hJ : jb_PM_spreads_108 N k34 M v0 v1 v2 v3 v4 v5 s0 = some (r, M1)) : mv_G (xg l D E B sa) kd_PM_spreads M0 M1 (some (.int r)) M 108 [(0, va_rf (some v0)), (1, .int v1), (2, .int v2), (3, .int v3), (4, .int v4), (5, .int v5)] [.int s0] := by
  unfold jb_PM_spreads_108 at hJ
  refine mv_istore (pc := 108) (lv' := [(6, .int s0), (0, va_rf (some v0)), (1, .int v1), (2, .int v2), (3, .int v3), (4, .int v4), (5, .int v5)]) de_PM_spreads_108 (Nat.le_of_ble_eq_true rfl) rfl ?_
  refine mv_iload (pc := 110) de_PM_spreads_110 6 rfl ?_
  refine mv_iload (pc := 112) de_PM_spreads_112 0 rfl ?_
  refine mv_icmp_eq (pc := 114) (tgt := 131) de_PM_spreads_114 (by decide) hJ (fun hc114 h114 => ?_) (fun hc114 h114 => ?_)
  · exact mv_sub [1, 2, 3, 4, 5, 6, 0] rfl (tb_PM_spreads_131 l D E B sa M0 M1 r N k34 hk34 M v0 v1 v2 v3 v4 v5 s0 h114)
  · refine mv_iload (pc := 117) de_PM_spreads_117 6 rfl ?_
    refine mv_iconst (pc := 119) (v := 1) de_PM_spreads_119 (by decide) ?_
    refine mv_icmp_eq (pc := 120) (tgt := 131) de_PM_spreads_120 (by decide) h114 (fun hc120 h120 => ?_) (fun hc120 h120 => ?_)
    · exact mv_sub [1, 2, 3, 4, 5, 6, 0] rfl (tb_PM_spreads_131 l D E B sa M0 M1 r N k34 hk34 M v0 v1 v2 v3 v4 v5 s0 h120)
    · refine mv_iload (pc := 123) de_PM_spreads_123 0 rfl ?_
      refine mv_iconst (pc := 125) (v := 1) de_PM_spreads_125 (by decide) ?_
      refine mv_icmp_eq (pc := 126) (tgt := 131) de_PM_spreads_126 (by decide) h120 (fun hc126 h126 => ?_) (fun hc126 h126 => ?_)
      · exact mv_sub [1, 2, 3, 4, 5, 6, 0] rfl (tb_PM_spreads_131 l D E B sa M0 M1 r N k34 hk34 M v0 v1 v2 v3 v4 v5 s0 h126)
      · refine mv_iconst (pc := 129) (v := 0) de_PM_spreads_129 (by decide) ?_
        exact mv_zret (pc := 130) rfl de_PM_spreads_130 h126
set_option maxHeartbeats 4000000 in
set_option maxRecDepth 100000 in
theorem tb_PM_spreads_73 (l : Launch) (D : va_G) (E : Nat → ClassId) (B : Nat) (sa : (Nat → Nat) × Nat × (Nat → Int32)) (M0 M1 : mv_M) (r : Int32) (N : Nat) (k34 : mv_M → Nat → Int32 → Int32 → Int32 → Int32 → Option (Int32 × mv_M)) (hk34 : ∀ (M : mv_M) (v0 : Nat) (v1 : Int32) (v2 : Int32) (v3 : Int32) (v4 : Int32), k34 M v0 v1 v2 v3 v4 = some (r, M1) → mv_G (xg l D E B sa) kd_PM_spreads M0 M1 (some (.int r)) M 34 [(0, va_rf (some v0)), (1, .int v1), (2, .int v2), (3, .int v3), (4, .int v4)] []) (M : mv_M) (v0 : Nat) (v1 : Int32) (v2 : Int32) (v3 : Int32) (v4 : Int32) (s0 : Int32) (hJ : jb_PM_spreads_73 N k34 M v0 v1 v2 v3 v4 s0 = some (r, M1)) : mv_G (xg l D E B sa) kd_PM_spreads M0 M1 (some (.int r)) M 73 [(0, va_rf (some v0)), (1, .int v1), (2, .int v2), (3, .int v3), (4, .int v4)] [.int s0] := by
  unfold jb_PM_spreads_73 at hJ
  refine mv_istore (pc := 73) (lv' := [(5, .int s0), (0, va_rf (some v0)), (1, .int v1), (2, .int v2), (3, .int v3), (4, .int v4)]) de_PM_spreads_73 (Nat.le_of_ble_eq_true rfl) rfl ?_
  refine mv_iload (pc := 75) de_PM_spreads_75 5 rfl ?_
  refine mv_aload_n (pc := 77) (i := 0) de_PM_spreads_77 rfl 1 rfl ?_
  refine mv_getR (pc := 78) (f := 6) (kc_1 l D E B sa) (Nat.le_of_ble_eq_true rfl) wt_4_86 de_PM_spreads_78 hJ (fun x78 e78 h78 => ?_)
  refine mv_iload_n (pc := 81) (i := 2) de_PM_spreads_81 rfl 3 rfl ?_
  obtain ⟨a82, ha, h82a⟩ := mj_bindE h78
  subst ha
  refine mv_iald (pc := 82) (t := 0) rfl de_PM_spreads_82 h82a (fun x82 e82 h82 => ?_)
  refine mv_icmp_gt (pc := 83) (tgt := 107) de_PM_spreads_83 (by decide) h82 (fun hc83 h83 => ?_) (fun hc83 h83 => ?_)
  · refine mv_iconst (pc := 107) (v := 1) de_PM_spreads_107 (by decide) ?_
    exact mv_sub [1, 2, 3, 4, 5, 0] rfl (tb_PM_spreads_108 l D E B sa M0 M1 r N k34 hk34 M v0 v1 v2 v3 v4 s0 1 h83)
  · refine mv_aload_n (pc := 86) (i := 0) de_PM_spreads_86 rfl 1 rfl ?_
    refine mv_getR (pc := 87) (f := 7) (kc_1 l D E B sa) (Nat.le_of_ble_eq_true rfl) wt_4_87 de_PM_spreads_87 h83 (fun x87 e87 h87 => ?_)
    refine mv_iconst (pc := 90) (v := 3) de_PM_spreads_90 (by decide) ?_
    refine mv_iload_n (pc := 91) (i := 2) de_PM_spreads_91 rfl 3 rfl ?_
    refine mv_imul (pc := 92) de_PM_spreads_92 ?_
    refine mv_aload_n (pc := 93) (i := 0) de_PM_spreads_93 rfl 1 rfl ?_
    refine mv_getR (pc := 94) (f := 6) (kc_1 l D E B sa) (Nat.le_of_ble_eq_true rfl) wt_4_86 de_PM_spreads_94 h87 (fun x94 e94 h94 => ?_)
    refine mv_iload_n (pc := 97) (i := 2) de_PM_spreads_97 rfl 3 rfl ?_
    obtain ⟨a98, ha, h98a⟩ := mj_bindE h94
    subst ha
    refine mv_iald (pc := 98) (t := 0) rfl de_PM_spreads_98 h98a (fun x98 e98 h98 => ?_)
    refine mv_iadd (pc := 99) de_PM_spreads_99 ?_
    refine mv_iload (pc := 100) de_PM_spreads_100 5 rfl ?_
    refine mv_isub (pc := 102) de_PM_spreads_102 ?_
    obtain ⟨a103, ha, h103a⟩ := mj_bindE h98
    subst ha
    refine mv_iald (pc := 103) (t := 0) rfl de_PM_spreads_103 h103a (fun x103 e103 h103 => ?_)
    refine mv_goto (pc := 104) (tgt := 108) de_PM_spreads_104 (by decide) ?_
    exact mv_sub [1, 2, 3, 4, 5, 0] rfl (tb_PM_spreads_108 l D E B sa M0 M1 r N k34 hk34 M v0 v1 v2 v3 v4 s0 x103 h103)
set_option maxHeartbeats 4000000 in
set_option maxRecDepth 100000 in
theorem tb_PM_spreads_34 (l : Launch) (D : va_G) (E : Nat → ClassId) (B : Nat) (sa : (Nat → Nat) × Nat × (Nat → Int32)) (M0 M1 : mv_M) (r : Int32) (N : Nat) : ∀ (n : Nat) (M : mv_M) (v0 : Nat) (v1 : Int32) (v2 : Int32) (v3 : Int32) (v4 : Int32) (hJ : jb_PM_spreads_34 N n M v0 v1 v2 v3 v4 = some (r, M1)), mv_G (xg l D E B sa) kd_PM_spreads M0 M1 (some (.int r)) M 34 [(0, va_rf (some v0)), (1, .int v1), (2, .int v2), (3, .int v3), (4, .int v4)] [] := by
  intro n
  induction n with
  | zero => intro M v0 v1 v2 v3 v4 hJ; cases hJ
  | succ n ih =>
    intro M v0 v1 v2 v3 v4 hJ
    rw [jb_PM_spreads_34] at hJ
    refine mv_iload (pc := 34) de_PM_spreads_34 4 rfl ?_
    refine mv_iload_n (pc := 36) (i := 3) de_PM_spreads_36 rfl 3 rfl ?_
    refine mv_icmp_gt (pc := 37) (tgt := 160) de_PM_spreads_37 (by decide) hJ (fun hc37 h37 => ?_) (fun hc37 h37 => ?_)
    · refine mv_aload_n (pc := 160) (i := 0) de_PM_spreads_160 rfl 0 rfl ?_
      refine mv_iload_n (pc := 161) (i := 3) de_PM_spreads_161 rfl 3 rfl ?_
      refine mv_put (pc := 162) (f := 11) (kc_1 l D E B sa) (Nat.le_of_ble_eq_true rfl) wt_4_91 rfl rfl rfl de_PM_spreads_162 h37 (fun Mm162 e162 h162 => ?_)
      refine mv_iconst (pc := 165) (v := 1) de_PM_spreads_165 (by decide) ?_
      exact mv_zret (pc := 166) rfl de_PM_spreads_166 h162
    · refine mv_iload (pc := 40) de_PM_spreads_40 4 rfl ?_
      refine mv_aload_n (pc := 42) (i := 0) de_PM_spreads_42 rfl 0 rfl ?_
      refine mv_getR (pc := 43) (f := 6) (kc_1 l D E B sa) (Nat.le_of_ble_eq_true rfl) wt_4_86 de_PM_spreads_43 h37 (fun x43 e43 h43 => ?_)
      refine mv_iload_n (pc := 46) (i := 1) de_PM_spreads_46 rfl 1 rfl ?_
      obtain ⟨a47, ha, h47a⟩ := mj_bindE h43
      subst ha
      refine mv_iald (pc := 47) (t := 0) rfl de_PM_spreads_47 h47a (fun x47 e47 h47 => ?_)
      refine mv_icmp_gt (pc := 48) (tgt := 72) de_PM_spreads_48 (by decide) h47 (fun hc48 h48 => ?_) (fun hc48 h48 => ?_)
      · refine mv_iconst (pc := 72) (v := 1) de_PM_spreads_72 (by decide) ?_
        exact mv_sub [0, 1, 2, 3, 4] rfl (tb_PM_spreads_73 l D E B sa M0 M1 r N (jb_PM_spreads_34 N n) ih M v0 v1 v2 v3 v4 1 h48)
      · refine mv_aload_n (pc := 51) (i := 0) de_PM_spreads_51 rfl 0 rfl ?_
        refine mv_getR (pc := 52) (f := 7) (kc_1 l D E B sa) (Nat.le_of_ble_eq_true rfl) wt_4_87 de_PM_spreads_52 h48 (fun x52 e52 h52 => ?_)
        refine mv_iconst (pc := 55) (v := 3) de_PM_spreads_55 (by decide) ?_
        refine mv_iload_n (pc := 56) (i := 1) de_PM_spreads_56 rfl 1 rfl ?_
        refine mv_imul (pc := 57) de_PM_spreads_57 ?_
        refine mv_aload_n (pc := 58) (i := 0) de_PM_spreads_58 rfl 0 rfl ?_
        refine mv_getR (pc := 59) (f := 6) (kc_1 l D E B sa) (Nat.le_of_ble_eq_true rfl) wt_4_86 de_PM_spreads_59 h52 (fun x59 e59 h59 => ?_)
        refine mv_iload_n (pc := 62) (i := 1) de_PM_spreads_62 rfl 1 rfl ?_
        obtain ⟨a63, ha, h63a⟩ := mj_bindE h59
        subst ha
        refine mv_iald (pc := 63) (t := 0) rfl de_PM_spreads_63 h63a (fun x63 e63 h63 => ?_)
        refine mv_iadd (pc := 64) de_PM_spreads_64 ?_
        refine mv_iload (pc := 65) de_PM_spreads_65 4 rfl ?_
        refine mv_isub (pc := 67) de_PM_spreads_67 ?_
        obtain ⟨a68, ha, h68a⟩ := mj_bindE h63
        subst ha
        refine mv_iald (pc := 68) (t := 0) rfl de_PM_spreads_68 h68a (fun x68 e68 h68 => ?_)
        refine mv_goto (pc := 69) (tgt := 73) de_PM_spreads_69 (by decide) ?_
        exact mv_sub [0, 1, 2, 3, 4] rfl (tb_PM_spreads_73 l D E B sa M0 M1 r N (jb_PM_spreads_34 N n) ih M v0 v1 v2 v3 v4 x68 h68)
set_option maxHeartbeats 4000000 in
set_option maxRecDepth 100000 in
theorem tb_PM_spreads_30 (l : Launch) (D : va_G) (E : Nat → ClassId) (B : Nat) (sa : (Nat → Nat) × Nat × (Nat → Int32)) (M0 M1 : mv_M) (r : Int32) (N : Nat) (M : mv_M) (v0 : Nat) (v1 : Int32) (v2 : Int32) (s0 : Int32) (hJ : jb_PM_spreads_30 N M v0 v1 v2 s0 = some (r, M1)) : mv_G (xg l D E B sa) kd_PM_spreads M0 M1 (some (.int r)) M 30 [(0, va_rf (some v0)), (1, .int v1), (2, .int v2)] [.int s0] := by
  unfold jb_PM_spreads_30 at hJ
  refine mv_istore_n (pc := 30) (i := 3) (lv' := [(3, .int s0), (0, va_rf (some v0)), (1, .int v1), (2, .int v2)]) de_PM_spreads_30 rfl (Nat.le_of_ble_eq_true rfl) rfl ?_
  refine mv_iconst (pc := 31) (v := 1) de_PM_spreads_31 (by decide) ?_
  refine mv_istore (pc := 32) (lv' := [(4, .int 1), (3, .int s0), (0, va_rf (some v0)), (1, .int v1), (2, .int v2)]) de_PM_spreads_32 (Nat.le_of_ble_eq_true rfl) rfl ?_
  exact mv_sub [2, 3, 4, 1, 0] rfl (tb_PM_spreads_34 l D E B sa M0 M1 r N N M v0 v1 v2 s0 1 hJ)
set_option maxHeartbeats 4000000 in
set_option maxRecDepth 100000 in
theorem tb_PM_spreads_0 (l : Launch) (D : va_G) (E : Nat → ClassId) (B : Nat) (sa : (Nat → Nat) × Nat × (Nat → Int32)) (M0 M1 : mv_M) (r : Int32) (N : Nat) (M : mv_M) (v0 : Nat) (v1 : Int32) (v2 : Int32) (hJ : jb_PM_spreads_0 N M v0 v1 v2 = some (r, M1)) : mv_G (xg l D E B sa) kd_PM_spreads M0 M1 (some (.int r)) M 0 [(0, va_rf (some v0)), (1, .int v1), (2, .int v2)] [] := by
  unfold jb_PM_spreads_0 at hJ
  refine mv_aload_n (pc := 0) (i := 0) de_PM_spreads_0 rfl 0 rfl ?_
  refine mv_getR (pc := 1) (f := 6) (kc_1 l D E B sa) (Nat.le_of_ble_eq_true rfl) wt_4_86 de_PM_spreads_1 hJ (fun x1 e1 h1 => ?_)
  refine mv_iload_n (pc := 4) (i := 1) de_PM_spreads_4 rfl 1 rfl ?_
  obtain ⟨a5, ha, h5a⟩ := mj_bindE h1
  subst ha
  refine mv_iald (pc := 5) (t := 0) rfl de_PM_spreads_5 h5a (fun x5 e5 h5 => ?_)
  refine mv_aload_n (pc := 6) (i := 0) de_PM_spreads_6 rfl 0 rfl ?_
  refine mv_getR (pc := 7) (f := 6) (kc_1 l D E B sa) (Nat.le_of_ble_eq_true rfl) wt_4_86 de_PM_spreads_7 h5 (fun x7 e7 h7 => ?_)
  refine mv_iload_n (pc := 10) (i := 2) de_PM_spreads_10 rfl 2 rfl ?_
  obtain ⟨a11, ha, h11a⟩ := mj_bindE h7
  subst ha
  refine mv_iald (pc := 11) (t := 0) rfl de_PM_spreads_11 h11a (fun x11 e11 h11 => ?_)
  refine mv_icmp_le (pc := 12) (tgt := 24) de_PM_spreads_12 (by decide) h11 (fun hc12 h12 => ?_) (fun hc12 h12 => ?_)
  · refine mv_aload_n (pc := 24) (i := 0) de_PM_spreads_24 rfl 0 rfl ?_
    refine mv_getR (pc := 25) (f := 6) (kc_1 l D E B sa) (Nat.le_of_ble_eq_true rfl) wt_4_86 de_PM_spreads_25 h12 (fun x25 e25 h25 => ?_)
    refine mv_iload_n (pc := 28) (i := 2) de_PM_spreads_28 rfl 2 rfl ?_
    obtain ⟨a29, ha, h29a⟩ := mj_bindE h25
    subst ha
    refine mv_iald (pc := 29) (t := 0) rfl de_PM_spreads_29 h29a (fun x29 e29 h29 => ?_)
    exact mv_sub [0, 1, 2] rfl (tb_PM_spreads_30 l D E B sa M0 M1 r N M v0 v1 v2 x29 h29)
  · refine mv_aload_n (pc := 15) (i := 0) de_PM_spreads_15 rfl 0 rfl ?_
    refine mv_getR (pc := 16) (f := 6) (kc_1 l D E B sa) (Nat.le_of_ble_eq_true rfl) wt_4_86 de_PM_spreads_16 h12 (fun x16 e16 h16 => ?_)
    refine mv_iload_n (pc := 19) (i := 1) de_PM_spreads_19 rfl 1 rfl ?_
    obtain ⟨a20, ha, h20a⟩ := mj_bindE h16
    subst ha
    refine mv_iald (pc := 20) (t := 0) rfl de_PM_spreads_20 h20a (fun x20 e20 h20 => ?_)
    refine mv_goto (pc := 21) (tgt := 30) de_PM_spreads_21 (by decide) ?_
    exact mv_sub [0, 1, 2] rfl (tb_PM_spreads_30 l D E B sa M0 M1 r N M v0 v1 v2 x20 h20)
theorem cm_PM_spreads (l : Launch) (D : va_G) (E : Nat → ClassId) (B : Nat) (sa : (Nat → Nat) × Nat × (Nat → Int32)) (N : Nat) (M : mv_M) (v0 : Nat) (v1 : Int32) (v2 : Int32) (r : Int32) (M1 : mv_M) (hJ : jf_PM_spreads N M v0 v1 v2 = some (r, M1)) : mv_Met (xg l D E B sa) yn_PM_spreads cd_PM_spreads 7 (some .boolean) 0 0 [va_rf (some v0), .int v1, .int v2] M (some (.int r)) M1 :=
  mv_enter (by decide) (Nat.le_of_ble_eq_true rfl) (mv_sub (lv := [(0, va_rf (some v0)), (1, .int v1), (2, .int v2)]) [0, 1, 2] rfl (tb_PM_spreads_0 l D E B sa M M1 r N M v0 v1 v2 hJ))
/-! ===== PlainLearnerModel.fits(III)Z ===== -/
abbrev kd_PM_fits : mv_Kd := (cd_PM_fits, 6, "PlainLearnerModel", "fits", (some .boolean), 1, 26)
theorem de_PM_fits_0 : decode cd_PM_fits 0 = .ok (.iload_n 1, 1) := by decide +kernel
theorem de_PM_fits_1 : decode cd_PM_fits 1 = .ok (.iconst 4, 1) := by decide +kernel
theorem de_PM_fits_2 : decode cd_PM_fits 2 = .ok (.if_icmp .ge 10, 3) := by decide +kernel
theorem de_PM_fits_5 : decode cd_PM_fits 5 = .ok (.aload_n 0, 1) := by decide +kernel
theorem de_PM_fits_6 : decode cd_PM_fits 6 = .ok (.iload_n 2, 1) := by decide +kernel
theorem de_PM_fits_7 : decode cd_PM_fits 7 = .ok (.iload_n 3, 1) := by decide +kernel
theorem de_PM_fits_8 : decode cd_PM_fits 8 = .ok (.invokevirtual 121, 3) := by decide +kernel
theorem de_PM_fits_11 : decode cd_PM_fits 11 = .ok (.ireturn, 1) := by decide +kernel
theorem de_PM_fits_12 : decode cd_PM_fits 12 = .ok (.iload_n 1, 1) := by decide +kernel
theorem de_PM_fits_13 : decode cd_PM_fits 13 = .ok (.iconst 4, 1) := by decide +kernel
theorem de_PM_fits_14 : decode cd_PM_fits 14 = .ok (.if_icmp .ne 71, 3) := by decide +kernel
theorem de_PM_fits_17 : decode cd_PM_fits 17 = .ok (.aload_n 0, 1) := by decide +kernel
theorem de_PM_fits_18 : decode cd_PM_fits 18 = .ok (.getfield 19, 3) := by decide +kernel
theorem de_PM_fits_21 : decode cd_PM_fits 21 = .ok (.iload_n 2, 1) := by decide +kernel
theorem de_PM_fits_22 : decode cd_PM_fits 22 = .ok (.iaload, 1) := by decide +kernel
theorem de_PM_fits_23 : decode cd_PM_fits 23 = .ok (.iconst 2, 1) := by decide +kernel
theorem de_PM_fits_24 : decode cd_PM_fits 24 = .ok (.if_icmp .ne 28, 3) := by decide +kernel
theorem de_PM_fits_27 : decode cd_PM_fits 27 = .ok (.aload_n 0, 1) := by decide +kernel
theorem de_PM_fits_28 : decode cd_PM_fits 28 = .ok (.getfield 19, 3) := by decide +kernel
theorem de_PM_fits_31 : decode cd_PM_fits 31 = .ok (.iload_n 3, 1) := by decide +kernel
theorem de_PM_fits_32 : decode cd_PM_fits 32 = .ok (.iaload, 1) := by decide +kernel
theorem de_PM_fits_33 : decode cd_PM_fits 33 = .ok (.iconst 2, 1) := by decide +kernel
theorem de_PM_fits_34 : decode cd_PM_fits 34 = .ok (.if_icmp .ne 18, 3) := by decide +kernel
theorem de_PM_fits_37 : decode cd_PM_fits 37 = .ok (.aload_n 0, 1) := by decide +kernel
theorem de_PM_fits_38 : decode cd_PM_fits 38 = .ok (.iload_n 2, 1) := by decide +kernel
theorem de_PM_fits_39 : decode cd_PM_fits 39 = .ok (.iconst 1, 1) := by decide +kernel
theorem de_PM_fits_40 : decode cd_PM_fits 40 = .ok (.invokevirtual 125, 3) := by decide +kernel
theorem de_PM_fits_43 : decode cd_PM_fits 43 = .ok (.aload_n 0, 1) := by decide +kernel
theorem de_PM_fits_44 : decode cd_PM_fits 44 = .ok (.iload_n 3, 1) := by decide +kernel
theorem de_PM_fits_45 : decode cd_PM_fits 45 = .ok (.iconst 0, 1) := by decide +kernel
theorem de_PM_fits_46 : decode cd_PM_fits 46 = .ok (.invokevirtual 125, 3) := by decide +kernel
theorem de_PM_fits_49 : decode cd_PM_fits 49 = .ok (.if_icmp .eq 5, 3) := by decide +kernel
theorem de_PM_fits_52 : decode cd_PM_fits 52 = .ok (.iconst 0, 1) := by decide +kernel
theorem de_PM_fits_53 : decode cd_PM_fits 53 = .ok (.ireturn, 1) := by decide +kernel
theorem de_PM_fits_54 : decode cd_PM_fits 54 = .ok (.aload_n 0, 1) := by decide +kernel
theorem de_PM_fits_55 : decode cd_PM_fits 55 = .ok (.iconst 2, 1) := by decide +kernel
theorem de_PM_fits_56 : decode cd_PM_fits 56 = .ok (.putfield 118, 3) := by decide +kernel
theorem de_PM_fits_59 : decode cd_PM_fits 59 = .ok (.aload_n 0, 1) := by decide +kernel
theorem de_PM_fits_60 : decode cd_PM_fits 60 = .ok (.getfield 36, 3) := by decide +kernel
theorem de_PM_fits_63 : decode cd_PM_fits 63 = .ok (.iconst 0, 1) := by decide +kernel
theorem de_PM_fits_64 : decode cd_PM_fits 64 = .ok (.aload_n 0, 1) := by decide +kernel
theorem de_PM_fits_65 : decode cd_PM_fits 65 = .ok (.iload_n 2, 1) := by decide +kernel
theorem de_PM_fits_66 : decode cd_PM_fits 66 = .ok (.iconst 0, 1) := by decide +kernel
theorem de_PM_fits_67 : decode cd_PM_fits 67 = .ok (.invokevirtual 125, 3) := by decide +kernel
theorem de_PM_fits_70 : decode cd_PM_fits 70 = .ok (.iastore, 1) := by decide +kernel
theorem de_PM_fits_71 : decode cd_PM_fits 71 = .ok (.aload_n 0, 1) := by decide +kernel
theorem de_PM_fits_72 : decode cd_PM_fits 72 = .ok (.getfield 36, 3) := by decide +kernel
theorem de_PM_fits_75 : decode cd_PM_fits 75 = .ok (.iconst 1, 1) := by decide +kernel
theorem de_PM_fits_76 : decode cd_PM_fits 76 = .ok (.aload_n 0, 1) := by decide +kernel
theorem de_PM_fits_77 : decode cd_PM_fits 77 = .ok (.iload_n 3, 1) := by decide +kernel
theorem de_PM_fits_78 : decode cd_PM_fits 78 = .ok (.iconst 1, 1) := by decide +kernel
theorem de_PM_fits_79 : decode cd_PM_fits 79 = .ok (.invokevirtual 125, 3) := by decide +kernel
theorem de_PM_fits_82 : decode cd_PM_fits 82 = .ok (.iastore, 1) := by decide +kernel
theorem de_PM_fits_83 : decode cd_PM_fits 83 = .ok (.iconst 1, 1) := by decide +kernel
theorem de_PM_fits_84 : decode cd_PM_fits 84 = .ok (.ireturn, 1) := by decide +kernel
theorem de_PM_fits_85 : decode cd_PM_fits 85 = .ok (.iload_n 1, 1) := by decide +kernel
theorem de_PM_fits_86 : decode cd_PM_fits 86 = .ok (.bipush 9, 2) := by decide +kernel
theorem de_PM_fits_88 : decode cd_PM_fits 88 = .ok (.if_icmp .ge 133, 3) := by decide +kernel
theorem de_PM_fits_91 : decode cd_PM_fits 91 = .ok (.iload_n 1, 1) := by decide +kernel
theorem de_PM_fits_92 : decode cd_PM_fits 92 = .ok (.bipush 8, 2) := by decide +kernel
theorem de_PM_fits_94 : decode cd_PM_fits 94 = .ok (.if_icmp .ne 33, 3) := by decide +kernel
theorem de_PM_fits_97 : decode cd_PM_fits 97 = .ok (.aload_n 0, 1) := by decide +kernel
theorem de_PM_fits_98 : decode cd_PM_fits 98 = .ok (.getfield 19, 3) := by decide +kernel
theorem de_PM_fits_101 : decode cd_PM_fits 101 = .ok (.iload_n 2, 1) := by decide +kernel
theorem de_PM_fits_102 : decode cd_PM_fits 102 = .ok (.iaload, 1) := by decide +kernel
theorem de_PM_fits_103 : decode cd_PM_fits 103 = .ok (.ifCond .eq 42, 3) := by decide +kernel
theorem de_PM_fits_106 : decode cd_PM_fits 106 = .ok (.iload_n 3, 1) := by decide +kernel
theorem de_PM_fits_107 : decode cd_PM_fits 107 = .ok (.i2l, 1) := by decide +kernel
theorem de_PM_fits_108 : decode cd_PM_fits 108 = .ok (.lconst 0, 1) := by decide +kernel
theorem de_PM_fits_109 : decode cd_PM_fits 109 = .ok (.aload_n 0, 1) := by decide +kernel
theorem de_PM_fits_110 : decode cd_PM_fits 110 = .ok (.iload_n 2, 1) := by decide +kernel
theorem de_PM_fits_111 : decode cd_PM_fits 111 = .ok (.iconst 0, 1) := by decide +kernel
theorem de_PM_fits_112 : decode cd_PM_fits 112 = .ok (.invokevirtual 125, 3) := by decide +kernel
theorem de_PM_fits_115 : decode cd_PM_fits 115 = .ok (.iconst 1, 1) := by decide +kernel
theorem de_PM_fits_116 : decode cd_PM_fits 116 = .ok (.isub, 1) := by decide +kernel
theorem de_PM_fits_117 : decode cd_PM_fits 117 = .ok (.i2l, 1) := by decide +kernel
theorem de_PM_fits_118 : decode cd_PM_fits 118 = .ok (.invokestatic 99, 3) := by decide +kernel
theorem de_PM_fits_121 : decode cd_PM_fits 121 = .ok (.ifCond .ne 26, 3) := by decide +kernel
theorem de_PM_fits_124 : decode cd_PM_fits 124 = .ok (.goto 21, 3) := by decide +kernel
theorem de_PM_fits_127 : decode cd_PM_fits 127 = .ok (.iload_n 3, 1) := by decide +kernel
theorem de_PM_fits_128 : decode cd_PM_fits 128 = .ok (.i2l, 1) := by decide +kernel
theorem de_PM_fits_129 : decode cd_PM_fits 129 = .ok (.lconst 0, 1) := by decide +kernel
theorem de_PM_fits_130 : decode cd_PM_fits 130 = .ok (.aload_n 0, 1) := by decide +kernel
theorem de_PM_fits_131 : decode cd_PM_fits 131 = .ok (.getfield 19, 3) := by decide +kernel
theorem de_PM_fits_134 : decode cd_PM_fits 134 = .ok (.iload_n 2, 1) := by decide +kernel
theorem de_PM_fits_135 : decode cd_PM_fits 135 = .ok (.iaload, 1) := by decide +kernel
theorem de_PM_fits_136 : decode cd_PM_fits 136 = .ok (.iconst 1, 1) := by decide +kernel
theorem de_PM_fits_137 : decode cd_PM_fits 137 = .ok (.isub, 1) := by decide +kernel
theorem de_PM_fits_138 : decode cd_PM_fits 138 = .ok (.i2l, 1) := by decide +kernel
theorem de_PM_fits_139 : decode cd_PM_fits 139 = .ok (.invokestatic 99, 3) := by decide +kernel
theorem de_PM_fits_142 : decode cd_PM_fits 142 = .ok (.ifCond .ne 5, 3) := by decide +kernel
theorem de_PM_fits_145 : decode cd_PM_fits 145 = .ok (.iconst 0, 1) := by decide +kernel
theorem de_PM_fits_146 : decode cd_PM_fits 146 = .ok (.ireturn, 1) := by decide +kernel
theorem de_PM_fits_147 : decode cd_PM_fits 147 = .ok (.iload_n 1, 1) := by decide +kernel
theorem de_PM_fits_148 : decode cd_PM_fits 148 = .ok (.bipush 8, 2) := by decide +kernel
theorem de_PM_fits_150 : decode cd_PM_fits 150 = .ok (.if_icmp .ne 7, 3) := by decide +kernel
theorem de_PM_fits_153 : decode cd_PM_fits 153 = .ok (.iconst 0, 1) := by decide +kernel
theorem de_PM_fits_154 : decode cd_PM_fits 154 = .ok (.goto 4, 3) := by decide +kernel
theorem de_PM_fits_157 : decode cd_PM_fits 157 = .ok (.iload_n 3, 1) := by decide +kernel
theorem de_PM_fits_158 : decode cd_PM_fits 158 = .ok (.istore 4, 2) := by decide +kernel
theorem de_PM_fits_160 : decode cd_PM_fits 160 = .ok (.aload_n 0, 1) := by decide +kernel
theorem de_PM_fits_161 : decode cd_PM_fits 161 = .ok (.iconst 0, 1) := by decide +kernel
theorem de_PM_fits_162 : decode cd_PM_fits 162 = .ok (.putfield 118, 3) := by decide +kernel
theorem de_PM_fits_165 : decode cd_PM_fits 165 = .ok (.iconst 0, 1) := by decide +kernel
theorem de_PM_fits_166 : decode cd_PM_fits 166 = .ok (.istore 5, 2) := by decide +kernel
theorem de_PM_fits_168 : decode cd_PM_fits 168 = .ok (.iload 5, 2) := by decide +kernel
theorem de_PM_fits_170 : decode cd_PM_fits 170 = .ok (.aload_n 0, 1) := by decide +kernel
theorem de_PM_fits_171 : decode cd_PM_fits 171 = .ok (.getfield 19, 3) := by decide +kernel
theorem de_PM_fits_174 : decode cd_PM_fits 174 = .ok (.iload_n 2, 1) := by decide +kernel
theorem de_PM_fits_175 : decode cd_PM_fits 175 = .ok (.iaload, 1) := by decide +kernel
theorem de_PM_fits_176 : decode cd_PM_fits 176 = .ok (.if_icmp .ge 43, 3) := by decide +kernel
theorem de_PM_fits_179 : decode cd_PM_fits 179 = .ok (.iload 5, 2) := by decide +kernel
theorem de_PM_fits_181 : decode cd_PM_fits 181 = .ok (.iload 4, 2) := by decide +kernel
theorem de_PM_fits_183 : decode cd_PM_fits 183 = .ok (.if_icmp .eq 30, 3) := by decide +kernel
theorem de_PM_fits_186 : decode cd_PM_fits 186 = .ok (.aload_n 0, 1) := by decide +kernel
theorem de_PM_fits_187 : decode cd_PM_fits 187 = .ok (.getfield 36, 3) := by decide +kernel
theorem de_PM_fits_190 : decode cd_PM_fits 190 = .ok (.aload_n 0, 1) := by decide +kernel
theorem de_PM_fits_191 : decode cd_PM_fits 191 = .ok (.dup, 1) := by decide +kernel
theorem de_PM_fits_192 : decode cd_PM_fits 192 = .ok (.getfield 118, 3) := by decide +kernel
theorem de_PM_fits_195 : decode cd_PM_fits 195 = .ok (.dup_x1, 1) := by decide +kernel
theorem de_PM_fits_196 : decode cd_PM_fits 196 = .ok (.iconst 1, 1) := by decide +kernel
theorem de_PM_fits_197 : decode cd_PM_fits 197 = .ok (.iadd, 1) := by decide +kernel
theorem de_PM_fits_198 : decode cd_PM_fits 198 = .ok (.putfield 118, 3) := by decide +kernel
theorem de_PM_fits_201 : decode cd_PM_fits 201 = .ok (.aload_n 0, 1) := by decide +kernel
theorem de_PM_fits_202 : decode cd_PM_fits 202 = .ok (.getfield 22, 3) := by decide +kernel
theorem de_PM_fits_205 : decode cd_PM_fits 205 = .ok (.iconst 3, 1) := by decide +kernel
theorem de_PM_fits_206 : decode cd_PM_fits 206 = .ok (.iload_n 2, 1) := by decide +kernel
theorem de_PM_fits_207 : decode cd_PM_fits 207 = .ok (.imul, 1) := by decide +kernel
theorem de_PM_fits_208 : decode cd_PM_fits 208 = .ok (.iload 5, 2) := by decide +kernel
theorem de_PM_fits_210 : decode cd_PM_fits 210 = .ok (.iadd, 1) := by decide +kernel
theorem de_PM_fits_211 : decode cd_PM_fits 211 = .ok (.iaload, 1) := by decide +kernel
theorem de_PM_fits_212 : decode cd_PM_fits 212 = .ok (.iastore, 1) := by decide +kernel
theorem de_PM_fits_213 : decode cd_PM_fits 213 = .ok (.iinc 5 1, 3) := by decide +kernel
theorem de_PM_fits_216 : decode cd_PM_fits 216 = .ok (.goto (-48), 3) := by decide +kernel
theorem de_PM_fits_219 : decode cd_PM_fits 219 = .ok (.iconst 1, 1) := by decide +kernel
theorem de_PM_fits_220 : decode cd_PM_fits 220 = .ok (.ireturn, 1) := by decide +kernel
theorem de_PM_fits_221 : decode cd_PM_fits 221 = .ok (.iload_n 3, 1) := by decide +kernel
theorem de_PM_fits_222 : decode cd_PM_fits 222 = .ok (.ifCond .ne 19, 3) := by decide +kernel
theorem de_PM_fits_225 : decode cd_PM_fits 225 = .ok (.iload_n 1, 1) := by decide +kernel
theorem de_PM_fits_226 : decode cd_PM_fits 226 = .ok (.bipush 9, 2) := by decide +kernel
theorem de_PM_fits_228 : decode cd_PM_fits 228 = .ok (.if_icmp .ne 15, 3) := by decide +kernel
theorem de_PM_fits_231 : decode cd_PM_fits 231 = .ok (.aload_n 0, 1) := by decide +kernel
theorem de_PM_fits_232 : decode cd_PM_fits 232 = .ok (.getfield 19, 3) := by decide +kernel
theorem de_PM_fits_235 : decode cd_PM_fits 235 = .ok (.iload_n 2, 1) := by decide +kernel
theorem de_PM_fits_236 : decode cd_PM_fits 236 = .ok (.iaload, 1) := by decide +kernel
theorem de_PM_fits_237 : decode cd_PM_fits 237 = .ok (.iconst 2, 1) := by decide +kernel
theorem de_PM_fits_238 : decode cd_PM_fits 238 = .ok (.if_icmp .ge 5, 3) := by decide +kernel
theorem de_PM_fits_241 : decode cd_PM_fits 241 = .ok (.iconst 0, 1) := by decide +kernel
theorem de_PM_fits_242 : decode cd_PM_fits 242 = .ok (.ireturn, 1) := by decide +kernel
theorem de_PM_fits_243 : decode cd_PM_fits 243 = .ok (.aload_n 0, 1) := by decide +kernel
theorem de_PM_fits_244 : decode cd_PM_fits 244 = .ok (.iload_n 1, 1) := by decide +kernel
theorem de_PM_fits_245 : decode cd_PM_fits 245 = .ok (.bipush 15, 2) := by decide +kernel
theorem de_PM_fits_247 : decode cd_PM_fits 247 = .ok (.if_icmp .ne 7, 3) := by decide +kernel
theorem de_PM_fits_250 : decode cd_PM_fits 250 = .ok (.iconst 0, 1) := by decide +kernel
theorem de_PM_fits_251 : decode cd_PM_fits 251 = .ok (.goto 19, 3) := by decide +kernel
theorem de_PM_fits_254 : decode cd_PM_fits 254 = .ok (.iload_n 1, 1) := by decide +kernel
theorem de_PM_fits_255 : decode cd_PM_fits 255 = .ok (.bipush 14, 2) := by decide +kernel
theorem de_PM_fits_257 : decode cd_PM_fits 257 = .ok (.if_icmp .ne 7, 3) := by decide +kernel
theorem de_PM_fits_260 : decode cd_PM_fits 260 = .ok (.iconst 1, 1) := by decide +kernel
theorem de_PM_fits_261 : decode cd_PM_fits 261 = .ok (.goto 9, 3) := by decide +kernel
theorem de_PM_fits_264 : decode cd_PM_fits 264 = .ok (.aload_n 0, 1) := by decide +kernel
theorem de_PM_fits_265 : decode cd_PM_fits 265 = .ok (.getfield 19, 3) := by decide +kernel
theorem de_PM_fits_268 : decode cd_PM_fits 268 = .ok (.iload_n 2, 1) := by decide +kernel
theorem de_PM_fits_269 : decode cd_PM_fits 269 = .ok (.iaload, 1) := by decide +kernel
theorem de_PM_fits_270 : decode cd_PM_fits 270 = .ok (.putfield 118, 3) := by decide +kernel
theorem de_PM_fits_273 : decode cd_PM_fits 273 = .ok (.iconst 0, 1) := by decide +kernel
theorem de_PM_fits_274 : decode cd_PM_fits 274 = .ok (.istore 4, 2) := by decide +kernel
theorem de_PM_fits_276 : decode cd_PM_fits 276 = .ok (.iload 4, 2) := by decide +kernel
theorem de_PM_fits_278 : decode cd_PM_fits 278 = .ok (.aload_n 0, 1) := by decide +kernel
theorem de_PM_fits_279 : decode cd_PM_fits 279 = .ok (.getfield 118, 3) := by decide +kernel
theorem de_PM_fits_282 : decode cd_PM_fits 282 = .ok (.if_icmp .ge 27, 3) := by decide +kernel
theorem de_PM_fits_285 : decode cd_PM_fits 285 = .ok (.aload_n 0, 1) := by decide +kernel
theorem de_PM_fits_286 : decode cd_PM_fits 286 = .ok (.getfield 36, 3) := by decide +kernel
theorem de_PM_fits_289 : decode cd_PM_fits 289 = .ok (.iload 4, 2) := by decide +kernel
theorem de_PM_fits_291 : decode cd_PM_fits 291 = .ok (.aload_n 0, 1) := by decide +kernel
theorem de_PM_fits_292 : decode cd_PM_fits 292 = .ok (.getfield 22, 3) := by decide +kernel
theorem de_PM_fits_295 : decode cd_PM_fits 295 = .ok (.iconst 3, 1) := by decide +kernel
theorem de_PM_fits_296 : decode cd_PM_fits 296 = .ok (.iload_n 2, 1) := by decide +kernel
theorem de_PM_fits_297 : decode cd_PM_fits 297 = .ok (.imul, 1) := by decide +kernel
theorem de_PM_fits_298 : decode cd_PM_fits 298 = .ok (.iload 4, 2) := by decide +kernel
theorem de_PM_fits_300 : decode cd_PM_fits 300 = .ok (.iadd, 1) := by decide +kernel
theorem de_PM_fits_301 : decode cd_PM_fits 301 = .ok (.iaload, 1) := by decide +kernel
theorem de_PM_fits_302 : decode cd_PM_fits 302 = .ok (.iastore, 1) := by decide +kernel
theorem de_PM_fits_303 : decode cd_PM_fits 303 = .ok (.iinc 4 1, 3) := by decide +kernel
theorem de_PM_fits_306 : decode cd_PM_fits 306 = .ok (.goto (-30), 3) := by decide +kernel
theorem de_PM_fits_309 : decode cd_PM_fits 309 = .ok (.iload_n 1, 1) := by decide +kernel
theorem de_PM_fits_310 : decode cd_PM_fits 310 = .ok (.bipush 14, 2) := by decide +kernel
theorem de_PM_fits_312 : decode cd_PM_fits 312 = .ok (.if_icmp .ne 14, 3) := by decide +kernel
theorem de_PM_fits_315 : decode cd_PM_fits 315 = .ok (.aload_n 0, 1) := by decide +kernel
theorem de_PM_fits_316 : decode cd_PM_fits 316 = .ok (.getfield 36, 3) := by decide +kernel
theorem de_PM_fits_319 : decode cd_PM_fits 319 = .ok (.iconst 0, 1) := by decide +kernel
theorem de_PM_fits_320 : decode cd_PM_fits 320 = .ok (.aload_n 0, 1) := by decide +kernel
theorem de_PM_fits_321 : decode cd_PM_fits 321 = .ok (.iload_n 2, 1) := by decide +kernel
theorem de_PM_fits_322 : decode cd_PM_fits 322 = .ok (.invokevirtual 114, 3) := by decide +kernel
theorem de_PM_fits_325 : decode cd_PM_fits 325 = .ok (.iastore, 1) := by decide +kernel
theorem de_PM_fits_326 : decode cd_PM_fits 326 = .ok (.iload_n 1, 1) := by decide +kernel
theorem de_PM_fits_327 : decode cd_PM_fits 327 = .ok (.bipush 9, 2) := by decide +kernel
theorem de_PM_fits_329 : decode cd_PM_fits 329 = .ok (.if_icmp .ne 55, 3) := by decide +kernel
theorem de_PM_fits_332 : decode cd_PM_fits 332 = .ok (.aload_n 0, 1) := by decide +kernel
theorem de_PM_fits_333 : decode cd_PM_fits 333 = .ok (.getfield 36, 3) := by decide +kernel
theorem de_PM_fits_336 : decode cd_PM_fits 336 = .ok (.aload_n 0, 1) := by decide +kernel
theorem de_PM_fits_337 : decode cd_PM_fits 337 = .ok (.getfield 118, 3) := by decide +kernel
theorem de_PM_fits_340 : decode cd_PM_fits 340 = .ok (.iconst 2, 1) := by decide +kernel
theorem de_PM_fits_341 : decode cd_PM_fits 341 = .ok (.isub, 1) := by decide +kernel
theorem de_PM_fits_342 : decode cd_PM_fits 342 = .ok (.aload_n 0, 1) := by decide +kernel
theorem de_PM_fits_343 : decode cd_PM_fits 343 = .ok (.getfield 22, 3) := by decide +kernel
theorem de_PM_fits_346 : decode cd_PM_fits 346 = .ok (.iconst 3, 1) := by decide +kernel
theorem de_PM_fits_347 : decode cd_PM_fits 347 = .ok (.iload_n 2, 1) := by decide +kernel
theorem de_PM_fits_348 : decode cd_PM_fits 348 = .ok (.imul, 1) := by decide +kernel
theorem de_PM_fits_349 : decode cd_PM_fits 349 = .ok (.aload_n 0, 1) := by decide +kernel
theorem de_PM_fits_350 : decode cd_PM_fits 350 = .ok (.getfield 118, 3) := by decide +kernel
theorem de_PM_fits_353 : decode cd_PM_fits 353 = .ok (.iadd, 1) := by decide +kernel
theorem de_PM_fits_354 : decode cd_PM_fits 354 = .ok (.iconst 1, 1) := by decide +kernel
theorem de_PM_fits_355 : decode cd_PM_fits 355 = .ok (.isub, 1) := by decide +kernel
theorem de_PM_fits_356 : decode cd_PM_fits 356 = .ok (.iaload, 1) := by decide +kernel
theorem de_PM_fits_357 : decode cd_PM_fits 357 = .ok (.iastore, 1) := by decide +kernel
theorem de_PM_fits_358 : decode cd_PM_fits 358 = .ok (.aload_n 0, 1) := by decide +kernel
theorem de_PM_fits_359 : decode cd_PM_fits 359 = .ok (.getfield 36, 3) := by decide +kernel
theorem de_PM_fits_362 : decode cd_PM_fits 362 = .ok (.aload_n 0, 1) := by decide +kernel
theorem de_PM_fits_363 : decode cd_PM_fits 363 = .ok (.getfield 118, 3) := by decide +kernel
theorem de_PM_fits_366 : decode cd_PM_fits 366 = .ok (.iconst 1, 1) := by decide +kernel
theorem de_PM_fits_367 : decode cd_PM_fits 367 = .ok (.isub, 1) := by decide +kernel
theorem de_PM_fits_368 : decode cd_PM_fits 368 = .ok (.aload_n 0, 1) := by decide +kernel
theorem de_PM_fits_369 : decode cd_PM_fits 369 = .ok (.getfield 22, 3) := by decide +kernel
theorem de_PM_fits_372 : decode cd_PM_fits 372 = .ok (.iconst 3, 1) := by decide +kernel
theorem de_PM_fits_373 : decode cd_PM_fits 373 = .ok (.iload_n 2, 1) := by decide +kernel
theorem de_PM_fits_374 : decode cd_PM_fits 374 = .ok (.imul, 1) := by decide +kernel
theorem de_PM_fits_375 : decode cd_PM_fits 375 = .ok (.aload_n 0, 1) := by decide +kernel
theorem de_PM_fits_376 : decode cd_PM_fits 376 = .ok (.getfield 118, 3) := by decide +kernel
theorem de_PM_fits_379 : decode cd_PM_fits 379 = .ok (.iadd, 1) := by decide +kernel
theorem de_PM_fits_380 : decode cd_PM_fits 380 = .ok (.iconst 2, 1) := by decide +kernel
theorem de_PM_fits_381 : decode cd_PM_fits 381 = .ok (.isub, 1) := by decide +kernel
theorem de_PM_fits_382 : decode cd_PM_fits 382 = .ok (.iaload, 1) := by decide +kernel
theorem de_PM_fits_383 : decode cd_PM_fits 383 = .ok (.iastore, 1) := by decide +kernel
theorem de_PM_fits_384 : decode cd_PM_fits 384 = .ok (.iconst 1, 1) := by decide +kernel
theorem de_PM_fits_385 : decode cd_PM_fits 385 = .ok (.ireturn, 1) := by decide +kernel
def jb_PM_fits_241 (N : Nat) (M : mv_M) : Option (Int32 × mv_M) :=
  if (0 : Int32) = 0 ∨ (0 : Int32) = 1 then some (0, M) else none
def jb_PM_fits_384 (N : Nat) (M : mv_M) : Option (Int32 × mv_M) :=
  if (1 : Int32) = 0 ∨ (1 : Int32) = 1 then some (1, M) else none
def jb_PM_fits_326 (N : Nat) (M : mv_M) (v0 : Nat) (v1 : Int32) (v2 : Int32) : Option (Int32 × mv_M) :=
  if v1 = 9 then (Option.bind (mj_getR M v0 1 12) fun x333 =>
  Option.bind (mj_getI M v0 1 11) fun x337 =>
  Option.bind (mj_getR M v0 1 7) fun x343 =>
  Option.bind (mj_getI M v0 1 11) fun x350 =>
  Option.bind x343 fun a356 =>
  Option.bind (mj_ild M a356 0 (((3 * v2) + x350) - 1)) fun x356 =>
  Option.bind x333 fun a357 =>
  Option.bind (mj_ist M a357 0 (x337 - 2) x356) fun Mm357 =>
  Option.bind (mj_getR Mm357 v0 1 12) fun x359 =>
  Option.bind (mj_getI Mm357 v0 1 11) fun x363 =>
  Option.bind (mj_getR Mm357 v0 1 7) fun x369 =>
  Option.bind (mj_getI Mm357 v0 1 11) fun x376 =>
  Option.bind x369 fun a382 =>
  Option.bind (mj_ild Mm357 a382 0 (((3 * v2) + x376) - 2)) fun x382 =>
  Option.bind x359 fun a383 =>
  Option.bind (mj_ist Mm357 a383 0 (x363 - 1) x382) fun Mm383 =>
  jb_PM_fits_384 N Mm383) else
  jb_PM_fits_384 N M
def jb_PM_fits_276 (N : Nat) : Nat → mv_M → Nat → Int32 → Int32 → Int32 → Option (Int32 × mv_M)
  | 0, _, _, _, _, _ => none
  | n + 1, M, v0, v1, v2, v4 =>
    Option.bind (mj_getI M v0 1 11) fun x279 =>
    if x279 ≤ v4 then (if v1 = 14 then (Option.bind (mj_getR M v0 1 12) fun x316 =>
    mj_ob M v0 1 <|
    mj_call (jf_PM_cells N M v0 v2) fun r322 Mm322 =>
    Option.bind x316 fun a325 =>
    Option.bind (mj_ist Mm322 a325 0 0 r322) fun Mm325 =>
    jb_PM_fits_326 N Mm325 v0 v1 v2) else
    jb_PM_fits_326 N M v0 v1 v2) else
    Option.bind (mj_getR M v0 1 12) fun x286 =>
    Option.bind (mj_getR M v0 1 7) fun x292 =>
    Option.bind x292 fun a301 =>
    Option.bind (mj_ild M a301 0 ((3 * v2) + v4)) fun x301 =>
    Option.bind x286 fun a302 =>
    Option.bind (mj_ist M a302 0 v4 x301) fun Mm302 =>
    jb_PM_fits_276 N n Mm302 v0 v1 v2 (v4 + 1)
def jb_PM_fits_270 (N : Nat) (M : mv_M) (v0 : Nat) (v1 : Int32) (v2 : Int32) (s0 : Nat) (s1 : Int32) : Option (Int32 × mv_M) :=
  Option.bind (mj_put M s0 1 11 (.int s1)) fun Mm270 =>
  jb_PM_fits_276 N N Mm270 v0 v1 v2 0
def jb_PM_fits_243 (N : Nat) (M : mv_M) (v0 : Nat) (v1 : Int32) (v2 : Int32) : Option (Int32 × mv_M) :=
  if v1 = 15 then (jb_PM_fits_270 N M v0 v1 v2 v0 0) else
  if v1 = 14 then (jb_PM_fits_270 N M v0 v1 v2 v0 1) else
  Option.bind (mj_getR M v0 1 6) fun x265 =>
  Option.bind x265 fun a269 =>
  Option.bind (mj_ild M a269 0 v2) fun x269 =>
  jb_PM_fits_270 N M v0 v1 v2 v0 x269
def jb_PM_fits_213 (N : Nat) (k168 : mv_M → Nat → Int32 → Int32 → Int32 → Option (Int32 × mv_M)) (M : mv_M) (v0 : Nat) (v2 : Int32) (v4 : Int32) (v5 : Int32) : Option (Int32 × mv_M) :=
  k168 M v0 v2 v4 (v5 + 1)
def jb_PM_fits_168 (N : Nat) : Nat → mv_M → Nat → Int32 → Int32 → Int32 → Option (Int32 × mv_M)
  | 0, _, _, _, _, _ => none
  | n + 1, M, v0, v2, v4, v5 =>
    Option.bind (mj_getR M v0 1 6) fun x171 =>
    Option.bind x171 fun a175 =>
    Option.bind (mj_ild M a175 0 v2) fun x175 =>
    if x175 ≤ v5 then (if (1 : Int32) = 0 ∨ (1 : Int32) = 1 then some (1, M) else none) else
    if v5 = v4 then (jb_PM_fits_213 N (jb_PM_fits_168 N n) M v0 v2 v4 v5) else
    Option.bind (mj_getR M v0 1 12) fun x187 =>
    Option.bind (mj_getI M v0 1 11) fun x192 =>
    Option.bind (mj_put M v0 1 11 (.int (x192 + 1))) fun Mm198 =>
    Option.bind (mj_getR Mm198 v0 1 7) fun x202 =>
    Option.bind x202 fun a211 =>
    Option.bind (mj_ild Mm198 a211 0 ((3 * v2) + v5)) fun x211 =>
    Option.bind x187 fun a212 =>
    Option.bind (mj_ist Mm198 a212 0 x192 x211) fun Mm212 =>
    jb_PM_fits_213 N (jb_PM_fits_168 N n) Mm212 v0 v2 v4 v5
def jb_PM_fits_158 (N : Nat) (M : mv_M) (v0 : Nat) (v2 : Int32) (s0 : Int32) : Option (Int32 × mv_M) :=
  Option.bind (mj_put M v0 1 11 (.int 0)) fun Mm162 =>
  jb_PM_fits_168 N N Mm162 v0 v2 s0 0
def jb_PM_fits_147 (N : Nat) (M : mv_M) (v0 : Nat) (v1 : Int32) (v2 : Int32) (v3 : Int32) : Option (Int32 × mv_M) :=
  if v1 = 8 then (jb_PM_fits_158 N M v0 v2 0) else
  jb_PM_fits_158 N M v0 v2 v3
def jb_PM_fits_145 (N : Nat) (M : mv_M) : Option (Int32 × mv_M) :=
  if (0 : Int32) = 0 ∨ (0 : Int32) = 1 then some (0, M) else none
def jb_PM_fits_52 (N : Nat) (M : mv_M) : Option (Int32 × mv_M) :=
  if (0 : Int32) = 0 ∨ (0 : Int32) = 1 then some (0, M) else none
def jb_PM_fits_0 (N : Nat) (M : mv_M) (v0 : Nat) (v1 : Int32) (v2 : Int32) (v3 : Int32) : Option (Int32 × mv_M) :=
  if 4 ≤ v1 then (if v1 = 4 then (Option.bind (mj_getR M v0 1 6) fun x18 =>
  Option.bind x18 fun a22 =>
  Option.bind (mj_ild M a22 0 v2) fun x22 =>
  if x22 = 2 then (Option.bind (mj_getR M v0 1 6) fun x28 =>
  Option.bind x28 fun a32 =>
  Option.bind (mj_ild M a32 0 v3) fun x32 =>
  if x32 = 2 then (mj_ob M v0 1 <|
  mj_call (jf_PM_sideOf N M v0 v2 1) fun r40 Mm40 =>
  mj_ob Mm40 v0 1 <|
  mj_call (jf_PM_sideOf N Mm40 v0 v3 0) fun r46 Mm46 =>
  if r40 = r46 then (Option.bind (mj_put Mm46 v0 1 11 (.int 2)) fun Mm56 =>
  Option.bind (mj_getR Mm56 v0 1 12) fun x60 =>
  mj_ob Mm56 v0 1 <|
  mj_call (jf_PM_sideOf N Mm56 v0 v2 0) fun r67 Mm67 =>
  Option.bind x60 fun a70 =>
  Option.bind (mj_ist Mm67 a70 0 0 r67) fun Mm70 =>
  Option.bind (mj_getR Mm70 v0 1 12) fun x72 =>
  mj_ob Mm70 v0 1 <|
  mj_call (jf_PM_sideOf N Mm70 v0 v3 1) fun r79 Mm79 =>
  Option.bind x72 fun a82 =>
  Option.bind (mj_ist Mm79 a82 0 1 r79) fun Mm82 =>
  if (1 : Int32) = 0 ∨ (1 : Int32) = 1 then some (1, Mm82) else none) else
  jb_PM_fits_52 N Mm46) else
  jb_PM_fits_52 N M) else
  jb_PM_fits_52 N M) else
  if 9 ≤ v1 then (if v3 = 0 then (if v1 = 9 then (Option.bind (mj_getR M v0 1 6) fun x232 =>
  Option.bind x232 fun a236 =>
  Option.bind (mj_ild M a236 0 v2) fun x236 =>
  if 2 ≤ x236 then (jb_PM_fits_243 N M v0 v1 v2) else
  jb_PM_fits_241 N M) else
  jb_PM_fits_243 N M v0 v1 v2) else
  jb_PM_fits_241 N M) else
  if v1 = 8 then (Option.bind (mj_getR M v0 1 6) fun x98 =>
  Option.bind x98 fun a102 =>
  Option.bind (mj_ild M a102 0 v2) fun x102 =>
  if x102 = 0 then (jb_PM_fits_145 N M) else
  mj_ob M v0 1 <|
  mj_call (jf_PM_sideOf N M v0 v2 0) fun r112 Mm112 =>
  mj_call (jf_PM_isIn N Mm112 v3.toInt64 0 ((r112 - 1).toInt64)) fun r118 Mm118 =>
  if r118 = 0 then (jb_PM_fits_145 N Mm118) else
  jb_PM_fits_147 N Mm118 v0 v1 v2 v3) else
  Option.bind (mj_getR M v0 1 6) fun x131 =>
  Option.bind x131 fun a135 =>
  Option.bind (mj_ild M a135 0 v2) fun x135 =>
  mj_call (jf_PM_isIn N M v3.toInt64 0 ((x135 - 1).toInt64)) fun r139 Mm139 =>
  if r139 = 0 then (jb_PM_fits_145 N Mm139) else
  jb_PM_fits_147 N Mm139 v0 v1 v2 v3) else
  mj_ob M v0 1 <|
  mj_call (jf_PM_spreads N M v0 v2 v3) fun r8 Mm8 =>
  if r8 = 0 ∨ r8 = 1 then some (r8, Mm8) else none
def jf_PM_fits (N : Nat) (M : mv_M) (v0 : Nat) (v1 : Int32) (v2 : Int32) (v3 : Int32) : Option (Int32 × mv_M) := jb_PM_fits_0 N M v0 v1 v2 v3
set_option maxHeartbeats 4000000 in
set_option maxRecDepth 100000 in
theorem tb_PM_fits_241 (l : Launch) (D : va_G) (E : Nat → ClassId) (B : Nat) (sa : (Nat → Nat) × Nat × (Nat → Int32)) (M0 M1 : mv_M) (r : Int32) (N : Nat) (M : mv_M) (hJ : jb_PM_fits_241 N M = some (r, M1)) : mv_G (xg l D E B sa) kd_PM_fits M0 M1 (some (.int r)) M 241 [] [] := by
  unfold jb_PM_fits_241 at hJ
  refine mv_iconst (pc := 241) (v := 0) de_PM_fits_241 (by decide) ?_
  exact mv_zret (pc := 242) rfl de_PM_fits_242 hJ
set_option maxHeartbeats 4000000 in
set_option maxRecDepth 100000 in
theorem tb_PM_fits_384 (l : Launch) (D : va_G) (E : Nat → ClassId) (B : Nat) (sa : (Nat → Nat) × Nat × (Nat → Int32)) (M0 M1 : mv_M) (r : Int32) (N : Nat) (M : mv_M) (hJ : jb_PM_fits_384 N M = some (r, M1)) : mv_G (xg l D E B sa) kd_PM_fits M0 M1 (some (.int r)) M 384 [] [] := by
  unfold jb_PM_fits_384 at hJ
  refine mv_iconst (pc := 384) (v := 1) de_PM_fits_384 (by decide) ?_
  exact mv_zret (pc := 385) rfl de_PM_fits_385 hJ
set_option maxHeartbeats 4000000 in
set_option maxRecDepth 100000 in
theorem tb_PM_fits_326 (l : Launch) (D : va_G) (E : Nat → ClassId) (B : Nat) (sa : (Nat → Nat) × Nat × (Nat → Int32)) (M0 M1 : mv_M) (r : Int32) (N : Nat) (M : mv_M) (v0 : Nat) (v1 : Int32) (v2 : Int32) (hJ : jb_PM_fits_326 N M v0 v1 v2 = some (r, M1)) : mv_G (xg l D E B sa) kd_PM_fits M0 M1 (some (.int r)) M 326 [(0, va_rf (some v0)), (1, .int v1), (2, .int v2)] [] := by
  unfold jb_PM_fits_326 at hJ
  refine mv_iload_n (pc := 326) (i := 1) de_PM_fits_326 rfl 1 rfl ?_
  refine mv_bipush (pc := 327) (v := 9) de_PM_fits_327 (by decide) ?_
  refine mv_icmp_ne (pc := 329) (tgt := 384) de_PM_fits_329 (by decide) hJ (fun hc329 h329 => ?_) (fun hc329 h329 => ?_)
  · refine mv_aload_n (pc := 332) (i := 0) de_PM_fits_332 rfl 0 rfl ?_
    refine mv_getR (pc := 333) (f := 12) (kc_1 l D E B sa) (Nat.le_of_ble_eq_true rfl) wt_4_92 de_PM_fits_333 h329 (fun x333 e333 h333 => ?_)
    refine mv_aload_n (pc := 336) (i := 0) de_PM_fits_336 rfl 0 rfl ?_
    refine mv_getI (pc := 337) (f := 11) (kc_1 l D E B sa) (Nat.le_of_ble_eq_true rfl) wt_4_91 de_PM_fits_337 h333 (fun x337 e337 h337 => ?_)
    refine mv_iconst (pc := 340) (v := 2) de_PM_fits_340 (by decide) ?_
    refine mv_isub (pc := 341) de_PM_fits_341 ?_
    refine mv_aload_n (pc := 342) (i := 0) de_PM_fits_342 rfl 0 rfl ?_
    refine mv_getR (pc := 343) (f := 7) (kc_1 l D E B sa) (Nat.le_of_ble_eq_true rfl) wt_4_87 de_PM_fits_343 h337 (fun x343 e343 h343 => ?_)
    refine mv_iconst (pc := 346) (v := 3) de_PM_fits_346 (by decide) ?_
    refine mv_iload_n (pc := 347) (i := 2) de_PM_fits_347 rfl 2 rfl ?_
    refine mv_imul (pc := 348) de_PM_fits_348 ?_
    refine mv_aload_n (pc := 349) (i := 0) de_PM_fits_349 rfl 0 rfl ?_
    refine mv_getI (pc := 350) (f := 11) (kc_1 l D E B sa) (Nat.le_of_ble_eq_true rfl) wt_4_91 de_PM_fits_350 h343 (fun x350 e350 h350 => ?_)
    refine mv_iadd (pc := 353) de_PM_fits_353 ?_
    refine mv_iconst (pc := 354) (v := 1) de_PM_fits_354 (by decide) ?_
    refine mv_isub (pc := 355) de_PM_fits_355 ?_
    obtain ⟨a356, ha, h356a⟩ := mj_bindE h350
    subst ha
    refine mv_iald (pc := 356) (t := 0) rfl de_PM_fits_356 h356a (fun x356 e356 h356 => ?_)
    obtain ⟨a357, ha, h357a⟩ := mj_bindE h356
    subst ha
    refine mv_iast (pc := 357) (t := 0) rfl de_PM_fits_357 h357a (fun Mm357 e357 h357 => ?_)
    refine mv_aload_n (pc := 358) (i := 0) de_PM_fits_358 rfl 0 rfl ?_
    refine mv_getR (pc := 359) (f := 12) (kc_1 l D E B sa) (Nat.le_of_ble_eq_true rfl) wt_4_92 de_PM_fits_359 h357 (fun x359 e359 h359 => ?_)
    refine mv_aload_n (pc := 362) (i := 0) de_PM_fits_362 rfl 0 rfl ?_
    refine mv_getI (pc := 363) (f := 11) (kc_1 l D E B sa) (Nat.le_of_ble_eq_true rfl) wt_4_91 de_PM_fits_363 h359 (fun x363 e363 h363 => ?_)
    refine mv_iconst (pc := 366) (v := 1) de_PM_fits_366 (by decide) ?_
    refine mv_isub (pc := 367) de_PM_fits_367 ?_
    refine mv_aload_n (pc := 368) (i := 0) de_PM_fits_368 rfl 0 rfl ?_
    refine mv_getR (pc := 369) (f := 7) (kc_1 l D E B sa) (Nat.le_of_ble_eq_true rfl) wt_4_87 de_PM_fits_369 h363 (fun x369 e369 h369 => ?_)
    refine mv_iconst (pc := 372) (v := 3) de_PM_fits_372 (by decide) ?_
    refine mv_iload_n (pc := 373) (i := 2) de_PM_fits_373 rfl 2 rfl ?_
    refine mv_imul (pc := 374) de_PM_fits_374 ?_
    refine mv_aload_n (pc := 375) (i := 0) de_PM_fits_375 rfl 0 rfl ?_
    refine mv_getI (pc := 376) (f := 11) (kc_1 l D E B sa) (Nat.le_of_ble_eq_true rfl) wt_4_91 de_PM_fits_376 h369 (fun x376 e376 h376 => ?_)
    refine mv_iadd (pc := 379) de_PM_fits_379 ?_
    refine mv_iconst (pc := 380) (v := 2) de_PM_fits_380 (by decide) ?_
    refine mv_isub (pc := 381) de_PM_fits_381 ?_
    obtain ⟨a382, ha, h382a⟩ := mj_bindE h376
    subst ha
    refine mv_iald (pc := 382) (t := 0) rfl de_PM_fits_382 h382a (fun x382 e382 h382 => ?_)
    obtain ⟨a383, ha, h383a⟩ := mj_bindE h382
    subst ha
    refine mv_iast (pc := 383) (t := 0) rfl de_PM_fits_383 h383a (fun Mm383 e383 h383 => ?_)
    exact mv_sub [] rfl (tb_PM_fits_384 l D E B sa M0 M1 r N Mm383 h383)
  · exact mv_sub [] rfl (tb_PM_fits_384 l D E B sa M0 M1 r N M h329)
set_option maxHeartbeats 4000000 in
set_option maxRecDepth 100000 in
theorem tb_PM_fits_276 (l : Launch) (D : va_G) (E : Nat → ClassId) (B : Nat) (sa : (Nat → Nat) × Nat × (Nat → Int32)) (M0 M1 : mv_M) (r : Int32) (N : Nat) : ∀ (n : Nat) (M : mv_M) (v0 : Nat) (v1 : Int32) (v2 : Int32) (v4 : Int32) (hJ : jb_PM_fits_276 N n M v0 v1 v2 v4 = some (r, M1)), mv_G (xg l D E B sa) kd_PM_fits M0 M1 (some (.int r)) M 276 [(0, va_rf (some v0)), (1, .int v1), (2, .int v2), (4, .int v4)] [] := by
  intro n
  induction n with
  | zero => intro M v0 v1 v2 v4 hJ; cases hJ
  | succ n ih =>
    intro M v0 v1 v2 v4 hJ
    rw [jb_PM_fits_276] at hJ
    refine mv_iload (pc := 276) de_PM_fits_276 3 rfl ?_
    refine mv_aload_n (pc := 278) (i := 0) de_PM_fits_278 rfl 0 rfl ?_
    refine mv_getI (pc := 279) (f := 11) (kc_1 l D E B sa) (Nat.le_of_ble_eq_true rfl) wt_4_91 de_PM_fits_279 hJ (fun x279 e279 h279 => ?_)
    refine mv_icmp_ge (pc := 282) (tgt := 309) de_PM_fits_282 (by decide) h279 (fun hc282 h282 => ?_) (fun hc282 h282 => ?_)
    · refine mv_iload_n (pc := 309) (i := 1) de_PM_fits_309 rfl 1 rfl ?_
      refine mv_bipush (pc := 310) (v := 14) de_PM_fits_310 (by decide) ?_
      refine mv_icmp_ne (pc := 312) (tgt := 326) de_PM_fits_312 (by decide) h282 (fun hc312 h312 => ?_) (fun hc312 h312 => ?_)
      · refine mv_aload_n (pc := 315) (i := 0) de_PM_fits_315 rfl 0 rfl ?_
        refine mv_getR (pc := 316) (f := 12) (kc_1 l D E B sa) (Nat.le_of_ble_eq_true rfl) wt_4_92 de_PM_fits_316 h312 (fun x316 e316 h316 => ?_)
        refine mv_iconst (pc := 319) (v := 0) de_PM_fits_319 (by decide) ?_
        refine mv_aload_n (pc := 320) (i := 0) de_PM_fits_320 rfl 0 rfl ?_
        refine mv_iload_n (pc := 321) (i := 2) de_PM_fits_321 rfl 2 rfl ?_
        obtain ⟨hi322, h322o⟩ := mj_obE h316
        obtain ⟨r322, Mm322, hz322, h322⟩ := mj_callE h322o
        refine mv_callV (pc := 322) (n := 1) (av := [.int v2]) (rest := [.int 0, va_rf x316]) de_PM_fits_322 (kc_1 l D E B sa) hi322 (cm_PM_cells l D E B sa N M v0 v2 _ _ hz322) wt_4_213 wt_4_215 wp_28 wt_1_8 wt_4_216 ⟨by decide, by decide, by decide +kernel⟩ rfl ⟨Nat.le_of_ble_eq_true rfl, Nat.le_of_ble_eq_true rfl⟩ (by simp [mv_cat, mv_cI, mv_cJ]) rfl ?_
        obtain ⟨a325, ha, h325a⟩ := mj_bindE h322
        subst ha
        refine mv_iast (pc := 325) (t := 0) rfl de_PM_fits_325 h325a (fun Mm325 e325 h325 => ?_)
        exact mv_sub [0, 1, 2] rfl (tb_PM_fits_326 l D E B sa M0 M1 r N Mm325 v0 v1 v2 h325)
      · exact mv_sub [0, 1, 2] rfl (tb_PM_fits_326 l D E B sa M0 M1 r N M v0 v1 v2 h312)
    · refine mv_aload_n (pc := 285) (i := 0) de_PM_fits_285 rfl 0 rfl ?_
      refine mv_getR (pc := 286) (f := 12) (kc_1 l D E B sa) (Nat.le_of_ble_eq_true rfl) wt_4_92 de_PM_fits_286 h282 (fun x286 e286 h286 => ?_)
      refine mv_iload (pc := 289) de_PM_fits_289 3 rfl ?_
      refine mv_aload_n (pc := 291) (i := 0) de_PM_fits_291 rfl 0 rfl ?_
      refine mv_getR (pc := 292) (f := 7) (kc_1 l D E B sa) (Nat.le_of_ble_eq_true rfl) wt_4_87 de_PM_fits_292 h286 (fun x292 e292 h292 => ?_)
      refine mv_iconst (pc := 295) (v := 3) de_PM_fits_295 (by decide) ?_
      refine mv_iload_n (pc := 296) (i := 2) de_PM_fits_296 rfl 2 rfl ?_
      refine mv_imul (pc := 297) de_PM_fits_297 ?_
      refine mv_iload (pc := 298) de_PM_fits_298 3 rfl ?_
      refine mv_iadd (pc := 300) de_PM_fits_300 ?_
      obtain ⟨a301, ha, h301a⟩ := mj_bindE h292
      subst ha
      refine mv_iald (pc := 301) (t := 0) rfl de_PM_fits_301 h301a (fun x301 e301 h301 => ?_)
      obtain ⟨a302, ha, h302a⟩ := mj_bindE h301
      subst ha
      refine mv_iast (pc := 302) (t := 0) rfl de_PM_fits_302 h302a (fun Mm302 e302 h302 => ?_)
      refine mv_iinc (pc := 303) (v := (v4 + 1)) (lv' := [(4, .int (v4 + 1)), (0, va_rf (some v0)), (1, .int v1), (2, .int v2)]) de_PM_fits_303 3 rfl rfl (Nat.le_of_ble_eq_true rfl) rfl ?_
      refine mv_goto (pc := 306) (tgt := 276) de_PM_fits_306 (by decide) ?_
      exact mv_sub [1, 2, 3, 0] rfl (ih Mm302 v0 v1 v2 (v4 + 1) h302)
set_option maxHeartbeats 4000000 in
set_option maxRecDepth 100000 in
theorem tb_PM_fits_270 (l : Launch) (D : va_G) (E : Nat → ClassId) (B : Nat) (sa : (Nat → Nat) × Nat × (Nat → Int32)) (M0 M1 : mv_M) (r : Int32) (N : Nat) (M : mv_M) (v0 : Nat) (v1 : Int32) (v2 : Int32) (s0 : Nat) (s1 : Int32) (hJ : jb_PM_fits_270 N M v0 v1 v2 s0 s1 = some (r, M1)) : mv_G (xg l D E B sa) kd_PM_fits M0 M1 (some (.int r)) M 270 [(0, va_rf (some v0)), (1, .int v1), (2, .int v2)] [.int s1, va_rf (some s0)] := by
  unfold jb_PM_fits_270 at hJ
  refine mv_put (pc := 270) (f := 11) (kc_1 l D E B sa) (Nat.le_of_ble_eq_true rfl) wt_4_91 rfl rfl rfl de_PM_fits_270 hJ (fun Mm270 e270 h270 => ?_)
  refine mv_iconst (pc := 273) (v := 0) de_PM_fits_273 (by decide) ?_
  refine mv_istore (pc := 274) (lv' := [(4, .int 0), (0, va_rf (some v0)), (1, .int v1), (2, .int v2)]) de_PM_fits_274 (Nat.le_of_ble_eq_true rfl) rfl ?_
  exact mv_sub [1, 2, 3, 0] rfl (tb_PM_fits_276 l D E B sa M0 M1 r N N Mm270 v0 v1 v2 0 h270)
set_option maxHeartbeats 4000000 in
set_option maxRecDepth 100000 in
theorem tb_PM_fits_243 (l : Launch) (D : va_G) (E : Nat → ClassId) (B : Nat) (sa : (Nat → Nat) × Nat × (Nat → Int32)) (M0 M1 : mv_M) (r : Int32) (N : Nat) (M : mv_M) (v0 : Nat) (v1 : Int32) (v2 : Int32) (hJ : jb_PM_fits_243 N M v0 v1 v2 = some (r, M1)) : mv_G (xg l D E B sa) kd_PM_fits M0 M1 (some (.int r)) M 243 [(0, va_rf (some v0)), (1, .int v1), (2, .int v2)] [] := by
  unfold jb_PM_fits_243 at hJ
  refine mv_aload_n (pc := 243) (i := 0) de_PM_fits_243 rfl 0 rfl ?_
  refine mv_iload_n (pc := 244) (i := 1) de_PM_fits_244 rfl 1 rfl ?_
  refine mv_bipush (pc := 245) (v := 15) de_PM_fits_245 (by decide) ?_
  refine mv_icmp_ne (pc := 247) (tgt := 254) de_PM_fits_247 (by decide) hJ (fun hc247 h247 => ?_) (fun hc247 h247 => ?_)
  · refine mv_iconst (pc := 250) (v := 0) de_PM_fits_250 (by decide) ?_
    refine mv_goto (pc := 251) (tgt := 270) de_PM_fits_251 (by decide) ?_
    exact mv_sub [0, 1, 2] rfl (tb_PM_fits_270 l D E B sa M0 M1 r N M v0 v1 v2 v0 0 h247)
  · refine mv_iload_n (pc := 254) (i := 1) de_PM_fits_254 rfl 1 rfl ?_
    refine mv_bipush (pc := 255) (v := 14) de_PM_fits_255 (by decide) ?_
    refine mv_icmp_ne (pc := 257) (tgt := 264) de_PM_fits_257 (by decide) h247 (fun hc257 h257 => ?_) (fun hc257 h257 => ?_)
    · refine mv_iconst (pc := 260) (v := 1) de_PM_fits_260 (by decide) ?_
      refine mv_goto (pc := 261) (tgt := 270) de_PM_fits_261 (by decide) ?_
      exact mv_sub [0, 1, 2] rfl (tb_PM_fits_270 l D E B sa M0 M1 r N M v0 v1 v2 v0 1 h257)
    · refine mv_aload_n (pc := 264) (i := 0) de_PM_fits_264 rfl 0 rfl ?_
      refine mv_getR (pc := 265) (f := 6) (kc_1 l D E B sa) (Nat.le_of_ble_eq_true rfl) wt_4_86 de_PM_fits_265 h257 (fun x265 e265 h265 => ?_)
      refine mv_iload_n (pc := 268) (i := 2) de_PM_fits_268 rfl 2 rfl ?_
      obtain ⟨a269, ha, h269a⟩ := mj_bindE h265
      subst ha
      refine mv_iald (pc := 269) (t := 0) rfl de_PM_fits_269 h269a (fun x269 e269 h269 => ?_)
      exact mv_sub [0, 1, 2] rfl (tb_PM_fits_270 l D E B sa M0 M1 r N M v0 v1 v2 v0 x269 h269)
set_option maxHeartbeats 4000000 in
set_option maxRecDepth 100000 in
theorem tb_PM_fits_213 (l : Launch) (D : va_G) (E : Nat → ClassId) (B : Nat) (sa : (Nat → Nat) × Nat × (Nat → Int32)) (M0 M1 : mv_M) (r : Int32) (N : Nat) (k168 : mv_M → Nat → Int32 → Int32 → Int32 → Option (Int32 × mv_M)) (hk168 : ∀ (M : mv_M) (v0 : Nat) (v2 : Int32) (v4 : Int32) (v5 : Int32), k168 M v0 v2 v4 v5 = some (r, M1) → mv_G (xg l D E B sa) kd_PM_fits M0 M1 (some (.int r)) M 168 [(0, va_rf (some v0)), (2, .int v2), (4, .int v4), (5, .int v5)] []) (M : mv_M) (v0 : Nat) (v2 : Int32) (v4 : Int32) (v5 : Int32) (hJ : jb_PM_fits_213 N k168 M v0 v2 v4 v5 = some (r, M1)) : mv_G (xg l D E B sa) kd_PM_fits M0 M1 (some (.int r)) M 213 [(0, va_rf (some v0)), (2, .int v2), (4, .int v4), (5, .int v5)] [] := by
  unfold jb_PM_fits_213 at hJ
  refine mv_iinc (pc := 213) (v := (v5 + 1)) (lv' := [(5, .int (v5 + 1)), (0, va_rf (some v0)), (2, .int v2), (4, .int v4)]) de_PM_fits_213 3 rfl rfl (Nat.le_of_ble_eq_true rfl) rfl ?_
  refine mv_goto (pc := 216) (tgt := 168) de_PM_fits_216 (by decide) ?_
  exact mv_sub [1, 2, 3, 0] rfl (hk168 M v0 v2 v4 (v5 + 1) hJ)
set_option maxHeartbeats 4000000 in
set_option maxRecDepth 100000 in
theorem tb_PM_fits_168 (l : Launch) (D : va_G) (E : Nat → ClassId) (B : Nat) (sa : (Nat → Nat) × Nat × (Nat → Int32)) (M0 M1 : mv_M) (r : Int32) (N : Nat) : ∀ (n : Nat) (M : mv_M) (v0 : Nat) (v2 : Int32) (v4 : Int32) (v5 : Int32) (hJ : jb_PM_fits_168 N n M v0 v2 v4 v5 = some (r, M1)), mv_G (xg l D E B sa) kd_PM_fits M0 M1 (some (.int r)) M 168 [(0, va_rf (some v0)), (2, .int v2), (4, .int v4), (5, .int v5)] [] := by
  intro n
  induction n with
  | zero => intro M v0 v2 v4 v5 hJ; cases hJ
  | succ n ih =>
    intro M v0 v2 v4 v5 hJ
    rw [jb_PM_fits_168] at hJ
    refine mv_iload (pc := 168) de_PM_fits_168 3 rfl ?_
    refine mv_aload_n (pc := 170) (i := 0) de_PM_fits_170 rfl 0 rfl ?_
    refine mv_getR (pc := 171) (f := 6) (kc_1 l D E B sa) (Nat.le_of_ble_eq_true rfl) wt_4_86 de_PM_fits_171 hJ (fun x171 e171 h171 => ?_)
    refine mv_iload_n (pc := 174) (i := 2) de_PM_fits_174 rfl 1 rfl ?_
    obtain ⟨a175, ha, h175a⟩ := mj_bindE h171
    subst ha
    refine mv_iald (pc := 175) (t := 0) rfl de_PM_fits_175 h175a (fun x175 e175 h175 => ?_)
    refine mv_icmp_ge (pc := 176) (tgt := 219) de_PM_fits_176 (by decide) h175 (fun hc176 h176 => ?_) (fun hc176 h176 => ?_)
    · refine mv_iconst (pc := 219) (v := 1) de_PM_fits_219 (by decide) ?_
      exact mv_zret (pc := 220) rfl de_PM_fits_220 h176
    · refine mv_iload (pc := 179) de_PM_fits_179 3 rfl ?_
      refine mv_iload (pc := 181) de_PM_fits_181 2 rfl ?_
      refine mv_icmp_eq (pc := 183) (tgt := 213) de_PM_fits_183 (by decide) h176 (fun hc183 h183 => ?_) (fun hc183 h183 => ?_)
      · exact mv_sub [0, 1, 2, 3] rfl (tb_PM_fits_213 l D E B sa M0 M1 r N (jb_PM_fits_168 N n) ih M v0 v2 v4 v5 h183)
      · refine mv_aload_n (pc := 186) (i := 0) de_PM_fits_186 rfl 0 rfl ?_
        refine mv_getR (pc := 187) (f := 12) (kc_1 l D E B sa) (Nat.le_of_ble_eq_true rfl) wt_4_92 de_PM_fits_187 h183 (fun x187 e187 h187 => ?_)
        refine mv_aload_n (pc := 190) (i := 0) de_PM_fits_190 rfl 0 rfl ?_
        refine mv_dup (pc := 191) de_PM_fits_191 rfl ?_
        refine mv_getI (pc := 192) (f := 11) (kc_1 l D E B sa) (Nat.le_of_ble_eq_true rfl) wt_4_91 de_PM_fits_192 h187 (fun x192 e192 h192 => ?_)
        refine mv_dup_x1 (pc := 195) de_PM_fits_195 rfl rfl ?_
        refine mv_iconst (pc := 196) (v := 1) de_PM_fits_196 (by decide) ?_
        refine mv_iadd (pc := 197) de_PM_fits_197 ?_
        refine mv_put (pc := 198) (f := 11) (kc_1 l D E B sa) (Nat.le_of_ble_eq_true rfl) wt_4_91 rfl rfl rfl de_PM_fits_198 h192 (fun Mm198 e198 h198 => ?_)
        refine mv_aload_n (pc := 201) (i := 0) de_PM_fits_201 rfl 0 rfl ?_
        refine mv_getR (pc := 202) (f := 7) (kc_1 l D E B sa) (Nat.le_of_ble_eq_true rfl) wt_4_87 de_PM_fits_202 h198 (fun x202 e202 h202 => ?_)
        refine mv_iconst (pc := 205) (v := 3) de_PM_fits_205 (by decide) ?_
        refine mv_iload_n (pc := 206) (i := 2) de_PM_fits_206 rfl 1 rfl ?_
        refine mv_imul (pc := 207) de_PM_fits_207 ?_
        refine mv_iload (pc := 208) de_PM_fits_208 3 rfl ?_
        refine mv_iadd (pc := 210) de_PM_fits_210 ?_
        obtain ⟨a211, ha, h211a⟩ := mj_bindE h202
        subst ha
        refine mv_iald (pc := 211) (t := 0) rfl de_PM_fits_211 h211a (fun x211 e211 h211 => ?_)
        obtain ⟨a212, ha, h212a⟩ := mj_bindE h211
        subst ha
        refine mv_iast (pc := 212) (t := 0) rfl de_PM_fits_212 h212a (fun Mm212 e212 h212 => ?_)
        exact mv_sub [0, 1, 2, 3] rfl (tb_PM_fits_213 l D E B sa M0 M1 r N (jb_PM_fits_168 N n) ih Mm212 v0 v2 v4 v5 h212)
set_option maxHeartbeats 4000000 in
set_option maxRecDepth 100000 in
theorem tb_PM_fits_158 (l : Launch) (D : va_G) (E : Nat → ClassId) (B : Nat) (sa : (Nat → Nat) × Nat × (Nat → Int32)) (M0 M1 : mv_M) (r : Int32) (N : Nat) (M : mv_M) (v0 : Nat) (v2 : Int32) (s0 : Int32) (hJ : jb_PM_fits_158 N M v0 v2 s0 = some (r, M1)) : mv_G (xg l D E B sa) kd_PM_fits M0 M1 (some (.int r)) M 158 [(0, va_rf (some v0)), (2, .int v2)] [.int s0] := by
  unfold jb_PM_fits_158 at hJ
  refine mv_istore (pc := 158) (lv' := [(4, .int s0), (0, va_rf (some v0)), (2, .int v2)]) de_PM_fits_158 (Nat.le_of_ble_eq_true rfl) rfl ?_
  refine mv_aload_n (pc := 160) (i := 0) de_PM_fits_160 rfl 1 rfl ?_
  refine mv_iconst (pc := 161) (v := 0) de_PM_fits_161 (by decide) ?_
  refine mv_put (pc := 162) (f := 11) (kc_1 l D E B sa) (Nat.le_of_ble_eq_true rfl) wt_4_91 rfl rfl rfl de_PM_fits_162 hJ (fun Mm162 e162 h162 => ?_)
  refine mv_iconst (pc := 165) (v := 0) de_PM_fits_165 (by decide) ?_
  refine mv_istore (pc := 166) (lv' := [(5, .int 0), (4, .int s0), (0, va_rf (some v0)), (2, .int v2)]) de_PM_fits_166 (Nat.le_of_ble_eq_true rfl) rfl ?_
  exact mv_sub [2, 3, 1, 0] rfl (tb_PM_fits_168 l D E B sa M0 M1 r N N Mm162 v0 v2 s0 0 h162)
set_option maxHeartbeats 4000000 in
set_option maxRecDepth 100000 in
theorem tb_PM_fits_147 (l : Launch) (D : va_G) (E : Nat → ClassId) (B : Nat) (sa : (Nat → Nat) × Nat × (Nat → Int32)) (M0 M1 : mv_M) (r : Int32) (N : Nat) (M : mv_M) (v0 : Nat) (v1 : Int32) (v2 : Int32) (v3 : Int32) (hJ : jb_PM_fits_147 N M v0 v1 v2 v3 = some (r, M1)) : mv_G (xg l D E B sa) kd_PM_fits M0 M1 (some (.int r)) M 147 [(0, va_rf (some v0)), (1, .int v1), (2, .int v2), (3, .int v3)] [] := by
  unfold jb_PM_fits_147 at hJ
  refine mv_iload_n (pc := 147) (i := 1) de_PM_fits_147 rfl 1 rfl ?_
  refine mv_bipush (pc := 148) (v := 8) de_PM_fits_148 (by decide) ?_
  refine mv_icmp_ne (pc := 150) (tgt := 157) de_PM_fits_150 (by decide) hJ (fun hc150 h150 => ?_) (fun hc150 h150 => ?_)
  · refine mv_iconst (pc := 153) (v := 0) de_PM_fits_153 (by decide) ?_
    refine mv_goto (pc := 154) (tgt := 158) de_PM_fits_154 (by decide) ?_
    exact mv_sub [0, 2] rfl (tb_PM_fits_158 l D E B sa M0 M1 r N M v0 v2 0 h150)
  · refine mv_iload_n (pc := 157) (i := 3) de_PM_fits_157 rfl 3 rfl ?_
    exact mv_sub [0, 2] rfl (tb_PM_fits_158 l D E B sa M0 M1 r N M v0 v2 v3 h150)
set_option maxHeartbeats 4000000 in
set_option maxRecDepth 100000 in
theorem tb_PM_fits_145 (l : Launch) (D : va_G) (E : Nat → ClassId) (B : Nat) (sa : (Nat → Nat) × Nat × (Nat → Int32)) (M0 M1 : mv_M) (r : Int32) (N : Nat) (M : mv_M) (hJ : jb_PM_fits_145 N M = some (r, M1)) : mv_G (xg l D E B sa) kd_PM_fits M0 M1 (some (.int r)) M 145 [] [] := by
  unfold jb_PM_fits_145 at hJ
  refine mv_iconst (pc := 145) (v := 0) de_PM_fits_145 (by decide) ?_
  exact mv_zret (pc := 146) rfl de_PM_fits_146 hJ
set_option maxHeartbeats 4000000 in
set_option maxRecDepth 100000 in
theorem tb_PM_fits_52 (l : Launch) (D : va_G) (E : Nat → ClassId) (B : Nat) (sa : (Nat → Nat) × Nat × (Nat → Int32)) (M0 M1 : mv_M) (r : Int32) (N : Nat) (M : mv_M) (hJ : jb_PM_fits_52 N M = some (r, M1)) : mv_G (xg l D E B sa) kd_PM_fits M0 M1 (some (.int r)) M 52 [] [] := by
  unfold jb_PM_fits_52 at hJ
  refine mv_iconst (pc := 52) (v := 0) de_PM_fits_52 (by decide) ?_
  exact mv_zret (pc := 53) rfl de_PM_fits_53 hJ
set_option maxHeartbeats 4000000 in
set_option maxRecDepth 100000 in
theorem tb_PM_fits_0 (l : Launch) (D : va_G) (E : Nat → ClassId) (B : Nat) (sa : (Nat → Nat) × Nat × (Nat → Int32)) (M0 M1 : mv_M) (r : Int32) (N : Nat) (M : mv_M) (v0 : Nat) (v1 : Int32) (v2 : Int32) (v3 : Int32) (hJ : jb_PM_fits_0 N M v0 v1 v2 v3 = some (r, M1)) : mv_G (xg l D E B sa) kd_PM_fits M0 M1 (some (.int r)) M 0 [(0, va_rf (some v0)), (1, .int v1), (2, .int v2), (3, .int v3)] [] := by
  unfold jb_PM_fits_0 at hJ
  refine mv_iload_n (pc := 0) (i := 1) de_PM_fits_0 rfl 1 rfl ?_
  refine mv_iconst (pc := 1) (v := 4) de_PM_fits_1 (by decide) ?_
  refine mv_icmp_ge (pc := 2) (tgt := 12) de_PM_fits_2 (by decide) hJ (fun hc2 h2 => ?_) (fun hc2 h2 => ?_)
  · refine mv_iload_n (pc := 12) (i := 1) de_PM_fits_12 rfl 1 rfl ?_
    refine mv_iconst (pc := 13) (v := 4) de_PM_fits_13 (by decide) ?_
    refine mv_icmp_ne (pc := 14) (tgt := 85) de_PM_fits_14 (by decide) h2 (fun hc14 h14 => ?_) (fun hc14 h14 => ?_)
    · refine mv_aload_n (pc := 17) (i := 0) de_PM_fits_17 rfl 0 rfl ?_
      refine mv_getR (pc := 18) (f := 6) (kc_1 l D E B sa) (Nat.le_of_ble_eq_true rfl) wt_4_86 de_PM_fits_18 h14 (fun x18 e18 h18 => ?_)
      refine mv_iload_n (pc := 21) (i := 2) de_PM_fits_21 rfl 2 rfl ?_
      obtain ⟨a22, ha, h22a⟩ := mj_bindE h18
      subst ha
      refine mv_iald (pc := 22) (t := 0) rfl de_PM_fits_22 h22a (fun x22 e22 h22 => ?_)
      refine mv_iconst (pc := 23) (v := 2) de_PM_fits_23 (by decide) ?_
      refine mv_icmp_ne (pc := 24) (tgt := 52) de_PM_fits_24 (by decide) h22 (fun hc24 h24 => ?_) (fun hc24 h24 => ?_)
      · refine mv_aload_n (pc := 27) (i := 0) de_PM_fits_27 rfl 0 rfl ?_
        refine mv_getR (pc := 28) (f := 6) (kc_1 l D E B sa) (Nat.le_of_ble_eq_true rfl) wt_4_86 de_PM_fits_28 h24 (fun x28 e28 h28 => ?_)
        refine mv_iload_n (pc := 31) (i := 3) de_PM_fits_31 rfl 3 rfl ?_
        obtain ⟨a32, ha, h32a⟩ := mj_bindE h28
        subst ha
        refine mv_iald (pc := 32) (t := 0) rfl de_PM_fits_32 h32a (fun x32 e32 h32 => ?_)
        refine mv_iconst (pc := 33) (v := 2) de_PM_fits_33 (by decide) ?_
        refine mv_icmp_ne (pc := 34) (tgt := 52) de_PM_fits_34 (by decide) h32 (fun hc34 h34 => ?_) (fun hc34 h34 => ?_)
        · refine mv_aload_n (pc := 37) (i := 0) de_PM_fits_37 rfl 0 rfl ?_
          refine mv_iload_n (pc := 38) (i := 2) de_PM_fits_38 rfl 2 rfl ?_
          refine mv_iconst (pc := 39) (v := 1) de_PM_fits_39 (by decide) ?_
          obtain ⟨hi40, h40o⟩ := mj_obE h34
          obtain ⟨r40, Mm40, hz40, h40⟩ := mj_callE h40o
          refine mv_callV (pc := 40) (n := 2) (av := [.int v2, .int 1]) (rest := []) de_PM_fits_40 (kc_1 l D E B sa) hi40 (cm_PM_sideOf l D E B sa N M v0 v2 1 _ _ hz40) wt_4_236 wt_4_238 wp_32 wt_1_8 wt_4_239 ⟨by decide, by decide, by decide +kernel⟩ rfl ⟨Nat.le_of_ble_eq_true rfl, Nat.le_of_ble_eq_true rfl⟩ (Nat.le_of_ble_eq_true rfl) rfl ?_
          refine mv_aload_n (pc := 43) (i := 0) de_PM_fits_43 rfl 0 rfl ?_
          refine mv_iload_n (pc := 44) (i := 3) de_PM_fits_44 rfl 3 rfl ?_
          refine mv_iconst (pc := 45) (v := 0) de_PM_fits_45 (by decide) ?_
          obtain ⟨hi46, h46o⟩ := mj_obE h40
          obtain ⟨r46, Mm46, hz46, h46⟩ := mj_callE h46o
          refine mv_callV (pc := 46) (n := 2) (av := [.int v3, .int 0]) (rest := [.int r40]) de_PM_fits_46 (kc_1 l D E B sa) hi46 (cm_PM_sideOf l D E B sa N Mm40 v0 v3 0 _ _ hz46) wt_4_236 wt_4_238 wp_32 wt_1_8 wt_4_239 ⟨by decide, by decide, by decide +kernel⟩ rfl ⟨Nat.le_of_ble_eq_true rfl, Nat.le_of_ble_eq_true rfl⟩ (Nat.le_of_ble_eq_true rfl) rfl ?_
          refine mv_icmp_eq (pc := 49) (tgt := 54) de_PM_fits_49 (by decide) h46 (fun hc49 h49 => ?_) (fun hc49 h49 => ?_)
          · refine mv_aload_n (pc := 54) (i := 0) de_PM_fits_54 rfl 0 rfl ?_
            refine mv_iconst (pc := 55) (v := 2) de_PM_fits_55 (by decide) ?_
            refine mv_put (pc := 56) (f := 11) (kc_1 l D E B sa) (Nat.le_of_ble_eq_true rfl) wt_4_91 rfl rfl rfl de_PM_fits_56 h49 (fun Mm56 e56 h56 => ?_)
            refine mv_aload_n (pc := 59) (i := 0) de_PM_fits_59 rfl 0 rfl ?_
            refine mv_getR (pc := 60) (f := 12) (kc_1 l D E B sa) (Nat.le_of_ble_eq_true rfl) wt_4_92 de_PM_fits_60 h56 (fun x60 e60 h60 => ?_)
            refine mv_iconst (pc := 63) (v := 0) de_PM_fits_63 (by decide) ?_
            refine mv_aload_n (pc := 64) (i := 0) de_PM_fits_64 rfl 0 rfl ?_
            refine mv_iload_n (pc := 65) (i := 2) de_PM_fits_65 rfl 2 rfl ?_
            refine mv_iconst (pc := 66) (v := 0) de_PM_fits_66 (by decide) ?_
            obtain ⟨hi67, h67o⟩ := mj_obE h60
            obtain ⟨r67, Mm67, hz67, h67⟩ := mj_callE h67o
            refine mv_callV (pc := 67) (n := 2) (av := [.int v2, .int 0]) (rest := [.int 0, va_rf x60]) de_PM_fits_67 (kc_1 l D E B sa) hi67 (cm_PM_sideOf l D E B sa N Mm56 v0 v2 0 _ _ hz67) wt_4_236 wt_4_238 wp_32 wt_1_8 wt_4_239 ⟨by decide, by decide, by decide +kernel⟩ rfl ⟨Nat.le_of_ble_eq_true rfl, Nat.le_of_ble_eq_true rfl⟩ (by simp [mv_cat, mv_cI, mv_cJ]) rfl ?_
            obtain ⟨a70, ha, h70a⟩ := mj_bindE h67
            subst ha
            refine mv_iast (pc := 70) (t := 0) rfl de_PM_fits_70 h70a (fun Mm70 e70 h70 => ?_)
            refine mv_aload_n (pc := 71) (i := 0) de_PM_fits_71 rfl 0 rfl ?_
            refine mv_getR (pc := 72) (f := 12) (kc_1 l D E B sa) (Nat.le_of_ble_eq_true rfl) wt_4_92 de_PM_fits_72 h70 (fun x72 e72 h72 => ?_)
            refine mv_iconst (pc := 75) (v := 1) de_PM_fits_75 (by decide) ?_
            refine mv_aload_n (pc := 76) (i := 0) de_PM_fits_76 rfl 0 rfl ?_
            refine mv_iload_n (pc := 77) (i := 3) de_PM_fits_77 rfl 3 rfl ?_
            refine mv_iconst (pc := 78) (v := 1) de_PM_fits_78 (by decide) ?_
            obtain ⟨hi79, h79o⟩ := mj_obE h72
            obtain ⟨r79, Mm79, hz79, h79⟩ := mj_callE h79o
            refine mv_callV (pc := 79) (n := 2) (av := [.int v3, .int 1]) (rest := [.int 1, va_rf x72]) de_PM_fits_79 (kc_1 l D E B sa) hi79 (cm_PM_sideOf l D E B sa N Mm70 v0 v3 1 _ _ hz79) wt_4_236 wt_4_238 wp_32 wt_1_8 wt_4_239 ⟨by decide, by decide, by decide +kernel⟩ rfl ⟨Nat.le_of_ble_eq_true rfl, Nat.le_of_ble_eq_true rfl⟩ (by simp [mv_cat, mv_cI, mv_cJ]) rfl ?_
            obtain ⟨a82, ha, h82a⟩ := mj_bindE h79
            subst ha
            refine mv_iast (pc := 82) (t := 0) rfl de_PM_fits_82 h82a (fun Mm82 e82 h82 => ?_)
            refine mv_iconst (pc := 83) (v := 1) de_PM_fits_83 (by decide) ?_
            exact mv_zret (pc := 84) rfl de_PM_fits_84 h82
          · exact mv_sub [] rfl (tb_PM_fits_52 l D E B sa M0 M1 r N Mm46 h49)
        · exact mv_sub [] rfl (tb_PM_fits_52 l D E B sa M0 M1 r N M h34)
      · exact mv_sub [] rfl (tb_PM_fits_52 l D E B sa M0 M1 r N M h24)
    · refine mv_iload_n (pc := 85) (i := 1) de_PM_fits_85 rfl 1 rfl ?_
      refine mv_bipush (pc := 86) (v := 9) de_PM_fits_86 (by decide) ?_
      refine mv_icmp_ge (pc := 88) (tgt := 221) de_PM_fits_88 (by decide) h14 (fun hc88 h88 => ?_) (fun hc88 h88 => ?_)
      · refine mv_iload_n (pc := 221) (i := 3) de_PM_fits_221 rfl 3 rfl ?_
        refine mv_if_ne (pc := 222) (tgt := 241) de_PM_fits_222 (by decide) h88 (fun hc222 h222 => ?_) (fun hc222 h222 => ?_)
        · refine mv_iload_n (pc := 225) (i := 1) de_PM_fits_225 rfl 1 rfl ?_
          refine mv_bipush (pc := 226) (v := 9) de_PM_fits_226 (by decide) ?_
          refine mv_icmp_ne (pc := 228) (tgt := 243) de_PM_fits_228 (by decide) h222 (fun hc228 h228 => ?_) (fun hc228 h228 => ?_)
          · refine mv_aload_n (pc := 231) (i := 0) de_PM_fits_231 rfl 0 rfl ?_
            refine mv_getR (pc := 232) (f := 6) (kc_1 l D E B sa) (Nat.le_of_ble_eq_true rfl) wt_4_86 de_PM_fits_232 h228 (fun x232 e232 h232 => ?_)
            refine mv_iload_n (pc := 235) (i := 2) de_PM_fits_235 rfl 2 rfl ?_
            obtain ⟨a236, ha, h236a⟩ := mj_bindE h232
            subst ha
            refine mv_iald (pc := 236) (t := 0) rfl de_PM_fits_236 h236a (fun x236 e236 h236 => ?_)
            refine mv_iconst (pc := 237) (v := 2) de_PM_fits_237 (by decide) ?_
            refine mv_icmp_ge (pc := 238) (tgt := 243) de_PM_fits_238 (by decide) h236 (fun hc238 h238 => ?_) (fun hc238 h238 => ?_)
            · exact mv_sub [0, 1, 2] rfl (tb_PM_fits_243 l D E B sa M0 M1 r N M v0 v1 v2 h238)
            · exact mv_sub [] rfl (tb_PM_fits_241 l D E B sa M0 M1 r N M h238)
          · exact mv_sub [0, 1, 2] rfl (tb_PM_fits_243 l D E B sa M0 M1 r N M v0 v1 v2 h228)
        · exact mv_sub [] rfl (tb_PM_fits_241 l D E B sa M0 M1 r N M h222)
      · refine mv_iload_n (pc := 91) (i := 1) de_PM_fits_91 rfl 1 rfl ?_
        refine mv_bipush (pc := 92) (v := 8) de_PM_fits_92 (by decide) ?_
        refine mv_icmp_ne (pc := 94) (tgt := 127) de_PM_fits_94 (by decide) h88 (fun hc94 h94 => ?_) (fun hc94 h94 => ?_)
        · refine mv_aload_n (pc := 97) (i := 0) de_PM_fits_97 rfl 0 rfl ?_
          refine mv_getR (pc := 98) (f := 6) (kc_1 l D E B sa) (Nat.le_of_ble_eq_true rfl) wt_4_86 de_PM_fits_98 h94 (fun x98 e98 h98 => ?_)
          refine mv_iload_n (pc := 101) (i := 2) de_PM_fits_101 rfl 2 rfl ?_
          obtain ⟨a102, ha, h102a⟩ := mj_bindE h98
          subst ha
          refine mv_iald (pc := 102) (t := 0) rfl de_PM_fits_102 h102a (fun x102 e102 h102 => ?_)
          refine mv_if_eq (pc := 103) (tgt := 145) de_PM_fits_103 (by decide) h102 (fun hc103 h103 => ?_) (fun hc103 h103 => ?_)
          · exact mv_sub [] rfl (tb_PM_fits_145 l D E B sa M0 M1 r N M h103)
          · refine mv_iload_n (pc := 106) (i := 3) de_PM_fits_106 rfl 3 rfl ?_
            refine mv_i2l (pc := 107) de_PM_fits_107 ?_
            refine mv_lconst (pc := 108) (v := 0) de_PM_fits_108 (by decide) ?_
            refine mv_aload_n (pc := 109) (i := 0) de_PM_fits_109 rfl 0 rfl ?_
            refine mv_iload_n (pc := 110) (i := 2) de_PM_fits_110 rfl 2 rfl ?_
            refine mv_iconst (pc := 111) (v := 0) de_PM_fits_111 (by decide) ?_
            obtain ⟨hi112, h112o⟩ := mj_obE h103
            obtain ⟨r112, Mm112, hz112, h112⟩ := mj_callE h112o
            refine mv_callV (pc := 112) (n := 2) (av := [.int v2, .int 0]) (rest := [.long 0, .long v3.toInt64]) de_PM_fits_112 (kc_1 l D E B sa) hi112 (cm_PM_sideOf l D E B sa N M v0 v2 0 _ _ hz112) wt_4_236 wt_4_238 wp_32 wt_1_8 wt_4_239 ⟨by decide, by decide, by decide +kernel⟩ rfl ⟨Nat.le_of_ble_eq_true rfl, Nat.le_of_ble_eq_true rfl⟩ (Nat.le_of_ble_eq_true rfl) rfl ?_
            refine mv_iconst (pc := 115) (v := 1) de_PM_fits_115 (by decide) ?_
            refine mv_isub (pc := 116) de_PM_fits_116 ?_
            refine mv_i2l (pc := 117) de_PM_fits_117 ?_
            obtain ⟨r118, Mm118, hz118, h118⟩ := mj_callE h112
            refine mv_callS (pc := 118) (n := 3) (av := [.long v3.toInt64, .long 0, .long (r112 - 1).toInt64]) (rest := []) de_PM_fits_118 (cm_PM_isIn l D E B sa N Mm112 v3.toInt64 0 ((r112 - 1).toInt64) _ _ hz118) wt_4_197 wt_4_198 wt_1_8 wt_4_199 ⟨by decide, by decide, by decide +kernel⟩ rfl ⟨Nat.le_of_ble_eq_true rfl, Nat.le_of_ble_eq_true rfl⟩ (Nat.le_of_ble_eq_true rfl) rfl ?_
            refine mv_if_ne (pc := 121) (tgt := 147) de_PM_fits_121 (by decide) h118 (fun hc121 h121 => ?_) (fun hc121 h121 => ?_)
            · refine mv_goto (pc := 124) (tgt := 145) de_PM_fits_124 (by decide) ?_
              exact mv_sub [] rfl (tb_PM_fits_145 l D E B sa M0 M1 r N Mm118 h121)
            · exact mv_sub [0, 1, 2, 3] rfl (tb_PM_fits_147 l D E B sa M0 M1 r N Mm118 v0 v1 v2 v3 h121)
        · refine mv_iload_n (pc := 127) (i := 3) de_PM_fits_127 rfl 3 rfl ?_
          refine mv_i2l (pc := 128) de_PM_fits_128 ?_
          refine mv_lconst (pc := 129) (v := 0) de_PM_fits_129 (by decide) ?_
          refine mv_aload_n (pc := 130) (i := 0) de_PM_fits_130 rfl 0 rfl ?_
          refine mv_getR (pc := 131) (f := 6) (kc_1 l D E B sa) (Nat.le_of_ble_eq_true rfl) wt_4_86 de_PM_fits_131 h94 (fun x131 e131 h131 => ?_)
          refine mv_iload_n (pc := 134) (i := 2) de_PM_fits_134 rfl 2 rfl ?_
          obtain ⟨a135, ha, h135a⟩ := mj_bindE h131
          subst ha
          refine mv_iald (pc := 135) (t := 0) rfl de_PM_fits_135 h135a (fun x135 e135 h135 => ?_)
          refine mv_iconst (pc := 136) (v := 1) de_PM_fits_136 (by decide) ?_
          refine mv_isub (pc := 137) de_PM_fits_137 ?_
          refine mv_i2l (pc := 138) de_PM_fits_138 ?_
          obtain ⟨r139, Mm139, hz139, h139⟩ := mj_callE h135
          refine mv_callS (pc := 139) (n := 3) (av := [.long v3.toInt64, .long 0, .long (x135 - 1).toInt64]) (rest := []) de_PM_fits_139 (cm_PM_isIn l D E B sa N M v3.toInt64 0 ((x135 - 1).toInt64) _ _ hz139) wt_4_197 wt_4_198 wt_1_8 wt_4_199 ⟨by decide, by decide, by decide +kernel⟩ rfl ⟨Nat.le_of_ble_eq_true rfl, Nat.le_of_ble_eq_true rfl⟩ (Nat.le_of_ble_eq_true rfl) rfl ?_
          refine mv_if_ne (pc := 142) (tgt := 147) de_PM_fits_142 (by decide) h139 (fun hc142 h142 => ?_) (fun hc142 h142 => ?_)
          · exact mv_sub [] rfl (tb_PM_fits_145 l D E B sa M0 M1 r N Mm139 h142)
          · exact mv_sub [0, 1, 2, 3] rfl (tb_PM_fits_147 l D E B sa M0 M1 r N Mm139 v0 v1 v2 v3 h142)
  · refine mv_aload_n (pc := 5) (i := 0) de_PM_fits_5 rfl 0 rfl ?_
    refine mv_iload_n (pc := 6) (i := 2) de_PM_fits_6 rfl 2 rfl ?_
    refine mv_iload_n (pc := 7) (i := 3) de_PM_fits_7 rfl 3 rfl ?_
    obtain ⟨hi8, h8o⟩ := mj_obE h2
    obtain ⟨r8, Mm8, hz8, h8⟩ := mj_callE h8o
    refine mv_callV (pc := 8) (n := 2) (av := [.int v2, .int v3]) (rest := []) de_PM_fits_8 (kc_1 l D E B sa) hi8 (cm_PM_spreads l D E B sa N M v0 v2 v3 _ _ hz8) wt_4_232 wt_4_234 wp_31 wt_1_8 wt_4_235 ⟨by decide, by decide, by decide +kernel⟩ rfl ⟨Nat.le_of_ble_eq_true rfl, Nat.le_of_ble_eq_true rfl⟩ (Nat.le_of_ble_eq_true rfl) rfl ?_
    exact mv_zret (pc := 11) rfl de_PM_fits_11 h8
theorem cm_PM_fits (l : Launch) (D : va_G) (E : Nat → ClassId) (B : Nat) (sa : (Nat → Nat) × Nat × (Nat → Int32)) (N : Nat) (M : mv_M) (v0 : Nat) (v1 : Int32) (v2 : Int32) (v3 : Int32) (r : Int32) (M1 : mv_M) (hJ : jf_PM_fits N M v0 v1 v2 v3 = some (r, M1)) : mv_Met (xg l D E B sa) yn_PM_fits cd_PM_fits 6 (some .boolean) 1 26 [va_rf (some v0), .int v1, .int v2, .int v3] M (some (.int r)) M1 :=
  mv_enter (by decide) (Nat.le_of_ble_eq_true rfl) (mv_sub (lv := [(0, va_rf (some v0)), (1, .int v1), (2, .int v2), (3, .int v3)]) [0, 1, 2, 3] rfl (tb_PM_fits_0 l D E B sa M M1 r N M v0 v1 v2 v3 hJ))
/-! ===== PlainLearnerModel.act(III)I ===== -/
abbrev kd_PM_act : mv_Kd := (cd_PM_act, 6, "PlainLearnerModel", "act", (some .int), 2, 51)
theorem de_PM_act_0 : decode cd_PM_act 0 = .ok (.iload_n 1, 1) := by decide +kernel
theorem de_PM_act_1 : decode cd_PM_act 1 = .ok (.i2l, 1) := by decide +kernel
theorem de_PM_act_2 : decode cd_PM_act 2 = .ok (.lconst 0, 1) := by decide +kernel
theorem de_PM_act_3 : decode cd_PM_act 3 = .ok (.ldc2_w 129, 3) := by decide +kernel
theorem de_PM_act_6 : decode cd_PM_act 6 = .ok (.invokestatic 99, 3) := by decide +kernel
theorem de_PM_act_9 : decode cd_PM_act 9 = .ok (.ifCond .eq 34, 3) := by decide +kernel
theorem de_PM_act_12 : decode cd_PM_act 12 = .ok (.aload_n 0, 1) := by decide +kernel
theorem de_PM_act_13 : decode cd_PM_act 13 = .ok (.iload_n 2, 1) := by decide +kernel
theorem de_PM_act_14 : decode cd_PM_act 14 = .ok (.invokevirtual 107, 3) := by decide +kernel
theorem de_PM_act_17 : decode cd_PM_act 17 = .ok (.ifCond .eq 26, 3) := by decide +kernel
theorem de_PM_act_20 : decode cd_PM_act 20 = .ok (.iload_n 1, 1) := by decide +kernel
theorem de_PM_act_21 : decode cd_PM_act 21 = .ok (.iconst 5, 1) := by decide +kernel
theorem de_PM_act_22 : decode cd_PM_act 22 = .ok (.if_icmp .ge 11, 3) := by decide +kernel
theorem de_PM_act_25 : decode cd_PM_act 25 = .ok (.aload_n 0, 1) := by decide +kernel
theorem de_PM_act_26 : decode cd_PM_act 26 = .ok (.iload_n 3, 1) := by decide +kernel
theorem de_PM_act_27 : decode cd_PM_act 27 = .ok (.invokevirtual 107, 3) := by decide +kernel
theorem de_PM_act_30 : decode cd_PM_act 30 = .ok (.ifCond .eq 13, 3) := by decide +kernel
theorem de_PM_act_33 : decode cd_PM_act 33 = .ok (.aload_n 0, 1) := by decide +kernel
theorem de_PM_act_34 : decode cd_PM_act 34 = .ok (.iload_n 1, 1) := by decide +kernel
theorem de_PM_act_35 : decode cd_PM_act 35 = .ok (.iload_n 2, 1) := by decide +kernel
theorem de_PM_act_36 : decode cd_PM_act 36 = .ok (.iload_n 3, 1) := by decide +kernel
theorem de_PM_act_37 : decode cd_PM_act 37 = .ok (.invokevirtual 131, 3) := by decide +kernel
theorem de_PM_act_40 : decode cd_PM_act 40 = .ok (.ifCond .ne 5, 3) := by decide +kernel
theorem de_PM_act_43 : decode cd_PM_act 43 = .ok (.iconst (-1), 1) := by decide +kernel
theorem de_PM_act_44 : decode cd_PM_act 44 = .ok (.ireturn, 1) := by decide +kernel
theorem de_PM_act_45 : decode cd_PM_act 45 = .ok (.iconst 1, 1) := by decide +kernel
theorem de_PM_act_46 : decode cd_PM_act 46 = .ok (.istore 4, 2) := by decide +kernel
theorem de_PM_act_48 : decode cd_PM_act 48 = .ok (.iconst 0, 1) := by decide +kernel
theorem de_PM_act_49 : decode cd_PM_act 49 = .ok (.istore 5, 2) := by decide +kernel
theorem de_PM_act_51 : decode cd_PM_act 51 = .ok (.iload 5, 2) := by decide +kernel
theorem de_PM_act_53 : decode cd_PM_act 53 = .ok (.aload_n 0, 1) := by decide +kernel
theorem de_PM_act_54 : decode cd_PM_act 54 = .ok (.getfield 118, 3) := by decide +kernel
theorem de_PM_act_57 : decode cd_PM_act 57 = .ok (.if_icmp .ge 21, 3) := by decide +kernel
theorem de_PM_act_60 : decode cd_PM_act 60 = .ok (.iload 4, 2) := by decide +kernel
theorem de_PM_act_62 : decode cd_PM_act 62 = .ok (.aload_n 0, 1) := by decide +kernel
theorem de_PM_act_63 : decode cd_PM_act 63 = .ok (.getfield 36, 3) := by decide +kernel
theorem de_PM_act_66 : decode cd_PM_act 66 = .ok (.iload 5, 2) := by decide +kernel
theorem de_PM_act_68 : decode cd_PM_act 68 = .ok (.iaload, 1) := by decide +kernel
theorem de_PM_act_69 : decode cd_PM_act 69 = .ok (.imul, 1) := by decide +kernel
theorem de_PM_act_70 : decode cd_PM_act 70 = .ok (.istore 4, 2) := by decide +kernel
theorem de_PM_act_72 : decode cd_PM_act 72 = .ok (.iinc 5 1, 3) := by decide +kernel
theorem de_PM_act_75 : decode cd_PM_act 75 = .ok (.goto (-24), 3) := by decide +kernel
theorem de_PM_act_78 : decode cd_PM_act 78 = .ok (.aload_n 0, 1) := by decide +kernel
theorem de_PM_act_79 : decode cd_PM_act 79 = .ok (.getfield 95, 3) := by decide +kernel
theorem de_PM_act_82 : decode cd_PM_act 82 = .ok (.bipush 50, 2) := by decide +kernel
theorem de_PM_act_84 : decode cd_PM_act 84 = .ok (.if_icmp .eq 10, 3) := by decide +kernel
theorem de_PM_act_87 : decode cd_PM_act 87 = .ok (.iload 4, 2) := by decide +kernel
theorem de_PM_act_89 : decode cd_PM_act 89 = .ok (.bipush 64, 2) := by decide +kernel
theorem de_PM_act_91 : decode cd_PM_act 91 = .ok (.if_icmp .le 6, 3) := by decide +kernel
theorem de_PM_act_94 : decode cd_PM_act 94 = .ok (.bipush (-3), 2) := by decide +kernel
theorem de_PM_act_96 : decode cd_PM_act 96 = .ok (.ireturn, 1) := by decide +kernel
theorem de_PM_act_97 : decode cd_PM_act 97 = .ok (.aload_n 0, 1) := by decide +kernel
theorem de_PM_act_98 : decode cd_PM_act 98 = .ok (.getfield 7, 3) := by decide +kernel
theorem de_PM_act_101 : decode cd_PM_act 101 = .ok (.aload_n 0, 1) := by decide +kernel
theorem de_PM_act_102 : decode cd_PM_act 102 = .ok (.getfield 95, 3) := by decide +kernel
theorem de_PM_act_105 : decode cd_PM_act 105 = .ok (.iload_n 1, 1) := by decide +kernel
theorem de_PM_act_106 : decode cd_PM_act 106 = .ok (.iastore, 1) := by decide +kernel
theorem de_PM_act_107 : decode cd_PM_act 107 = .ok (.aload_n 0, 1) := by decide +kernel
theorem de_PM_act_108 : decode cd_PM_act 108 = .ok (.getfield 13, 3) := by decide +kernel
theorem de_PM_act_111 : decode cd_PM_act 111 = .ok (.aload_n 0, 1) := by decide +kernel
theorem de_PM_act_112 : decode cd_PM_act 112 = .ok (.getfield 95, 3) := by decide +kernel
theorem de_PM_act_115 : decode cd_PM_act 115 = .ok (.iload_n 2, 1) := by decide +kernel
theorem de_PM_act_116 : decode cd_PM_act 116 = .ok (.iastore, 1) := by decide +kernel
theorem de_PM_act_117 : decode cd_PM_act 117 = .ok (.aload_n 0, 1) := by decide +kernel
theorem de_PM_act_118 : decode cd_PM_act 118 = .ok (.getfield 16, 3) := by decide +kernel
theorem de_PM_act_121 : decode cd_PM_act 121 = .ok (.aload_n 0, 1) := by decide +kernel
theorem de_PM_act_122 : decode cd_PM_act 122 = .ok (.getfield 95, 3) := by decide +kernel
theorem de_PM_act_125 : decode cd_PM_act 125 = .ok (.iload_n 3, 1) := by decide +kernel
theorem de_PM_act_126 : decode cd_PM_act 126 = .ok (.iastore, 1) := by decide +kernel
theorem de_PM_act_127 : decode cd_PM_act 127 = .ok (.aload_n 0, 1) := by decide +kernel
theorem de_PM_act_128 : decode cd_PM_act 128 = .ok (.getfield 19, 3) := by decide +kernel
theorem de_PM_act_131 : decode cd_PM_act 131 = .ok (.aload_n 0, 1) := by decide +kernel
theorem de_PM_act_132 : decode cd_PM_act 132 = .ok (.getfield 95, 3) := by decide +kernel
theorem de_PM_act_135 : decode cd_PM_act 135 = .ok (.aload_n 0, 1) := by decide +kernel
theorem de_PM_act_136 : decode cd_PM_act 136 = .ok (.getfield 118, 3) := by decide +kernel
theorem de_PM_act_139 : decode cd_PM_act 139 = .ok (.iastore, 1) := by decide +kernel
theorem de_PM_act_140 : decode cd_PM_act 140 = .ok (.iconst 0, 1) := by decide +kernel
theorem de_PM_act_141 : decode cd_PM_act 141 = .ok (.istore 5, 2) := by decide +kernel
theorem de_PM_act_143 : decode cd_PM_act 143 = .ok (.iload 5, 2) := by decide +kernel
theorem de_PM_act_145 : decode cd_PM_act 145 = .ok (.aload_n 0, 1) := by decide +kernel
theorem de_PM_act_146 : decode cd_PM_act 146 = .ok (.getfield 118, 3) := by decide +kernel
theorem de_PM_act_149 : decode cd_PM_act 149 = .ok (.if_icmp .ge 30, 3) := by decide +kernel
theorem de_PM_act_152 : decode cd_PM_act 152 = .ok (.aload_n 0, 1) := by decide +kernel
theorem de_PM_act_153 : decode cd_PM_act 153 = .ok (.getfield 22, 3) := by decide +kernel
theorem de_PM_act_156 : decode cd_PM_act 156 = .ok (.iconst 3, 1) := by decide +kernel
theorem de_PM_act_157 : decode cd_PM_act 157 = .ok (.aload_n 0, 1) := by decide +kernel
theorem de_PM_act_158 : decode cd_PM_act 158 = .ok (.getfield 95, 3) := by decide +kernel
theorem de_PM_act_161 : decode cd_PM_act 161 = .ok (.imul, 1) := by decide +kernel
theorem de_PM_act_162 : decode cd_PM_act 162 = .ok (.iload 5, 2) := by decide +kernel
theorem de_PM_act_164 : decode cd_PM_act 164 = .ok (.iadd, 1) := by decide +kernel
theorem de_PM_act_165 : decode cd_PM_act 165 = .ok (.aload_n 0, 1) := by decide +kernel
theorem de_PM_act_166 : decode cd_PM_act 166 = .ok (.getfield 36, 3) := by decide +kernel
theorem de_PM_act_169 : decode cd_PM_act 169 = .ok (.iload 5, 2) := by decide +kernel
theorem de_PM_act_171 : decode cd_PM_act 171 = .ok (.iaload, 1) := by decide +kernel
theorem de_PM_act_172 : decode cd_PM_act 172 = .ok (.iastore, 1) := by decide +kernel
theorem de_PM_act_173 : decode cd_PM_act 173 = .ok (.iinc 5 1, 3) := by decide +kernel
theorem de_PM_act_176 : decode cd_PM_act 176 = .ok (.goto (-33), 3) := by decide +kernel
theorem de_PM_act_179 : decode cd_PM_act 179 = .ok (.aload_n 0, 1) := by decide +kernel
theorem de_PM_act_180 : decode cd_PM_act 180 = .ok (.dup, 1) := by decide +kernel
theorem de_PM_act_181 : decode cd_PM_act 181 = .ok (.getfield 95, 3) := by decide +kernel
theorem de_PM_act_184 : decode cd_PM_act 184 = .ok (.dup_x1, 1) := by decide +kernel
theorem de_PM_act_185 : decode cd_PM_act 185 = .ok (.iconst 1, 1) := by decide +kernel
theorem de_PM_act_186 : decode cd_PM_act 186 = .ok (.iadd, 1) := by decide +kernel
theorem de_PM_act_187 : decode cd_PM_act 187 = .ok (.putfield 95, 3) := by decide +kernel
theorem de_PM_act_190 : decode cd_PM_act 190 = .ok (.ireturn, 1) := by decide +kernel
def jb_PM_act_43 (N : Nat) (M : mv_M) : Option (Int32 × mv_M) :=
  some ((-1), M)
def jb_PM_act_94 (N : Nat) (M : mv_M) : Option (Int32 × mv_M) :=
  some ((-3), M)
def jb_PM_act_143 (N : Nat) : Nat → mv_M → Nat → Int32 → Option (Int32 × mv_M)
  | 0, _, _, _ => none
  | n + 1, M, v0, v5 =>
    Option.bind (mj_getI M v0 1 11) fun x146 =>
    if x146 ≤ v5 then (Option.bind (mj_getI M v0 1 2) fun x181 =>
    Option.bind (mj_put M v0 1 2 (.int (x181 + 1))) fun Mm187 =>
    some (x181, Mm187)) else
    Option.bind (mj_getR M v0 1 7) fun x153 =>
    Option.bind (mj_getI M v0 1 2) fun x158 =>
    Option.bind (mj_getR M v0 1 12) fun x166 =>
    Option.bind x166 fun a171 =>
    Option.bind (mj_ild M a171 0 v5) fun x171 =>
    Option.bind x153 fun a172 =>
    Option.bind (mj_ist M a172 0 ((3 * x158) + v5) x171) fun Mm172 =>
    jb_PM_act_143 N n Mm172 v0 (v5 + 1)
def jb_PM_act_51 (N : Nat) : Nat → mv_M → Nat → Int32 → Int32 → Int32 → Int32 → Int32 → Option (Int32 × mv_M)
  | 0, _, _, _, _, _, _, _ => none
  | n + 1, M, v0, v1, v2, v3, v4, v5 =>
    Option.bind (mj_getI M v0 1 11) fun x54 =>
    if x54 ≤ v5 then (Option.bind (mj_getI M v0 1 2) fun x79 =>
    if x79 = 50 then (jb_PM_act_94 N M) else
    if v4 ≤ 64 then (Option.bind (mj_getR M v0 1 3) fun x98 =>
    Option.bind (mj_getI M v0 1 2) fun x102 =>
    Option.bind x98 fun a106 =>
    Option.bind (mj_ist M a106 0 x102 v1) fun Mm106 =>
    Option.bind (mj_getR Mm106 v0 1 4) fun x108 =>
    Option.bind (mj_getI Mm106 v0 1 2) fun x112 =>
    Option.bind x108 fun a116 =>
    Option.bind (mj_ist Mm106 a116 0 x112 v2) fun Mm116 =>
    Option.bind (mj_getR Mm116 v0 1 5) fun x118 =>
    Option.bind (mj_getI Mm116 v0 1 2) fun x122 =>
    Option.bind x118 fun a126 =>
    Option.bind (mj_ist Mm116 a126 0 x122 v3) fun Mm126 =>
    Option.bind (mj_getR Mm126 v0 1 6) fun x128 =>
    Option.bind (mj_getI Mm126 v0 1 2) fun x132 =>
    Option.bind (mj_getI Mm126 v0 1 11) fun x136 =>
    Option.bind x128 fun a139 =>
    Option.bind (mj_ist Mm126 a139 0 x132 x136) fun Mm139 =>
    jb_PM_act_143 N N Mm139 v0 0) else
    jb_PM_act_94 N M) else
    Option.bind (mj_getR M v0 1 12) fun x63 =>
    Option.bind x63 fun a68 =>
    Option.bind (mj_ild M a68 0 v5) fun x68 =>
    jb_PM_act_51 N n M v0 v1 v2 v3 (v4 * x68) (v5 + 1)
def jb_PM_act_33 (N : Nat) (M : mv_M) (v0 : Nat) (v1 : Int32) (v2 : Int32) (v3 : Int32) : Option (Int32 × mv_M) :=
  mj_ob M v0 1 <|
  mj_call (jf_PM_fits N M v0 v1 v2 v3) fun r37 Mm37 =>
  if r37 = 0 then (jb_PM_act_43 N Mm37) else
  jb_PM_act_51 N N Mm37 v0 v1 v2 v3 1 0
def jb_PM_act_0 (N : Nat) (M : mv_M) (v0 : Nat) (v1 : Int32) (v2 : Int32) (v3 : Int32) : Option (Int32 × mv_M) :=
  mj_call (jf_PM_isIn N M v1.toInt64 0 15) fun r6 Mm6 =>
  if r6 = 0 then (jb_PM_act_43 N Mm6) else
  mj_ob Mm6 v0 1 <|
  mj_call (jf_PM_isNode N Mm6 v0 v2) fun r14 Mm14 =>
  if r14 = 0 then (jb_PM_act_43 N Mm14) else
  if 5 ≤ v1 then (jb_PM_act_33 N Mm14 v0 v1 v2 v3) else
  mj_ob Mm14 v0 1 <|
  mj_call (jf_PM_isNode N Mm14 v0 v3) fun r27 Mm27 =>
  if r27 = 0 then (jb_PM_act_43 N Mm27) else
  jb_PM_act_33 N Mm27 v0 v1 v2 v3
def jf_PM_act (N : Nat) (M : mv_M) (v0 : Nat) (v1 : Int32) (v2 : Int32) (v3 : Int32) : Option (Int32 × mv_M) := jb_PM_act_0 N M v0 v1 v2 v3
set_option maxHeartbeats 4000000 in
set_option maxRecDepth 100000 in
theorem tb_PM_act_43 (l : Launch) (D : va_G) (E : Nat → ClassId) (B : Nat) (sa : (Nat → Nat) × Nat × (Nat → Int32)) (M0 M1 : mv_M) (r : Int32) (N : Nat) (M : mv_M) (hJ : jb_PM_act_43 N M = some (r, M1)) : mv_G (xg l D E B sa) kd_PM_act M0 M1 (some (.int r)) M 43 [] [] := by
  unfold jb_PM_act_43 at hJ
  refine mv_iconst (pc := 43) (v := (-1)) de_PM_act_43 (by decide) ?_
  exact mv_iret (pc := 44) rfl de_PM_act_44 hJ
set_option maxHeartbeats 4000000 in
set_option maxRecDepth 100000 in
theorem tb_PM_act_94 (l : Launch) (D : va_G) (E : Nat → ClassId) (B : Nat) (sa : (Nat → Nat) × Nat × (Nat → Int32)) (M0 M1 : mv_M) (r : Int32) (N : Nat) (M : mv_M) (hJ : jb_PM_act_94 N M = some (r, M1)) : mv_G (xg l D E B sa) kd_PM_act M0 M1 (some (.int r)) M 94 [] [] := by
  unfold jb_PM_act_94 at hJ
  refine mv_bipush (pc := 94) (v := (-3)) de_PM_act_94 (by decide) ?_
  exact mv_iret (pc := 96) rfl de_PM_act_96 hJ
set_option maxHeartbeats 4000000 in
set_option maxRecDepth 100000 in
theorem tb_PM_act_143 (l : Launch) (D : va_G) (E : Nat → ClassId) (B : Nat) (sa : (Nat → Nat) × Nat × (Nat → Int32)) (M0 M1 : mv_M) (r : Int32) (N : Nat) : ∀ (n : Nat) (M : mv_M) (v0 : Nat) (v5 : Int32) (hJ : jb_PM_act_143 N n M v0 v5 = some (r, M1)), mv_G (xg l D E B sa) kd_PM_act M0 M1 (some (.int r)) M 143 [(0, va_rf (some v0)), (5, .int v5)] [] := by
  intro n
  induction n with
  | zero => intro M v0 v5 hJ; cases hJ
  | succ n ih =>
    intro M v0 v5 hJ
    rw [jb_PM_act_143] at hJ
    refine mv_iload (pc := 143) de_PM_act_143 1 rfl ?_
    refine mv_aload_n (pc := 145) (i := 0) de_PM_act_145 rfl 0 rfl ?_
    refine mv_getI (pc := 146) (f := 11) (kc_1 l D E B sa) (Nat.le_of_ble_eq_true rfl) wt_4_91 de_PM_act_146 hJ (fun x146 e146 h146 => ?_)
    refine mv_icmp_ge (pc := 149) (tgt := 179) de_PM_act_149 (by decide) h146 (fun hc149 h149 => ?_) (fun hc149 h149 => ?_)
    · refine mv_aload_n (pc := 179) (i := 0) de_PM_act_179 rfl 0 rfl ?_
      refine mv_dup (pc := 180) de_PM_act_180 rfl ?_
      refine mv_getI (pc := 181) (f := 2) (kc_1 l D E B sa) (Nat.le_of_ble_eq_true rfl) wt_4_82 de_PM_act_181 h149 (fun x181 e181 h181 => ?_)
      refine mv_dup_x1 (pc := 184) de_PM_act_184 rfl rfl ?_
      refine mv_iconst (pc := 185) (v := 1) de_PM_act_185 (by decide) ?_
      refine mv_iadd (pc := 186) de_PM_act_186 ?_
      refine mv_put (pc := 187) (f := 2) (kc_1 l D E B sa) (Nat.le_of_ble_eq_true rfl) wt_4_82 rfl rfl rfl de_PM_act_187 h181 (fun Mm187 e187 h187 => ?_)
      exact mv_iret (pc := 190) rfl de_PM_act_190 h187
    · refine mv_aload_n (pc := 152) (i := 0) de_PM_act_152 rfl 0 rfl ?_
      refine mv_getR (pc := 153) (f := 7) (kc_1 l D E B sa) (Nat.le_of_ble_eq_true rfl) wt_4_87 de_PM_act_153 h149 (fun x153 e153 h153 => ?_)
      refine mv_iconst (pc := 156) (v := 3) de_PM_act_156 (by decide) ?_
      refine mv_aload_n (pc := 157) (i := 0) de_PM_act_157 rfl 0 rfl ?_
      refine mv_getI (pc := 158) (f := 2) (kc_1 l D E B sa) (Nat.le_of_ble_eq_true rfl) wt_4_82 de_PM_act_158 h153 (fun x158 e158 h158 => ?_)
      refine mv_imul (pc := 161) de_PM_act_161 ?_
      refine mv_iload (pc := 162) de_PM_act_162 1 rfl ?_
      refine mv_iadd (pc := 164) de_PM_act_164 ?_
      refine mv_aload_n (pc := 165) (i := 0) de_PM_act_165 rfl 0 rfl ?_
      refine mv_getR (pc := 166) (f := 12) (kc_1 l D E B sa) (Nat.le_of_ble_eq_true rfl) wt_4_92 de_PM_act_166 h158 (fun x166 e166 h166 => ?_)
      refine mv_iload (pc := 169) de_PM_act_169 1 rfl ?_
      obtain ⟨a171, ha, h171a⟩ := mj_bindE h166
      subst ha
      refine mv_iald (pc := 171) (t := 0) rfl de_PM_act_171 h171a (fun x171 e171 h171 => ?_)
      obtain ⟨a172, ha, h172a⟩ := mj_bindE h171
      subst ha
      refine mv_iast (pc := 172) (t := 0) rfl de_PM_act_172 h172a (fun Mm172 e172 h172 => ?_)
      refine mv_iinc (pc := 173) (v := (v5 + 1)) (lv' := [(5, .int (v5 + 1)), (0, va_rf (some v0))]) de_PM_act_173 1 rfl rfl (Nat.le_of_ble_eq_true rfl) rfl ?_
      refine mv_goto (pc := 176) (tgt := 143) de_PM_act_176 (by decide) ?_
      exact mv_sub [1, 0] rfl (ih Mm172 v0 (v5 + 1) h172)
set_option maxHeartbeats 4000000 in
set_option maxRecDepth 100000 in
theorem tb_PM_act_51 (l : Launch) (D : va_G) (E : Nat → ClassId) (B : Nat) (sa : (Nat → Nat) × Nat × (Nat → Int32)) (M0 M1 : mv_M) (r : Int32) (N : Nat) : ∀ (n : Nat) (M : mv_M) (v0 : Nat) (v1 : Int32) (v2 : Int32) (v3 : Int32) (v4 : Int32) (v5 : Int32) (hJ : jb_PM_act_51 N n M v0 v1 v2 v3 v4 v5 = some (r, M1)), mv_G (xg l D E B sa) kd_PM_act M0 M1 (some (.int r)) M 51 [(0, va_rf (some v0)), (1, .int v1), (2, .int v2), (3, .int v3), (4, .int v4), (5, .int v5)] [] := by
  intro n
  induction n with
  | zero => intro M v0 v1 v2 v3 v4 v5 hJ; cases hJ
  | succ n ih =>
    intro M v0 v1 v2 v3 v4 v5 hJ
    rw [jb_PM_act_51] at hJ
    refine mv_iload (pc := 51) de_PM_act_51 5 rfl ?_
    refine mv_aload_n (pc := 53) (i := 0) de_PM_act_53 rfl 0 rfl ?_
    refine mv_getI (pc := 54) (f := 11) (kc_1 l D E B sa) (Nat.le_of_ble_eq_true rfl) wt_4_91 de_PM_act_54 hJ (fun x54 e54 h54 => ?_)
    refine mv_icmp_ge (pc := 57) (tgt := 78) de_PM_act_57 (by decide) h54 (fun hc57 h57 => ?_) (fun hc57 h57 => ?_)
    · refine mv_aload_n (pc := 78) (i := 0) de_PM_act_78 rfl 0 rfl ?_
      refine mv_getI (pc := 79) (f := 2) (kc_1 l D E B sa) (Nat.le_of_ble_eq_true rfl) wt_4_82 de_PM_act_79 h57 (fun x79 e79 h79 => ?_)
      refine mv_bipush (pc := 82) (v := 50) de_PM_act_82 (by decide) ?_
      refine mv_icmp_eq (pc := 84) (tgt := 94) de_PM_act_84 (by decide) h79 (fun hc84 h84 => ?_) (fun hc84 h84 => ?_)
      · exact mv_sub [] rfl (tb_PM_act_94 l D E B sa M0 M1 r N M h84)
      · refine mv_iload (pc := 87) de_PM_act_87 4 rfl ?_
        refine mv_bipush (pc := 89) (v := 64) de_PM_act_89 (by decide) ?_
        refine mv_icmp_le (pc := 91) (tgt := 97) de_PM_act_91 (by decide) h84 (fun hc91 h91 => ?_) (fun hc91 h91 => ?_)
        · refine mv_aload_n (pc := 97) (i := 0) de_PM_act_97 rfl 0 rfl ?_
          refine mv_getR (pc := 98) (f := 3) (kc_1 l D E B sa) (Nat.le_of_ble_eq_true rfl) wt_4_83 de_PM_act_98 h91 (fun x98 e98 h98 => ?_)
          refine mv_aload_n (pc := 101) (i := 0) de_PM_act_101 rfl 0 rfl ?_
          refine mv_getI (pc := 102) (f := 2) (kc_1 l D E B sa) (Nat.le_of_ble_eq_true rfl) wt_4_82 de_PM_act_102 h98 (fun x102 e102 h102 => ?_)
          refine mv_iload_n (pc := 105) (i := 1) de_PM_act_105 rfl 1 rfl ?_
          obtain ⟨a106, ha, h106a⟩ := mj_bindE h102
          subst ha
          refine mv_iast (pc := 106) (t := 0) rfl de_PM_act_106 h106a (fun Mm106 e106 h106 => ?_)
          refine mv_aload_n (pc := 107) (i := 0) de_PM_act_107 rfl 0 rfl ?_
          refine mv_getR (pc := 108) (f := 4) (kc_1 l D E B sa) (Nat.le_of_ble_eq_true rfl) wt_4_84 de_PM_act_108 h106 (fun x108 e108 h108 => ?_)
          refine mv_aload_n (pc := 111) (i := 0) de_PM_act_111 rfl 0 rfl ?_
          refine mv_getI (pc := 112) (f := 2) (kc_1 l D E B sa) (Nat.le_of_ble_eq_true rfl) wt_4_82 de_PM_act_112 h108 (fun x112 e112 h112 => ?_)
          refine mv_iload_n (pc := 115) (i := 2) de_PM_act_115 rfl 2 rfl ?_
          obtain ⟨a116, ha, h116a⟩ := mj_bindE h112
          subst ha
          refine mv_iast (pc := 116) (t := 0) rfl de_PM_act_116 h116a (fun Mm116 e116 h116 => ?_)
          refine mv_aload_n (pc := 117) (i := 0) de_PM_act_117 rfl 0 rfl ?_
          refine mv_getR (pc := 118) (f := 5) (kc_1 l D E B sa) (Nat.le_of_ble_eq_true rfl) wt_4_85 de_PM_act_118 h116 (fun x118 e118 h118 => ?_)
          refine mv_aload_n (pc := 121) (i := 0) de_PM_act_121 rfl 0 rfl ?_
          refine mv_getI (pc := 122) (f := 2) (kc_1 l D E B sa) (Nat.le_of_ble_eq_true rfl) wt_4_82 de_PM_act_122 h118 (fun x122 e122 h122 => ?_)
          refine mv_iload_n (pc := 125) (i := 3) de_PM_act_125 rfl 3 rfl ?_
          obtain ⟨a126, ha, h126a⟩ := mj_bindE h122
          subst ha
          refine mv_iast (pc := 126) (t := 0) rfl de_PM_act_126 h126a (fun Mm126 e126 h126 => ?_)
          refine mv_aload_n (pc := 127) (i := 0) de_PM_act_127 rfl 0 rfl ?_
          refine mv_getR (pc := 128) (f := 6) (kc_1 l D E B sa) (Nat.le_of_ble_eq_true rfl) wt_4_86 de_PM_act_128 h126 (fun x128 e128 h128 => ?_)
          refine mv_aload_n (pc := 131) (i := 0) de_PM_act_131 rfl 0 rfl ?_
          refine mv_getI (pc := 132) (f := 2) (kc_1 l D E B sa) (Nat.le_of_ble_eq_true rfl) wt_4_82 de_PM_act_132 h128 (fun x132 e132 h132 => ?_)
          refine mv_aload_n (pc := 135) (i := 0) de_PM_act_135 rfl 0 rfl ?_
          refine mv_getI (pc := 136) (f := 11) (kc_1 l D E B sa) (Nat.le_of_ble_eq_true rfl) wt_4_91 de_PM_act_136 h132 (fun x136 e136 h136 => ?_)
          obtain ⟨a139, ha, h139a⟩ := mj_bindE h136
          subst ha
          refine mv_iast (pc := 139) (t := 0) rfl de_PM_act_139 h139a (fun Mm139 e139 h139 => ?_)
          refine mv_iconst (pc := 140) (v := 0) de_PM_act_140 (by decide) ?_
          refine mv_istore (pc := 141) (lv' := [(5, .int 0), (0, va_rf (some v0)), (1, .int v1), (2, .int v2), (3, .int v3), (4, .int v4)]) de_PM_act_141 (Nat.le_of_ble_eq_true rfl) rfl ?_
          exact mv_sub [1, 0] rfl (tb_PM_act_143 l D E B sa M0 M1 r N N Mm139 v0 0 h139)
        · exact mv_sub [] rfl (tb_PM_act_94 l D E B sa M0 M1 r N M h91)
    · refine mv_iload (pc := 60) de_PM_act_60 4 rfl ?_
      refine mv_aload_n (pc := 62) (i := 0) de_PM_act_62 rfl 0 rfl ?_
      refine mv_getR (pc := 63) (f := 12) (kc_1 l D E B sa) (Nat.le_of_ble_eq_true rfl) wt_4_92 de_PM_act_63 h57 (fun x63 e63 h63 => ?_)
      refine mv_iload (pc := 66) de_PM_act_66 5 rfl ?_
      obtain ⟨a68, ha, h68a⟩ := mj_bindE h63
      subst ha
      refine mv_iald (pc := 68) (t := 0) rfl de_PM_act_68 h68a (fun x68 e68 h68 => ?_)
      refine mv_imul (pc := 69) de_PM_act_69 ?_
      refine mv_istore (pc := 70) (lv' := [(4, .int (v4 * x68)), (0, va_rf (some v0)), (1, .int v1), (2, .int v2), (3, .int v3), (5, .int v5)]) de_PM_act_70 (Nat.le_of_ble_eq_true rfl) rfl ?_
      refine mv_iinc (pc := 72) (v := (v5 + 1)) (lv' := [(5, .int (v5 + 1)), (4, .int (v4 * x68)), (0, va_rf (some v0)), (1, .int v1), (2, .int v2), (3, .int v3)]) de_PM_act_72 5 rfl rfl (Nat.le_of_ble_eq_true rfl) rfl ?_
      refine mv_goto (pc := 75) (tgt := 51) de_PM_act_75 (by decide) ?_
      exact mv_sub [2, 3, 4, 5, 1, 0] rfl (ih M v0 v1 v2 v3 (v4 * x68) (v5 + 1) h68)
set_option maxHeartbeats 4000000 in
set_option maxRecDepth 100000 in
theorem tb_PM_act_33 (l : Launch) (D : va_G) (E : Nat → ClassId) (B : Nat) (sa : (Nat → Nat) × Nat × (Nat → Int32)) (M0 M1 : mv_M) (r : Int32) (N : Nat) (M : mv_M) (v0 : Nat) (v1 : Int32) (v2 : Int32) (v3 : Int32) (hJ : jb_PM_act_33 N M v0 v1 v2 v3 = some (r, M1)) : mv_G (xg l D E B sa) kd_PM_act M0 M1 (some (.int r)) M 33 [(0, va_rf (some v0)), (1, .int v1), (2, .int v2), (3, .int v3)] [] := by
  unfold jb_PM_act_33 at hJ
  refine mv_aload_n (pc := 33) (i := 0) de_PM_act_33 rfl 0 rfl ?_
  refine mv_iload_n (pc := 34) (i := 1) de_PM_act_34 rfl 1 rfl ?_
  refine mv_iload_n (pc := 35) (i := 2) de_PM_act_35 rfl 2 rfl ?_
  refine mv_iload_n (pc := 36) (i := 3) de_PM_act_36 rfl 3 rfl ?_
  obtain ⟨hi37, h37o⟩ := mj_obE hJ
  obtain ⟨r37, Mm37, hz37, h37⟩ := mj_callE h37o
  refine mv_callV (pc := 37) (n := 3) (av := [.int v1, .int v2, .int v3]) (rest := []) de_PM_act_37 (kc_1 l D E B sa) hi37 (cm_PM_fits l D E B sa N M v0 v1 v2 v3 _ _ hz37) wt_4_228 wt_4_230 wp_30 wt_1_8 wt_4_231 ⟨by decide, by decide, by decide +kernel⟩ rfl ⟨Nat.le_of_ble_eq_true rfl, Nat.le_of_ble_eq_true rfl⟩ (Nat.le_of_ble_eq_true rfl) rfl ?_
  refine mv_if_ne (pc := 40) (tgt := 45) de_PM_act_40 (by decide) h37 (fun hc40 h40 => ?_) (fun hc40 h40 => ?_)
  · exact mv_sub [] rfl (tb_PM_act_43 l D E B sa M0 M1 r N Mm37 h40)
  · refine mv_iconst (pc := 45) (v := 1) de_PM_act_45 (by decide) ?_
    refine mv_istore (pc := 46) (lv' := [(4, .int 1), (0, va_rf (some v0)), (1, .int v1), (2, .int v2), (3, .int v3)]) de_PM_act_46 (Nat.le_of_ble_eq_true rfl) rfl ?_
    refine mv_iconst (pc := 48) (v := 0) de_PM_act_48 (by decide) ?_
    refine mv_istore (pc := 49) (lv' := [(5, .int 0), (4, .int 1), (0, va_rf (some v0)), (1, .int v1), (2, .int v2), (3, .int v3)]) de_PM_act_49 (Nat.le_of_ble_eq_true rfl) rfl ?_
    exact mv_sub [2, 3, 4, 5, 1, 0] rfl (tb_PM_act_51 l D E B sa M0 M1 r N N Mm37 v0 v1 v2 v3 1 0 h40)
set_option maxHeartbeats 4000000 in
set_option maxRecDepth 100000 in
theorem tb_PM_act_0 (l : Launch) (D : va_G) (E : Nat → ClassId) (B : Nat) (sa : (Nat → Nat) × Nat × (Nat → Int32)) (M0 M1 : mv_M) (r : Int32) (N : Nat) (M : mv_M) (v0 : Nat) (v1 : Int32) (v2 : Int32) (v3 : Int32) (hJ : jb_PM_act_0 N M v0 v1 v2 v3 = some (r, M1)) : mv_G (xg l D E B sa) kd_PM_act M0 M1 (some (.int r)) M 0 [(0, va_rf (some v0)), (1, .int v1), (2, .int v2), (3, .int v3)] [] := by
  unfold jb_PM_act_0 at hJ
  refine mv_iload_n (pc := 0) (i := 1) de_PM_act_0 rfl 1 rfl ?_
  refine mv_i2l (pc := 1) de_PM_act_1 ?_
  refine mv_lconst (pc := 2) (v := 0) de_PM_act_2 (by decide) ?_
  refine mv_ldc2 (pc := 3) de_PM_act_3 wt_4_227 ?_
  obtain ⟨r6, Mm6, hz6, h6⟩ := mj_callE hJ
  refine mv_callS (pc := 6) (n := 3) (av := [.long v1.toInt64, .long 0, .long 15]) (rest := []) de_PM_act_6 (cm_PM_isIn l D E B sa N M v1.toInt64 0 15 _ _ hz6) wt_4_197 wt_4_198 wt_1_8 wt_4_199 ⟨by decide, by decide, by decide +kernel⟩ rfl ⟨Nat.le_of_ble_eq_true rfl, Nat.le_of_ble_eq_true rfl⟩ (Nat.le_of_ble_eq_true rfl) rfl ?_
  refine mv_if_eq (pc := 9) (tgt := 43) de_PM_act_9 (by decide) h6 (fun hc9 h9 => ?_) (fun hc9 h9 => ?_)
  · exact mv_sub [] rfl (tb_PM_act_43 l D E B sa M0 M1 r N Mm6 h9)
  · refine mv_aload_n (pc := 12) (i := 0) de_PM_act_12 rfl 0 rfl ?_
    refine mv_iload_n (pc := 13) (i := 2) de_PM_act_13 rfl 2 rfl ?_
    obtain ⟨hi14, h14o⟩ := mj_obE h9
    obtain ⟨r14, Mm14, hz14, h14⟩ := mj_callE h14o
    refine mv_callV (pc := 14) (n := 1) (av := [.int v2]) (rest := []) de_PM_act_14 (kc_1 l D E B sa) hi14 (cm_PM_isNode l D E B sa N Mm6 v0 v2 _ _ hz14) wt_4_209 wt_4_211 wp_27 wt_1_8 wt_4_212 ⟨by decide, by decide, by decide +kernel⟩ rfl ⟨Nat.le_of_ble_eq_true rfl, Nat.le_of_ble_eq_true rfl⟩ (Nat.le_of_ble_eq_true rfl) rfl ?_
    refine mv_if_eq (pc := 17) (tgt := 43) de_PM_act_17 (by decide) h14 (fun hc17 h17 => ?_) (fun hc17 h17 => ?_)
    · exact mv_sub [] rfl (tb_PM_act_43 l D E B sa M0 M1 r N Mm14 h17)
    · refine mv_iload_n (pc := 20) (i := 1) de_PM_act_20 rfl 1 rfl ?_
      refine mv_iconst (pc := 21) (v := 5) de_PM_act_21 (by decide) ?_
      refine mv_icmp_ge (pc := 22) (tgt := 33) de_PM_act_22 (by decide) h17 (fun hc22 h22 => ?_) (fun hc22 h22 => ?_)
      · exact mv_sub [0, 1, 2, 3] rfl (tb_PM_act_33 l D E B sa M0 M1 r N Mm14 v0 v1 v2 v3 h22)
      · refine mv_aload_n (pc := 25) (i := 0) de_PM_act_25 rfl 0 rfl ?_
        refine mv_iload_n (pc := 26) (i := 3) de_PM_act_26 rfl 3 rfl ?_
        obtain ⟨hi27, h27o⟩ := mj_obE h22
        obtain ⟨r27, Mm27, hz27, h27⟩ := mj_callE h27o
        refine mv_callV (pc := 27) (n := 1) (av := [.int v3]) (rest := []) de_PM_act_27 (kc_1 l D E B sa) hi27 (cm_PM_isNode l D E B sa N Mm14 v0 v3 _ _ hz27) wt_4_209 wt_4_211 wp_27 wt_1_8 wt_4_212 ⟨by decide, by decide, by decide +kernel⟩ rfl ⟨Nat.le_of_ble_eq_true rfl, Nat.le_of_ble_eq_true rfl⟩ (Nat.le_of_ble_eq_true rfl) rfl ?_
        refine mv_if_eq (pc := 30) (tgt := 43) de_PM_act_30 (by decide) h27 (fun hc30 h30 => ?_) (fun hc30 h30 => ?_)
        · exact mv_sub [] rfl (tb_PM_act_43 l D E B sa M0 M1 r N Mm27 h30)
        · exact mv_sub [0, 1, 2, 3] rfl (tb_PM_act_33 l D E B sa M0 M1 r N Mm27 v0 v1 v2 v3 h30)
theorem cm_PM_act (l : Launch) (D : va_G) (E : Nat → ClassId) (B : Nat) (sa : (Nat → Nat) × Nat × (Nat → Int32)) (N : Nat) (M : mv_M) (v0 : Nat) (v1 : Int32) (v2 : Int32) (v3 : Int32) (r : Int32) (M1 : mv_M) (hJ : jf_PM_act N M v0 v1 v2 v3 = some (r, M1)) : mv_Met (xg l D E B sa) yn_PM_act cd_PM_act 6 (some .int) 2 51 [va_rf (some v0), .int v1, .int v2, .int v3] M (some (.int r)) M1 :=
  mv_enter (by decide) (Nat.le_of_ble_eq_true rfl) (mv_sub (lv := [(0, va_rf (some v0)), (1, .int v1), (2, .int v2), (3, .int v3)]) [0, 1, 2, 3] rfl (tb_PM_act_0 l D E B sa M M1 r N M v0 v1 v2 v3 hJ))
