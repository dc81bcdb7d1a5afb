/-! ===== PlainLearnerModel.along(II)V ===== -/
abbrev kd_PM_along : mv_Kd := (cd_PM_along, 11, "PlainLearnerModel", "along", none, 2, 58)
theorem de_PM_along_0 : decode cd_PM_along 0 = .ok (.aload_n 0, 1) := by decide +kernel
theorem de_PM_along_1 : decode cd_PM_along 1 = .ok (.getfield 13, 3) := by decide +kernel
theorem de_PM_along_4 : decode cd_PM_along 4 = .ok (.iload_n 1, 1) := by decide +kernel
theorem de_PM_along_5 : decode cd_PM_along 5 = .ok (.iaload, 1) := by decide +kernel
theorem de_PM_along_6 : decode cd_PM_along 6 = .ok (.istore_n 3, 1) := by decide +kernel
theorem de_PM_along_7 : decode cd_PM_along 7 = .ok (.aload_n 0, 1) := by decide +kernel
theorem de_PM_along_8 : decode cd_PM_along 8 = .ok (.iload_n 3, 1) := by decide +kernel
theorem de_PM_along_9 : decode cd_PM_along 9 = .ok (.aload_n 0, 1) := by decide +kernel
theorem de_PM_along_10 : decode cd_PM_along 10 = .ok (.getfield 16, 3) := by decide +kernel
theorem de_PM_along_13 : decode cd_PM_along 13 = .ok (.iload_n 1, 1) := by decide +kernel
theorem de_PM_along_14 : decode cd_PM_along 14 = .ok (.iaload, 1) := by decide +kernel
theorem de_PM_along_15 : decode cd_PM_along 15 = .ok (.invokevirtual 125, 3) := by decide +kernel
theorem de_PM_along_18 : decode cd_PM_along 18 = .ok (.istore 4, 2) := by decide +kernel
theorem de_PM_along_20 : decode cd_PM_along 20 = .ok (.aload_n 0, 1) := by decide +kernel
theorem de_PM_along_21 : decode cd_PM_along 21 = .ok (.getfield 7, 3) := by decide +kernel
theorem de_PM_along_24 : decode cd_PM_along 24 = .ok (.iload_n 1, 1) := by decide +kernel
theorem de_PM_along_25 : decode cd_PM_along 25 = .ok (.iaload, 1) := by decide +kernel
theorem de_PM_along_26 : decode cd_PM_along 26 = .ok (.bipush 7, 2) := by decide +kernel
theorem de_PM_along_28 : decode cd_PM_along 28 = .ok (.if_icmp .ne 49, 3) := by decide +kernel
theorem de_PM_along_31 : decode cd_PM_along 31 = .ok (.aload_n 0, 1) := by decide +kernel
theorem de_PM_along_32 : decode cd_PM_along 32 = .ok (.iload_n 1, 1) := by decide +kernel
theorem de_PM_along_33 : decode cd_PM_along 33 = .ok (.iload_n 2, 1) := by decide +kernel
theorem de_PM_along_34 : decode cd_PM_along 34 = .ok (.invokevirtual 172, 3) := by decide +kernel
theorem de_PM_along_37 : decode cd_PM_along 37 = .ok (.istore 5, 2) := by decide +kernel
theorem de_PM_along_39 : decode cd_PM_along 39 = .ok (.iload 5, 2) := by decide +kernel
theorem de_PM_along_41 : decode cd_PM_along 41 = .ok (.ifCond .ge 12, 3) := by decide +kernel
theorem de_PM_along_44 : decode cd_PM_along 44 = .ok (.aload_n 0, 1) := by decide +kernel
theorem de_PM_along_45 : decode cd_PM_along 45 = .ok (.lconst 0, 1) := by decide +kernel
theorem de_PM_along_46 : decode cd_PM_along 46 = .ok (.lconst 0, 1) := by decide +kernel
theorem de_PM_along_47 : decode cd_PM_along 47 = .ok (.invokevirtual 91, 3) := by decide +kernel
theorem de_PM_along_50 : decode cd_PM_along 50 = .ok (.goto 26, 3) := by decide +kernel
theorem de_PM_along_53 : decode cd_PM_along 53 = .ok (.aload_n 0, 1) := by decide +kernel
theorem de_PM_along_54 : decode cd_PM_along 54 = .ok (.bipush 64, 2) := by decide +kernel
theorem de_PM_along_56 : decode cd_PM_along 56 = .ok (.iload_n 3, 1) := by decide +kernel
theorem de_PM_along_57 : decode cd_PM_along 57 = .ok (.imul, 1) := by decide +kernel
theorem de_PM_along_58 : decode cd_PM_along 58 = .ok (.aload_n 0, 1) := by decide +kernel
theorem de_PM_along_59 : decode cd_PM_along 59 = .ok (.iload_n 3, 1) := by decide +kernel
theorem de_PM_along_60 : decode cd_PM_along 60 = .ok (.aload_n 0, 1) := by decide +kernel
theorem de_PM_along_61 : decode cd_PM_along 61 = .ok (.getfield 16, 3) := by decide +kernel
theorem de_PM_along_64 : decode cd_PM_along 64 = .ok (.iload_n 1, 1) := by decide +kernel
theorem de_PM_along_65 : decode cd_PM_along 65 = .ok (.iaload, 1) := by decide +kernel
theorem de_PM_along_66 : decode cd_PM_along 66 = .ok (.iload_n 2, 1) := by decide +kernel
theorem de_PM_along_67 : decode cd_PM_along 67 = .ok (.iload 5, 2) := by decide +kernel
theorem de_PM_along_69 : decode cd_PM_along 69 = .ok (.invokevirtual 175, 3) := by decide +kernel
theorem de_PM_along_72 : decode cd_PM_along 72 = .ok (.iadd, 1) := by decide +kernel
theorem de_PM_along_73 : decode cd_PM_along 73 = .ok (.invokevirtual 165, 3) := by decide +kernel
theorem de_PM_along_76 : decode cd_PM_along 76 = .ok (.return_, 1) := by decide +kernel
theorem de_PM_along_77 : decode cd_PM_along 77 = .ok (.lconst 0, 1) := by decide +kernel
theorem de_PM_along_78 : decode cd_PM_along 78 = .ok (.lstore 5, 2) := by decide +kernel
theorem de_PM_along_80 : decode cd_PM_along 80 = .ok (.lconst 1, 1) := by decide +kernel
theorem de_PM_along_81 : decode cd_PM_along 81 = .ok (.lstore 7, 2) := by decide +kernel
theorem de_PM_along_83 : decode cd_PM_along 83 = .ok (.iconst 0, 1) := by decide +kernel
theorem de_PM_along_84 : decode cd_PM_along 84 = .ok (.istore 9, 2) := by decide +kernel
theorem de_PM_along_86 : decode cd_PM_along 86 = .ok (.iload 9, 2) := by decide +kernel
theorem de_PM_along_88 : decode cd_PM_along 88 = .ok (.iload 4, 2) := by decide +kernel
theorem de_PM_along_90 : decode cd_PM_along 90 = .ok (.if_icmp .ge 64, 3) := by decide +kernel
theorem de_PM_along_93 : decode cd_PM_along 93 = .ok (.bipush 64, 2) := by decide +kernel
theorem de_PM_along_95 : decode cd_PM_along 95 = .ok (.iload_n 3, 1) := by decide +kernel
theorem de_PM_along_96 : decode cd_PM_along 96 = .ok (.imul, 1) := by decide +kernel
theorem de_PM_along_97 : decode cd_PM_along 97 = .ok (.aload_n 0, 1) := by decide +kernel
theorem de_PM_along_98 : decode cd_PM_along 98 = .ok (.iload_n 3, 1) := by decide +kernel
theorem de_PM_along_99 : decode cd_PM_along 99 = .ok (.aload_n 0, 1) := by decide +kernel
theorem de_PM_along_100 : decode cd_PM_along 100 = .ok (.getfield 16, 3) := by decide +kernel
theorem de_PM_along_103 : decode cd_PM_along 103 = .ok (.iload_n 1, 1) := by decide +kernel
theorem de_PM_along_104 : decode cd_PM_along 104 = .ok (.iaload, 1) := by decide +kernel
theorem de_PM_along_105 : decode cd_PM_along 105 = .ok (.iload_n 2, 1) := by decide +kernel
theorem de_PM_along_106 : decode cd_PM_along 106 = .ok (.iload 9, 2) := by decide +kernel
theorem de_PM_along_108 : decode cd_PM_along 108 = .ok (.invokevirtual 175, 3) := by decide +kernel
theorem de_PM_along_111 : decode cd_PM_along 111 = .ok (.iadd, 1) := by decide +kernel
theorem de_PM_along_112 : decode cd_PM_along 112 = .ok (.istore 10, 2) := by decide +kernel
theorem de_PM_along_114 : decode cd_PM_along 114 = .ok (.aload_n 0, 1) := by decide +kernel
theorem de_PM_along_115 : decode cd_PM_along 115 = .ok (.lload 5, 2) := by decide +kernel
theorem de_PM_along_117 : decode cd_PM_along 117 = .ok (.lload 7, 2) := by decide +kernel
theorem de_PM_along_119 : decode cd_PM_along 119 = .ok (.aload_n 0, 1) := by decide +kernel
theorem de_PM_along_120 : decode cd_PM_along 120 = .ok (.getfield 29, 3) := by decide +kernel
theorem de_PM_along_123 : decode cd_PM_along 123 = .ok (.iload 10, 2) := by decide +kernel
theorem de_PM_along_125 : decode cd_PM_along 125 = .ok (.laload, 1) := by decide +kernel
theorem de_PM_along_126 : decode cd_PM_along 126 = .ok (.aload_n 0, 1) := by decide +kernel
theorem de_PM_along_127 : decode cd_PM_along 127 = .ok (.getfield 33, 3) := by decide +kernel
theorem de_PM_along_130 : decode cd_PM_along 130 = .ok (.iload 10, 2) := by decide +kernel
theorem de_PM_along_132 : decode cd_PM_along 132 = .ok (.laload, 1) := by decide +kernel
theorem de_PM_along_133 : decode cd_PM_along 133 = .ok (.invokevirtual 141, 3) := by decide +kernel
theorem de_PM_along_136 : decode cd_PM_along 136 = .ok (.aload_n 0, 1) := by decide +kernel
theorem de_PM_along_137 : decode cd_PM_along 137 = .ok (.getfield 81, 3) := by decide +kernel
theorem de_PM_along_140 : decode cd_PM_along 140 = .ok (.lstore 5, 2) := by decide +kernel
theorem de_PM_along_142 : decode cd_PM_along 142 = .ok (.aload_n 0, 1) := by decide +kernel
theorem de_PM_along_143 : decode cd_PM_along 143 = .ok (.getfield 84, 3) := by decide +kernel
theorem de_PM_along_146 : decode cd_PM_along 146 = .ok (.lstore 7, 2) := by decide +kernel
theorem de_PM_along_148 : decode cd_PM_along 148 = .ok (.iinc 9 1, 3) := by decide +kernel
theorem de_PM_along_151 : decode cd_PM_along 151 = .ok (.goto (-65), 3) := by decide +kernel
theorem de_PM_along_154 : decode cd_PM_along 154 = .ok (.aload_n 0, 1) := by decide +kernel
theorem de_PM_along_155 : decode cd_PM_along 155 = .ok (.getfield 7, 3) := by decide +kernel
theorem de_PM_along_158 : decode cd_PM_along 158 = .ok (.iload_n 1, 1) := by decide +kernel
theorem de_PM_along_159 : decode cd_PM_along 159 = .ok (.iaload, 1) := by decide +kernel
theorem de_PM_along_160 : decode cd_PM_along 160 = .ok (.bipush 6, 2) := by decide +kernel
theorem de_PM_along_162 : decode cd_PM_along 162 = .ok (.if_icmp .ne 15, 3) := by decide +kernel
theorem de_PM_along_165 : decode cd_PM_along 165 = .ok (.aload_n 0, 1) := by decide +kernel
theorem de_PM_along_166 : decode cd_PM_along 166 = .ok (.lload 5, 2) := by decide +kernel
theorem de_PM_along_168 : decode cd_PM_along 168 = .ok (.lload 7, 2) := by decide +kernel
theorem de_PM_along_170 : decode cd_PM_along 170 = .ok (.iload 4, 2) := by decide +kernel
theorem de_PM_along_172 : decode cd_PM_along 172 = .ok (.i2l, 1) := by decide +kernel
theorem de_PM_along_173 : decode cd_PM_along 173 = .ok (.lconst 1, 1) := by decide +kernel
theorem de_PM_along_174 : decode cd_PM_along 174 = .ok (.invokevirtual 148, 3) := by decide +kernel
theorem de_PM_along_177 : decode cd_PM_along 177 = .ok (.return_, 1) := by decide +kernel
def jb_PM_along_177 (N : Nat) (M : mv_M) : Option (Unit × mv_M) :=
  some ((), M)
def jb_PM_along_86 (N : Nat) : Nat → mv_M → Nat → Int32 → Int32 → Int32 → Int32 → Int64 → Int64 → Int32 → Option (Unit × mv_M)
  | 0, _, _, _, _, _, _, _, _, _ => none
  | n + 1, M, v0, v1, v2, v3, v4, v5, v7, v9 =>
    if v4 ≤ v9 then (Option.bind (mj_getR M v0 1 3) fun x155 =>
    Option.bind x155 fun a159 =>
    Option.bind (mj_ild M a159 0 v1) fun x159 =>
    if x159 = 6 then (mj_ob M v0 1 <|
    mj_call (jf_PM_over N M v0 v5 v7 v4.toInt64 1) fun r174 Mm174 =>
    jb_PM_along_177 N Mm174) else
    jb_PM_along_177 N M) else
    Option.bind (mj_getR M v0 1 5) fun x100 =>
    Option.bind x100 fun a104 =>
    Option.bind (mj_ild M a104 0 v1) fun x104 =>
    mj_ob M v0 1 <|
    mj_call (jf_PM_alongCell N M v0 v3 x104 v2 v9) fun r108 Mm108 =>
    Option.bind (mj_getR Mm108 v0 1 9) fun x120 =>
    Option.bind x120 fun a125 =>
    Option.bind (mj_lld Mm108 a125 1 ((64 * v3) + r108)) fun x125 =>
    Option.bind (mj_getR Mm108 v0 1 10) fun x127 =>
    Option.bind x127 fun a132 =>
    Option.bind (mj_lld Mm108 a132 1 ((64 * v3) + r108)) fun x132 =>
    mj_ob Mm108 v0 1 <|
    mj_call (jf_PM_plus N Mm108 v0 v5 v7 x125 x132) fun r133 Mm133 =>
    Option.bind (mj_getL Mm133 v0 1 0) fun x137 =>
    Option.bind (mj_getL Mm133 v0 1 1) fun x143 =>
    jb_PM_along_86 N n Mm133 v0 v1 v2 v3 v4 x137 x143 (v9 + 1)
def jb_PM_along_76 (N : Nat) (M : mv_M) : Option (Unit × mv_M) :=
  some ((), M)
def jb_PM_along_0 (N : Nat) (M : mv_M) (v0 : Nat) (v1 : Int32) (v2 : Int32) : Option (Unit × mv_M) :=
  Option.bind (mj_getR M v0 1 4) fun x1 =>
  Option.bind x1 fun a5 =>
  Option.bind (mj_ild M a5 0 v1) fun x5 =>
  Option.bind (mj_getR M v0 1 5) fun x10 =>
  Option.bind x10 fun a14 =>
  Option.bind (mj_ild M a14 0 v1) fun x14 =>
  mj_ob M v0 1 <|
  mj_call (jf_PM_sideOf N M v0 x5 x14) fun r15 Mm15 =>
  Option.bind (mj_getR Mm15 v0 1 3) fun x21 =>
  Option.bind x21 fun a25 =>
  Option.bind (mj_ild Mm15 a25 0 v1) fun x25 =>
  if x25 = 7 then (mj_ob Mm15 v0 1 <|
  mj_call (jf_PM_greatest N Mm15 v0 v1 v2) fun r34 Mm34 =>
  if 0 ≤ r34 then (Option.bind (mj_getR Mm34 v0 1 5) fun x61 =>
  Option.bind x61 fun a65 =>
  Option.bind (mj_ild Mm34 a65 0 v1) fun x65 =>
  mj_ob Mm34 v0 1 <|
  mj_call (jf_PM_alongCell N Mm34 v0 x5 x65 v2 r34) fun r69 Mm69 =>
  mj_ob Mm69 v0 1 <|
  mj_call (jf_PM_load N Mm69 v0 ((64 * x5) + r69)) fun r73 Mm73 =>
  jb_PM_along_76 N Mm73) else
  mj_ob Mm34 v0 1 <|
  mj_call (jf_PM_least N Mm34 v0 0 0) fun r47 Mm47 =>
  jb_PM_along_76 N Mm47) else
  jb_PM_along_86 N N Mm15 v0 v1 v2 x5 r15 0 1 0
def jf_PM_along (N : Nat) (M : mv_M) (v0 : Nat) (v1 : Int32) (v2 : Int32) : Option (Unit × mv_M) := jb_PM_along_0 N M v0 v1 v2
set_option maxHeartbeats 4000000 in
set_option maxRecDepth 100000 in
theorem tb_PM_along_177 (l : Launch) (D : va_G) (E : Nat → ClassId) (B : Nat) (sa : (Nat → Nat) × Nat × (Nat → Int32)) (M0 M1 : mv_M) (r : Unit) (N : Nat) (M : mv_M) (hJ : jb_PM_along_177 N M = some (r, M1)) : mv_G (xg l D E B sa) kd_PM_along M0 M1 none M 177 [] [] := by
  unfold jb_PM_along_177 at hJ
  exact mv_vret (pc := 177) rfl de_PM_along_177 hJ
set_option maxHeartbeats 4000000 in
set_option maxRecDepth 100000 in
theorem tb_PM_along_86 (l : Launch) (D : va_G) (E : Nat → ClassId) (B : Nat) (sa : (Nat → Nat) × Nat × (Nat → Int32)) (M0 M1 : mv_M) (r : Unit) (N : Nat) : ∀ (n : Nat) (M : mv_M) (v0 : Nat) (v1 : Int32) (v2 : Int32) (v3 : Int32) (v4 : Int32) (v5 : Int64) (v7 : Int64) (v9 : Int32) (hJ : jb_PM_along_86 N n M v0 v1 v2 v3 v4 v5 v7 v9 = some (r, M1)), mv_G (xg l D E B sa) kd_PM_along M0 M1 none M 86 [(0, va_rf (some v0)), (1, .int v1), (2, .int v2), (3, .int v3), (4, .int v4), (5, .long v5), (7, .long v7), (9, .int v9)] [] := by
  intro n
  induction n with
  | zero => intro M v0 v1 v2 v3 v4 v5 v7 v9 hJ; cases hJ
  | succ n ih =>
    intro M v0 v1 v2 v3 v4 v5 v7 v9 hJ
    rw [jb_PM_along_86] at hJ
    refine mv_iload (pc := 86) de_PM_along_86 7 rfl ?_
    refine mv_iload (pc := 88) de_PM_along_88 4 rfl ?_
    refine mv_icmp_ge (pc := 90) (tgt := 154) de_PM_along_90 (by decide) hJ (fun hc90 h90 => ?_) (fun hc90 h90 => ?_)
    · refine mv_aload_n (pc := 154) (i := 0) de_PM_along_154 rfl 0 rfl ?_
      refine mv_getR (pc := 155) (f := 3) (kc_1 l D E B sa) (Nat.le_of_ble_eq_true rfl) wt_4_83 de_PM_along_155 h90 (fun x155 e155 h155 => ?_)
      refine mv_iload_n (pc := 158) (i := 1) de_PM_along_158 rfl 1 rfl ?_
      obtain ⟨a159, ha, h159a⟩ := mj_bindE h155
      subst ha
      refine mv_iald (pc := 159) (t := 0) rfl de_PM_along_159 h159a (fun x159 e159 h159 => ?_)
      refine mv_bipush (pc := 160) (v := 6) de_PM_along_160 (by decide) ?_
      refine mv_icmp_ne (pc := 162) (tgt := 177) de_PM_along_162 (by decide) h159 (fun hc162 h162 => ?_) (fun hc162 h162 => ?_)
      · refine mv_aload_n (pc := 165) (i := 0) de_PM_along_165 rfl 0 rfl ?_
        refine mv_lload (pc := 166) de_PM_along_166 5 rfl ?_
        refine mv_lload (pc := 168) de_PM_along_168 6 rfl ?_
        refine mv_iload (pc := 170) de_PM_along_170 4 rfl ?_
        refine mv_i2l (pc := 172) de_PM_along_172 ?_
        refine mv_lconst (pc := 173) (v := 1) de_PM_along_173 (by decide) ?_
        obtain ⟨hi174, h174o⟩ := mj_obE h162
        obtain ⟨r174, Mm174, hz174, h174⟩ := mj_callE h174o
        refine mv_callV (pc := 174) (n := 4) (av := [.long v5, .long v7, .long v4.toInt64, .long 1]) (rest := []) de_PM_along_174 (kc_1 l D E B sa) hi174 (cm_PM_over l D E B sa N M v0 v5 v7 v4.toInt64 1 _ _ hz174) wt_5_34 wt_5_36 wp_39 wt_1_8 wt_5_37 ⟨by decide, by decide, by decide +kernel⟩ rfl ⟨Nat.le_of_ble_eq_true rfl, Nat.le_of_ble_eq_true rfl⟩ (Nat.le_of_ble_eq_true rfl) rfl ?_
        exact mv_sub [] rfl (tb_PM_along_177 l D E B sa M0 M1 r N Mm174 h174)
      · exact mv_sub [] rfl (tb_PM_along_177 l D E B sa M0 M1 r N M h162)
    · refine mv_bipush (pc := 93) (v := 64) de_PM_along_93 (by decide) ?_
      refine mv_iload_n (pc := 95) (i := 3) de_PM_along_95 rfl 3 rfl ?_
      refine mv_imul (pc := 96) de_PM_along_96 ?_
      refine mv_aload_n (pc := 97) (i := 0) de_PM_along_97 rfl 0 rfl ?_
      refine mv_iload_n (pc := 98) (i := 3) de_PM_along_98 rfl 3 rfl ?_
      refine mv_aload_n (pc := 99) (i := 0) de_PM_along_99 rfl 0 rfl ?_
      refine mv_getR (pc := 100) (f := 5) (kc_1 l D E B sa) (Nat.le_of_ble_eq_true rfl) wt_4_85 de_PM_along_100 h90 (fun x100 e100 h100 => ?_)
      refine mv_iload_n (pc := 103) (i := 1) de_PM_along_103 rfl 1 rfl ?_
      obtain ⟨a104, ha, h104a⟩ := mj_bindE h100
      subst ha
      refine mv_iald (pc := 104) (t := 0) rfl de_PM_along_104 h104a (fun x104 e104 h104 => ?_)
      refine mv_iload_n (pc := 105) (i := 2) de_PM_along_105 rfl 2 rfl ?_
      refine mv_iload (pc := 106) de_PM_along_106 7 rfl ?_
      obtain ⟨hi108, h108o⟩ := mj_obE h104
      obtain ⟨r108, Mm108, hz108, h108⟩ := mj_callE h108o
      refine mv_callV (pc := 108) (n := 4) (av := [.int v3, .int x104, .int v2, .int v9]) (rest := [.int (64 * v3)]) de_PM_along_108 (kc_1 l D E B sa) hi108 (cm_PM_alongCell l D E B sa N M v0 v3 x104 v2 v9 _ _ hz108) wt_5_50 wt_5_52 wp_43 wt_1_8 wt_5_53 ⟨by decide, by decide, by decide +kernel⟩ rfl ⟨Nat.le_of_ble_eq_true rfl, Nat.le_of_ble_eq_true rfl⟩ (Nat.le_of_ble_eq_true rfl) rfl ?_
      refine mv_iadd (pc := 111) de_PM_along_111 ?_
      refine mv_istore (pc := 112) (lv' := [(10, .int ((64 * v3) + r108)), (0, va_rf (some v0)), (1, .int v1), (2, .int v2), (3, .int v3), (4, .int v4), (5, .long v5), (7, .long v7), (9, .int v9)]) de_PM_along_112 (Nat.le_of_ble_eq_true rfl) rfl ?_
      refine mv_aload_n (pc := 114) (i := 0) de_PM_along_114 rfl 1 rfl ?_
      refine mv_lload (pc := 115) de_PM_along_115 6 rfl ?_
      refine mv_lload (pc := 117) de_PM_along_117 7 rfl ?_
      refine mv_aload_n (pc := 119) (i := 0) de_PM_along_119 rfl 1 rfl ?_
      refine mv_getR (pc := 120) (f := 9) (kc_1 l D E B sa) (Nat.le_of_ble_eq_true rfl) wt_4_89 de_PM_along_120 h108 (fun x120 e120 h120 => ?_)
      refine mv_iload (pc := 123) de_PM_along_123 0 rfl ?_
      obtain ⟨a125, ha, h125a⟩ := mj_bindE h120
      subst ha
      refine mv_lald (pc := 125) (t := 1) rfl de_PM_along_125 h125a (fun x125 e125 h125 => ?_)
      refine mv_aload_n (pc := 126) (i := 0) de_PM_along_126 rfl 1 rfl ?_
      refine mv_getR (pc := 127) (f := 10) (kc_1 l D E B sa) (Nat.le_of_ble_eq_true rfl) wt_4_90 de_PM_along_127 h125 (fun x127 e127 h127 => ?_)
      refine mv_iload (pc := 130) de_PM_along_130 0 rfl ?_
      obtain ⟨a132, ha, h132a⟩ := mj_bindE h127
      subst ha
      refine mv_lald (pc := 132) (t := 1) rfl de_PM_along_132 h132a (fun x132 e132 h132 => ?_)
      obtain ⟨hi133, h133o⟩ := mj_obE h132
      obtain ⟨r133, Mm133, hz133, h133⟩ := mj_callE h133o
      refine mv_callV (pc := 133) (n := 4) (av := [.long v5, .long v7, .long x125, .long x132]) (rest := []) de_PM_along_133 (kc_1 l D E B sa) hi133 (cm_PM_plus l D E B sa N Mm108 v0 v5 v7 x125 x132 _ _ hz133) wt_5_26 wt_5_28 wp_37 wt_1_8 wt_5_29 ⟨by decide, by decide, by decide +kernel⟩ rfl ⟨Nat.le_of_ble_eq_true rfl, Nat.le_of_ble_eq_true rfl⟩ (Nat.le_of_ble_eq_true rfl) rfl ?_
      refine mv_aload_n (pc := 136) (i := 0) de_PM_along_136 rfl 1 rfl ?_
      refine mv_getL (pc := 137) (f := 0) (kc_1 l D E B sa) (Nat.le_of_ble_eq_true rfl) wt_4_80 de_PM_along_137 h133 (fun x137 e137 h137 => ?_)
      refine mv_lstore (pc := 140) (lv' := [(5, .long x137), (10, .int ((64 * v3) + r108)), (0, va_rf (some v0)), (1, .int v1), (2, .int v2), (3, .int v3), (4, .int v4), (7, .long v7), (9, .int v9)]) de_PM_along_140 (Nat.le_of_ble_eq_true rfl) rfl ?_
      refine mv_aload_n (pc := 142) (i := 0) de_PM_along_142 rfl 2 rfl ?_
      refine mv_getL (pc := 143) (f := 1) (kc_1 l D E B sa) (Nat.le_of_ble_eq_true rfl) wt_4_81 de_PM_along_143 h137 (fun x143 e143 h143 => ?_)
      refine mv_lstore (pc := 146) (lv' := [(7, .long x143), (5, .long x137), (10, .int ((64 * v3) + r108)), (0, va_rf (some v0)), (1, .int v1), (2, .int v2), (3, .int v3), (4, .int v4), (9, .int v9)]) de_PM_along_146 (Nat.le_of_ble_eq_true rfl) rfl ?_
      refine mv_iinc (pc := 148) (v := (v9 + 1)) (lv' := [(9, .int (v9 + 1)), (7, .long x143), (5, .long x137), (10, .int ((64 * v3) + r108)), (0, va_rf (some v0)), (1, .int v1), (2, .int v2), (3, .int v3), (4, .int v4)]) de_PM_along_148 8 rfl rfl (Nat.le_of_ble_eq_true rfl) rfl ?_
      refine mv_goto (pc := 151) (tgt := 86) de_PM_along_151 (by decide) ?_
      exact mv_sub [4, 5, 6, 7, 8, 2, 1, 0] rfl (ih Mm133 v0 v1 v2 v3 v4 x137 x143 (v9 + 1) h143)
set_option maxHeartbeats 4000000 in
set_option maxRecDepth 100000 in
theorem tb_PM_along_76 (l : Launch) (D : va_G) (E : Nat → ClassId) (B : Nat) (sa : (Nat → Nat) × Nat × (Nat → Int32)) (M0 M1 : mv_M) (r : Unit) (N : Nat) (M : mv_M) (hJ : jb_PM_along_76 N M = some (r, M1)) : mv_G (xg l D E B sa) kd_PM_along M0 M1 none M 76 [] [] := by
  unfold jb_PM_along_76 at hJ
  exact mv_vret (pc := 76) rfl de_PM_along_76 hJ
set_option maxHeartbeats 4000000 in
set_option maxRecDepth 100000 in
theorem tb_PM_along_0 (l : Launch) (D : va_G) (E : Nat → ClassId) (B : Nat) (sa : (Nat → Nat) × Nat × (Nat → Int32)) (M0 M1 : mv_M) (r : Unit) (N : Nat) (M : mv_M) (v0 : Nat) (v1 : Int32) (v2 : Int32) (hJ : jb_PM_along_0 N M v0 v1 v2 = some (r, M1)) : mv_G (xg l D E B sa) kd_PM_along M0 M1 none M 0 [(0, va_rf (some v0)), (1, .int v1), (2, .int v2)] [] := by
  unfold jb_PM_along_0 at hJ
  refine mv_aload_n (pc := 0) (i := 0) de_PM_along_0 rfl 0 rfl ?_
  refine mv_getR (pc := 1) (f := 4) (kc_1 l D E B sa) (Nat.le_of_ble_eq_true rfl) wt_4_84 de_PM_along_1 hJ (fun x1 e1 h1 => ?_)
  refine mv_iload_n (pc := 4) (i := 1) de_PM_along_4 rfl 1 rfl ?_
  obtain ⟨a5, ha, h5a⟩ := mj_bindE h1
  subst ha
  refine mv_iald (pc := 5) (t := 0) rfl de_PM_along_5 h5a (fun x5 e5 h5 => ?_)
  refine mv_istore_n (pc := 6) (i := 3) (lv' := [(3, .int x5), (0, va_rf (some v0)), (1, .int v1), (2, .int v2)]) de_PM_along_6 rfl (Nat.le_of_ble_eq_true rfl) rfl ?_
  refine mv_aload_n (pc := 7) (i := 0) de_PM_along_7 rfl 1 rfl ?_
  refine mv_iload_n (pc := 8) (i := 3) de_PM_along_8 rfl 0 rfl ?_
  refine mv_aload_n (pc := 9) (i := 0) de_PM_along_9 rfl 1 rfl ?_
  refine mv_getR (pc := 10) (f := 5) (kc_1 l D E B sa) (Nat.le_of_ble_eq_true rfl) wt_4_85 de_PM_along_10 h5 (fun x10 e10 h10 => ?_)
  refine mv_iload_n (pc := 13) (i := 1) de_PM_along_13 rfl 2 rfl ?_
  obtain ⟨a14, ha, h14a⟩ := mj_bindE h10
  subst ha
  refine mv_iald (pc := 14) (t := 0) rfl de_PM_along_14 h14a (fun x14 e14 h14 => ?_)
  obtain ⟨hi15, h15o⟩ := mj_obE h14
  obtain ⟨r15, Mm15, hz15, h15⟩ := mj_callE h15o
  refine mv_callV (pc := 15) (n := 2) (av := [.int x5, .int x14]) (rest := []) de_PM_along_15 (kc_1 l D E B sa) hi15 (cm_PM_sideOf l D E B sa N M v0 x5 x14 _ _ hz15) wt_4_236 wt_4_238 wp_32 wt_1_8 wt_4_239 ⟨by decide, by decide, by decide +kernel⟩ rfl ⟨Nat.le_of_ble_eq_true rfl, Nat.le_of_ble_eq_true rfl⟩ (Nat.le_of_ble_eq_true rfl) rfl ?_
  refine mv_istore (pc := 18) (lv' := [(4, .int r15), (3, .int x5), (0, va_rf (some v0)), (1, .int v1), (2, .int v2)]) de_PM_along_18 (Nat.le_of_ble_eq_true rfl) rfl ?_
  refine mv_aload_n (pc := 20) (i := 0) de_PM_along_20 rfl 2 rfl ?_
  refine mv_getR (pc := 21) (f := 3) (kc_1 l D E B sa) (Nat.le_of_ble_eq_true rfl) wt_4_83 de_PM_along_21 h15 (fun x21 e21 h21 => ?_)
  refine mv_iload_n (pc := 24) (i := 1) de_PM_along_24 rfl 3 rfl ?_
  obtain ⟨a25, ha, h25a⟩ := mj_bindE h21
  subst ha
  refine mv_iald (pc := 25) (t := 0) rfl de_PM_along_25 h25a (fun x25 e25 h25 => ?_)
  refine mv_bipush (pc := 26) (v := 7) de_PM_along_26 (by decide) ?_
  refine mv_icmp_ne (pc := 28) (tgt := 77) de_PM_along_28 (by decide) h25 (fun hc28 h28 => ?_) (fun hc28 h28 => ?_)
  · refine mv_aload_n (pc := 31) (i := 0) de_PM_along_31 rfl 2 rfl ?_
    refine mv_iload_n (pc := 32) (i := 1) de_PM_along_32 rfl 3 rfl ?_
    refine mv_iload_n (pc := 33) (i := 2) de_PM_along_33 rfl 4 rfl ?_
    obtain ⟨hi34, h34o⟩ := mj_obE h28
    obtain ⟨r34, Mm34, hz34, h34⟩ := mj_callE h34o
    refine mv_callV (pc := 34) (n := 2) (av := [.int v1, .int v2]) (rest := []) de_PM_along_34 (kc_1 l D E B sa) hi34 (cm_PM_greatest l D E B sa N Mm15 v0 v1 v2 _ _ hz34) wt_5_46 wt_5_48 wp_42 wt_1_8 wt_5_49 ⟨by decide, by decide, by decide +kernel⟩ rfl ⟨Nat.le_of_ble_eq_true rfl, Nat.le_of_ble_eq_true rfl⟩ (Nat.le_of_ble_eq_true rfl) rfl ?_
    refine mv_istore (pc := 37) (lv' := [(5, .int r34), (4, .int r15), (3, .int x5), (0, va_rf (some v0)), (1, .int v1), (2, .int v2)]) de_PM_along_37 (Nat.le_of_ble_eq_true rfl) rfl ?_
    refine mv_iload (pc := 39) de_PM_along_39 0 rfl ?_
    refine mv_if_ge (pc := 41) (tgt := 53) de_PM_along_41 (by decide) h34 (fun hc41 h41 => ?_) (fun hc41 h41 => ?_)
    · refine mv_aload_n (pc := 53) (i := 0) de_PM_along_53 rfl 3 rfl ?_
      refine mv_bipush (pc := 54) (v := 64) de_PM_along_54 (by decide) ?_
      refine mv_iload_n (pc := 56) (i := 3) de_PM_along_56 rfl 2 rfl ?_
      refine mv_imul (pc := 57) de_PM_along_57 ?_
      refine mv_aload_n (pc := 58) (i := 0) de_PM_along_58 rfl 3 rfl ?_
      refine mv_iload_n (pc := 59) (i := 3) de_PM_along_59 rfl 2 rfl ?_
      refine mv_aload_n (pc := 60) (i := 0) de_PM_along_60 rfl 3 rfl ?_
      refine mv_getR (pc := 61) (f := 5) (kc_1 l D E B sa) (Nat.le_of_ble_eq_true rfl) wt_4_85 de_PM_along_61 h41 (fun x61 e61 h61 => ?_)
      refine mv_iload_n (pc := 64) (i := 1) de_PM_along_64 rfl 4 rfl ?_
      obtain ⟨a65, ha, h65a⟩ := mj_bindE h61
      subst ha
      refine mv_iald (pc := 65) (t := 0) rfl de_PM_along_65 h65a (fun x65 e65 h65 => ?_)
      refine mv_iload_n (pc := 66) (i := 2) de_PM_along_66 rfl 5 rfl ?_
      refine mv_iload (pc := 67) de_PM_along_67 0 rfl ?_
      obtain ⟨hi69, h69o⟩ := mj_obE h65
      obtain ⟨r69, Mm69, hz69, h69⟩ := mj_callE h69o
      refine mv_callV (pc := 69) (n := 4) (av := [.int x5, .int x65, .int v2, .int r34]) (rest := [.int (64 * x5), va_rf (some v0)]) de_PM_along_69 (kc_1 l D E B sa) hi69 (cm_PM_alongCell l D E B sa N Mm34 v0 x5 x65 v2 r34 _ _ hz69) wt_5_50 wt_5_52 wp_43 wt_1_8 wt_5_53 ⟨by decide, by decide, by decide +kernel⟩ rfl ⟨Nat.le_of_ble_eq_true rfl, Nat.le_of_ble_eq_true rfl⟩ (Nat.le_of_ble_eq_true rfl) rfl ?_
      refine mv_iadd (pc := 72) de_PM_along_72 ?_
      obtain ⟨hi73, h73o⟩ := mj_obE h69
      obtain ⟨r73, Mm73, hz73, h73⟩ := mj_callE h73o
      refine mv_callV (pc := 73) (n := 1) (av := [.int ((64 * x5) + r69)]) (rest := []) de_PM_along_73 (kc_1 l D E B sa) hi73 (cm_PM_load l D E B sa N Mm69 v0 ((64 * x5) + r69) _ _ hz73) wt_5_57 wt_5_59 wp_44 wt_1_8 wt_5_60 ⟨by decide, by decide, by decide +kernel⟩ rfl ⟨Nat.le_of_ble_eq_true rfl, Nat.le_of_ble_eq_true rfl⟩ (Nat.le_of_ble_eq_true rfl) rfl ?_
      exact mv_sub [] rfl (tb_PM_along_76 l D E B sa M0 M1 r N Mm73 h73)
    · refine mv_aload_n (pc := 44) (i := 0) de_PM_along_44 rfl 3 rfl ?_
      refine mv_lconst (pc := 45) (v := 0) de_PM_along_45 (by decide) ?_
      refine mv_lconst (pc := 46) (v := 0) de_PM_along_46 (by decide) ?_
      obtain ⟨hi47, h47o⟩ := mj_obE h41
      obtain ⟨r47, Mm47, hz47, h47⟩ := mj_callE h47o
      refine mv_callV (pc := 47) (n := 2) (av := [.long 0, .long 0]) (rest := []) de_PM_along_47 (kc_1 l D E B sa) hi47 (cm_PM_least l D E B sa N Mm34 v0 0 0 _ _ hz47) wt_4_217 wt_4_219 wp_29 wt_1_8 wt_4_220 ⟨by decide, by decide, by decide +kernel⟩ rfl ⟨Nat.le_of_ble_eq_true rfl, Nat.le_of_ble_eq_true rfl⟩ (Nat.le_of_ble_eq_true rfl) rfl ?_
      refine mv_goto (pc := 50) (tgt := 76) de_PM_along_50 (by decide) ?_
      exact mv_sub [] rfl (tb_PM_along_76 l D E B sa M0 M1 r N Mm47 h47)
  · refine mv_lconst (pc := 77) (v := 0) de_PM_along_77 (by decide) ?_
    refine mv_lstore (pc := 78) (lv' := [(5, .long 0), (4, .int r15), (3, .int x5), (0, va_rf (some v0)), (1, .int v1), (2, .int v2)]) de_PM_along_78 (Nat.le_of_ble_eq_true rfl) rfl ?_
    refine mv_lconst (pc := 80) (v := 1) de_PM_along_80 (by decide) ?_
    refine mv_lstore (pc := 81) (lv' := [(7, .long 1), (5, .long 0), (4, .int r15), (3, .int x5), (0, va_rf (some v0)), (1, .int v1), (2, .int v2)]) de_PM_along_81 (Nat.le_of_ble_eq_true rfl) rfl ?_
    refine mv_iconst (pc := 83) (v := 0) de_PM_along_83 (by decide) ?_
    refine mv_istore (pc := 84) (lv' := [(9, .int 0), (7, .long 1), (5, .long 0), (4, .int r15), (3, .int x5), (0, va_rf (some v0)), (1, .int v1), (2, .int v2)]) de_PM_along_84 (Nat.le_of_ble_eq_true rfl) rfl ?_
    exact mv_sub [5, 6, 7, 4, 3, 2, 1, 0] rfl (tb_PM_along_86 l D E B sa M0 M1 r N N Mm15 v0 v1 v2 x5 r15 0 1 0 h28)
theorem cm_PM_along (l : Launch) (D : va_G) (E : Nat → ClassId) (B : Nat) (sa : (Nat → Nat) × Nat × (Nat → Int32)) (N : Nat) (M : mv_M) (v0 : Nat) (v1 : Int32) (v2 : Int32) (r : Unit) (M1 : mv_M) (hJ : jf_PM_along N M v0 v1 v2 = some (r, M1)) : mv_Met (xg l D E B sa) yn_PM_along cd_PM_along 11 none 2 58 [va_rf (some v0), .int v1, .int v2] M none M1 :=
  mv_enter (by decide) (Nat.le_of_ble_eq_true rfl) (mv_sub (lv := [(0, va_rf (some v0)), (1, .int v1), (2, .int v2)]) [0, 1, 2] rfl (tb_PM_along_0 l D E B sa M M1 r N M v0 v1 v2 hJ))
/-! ===== PlainLearnerModel.cell(II)V ===== -/
abbrev kd_PM_cell : mv_Kd := (cd_PM_cell, 11, "PlainLearnerModel", "cell", none, 3, 91)
theorem de_PM_cell_0 : decode cd_PM_cell 0 = .ok (.aload_n 0, 1) := by decide +kernel
theorem de_PM_cell_1 : decode cd_PM_cell 1 = .ok (.getfield 13, 3) := by decide +kernel
theorem de_PM_cell_4 : decode cd_PM_cell 4 = .ok (.iload_n 1, 1) := by decide +kernel
theorem de_PM_cell_5 : decode cd_PM_cell 5 = .ok (.iaload, 1) := by decide +kernel
theorem de_PM_cell_6 : decode cd_PM_cell 6 = .ok (.istore_n 3, 1) := by decide +kernel
theorem de_PM_cell_7 : decode cd_PM_cell 7 = .ok (.aload_n 0, 1) := by decide +kernel
theorem de_PM_cell_8 : decode cd_PM_cell 8 = .ok (.getfield 7, 3) := by decide +kernel
theorem de_PM_cell_11 : decode cd_PM_cell 11 = .ok (.iload_n 1, 1) := by decide +kernel
theorem de_PM_cell_12 : decode cd_PM_cell 12 = .ok (.iaload, 1) := by decide +kernel
theorem de_PM_cell_13 : decode cd_PM_cell 13 = .ok (.istore 4, 2) := by decide +kernel
theorem de_PM_cell_15 : decode cd_PM_cell 15 = .ok (.bipush 64, 2) := by decide +kernel
theorem de_PM_cell_17 : decode cd_PM_cell 17 = .ok (.iload_n 3, 1) := by decide +kernel
theorem de_PM_cell_18 : decode cd_PM_cell 18 = .ok (.imul, 1) := by decide +kernel
theorem de_PM_cell_19 : decode cd_PM_cell 19 = .ok (.istore 5, 2) := by decide +kernel
theorem de_PM_cell_21 : decode cd_PM_cell 21 = .ok (.iload 4, 2) := by decide +kernel
theorem de_PM_cell_23 : decode cd_PM_cell 23 = .ok (.iconst 4, 1) := by decide +kernel
theorem de_PM_cell_24 : decode cd_PM_cell 24 = .ok (.if_icmp .ge 76, 3) := by decide +kernel
theorem de_PM_cell_27 : decode cd_PM_cell 27 = .ok (.iload 5, 2) := by decide +kernel
theorem de_PM_cell_29 : decode cd_PM_cell 29 = .ok (.aload_n 0, 1) := by decide +kernel
theorem de_PM_cell_30 : decode cd_PM_cell 30 = .ok (.iload_n 1, 1) := by decide +kernel
theorem de_PM_cell_31 : decode cd_PM_cell 31 = .ok (.iload_n 2, 1) := by decide +kernel
theorem de_PM_cell_32 : decode cd_PM_cell 32 = .ok (.iload_n 3, 1) := by decide +kernel
theorem de_PM_cell_33 : decode cd_PM_cell 33 = .ok (.invokevirtual 151, 3) := by decide +kernel
theorem de_PM_cell_36 : decode cd_PM_cell 36 = .ok (.iadd, 1) := by decide +kernel
theorem de_PM_cell_37 : decode cd_PM_cell 37 = .ok (.istore 6, 2) := by decide +kernel
theorem de_PM_cell_39 : decode cd_PM_cell 39 = .ok (.bipush 64, 2) := by decide +kernel
theorem de_PM_cell_41 : decode cd_PM_cell 41 = .ok (.aload_n 0, 1) := by decide +kernel
theorem de_PM_cell_42 : decode cd_PM_cell 42 = .ok (.getfield 16, 3) := by decide +kernel
theorem de_PM_cell_45 : decode cd_PM_cell 45 = .ok (.iload_n 1, 1) := by decide +kernel
theorem de_PM_cell_46 : decode cd_PM_cell 46 = .ok (.iaload, 1) := by decide +kernel
theorem de_PM_cell_47 : decode cd_PM_cell 47 = .ok (.imul, 1) := by decide +kernel
theorem de_PM_cell_48 : decode cd_PM_cell 48 = .ok (.aload_n 0, 1) := by decide +kernel
theorem de_PM_cell_49 : decode cd_PM_cell 49 = .ok (.iload_n 1, 1) := by decide +kernel
theorem de_PM_cell_50 : decode cd_PM_cell 50 = .ok (.iload_n 2, 1) := by decide +kernel
theorem de_PM_cell_51 : decode cd_PM_cell 51 = .ok (.aload_n 0, 1) := by decide +kernel
theorem de_PM_cell_52 : decode cd_PM_cell 52 = .ok (.getfield 16, 3) := by decide +kernel
theorem de_PM_cell_55 : decode cd_PM_cell 55 = .ok (.iload_n 1, 1) := by decide +kernel
theorem de_PM_cell_56 : decode cd_PM_cell 56 = .ok (.iaload, 1) := by decide +kernel
theorem de_PM_cell_57 : decode cd_PM_cell 57 = .ok (.invokevirtual 151, 3) := by decide +kernel
theorem de_PM_cell_60 : decode cd_PM_cell 60 = .ok (.iadd, 1) := by decide +kernel
theorem de_PM_cell_61 : decode cd_PM_cell 61 = .ok (.istore 7, 2) := by decide +kernel
theorem de_PM_cell_63 : decode cd_PM_cell 63 = .ok (.aload_n 0, 1) := by decide +kernel
theorem de_PM_cell_64 : decode cd_PM_cell 64 = .ok (.iload 4, 2) := by decide +kernel
theorem de_PM_cell_66 : decode cd_PM_cell 66 = .ok (.aload_n 0, 1) := by decide +kernel
theorem de_PM_cell_67 : decode cd_PM_cell 67 = .ok (.getfield 29, 3) := by decide +kernel
theorem de_PM_cell_70 : decode cd_PM_cell 70 = .ok (.iload 6, 2) := by decide +kernel
theorem de_PM_cell_72 : decode cd_PM_cell 72 = .ok (.laload, 1) := by decide +kernel
theorem de_PM_cell_73 : decode cd_PM_cell 73 = .ok (.aload_n 0, 1) := by decide +kernel
theorem de_PM_cell_74 : decode cd_PM_cell 74 = .ok (.getfield 33, 3) := by decide +kernel
theorem de_PM_cell_77 : decode cd_PM_cell 77 = .ok (.iload 6, 2) := by decide +kernel
theorem de_PM_cell_79 : decode cd_PM_cell 79 = .ok (.laload, 1) := by decide +kernel
theorem de_PM_cell_80 : decode cd_PM_cell 80 = .ok (.aload_n 0, 1) := by decide +kernel
theorem de_PM_cell_81 : decode cd_PM_cell 81 = .ok (.getfield 29, 3) := by decide +kernel
theorem de_PM_cell_84 : decode cd_PM_cell 84 = .ok (.iload 7, 2) := by decide +kernel
theorem de_PM_cell_86 : decode cd_PM_cell 86 = .ok (.laload, 1) := by decide +kernel
theorem de_PM_cell_87 : decode cd_PM_cell 87 = .ok (.aload_n 0, 1) := by decide +kernel
theorem de_PM_cell_88 : decode cd_PM_cell 88 = .ok (.getfield 33, 3) := by decide +kernel
theorem de_PM_cell_91 : decode cd_PM_cell 91 = .ok (.iload 7, 2) := by decide +kernel
theorem de_PM_cell_93 : decode cd_PM_cell 93 = .ok (.laload, 1) := by decide +kernel
theorem de_PM_cell_94 : decode cd_PM_cell 94 = .ok (.invokevirtual 155, 3) := by decide +kernel
theorem de_PM_cell_97 : decode cd_PM_cell 97 = .ok (.goto 252, 3) := by decide +kernel
theorem de_PM_cell_100 : decode cd_PM_cell 100 = .ok (.iload 4, 2) := by decide +kernel
theorem de_PM_cell_102 : decode cd_PM_cell 102 = .ok (.iconst 4, 1) := by decide +kernel
theorem de_PM_cell_103 : decode cd_PM_cell 103 = .ok (.if_icmp .ne 12, 3) := by decide +kernel
theorem de_PM_cell_106 : decode cd_PM_cell 106 = .ok (.aload_n 0, 1) := by decide +kernel
theorem de_PM_cell_107 : decode cd_PM_cell 107 = .ok (.iload_n 1, 1) := by decide +kernel
theorem de_PM_cell_108 : decode cd_PM_cell 108 = .ok (.iload_n 2, 1) := by decide +kernel
theorem de_PM_cell_109 : decode cd_PM_cell 109 = .ok (.invokevirtual 159, 3) := by decide +kernel
theorem de_PM_cell_112 : decode cd_PM_cell 112 = .ok (.goto 237, 3) := by decide +kernel
theorem de_PM_cell_115 : decode cd_PM_cell 115 = .ok (.iload 4, 2) := by decide +kernel
theorem de_PM_cell_117 : decode cd_PM_cell 117 = .ok (.bipush 8, 2) := by decide +kernel
theorem de_PM_cell_119 : decode cd_PM_cell 119 = .ok (.if_icmp .ge 12, 3) := by decide +kernel
theorem de_PM_cell_122 : decode cd_PM_cell 122 = .ok (.aload_n 0, 1) := by decide +kernel
theorem de_PM_cell_123 : decode cd_PM_cell 123 = .ok (.iload_n 1, 1) := by decide +kernel
theorem de_PM_cell_124 : decode cd_PM_cell 124 = .ok (.iload_n 2, 1) := by decide +kernel
theorem de_PM_cell_125 : decode cd_PM_cell 125 = .ok (.invokevirtual 162, 3) := by decide +kernel
theorem de_PM_cell_128 : decode cd_PM_cell 128 = .ok (.goto 221, 3) := by decide +kernel
theorem de_PM_cell_131 : decode cd_PM_cell 131 = .ok (.iload 4, 2) := by decide +kernel
theorem de_PM_cell_133 : decode cd_PM_cell 133 = .ok (.bipush 8, 2) := by decide +kernel
theorem de_PM_cell_135 : decode cd_PM_cell 135 = .ok (.if_icmp .ne 27, 3) := by decide +kernel
theorem de_PM_cell_138 : decode cd_PM_cell 138 = .ok (.aload_n 0, 1) := by decide +kernel
theorem de_PM_cell_139 : decode cd_PM_cell 139 = .ok (.iload 5, 2) := by decide +kernel
theorem de_PM_cell_141 : decode cd_PM_cell 141 = .ok (.aload_n 0, 1) := by decide +kernel
theorem de_PM_cell_142 : decode cd_PM_cell 142 = .ok (.getfield 16, 3) := by decide +kernel
theorem de_PM_cell_145 : decode cd_PM_cell 145 = .ok (.iload_n 1, 1) := by decide +kernel
theorem de_PM_cell_146 : decode cd_PM_cell 146 = .ok (.iaload, 1) := by decide +kernel
theorem de_PM_cell_147 : decode cd_PM_cell 147 = .ok (.aload_n 0, 1) := by decide +kernel
theorem de_PM_cell_148 : decode cd_PM_cell 148 = .ok (.iload_n 1, 1) := by decide +kernel
theorem de_PM_cell_149 : decode cd_PM_cell 149 = .ok (.invokevirtual 114, 3) := by decide +kernel
theorem de_PM_cell_152 : decode cd_PM_cell 152 = .ok (.imul, 1) := by decide +kernel
theorem de_PM_cell_153 : decode cd_PM_cell 153 = .ok (.iadd, 1) := by decide +kernel
theorem de_PM_cell_154 : decode cd_PM_cell 154 = .ok (.iload_n 2, 1) := by decide +kernel
theorem de_PM_cell_155 : decode cd_PM_cell 155 = .ok (.iadd, 1) := by decide +kernel
theorem de_PM_cell_156 : decode cd_PM_cell 156 = .ok (.invokevirtual 165, 3) := by decide +kernel
theorem de_PM_cell_159 : decode cd_PM_cell 159 = .ok (.goto 190, 3) := by decide +kernel
theorem de_PM_cell_162 : decode cd_PM_cell 162 = .ok (.iload 4, 2) := by decide +kernel
theorem de_PM_cell_164 : decode cd_PM_cell 164 = .ok (.bipush 9, 2) := by decide +kernel
theorem de_PM_cell_166 : decode cd_PM_cell 166 = .ok (.if_icmp .ne 19, 3) := by decide +kernel
theorem de_PM_cell_169 : decode cd_PM_cell 169 = .ok (.aload_n 0, 1) := by decide +kernel
theorem de_PM_cell_170 : decode cd_PM_cell 170 = .ok (.iload 5, 2) := by decide +kernel
theorem de_PM_cell_172 : decode cd_PM_cell 172 = .ok (.aload_n 0, 1) := by decide +kernel
theorem de_PM_cell_173 : decode cd_PM_cell 173 = .ok (.iload_n 3, 1) := by decide +kernel
theorem de_PM_cell_174 : decode cd_PM_cell 174 = .ok (.iload_n 2, 1) := by decide +kernel
theorem de_PM_cell_175 : decode cd_PM_cell 175 = .ok (.invokevirtual 169, 3) := by decide +kernel
theorem de_PM_cell_178 : decode cd_PM_cell 178 = .ok (.iadd, 1) := by decide +kernel
theorem de_PM_cell_179 : decode cd_PM_cell 179 = .ok (.invokevirtual 165, 3) := by decide +kernel
theorem de_PM_cell_182 : decode cd_PM_cell 182 = .ok (.goto 167, 3) := by decide +kernel
theorem de_PM_cell_185 : decode cd_PM_cell 185 = .ok (.iload 4, 2) := by decide +kernel
theorem de_PM_cell_187 : decode cd_PM_cell 187 = .ok (.bipush 15, 2) := by decide +kernel
theorem de_PM_cell_189 : decode cd_PM_cell 189 = .ok (.if_icmp .ne 71, 3) := by decide +kernel
theorem de_PM_cell_192 : decode cd_PM_cell 192 = .ok (.lconst 0, 1) := by decide +kernel
theorem de_PM_cell_193 : decode cd_PM_cell 193 = .ok (.lstore 6, 2) := by decide +kernel
theorem de_PM_cell_195 : decode cd_PM_cell 195 = .ok (.lconst 1, 1) := by decide +kernel
theorem de_PM_cell_196 : decode cd_PM_cell 196 = .ok (.lstore 8, 2) := by decide +kernel
theorem de_PM_cell_198 : decode cd_PM_cell 198 = .ok (.iconst 0, 1) := by decide +kernel
theorem de_PM_cell_199 : decode cd_PM_cell 199 = .ok (.istore 10, 2) := by decide +kernel
theorem de_PM_cell_201 : decode cd_PM_cell 201 = .ok (.iload 10, 2) := by decide +kernel
theorem de_PM_cell_203 : decode cd_PM_cell 203 = .ok (.aload_n 0, 1) := by decide +kernel
theorem de_PM_cell_204 : decode cd_PM_cell 204 = .ok (.iload_n 3, 1) := by decide +kernel
theorem de_PM_cell_205 : decode cd_PM_cell 205 = .ok (.invokevirtual 114, 3) := by decide +kernel
theorem de_PM_cell_208 : decode cd_PM_cell 208 = .ok (.if_icmp .ge 49, 3) := by decide +kernel
theorem de_PM_cell_211 : decode cd_PM_cell 211 = .ok (.aload_n 0, 1) := by decide +kernel
theorem de_PM_cell_212 : decode cd_PM_cell 212 = .ok (.lload 6, 2) := by decide +kernel
theorem de_PM_cell_214 : decode cd_PM_cell 214 = .ok (.lload 8, 2) := by decide +kernel
theorem de_PM_cell_216 : decode cd_PM_cell 216 = .ok (.aload_n 0, 1) := by decide +kernel
theorem de_PM_cell_217 : decode cd_PM_cell 217 = .ok (.getfield 29, 3) := by decide +kernel
theorem de_PM_cell_220 : decode cd_PM_cell 220 = .ok (.iload 5, 2) := by decide +kernel
theorem de_PM_cell_222 : decode cd_PM_cell 222 = .ok (.iload 10, 2) := by decide +kernel
theorem de_PM_cell_224 : decode cd_PM_cell 224 = .ok (.iadd, 1) := by decide +kernel
theorem de_PM_cell_225 : decode cd_PM_cell 225 = .ok (.laload, 1) := by decide +kernel
theorem de_PM_cell_226 : decode cd_PM_cell 226 = .ok (.aload_n 0, 1) := by decide +kernel
theorem de_PM_cell_227 : decode cd_PM_cell 227 = .ok (.getfield 33, 3) := by decide +kernel
theorem de_PM_cell_230 : decode cd_PM_cell 230 = .ok (.iload 5, 2) := by decide +kernel
theorem de_PM_cell_232 : decode cd_PM_cell 232 = .ok (.iload 10, 2) := by decide +kernel
theorem de_PM_cell_234 : decode cd_PM_cell 234 = .ok (.iadd, 1) := by decide +kernel
theorem de_PM_cell_235 : decode cd_PM_cell 235 = .ok (.laload, 1) := by decide +kernel
theorem de_PM_cell_236 : decode cd_PM_cell 236 = .ok (.invokevirtual 141, 3) := by decide +kernel
theorem de_PM_cell_239 : decode cd_PM_cell 239 = .ok (.aload_n 0, 1) := by decide +kernel
theorem de_PM_cell_240 : decode cd_PM_cell 240 = .ok (.getfield 81, 3) := by decide +kernel
theorem de_PM_cell_243 : decode cd_PM_cell 243 = .ok (.lstore 6, 2) := by decide +kernel
theorem de_PM_cell_245 : decode cd_PM_cell 245 = .ok (.aload_n 0, 1) := by decide +kernel
theorem de_PM_cell_246 : decode cd_PM_cell 246 = .ok (.getfield 84, 3) := by decide +kernel
theorem de_PM_cell_249 : decode cd_PM_cell 249 = .ok (.lstore 8, 2) := by decide +kernel
theorem de_PM_cell_251 : decode cd_PM_cell 251 = .ok (.iinc 10 1, 3) := by decide +kernel
theorem de_PM_cell_254 : decode cd_PM_cell 254 = .ok (.goto (-53), 3) := by decide +kernel
theorem de_PM_cell_257 : decode cd_PM_cell 257 = .ok (.goto 92, 3) := by decide +kernel
theorem de_PM_cell_260 : decode cd_PM_cell 260 = .ok (.aload_n 0, 1) := by decide +kernel
theorem de_PM_cell_261 : decode cd_PM_cell 261 = .ok (.iload 5, 2) := by decide +kernel
theorem de_PM_cell_263 : decode cd_PM_cell 263 = .ok (.iload_n 2, 1) := by decide +kernel
theorem de_PM_cell_264 : decode cd_PM_cell 264 = .ok (.iadd, 1) := by decide +kernel
theorem de_PM_cell_265 : decode cd_PM_cell 265 = .ok (.invokevirtual 165, 3) := by decide +kernel
theorem de_PM_cell_268 : decode cd_PM_cell 268 = .ok (.iload 4, 2) := by decide +kernel
theorem de_PM_cell_270 : decode cd_PM_cell 270 = .ok (.bipush 10, 2) := by decide +kernel
theorem de_PM_cell_272 : decode cd_PM_cell 272 = .ok (.if_icmp .eq 19, 3) := by decide +kernel
theorem de_PM_cell_275 : decode cd_PM_cell 275 = .ok (.iload 4, 2) := by decide +kernel
theorem de_PM_cell_277 : decode cd_PM_cell 277 = .ok (.bipush 12, 2) := by decide +kernel
theorem de_PM_cell_279 : decode cd_PM_cell 279 = .ok (.if_icmp .ne 21, 3) := by decide +kernel
theorem de_PM_cell_282 : decode cd_PM_cell 282 = .ok (.aload_n 0, 1) := by decide +kernel
theorem de_PM_cell_283 : decode cd_PM_cell 283 = .ok (.getfield 81, 3) := by decide +kernel
theorem de_PM_cell_286 : decode cd_PM_cell 286 = .ok (.lconst 0, 1) := by decide +kernel
theorem de_PM_cell_287 : decode cd_PM_cell 287 = .ok (.lcmp, 1) := by decide +kernel
theorem de_PM_cell_288 : decode cd_PM_cell 288 = .ok (.ifCond .ge 12, 3) := by decide +kernel
theorem de_PM_cell_291 : decode cd_PM_cell 291 = .ok (.aload_n 0, 1) := by decide +kernel
theorem de_PM_cell_292 : decode cd_PM_cell 292 = .ok (.aload_n 0, 1) := by decide +kernel
theorem de_PM_cell_293 : decode cd_PM_cell 293 = .ok (.getfield 81, 3) := by decide +kernel
theorem de_PM_cell_296 : decode cd_PM_cell 296 = .ok (.lneg, 1) := by decide +kernel
theorem de_PM_cell_297 : decode cd_PM_cell 297 = .ok (.putfield 81, 3) := by decide +kernel
theorem de_PM_cell_300 : decode cd_PM_cell 300 = .ok (.iload 4, 2) := by decide +kernel
theorem de_PM_cell_302 : decode cd_PM_cell 302 = .ok (.bipush 11, 2) := by decide +kernel
theorem de_PM_cell_304 : decode cd_PM_cell 304 = .ok (.if_icmp .ne 18, 3) := by decide +kernel
theorem de_PM_cell_307 : decode cd_PM_cell 307 = .ok (.aload_n 0, 1) := by decide +kernel
theorem de_PM_cell_308 : decode cd_PM_cell 308 = .ok (.getfield 81, 3) := by decide +kernel
theorem de_PM_cell_311 : decode cd_PM_cell 311 = .ok (.lconst 0, 1) := by decide +kernel
theorem de_PM_cell_312 : decode cd_PM_cell 312 = .ok (.lcmp, 1) := by decide +kernel
theorem de_PM_cell_313 : decode cd_PM_cell 313 = .ok (.ifCond .ge 9, 3) := by decide +kernel
theorem de_PM_cell_316 : decode cd_PM_cell 316 = .ok (.aload_n 0, 1) := by decide +kernel
theorem de_PM_cell_317 : decode cd_PM_cell 317 = .ok (.lconst 0, 1) := by decide +kernel
theorem de_PM_cell_318 : decode cd_PM_cell 318 = .ok (.lconst 1, 1) := by decide +kernel
theorem de_PM_cell_319 : decode cd_PM_cell 319 = .ok (.invokevirtual 91, 3) := by decide +kernel
theorem de_PM_cell_322 : decode cd_PM_cell 322 = .ok (.iload 4, 2) := by decide +kernel
theorem de_PM_cell_324 : decode cd_PM_cell 324 = .ok (.bipush 13, 2) := by decide +kernel
theorem de_PM_cell_326 : decode cd_PM_cell 326 = .ok (.if_icmp .ne 23, 3) := by decide +kernel
theorem de_PM_cell_329 : decode cd_PM_cell 329 = .ok (.aload_n 0, 1) := by decide +kernel
theorem de_PM_cell_330 : decode cd_PM_cell 330 = .ok (.aload_n 0, 1) := by decide +kernel
theorem de_PM_cell_331 : decode cd_PM_cell 331 = .ok (.getfield 81, 3) := by decide +kernel
theorem de_PM_cell_334 : decode cd_PM_cell 334 = .ok (.aload_n 0, 1) := by decide +kernel
theorem de_PM_cell_335 : decode cd_PM_cell 335 = .ok (.getfield 84, 3) := by decide +kernel
theorem de_PM_cell_338 : decode cd_PM_cell 338 = .ok (.aload_n 0, 1) := by decide +kernel
theorem de_PM_cell_339 : decode cd_PM_cell 339 = .ok (.getfield 81, 3) := by decide +kernel
theorem de_PM_cell_342 : decode cd_PM_cell 342 = .ok (.aload_n 0, 1) := by decide +kernel
theorem de_PM_cell_343 : decode cd_PM_cell 343 = .ok (.getfield 84, 3) := by decide +kernel
theorem de_PM_cell_346 : decode cd_PM_cell 346 = .ok (.invokevirtual 145, 3) := by decide +kernel
theorem de_PM_cell_349 : decode cd_PM_cell 349 = .ok (.return_, 1) := by decide +kernel
def jb_PM_cell_349 (N : Nat) (M : mv_M) : Option (Unit × mv_M) :=
  some ((), M)
def jb_PM_cell_322 (N : Nat) (M : mv_M) (v0 : Nat) (v4 : Int32) : Option (Unit × mv_M) :=
  if v4 = 13 then (Option.bind (mj_getL M v0 1 0) fun x331 =>
  Option.bind (mj_getL M v0 1 1) fun x335 =>
  Option.bind (mj_getL M v0 1 0) fun x339 =>
  Option.bind (mj_getL M v0 1 1) fun x343 =>
  mj_ob M v0 1 <|
  mj_call (jf_PM_times N M v0 x331 x335 x339 x343) fun r346 Mm346 =>
  jb_PM_cell_349 N Mm346) else
  jb_PM_cell_349 N M
def jb_PM_cell_300 (N : Nat) (M : mv_M) (v0 : Nat) (v4 : Int32) : Option (Unit × mv_M) :=
  if v4 = 11 then (Option.bind (mj_getL M v0 1 0) fun x308 =>
  if 0 ≤ (lg_cmp x308 0) then (jb_PM_cell_322 N M v0 v4) else
  mj_ob M v0 1 <|
  mj_call (jf_PM_least N M v0 0 1) fun r319 Mm319 =>
  jb_PM_cell_322 N Mm319 v0 v4) else
  jb_PM_cell_322 N M v0 v4
def jb_PM_cell_291 (N : Nat) (M : mv_M) (v0 : Nat) (v4 : Int32) : Option (Unit × mv_M) :=
  Option.bind (mj_getL M v0 1 0) fun x293 =>
  Option.bind (mj_put M v0 1 0 (.long (-x293))) fun Mm297 =>
  jb_PM_cell_300 N Mm297 v0 v4
def jb_PM_cell_201 (N : Nat) : Nat → mv_M → Nat → Int32 → Int32 → Int64 → Int64 → Int32 → Option (Unit × mv_M)
  | 0, _, _, _, _, _, _, _ => none
  | n + 1, M, v0, v3, v5, v6, v8, v10 =>
    mj_ob M v0 1 <|
    mj_call (jf_PM_cells N M v0 v3) fun r205 Mm205 =>
    if r205 ≤ v10 then (jb_PM_cell_349 N Mm205) else
    Option.bind (mj_getR Mm205 v0 1 9) fun x217 =>
    Option.bind x217 fun a225 =>
    Option.bind (mj_lld Mm205 a225 1 (v5 + v10)) fun x225 =>
    Option.bind (mj_getR Mm205 v0 1 10) fun x227 =>
    Option.bind x227 fun a235 =>
    Option.bind (mj_lld Mm205 a235 1 (v5 + v10)) fun x235 =>
    mj_ob Mm205 v0 1 <|
    mj_call (jf_PM_plus N Mm205 v0 v6 v8 x225 x235) fun r236 Mm236 =>
    Option.bind (mj_getL Mm236 v0 1 0) fun x240 =>
    Option.bind (mj_getL Mm236 v0 1 1) fun x246 =>
    jb_PM_cell_201 N n Mm236 v0 v3 v5 x240 x246 (v10 + 1)
def jb_PM_cell_0 (N : Nat) (M : mv_M) (v0 : Nat) (v1 : Int32) (v2 : Int32) : Option (Unit × mv_M) :=
  Option.bind (mj_getR M v0 1 4) fun x1 =>
  Option.bind x1 fun a5 =>
  Option.bind (mj_ild M a5 0 v1) fun x5 =>
  Option.bind (mj_getR M v0 1 3) fun x8 =>
  Option.bind x8 fun a12 =>
  Option.bind (mj_ild M a12 0 v1) fun x12 =>
  if 4 ≤ x12 then (if x12 = 4 then (mj_ob M v0 1 <|
  mj_call (jf_PM_product N M v0 v1 v2) fun r109 Mm109 =>
  jb_PM_cell_349 N Mm109) else
  if 8 ≤ x12 then (if x12 = 8 then (Option.bind (mj_getR M v0 1 5) fun x142 =>
  Option.bind x142 fun a146 =>
  Option.bind (mj_ild M a146 0 v1) fun x146 =>
  mj_ob M v0 1 <|
  mj_call (jf_PM_cells N M v0 v1) fun r149 Mm149 =>
  mj_ob Mm149 v0 1 <|
  mj_call (jf_PM_load N Mm149 v0 (((64 * x5) + (x146 * r149)) + v2)) fun r156 Mm156 =>
  jb_PM_cell_349 N Mm156) else
  if x12 = 9 then (mj_ob M v0 1 <|
  mj_call (jf_PM_turnedCell N M v0 x5 v2) fun r175 Mm175 =>
  mj_ob Mm175 v0 1 <|
  mj_call (jf_PM_load N Mm175 v0 ((64 * x5) + r175)) fun r179 Mm179 =>
  jb_PM_cell_349 N Mm179) else
  if x12 = 15 then (jb_PM_cell_201 N N M v0 x5 (64 * x5) 0 1 0) else
  mj_ob M v0 1 <|
  mj_call (jf_PM_load N M v0 ((64 * x5) + v2)) fun r265 Mm265 =>
  if x12 = 10 then (jb_PM_cell_291 N Mm265 v0 x12) else
  if x12 = 12 then (Option.bind (mj_getL Mm265 v0 1 0) fun x283 =>
  if 0 ≤ (lg_cmp x283 0) then (jb_PM_cell_300 N Mm265 v0 x12) else
  jb_PM_cell_291 N Mm265 v0 x12) else
  jb_PM_cell_300 N Mm265 v0 x12) else
  mj_ob M v0 1 <|
  mj_call (jf_PM_along N M v0 v1 v2) fun r125 Mm125 =>
  jb_PM_cell_349 N Mm125) else
  mj_ob M v0 1 <|
  mj_call (jf_PM_spreadCell N M v0 v1 v2 x5) fun r33 Mm33 =>
  Option.bind (mj_getR Mm33 v0 1 5) fun x42 =>
  Option.bind x42 fun a46 =>
  Option.bind (mj_ild Mm33 a46 0 v1) fun x46 =>
  Option.bind (mj_getR Mm33 v0 1 5) fun x52 =>
  Option.bind x52 fun a56 =>
  Option.bind (mj_ild Mm33 a56 0 v1) fun x56 =>
  mj_ob Mm33 v0 1 <|
  mj_call (jf_PM_spreadCell N Mm33 v0 v1 v2 x56) fun r57 Mm57 =>
  Option.bind (mj_getR Mm57 v0 1 9) fun x67 =>
  Option.bind x67 fun a72 =>
  Option.bind (mj_lld Mm57 a72 1 ((64 * x5) + r33)) fun x72 =>
  Option.bind (mj_getR Mm57 v0 1 10) fun x74 =>
  Option.bind x74 fun a79 =>
  Option.bind (mj_lld Mm57 a79 1 ((64 * x5) + r33)) fun x79 =>
  Option.bind (mj_getR Mm57 v0 1 9) fun x81 =>
  Option.bind x81 fun a86 =>
  Option.bind (mj_lld Mm57 a86 1 ((64 * x46) + r57)) fun x86 =>
  Option.bind (mj_getR Mm57 v0 1 10) fun x88 =>
  Option.bind x88 fun a93 =>
  Option.bind (mj_lld Mm57 a93 1 ((64 * x46) + r57)) fun x93 =>
  mj_ob Mm57 v0 1 <|
  mj_call (jf_PM_two N Mm57 v0 x12 x72 x79 x86 x93) fun r94 Mm94 =>
  jb_PM_cell_349 N Mm94
def jf_PM_cell (N : Nat) (M : mv_M) (v0 : Nat) (v1 : Int32) (v2 : Int32) : Option (Unit × mv_M) := jb_PM_cell_0 N M v0 v1 v2
set_option maxHeartbeats 4000000 in
set_option maxRecDepth 100000 in
theorem tb_PM_cell_349 (l : Launch) (D : va_G) (E : Nat → ClassId) (B : Nat) (sa : (Nat → Nat) × Nat × (Nat → Int32)) (M0 M1 : mv_M) (r : Unit) (N : Nat) (M : mv_M) (hJ : jb_PM_cell_349 N M = some (r, M1)) : mv_G (xg l D E B sa) kd_PM_cell M0 M1 none M 349 [] [] := by
  unfold jb_PM_cell_349 at hJ
  exact mv_vret (pc := 349) rfl de_PM_cell_349 hJ
set_option maxHeartbeats 4000000 in
set_option maxRecDepth 100000 in
theorem tb_PM_cell_322 (l : Launch) (D : va_G) (E : Nat → ClassId) (B : Nat) (sa : (Nat → Nat) × Nat × (Nat → Int32)) (M0 M1 : mv_M) (r : Unit) (N : Nat) (M : mv_M) (v0 : Nat) (v4 : Int32) (hJ : jb_PM_cell_322 N M v0 v4 = some (r, M1)) : mv_G (xg l D E B sa) kd_PM_cell M0 M1 none M 322 [(0, va_rf (some v0)), (4, .int v4)] [] := by
  unfold jb_PM_cell_322 at hJ
  refine mv_iload (pc := 322) de_PM_cell_322 1 rfl ?_
  refine mv_bipush (pc := 324) (v := 13) de_PM_cell_324 (by decide) ?_
  refine mv_icmp_ne (pc := 326) (tgt := 349) de_PM_cell_326 (by decide) hJ (fun hc326 h326 => ?_) (fun hc326 h326 => ?_)
  · refine mv_aload_n (pc := 329) (i := 0) de_PM_cell_329 rfl 0 rfl ?_
    refine mv_aload_n (pc := 330) (i := 0) de_PM_cell_330 rfl 0 rfl ?_
    refine mv_getL (pc := 331) (f := 0) (kc_1 l D E B sa) (Nat.le_of_ble_eq_true rfl) wt_4_80 de_PM_cell_331 h326 (fun x331 e331 h331 => ?_)
    refine mv_aload_n (pc := 334) (i := 0) de_PM_cell_334 rfl 0 rfl ?_
    refine mv_getL (pc := 335) (f := 1) (kc_1 l D E B sa) (Nat.le_of_ble_eq_true rfl) wt_4_81 de_PM_cell_335 h331 (fun x335 e335 h335 => ?_)
    refine mv_aload_n (pc := 338) (i := 0) de_PM_cell_338 rfl 0 rfl ?_
    refine mv_getL (pc := 339) (f := 0) (kc_1 l D E B sa) (Nat.le_of_ble_eq_true rfl) wt_4_80 de_PM_cell_339 h335 (fun x339 e339 h339 => ?_)
    refine mv_aload_n (pc := 342) (i := 0) de_PM_cell_342 rfl 0 rfl ?_
    refine mv_getL (pc := 343) (f := 1) (kc_1 l D E B sa) (Nat.le_of_ble_eq_true rfl) wt_4_81 de_PM_cell_343 h339 (fun x343 e343 h343 => ?_)
    obtain ⟨hi346, h346o⟩ := mj_obE h343
    obtain ⟨r346, Mm346, hz346, h346⟩ := mj_callE h346o
    refine mv_callV (pc := 346) (n := 4) (av := [.long x331, .long x335, .long x339, .long x343]) (rest := []) de_PM_cell_346 (kc_1 l D E B sa) hi346 (cm_PM_times l D E B sa N M v0 x331 x335 x339 x343 _ _ hz346) wt_5_30 wt_5_32 wp_38 wt_1_8 wt_5_33 ⟨by decide, by decide, by decide +kernel⟩ rfl ⟨Nat.le_of_ble_eq_true rfl, Nat.le_of_ble_eq_true rfl⟩ (Nat.le_of_ble_eq_true rfl) rfl ?_
    exact mv_sub [] rfl (tb_PM_cell_349 l D E B sa M0 M1 r N Mm346 h346)
  · exact mv_sub [] rfl (tb_PM_cell_349 l D E B sa M0 M1 r N M h326)
set_option maxHeartbeats 4000000 in
set_option maxRecDepth 100000 in
theorem tb_PM_cell_300 (l : Launch) (D : va_G) (E : Nat → ClassId) (B : Nat) (sa : (Nat → Nat) × Nat × (Nat → Int32)) (M0 M1 : mv_M) (r : Unit) (N : Nat) (M : mv_M) (v0 : Nat) (v4 : Int32) (hJ : jb_PM_cell_300 N M v0 v4 = some (r, M1)) : mv_G (xg l D E B sa) kd_PM_cell M0 M1 none M 300 [(0, va_rf (some v0)), (4, .int v4)] [] := by
  unfold jb_PM_cell_300 at hJ
  refine mv_iload (pc := 300) de_PM_cell_300 1 rfl ?_
  refine mv_bipush (pc := 302) (v := 11) de_PM_cell_302 (by decide) ?_
  refine mv_icmp_ne (pc := 304) (tgt := 322) de_PM_cell_304 (by decide) hJ (fun hc304 h304 => ?_) (fun hc304 h304 => ?_)
  · refine mv_aload_n (pc := 307) (i := 0) de_PM_cell_307 rfl 0 rfl ?_
    refine mv_getL (pc := 308) (f := 0) (kc_1 l D E B sa) (Nat.le_of_ble_eq_true rfl) wt_4_80 de_PM_cell_308 h304 (fun x308 e308 h308 => ?_)
    refine mv_lconst (pc := 311) (v := 0) de_PM_cell_311 (by decide) ?_
    refine mv_lcmp (pc := 312) de_PM_cell_312 ?_
    refine mv_if_ge (pc := 313) (tgt := 322) de_PM_cell_313 (by decide) h308 (fun hc313 h313 => ?_) (fun hc313 h313 => ?_)
    · exact mv_sub [0, 1] rfl (tb_PM_cell_322 l D E B sa M0 M1 r N M v0 v4 h313)
    · refine mv_aload_n (pc := 316) (i := 0) de_PM_cell_316 rfl 0 rfl ?_
      refine mv_lconst (pc := 317) (v := 0) de_PM_cell_317 (by decide) ?_
      refine mv_lconst (pc := 318) (v := 1) de_PM_cell_318 (by decide) ?_
      obtain ⟨hi319, h319o⟩ := mj_obE h313
      obtain ⟨r319, Mm319, hz319, h319⟩ := mj_callE h319o
      refine mv_callV (pc := 319) (n := 2) (av := [.long 0, .long 1]) (rest := []) de_PM_cell_319 (kc_1 l D E B sa) hi319 (cm_PM_least l D E B sa N M v0 0 1 _ _ hz319) wt_4_217 wt_4_219 wp_29 wt_1_8 wt_4_220 ⟨by decide, by decide, by decide +kernel⟩ rfl ⟨Nat.le_of_ble_eq_true rfl, Nat.le_of_ble_eq_true rfl⟩ (Nat.le_of_ble_eq_true rfl) rfl ?_
      exact mv_sub [0, 1] rfl (tb_PM_cell_322 l D E B sa M0 M1 r N Mm319 v0 v4 h319)
  · exact mv_sub [0, 1] rfl (tb_PM_cell_322 l D E B sa M0 M1 r N M v0 v4 h304)
set_option maxHeartbeats 4000000 in
set_option maxRecDepth 100000 in
theorem tb_PM_cell_291 (l : Launch) (D : va_G) (E : Nat → ClassId) (B : Nat) (sa : (Nat → Nat) × Nat × (Nat → Int32)) (M0 M1 : mv_M) (r : Unit) (N : Nat) (M : mv_M) (v0 : Nat) (v4 : Int32) (hJ : jb_PM_cell_291 N M v0 v4 = some (r, M1)) : mv_G (xg l D E B sa) kd_PM_cell M0 M1 none M 291 [(0, va_rf (some v0)), (4, .int v4)] [] := by
  unfold jb_PM_cell_291 at hJ
  refine mv_aload_n (pc := 291) (i := 0) de_PM_cell_291 rfl 0 rfl ?_
  refine mv_aload_n (pc := 292) (i := 0) de_PM_cell_292 rfl 0 rfl ?_
  refine mv_getL (pc := 293) (f := 0) (kc_1 l D E B sa) (Nat.le_of_ble_eq_true rfl) wt_4_80 de_PM_cell_293 hJ (fun x293 e293 h293 => ?_)
  refine mv_lneg (pc := 296) de_PM_cell_296 ?_
  refine mv_put (pc := 297) (f := 0) (kc_1 l D E B sa) (Nat.le_of_ble_eq_true rfl) wt_4_80 rfl rfl rfl de_PM_cell_297 h293 (fun Mm297 e297 h297 => ?_)
  exact mv_sub [0, 1] rfl (tb_PM_cell_300 l D E B sa M0 M1 r N Mm297 v0 v4 h297)
set_option maxHeartbeats 4000000 in
set_option maxRecDepth 100000 in
theorem tb_PM_cell_201 (l : Launch) (D : va_G) (E : Nat → ClassId) (B : Nat) (sa : (Nat → Nat) × Nat × (Nat → Int32)) (M0 M1 : mv_M) (r : Unit) (N : Nat) : ∀ (n : Nat) (M : mv_M) (v0 : Nat) (v3 : Int32) (v5 : Int32) (v6 : Int64) (v8 : Int64) (v10 : Int32) (hJ : jb_PM_cell_201 N n M v0 v3 v5 v6 v8 v10 = some (r, M1)), mv_G (xg l D E B sa) kd_PM_cell M0 M1 none M 201 [(0, va_rf (some v0)), (3, .int v3), (5, .int v5), (6, .long v6), (8, .long v8), (10, .int v10)] [] := by
  intro n
  induction n with
  | zero => intro M v0 v3 v5 v6 v8 v10 hJ; cases hJ
  | succ n ih =>
    intro M v0 v3 v5 v6 v8 v10 hJ
    rw [jb_PM_cell_201] at hJ
    refine mv_iload (pc := 201) de_PM_cell_201 5 rfl ?_
    refine mv_aload_n (pc := 203) (i := 0) de_PM_cell_203 rfl 0 rfl ?_
    refine mv_iload_n (pc := 204) (i := 3) de_PM_cell_204 rfl 1 rfl ?_
    obtain ⟨hi205, h205o⟩ := mj_obE hJ
    obtain ⟨r205, Mm205, hz205, h205⟩ := mj_callE h205o
    refine mv_callV (pc := 205) (n := 1) (av := [.int v3]) (rest := [.int v10]) de_PM_cell_205 (kc_1 l D E B sa) hi205 (cm_PM_cells l D E B sa N M v0 v3 _ _ hz205) wt_4_213 wt_4_215 wp_28 wt_1_8 wt_4_216 ⟨by decide, by decide, by decide +kernel⟩ rfl ⟨Nat.le_of_ble_eq_true rfl, Nat.le_of_ble_eq_true rfl⟩ (Nat.le_of_ble_eq_true rfl) rfl ?_
    refine mv_icmp_ge (pc := 208) (tgt := 257) de_PM_cell_208 (by decide) h205 (fun hc208 h208 => ?_) (fun hc208 h208 => ?_)
    · refine mv_goto (pc := 257) (tgt := 349) de_PM_cell_257 (by decide) ?_
      exact mv_sub [] rfl (tb_PM_cell_349 l D E B sa M0 M1 r N Mm205 h208)
    · refine mv_aload_n (pc := 211) (i := 0) de_PM_cell_211 rfl 0 rfl ?_
      refine mv_lload (pc := 212) de_PM_cell_212 3 rfl ?_
      refine mv_lload (pc := 214) de_PM_cell_214 4 rfl ?_
      refine mv_aload_n (pc := 216) (i := 0) de_PM_cell_216 rfl 0 rfl ?_
      refine mv_getR (pc := 217) (f := 9) (kc_1 l D E B sa) (Nat.le_of_ble_eq_true rfl) wt_4_89 de_PM_cell_217 h208 (fun x217 e217 h217 => ?_)
      refine mv_iload (pc := 220) de_PM_cell_220 2 rfl ?_
      refine mv_iload (pc := 222) de_PM_cell_222 5 rfl ?_
      refine mv_iadd (pc := 224) de_PM_cell_224 ?_
      obtain ⟨a225, ha, h225a⟩ := mj_bindE h217
      subst ha
      refine mv_lald (pc := 225) (t := 1) rfl de_PM_cell_225 h225a (fun x225 e225 h225 => ?_)
      refine mv_aload_n (pc := 226) (i := 0) de_PM_cell_226 rfl 0 rfl ?_
      refine mv_getR (pc := 227) (f := 10) (kc_1 l D E B sa) (Nat.le_of_ble_eq_true rfl) wt_4_90 de_PM_cell_227 h225 (fun x227 e227 h227 => ?_)
      refine mv_iload (pc := 230) de_PM_cell_230 2 rfl ?_
      refine mv_iload (pc := 232) de_PM_cell_232 5 rfl ?_
      refine mv_iadd (pc := 234) de_PM_cell_234 ?_
      obtain ⟨a235, ha, h235a⟩ := mj_bindE h227
      subst ha
      refine mv_lald (pc := 235) (t := 1) rfl de_PM_cell_235 h235a (fun x235 e235 h235 => ?_)
      obtain ⟨hi236, h236o⟩ := mj_obE h235
      obtain ⟨r236, Mm236, hz236, h236⟩ := mj_callE h236o
      refine mv_callV (pc := 236) (n := 4) (av := [.long v6, .long v8, .long x225, .long x235]) (rest := []) de_PM_cell_236 (kc_1 l D E B sa) hi236 (cm_PM_plus l D E B sa N Mm205 v0 v6 v8 x225 x235 _ _ hz236) wt_5_26 wt_5_28 wp_37 wt_1_8 wt_5_29 ⟨by decide, by decide, by decide +kernel⟩ rfl ⟨Nat.le_of_ble_eq_true rfl, Nat.le_of_ble_eq_true rfl⟩ (Nat.le_of_ble_eq_true rfl) rfl ?_
      refine mv_aload_n (pc := 239) (i := 0) de_PM_cell_239 rfl 0 rfl ?_
      refine mv_getL (pc := 240) (f := 0) (kc_1 l D E B sa) (Nat.le_of_ble_eq_true rfl) wt_4_80 de_PM_cell_240 h236 (fun x240 e240 h240 => ?_)
      refine mv_lstore (pc := 243) (lv' := [(6, .long x240), (0, va_rf (some v0)), (3, .int v3), (5, .int v5), (8, .long v8), (10, .int v10)]) de_PM_cell_243 (Nat.le_of_ble_eq_true rfl) rfl ?_
      refine mv_aload_n (pc := 245) (i := 0) de_PM_cell_245 rfl 1 rfl ?_
      refine mv_getL (pc := 246) (f := 1) (kc_1 l D E B sa) (Nat.le_of_ble_eq_true rfl) wt_4_81 de_PM_cell_246 h240 (fun x246 e246 h246 => ?_)
      refine mv_lstore (pc := 249) (lv' := [(8, .long x246), (6, .long x240), (0, va_rf (some v0)), (3, .int v3), (5, .int v5), (10, .int v10)]) de_PM_cell_249 (Nat.le_of_ble_eq_true rfl) rfl ?_
      refine mv_iinc (pc := 251) (v := (v10 + 1)) (lv' := [(10, .int (v10 + 1)), (8, .long x246), (6, .long x240), (0, va_rf (some v0)), (3, .int v3), (5, .int v5)]) de_PM_cell_251 5 rfl rfl (Nat.le_of_ble_eq_true rfl) rfl ?_
      refine mv_goto (pc := 254) (tgt := 201) de_PM_cell_254 (by decide) ?_
      exact mv_sub [3, 4, 5, 2, 1, 0] rfl (ih Mm236 v0 v3 v5 x240 x246 (v10 + 1) h246)
set_option maxHeartbeats 4000000 in
set_option maxRecDepth 100000 in
theorem tb_PM_cell_0 (l : Launch) (D : va_G) (E : Nat → ClassId) (B : Nat) (sa : (Nat → Nat) × Nat × (Nat → Int32)) (M0 M1 : mv_M) (r : Unit) (N : Nat) (M : mv_M) (v0 : Nat) (v1 : Int32) (v2 : Int32) (hJ : jb_PM_cell_0 N M v0 v1 v2 = some (r, M1)) : mv_G (xg l D E B sa) kd_PM_cell M0 M1 none M 0 [(0, va_rf (some v0)), (1, .int v1), (2, .int v2)] [] := by
  unfold jb_PM_cell_0 at hJ
  refine mv_aload_n (pc := 0) (i := 0) de_PM_cell_0 rfl 0 rfl ?_
  refine mv_getR (pc := 1) (f := 4) (kc_1 l D E B sa) (Nat.le_of_ble_eq_true rfl) wt_4_84 de_PM_cell_1 hJ (fun x1 e1 h1 => ?_)
  refine mv_iload_n (pc := 4) (i := 1) de_PM_cell_4 rfl 1 rfl ?_
  obtain ⟨a5, ha, h5a⟩ := mj_bindE h1
  subst ha
  refine mv_iald (pc := 5) (t := 0) rfl de_PM_cell_5 h5a (fun x5 e5 h5 => ?_)
  refine mv_istore_n (pc := 6) (i := 3) (lv' := [(3, .int x5), (0, va_rf (some v0)), (1, .int v1), (2, .int v2)]) de_PM_cell_6 rfl (Nat.le_of_ble_eq_true rfl) rfl ?_
  refine mv_aload_n (pc := 7) (i := 0) de_PM_cell_7 rfl 1 rfl ?_
  refine mv_getR (pc := 8) (f := 3) (kc_1 l D E B sa) (Nat.le_of_ble_eq_true rfl) wt_4_83 de_PM_cell_8 h5 (fun x8 e8 h8 => ?_)
  refine mv_iload_n (pc := 11) (i := 1) de_PM_cell_11 rfl 2 rfl ?_
  obtain ⟨a12, ha, h12a⟩ := mj_bindE h8
  subst ha
  refine mv_iald (pc := 12) (t := 0) rfl de_PM_cell_12 h12a (fun x12 e12 h12 => ?_)
  refine mv_istore (pc := 13) (lv' := [(4, .int x12), (3, .int x5), (0, va_rf (some v0)), (1, .int v1), (2, .int v2)]) de_PM_cell_13 (Nat.le_of_ble_eq_true rfl) rfl ?_
  refine mv_bipush (pc := 15) (v := 64) de_PM_cell_15 (by decide) ?_
  refine mv_iload_n (pc := 17) (i := 3) de_PM_cell_17 rfl 1 rfl ?_
  refine mv_imul (pc := 18) de_PM_cell_18 ?_
  refine mv_istore (pc := 19) (lv' := [(5, .int (64 * x5)), (4, .int x12), (3, .int x5), (0, va_rf (some v0)), (1, .int v1), (2, .int v2)]) de_PM_cell_19 (Nat.le_of_ble_eq_true rfl) rfl ?_
  refine mv_iload (pc := 21) de_PM_cell_21 1 rfl ?_
  refine mv_iconst (pc := 23) (v := 4) de_PM_cell_23 (by decide) ?_
  refine mv_icmp_ge (pc := 24) (tgt := 100) de_PM_cell_24 (by decide) h12 (fun hc24 h24 => ?_) (fun hc24 h24 => ?_)
  · refine mv_iload (pc := 100) de_PM_cell_100 1 rfl ?_
    refine mv_iconst (pc := 102) (v := 4) de_PM_cell_102 (by decide) ?_
    refine mv_icmp_ne (pc := 103) (tgt := 115) de_PM_cell_103 (by decide) h24 (fun hc103 h103 => ?_) (fun hc103 h103 => ?_)
    · refine mv_aload_n (pc := 106) (i := 0) de_PM_cell_106 rfl 3 rfl ?_
      refine mv_iload_n (pc := 107) (i := 1) de_PM_cell_107 rfl 4 rfl ?_
      refine mv_iload_n (pc := 108) (i := 2) de_PM_cell_108 rfl 5 rfl ?_
      obtain ⟨hi109, h109o⟩ := mj_obE h103
      obtain ⟨r109, Mm109, hz109, h109⟩ := mj_callE h109o
      refine mv_callV (pc := 109) (n := 2) (av := [.int v1, .int v2]) (rest := []) de_PM_cell_109 (kc_1 l D E B sa) hi109 (cm_PM_product l D E B sa N M v0 v1 v2 _ _ hz109) wt_5_38 wt_5_40 wp_40 wt_1_8 wt_5_41 ⟨by decide, by decide, by decide +kernel⟩ rfl ⟨Nat.le_of_ble_eq_true rfl, Nat.le_of_ble_eq_true rfl⟩ (Nat.le_of_ble_eq_true rfl) rfl ?_
      refine mv_goto (pc := 112) (tgt := 349) de_PM_cell_112 (by decide) ?_
      exact mv_sub [] rfl (tb_PM_cell_349 l D E B sa M0 M1 r N Mm109 h109)
    · refine mv_iload (pc := 115) de_PM_cell_115 1 rfl ?_
      refine mv_bipush (pc := 117) (v := 8) de_PM_cell_117 (by decide) ?_
      refine mv_icmp_ge (pc := 119) (tgt := 131) de_PM_cell_119 (by decide) h103 (fun hc119 h119 => ?_) (fun hc119 h119 => ?_)
      · refine mv_iload (pc := 131) de_PM_cell_131 1 rfl ?_
        refine mv_bipush (pc := 133) (v := 8) de_PM_cell_133 (by decide) ?_
        refine mv_icmp_ne (pc := 135) (tgt := 162) de_PM_cell_135 (by decide) h119 (fun hc135 h135 => ?_) (fun hc135 h135 => ?_)
        · refine mv_aload_n (pc := 138) (i := 0) de_PM_cell_138 rfl 3 rfl ?_
          refine mv_iload (pc := 139) de_PM_cell_139 0 rfl ?_
          refine mv_aload_n (pc := 141) (i := 0) de_PM_cell_141 rfl 3 rfl ?_
          refine mv_getR (pc := 142) (f := 5) (kc_1 l D E B sa) (Nat.le_of_ble_eq_true rfl) wt_4_85 de_PM_cell_142 h135 (fun x142 e142 h142 => ?_)
          refine mv_iload_n (pc := 145) (i := 1) de_PM_cell_145 rfl 4 rfl ?_
          obtain ⟨a146, ha, h146a⟩ := mj_bindE h142
          subst ha
          refine mv_iald (pc := 146) (t := 0) rfl de_PM_cell_146 h146a (fun x146 e146 h146 => ?_)
          refine mv_aload_n (pc := 147) (i := 0) de_PM_cell_147 rfl 3 rfl ?_
          refine mv_iload_n (pc := 148) (i := 1) de_PM_cell_148 rfl 4 rfl ?_
          obtain ⟨hi149, h149o⟩ := mj_obE h146
          obtain ⟨r149, Mm149, hz149, h149⟩ := mj_callE h149o
          refine mv_callV (pc := 149) (n := 1) (av := [.int v1]) (rest := [.int x146, .int (64 * x5), va_rf (some v0)]) de_PM_cell_149 (kc_1 l D E B sa) hi149 (cm_PM_cells l D E B sa N M v0 v1 _ _ hz149) wt_4_213 wt_4_215 wp_28 wt_1_8 wt_4_216 ⟨by decide, by decide, by decide +kernel⟩ rfl ⟨Nat.le_of_ble_eq_true rfl, Nat.le_of_ble_eq_true rfl⟩ (Nat.le_of_ble_eq_true rfl) rfl ?_
          refine mv_imul (pc := 152) de_PM_cell_152 ?_
          refine mv_iadd (pc := 153) de_PM_cell_153 ?_
          refine mv_iload_n (pc := 154) (i := 2) de_PM_cell_154 rfl 5 rfl ?_
          refine mv_iadd (pc := 155) de_PM_cell_155 ?_
          obtain ⟨hi156, h156o⟩ := mj_obE h149
          obtain ⟨r156, Mm156, hz156, h156⟩ := mj_callE h156o
          refine mv_callV (pc := 156) (n := 1) (av := [.int (((64 * x5) + (x146 * r149)) + v2)]) (rest := []) de_PM_cell_156 (kc_1 l D E B sa) hi156 (cm_PM_load l D E B sa N Mm149 v0 (((64 * x5) + (x146 * r149)) + v2) _ _ hz156) wt_5_57 wt_5_59 wp_44 wt_1_8 wt_5_60 ⟨by decide, by decide, by decide +kernel⟩ rfl ⟨Nat.le_of_ble_eq_true rfl, Nat.le_of_ble_eq_true rfl⟩ (Nat.le_of_ble_eq_true rfl) rfl ?_
          refine mv_goto (pc := 159) (tgt := 349) de_PM_cell_159 (by decide) ?_
          exact mv_sub [] rfl (tb_PM_cell_349 l D E B sa M0 M1 r N Mm156 h156)
        · refine mv_iload (pc := 162) de_PM_cell_162 1 rfl ?_
          refine mv_bipush (pc := 164) (v := 9) de_PM_cell_164 (by decide) ?_
          refine mv_icmp_ne (pc := 166) (tgt := 185) de_PM_cell_166 (by decide) h135 (fun hc166 h166 => ?_) (fun hc166 h166 => ?_)
          · refine mv_aload_n (pc := 169) (i := 0) de_PM_cell_169 rfl 3 rfl ?_
            refine mv_iload (pc := 170) de_PM_cell_170 0 rfl ?_
            refine mv_aload_n (pc := 172) (i := 0) de_PM_cell_172 rfl 3 rfl ?_
            refine mv_iload_n (pc := 173) (i := 3) de_PM_cell_173 rfl 2 rfl ?_
            refine mv_iload_n (pc := 174) (i := 2) de_PM_cell_174 rfl 5 rfl ?_
            obtain ⟨hi175, h175o⟩ := mj_obE h166
            obtain ⟨r175, Mm175, hz175, h175⟩ := mj_callE h175o
            refine mv_callV (pc := 175) (n := 2) (av := [.int x5, .int v2]) (rest := [.int (64 * x5), va_rf (some v0)]) de_PM_cell_175 (kc_1 l D E B sa) hi175 (cm_PM_turnedCell l D E B sa N M v0 x5 v2 _ _ hz175) wt_5_61 wt_5_63 wp_45 wt_1_8 wt_5_64 ⟨by decide, by decide, by decide +kernel⟩ rfl ⟨Nat.le_of_ble_eq_true rfl, Nat.le_of_ble_eq_true rfl⟩ (Nat.le_of_ble_eq_true rfl) rfl ?_
            refine mv_iadd (pc := 178) de_PM_cell_178 ?_
            obtain ⟨hi179, h179o⟩ := mj_obE h175
            obtain ⟨r179, Mm179, hz179, h179⟩ := mj_callE h179o
            refine mv_callV (pc := 179) (n := 1) (av := [.int ((64 * x5) + r175)]) (rest := []) de_PM_cell_179 (kc_1 l D E B sa) hi179 (cm_PM_load l D E B sa N Mm175 v0 ((64 * x5) + r175) _ _ hz179) wt_5_57 wt_5_59 wp_44 wt_1_8 wt_5_60 ⟨by decide, by decide, by decide +kernel⟩ rfl ⟨Nat.le_of_ble_eq_true rfl, Nat.le_of_ble_eq_true rfl⟩ (Nat.le_of_ble_eq_true rfl) rfl ?_
            refine mv_goto (pc := 182) (tgt := 349) de_PM_cell_182 (by decide) ?_
            exact mv_sub [] rfl (tb_PM_cell_349 l D E B sa M0 M1 r N Mm179 h179)
          · refine mv_iload (pc := 185) de_PM_cell_185 1 rfl ?_
            refine mv_bipush (pc := 187) (v := 15) de_PM_cell_187 (by decide) ?_
            refine mv_icmp_ne (pc := 189) (tgt := 260) de_PM_cell_189 (by decide) h166 (fun hc189 h189 => ?_) (fun hc189 h189 => ?_)
            · refine mv_lconst (pc := 192) (v := 0) de_PM_cell_192 (by decide) ?_
              refine mv_lstore (pc := 193) (lv' := [(6, .long 0), (5, .int (64 * x5)), (4, .int x12), (3, .int x5), (0, va_rf (some v0)), (1, .int v1), (2, .int v2)]) de_PM_cell_193 (Nat.le_of_ble_eq_true rfl) rfl ?_
              refine mv_lconst (pc := 195) (v := 1) de_PM_cell_195 (by decide) ?_
              refine mv_lstore (pc := 196) (lv' := [(8, .long 1), (6, .long 0), (5, .int (64 * x5)), (4, .int x12), (3, .int x5), (0, va_rf (some v0)), (1, .int v1), (2, .int v2)]) de_PM_cell_196 (Nat.le_of_ble_eq_true rfl) rfl ?_
              refine mv_iconst (pc := 198) (v := 0) de_PM_cell_198 (by decide) ?_
              refine mv_istore (pc := 199) (lv' := [(10, .int 0), (8, .long 1), (6, .long 0), (5, .int (64 * x5)), (4, .int x12), (3, .int x5), (0, va_rf (some v0)), (1, .int v1), (2, .int v2)]) de_PM_cell_199 (Nat.le_of_ble_eq_true rfl) rfl ?_
              exact mv_sub [6, 5, 3, 2, 1, 0] rfl (tb_PM_cell_201 l D E B sa M0 M1 r N N M v0 x5 (64 * x5) 0 1 0 h189)
            · refine mv_aload_n (pc := 260) (i := 0) de_PM_cell_260 rfl 3 rfl ?_
              refine mv_iload (pc := 261) de_PM_cell_261 0 rfl ?_
              refine mv_iload_n (pc := 263) (i := 2) de_PM_cell_263 rfl 5 rfl ?_
              refine mv_iadd (pc := 264) de_PM_cell_264 ?_
              obtain ⟨hi265, h265o⟩ := mj_obE h189
              obtain ⟨r265, Mm265, hz265, h265⟩ := mj_callE h265o
              refine mv_callV (pc := 265) (n := 1) (av := [.int ((64 * x5) + v2)]) (rest := []) de_PM_cell_265 (kc_1 l D E B sa) hi265 (cm_PM_load l D E B sa N M v0 ((64 * x5) + v2) _ _ hz265) wt_5_57 wt_5_59 wp_44 wt_1_8 wt_5_60 ⟨by decide, by decide, by decide +kernel⟩ rfl ⟨Nat.le_of_ble_eq_true rfl, Nat.le_of_ble_eq_true rfl⟩ (Nat.le_of_ble_eq_true rfl) rfl ?_
              refine mv_iload (pc := 268) de_PM_cell_268 1 rfl ?_
              refine mv_bipush (pc := 270) (v := 10) de_PM_cell_270 (by decide) ?_
              refine mv_icmp_eq (pc := 272) (tgt := 291) de_PM_cell_272 (by decide) h265 (fun hc272 h272 => ?_) (fun hc272 h272 => ?_)
              · exact mv_sub [3, 1] rfl (tb_PM_cell_291 l D E B sa M0 M1 r N Mm265 v0 x12 h272)
              · refine mv_iload (pc := 275) de_PM_cell_275 1 rfl ?_
                refine mv_bipush (pc := 277) (v := 12) de_PM_cell_277 (by decide) ?_
                refine mv_icmp_ne (pc := 279) (tgt := 300) de_PM_cell_279 (by decide) h272 (fun hc279 h279 => ?_) (fun hc279 h279 => ?_)
                · refine mv_aload_n (pc := 282) (i := 0) de_PM_cell_282 rfl 3 rfl ?_
                  refine mv_getL (pc := 283) (f := 0) (kc_1 l D E B sa) (Nat.le_of_ble_eq_true rfl) wt_4_80 de_PM_cell_283 h279 (fun x283 e283 h283 => ?_)
                  refine mv_lconst (pc := 286) (v := 0) de_PM_cell_286 (by decide) ?_
                  refine mv_lcmp (pc := 287) de_PM_cell_287 ?_
                  refine mv_if_ge (pc := 288) (tgt := 300) de_PM_cell_288 (by decide) h283 (fun hc288 h288 => ?_) (fun hc288 h288 => ?_)
                  · exact mv_sub [3, 1] rfl (tb_PM_cell_300 l D E B sa M0 M1 r N Mm265 v0 x12 h288)
                  · exact mv_sub [3, 1] rfl (tb_PM_cell_291 l D E B sa M0 M1 r N Mm265 v0 x12 h288)
                · exact mv_sub [3, 1] rfl (tb_PM_cell_300 l D E B sa M0 M1 r N Mm265 v0 x12 h279)
      · refine mv_aload_n (pc := 122) (i := 0) de_PM_cell_122 rfl 3 rfl ?_
        refine mv_iload_n (pc := 123) (i := 1) de_PM_cell_123 rfl 4 rfl ?_
        refine mv_iload_n (pc := 124) (i := 2) de_PM_cell_124 rfl 5 rfl ?_
        obtain ⟨hi125, h125o⟩ := mj_obE h119
        obtain ⟨r125, Mm125, hz125, h125⟩ := mj_callE h125o
        refine mv_callV (pc := 125) (n := 2) (av := [.int v1, .int v2]) (rest := []) de_PM_cell_125 (kc_1 l D E B sa) hi125 (cm_PM_along l D E B sa N M v0 v1 v2 _ _ hz125) wt_5_42 wt_5_44 wp_41 wt_1_8 wt_5_45 ⟨by decide, by decide, by decide +kernel⟩ rfl ⟨Nat.le_of_ble_eq_true rfl, Nat.le_of_ble_eq_true rfl⟩ (Nat.le_of_ble_eq_true rfl) rfl ?_
        refine mv_goto (pc := 128) (tgt := 349) de_PM_cell_128 (by decide) ?_
        exact mv_sub [] rfl (tb_PM_cell_349 l D E B sa M0 M1 r N Mm125 h125)
  · refine mv_iload (pc := 27) de_PM_cell_27 0 rfl ?_
    refine mv_aload_n (pc := 29) (i := 0) de_PM_cell_29 rfl 3 rfl ?_
    refine mv_iload_n (pc := 30) (i := 1) de_PM_cell_30 rfl 4 rfl ?_
    refine mv_iload_n (pc := 31) (i := 2) de_PM_cell_31 rfl 5 rfl ?_
    refine mv_iload_n (pc := 32) (i := 3) de_PM_cell_32 rfl 2 rfl ?_
    obtain ⟨hi33, h33o⟩ := mj_obE h24
    obtain ⟨r33, Mm33, hz33, h33⟩ := mj_callE h33o
    refine mv_callV (pc := 33) (n := 3) (av := [.int v1, .int v2, .int x5]) (rest := [.int (64 * x5)]) de_PM_cell_33 (kc_1 l D E B sa) hi33 (cm_PM_spreadCell l D E B sa N M v0 v1 v2 x5 _ _ hz33) wt_5_18 wt_5_20 wp_35 wt_1_8 wt_5_21 ⟨by decide, by decide, by decide +kernel⟩ rfl ⟨Nat.le_of_ble_eq_true rfl, Nat.le_of_ble_eq_true rfl⟩ (Nat.le_of_ble_eq_true rfl) rfl ?_
    refine mv_iadd (pc := 36) de_PM_cell_36 ?_
    refine mv_istore (pc := 37) (lv' := [(6, .int ((64 * x5) + r33)), (5, .int (64 * x5)), (4, .int x12), (3, .int x5), (0, va_rf (some v0)), (1, .int v1), (2, .int v2)]) de_PM_cell_37 (Nat.le_of_ble_eq_true rfl) rfl ?_
    refine mv_bipush (pc := 39) (v := 64) de_PM_cell_39 (by decide) ?_
    refine mv_aload_n (pc := 41) (i := 0) de_PM_cell_41 rfl 4 rfl ?_
    refine mv_getR (pc := 42) (f := 5) (kc_1 l D E B sa) (Nat.le_of_ble_eq_true rfl) wt_4_85 de_PM_cell_42 h33 (fun x42 e42 h42 => ?_)
    refine mv_iload_n (pc := 45) (i := 1) de_PM_cell_45 rfl 5 rfl ?_
    obtain ⟨a46, ha, h46a⟩ := mj_bindE h42
    subst ha
    refine mv_iald (pc := 46) (t := 0) rfl de_PM_cell_46 h46a (fun x46 e46 h46 => ?_)
    refine mv_imul (pc := 47) de_PM_cell_47 ?_
    refine mv_aload_n (pc := 48) (i := 0) de_PM_cell_48 rfl 4 rfl ?_
    refine mv_iload_n (pc := 49) (i := 1) de_PM_cell_49 rfl 5 rfl ?_
    refine mv_iload_n (pc := 50) (i := 2) de_PM_cell_50 rfl 6 rfl ?_
    refine mv_aload_n (pc := 51) (i := 0) de_PM_cell_51 rfl 4 rfl ?_
    refine mv_getR (pc := 52) (f := 5) (kc_1 l D E B sa) (Nat.le_of_ble_eq_true rfl) wt_4_85 de_PM_cell_52 h46 (fun x52 e52 h52 => ?_)
    refine mv_iload_n (pc := 55) (i := 1) de_PM_cell_55 rfl 5 rfl ?_
    obtain ⟨a56, ha, h56a⟩ := mj_bindE h52
    subst ha
    refine mv_iald (pc := 56) (t := 0) rfl de_PM_cell_56 h56a (fun x56 e56 h56 => ?_)
    obtain ⟨hi57, h57o⟩ := mj_obE h56
    obtain ⟨r57, Mm57, hz57, h57⟩ := mj_callE h57o
    refine mv_callV (pc := 57) (n := 3) (av := [.int v1, .int v2, .int x56]) (rest := [.int (64 * x46)]) de_PM_cell_57 (kc_1 l D E B sa) hi57 (cm_PM_spreadCell l D E B sa N Mm33 v0 v1 v2 x56 _ _ hz57) wt_5_18 wt_5_20 wp_35 wt_1_8 wt_5_21 ⟨by decide, by decide, by decide +kernel⟩ rfl ⟨Nat.le_of_ble_eq_true rfl, Nat.le_of_ble_eq_true rfl⟩ (Nat.le_of_ble_eq_true rfl) rfl ?_
    refine mv_iadd (pc := 60) de_PM_cell_60 ?_
    refine mv_istore (pc := 61) (lv' := [(7, .int ((64 * x46) + r57)), (6, .int ((64 * x5) + r33)), (5, .int (64 * x5)), (4, .int x12), (3, .int x5), (0, va_rf (some v0)), (1, .int v1), (2, .int v2)]) de_PM_cell_61 (Nat.le_of_ble_eq_true rfl) rfl ?_
    refine mv_aload_n (pc := 63) (i := 0) de_PM_cell_63 rfl 5 rfl ?_
    refine mv_iload (pc := 64) de_PM_cell_64 3 rfl ?_
    refine mv_aload_n (pc := 66) (i := 0) de_PM_cell_66 rfl 5 rfl ?_
    refine mv_getR (pc := 67) (f := 9) (kc_1 l D E B sa) (Nat.le_of_ble_eq_true rfl) wt_4_89 de_PM_cell_67 h57 (fun x67 e67 h67 => ?_)
    refine mv_iload (pc := 70) de_PM_cell_70 1 rfl ?_
    obtain ⟨a72, ha, h72a⟩ := mj_bindE h67
    subst ha
    refine mv_lald (pc := 72) (t := 1) rfl de_PM_cell_72 h72a (fun x72 e72 h72 => ?_)
    refine mv_aload_n (pc := 73) (i := 0) de_PM_cell_73 rfl 5 rfl ?_
    refine mv_getR (pc := 74) (f := 10) (kc_1 l D E B sa) (Nat.le_of_ble_eq_true rfl) wt_4_90 de_PM_cell_74 h72 (fun x74 e74 h74 => ?_)
    refine mv_iload (pc := 77) de_PM_cell_77 1 rfl ?_
    obtain ⟨a79, ha, h79a⟩ := mj_bindE h74
    subst ha
    refine mv_lald (pc := 79) (t := 1) rfl de_PM_cell_79 h79a (fun x79 e79 h79 => ?_)
    refine mv_aload_n (pc := 80) (i := 0) de_PM_cell_80 rfl 5 rfl ?_
    refine mv_getR (pc := 81) (f := 9) (kc_1 l D E B sa) (Nat.le_of_ble_eq_true rfl) wt_4_89 de_PM_cell_81 h79 (fun x81 e81 h81 => ?_)
    refine mv_iload (pc := 84) de_PM_cell_84 0 rfl ?_
    obtain ⟨a86, ha, h86a⟩ := mj_bindE h81
    subst ha
    refine mv_lald (pc := 86) (t := 1) rfl de_PM_cell_86 h86a (fun x86 e86 h86 => ?_)
    refine mv_aload_n (pc := 87) (i := 0) de_PM_cell_87 rfl 5 rfl ?_
    refine mv_getR (pc := 88) (f := 10) (kc_1 l D E B sa) (Nat.le_of_ble_eq_true rfl) wt_4_90 de_PM_cell_88 h86 (fun x88 e88 h88 => ?_)
    refine mv_iload (pc := 91) de_PM_cell_91 0 rfl ?_
    obtain ⟨a93, ha, h93a⟩ := mj_bindE h88
    subst ha
    refine mv_lald (pc := 93) (t := 1) rfl de_PM_cell_93 h93a (fun x93 e93 h93 => ?_)
    obtain ⟨hi94, h94o⟩ := mj_obE h93
    obtain ⟨r94, Mm94, hz94, h94⟩ := mj_callE h94o
    refine mv_callV (pc := 94) (n := 5) (av := [.int x12, .long x72, .long x79, .long x86, .long x93]) (rest := []) de_PM_cell_94 (kc_1 l D E B sa) hi94 (cm_PM_two l D E B sa N Mm57 v0 x12 x72 x79 x86 x93 _ _ hz94) wt_5_22 wt_5_24 wp_36 wt_1_8 wt_5_25 ⟨by decide, by decide, by decide +kernel⟩ rfl ⟨Nat.le_of_ble_eq_true rfl, Nat.le_of_ble_eq_true rfl⟩ (Nat.le_of_ble_eq_true rfl) rfl ?_
    refine mv_goto (pc := 97) (tgt := 349) de_PM_cell_97 (by decide) ?_
    exact mv_sub [] rfl (tb_PM_cell_349 l D E B sa M0 M1 r N Mm94 h94)
theorem cm_PM_cell (l : Launch) (D : va_G) (E : Nat → ClassId) (B : Nat) (sa : (Nat → Nat) × Nat × (Nat → Int32)) (N : Nat) (M : mv_M) (v0 : Nat) (v1 : Int32) (v2 : Int32) (r : Unit) (M1 : mv_M) (hJ : jf_PM_cell N M v0 v1 v2 = some (r, M1)) : mv_Met (xg l D E B sa) yn_PM_cell cd_PM_cell 11 none 3 91 [va_rf (some v0), .int v1, .int v2] M none M1 :=
  mv_enter (by decide) (Nat.le_of_ble_eq_true rfl) (mv_sub (lv := [(0, va_rf (some v0)), (1, .int v1), (2, .int v2)]) [0, 1, 2] rfl (tb_PM_cell_0 l D E B sa M M1 r N M v0 v1 v2 hJ))
/-! ===== PlainLearnerModel.reckon(I)V ===== -/
abbrev kd_PM_reckon : mv_Kd := (cd_PM_reckon, 5, "PlainLearnerModel", "reckon", none, 4, 121)
theorem de_PM_reckon_0 : decode cd_PM_reckon 0 = .ok (.iconst 0, 1) := by decide +kernel
theorem de_PM_reckon_1 : decode cd_PM_reckon 1 = .ok (.istore_n 2, 1) := by decide +kernel
theorem de_PM_reckon_2 : decode cd_PM_reckon 2 = .ok (.iload_n 2, 1) := by decide +kernel
theorem de_PM_reckon_3 : decode cd_PM_reckon 3 = .ok (.iload_n 1, 1) := by decide +kernel
theorem de_PM_reckon_4 : decode cd_PM_reckon 4 = .ok (.if_icmp .gt 83, 3) := by decide +kernel
theorem de_PM_reckon_7 : decode cd_PM_reckon 7 = .ok (.aload_n 0, 1) := by decide +kernel
theorem de_PM_reckon_8 : decode cd_PM_reckon 8 = .ok (.getfield 7, 3) := by decide +kernel
theorem de_PM_reckon_11 : decode cd_PM_reckon 11 = .ok (.iload_n 2, 1) := by decide +kernel
theorem de_PM_reckon_12 : decode cd_PM_reckon 12 = .ok (.iaload, 1) := by decide +kernel
theorem de_PM_reckon_13 : decode cd_PM_reckon 13 = .ok (.bipush (-2), 2) := by decide +kernel
theorem de_PM_reckon_15 : decode cd_PM_reckon 15 = .ok (.if_icmp .ne 6, 3) := by decide +kernel
theorem de_PM_reckon_18 : decode cd_PM_reckon 18 = .ok (.goto 63, 3) := by decide +kernel
theorem de_PM_reckon_21 : decode cd_PM_reckon 21 = .ok (.aload_n 0, 1) := by decide +kernel
theorem de_PM_reckon_22 : decode cd_PM_reckon 22 = .ok (.iload_n 2, 1) := by decide +kernel
theorem de_PM_reckon_23 : decode cd_PM_reckon 23 = .ok (.invokevirtual 114, 3) := by decide +kernel
theorem de_PM_reckon_26 : decode cd_PM_reckon 26 = .ok (.istore_n 3, 1) := by decide +kernel
theorem de_PM_reckon_27 : decode cd_PM_reckon 27 = .ok (.iconst 0, 1) := by decide +kernel
theorem de_PM_reckon_28 : decode cd_PM_reckon 28 = .ok (.istore 4, 2) := by decide +kernel
theorem de_PM_reckon_30 : decode cd_PM_reckon 30 = .ok (.iload 4, 2) := by decide +kernel
theorem de_PM_reckon_32 : decode cd_PM_reckon 32 = .ok (.iload_n 3, 1) := by decide +kernel
theorem de_PM_reckon_33 : decode cd_PM_reckon 33 = .ok (.if_icmp .ge 48, 3) := by decide +kernel
theorem de_PM_reckon_36 : decode cd_PM_reckon 36 = .ok (.aload_n 0, 1) := by decide +kernel
theorem de_PM_reckon_37 : decode cd_PM_reckon 37 = .ok (.iload_n 2, 1) := by decide +kernel
theorem de_PM_reckon_38 : decode cd_PM_reckon 38 = .ok (.iload 4, 2) := by decide +kernel
theorem de_PM_reckon_40 : decode cd_PM_reckon 40 = .ok (.invokevirtual 137, 3) := by decide +kernel
theorem de_PM_reckon_43 : decode cd_PM_reckon 43 = .ok (.aload_n 0, 1) := by decide +kernel
theorem de_PM_reckon_44 : decode cd_PM_reckon 44 = .ok (.getfield 29, 3) := by decide +kernel
theorem de_PM_reckon_47 : decode cd_PM_reckon 47 = .ok (.bipush 64, 2) := by decide +kernel
theorem de_PM_reckon_49 : decode cd_PM_reckon 49 = .ok (.iload_n 2, 1) := by decide +kernel
theorem de_PM_reckon_50 : decode cd_PM_reckon 50 = .ok (.imul, 1) := by decide +kernel
theorem de_PM_reckon_51 : decode cd_PM_reckon 51 = .ok (.iload 4, 2) := by decide +kernel
theorem de_PM_reckon_53 : decode cd_PM_reckon 53 = .ok (.iadd, 1) := by decide +kernel
theorem de_PM_reckon_54 : decode cd_PM_reckon 54 = .ok (.aload_n 0, 1) := by decide +kernel
theorem de_PM_reckon_55 : decode cd_PM_reckon 55 = .ok (.getfield 81, 3) := by decide +kernel
theorem de_PM_reckon_58 : decode cd_PM_reckon 58 = .ok (.lastore, 1) := by decide +kernel
theorem de_PM_reckon_59 : decode cd_PM_reckon 59 = .ok (.aload_n 0, 1) := by decide +kernel
theorem de_PM_reckon_60 : decode cd_PM_reckon 60 = .ok (.getfield 33, 3) := by decide +kernel
theorem de_PM_reckon_63 : decode cd_PM_reckon 63 = .ok (.bipush 64, 2) := by decide +kernel
theorem de_PM_reckon_65 : decode cd_PM_reckon 65 = .ok (.iload_n 2, 1) := by decide +kernel
theorem de_PM_reckon_66 : decode cd_PM_reckon 66 = .ok (.imul, 1) := by decide +kernel
theorem de_PM_reckon_67 : decode cd_PM_reckon 67 = .ok (.iload 4, 2) := by decide +kernel
theorem de_PM_reckon_69 : decode cd_PM_reckon 69 = .ok (.iadd, 1) := by decide +kernel
theorem de_PM_reckon_70 : decode cd_PM_reckon 70 = .ok (.aload_n 0, 1) := by decide +kernel
theorem de_PM_reckon_71 : decode cd_PM_reckon 71 = .ok (.getfield 84, 3) := by decide +kernel
theorem de_PM_reckon_74 : decode cd_PM_reckon 74 = .ok (.lastore, 1) := by decide +kernel
theorem de_PM_reckon_75 : decode cd_PM_reckon 75 = .ok (.iinc 4 1, 3) := by decide +kernel
theorem de_PM_reckon_78 : decode cd_PM_reckon 78 = .ok (.goto (-48), 3) := by decide +kernel
theorem de_PM_reckon_81 : decode cd_PM_reckon 81 = .ok (.iinc 2 1, 3) := by decide +kernel
theorem de_PM_reckon_84 : decode cd_PM_reckon 84 = .ok (.goto (-82), 3) := by decide +kernel
theorem de_PM_reckon_87 : decode cd_PM_reckon 87 = .ok (.return_, 1) := by decide +kernel
def jb_PM_reckon_81 (N : Nat) (k2 : mv_M → Nat → Int32 → Int32 → Option (Unit × mv_M)) (M : mv_M) (v0 : Nat) (v1 : Int32) (v2 : Int32) : Option (Unit × mv_M) :=
  k2 M v0 v1 (v2 + 1)
def jb_PM_reckon_30 (N : Nat) (k2 : mv_M → Nat → Int32 → Int32 → Option (Unit × mv_M)) : Nat → mv_M → Nat → Int32 → Int32 → Int32 → Int32 → Option (Unit × mv_M)
  | 0, _, _, _, _, _, _ => none
  | n + 1, M, v0, v1, v2, v3, v4 =>
    if v3 ≤ v4 then (jb_PM_reckon_81 N k2 M v0 v1 v2) else
    mj_ob M v0 1 <|
    mj_call (jf_PM_cell N M v0 v2 v4) fun r40 Mm40 =>
    Option.bind (mj_getR Mm40 v0 1 9) fun x44 =>
    Option.bind (mj_getL Mm40 v0 1 0) fun x55 =>
    Option.bind x44 fun a58 =>
    Option.bind (mj_lst Mm40 a58 1 ((64 * v2) + v4) x55) fun Mm58 =>
    Option.bind (mj_getR Mm58 v0 1 10) fun x60 =>
    Option.bind (mj_getL Mm58 v0 1 1) fun x71 =>
    Option.bind x60 fun a74 =>
    Option.bind (mj_lst Mm58 a74 1 ((64 * v2) + v4) x71) fun Mm74 =>
    jb_PM_reckon_30 N k2 n Mm74 v0 v1 v2 v3 (v4 + 1)
def jb_PM_reckon_2 (N : Nat) : Nat → mv_M → Nat → Int32 → Int32 → Option (Unit × mv_M)
  | 0, _, _, _, _ => none
  | n + 1, M, v0, v1, v2 =>
    if v1 < v2 then (some ((), M)) else
    Option.bind (mj_getR M v0 1 3) fun x8 =>
    Option.bind x8 fun a12 =>
    Option.bind (mj_ild M a12 0 v2) fun x12 =>
    if x12 = (-2) then (jb_PM_reckon_81 N (jb_PM_reckon_2 N n) M v0 v1 v2) else
    mj_ob M v0 1 <|
    mj_call (jf_PM_cells N M v0 v2) fun r23 Mm23 =>
    jb_PM_reckon_30 N (jb_PM_reckon_2 N n) N Mm23 v0 v1 v2 r23 0
def jb_PM_reckon_0 (N : Nat) (M : mv_M) (v0 : Nat) (v1 : Int32) : Option (Unit × mv_M) :=
  jb_PM_reckon_2 N N M v0 v1 0
def jf_PM_reckon (N : Nat) (M : mv_M) (v0 : Nat) (v1 : Int32) : Option (Unit × mv_M) := jb_PM_reckon_0 N M v0 v1
set_option maxHeartbeats 4000000 in
set_option maxRecDepth 100000 in
theorem tb_PM_reckon_81 (l : Launch) (D : va_G) (E : Nat → ClassId) (B : Nat) (sa : (Nat → Nat) × Nat × (Nat → Int32)) (M0 M1 : mv_M) (r : Unit) (N : Nat) (k2 : mv_M → Nat → Int32 → Int32 → Option (Unit × mv_M)) (hk2 : ∀ (M : mv_M) (v0 : Nat) (v1 : Int32) (v2 : Int32), k2 M v0 v1 v2 = some (r, M1) → mv_G (xg l D E B sa) kd_PM_reckon M0 M1 none M 2 [(0, va_rf (some v0)), (1, .int v1), (2, .int v2)] []) (M : mv_M) (v0 : Nat) (v1 : Int32) (v2 : Int32) (hJ : jb_PM_reckon_81 N k2 M v0 v1 v2 = some (r, M1)) : mv_G (xg l D E B sa) kd_PM_reckon M0 M1 none M 81 [(0, va_rf (some v0)), (1, .int v1), (2, .int v2)] [] := by
  unfold jb_PM_reckon_81 at hJ
  refine mv_iinc (pc := 81) (v := (v2 + 1)) (lv' := [(2, .int (v2 + 1)), (0, va_rf (some v0)), (1, .int v1)]) de_PM_reckon_81 2 rfl rfl (Nat.le_of_ble_eq_true rfl) rfl ?_
  refine mv_goto (pc := 84) (tgt := 2) de_PM_reckon_84 (by decide) ?_
  exact mv_sub [1, 2, 0] rfl (hk2 M v0 v1 (v2 + 1) hJ)
set_option maxHeartbeats 4000000 in
set_option maxRecDepth 100000 in
theorem tb_PM_reckon_30 (l : Launch) (D : va_G) (E : Nat → ClassId) (B : Nat) (sa : (Nat → Nat) × Nat × (Nat → Int32)) (M0 M1 : mv_M) (r : Unit) (N : Nat) (k2 : mv_M → Nat → Int32 → Int32 → Option (Unit × mv_M)) (hk2 : ∀ (M : mv_M) (v0 : Nat) (v1 : Int32) (v2 : Int32), k2 M v0 v1 v2 = some (r, M1) → mv_G (xg l D E B sa) kd_PM_reckon M0 M1 none M 2 [(0, va_rf (some v0)), (1, .int v1), (2, .int v2)] []) : ∀ (n : Nat) (M : mv_M) (v0 : Nat) (v1 : Int32) (v2 : Int32) (v3 : Int32) (v4 : Int32) (hJ : jb_PM_reckon_30 N k2 n M v0 v1 v2 v3 v4 = some (r, M1)), mv_G (xg l D E B sa) kd_PM_reckon M0 M1 none M 30 [(0, va_rf (some v0)), (1, .int v1), (2, .int v2), (3, .int v3), (4, .int v4)] [] := by
  intro n
  induction n with
  | zero => intro M v0 v1 v2 v3 v4 hJ; cases hJ
  | succ n ih =>
    intro M v0 v1 v2 v3 v4 hJ
    rw [jb_PM_reckon_30] at hJ
    refine mv_iload (pc := 30) de_PM_reckon_30 4 rfl ?_
    refine mv_iload_n (pc := 32) (i := 3) de_PM_reckon_32 rfl 3 rfl ?_
    refine mv_icmp_ge (pc := 33) (tgt := 81) de_PM_reckon_33 (by decide) hJ (fun hc33 h33 => ?_) (fun hc33 h33 => ?_)
    · exact mv_sub [0, 1, 2] rfl (tb_PM_reckon_81 l D E B sa M0 M1 r N k2 hk2 M v0 v1 v2 h33)
    · refine mv_aload_n (pc := 36) (i := 0) de_PM_reckon_36 rfl 0 rfl ?_
      refine mv_iload_n (pc := 37) (i := 2) de_PM_reckon_37 rfl 2 rfl ?_
      refine mv_iload (pc := 38) de_PM_reckon_38 4 rfl ?_
      obtain ⟨hi40, h40o⟩ := mj_obE h33
      obtain ⟨r40, Mm40, hz40, h40⟩ := mj_callE h40o
      refine mv_callV (pc := 40) (n := 2) (av := [.int v2, .int v4]) (rest := []) de_PM_reckon_40 (kc_1 l D E B sa) hi40 (cm_PM_cell l D E B sa N M v0 v2 v4 _ _ hz40) wt_5_14 wt_5_16 wp_34 wt_1_8 wt_5_17 ⟨by decide, by decide, by decide +kernel⟩ rfl ⟨Nat.le_of_ble_eq_true rfl, Nat.le_of_ble_eq_true rfl⟩ (Nat.le_of_ble_eq_true rfl) rfl ?_
      refine mv_aload_n (pc := 43) (i := 0) de_PM_reckon_43 rfl 0 rfl ?_
      refine mv_getR (pc := 44) (f := 9) (kc_1 l D E B sa) (Nat.le_of_ble_eq_true rfl) wt_4_89 de_PM_reckon_44 h40 (fun x44 e44 h44 => ?_)
      refine mv_bipush (pc := 47) (v := 64) de_PM_reckon_47 (by decide) ?_
      refine mv_iload_n (pc := 49) (i := 2) de_PM_reckon_49 rfl 2 rfl ?_
      refine mv_imul (pc := 50) de_PM_reckon_50 ?_
      refine mv_iload (pc := 51) de_PM_reckon_51 4 rfl ?_
      refine mv_iadd (pc := 53) de_PM_reckon_53 ?_
      refine mv_aload_n (pc := 54) (i := 0) de_PM_reckon_54 rfl 0 rfl ?_
      refine mv_getL (pc := 55) (f := 0) (kc_1 l D E B sa) (Nat.le_of_ble_eq_true rfl) wt_4_80 de_PM_reckon_55 h44 (fun x55 e55 h55 => ?_)
      obtain ⟨a58, ha, h58a⟩ := mj_bindE h55
      subst ha
      refine mv_last (pc := 58) (t := 1) rfl de_PM_reckon_58 h58a (fun Mm58 e58 h58 => ?_)
      refine mv_aload_n (pc := 59) (i := 0) de_PM_reckon_59 rfl 0 rfl ?_
      refine mv_getR (pc := 60) (f := 10) (kc_1 l D E B sa) (Nat.le_of_ble_eq_true rfl) wt_4_90 de_PM_reckon_60 h58 (fun x60 e60 h60 => ?_)
      refine mv_bipush (pc := 63) (v := 64) de_PM_reckon_63 (by decide) ?_
      refine mv_iload_n (pc := 65) (i := 2) de_PM_reckon_65 rfl 2 rfl ?_
      refine mv_imul (pc := 66) de_PM_reckon_66 ?_
      refine mv_iload (pc := 67) de_PM_reckon_67 4 rfl ?_
      refine mv_iadd (pc := 69) de_PM_reckon_69 ?_
      refine mv_aload_n (pc := 70) (i := 0) de_PM_reckon_70 rfl 0 rfl ?_
      refine mv_getL (pc := 71) (f := 1) (kc_1 l D E B sa) (Nat.le_of_ble_eq_true rfl) wt_4_81 de_PM_reckon_71 h60 (fun x71 e71 h71 => ?_)
      obtain ⟨a74, ha, h74a⟩ := mj_bindE h71
      subst ha
      refine mv_last (pc := 74) (t := 1) rfl de_PM_reckon_74 h74a (fun Mm74 e74 h74 => ?_)
      refine mv_iinc (pc := 75) (v := (v4 + 1)) (lv' := [(4, .int (v4 + 1)), (0, va_rf (some v0)), (1, .int v1), (2, .int v2), (3, .int v3)]) de_PM_reckon_75 4 rfl rfl (Nat.le_of_ble_eq_true rfl) rfl ?_
      refine mv_goto (pc := 78) (tgt := 30) de_PM_reckon_78 (by decide) ?_
      exact mv_sub [1, 2, 3, 4, 0] rfl (ih Mm74 v0 v1 v2 v3 (v4 + 1) h74)
set_option maxHeartbeats 4000000 in
set_option maxRecDepth 100000 in
theorem tb_PM_reckon_2 (l : Launch) (D : va_G) (E : Nat → ClassId) (B : Nat) (sa : (Nat → Nat) × Nat × (Nat → Int32)) (M0 M1 : mv_M) (r : Unit) (N : Nat) : ∀ (n : Nat) (M : mv_M) (v0 : Nat) (v1 : Int32) (v2 : Int32) (hJ : jb_PM_reckon_2 N n M v0 v1 v2 = some (r, M1)), mv_G (xg l D E B sa) kd_PM_reckon M0 M1 none M 2 [(0, va_rf (some v0)), (1, .int v1), (2, .int v2)] [] := by
  intro n
  induction n with
  | zero => intro M v0 v1 v2 hJ; cases hJ
  | succ n ih =>
    intro M v0 v1 v2 hJ
    rw [jb_PM_reckon_2] at hJ
    refine mv_iload_n (pc := 2) (i := 2) de_PM_reckon_2 rfl 2 rfl ?_
    refine mv_iload_n (pc := 3) (i := 1) de_PM_reckon_3 rfl 1 rfl ?_
    refine mv_icmp_gt (pc := 4) (tgt := 87) de_PM_reckon_4 (by decide) hJ (fun hc4 h4 => ?_) (fun hc4 h4 => ?_)
    · exact mv_vret (pc := 87) rfl de_PM_reckon_87 h4
    · refine mv_aload_n (pc := 7) (i := 0) de_PM_reckon_7 rfl 0 rfl ?_
      refine mv_getR (pc := 8) (f := 3) (kc_1 l D E B sa) (Nat.le_of_ble_eq_true rfl) wt_4_83 de_PM_reckon_8 h4 (fun x8 e8 h8 => ?_)
      refine mv_iload_n (pc := 11) (i := 2) de_PM_reckon_11 rfl 2 rfl ?_
      obtain ⟨a12, ha, h12a⟩ := mj_bindE h8
      subst ha
      refine mv_iald (pc := 12) (t := 0) rfl de_PM_reckon_12 h12a (fun x12 e12 h12 => ?_)
      refine mv_bipush (pc := 13) (v := (-2)) de_PM_reckon_13 (by decide) ?_
      refine mv_icmp_ne (pc := 15) (tgt := 21) de_PM_reckon_15 (by decide) h12 (fun hc15 h15 => ?_) (fun hc15 h15 => ?_)
      · refine mv_goto (pc := 18) (tgt := 81) de_PM_reckon_18 (by decide) ?_
        exact mv_sub [0, 1, 2] rfl (tb_PM_reckon_81 l D E B sa M0 M1 r N (jb_PM_reckon_2 N n) ih M v0 v1 v2 h15)
      · refine mv_aload_n (pc := 21) (i := 0) de_PM_reckon_21 rfl 0 rfl ?_
        refine mv_iload_n (pc := 22) (i := 2) de_PM_reckon_22 rfl 2 rfl ?_
        obtain ⟨hi23, h23o⟩ := mj_obE h15
        obtain ⟨r23, Mm23, hz23, h23⟩ := mj_callE h23o
        refine mv_callV (pc := 23) (n := 1) (av := [.int v2]) (rest := []) de_PM_reckon_23 (kc_1 l D E B sa) hi23 (cm_PM_cells l D E B sa N M v0 v2 _ _ hz23) wt_4_213 wt_4_215 wp_28 wt_1_8 wt_4_216 ⟨by decide, by decide, by decide +kernel⟩ rfl ⟨Nat.le_of_ble_eq_true rfl, Nat.le_of_ble_eq_true rfl⟩ (Nat.le_of_ble_eq_true rfl) rfl ?_
        refine mv_istore_n (pc := 26) (i := 3) (lv' := [(3, .int r23), (0, va_rf (some v0)), (1, .int v1), (2, .int v2)]) de_PM_reckon_26 rfl (Nat.le_of_ble_eq_true rfl) rfl ?_
        refine mv_iconst (pc := 27) (v := 0) de_PM_reckon_27 (by decide) ?_
        refine mv_istore (pc := 28) (lv' := [(4, .int 0), (3, .int r23), (0, va_rf (some v0)), (1, .int v1), (2, .int v2)]) de_PM_reckon_28 (Nat.le_of_ble_eq_true rfl) rfl ?_
        exact mv_sub [2, 3, 4, 1, 0] rfl (tb_PM_reckon_30 l D E B sa M0 M1 r N (jb_PM_reckon_2 N n) ih N Mm23 v0 v1 v2 r23 0 h23)
set_option maxHeartbeats 4000000 in
set_option maxRecDepth 100000 in
theorem tb_PM_reckon_0 (l : Launch) (D : va_G) (E : Nat → ClassId) (B : Nat) (sa : (Nat → Nat) × Nat × (Nat → Int32)) (M0 M1 : mv_M) (r : Unit) (N : Nat) (M : mv_M) (v0 : Nat) (v1 : Int32) (hJ : jb_PM_reckon_0 N M v0 v1 = some (r, M1)) : mv_G (xg l D E B sa) kd_PM_reckon M0 M1 none M 0 [(0, va_rf (some v0)), (1, .int v1)] [] := by
  unfold jb_PM_reckon_0 at hJ
  refine mv_iconst (pc := 0) (v := 0) de_PM_reckon_0 (by decide) ?_
  refine mv_istore_n (pc := 1) (i := 2) (lv' := [(2, .int 0), (0, va_rf (some v0)), (1, .int v1)]) de_PM_reckon_1 rfl (Nat.le_of_ble_eq_true rfl) rfl ?_
  exact mv_sub [1, 2, 0] rfl (tb_PM_reckon_2 l D E B sa M0 M1 r N N M v0 v1 0 hJ)
theorem cm_PM_reckon (l : Launch) (D : va_G) (E : Nat → ClassId) (B : Nat) (sa : (Nat → Nat) × Nat × (Nat → Int32)) (N : Nat) (M : mv_M) (v0 : Nat) (v1 : Int32) (r : Unit) (M1 : mv_M) (hJ : jf_PM_reckon N M v0 v1 = some (r, M1)) : mv_Met (xg l D E B sa) yn_PM_reckon cd_PM_reckon 5 none 4 121 [va_rf (some v0), .int v1] M none M1 :=
  mv_enter (by decide) (Nat.le_of_ble_eq_true rfl) (mv_sub (lv := [(0, va_rf (some v0)), (1, .int v1)]) [0, 1] rfl (tb_PM_reckon_0 l D E B sa M M1 r N M v0 v1 hJ))
/-! ===== PlainLearnerModel.value(III)J ===== -/
abbrev kd_PM_value : mv_Kd := (cd_PM_value, 4, "PlainLearnerModel", "value", (some .long), 5, 145)
theorem de_PM_value_0 : decode cd_PM_value 0 = .ok (.aload_n 0, 1) := by decide +kernel
theorem de_PM_value_1 : decode cd_PM_value 1 = .ok (.iload_n 1, 1) := by decide +kernel
theorem de_PM_value_2 : decode cd_PM_value 2 = .ok (.invokevirtual 107, 3) := by decide +kernel
theorem de_PM_value_5 : decode cd_PM_value 5 = .ok (.ifCond .eq 30, 3) := by decide +kernel
theorem de_PM_value_8 : decode cd_PM_value 8 = .ok (.iload_n 2, 1) := by decide +kernel
theorem de_PM_value_9 : decode cd_PM_value 9 = .ok (.i2l, 1) := by decide +kernel
theorem de_PM_value_10 : decode cd_PM_value 10 = .ok (.lconst 0, 1) := by decide +kernel
theorem de_PM_value_11 : decode cd_PM_value 11 = .ok (.aload_n 0, 1) := by decide +kernel
theorem de_PM_value_12 : decode cd_PM_value 12 = .ok (.iload_n 1, 1) := by decide +kernel
theorem de_PM_value_13 : decode cd_PM_value 13 = .ok (.invokevirtual 114, 3) := by decide +kernel
theorem de_PM_value_16 : decode cd_PM_value 16 = .ok (.iconst 1, 1) := by decide +kernel
theorem de_PM_value_17 : decode cd_PM_value 17 = .ok (.isub, 1) := by decide +kernel
theorem de_PM_value_18 : decode cd_PM_value 18 = .ok (.i2l, 1) := by decide +kernel
theorem de_PM_value_19 : decode cd_PM_value 19 = .ok (.invokestatic 99, 3) := by decide +kernel
theorem de_PM_value_22 : decode cd_PM_value 22 = .ok (.ifCond .eq 13, 3) := by decide +kernel
theorem de_PM_value_25 : decode cd_PM_value 25 = .ok (.iload_n 3, 1) := by decide +kernel
theorem de_PM_value_26 : decode cd_PM_value 26 = .ok (.i2l, 1) := by decide +kernel
theorem de_PM_value_27 : decode cd_PM_value 27 = .ok (.lconst 0, 1) := by decide +kernel
theorem de_PM_value_28 : decode cd_PM_value 28 = .ok (.lconst 1, 1) := by decide +kernel
theorem de_PM_value_29 : decode cd_PM_value 29 = .ok (.invokestatic 99, 3) := by decide +kernel
theorem de_PM_value_32 : decode cd_PM_value 32 = .ok (.ifCond .ne 7, 3) := by decide +kernel
theorem de_PM_value_35 : decode cd_PM_value 35 = .ok (.ldc2_w 183, 3) := by decide +kernel
theorem de_PM_value_38 : decode cd_PM_value 38 = .ok (.lreturn, 1) := by decide +kernel
theorem de_PM_value_39 : decode cd_PM_value 39 = .ok (.aload_n 0, 1) := by decide +kernel
theorem de_PM_value_40 : decode cd_PM_value 40 = .ok (.iload_n 1, 1) := by decide +kernel
theorem de_PM_value_41 : decode cd_PM_value 41 = .ok (.invokevirtual 185, 3) := by decide +kernel
theorem de_PM_value_44 : decode cd_PM_value 44 = .ok (.aload_n 0, 1) := by decide +kernel
theorem de_PM_value_45 : decode cd_PM_value 45 = .ok (.bipush 64, 2) := by decide +kernel
theorem de_PM_value_47 : decode cd_PM_value 47 = .ok (.iload_n 1, 1) := by decide +kernel
theorem de_PM_value_48 : decode cd_PM_value 48 = .ok (.imul, 1) := by decide +kernel
theorem de_PM_value_49 : decode cd_PM_value 49 = .ok (.iload_n 2, 1) := by decide +kernel
theorem de_PM_value_50 : decode cd_PM_value 50 = .ok (.iadd, 1) := by decide +kernel
theorem de_PM_value_51 : decode cd_PM_value 51 = .ok (.invokevirtual 165, 3) := by decide +kernel
theorem de_PM_value_54 : decode cd_PM_value 54 = .ok (.aload_n 0, 1) := by decide +kernel
theorem de_PM_value_55 : decode cd_PM_value 55 = .ok (.iload_n 3, 1) := by decide +kernel
theorem de_PM_value_56 : decode cd_PM_value 56 = .ok (.invokevirtual 188, 3) := by decide +kernel
theorem de_PM_value_59 : decode cd_PM_value 59 = .ok (.lreturn, 1) := by decide +kernel
def jb_PM_value_35 (N : Nat) (M : mv_M) : Option (Int64 × mv_M) :=
  some ((-1099511627776), M)
def jb_PM_value_0 (N : Nat) (M : mv_M) (v0 : Nat) (v1 : Int32) (v2 : Int32) (v3 : Int32) : Option (Int64 × mv_M) :=
  mj_ob M v0 1 <|
  mj_call (jf_PM_isNode N M v0 v1) fun r2 Mm2 =>
  if r2 = 0 then (jb_PM_value_35 N Mm2) else
  mj_ob Mm2 v0 1 <|
  mj_call (jf_PM_cells N Mm2 v0 v1) fun r13 Mm13 =>
  mj_call (jf_PM_isIn N Mm13 v2.toInt64 0 ((r13 - 1).toInt64)) fun r19 Mm19 =>
  if r19 = 0 then (jb_PM_value_35 N Mm19) else
  mj_call (jf_PM_isIn N Mm19 v3.toInt64 0 1) fun r29 Mm29 =>
  if r29 = 0 then (jb_PM_value_35 N Mm29) else
  mj_ob Mm29 v0 1 <|
  mj_call (jf_PM_reckon N Mm29 v0 v1) fun r41 Mm41 =>
  mj_ob Mm41 v0 1 <|
  mj_call (jf_PM_load N Mm41 v0 ((64 * v1) + v2)) fun r51 Mm51 =>
  mj_ob Mm51 v0 1 <|
  mj_call (jf_PM_told N Mm51 v0 v3) fun r56 Mm56 =>
  some (r56, Mm56)
def jf_PM_value (N : Nat) (M : mv_M) (v0 : Nat) (v1 : Int32) (v2 : Int32) (v3 : Int32) : Option (Int64 × mv_M) := jb_PM_value_0 N M v0 v1 v2 v3
set_option maxHeartbeats 4000000 in
set_option maxRecDepth 100000 in
theorem tb_PM_value_35 (l : Launch) (D : va_G) (E : Nat → ClassId) (B : Nat) (sa : (Nat → Nat) × Nat × (Nat → Int32)) (M0 M1 : mv_M) (r : Int64) (N : Nat) (M : mv_M) (hJ : jb_PM_value_35 N M = some (r, M1)) : mv_G (xg l D E B sa) kd_PM_value M0 M1 (some (.long r)) M 35 [] [] := by
  unfold jb_PM_value_35 at hJ
  refine mv_ldc2 (pc := 35) de_PM_value_35 wt_5_9 ?_
  exact mv_lret (pc := 38) rfl de_PM_value_38 hJ
set_option maxHeartbeats 4000000 in
set_option maxRecDepth 100000 in
theorem tb_PM_value_0 (l : Launch) (D : va_G) (E : Nat → ClassId) (B : Nat) (sa : (Nat → Nat) × Nat × (Nat → Int32)) (M0 M1 : mv_M) (r : Int64) (N : Nat) (M : mv_M) (v0 : Nat) (v1 : Int32) (v2 : Int32) (v3 : Int32) (hJ : jb_PM_value_0 N M v0 v1 v2 v3 = some (r, M1)) : mv_G (xg l D E B sa) kd_PM_value M0 M1 (some (.long r)) M 0 [(0, va_rf (some v0)), (1, .int v1), (2, .int v2), (3, .int v3)] [] := by
  unfold jb_PM_value_0 at hJ
  refine mv_aload_n (pc := 0) (i := 0) de_PM_value_0 rfl 0 rfl ?_
  refine mv_iload_n (pc := 1) (i := 1) de_PM_value_1 rfl 1 rfl ?_
  obtain ⟨hi2, h2o⟩ := mj_obE hJ
  obtain ⟨r2, Mm2, hz2, h2⟩ := mj_callE h2o
  refine mv_callV (pc := 2) (n := 1) (av := [.int v1]) (rest := []) de_PM_value_2 (kc_1 l D E B sa) hi2 (cm_PM_isNode l D E B sa N M v0 v1 _ _ hz2) wt_4_209 wt_4_211 wp_27 wt_1_8 wt_4_212 ⟨by decide, by decide, by decide +kernel⟩ rfl ⟨Nat.le_of_ble_eq_true rfl, Nat.le_of_ble_eq_true rfl⟩ (Nat.le_of_ble_eq_true rfl) rfl ?_
  refine mv_if_eq (pc := 5) (tgt := 35) de_PM_value_5 (by decide) h2 (fun hc5 h5 => ?_) (fun hc5 h5 => ?_)
  · exact mv_sub [] rfl (tb_PM_value_35 l D E B sa M0 M1 r N Mm2 h5)
  · refine mv_iload_n (pc := 8) (i := 2) de_PM_value_8 rfl 2 rfl ?_
    refine mv_i2l (pc := 9) de_PM_value_9 ?_
    refine mv_lconst (pc := 10) (v := 0) de_PM_value_10 (by decide) ?_
    refine mv_aload_n (pc := 11) (i := 0) de_PM_value_11 rfl 0 rfl ?_
    refine mv_iload_n (pc := 12) (i := 1) de_PM_value_12 rfl 1 rfl ?_
    obtain ⟨hi13, h13o⟩ := mj_obE h5
    obtain ⟨r13, Mm13, hz13, h13⟩ := mj_callE h13o
    refine mv_callV (pc := 13) (n := 1) (av := [.int v1]) (rest := [.long 0, .long v2.toInt64]) de_PM_value_13 (kc_1 l D E B sa) hi13 (cm_PM_cells l D E B sa N Mm2 v0 v1 _ _ hz13) wt_4_213 wt_4_215 wp_28 wt_1_8 wt_4_216 ⟨by decide, by decide, by decide +kernel⟩ rfl ⟨Nat.le_of_ble_eq_true rfl, Nat.le_of_ble_eq_true rfl⟩ (Nat.le_of_ble_eq_true rfl) rfl ?_
    refine mv_iconst (pc := 16) (v := 1) de_PM_value_16 (by decide) ?_
    refine mv_isub (pc := 17) de_PM_value_17 ?_
    refine mv_i2l (pc := 18) de_PM_value_18 ?_
    obtain ⟨r19, Mm19, hz19, h19⟩ := mj_callE h13
    refine mv_callS (pc := 19) (n := 3) (av := [.long v2.toInt64, .long 0, .long (r13 - 1).toInt64]) (rest := []) de_PM_value_19 (cm_PM_isIn l D E B sa N Mm13 v2.toInt64 0 ((r13 - 1).toInt64) _ _ hz19) wt_4_197 wt_4_198 wt_1_8 wt_4_199 ⟨by decide, by decide, by decide +kernel⟩ rfl ⟨Nat.le_of_ble_eq_true rfl, Nat.le_of_ble_eq_true rfl⟩ (Nat.le_of_ble_eq_true rfl) rfl ?_
    refine mv_if_eq (pc := 22) (tgt := 35) de_PM_value_22 (by decide) h19 (fun hc22 h22 => ?_) (fun hc22 h22 => ?_)
    · exact mv_sub [] rfl (tb_PM_value_35 l D E B sa M0 M1 r N Mm19 h22)
    · refine mv_iload_n (pc := 25) (i := 3) de_PM_value_25 rfl 3 rfl ?_
      refine mv_i2l (pc := 26) de_PM_value_26 ?_
      refine mv_lconst (pc := 27) (v := 0) de_PM_value_27 (by decide) ?_
      refine mv_lconst (pc := 28) (v := 1) de_PM_value_28 (by decide) ?_
      obtain ⟨r29, Mm29, hz29, h29⟩ := mj_callE h22
      refine mv_callS (pc := 29) (n := 3) (av := [.long v3.toInt64, .long 0, .long 1]) (rest := []) de_PM_value_29 (cm_PM_isIn l D E B sa N Mm19 v3.toInt64 0 1 _ _ hz29) wt_4_197 wt_4_198 wt_1_8 wt_4_199 ⟨by decide, by decide, by decide +kernel⟩ rfl ⟨Nat.le_of_ble_eq_true rfl, Nat.le_of_ble_eq_true rfl⟩ (Nat.le_of_ble_eq_true rfl) rfl ?_
      refine mv_if_ne (pc := 32) (tgt := 39) de_PM_value_32 (by decide) h29 (fun hc32 h32 => ?_) (fun hc32 h32 => ?_)
      · exact mv_sub [] rfl (tb_PM_value_35 l D E B sa M0 M1 r N Mm29 h32)
      · refine mv_aload_n (pc := 39) (i := 0) de_PM_value_39 rfl 0 rfl ?_
        refine mv_iload_n (pc := 40) (i := 1) de_PM_value_40 rfl 1 rfl ?_
        obtain ⟨hi41, h41o⟩ := mj_obE h32
        obtain ⟨r41, Mm41, hz41, h41⟩ := mj_callE h41o
        refine mv_callV (pc := 41) (n := 1) (av := [.int v1]) (rest := []) de_PM_value_41 (kc_1 l D E B sa) hi41 (cm_PM_reckon l D E B sa N Mm29 v0 v1 _ _ hz41) wt_5_10 wt_5_12 wp_33 wt_1_8 wt_5_13 ⟨by decide, by decide, by decide +kernel⟩ rfl ⟨Nat.le_of_ble_eq_true rfl, Nat.le_of_ble_eq_true rfl⟩ (Nat.le_of_ble_eq_true rfl) rfl ?_
        refine mv_aload_n (pc := 44) (i := 0) de_PM_value_44 rfl 0 rfl ?_
        refine mv_bipush (pc := 45) (v := 64) de_PM_value_45 (by decide) ?_
        refine mv_iload_n (pc := 47) (i := 1) de_PM_value_47 rfl 1 rfl ?_
        refine mv_imul (pc := 48) de_PM_value_48 ?_
        refine mv_iload_n (pc := 49) (i := 2) de_PM_value_49 rfl 2 rfl ?_
        refine mv_iadd (pc := 50) de_PM_value_50 ?_
        obtain ⟨hi51, h51o⟩ := mj_obE h41
        obtain ⟨r51, Mm51, hz51, h51⟩ := mj_callE h51o
        refine mv_callV (pc := 51) (n := 1) (av := [.int ((64 * v1) + v2)]) (rest := []) de_PM_value_51 (kc_1 l D E B sa) hi51 (cm_PM_load l D E B sa N Mm41 v0 ((64 * v1) + v2) _ _ hz51) wt_5_57 wt_5_59 wp_44 wt_1_8 wt_5_60 ⟨by decide, by decide, by decide +kernel⟩ rfl ⟨Nat.le_of_ble_eq_true rfl, Nat.le_of_ble_eq_true rfl⟩ (Nat.le_of_ble_eq_true rfl) rfl ?_
        refine mv_aload_n (pc := 54) (i := 0) de_PM_value_54 rfl 0 rfl ?_
        refine mv_iload_n (pc := 55) (i := 3) de_PM_value_55 rfl 3 rfl ?_
        obtain ⟨hi56, h56o⟩ := mj_obE h51
        obtain ⟨r56, Mm56, hz56, h56⟩ := mj_callE h56o
        refine mv_callV (pc := 56) (n := 1) (av := [.int v3]) (rest := []) de_PM_value_56 (kc_1 l D E B sa) hi56 (cm_PM_told l D E B sa N Mm51 v0 v3 _ _ hz56) wt_5_65 wt_5_67 wp_46 wt_1_8 wt_5_68 ⟨by decide, by decide, by decide +kernel⟩ rfl ⟨Nat.le_of_ble_eq_true rfl, Nat.le_of_ble_eq_true rfl⟩ (Nat.le_of_ble_eq_true rfl) rfl ?_
        exact mv_lret (pc := 59) rfl de_PM_value_59 h56
theorem cm_PM_value (l : Launch) (D : va_G) (E : Nat → ClassId) (B : Nat) (sa : (Nat → Nat) × Nat × (Nat → Int32)) (N : Nat) (M : mv_M) (v0 : Nat) (v1 : Int32) (v2 : Int32) (v3 : Int32) (r : Int64) (M1 : mv_M) (hJ : jf_PM_value N M v0 v1 v2 v3 = some (r, M1)) : mv_Met (xg l D E B sa) yn_PM_value cd_PM_value 4 (some .long) 5 145 [va_rf (some v0), .int v1, .int v2, .int v3] M (some (.long r)) M1 :=
  mv_enter (by decide) (Nat.le_of_ble_eq_true rfl) (mv_sub (lv := [(0, va_rf (some v0)), (1, .int v1), (2, .int v2), (3, .int v3)]) [0, 1, 2, 3] rfl (tb_PM_value_0 l D E B sa M M1 r N M v0 v1 v2 v3 hJ))
/-! ===== PlainLearnerModel.gives(I)V ===== -/
abbrev kd_PM_gives : mv_Kd := (cd_PM_gives, 2, "PlainLearnerModel", "gives", none, 2, 58)
theorem de_PM_gives_0 : decode cd_PM_gives 0 = .ok (.aload_n 0, 1) := by decide +kernel
theorem de_PM_gives_1 : decode cd_PM_gives 1 = .ok (.aload_n 0, 1) := by decide +kernel
theorem de_PM_gives_2 : decode cd_PM_gives 2 = .ok (.getfield 192, 3) := by decide +kernel
theorem de_PM_gives_5 : decode cd_PM_gives 5 = .ok (.aload_n 0, 1) := by decide +kernel
theorem de_PM_gives_6 : decode cd_PM_gives 6 = .ok (.getfield 195, 3) := by decide +kernel
theorem de_PM_gives_9 : decode cd_PM_gives 9 = .ok (.aload_n 0, 1) := by decide +kernel
theorem de_PM_gives_10 : decode cd_PM_gives 10 = .ok (.getfield 81, 3) := by decide +kernel
theorem de_PM_gives_13 : decode cd_PM_gives 13 = .ok (.aload_n 0, 1) := by decide +kernel
theorem de_PM_gives_14 : decode cd_PM_gives 14 = .ok (.getfield 84, 3) := by decide +kernel
theorem de_PM_gives_17 : decode cd_PM_gives 17 = .ok (.invokevirtual 145, 3) := by decide +kernel
theorem de_PM_gives_20 : decode cd_PM_gives 20 = .ok (.aload_n 0, 1) := by decide +kernel
theorem de_PM_gives_21 : decode cd_PM_gives 21 = .ok (.aload_n 0, 1) := by decide +kernel
theorem de_PM_gives_22 : decode cd_PM_gives 22 = .ok (.getfield 39, 3) := by decide +kernel
theorem de_PM_gives_25 : decode cd_PM_gives 25 = .ok (.iload_n 1, 1) := by decide +kernel
theorem de_PM_gives_26 : decode cd_PM_gives 26 = .ok (.laload, 1) := by decide +kernel
theorem de_PM_gives_27 : decode cd_PM_gives 27 = .ok (.aload_n 0, 1) := by decide +kernel
theorem de_PM_gives_28 : decode cd_PM_gives 28 = .ok (.getfield 42, 3) := by decide +kernel
theorem de_PM_gives_31 : decode cd_PM_gives 31 = .ok (.iload_n 1, 1) := by decide +kernel
theorem de_PM_gives_32 : decode cd_PM_gives 32 = .ok (.laload, 1) := by decide +kernel
theorem de_PM_gives_33 : decode cd_PM_gives 33 = .ok (.aload_n 0, 1) := by decide +kernel
theorem de_PM_gives_34 : decode cd_PM_gives 34 = .ok (.getfield 81, 3) := by decide +kernel
theorem de_PM_gives_37 : decode cd_PM_gives 37 = .ok (.aload_n 0, 1) := by decide +kernel
theorem de_PM_gives_38 : decode cd_PM_gives 38 = .ok (.getfield 84, 3) := by decide +kernel
theorem de_PM_gives_41 : decode cd_PM_gives 41 = .ok (.invokevirtual 141, 3) := by decide +kernel
theorem de_PM_gives_44 : decode cd_PM_gives 44 = .ok (.aload_n 0, 1) := by decide +kernel
theorem de_PM_gives_45 : decode cd_PM_gives 45 = .ok (.getfield 39, 3) := by decide +kernel
theorem de_PM_gives_48 : decode cd_PM_gives 48 = .ok (.iload_n 1, 1) := by decide +kernel
theorem de_PM_gives_49 : decode cd_PM_gives 49 = .ok (.aload_n 0, 1) := by decide +kernel
theorem de_PM_gives_50 : decode cd_PM_gives 50 = .ok (.getfield 81, 3) := by decide +kernel
theorem de_PM_gives_53 : decode cd_PM_gives 53 = .ok (.lastore, 1) := by decide +kernel
theorem de_PM_gives_54 : decode cd_PM_gives 54 = .ok (.aload_n 0, 1) := by decide +kernel
theorem de_PM_gives_55 : decode cd_PM_gives 55 = .ok (.getfield 42, 3) := by decide +kernel
theorem de_PM_gives_58 : decode cd_PM_gives 58 = .ok (.iload_n 1, 1) := by decide +kernel
theorem de_PM_gives_59 : decode cd_PM_gives 59 = .ok (.aload_n 0, 1) := by decide +kernel
theorem de_PM_gives_60 : decode cd_PM_gives 60 = .ok (.getfield 84, 3) := by decide +kernel
theorem de_PM_gives_63 : decode cd_PM_gives 63 = .ok (.lastore, 1) := by decide +kernel
theorem de_PM_gives_64 : decode cd_PM_gives 64 = .ok (.return_, 1) := by decide +kernel
def jb_PM_gives_0 (N : Nat) (M : mv_M) (v0 : Nat) (v1 : Int32) : Option (Unit × mv_M) :=
  Option.bind (mj_getL M v0 1 15) fun x2 =>
  Option.bind (mj_getL M v0 1 16) fun x6 =>
  Option.bind (mj_getL M v0 1 0) fun x10 =>
  Option.bind (mj_getL M v0 1 1) fun x14 =>
  mj_ob M v0 1 <|
  mj_call (jf_PM_times N M v0 x2 x6 x10 x14) fun r17 Mm17 =>
  Option.bind (mj_getR Mm17 v0 1 13) fun x22 =>
  Option.bind x22 fun a26 =>
  Option.bind (mj_lld Mm17 a26 1 v1) fun x26 =>
  Option.bind (mj_getR Mm17 v0 1 14) fun x28 =>
  Option.bind x28 fun a32 =>
  Option.bind (mj_lld Mm17 a32 1 v1) fun x32 =>
  Option.bind (mj_getL Mm17 v0 1 0) fun x34 =>
  Option.bind (mj_getL Mm17 v0 1 1) fun x38 =>
  mj_ob Mm17 v0 1 <|
  mj_call (jf_PM_plus N Mm17 v0 x26 x32 x34 x38) fun r41 Mm41 =>
  Option.bind (mj_getR Mm41 v0 1 13) fun x45 =>
  Option.bind (mj_getL Mm41 v0 1 0) fun x50 =>
  Option.bind x45 fun a53 =>
  Option.bind (mj_lst Mm41 a53 1 v1 x50) fun Mm53 =>
  Option.bind (mj_getR Mm53 v0 1 14) fun x55 =>
  Option.bind (mj_getL Mm53 v0 1 1) fun x60 =>
  Option.bind x55 fun a63 =>
  Option.bind (mj_lst Mm53 a63 1 v1 x60) fun Mm63 =>
  some ((), Mm63)
def jf_PM_gives (N : Nat) (M : mv_M) (v0 : Nat) (v1 : Int32) : Option (Unit × mv_M) := jb_PM_gives_0 N M v0 v1
set_option maxHeartbeats 4000000 in
set_option maxRecDepth 100000 in
theorem tb_PM_gives_0 (l : Launch) (D : va_G) (E : Nat → ClassId) (B : Nat) (sa : (Nat → Nat) × Nat × (Nat → Int32)) (M0 M1 : mv_M) (r : Unit) (N : Nat) (M : mv_M) (v0 : Nat) (v1 : Int32) (hJ : jb_PM_gives_0 N M v0 v1 = some (r, M1)) : mv_G (xg l D E B sa) kd_PM_gives M0 M1 none M 0 [(0, va_rf (some v0)), (1, .int v1)] [] := by
  unfold jb_PM_gives_0 at hJ
  refine mv_aload_n (pc := 0) (i := 0) de_PM_gives_0 rfl 0 rfl ?_
  refine mv_aload_n (pc := 1) (i := 0) de_PM_gives_1 rfl 0 rfl ?_
  refine mv_getL (pc := 2) (f := 15) (kc_1 l D E B sa) (Nat.le_of_ble_eq_true rfl) wt_4_95 de_PM_gives_2 hJ (fun x2 e2 h2 => ?_)
  refine mv_aload_n (pc := 5) (i := 0) de_PM_gives_5 rfl 0 rfl ?_
  refine mv_getL (pc := 6) (f := 16) (kc_1 l D E B sa) (Nat.le_of_ble_eq_true rfl) wt_4_96 de_PM_gives_6 h2 (fun x6 e6 h6 => ?_)
  refine mv_aload_n (pc := 9) (i := 0) de_PM_gives_9 rfl 0 rfl ?_
  refine mv_getL (pc := 10) (f := 0) (kc_1 l D E B sa) (Nat.le_of_ble_eq_true rfl) wt_4_80 de_PM_gives_10 h6 (fun x10 e10 h10 => ?_)
  refine mv_aload_n (pc := 13) (i := 0) de_PM_gives_13 rfl 0 rfl ?_
  refine mv_getL (pc := 14) (f := 1) (kc_1 l D E B sa) (Nat.le_of_ble_eq_true rfl) wt_4_81 de_PM_gives_14 h10 (fun x14 e14 h14 => ?_)
  obtain ⟨hi17, h17o⟩ := mj_obE h14
  obtain ⟨r17, Mm17, hz17, h17⟩ := mj_callE h17o
  refine mv_callV (pc := 17) (n := 4) (av := [.long x2, .long x6, .long x10, .long x14]) (rest := []) de_PM_gives_17 (kc_1 l D E B sa) hi17 (cm_PM_times l D E B sa N M v0 x2 x6 x10 x14 _ _ hz17) wt_5_30 wt_5_32 wp_38 wt_1_8 wt_5_33 ⟨by decide, by decide, by decide +kernel⟩ rfl ⟨Nat.le_of_ble_eq_true rfl, Nat.le_of_ble_eq_true rfl⟩ (Nat.le_of_ble_eq_true rfl) rfl ?_
  refine mv_aload_n (pc := 20) (i := 0) de_PM_gives_20 rfl 0 rfl ?_
  refine mv_aload_n (pc := 21) (i := 0) de_PM_gives_21 rfl 0 rfl ?_
  refine mv_getR (pc := 22) (f := 13) (kc_1 l D E B sa) (Nat.le_of_ble_eq_true rfl) wt_4_93 de_PM_gives_22 h17 (fun x22 e22 h22 => ?_)
  refine mv_iload_n (pc := 25) (i := 1) de_PM_gives_25 rfl 1 rfl ?_
  obtain ⟨a26, ha, h26a⟩ := mj_bindE h22
  subst ha
  refine mv_lald (pc := 26) (t := 1) rfl de_PM_gives_26 h26a (fun x26 e26 h26 => ?_)
  refine mv_aload_n (pc := 27) (i := 0) de_PM_gives_27 rfl 0 rfl ?_
  refine mv_getR (pc := 28) (f := 14) (kc_1 l D E B sa) (Nat.le_of_ble_eq_true rfl) wt_4_94 de_PM_gives_28 h26 (fun x28 e28 h28 => ?_)
  refine mv_iload_n (pc := 31) (i := 1) de_PM_gives_31 rfl 1 rfl ?_
  obtain ⟨a32, ha, h32a⟩ := mj_bindE h28
  subst ha
  refine mv_lald (pc := 32) (t := 1) rfl de_PM_gives_32 h32a (fun x32 e32 h32 => ?_)
  refine mv_aload_n (pc := 33) (i := 0) de_PM_gives_33 rfl 0 rfl ?_
  refine mv_getL (pc := 34) (f := 0) (kc_1 l D E B sa) (Nat.le_of_ble_eq_true rfl) wt_4_80 de_PM_gives_34 h32 (fun x34 e34 h34 => ?_)
  refine mv_aload_n (pc := 37) (i := 0) de_PM_gives_37 rfl 0 rfl ?_
  refine mv_getL (pc := 38) (f := 1) (kc_1 l D E B sa) (Nat.le_of_ble_eq_true rfl) wt_4_81 de_PM_gives_38 h34 (fun x38 e38 h38 => ?_)
  obtain ⟨hi41, h41o⟩ := mj_obE h38
  obtain ⟨r41, Mm41, hz41, h41⟩ := mj_callE h41o
  refine mv_callV (pc := 41) (n := 4) (av := [.long x26, .long x32, .long x34, .long x38]) (rest := []) de_PM_gives_41 (kc_1 l D E B sa) hi41 (cm_PM_plus l D E B sa N Mm17 v0 x26 x32 x34 x38 _ _ hz41) wt_5_26 wt_5_28 wp_37 wt_1_8 wt_5_29 ⟨by decide, by decide, by decide +kernel⟩ rfl ⟨Nat.le_of_ble_eq_true rfl, Nat.le_of_ble_eq_true rfl⟩ (Nat.le_of_ble_eq_true rfl) rfl ?_
  refine mv_aload_n (pc := 44) (i := 0) de_PM_gives_44 rfl 0 rfl ?_
  refine mv_getR (pc := 45) (f := 13) (kc_1 l D E B sa) (Nat.le_of_ble_eq_true rfl) wt_4_93 de_PM_gives_45 h41 (fun x45 e45 h45 => ?_)
  refine mv_iload_n (pc := 48) (i := 1) de_PM_gives_48 rfl 1 rfl ?_
  refine mv_aload_n (pc := 49) (i := 0) de_PM_gives_49 rfl 0 rfl ?_
  refine mv_getL (pc := 50) (f := 0) (kc_1 l D E B sa) (Nat.le_of_ble_eq_true rfl) wt_4_80 de_PM_gives_50 h45 (fun x50 e50 h50 => ?_)
  obtain ⟨a53, ha, h53a⟩ := mj_bindE h50
  subst ha
  refine mv_last (pc := 53) (t := 1) rfl de_PM_gives_53 h53a (fun Mm53 e53 h53 => ?_)
  refine mv_aload_n (pc := 54) (i := 0) de_PM_gives_54 rfl 0 rfl ?_
  refine mv_getR (pc := 55) (f := 14) (kc_1 l D E B sa) (Nat.le_of_ble_eq_true rfl) wt_4_94 de_PM_gives_55 h53 (fun x55 e55 h55 => ?_)
  refine mv_iload_n (pc := 58) (i := 1) de_PM_gives_58 rfl 1 rfl ?_
  refine mv_aload_n (pc := 59) (i := 0) de_PM_gives_59 rfl 0 rfl ?_
  refine mv_getL (pc := 60) (f := 1) (kc_1 l D E B sa) (Nat.le_of_ble_eq_true rfl) wt_4_81 de_PM_gives_60 h55 (fun x60 e60 h60 => ?_)
  obtain ⟨a63, ha, h63a⟩ := mj_bindE h60
  subst ha
  refine mv_last (pc := 63) (t := 1) rfl de_PM_gives_63 h63a (fun Mm63 e63 h63 => ?_)
  exact mv_vret (pc := 64) rfl de_PM_gives_64 h63
theorem cm_PM_gives (l : Launch) (D : va_G) (E : Nat → ClassId) (B : Nat) (sa : (Nat → Nat) × Nat × (Nat → Int32)) (N : Nat) (M : mv_M) (v0 : Nat) (v1 : Int32) (r : Unit) (M1 : mv_M) (hJ : jf_PM_gives N M v0 v1 = some (r, M1)) : mv_Met (xg l D E B sa) yn_PM_gives cd_PM_gives 2 none 2 58 [va_rf (some v0), .int v1] M none M1 :=
  mv_enter (by decide) (Nat.le_of_ble_eq_true rfl) (mv_sub (lv := [(0, va_rf (some v0)), (1, .int v1)]) [0, 1] rfl (tb_PM_gives_0 l D E B sa M M1 r N M v0 v1 hJ))
