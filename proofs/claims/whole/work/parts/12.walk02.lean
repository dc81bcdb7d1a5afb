/-! ===== PlainLearner$View.ofFirst(IILPlainLearner$Shape;)LPlainLearner$View; ===== -/
abbrev kd_Vw_ofFirst : mv_Kd := (cd_Vw_ofFirst, 3, "PlainLearner$View", "ofFirst", (some (.object "PlainLearner$View")), 3, 68)
theorem de_Vw_ofFirst_0 : decode cd_Vw_ofFirst 0 = .ok (.iload_n 0, 1) := by decide +kernel
theorem de_Vw_ofFirst_1 : decode cd_Vw_ofFirst 1 = .ok (.tableswitch 147 4 15 #[63, 79, 79, 79, 90, 101, 147, 147, 147, 147, 121, 134], 63) := by decide +kernel
theorem de_Vw_ofFirst_64 : decode cd_Vw_ofFirst 64 = .ok (.new 8, 3) := by decide +kernel
theorem de_Vw_ofFirst_67 : decode cd_Vw_ofFirst 67 = .ok (.dup, 1) := by decide +kernel
theorem de_Vw_ofFirst_68 : decode cd_Vw_ofFirst 68 = .ok (.iconst 0, 1) := by decide +kernel
theorem de_Vw_ofFirst_69 : decode cd_Vw_ofFirst 69 = .ok (.iconst 0, 1) := by decide +kernel
theorem de_Vw_ofFirst_70 : decode cd_Vw_ofFirst 70 = .ok (.aload_n 2, 1) := by decide +kernel
theorem de_Vw_ofFirst_71 : decode cd_Vw_ofFirst 71 = .ok (.getfield 25, 3) := by decide +kernel
theorem de_Vw_ofFirst_74 : decode cd_Vw_ofFirst 74 = .ok (.iconst 0, 1) := by decide +kernel
theorem de_Vw_ofFirst_75 : decode cd_Vw_ofFirst 75 = .ok (.iconst 1, 1) := by decide +kernel
theorem de_Vw_ofFirst_76 : decode cd_Vw_ofFirst 76 = .ok (.invokespecial 28, 3) := by decide +kernel
theorem de_Vw_ofFirst_79 : decode cd_Vw_ofFirst 79 = .ok (.areturn, 1) := by decide +kernel
theorem de_Vw_ofFirst_80 : decode cd_Vw_ofFirst 80 = .ok (.aload_n 2, 1) := by decide +kernel
theorem de_Vw_ofFirst_81 : decode cd_Vw_ofFirst 81 = .ok (.aload_n 2, 1) := by decide +kernel
theorem de_Vw_ofFirst_82 : decode cd_Vw_ofFirst 82 = .ok (.iload_n 1, 1) := by decide +kernel
theorem de_Vw_ofFirst_83 : decode cd_Vw_ofFirst 83 = .ok (.invokevirtual 31, 3) := by decide +kernel
theorem de_Vw_ofFirst_86 : decode cd_Vw_ofFirst 86 = .ok (.iconst 0, 1) := by decide +kernel
theorem de_Vw_ofFirst_87 : decode cd_Vw_ofFirst 87 = .ok (.invokestatic 35, 3) := by decide +kernel
theorem de_Vw_ofFirst_90 : decode cd_Vw_ofFirst 90 = .ok (.areturn, 1) := by decide +kernel
theorem de_Vw_ofFirst_91 : decode cd_Vw_ofFirst 91 = .ok (.aload_n 2, 1) := by decide +kernel
theorem de_Vw_ofFirst_92 : decode cd_Vw_ofFirst 92 = .ok (.aload_n 2, 1) := by decide +kernel
theorem de_Vw_ofFirst_93 : decode cd_Vw_ofFirst 93 = .ok (.iconst 0, 1) := by decide +kernel
theorem de_Vw_ofFirst_94 : decode cd_Vw_ofFirst 94 = .ok (.invokevirtual 31, 3) := by decide +kernel
theorem de_Vw_ofFirst_97 : decode cd_Vw_ofFirst 97 = .ok (.iload_n 1, 1) := by decide +kernel
theorem de_Vw_ofFirst_98 : decode cd_Vw_ofFirst 98 = .ok (.invokestatic 35, 3) := by decide +kernel
theorem de_Vw_ofFirst_101 : decode cd_Vw_ofFirst 101 = .ok (.areturn, 1) := by decide +kernel
theorem de_Vw_ofFirst_102 : decode cd_Vw_ofFirst 102 = .ok (.new 8, 3) := by decide +kernel
theorem de_Vw_ofFirst_105 : decode cd_Vw_ofFirst 105 = .ok (.dup, 1) := by decide +kernel
theorem de_Vw_ofFirst_106 : decode cd_Vw_ofFirst 106 = .ok (.iconst 0, 1) := by decide +kernel
theorem de_Vw_ofFirst_107 : decode cd_Vw_ofFirst 107 = .ok (.aload_n 2, 1) := by decide +kernel
theorem de_Vw_ofFirst_108 : decode cd_Vw_ofFirst 108 = .ok (.iconst 0, 1) := by decide +kernel
theorem de_Vw_ofFirst_109 : decode cd_Vw_ofFirst 109 = .ok (.invokevirtual 39, 3) := by decide +kernel
theorem de_Vw_ofFirst_112 : decode cd_Vw_ofFirst 112 = .ok (.iconst 1, 1) := by decide +kernel
theorem de_Vw_ofFirst_113 : decode cd_Vw_ofFirst 113 = .ok (.aload_n 2, 1) := by decide +kernel
theorem de_Vw_ofFirst_114 : decode cd_Vw_ofFirst 114 = .ok (.getfield 25, 3) := by decide +kernel
theorem de_Vw_ofFirst_117 : decode cd_Vw_ofFirst 117 = .ok (.iconst 0, 1) := by decide +kernel
theorem de_Vw_ofFirst_118 : decode cd_Vw_ofFirst 118 = .ok (.invokespecial 28, 3) := by decide +kernel
theorem de_Vw_ofFirst_121 : decode cd_Vw_ofFirst 121 = .ok (.areturn, 1) := by decide +kernel
theorem de_Vw_ofFirst_122 : decode cd_Vw_ofFirst 122 = .ok (.new 8, 3) := by decide +kernel
theorem de_Vw_ofFirst_125 : decode cd_Vw_ofFirst 125 = .ok (.dup, 1) := by decide +kernel
theorem de_Vw_ofFirst_126 : decode cd_Vw_ofFirst 126 = .ok (.iconst 0, 1) := by decide +kernel
theorem de_Vw_ofFirst_127 : decode cd_Vw_ofFirst 127 = .ok (.iconst 0, 1) := by decide +kernel
theorem de_Vw_ofFirst_128 : decode cd_Vw_ofFirst 128 = .ok (.iconst 0, 1) := by decide +kernel
theorem de_Vw_ofFirst_129 : decode cd_Vw_ofFirst 129 = .ok (.iconst 1, 1) := by decide +kernel
theorem de_Vw_ofFirst_130 : decode cd_Vw_ofFirst 130 = .ok (.iconst 0, 1) := by decide +kernel
theorem de_Vw_ofFirst_131 : decode cd_Vw_ofFirst 131 = .ok (.invokespecial 28, 3) := by decide +kernel
theorem de_Vw_ofFirst_134 : decode cd_Vw_ofFirst 134 = .ok (.areturn, 1) := by decide +kernel
theorem de_Vw_ofFirst_135 : decode cd_Vw_ofFirst 135 = .ok (.new 8, 3) := by decide +kernel
theorem de_Vw_ofFirst_138 : decode cd_Vw_ofFirst 138 = .ok (.dup, 1) := by decide +kernel
theorem de_Vw_ofFirst_139 : decode cd_Vw_ofFirst 139 = .ok (.iconst 0, 1) := by decide +kernel
theorem de_Vw_ofFirst_140 : decode cd_Vw_ofFirst 140 = .ok (.iconst 0, 1) := by decide +kernel
theorem de_Vw_ofFirst_141 : decode cd_Vw_ofFirst 141 = .ok (.iconst 0, 1) := by decide +kernel
theorem de_Vw_ofFirst_142 : decode cd_Vw_ofFirst 142 = .ok (.iconst 0, 1) := by decide +kernel
theorem de_Vw_ofFirst_143 : decode cd_Vw_ofFirst 143 = .ok (.iconst 1, 1) := by decide +kernel
theorem de_Vw_ofFirst_144 : decode cd_Vw_ofFirst 144 = .ok (.invokespecial 28, 3) := by decide +kernel
theorem de_Vw_ofFirst_147 : decode cd_Vw_ofFirst 147 = .ok (.areturn, 1) := by decide +kernel
theorem de_Vw_ofFirst_148 : decode cd_Vw_ofFirst 148 = .ok (.aload_n 2, 1) := by decide +kernel
theorem de_Vw_ofFirst_149 : decode cd_Vw_ofFirst 149 = .ok (.invokestatic 42, 3) := by decide +kernel
theorem de_Vw_ofFirst_152 : decode cd_Vw_ofFirst 152 = .ok (.areturn, 1) := by decide +kernel
def jb_Vw_ofFirst_0 (N : Nat) (M : mv_M) (v0 : Int32) (v1 : Int32) (v2 : Option Nat) : Option (Option Nat × mv_M) :=
  if v0 = 4 then (mj_nw M 9 5 [.int 0, .int 0, .int 0, .int 0, .int 0] fun q64 Mm64 =>
  Option.bind v2 fun a71 =>
  Option.bind (mj_getI Mm64 a71 5 3) fun x71 =>
  mj_call (jf_Vw_init N Mm64 q64 0 0 x71 0 1) fun r76 Mm76 =>
  some ((some q64), Mm76)) else
  if v0 = 5 then (Option.bind v2 fun a83 =>
  mj_ob M a83 5 <|
  mj_call (jf_Sh_placeOf N M a83 v1) fun r83 Mm83 =>
  mj_call (jf_Vw_along N Mm83 (some a83) r83 0) fun r87 Mm87 =>
  some (r87, Mm87)) else
  if v0 = 6 then (Option.bind v2 fun a83 =>
  mj_ob M a83 5 <|
  mj_call (jf_Sh_placeOf N M a83 v1) fun r83 Mm83 =>
  mj_call (jf_Vw_along N Mm83 (some a83) r83 0) fun r87 Mm87 =>
  some (r87, Mm87)) else
  if v0 = 7 then (Option.bind v2 fun a83 =>
  mj_ob M a83 5 <|
  mj_call (jf_Sh_placeOf N M a83 v1) fun r83 Mm83 =>
  mj_call (jf_Vw_along N Mm83 (some a83) r83 0) fun r87 Mm87 =>
  some (r87, Mm87)) else
  if v0 = 8 then (Option.bind v2 fun a94 =>
  mj_ob M a94 5 <|
  mj_call (jf_Sh_placeOf N M a94 0) fun r94 Mm94 =>
  mj_call (jf_Vw_along N Mm94 (some a94) r94 v1) fun r98 Mm98 =>
  some (r98, Mm98)) else
  if v0 = 9 then (mj_nw M 9 5 [.int 0, .int 0, .int 0, .int 0, .int 0] fun q102 Mm102 =>
  Option.bind v2 fun a109 =>
  mj_ob Mm102 a109 5 <|
  mj_call (jf_Sh_stepAt N Mm102 a109 0) fun r109 Mm109 =>
  Option.bind (mj_getI Mm109 a109 5 3) fun x114 =>
  mj_call (jf_Vw_init N Mm109 q102 0 r109 1 x114 0) fun r118 Mm118 =>
  some ((some q102), Mm118)) else
  if v0 = 10 then (mj_call (jf_Vw_spread N M v2) fun r149 Mm149 =>
  some (r149, Mm149)) else
  if v0 = 11 then (mj_call (jf_Vw_spread N M v2) fun r149 Mm149 =>
  some (r149, Mm149)) else
  if v0 = 12 then (mj_call (jf_Vw_spread N M v2) fun r149 Mm149 =>
  some (r149, Mm149)) else
  if v0 = 13 then (mj_call (jf_Vw_spread N M v2) fun r149 Mm149 =>
  some (r149, Mm149)) else
  if v0 = 14 then (mj_nw M 9 5 [.int 0, .int 0, .int 0, .int 0, .int 0] fun q122 Mm122 =>
  mj_call (jf_Vw_init N Mm122 q122 0 0 0 1 0) fun r131 Mm131 =>
  some ((some q122), Mm131)) else
  if v0 = 15 then (mj_nw M 9 5 [.int 0, .int 0, .int 0, .int 0, .int 0] fun q135 Mm135 =>
  mj_call (jf_Vw_init N Mm135 q135 0 0 0 0 1) fun r144 Mm144 =>
  some ((some q135), Mm144)) else
  mj_call (jf_Vw_spread N M v2) fun r149 Mm149 =>
  some (r149, Mm149)
def jf_Vw_ofFirst (N : Nat) (M : mv_M) (v0 : Int32) (v1 : Int32) (v2 : Option Nat) : Option (Option Nat × mv_M) := jb_Vw_ofFirst_0 N M v0 v1 v2
set_option maxHeartbeats 4000000 in
set_option maxRecDepth 100000 in
theorem tb_Vw_ofFirst_0 (l : Launch) (D : va_G) (E : Nat → ClassId) (B : Nat) (sa : (Nat → Nat) × Nat × (Nat → Int32)) (M0 M1 : mv_M) (r : Option Nat) (N : Nat) (M : mv_M) (v0 : Int32) (v1 : Int32) (v2 : Option Nat) (hJ : jb_Vw_ofFirst_0 N M v0 v1 v2 = some (r, M1)) : mv_G (xg l D E B sa) kd_Vw_ofFirst M0 M1 (some (va_rf r)) M 0 [(0, .int v0), (1, .int v1), (2, va_rf v2)] [] := by
  unfold jb_Vw_ofFirst_0 at hJ
  refine mv_iload_n (pc := 0) (i := 0) de_Vw_ofFirst_0 rfl 0 rfl ?_
  by_cases hs1_4 : v0 = 4
  · rw [if_pos hs1_4] at hJ
    refine mv_tin (pc := 1) (tgt := 64) (off := 63) 4 de_Vw_ofFirst_1 hs1_4 (by decide) (by decide) ?_
    refine mv_nw (pc := 64) (kc_9 l D E B sa) wt_2_109 wt_2_110 wt_1_14 (kn_9) de_Vw_ofFirst_64 hJ (fun q64 Mm64 eq64 eM64 h64 => ?_)
    refine mv_dup (pc := 67) de_Vw_ofFirst_67 rfl ?_
    refine mv_iconst (pc := 68) (v := 0) de_Vw_ofFirst_68 (by decide) ?_
    refine mv_iconst (pc := 69) (v := 0) de_Vw_ofFirst_69 (by decide) ?_
    refine mv_aload_n (pc := 70) (i := 2) de_Vw_ofFirst_70 rfl 2 rfl ?_
    obtain ⟨a71, ha, h71a⟩ := mj_bindE h64
    subst ha
    refine mv_getI (pc := 71) (f := 3) (kc_5 l D E B sa) (Nat.le_of_ble_eq_true rfl) wt_1_188 de_Vw_ofFirst_71 h71a (fun x71 e71 h71 => ?_)
    refine mv_iconst (pc := 74) (v := 0) de_Vw_ofFirst_74 (by decide) ?_
    refine mv_iconst (pc := 75) (v := 1) de_Vw_ofFirst_75 (by decide) ?_
    obtain ⟨r76, Mm76, hz76, h76⟩ := mj_callE h71
    refine mv_callI (pc := 76) (n := 5) (av := [.int 0, .int 0, .int x71, .int 0, .int 1]) (rest := [va_rf (some q64)]) de_Vw_ofFirst_76 (cm_Vw_init l D E B sa N Mm64 q64 0 0 x71 0 1 _ _ hz76) wt_2_111 wt_2_112 wt_1_14 wt_2_113 rfl ⟨by decide, by decide, by decide +kernel⟩ rfl ⟨Nat.le_of_ble_eq_true rfl, Nat.le_of_ble_eq_true rfl⟩ (Nat.le_of_ble_eq_true rfl) rfl ?_
    exact mv_aret (pc := 79) rfl (Or.inl ⟨_, rfl⟩) de_Vw_ofFirst_79 h76
  rw [if_neg hs1_4] at hJ
  by_cases hs1_5 : v0 = 5
  · rw [if_pos hs1_5] at hJ
    refine mv_tin (pc := 1) (tgt := 80) (off := 79) 5 de_Vw_ofFirst_1 hs1_5 (by decide) (by decide) ?_
    refine mv_aload_n (pc := 80) (i := 2) de_Vw_ofFirst_80 rfl 2 rfl ?_
    refine mv_aload_n (pc := 81) (i := 2) de_Vw_ofFirst_81 rfl 2 rfl ?_
    refine mv_iload_n (pc := 82) (i := 1) de_Vw_ofFirst_82 rfl 1 rfl ?_
    obtain ⟨a83, ha, h83a⟩ := mj_bindE hJ
    subst ha
    obtain ⟨hi83, h83o⟩ := mj_obE h83a
    obtain ⟨r83, Mm83, hz83, h83⟩ := mj_callE h83o
    refine mv_callV (pc := 83) (n := 1) (av := [.int v1]) (rest := [va_rf (some a83)]) de_Vw_ofFirst_83 (kc_5 l D E B sa) hi83 (cm_Sh_placeOf l D E B sa N M a83 v1 _ _ hz83) wt_2_132 wt_2_88 wt_2_89 wt_1_9 wt_2_90 ⟨by decide, by decide, by decide +kernel⟩ rfl ⟨Nat.le_of_ble_eq_true rfl, Nat.le_of_ble_eq_true rfl⟩ (Nat.le_of_ble_eq_true rfl) rfl ?_
    refine mv_iconst (pc := 86) (v := 0) de_Vw_ofFirst_86 (by decide) ?_
    obtain ⟨r87, Mm87, hz87, h87⟩ := mj_callE h83
    refine mv_callS (pc := 87) (n := 3) (av := [va_rf (some a83), .int r83, .int 0]) (rest := []) de_Vw_ofFirst_87 (cm_Vw_along l D E B sa N Mm83 (some a83) r83 0 _ _ hz87) wt_2_133 wt_2_134 wt_1_14 wt_2_135 ⟨by decide, by decide, by decide +kernel⟩ rfl ⟨Nat.le_of_ble_eq_true rfl, Nat.le_of_ble_eq_true rfl⟩ (Nat.le_of_ble_eq_true rfl) rfl ?_
    exact mv_aret (pc := 90) rfl (Or.inl ⟨_, rfl⟩) de_Vw_ofFirst_90 h87
  rw [if_neg hs1_5] at hJ
  by_cases hs1_6 : v0 = 6
  · rw [if_pos hs1_6] at hJ
    refine mv_tin (pc := 1) (tgt := 80) (off := 79) 6 de_Vw_ofFirst_1 hs1_6 (by decide) (by decide) ?_
    refine mv_aload_n (pc := 80) (i := 2) de_Vw_ofFirst_80 rfl 2 rfl ?_
    refine mv_aload_n (pc := 81) (i := 2) de_Vw_ofFirst_81 rfl 2 rfl ?_
    refine mv_iload_n (pc := 82) (i := 1) de_Vw_ofFirst_82 rfl 1 rfl ?_
    obtain ⟨a83, ha, h83a⟩ := mj_bindE hJ
    subst ha
    obtain ⟨hi83, h83o⟩ := mj_obE h83a
    obtain ⟨r83, Mm83, hz83, h83⟩ := mj_callE h83o
    refine mv_callV (pc := 83) (n := 1) (av := [.int v1]) (rest := [va_rf (some a83)]) de_Vw_ofFirst_83 (kc_5 l D E B sa) hi83 (cm_Sh_placeOf l D E B sa N M a83 v1 _ _ hz83) wt_2_132 wt_2_88 wt_2_89 wt_1_9 wt_2_90 ⟨by decide, by decide, by decide +kernel⟩ rfl ⟨Nat.le_of_ble_eq_true rfl, Nat.le_of_ble_eq_true rfl⟩ (Nat.le_of_ble_eq_true rfl) rfl ?_
    refine mv_iconst (pc := 86) (v := 0) de_Vw_ofFirst_86 (by decide) ?_
    obtain ⟨r87, Mm87, hz87, h87⟩ := mj_callE h83
    refine mv_callS (pc := 87) (n := 3) (av := [va_rf (some a83), .int r83, .int 0]) (rest := []) de_Vw_ofFirst_87 (cm_Vw_along l D E B sa N Mm83 (some a83) r83 0 _ _ hz87) wt_2_133 wt_2_134 wt_1_14 wt_2_135 ⟨by decide, by decide, by decide +kernel⟩ rfl ⟨Nat.le_of_ble_eq_true rfl, Nat.le_of_ble_eq_true rfl⟩ (Nat.le_of_ble_eq_true rfl) rfl ?_
    exact mv_aret (pc := 90) rfl (Or.inl ⟨_, rfl⟩) de_Vw_ofFirst_90 h87
  rw [if_neg hs1_6] at hJ
  by_cases hs1_7 : v0 = 7
  · rw [if_pos hs1_7] at hJ
    refine mv_tin (pc := 1) (tgt := 80) (off := 79) 7 de_Vw_ofFirst_1 hs1_7 (by decide) (by decide) ?_
    refine mv_aload_n (pc := 80) (i := 2) de_Vw_ofFirst_80 rfl 2 rfl ?_
    refine mv_aload_n (pc := 81) (i := 2) de_Vw_ofFirst_81 rfl 2 rfl ?_
    refine mv_iload_n (pc := 82) (i := 1) de_Vw_ofFirst_82 rfl 1 rfl ?_
    obtain ⟨a83, ha, h83a⟩ := mj_bindE hJ
    subst ha
    obtain ⟨hi83, h83o⟩ := mj_obE h83a
    obtain ⟨r83, Mm83, hz83, h83⟩ := mj_callE h83o
    refine mv_callV (pc := 83) (n := 1) (av := [.int v1]) (rest := [va_rf (some a83)]) de_Vw_ofFirst_83 (kc_5 l D E B sa) hi83 (cm_Sh_placeOf l D E B sa N M a83 v1 _ _ hz83) wt_2_132 wt_2_88 wt_2_89 wt_1_9 wt_2_90 ⟨by decide, by decide, by decide +kernel⟩ rfl ⟨Nat.le_of_ble_eq_true rfl, Nat.le_of_ble_eq_true rfl⟩ (Nat.le_of_ble_eq_true rfl) rfl ?_
    refine mv_iconst (pc := 86) (v := 0) de_Vw_ofFirst_86 (by decide) ?_
    obtain ⟨r87, Mm87, hz87, h87⟩ := mj_callE h83
    refine mv_callS (pc := 87) (n := 3) (av := [va_rf (some a83), .int r83, .int 0]) (rest := []) de_Vw_ofFirst_87 (cm_Vw_along l D E B sa N Mm83 (some a83) r83 0 _ _ hz87) wt_2_133 wt_2_134 wt_1_14 wt_2_135 ⟨by decide, by decide, by decide +kernel⟩ rfl ⟨Nat.le_of_ble_eq_true rfl, Nat.le_of_ble_eq_true rfl⟩ (Nat.le_of_ble_eq_true rfl) rfl ?_
    exact mv_aret (pc := 90) rfl (Or.inl ⟨_, rfl⟩) de_Vw_ofFirst_90 h87
  rw [if_neg hs1_7] at hJ
  by_cases hs1_8 : v0 = 8
  · rw [if_pos hs1_8] at hJ
    refine mv_tin (pc := 1) (tgt := 91) (off := 90) 8 de_Vw_ofFirst_1 hs1_8 (by decide) (by decide) ?_
    refine mv_aload_n (pc := 91) (i := 2) de_Vw_ofFirst_91 rfl 2 rfl ?_
    refine mv_aload_n (pc := 92) (i := 2) de_Vw_ofFirst_92 rfl 2 rfl ?_
    refine mv_iconst (pc := 93) (v := 0) de_Vw_ofFirst_93 (by decide) ?_
    obtain ⟨a94, ha, h94a⟩ := mj_bindE hJ
    subst ha
    obtain ⟨hi94, h94o⟩ := mj_obE h94a
    obtain ⟨r94, Mm94, hz94, h94⟩ := mj_callE h94o
    refine mv_callV (pc := 94) (n := 1) (av := [.int 0]) (rest := [va_rf (some a94)]) de_Vw_ofFirst_94 (kc_5 l D E B sa) hi94 (cm_Sh_placeOf l D E B sa N M a94 0 _ _ hz94) wt_2_132 wt_2_88 wt_2_89 wt_1_9 wt_2_90 ⟨by decide, by decide, by decide +kernel⟩ rfl ⟨Nat.le_of_ble_eq_true rfl, Nat.le_of_ble_eq_true rfl⟩ (Nat.le_of_ble_eq_true rfl) rfl ?_
    refine mv_iload_n (pc := 97) (i := 1) de_Vw_ofFirst_97 rfl 1 rfl ?_
    obtain ⟨r98, Mm98, hz98, h98⟩ := mj_callE h94
    refine mv_callS (pc := 98) (n := 3) (av := [va_rf (some a94), .int r94, .int v1]) (rest := []) de_Vw_ofFirst_98 (cm_Vw_along l D E B sa N Mm94 (some a94) r94 v1 _ _ hz98) wt_2_133 wt_2_134 wt_1_14 wt_2_135 ⟨by decide, by decide, by decide +kernel⟩ rfl ⟨Nat.le_of_ble_eq_true rfl, Nat.le_of_ble_eq_true rfl⟩ (Nat.le_of_ble_eq_true rfl) rfl ?_
    exact mv_aret (pc := 101) rfl (Or.inl ⟨_, rfl⟩) de_Vw_ofFirst_101 h98
  rw [if_neg hs1_8] at hJ
  by_cases hs1_9 : v0 = 9
  · rw [if_pos hs1_9] at hJ
    refine mv_tin (pc := 1) (tgt := 102) (off := 101) 9 de_Vw_ofFirst_1 hs1_9 (by decide) (by decide) ?_
    refine mv_nw (pc := 102) (kc_9 l D E B sa) wt_2_109 wt_2_110 wt_1_14 (kn_9) de_Vw_ofFirst_102 hJ (fun q102 Mm102 eq102 eM102 h102 => ?_)
    refine mv_dup (pc := 105) de_Vw_ofFirst_105 rfl ?_
    refine mv_iconst (pc := 106) (v := 0) de_Vw_ofFirst_106 (by decide) ?_
    refine mv_aload_n (pc := 107) (i := 2) de_Vw_ofFirst_107 rfl 2 rfl ?_
    refine mv_iconst (pc := 108) (v := 0) de_Vw_ofFirst_108 (by decide) ?_
    obtain ⟨a109, ha, h109a⟩ := mj_bindE h102
    subst ha
    obtain ⟨hi109, h109o⟩ := mj_obE h109a
    obtain ⟨r109, Mm109, hz109, h109⟩ := mj_callE h109o
    refine mv_callV (pc := 109) (n := 1) (av := [.int 0]) (rest := [.int 0, va_rf (some q102), va_rf (some q102)]) de_Vw_ofFirst_109 (kc_5 l D E B sa) hi109 (cm_Sh_stepAt l D E B sa N Mm102 a109 0 _ _ hz109) wt_2_136 wt_2_137 wt_2_138 wt_1_9 wt_2_139 ⟨by decide, by decide, by decide +kernel⟩ rfl ⟨Nat.le_of_ble_eq_true rfl, Nat.le_of_ble_eq_true rfl⟩ (Nat.le_of_ble_eq_true rfl) rfl ?_
    refine mv_iconst (pc := 112) (v := 1) de_Vw_ofFirst_112 (by decide) ?_
    refine mv_aload_n (pc := 113) (i := 2) de_Vw_ofFirst_113 rfl 2 rfl ?_
    refine mv_getI (pc := 114) (f := 3) (kc_5 l D E B sa) (Nat.le_of_ble_eq_true rfl) wt_1_188 de_Vw_ofFirst_114 h109 (fun x114 e114 h114 => ?_)
    refine mv_iconst (pc := 117) (v := 0) de_Vw_ofFirst_117 (by decide) ?_
    obtain ⟨r118, Mm118, hz118, h118⟩ := mj_callE h114
    refine mv_callI (pc := 118) (n := 5) (av := [.int 0, .int r109, .int 1, .int x114, .int 0]) (rest := [va_rf (some q102)]) de_Vw_ofFirst_118 (cm_Vw_init l D E B sa N Mm109 q102 0 r109 1 x114 0 _ _ hz118) wt_2_111 wt_2_112 wt_1_14 wt_2_113 rfl ⟨by decide, by decide, by decide +kernel⟩ rfl ⟨Nat.le_of_ble_eq_true rfl, Nat.le_of_ble_eq_true rfl⟩ (Nat.le_of_ble_eq_true rfl) rfl ?_
    exact mv_aret (pc := 121) rfl (Or.inl ⟨_, rfl⟩) de_Vw_ofFirst_121 h118
  rw [if_neg hs1_9] at hJ
  by_cases hs1_10 : v0 = 10
  · rw [if_pos hs1_10] at hJ
    refine mv_tin (pc := 1) (tgt := 148) (off := 147) 10 de_Vw_ofFirst_1 hs1_10 (by decide) (by decide) ?_
    refine mv_aload_n (pc := 148) (i := 2) de_Vw_ofFirst_148 rfl 2 rfl ?_
    obtain ⟨r149, Mm149, hz149, h149⟩ := mj_callE hJ
    refine mv_callS (pc := 149) (n := 1) (av := [va_rf v2]) (rest := []) de_Vw_ofFirst_149 (cm_Vw_spread l D E B sa N M v2 _ _ hz149) wt_2_140 wt_2_141 wt_1_14 wt_2_142 ⟨by decide, by decide, by decide +kernel⟩ rfl ⟨Nat.le_of_ble_eq_true rfl, Nat.le_of_ble_eq_true rfl⟩ (Nat.le_of_ble_eq_true rfl) rfl ?_
    exact mv_aret (pc := 152) rfl (Or.inl ⟨_, rfl⟩) de_Vw_ofFirst_152 h149
  rw [if_neg hs1_10] at hJ
  by_cases hs1_11 : v0 = 11
  · rw [if_pos hs1_11] at hJ
    refine mv_tin (pc := 1) (tgt := 148) (off := 147) 11 de_Vw_ofFirst_1 hs1_11 (by decide) (by decide) ?_
    refine mv_aload_n (pc := 148) (i := 2) de_Vw_ofFirst_148 rfl 2 rfl ?_
    obtain ⟨r149, Mm149, hz149, h149⟩ := mj_callE hJ
    refine mv_callS (pc := 149) (n := 1) (av := [va_rf v2]) (rest := []) de_Vw_ofFirst_149 (cm_Vw_spread l D E B sa N M v2 _ _ hz149) wt_2_140 wt_2_141 wt_1_14 wt_2_142 ⟨by decide, by decide, by decide +kernel⟩ rfl ⟨Nat.le_of_ble_eq_true rfl, Nat.le_of_ble_eq_true rfl⟩ (Nat.le_of_ble_eq_true rfl) rfl ?_
    exact mv_aret (pc := 152) rfl (Or.inl ⟨_, rfl⟩) de_Vw_ofFirst_152 h149
  rw [if_neg hs1_11] at hJ
  by_cases hs1_12 : v0 = 12
  · rw [if_pos hs1_12] at hJ
    refine mv_tin (pc := 1) (tgt := 148) (off := 147) 12 de_Vw_ofFirst_1 hs1_12 (by decide) (by decide) ?_
    refine mv_aload_n (pc := 148) (i := 2) de_Vw_ofFirst_148 rfl 2 rfl ?_
    obtain ⟨r149, Mm149, hz149, h149⟩ := mj_callE hJ
    refine mv_callS (pc := 149) (n := 1) (av := [va_rf v2]) (rest := []) de_Vw_ofFirst_149 (cm_Vw_spread l D E B sa N M v2 _ _ hz149) wt_2_140 wt_2_141 wt_1_14 wt_2_142 ⟨by decide, by decide, by decide +kernel⟩ rfl ⟨Nat.le_of_ble_eq_true rfl, Nat.le_of_ble_eq_true rfl⟩ (Nat.le_of_ble_eq_true rfl) rfl ?_
    exact mv_aret (pc := 152) rfl (Or.inl ⟨_, rfl⟩) de_Vw_ofFirst_152 h149
  rw [if_neg hs1_12] at hJ
  by_cases hs1_13 : v0 = 13
  · rw [if_pos hs1_13] at hJ
    refine mv_tin (pc := 1) (tgt := 148) (off := 147) 13 de_Vw_ofFirst_1 hs1_13 (by decide) (by decide) ?_
    refine mv_aload_n (pc := 148) (i := 2) de_Vw_ofFirst_148 rfl 2 rfl ?_
    obtain ⟨r149, Mm149, hz149, h149⟩ := mj_callE hJ
    refine mv_callS (pc := 149) (n := 1) (av := [va_rf v2]) (rest := []) de_Vw_ofFirst_149 (cm_Vw_spread l D E B sa N M v2 _ _ hz149) wt_2_140 wt_2_141 wt_1_14 wt_2_142 ⟨by decide, by decide, by decide +kernel⟩ rfl ⟨Nat.le_of_ble_eq_true rfl, Nat.le_of_ble_eq_true rfl⟩ (Nat.le_of_ble_eq_true rfl) rfl ?_
    exact mv_aret (pc := 152) rfl (Or.inl ⟨_, rfl⟩) de_Vw_ofFirst_152 h149
  rw [if_neg hs1_13] at hJ
  by_cases hs1_14 : v0 = 14
  · rw [if_pos hs1_14] at hJ
    refine mv_tin (pc := 1) (tgt := 122) (off := 121) 14 de_Vw_ofFirst_1 hs1_14 (by decide) (by decide) ?_
    refine mv_nw (pc := 122) (kc_9 l D E B sa) wt_2_109 wt_2_110 wt_1_14 (kn_9) de_Vw_ofFirst_122 hJ (fun q122 Mm122 eq122 eM122 h122 => ?_)
    refine mv_dup (pc := 125) de_Vw_ofFirst_125 rfl ?_
    refine mv_iconst (pc := 126) (v := 0) de_Vw_ofFirst_126 (by decide) ?_
    refine mv_iconst (pc := 127) (v := 0) de_Vw_ofFirst_127 (by decide) ?_
    refine mv_iconst (pc := 128) (v := 0) de_Vw_ofFirst_128 (by decide) ?_
    refine mv_iconst (pc := 129) (v := 1) de_Vw_ofFirst_129 (by decide) ?_
    refine mv_iconst (pc := 130) (v := 0) de_Vw_ofFirst_130 (by decide) ?_
    obtain ⟨r131, Mm131, hz131, h131⟩ := mj_callE h122
    refine mv_callI (pc := 131) (n := 5) (av := [.int 0, .int 0, .int 0, .int 1, .int 0]) (rest := [va_rf (some q122)]) de_Vw_ofFirst_131 (cm_Vw_init l D E B sa N Mm122 q122 0 0 0 1 0 _ _ hz131) wt_2_111 wt_2_112 wt_1_14 wt_2_113 rfl ⟨by decide, by decide, by decide +kernel⟩ rfl ⟨Nat.le_of_ble_eq_true rfl, Nat.le_of_ble_eq_true rfl⟩ (Nat.le_of_ble_eq_true rfl) rfl ?_
    exact mv_aret (pc := 134) rfl (Or.inl ⟨_, rfl⟩) de_Vw_ofFirst_134 h131
  rw [if_neg hs1_14] at hJ
  by_cases hs1_15 : v0 = 15
  · rw [if_pos hs1_15] at hJ
    refine mv_tin (pc := 1) (tgt := 135) (off := 134) 15 de_Vw_ofFirst_1 hs1_15 (by decide) (by decide) ?_
    refine mv_nw (pc := 135) (kc_9 l D E B sa) wt_2_109 wt_2_110 wt_1_14 (kn_9) de_Vw_ofFirst_135 hJ (fun q135 Mm135 eq135 eM135 h135 => ?_)
    refine mv_dup (pc := 138) de_Vw_ofFirst_138 rfl ?_
    refine mv_iconst (pc := 139) (v := 0) de_Vw_ofFirst_139 (by decide) ?_
    refine mv_iconst (pc := 140) (v := 0) de_Vw_ofFirst_140 (by decide) ?_
    refine mv_iconst (pc := 141) (v := 0) de_Vw_ofFirst_141 (by decide) ?_
    refine mv_iconst (pc := 142) (v := 0) de_Vw_ofFirst_142 (by decide) ?_
    refine mv_iconst (pc := 143) (v := 1) de_Vw_ofFirst_143 (by decide) ?_
    obtain ⟨r144, Mm144, hz144, h144⟩ := mj_callE h135
    refine mv_callI (pc := 144) (n := 5) (av := [.int 0, .int 0, .int 0, .int 0, .int 1]) (rest := [va_rf (some q135)]) de_Vw_ofFirst_144 (cm_Vw_init l D E B sa N Mm135 q135 0 0 0 0 1 _ _ hz144) wt_2_111 wt_2_112 wt_1_14 wt_2_113 rfl ⟨by decide, by decide, by decide +kernel⟩ rfl ⟨Nat.le_of_ble_eq_true rfl, Nat.le_of_ble_eq_true rfl⟩ (Nat.le_of_ble_eq_true rfl) rfl ?_
    exact mv_aret (pc := 147) rfl (Or.inl ⟨_, rfl⟩) de_Vw_ofFirst_147 h144
  rw [if_neg hs1_15] at hJ
  have qhs1_4 := lv_neT (a := 4) hs1_4 (by decide)
  have qhs1_5 := lv_neT (a := 5) hs1_5 (by decide)
  have qhs1_6 := lv_neT (a := 6) hs1_6 (by decide)
  have qhs1_7 := lv_neT (a := 7) hs1_7 (by decide)
  have qhs1_8 := lv_neT (a := 8) hs1_8 (by decide)
  have qhs1_9 := lv_neT (a := 9) hs1_9 (by decide)
  have qhs1_10 := lv_neT (a := 10) hs1_10 (by decide)
  have qhs1_11 := lv_neT (a := 11) hs1_11 (by decide)
  have qhs1_12 := lv_neT (a := 12) hs1_12 (by decide)
  have qhs1_13 := lv_neT (a := 13) hs1_13 (by decide)
  have qhs1_14 := lv_neT (a := 14) hs1_14 (by decide)
  have qhs1_15 := lv_neT (a := 15) hs1_15 (by decide)
  refine mv_tout (pc := 1) (tgt := 148) de_Vw_ofFirst_1 (by omega) (by decide) ?_
  refine mv_aload_n (pc := 148) (i := 2) de_Vw_ofFirst_148 rfl 2 rfl ?_
  obtain ⟨r149, Mm149, hz149, h149⟩ := mj_callE hJ
  refine mv_callS (pc := 149) (n := 1) (av := [va_rf v2]) (rest := []) de_Vw_ofFirst_149 (cm_Vw_spread l D E B sa N M v2 _ _ hz149) wt_2_140 wt_2_141 wt_1_14 wt_2_142 ⟨by decide, by decide, by decide +kernel⟩ rfl ⟨Nat.le_of_ble_eq_true rfl, Nat.le_of_ble_eq_true rfl⟩ (Nat.le_of_ble_eq_true rfl) rfl ?_
  exact mv_aret (pc := 152) rfl (Or.inl ⟨_, rfl⟩) de_Vw_ofFirst_152 h149
theorem cm_Vw_ofFirst (l : Launch) (D : va_G) (E : Nat → ClassId) (B : Nat) (sa : (Nat → Nat) × Nat × (Nat → Int32)) (N : Nat) (M : mv_M) (v0 : Int32) (v1 : Int32) (v2 : Option Nat) (r : Option Nat) (M1 : mv_M) (hJ : jf_Vw_ofFirst N M v0 v1 v2 = some (r, M1)) : mv_Met (xg l D E B sa) yn_Vw_ofFirst cd_Vw_ofFirst 3 (some (.object "PlainLearner$View")) 3 68 [.int v0, .int v1, va_rf v2] M (some (va_rf r)) M1 := by
  cases v2 <;> exact mv_enter (by decide) (Nat.le_of_ble_eq_true rfl) (mv_sub [0, 1, 2] rfl (tb_Vw_ofFirst_0 l D E B sa M M1 r N M _ _ _ hJ))
/-! ===== PlainLearner$View.ofSecond(ILPlainLearner$Shape;)LPlainLearner$View; ===== -/
abbrev kd_Vw_ofSecond : mv_Kd := (cd_Vw_ofSecond, 2, "PlainLearner$View", "ofSecond", (some (.object "PlainLearner$View")), 3, 65)
theorem de_Vw_ofSecond_0 : decode cd_Vw_ofSecond 0 = .ok (.iload_n 0, 1) := by decide +kernel
theorem de_Vw_ofSecond_1 : decode cd_Vw_ofSecond 1 = .ok (.iconst 4, 1) := by decide +kernel
theorem de_Vw_ofSecond_2 : decode cd_Vw_ofSecond 2 = .ok (.if_icmp .ne 21, 3) := by decide +kernel
theorem de_Vw_ofSecond_5 : decode cd_Vw_ofSecond 5 = .ok (.new 8, 3) := by decide +kernel
theorem de_Vw_ofSecond_8 : decode cd_Vw_ofSecond 8 = .ok (.dup, 1) := by decide +kernel
theorem de_Vw_ofSecond_9 : decode cd_Vw_ofSecond 9 = .ok (.iconst 0, 1) := by decide +kernel
theorem de_Vw_ofSecond_10 : decode cd_Vw_ofSecond 10 = .ok (.iconst 0, 1) := by decide +kernel
theorem de_Vw_ofSecond_11 : decode cd_Vw_ofSecond 11 = .ok (.iconst 0, 1) := by decide +kernel
theorem de_Vw_ofSecond_12 : decode cd_Vw_ofSecond 12 = .ok (.iconst 1, 1) := by decide +kernel
theorem de_Vw_ofSecond_13 : decode cd_Vw_ofSecond 13 = .ok (.aload_n 1, 1) := by decide +kernel
theorem de_Vw_ofSecond_14 : decode cd_Vw_ofSecond 14 = .ok (.getfield 25, 3) := by decide +kernel
theorem de_Vw_ofSecond_17 : decode cd_Vw_ofSecond 17 = .ok (.invokespecial 28, 3) := by decide +kernel
theorem de_Vw_ofSecond_20 : decode cd_Vw_ofSecond 20 = .ok (.goto 7, 3) := by decide +kernel
theorem de_Vw_ofSecond_23 : decode cd_Vw_ofSecond 23 = .ok (.aload_n 1, 1) := by decide +kernel
theorem de_Vw_ofSecond_24 : decode cd_Vw_ofSecond 24 = .ok (.invokestatic 42, 3) := by decide +kernel
theorem de_Vw_ofSecond_27 : decode cd_Vw_ofSecond 27 = .ok (.areturn, 1) := by decide +kernel
def jb_Vw_ofSecond_27 (N : Nat) (M : mv_M) (s0 : Option Nat) : Option (Option Nat × mv_M) :=
  some (s0, M)
def jb_Vw_ofSecond_0 (N : Nat) (M : mv_M) (v0 : Int32) (v1 : Option Nat) : Option (Option Nat × mv_M) :=
  if v0 = 4 then (mj_nw M 9 5 [.int 0, .int 0, .int 0, .int 0, .int 0] fun q5 Mm5 =>
  Option.bind v1 fun a14 =>
  Option.bind (mj_getI Mm5 a14 5 3) fun x14 =>
  mj_call (jf_Vw_init N Mm5 q5 0 0 0 1 x14) fun r17 Mm17 =>
  jb_Vw_ofSecond_27 N Mm17 (some q5)) else
  mj_call (jf_Vw_spread N M v1) fun r24 Mm24 =>
  jb_Vw_ofSecond_27 N Mm24 r24
def jf_Vw_ofSecond (N : Nat) (M : mv_M) (v0 : Int32) (v1 : Option Nat) : Option (Option Nat × mv_M) := jb_Vw_ofSecond_0 N M v0 v1
set_option maxHeartbeats 4000000 in
set_option maxRecDepth 100000 in
theorem tb_Vw_ofSecond_27 (l : Launch) (D : va_G) (E : Nat → ClassId) (B : Nat) (sa : (Nat → Nat) × Nat × (Nat → Int32)) (M0 M1 : mv_M) (r : Option Nat) (N : Nat) (M : mv_M) (s0 : Option Nat) (hJ : jb_Vw_ofSecond_27 N M s0 = some (r, M1)) : mv_G (xg l D E B sa) kd_Vw_ofSecond M0 M1 (some (va_rf r)) M 27 [] [va_rf s0] := by
  unfold jb_Vw_ofSecond_27 at hJ
  exact mv_aret (pc := 27) rfl (Or.inl ⟨_, rfl⟩) de_Vw_ofSecond_27 hJ
set_option maxHeartbeats 4000000 in
set_option maxRecDepth 100000 in
theorem tb_Vw_ofSecond_0 (l : Launch) (D : va_G) (E : Nat → ClassId) (B : Nat) (sa : (Nat → Nat) × Nat × (Nat → Int32)) (M0 M1 : mv_M) (r : Option Nat) (N : Nat) (M : mv_M) (v0 : Int32) (v1 : Option Nat) (hJ : jb_Vw_ofSecond_0 N M v0 v1 = some (r, M1)) : mv_G (xg l D E B sa) kd_Vw_ofSecond M0 M1 (some (va_rf r)) M 0 [(0, .int v0), (1, va_rf v1)] [] := by
  unfold jb_Vw_ofSecond_0 at hJ
  refine mv_iload_n (pc := 0) (i := 0) de_Vw_ofSecond_0 rfl 0 rfl ?_
  refine mv_iconst (pc := 1) (v := 4) de_Vw_ofSecond_1 (by decide) ?_
  refine mv_icmp_ne (pc := 2) (tgt := 23) de_Vw_ofSecond_2 (by decide) hJ (fun hc2 h2 => ?_) (fun hc2 h2 => ?_)
  · refine mv_nw (pc := 5) (kc_9 l D E B sa) wt_2_109 wt_2_110 wt_1_14 (kn_9) de_Vw_ofSecond_5 h2 (fun q5 Mm5 eq5 eM5 h5 => ?_)
    refine mv_dup (pc := 8) de_Vw_ofSecond_8 rfl ?_
    refine mv_iconst (pc := 9) (v := 0) de_Vw_ofSecond_9 (by decide) ?_
    refine mv_iconst (pc := 10) (v := 0) de_Vw_ofSecond_10 (by decide) ?_
    refine mv_iconst (pc := 11) (v := 0) de_Vw_ofSecond_11 (by decide) ?_
    refine mv_iconst (pc := 12) (v := 1) de_Vw_ofSecond_12 (by decide) ?_
    refine mv_aload_n (pc := 13) (i := 1) de_Vw_ofSecond_13 rfl 1 rfl ?_
    obtain ⟨a14, ha, h14a⟩ := mj_bindE h5
    subst ha
    refine mv_getI (pc := 14) (f := 3) (kc_5 l D E B sa) (Nat.le_of_ble_eq_true rfl) wt_1_188 de_Vw_ofSecond_14 h14a (fun x14 e14 h14 => ?_)
    obtain ⟨r17, Mm17, hz17, h17⟩ := mj_callE h14
    refine mv_callI (pc := 17) (n := 5) (av := [.int 0, .int 0, .int 0, .int 1, .int x14]) (rest := [va_rf (some q5)]) de_Vw_ofSecond_17 (cm_Vw_init l D E B sa N Mm5 q5 0 0 0 1 x14 _ _ hz17) wt_2_111 wt_2_112 wt_1_14 wt_2_113 rfl ⟨by decide, by decide, by decide +kernel⟩ rfl ⟨Nat.le_of_ble_eq_true rfl, Nat.le_of_ble_eq_true rfl⟩ (Nat.le_of_ble_eq_true rfl) rfl ?_
    refine mv_goto (pc := 20) (tgt := 27) de_Vw_ofSecond_20 (by decide) ?_
    exact mv_sub [] rfl (tb_Vw_ofSecond_27 l D E B sa M0 M1 r N Mm17 (some q5) h17)
  · refine mv_aload_n (pc := 23) (i := 1) de_Vw_ofSecond_23 rfl 1 rfl ?_
    obtain ⟨r24, Mm24, hz24, h24⟩ := mj_callE h2
    refine mv_callS (pc := 24) (n := 1) (av := [va_rf v1]) (rest := []) de_Vw_ofSecond_24 (cm_Vw_spread l D E B sa N M v1 _ _ hz24) wt_2_140 wt_2_141 wt_1_14 wt_2_142 ⟨by decide, by decide, by decide +kernel⟩ rfl ⟨Nat.le_of_ble_eq_true rfl, Nat.le_of_ble_eq_true rfl⟩ (Nat.le_of_ble_eq_true rfl) rfl ?_
    exact mv_sub [] rfl (tb_Vw_ofSecond_27 l D E B sa M0 M1 r N Mm24 r24 h24)
theorem cm_Vw_ofSecond (l : Launch) (D : va_G) (E : Nat → ClassId) (B : Nat) (sa : (Nat → Nat) × Nat × (Nat → Int32)) (N : Nat) (M : mv_M) (v0 : Int32) (v1 : Option Nat) (r : Option Nat) (M1 : mv_M) (hJ : jf_Vw_ofSecond N M v0 v1 = some (r, M1)) : mv_Met (xg l D E B sa) yn_Vw_ofSecond cd_Vw_ofSecond 2 (some (.object "PlainLearner$View")) 3 65 [.int v0, va_rf v1] M (some (va_rf r)) M1 := by
  cases v1 <;> exact mv_enter (by decide) (Nat.le_of_ble_eq_true rfl) (mv_sub [0, 1] rfl (tb_Vw_ofSecond_0 l D E B sa M M1 r N M _ _ hJ))
/-! ===== PlainLearner$Node.termsOf(IILPlainLearner$Shape;)I ===== -/
abbrev kd_No_termsOf : mv_Kd := (cd_No_termsOf, 3, "PlainLearner$Node", "termsOf", (some .int), 1, 21)
theorem de_No_termsOf_0 : decode cd_No_termsOf 0 = .ok (.iload_n 0, 1) := by decide +kernel
theorem de_No_termsOf_1 : decode cd_No_termsOf 1 = .ok (.tableswitch 83 4 15 #[63, 68, 68, 68, 83, 83, 83, 83, 83, 83, 83, 78], 63) := by decide +kernel
theorem de_No_termsOf_64 : decode cd_No_termsOf 64 = .ok (.aload_n 2, 1) := by decide +kernel
theorem de_No_termsOf_65 : decode cd_No_termsOf 65 = .ok (.getfield 76, 3) := by decide +kernel
theorem de_No_termsOf_68 : decode cd_No_termsOf 68 = .ok (.ireturn, 1) := by decide +kernel
theorem de_No_termsOf_69 : decode cd_No_termsOf 69 = .ok (.aload_n 2, 1) := by decide +kernel
theorem de_No_termsOf_70 : decode cd_No_termsOf 70 = .ok (.aload_n 2, 1) := by decide +kernel
theorem de_No_termsOf_71 : decode cd_No_termsOf 71 = .ok (.iload_n 1, 1) := by decide +kernel
theorem de_No_termsOf_72 : decode cd_No_termsOf 72 = .ok (.invokevirtual 79, 3) := by decide +kernel
theorem de_No_termsOf_75 : decode cd_No_termsOf 75 = .ok (.invokevirtual 83, 3) := by decide +kernel
theorem de_No_termsOf_78 : decode cd_No_termsOf 78 = .ok (.ireturn, 1) := by decide +kernel
theorem de_No_termsOf_79 : decode cd_No_termsOf 79 = .ok (.aload_n 2, 1) := by decide +kernel
theorem de_No_termsOf_80 : decode cd_No_termsOf 80 = .ok (.getfield 42, 3) := by decide +kernel
theorem de_No_termsOf_83 : decode cd_No_termsOf 83 = .ok (.ireturn, 1) := by decide +kernel
theorem de_No_termsOf_84 : decode cd_No_termsOf 84 = .ok (.iconst 1, 1) := by decide +kernel
theorem de_No_termsOf_85 : decode cd_No_termsOf 85 = .ok (.ireturn, 1) := by decide +kernel
def jb_No_termsOf_0 (N : Nat) (M : mv_M) (v0 : Int32) (v1 : Int32) (v2 : Option Nat) : Option (Int32 × mv_M) :=
  if v0 = 4 then (Option.bind v2 fun a65 =>
  Option.bind (mj_getI M a65 5 3) fun x65 =>
  some (x65, M)) else
  if v0 = 5 then (Option.bind v2 fun a72 =>
  mj_ob M a72 5 <|
  mj_call (jf_Sh_placeOf N M a72 v1) fun r72 Mm72 =>
  mj_ob Mm72 a72 5 <|
  mj_call (jf_Sh_lengthAt N Mm72 a72 r72) fun r75 Mm75 =>
  some (r75, Mm75)) else
  if v0 = 6 then (Option.bind v2 fun a72 =>
  mj_ob M a72 5 <|
  mj_call (jf_Sh_placeOf N M a72 v1) fun r72 Mm72 =>
  mj_ob Mm72 a72 5 <|
  mj_call (jf_Sh_lengthAt N Mm72 a72 r72) fun r75 Mm75 =>
  some (r75, Mm75)) else
  if v0 = 7 then (Option.bind v2 fun a72 =>
  mj_ob M a72 5 <|
  mj_call (jf_Sh_placeOf N M a72 v1) fun r72 Mm72 =>
  mj_ob Mm72 a72 5 <|
  mj_call (jf_Sh_lengthAt N Mm72 a72 r72) fun r75 Mm75 =>
  some (r75, Mm75)) else
  if v0 = 8 then (some (1, M)) else
  if v0 = 9 then (some (1, M)) else
  if v0 = 10 then (some (1, M)) else
  if v0 = 11 then (some (1, M)) else
  if v0 = 12 then (some (1, M)) else
  if v0 = 13 then (some (1, M)) else
  if v0 = 14 then (some (1, M)) else
  if v0 = 15 then (Option.bind v2 fun a80 =>
  Option.bind (mj_getI M a80 5 4) fun x80 =>
  some (x80, M)) else
  some (1, M)
def jf_No_termsOf (N : Nat) (M : mv_M) (v0 : Int32) (v1 : Int32) (v2 : Option Nat) : Option (Int32 × mv_M) := jb_No_termsOf_0 N M v0 v1 v2
set_option maxHeartbeats 4000000 in
set_option maxRecDepth 100000 in
theorem tb_No_termsOf_0 (l : Launch) (D : va_G) (E : Nat → ClassId) (B : Nat) (sa : (Nat → Nat) × Nat × (Nat → Int32)) (M0 M1 : mv_M) (r : Int32) (N : Nat) (M : mv_M) (v0 : Int32) (v1 : Int32) (v2 : Option Nat) (hJ : jb_No_termsOf_0 N M v0 v1 v2 = some (r, M1)) : mv_G (xg l D E B sa) kd_No_termsOf M0 M1 (some (.int r)) M 0 [(0, .int v0), (1, .int v1), (2, va_rf v2)] [] := by
  unfold jb_No_termsOf_0 at hJ
  refine mv_iload_n (pc := 0) (i := 0) de_No_termsOf_0 rfl 0 rfl ?_
  by_cases hs1_4 : v0 = 4
  · rw [if_pos hs1_4] at hJ
    refine mv_tin (pc := 1) (tgt := 64) (off := 63) 4 de_No_termsOf_1 hs1_4 (by decide) (by decide) ?_
    refine mv_aload_n (pc := 64) (i := 2) de_No_termsOf_64 rfl 2 rfl ?_
    obtain ⟨a65, ha, h65a⟩ := mj_bindE hJ
    subst ha
    refine mv_getI (pc := 65) (f := 3) (kc_5 l D E B sa) (Nat.le_of_ble_eq_true rfl) wt_1_189 de_No_termsOf_65 h65a (fun x65 e65 h65 => ?_)
    exact mv_iret (pc := 68) rfl de_No_termsOf_68 h65
  rw [if_neg hs1_4] at hJ
  by_cases hs1_5 : v0 = 5
  · rw [if_pos hs1_5] at hJ
    refine mv_tin (pc := 1) (tgt := 69) (off := 68) 5 de_No_termsOf_1 hs1_5 (by decide) (by decide) ?_
    refine mv_aload_n (pc := 69) (i := 2) de_No_termsOf_69 rfl 2 rfl ?_
    refine mv_aload_n (pc := 70) (i := 2) de_No_termsOf_70 rfl 2 rfl ?_
    refine mv_iload_n (pc := 71) (i := 1) de_No_termsOf_71 rfl 1 rfl ?_
    obtain ⟨a72, ha, h72a⟩ := mj_bindE hJ
    subst ha
    obtain ⟨hi72, h72o⟩ := mj_obE h72a
    obtain ⟨r72, Mm72, hz72, h72⟩ := mj_callE h72o
    refine mv_callV (pc := 72) (n := 1) (av := [.int v1]) (rest := [va_rf (some a72)]) de_No_termsOf_72 (kc_5 l D E B sa) hi72 (cm_Sh_placeOf l D E B sa N M a72 v1 _ _ hz72) wt_2_149 wt_2_88 wt_2_89 wt_1_9 wt_2_90 ⟨by decide, by decide, by decide +kernel⟩ rfl ⟨Nat.le_of_ble_eq_true rfl, Nat.le_of_ble_eq_true rfl⟩ (Nat.le_of_ble_eq_true rfl) rfl ?_
    obtain ⟨hi75, h75o⟩ := mj_obE h72
    obtain ⟨r75, Mm75, hz75, h75⟩ := mj_callE h75o
    refine mv_callV (pc := 75) (n := 1) (av := [.int r72]) (rest := []) de_No_termsOf_75 (kc_5 l D E B sa) hi75 (cm_Sh_lengthAt l D E B sa N Mm72 a72 r72 _ _ hz75) wt_2_150 wt_2_100 wt_2_101 wt_1_9 wt_2_102 ⟨by decide, by decide, by decide +kernel⟩ rfl ⟨Nat.le_of_ble_eq_true rfl, Nat.le_of_ble_eq_true rfl⟩ (Nat.le_of_ble_eq_true rfl) rfl ?_
    exact mv_iret (pc := 78) rfl de_No_termsOf_78 h75
  rw [if_neg hs1_5] at hJ
  by_cases hs1_6 : v0 = 6
  · rw [if_pos hs1_6] at hJ
    refine mv_tin (pc := 1) (tgt := 69) (off := 68) 6 de_No_termsOf_1 hs1_6 (by decide) (by decide) ?_
    refine mv_aload_n (pc := 69) (i := 2) de_No_termsOf_69 rfl 2 rfl ?_
    refine mv_aload_n (pc := 70) (i := 2) de_No_termsOf_70 rfl 2 rfl ?_
    refine mv_iload_n (pc := 71) (i := 1) de_No_termsOf_71 rfl 1 rfl ?_
    obtain ⟨a72, ha, h72a⟩ := mj_bindE hJ
    subst ha
    obtain ⟨hi72, h72o⟩ := mj_obE h72a
    obtain ⟨r72, Mm72, hz72, h72⟩ := mj_callE h72o
    refine mv_callV (pc := 72) (n := 1) (av := [.int v1]) (rest := [va_rf (some a72)]) de_No_termsOf_72 (kc_5 l D E B sa) hi72 (cm_Sh_placeOf l D E B sa N M a72 v1 _ _ hz72) wt_2_149 wt_2_88 wt_2_89 wt_1_9 wt_2_90 ⟨by decide, by decide, by decide +kernel⟩ rfl ⟨Nat.le_of_ble_eq_true rfl, Nat.le_of_ble_eq_true rfl⟩ (Nat.le_of_ble_eq_true rfl) rfl ?_
    obtain ⟨hi75, h75o⟩ := mj_obE h72
    obtain ⟨r75, Mm75, hz75, h75⟩ := mj_callE h75o
    refine mv_callV (pc := 75) (n := 1) (av := [.int r72]) (rest := []) de_No_termsOf_75 (kc_5 l D E B sa) hi75 (cm_Sh_lengthAt l D E B sa N Mm72 a72 r72 _ _ hz75) wt_2_150 wt_2_100 wt_2_101 wt_1_9 wt_2_102 ⟨by decide, by decide, by decide +kernel⟩ rfl ⟨Nat.le_of_ble_eq_true rfl, Nat.le_of_ble_eq_true rfl⟩ (Nat.le_of_ble_eq_true rfl) rfl ?_
    exact mv_iret (pc := 78) rfl de_No_termsOf_78 h75
  rw [if_neg hs1_6] at hJ
  by_cases hs1_7 : v0 = 7
  · rw [if_pos hs1_7] at hJ
    refine mv_tin (pc := 1) (tgt := 69) (off := 68) 7 de_No_termsOf_1 hs1_7 (by decide) (by decide) ?_
    refine mv_aload_n (pc := 69) (i := 2) de_No_termsOf_69 rfl 2 rfl ?_
    refine mv_aload_n (pc := 70) (i := 2) de_No_termsOf_70 rfl 2 rfl ?_
    refine mv_iload_n (pc := 71) (i := 1) de_No_termsOf_71 rfl 1 rfl ?_
    obtain ⟨a72, ha, h72a⟩ := mj_bindE hJ
    subst ha
    obtain ⟨hi72, h72o⟩ := mj_obE h72a
    obtain ⟨r72, Mm72, hz72, h72⟩ := mj_callE h72o
    refine mv_callV (pc := 72) (n := 1) (av := [.int v1]) (rest := [va_rf (some a72)]) de_No_termsOf_72 (kc_5 l D E B sa) hi72 (cm_Sh_placeOf l D E B sa N M a72 v1 _ _ hz72) wt_2_149 wt_2_88 wt_2_89 wt_1_9 wt_2_90 ⟨by decide, by decide, by decide +kernel⟩ rfl ⟨Nat.le_of_ble_eq_true rfl, Nat.le_of_ble_eq_true rfl⟩ (Nat.le_of_ble_eq_true rfl) rfl ?_
    obtain ⟨hi75, h75o⟩ := mj_obE h72
    obtain ⟨r75, Mm75, hz75, h75⟩ := mj_callE h75o
    refine mv_callV (pc := 75) (n := 1) (av := [.int r72]) (rest := []) de_No_termsOf_75 (kc_5 l D E B sa) hi75 (cm_Sh_lengthAt l D E B sa N Mm72 a72 r72 _ _ hz75) wt_2_150 wt_2_100 wt_2_101 wt_1_9 wt_2_102 ⟨by decide, by decide, by decide +kernel⟩ rfl ⟨Nat.le_of_ble_eq_true rfl, Nat.le_of_ble_eq_true rfl⟩ (Nat.le_of_ble_eq_true rfl) rfl ?_
    exact mv_iret (pc := 78) rfl de_No_termsOf_78 h75
  rw [if_neg hs1_7] at hJ
  by_cases hs1_8 : v0 = 8
  · rw [if_pos hs1_8] at hJ
    refine mv_tin (pc := 1) (tgt := 84) (off := 83) 8 de_No_termsOf_1 hs1_8 (by decide) (by decide) ?_
    refine mv_iconst (pc := 84) (v := 1) de_No_termsOf_84 (by decide) ?_
    exact mv_iret (pc := 85) rfl de_No_termsOf_85 hJ
  rw [if_neg hs1_8] at hJ
  by_cases hs1_9 : v0 = 9
  · rw [if_pos hs1_9] at hJ
    refine mv_tin (pc := 1) (tgt := 84) (off := 83) 9 de_No_termsOf_1 hs1_9 (by decide) (by decide) ?_
    refine mv_iconst (pc := 84) (v := 1) de_No_termsOf_84 (by decide) ?_
    exact mv_iret (pc := 85) rfl de_No_termsOf_85 hJ
  rw [if_neg hs1_9] at hJ
  by_cases hs1_10 : v0 = 10
  · rw [if_pos hs1_10] at hJ
    refine mv_tin (pc := 1) (tgt := 84) (off := 83) 10 de_No_termsOf_1 hs1_10 (by decide) (by decide) ?_
    refine mv_iconst (pc := 84) (v := 1) de_No_termsOf_84 (by decide) ?_
    exact mv_iret (pc := 85) rfl de_No_termsOf_85 hJ
  rw [if_neg hs1_10] at hJ
  by_cases hs1_11 : v0 = 11
  · rw [if_pos hs1_11] at hJ
    refine mv_tin (pc := 1) (tgt := 84) (off := 83) 11 de_No_termsOf_1 hs1_11 (by decide) (by decide) ?_
    refine mv_iconst (pc := 84) (v := 1) de_No_termsOf_84 (by decide) ?_
    exact mv_iret (pc := 85) rfl de_No_termsOf_85 hJ
  rw [if_neg hs1_11] at hJ
  by_cases hs1_12 : v0 = 12
  · rw [if_pos hs1_12] at hJ
    refine mv_tin (pc := 1) (tgt := 84) (off := 83) 12 de_No_termsOf_1 hs1_12 (by decide) (by decide) ?_
    refine mv_iconst (pc := 84) (v := 1) de_No_termsOf_84 (by decide) ?_
    exact mv_iret (pc := 85) rfl de_No_termsOf_85 hJ
  rw [if_neg hs1_12] at hJ
  by_cases hs1_13 : v0 = 13
  · rw [if_pos hs1_13] at hJ
    refine mv_tin (pc := 1) (tgt := 84) (off := 83) 13 de_No_termsOf_1 hs1_13 (by decide) (by decide) ?_
    refine mv_iconst (pc := 84) (v := 1) de_No_termsOf_84 (by decide) ?_
    exact mv_iret (pc := 85) rfl de_No_termsOf_85 hJ
  rw [if_neg hs1_13] at hJ
  by_cases hs1_14 : v0 = 14
  · rw [if_pos hs1_14] at hJ
    refine mv_tin (pc := 1) (tgt := 84) (off := 83) 14 de_No_termsOf_1 hs1_14 (by decide) (by decide) ?_
    refine mv_iconst (pc := 84) (v := 1) de_No_termsOf_84 (by decide) ?_
    exact mv_iret (pc := 85) rfl de_No_termsOf_85 hJ
  rw [if_neg hs1_14] at hJ
  by_cases hs1_15 : v0 = 15
  · rw [if_pos hs1_15] at hJ
    refine mv_tin (pc := 1) (tgt := 79) (off := 78) 15 de_No_termsOf_1 hs1_15 (by decide) (by decide) ?_
    refine mv_aload_n (pc := 79) (i := 2) de_No_termsOf_79 rfl 2 rfl ?_
    obtain ⟨a80, ha, h80a⟩ := mj_bindE hJ
    subst ha
    refine mv_getI (pc := 80) (f := 4) (kc_5 l D E B sa) (Nat.le_of_ble_eq_true rfl) wt_1_191 de_No_termsOf_80 h80a (fun x80 e80 h80 => ?_)
    exact mv_iret (pc := 83) rfl de_No_termsOf_83 h80
  rw [if_neg hs1_15] at hJ
  have qhs1_4 := lv_neT (a := 4) hs1_4 (by decide)
  have qhs1_5 := lv_neT (a := 5) hs1_5 (by decide)
  have qhs1_6 := lv_neT (a := 6) hs1_6 (by decide)
  have qhs1_7 := lv_neT (a := 7) hs1_7 (by decide)
  have qhs1_8 := lv_neT (a := 8) hs1_8 (by decide)
  have qhs1_9 := lv_neT (a := 9) hs1_9 (by decide)
  have qhs1_10 := lv_neT (a := 10) hs1_10 (by decide)
  have qhs1_11 := lv_neT (a := 11) hs1_11 (by decide)
  have qhs1_12 := lv_neT (a := 12) hs1_12 (by decide)
  have qhs1_13 := lv_neT (a := 13) hs1_13 (by decide)
  have qhs1_14 := lv_neT (a := 14) hs1_14 (by decide)
  have qhs1_15 := lv_neT (a := 15) hs1_15 (by decide)
  refine mv_tout (pc := 1) (tgt := 84) de_No_termsOf_1 (by omega) (by decide) ?_
  refine mv_iconst (pc := 84) (v := 1) de_No_termsOf_84 (by decide) ?_
  exact mv_iret (pc := 85) rfl de_No_termsOf_85 hJ
theorem cm_No_termsOf (l : Launch) (D : va_G) (E : Nat → ClassId) (B : Nat) (sa : (Nat → Nat) × Nat × (Nat → Int32)) (N : Nat) (M : mv_M) (v0 : Int32) (v1 : Int32) (v2 : Option Nat) (r : Int32) (M1 : mv_M) (hJ : jf_No_termsOf N M v0 v1 v2 = some (r, M1)) : mv_Met (xg l D E B sa) yn_No_termsOf cd_No_termsOf 3 (some .int) 1 21 [.int v0, .int v1, va_rf v2] M (some (.int r)) M1 := by
  cases v2 <;> exact mv_enter (by decide) (Nat.le_of_ble_eq_true rfl) (mv_sub [0, 1, 2] rfl (tb_No_termsOf_0 l D E B sa M M1 r N M _ _ _ hJ))
/-! ===== PlainLearner$Node.<init>(LPlainLearner$Shape;IIILPlainLearner$Node;LPlainLearner$Node;)V ===== -/
abbrev kd_No_init1 : mv_Kd := (cd_No_init1, 7, "PlainLearner$Node", "<init>", none, 4, 90)
theorem de_No_init1_0 : decode cd_No_init1 0 = .ok (.aload_n 0, 1) := by decide +kernel
theorem de_No_init1_1 : decode cd_No_init1 1 = .ok (.invokespecial 3, 3) := by decide +kernel
theorem de_No_init1_4 : decode cd_No_init1 4 = .ok (.aload_n 0, 1) := by decide +kernel
theorem de_No_init1_5 : decode cd_No_init1 5 = .ok (.aload_n 1, 1) := by decide +kernel
theorem de_No_init1_6 : decode cd_No_init1 6 = .ok (.putfield 9, 3) := by decide +kernel
theorem de_No_init1_9 : decode cd_No_init1 9 = .ok (.aload_n 0, 1) := by decide +kernel
theorem de_No_init1_10 : decode cd_No_init1 10 = .ok (.iload_n 2, 1) := by decide +kernel
theorem de_No_init1_11 : decode cd_No_init1 11 = .ok (.putfield 15, 3) := by decide +kernel
theorem de_No_init1_14 : decode cd_No_init1 14 = .ok (.aload_n 0, 1) := by decide +kernel
theorem de_No_init1_15 : decode cd_No_init1 15 = .ok (.iload_n 3, 1) := by decide +kernel
theorem de_No_init1_16 : decode cd_No_init1 16 = .ok (.putfield 19, 3) := by decide +kernel
theorem de_No_init1_19 : decode cd_No_init1 19 = .ok (.aload_n 0, 1) := by decide +kernel
theorem de_No_init1_20 : decode cd_No_init1 20 = .ok (.iload 4, 2) := by decide +kernel
theorem de_No_init1_22 : decode cd_No_init1 22 = .ok (.putfield 22, 3) := by decide +kernel
theorem de_No_init1_25 : decode cd_No_init1 25 = .ok (.aload_n 0, 1) := by decide +kernel
theorem de_No_init1_26 : decode cd_No_init1 26 = .ok (.aload 5, 2) := by decide +kernel
theorem de_No_init1_28 : decode cd_No_init1 28 = .ok (.putfield 25, 3) := by decide +kernel
theorem de_No_init1_31 : decode cd_No_init1 31 = .ok (.aload_n 0, 1) := by decide +kernel
theorem de_No_init1_32 : decode cd_No_init1 32 = .ok (.aload 6, 2) := by decide +kernel
theorem de_No_init1_34 : decode cd_No_init1 34 = .ok (.putfield 29, 3) := by decide +kernel
theorem de_No_init1_37 : decode cd_No_init1 37 = .ok (.aload_n 0, 1) := by decide +kernel
theorem de_No_init1_38 : decode cd_No_init1 38 = .ok (.iload_n 2, 1) := by decide +kernel
theorem de_No_init1_39 : decode cd_No_init1 39 = .ok (.iload 4, 2) := by decide +kernel
theorem de_No_init1_41 : decode cd_No_init1 41 = .ok (.aload 5, 2) := by decide +kernel
theorem de_No_init1_43 : decode cd_No_init1 43 = .ok (.getfield 9, 3) := by decide +kernel
theorem de_No_init1_46 : decode cd_No_init1 46 = .ok (.invokestatic 62, 3) := by decide +kernel
theorem de_No_init1_49 : decode cd_No_init1 49 = .ok (.putfield 32, 3) := by decide +kernel
theorem de_No_init1_52 : decode cd_No_init1 52 = .ok (.aload_n 0, 1) := by decide +kernel
theorem de_No_init1_53 : decode cd_No_init1 53 = .ok (.aload 6, 2) := by decide +kernel
theorem de_No_init1_55 : decode cd_No_init1 55 = .ok (.ifnonnull 7, 3) := by decide +kernel
theorem de_No_init1_58 : decode cd_No_init1 58 = .ok (.aconst_null, 1) := by decide +kernel
theorem de_No_init1_59 : decode cd_No_init1 59 = .ok (.goto 12, 3) := by decide +kernel
theorem de_No_init1_62 : decode cd_No_init1 62 = .ok (.iload_n 2, 1) := by decide +kernel
theorem de_No_init1_63 : decode cd_No_init1 63 = .ok (.aload 6, 2) := by decide +kernel
theorem de_No_init1_65 : decode cd_No_init1 65 = .ok (.getfield 9, 3) := by decide +kernel
theorem de_No_init1_68 : decode cd_No_init1 68 = .ok (.invokestatic 68, 3) := by decide +kernel
theorem de_No_init1_71 : decode cd_No_init1 71 = .ok (.putfield 36, 3) := by decide +kernel
theorem de_No_init1_74 : decode cd_No_init1 74 = .ok (.aload_n 0, 1) := by decide +kernel
theorem de_No_init1_75 : decode cd_No_init1 75 = .ok (.iload_n 2, 1) := by decide +kernel
theorem de_No_init1_76 : decode cd_No_init1 76 = .ok (.iload 4, 2) := by decide +kernel
theorem de_No_init1_78 : decode cd_No_init1 78 = .ok (.aload 5, 2) := by decide +kernel
theorem de_No_init1_80 : decode cd_No_init1 80 = .ok (.getfield 9, 3) := by decide +kernel
theorem de_No_init1_83 : decode cd_No_init1 83 = .ok (.invokestatic 72, 3) := by decide +kernel
theorem de_No_init1_86 : decode cd_No_init1 86 = .ok (.putfield 39, 3) := by decide +kernel
theorem de_No_init1_89 : decode cd_No_init1 89 = .ok (.aload_n 0, 1) := by decide +kernel
theorem de_No_init1_90 : decode cd_No_init1 90 = .ok (.aload_n 1, 1) := by decide +kernel
theorem de_No_init1_91 : decode cd_No_init1 91 = .ok (.getfield 42, 3) := by decide +kernel
theorem de_No_init1_94 : decode cd_No_init1 94 = .ok (.newarray .long, 2) := by decide +kernel
theorem de_No_init1_96 : decode cd_No_init1 96 = .ok (.putfield 47, 3) := by decide +kernel
theorem de_No_init1_99 : decode cd_No_init1 99 = .ok (.aload_n 0, 1) := by decide +kernel
theorem de_No_init1_100 : decode cd_No_init1 100 = .ok (.aload_n 1, 1) := by decide +kernel
theorem de_No_init1_101 : decode cd_No_init1 101 = .ok (.getfield 42, 3) := by decide +kernel
theorem de_No_init1_104 : decode cd_No_init1 104 = .ok (.newarray .long, 2) := by decide +kernel
theorem de_No_init1_106 : decode cd_No_init1 106 = .ok (.putfield 51, 3) := by decide +kernel
theorem de_No_init1_109 : decode cd_No_init1 109 = .ok (.return_, 1) := by decide +kernel
def jb_No_init1_71 (N : Nat) (M : mv_M) (v0 : Nat) (v1 : Option Nat) (v2 : Int32) (v4 : Int32) (v5 : Option Nat) (s0 : Nat) (s1 : Option Nat) : Option (Unit × mv_M) :=
  Option.bind (mj_put M s0 2 7 (va_rf s1)) fun Mm71 =>
  Option.bind v5 fun a80 =>
  Option.bind (mj_getR Mm71 a80 2 0) fun x80 =>
  mj_call (jf_No_termsOf N Mm71 v2 v4 x80) fun r83 Mm83 =>
  Option.bind (mj_put Mm83 v0 2 8 (.int r83)) fun Mm86 =>
  Option.bind v1 fun a91 =>
  Option.bind (mj_getI Mm86 a91 5 4) fun x91 =>
  mj_na Mm86 1 x91 (x91.toNatClampNeg, .inr (.inl (fun _ => 0))) fun q94 Mm94 =>
  Option.bind (mj_put Mm94 v0 2 9 (va_rf (some q94))) fun Mm96 =>
  Option.bind (mj_getI Mm96 a91 5 4) fun x101 =>
  mj_na Mm96 1 x101 (x101.toNatClampNeg, .inr (.inl (fun _ => 0))) fun q104 Mm104 =>
  Option.bind (mj_put Mm104 v0 2 10 (va_rf (some q104))) fun Mm106 =>
  some ((), Mm106)
def jb_No_init1_0 (N : Nat) (M : mv_M) (v0 : Nat) (v1 : Option Nat) (v2 : Int32) (v3 : Int32) (v4 : Int32) (v5 : Option Nat) (v6 : Option Nat) : Option (Unit × mv_M) :=
  Option.bind (mj_put M v0 2 0 (va_rf v1)) fun Mm6 =>
  Option.bind (mj_put Mm6 v0 2 1 (.int v2)) fun Mm11 =>
  Option.bind (mj_put Mm11 v0 2 2 (.int v3)) fun Mm16 =>
  Option.bind (mj_put Mm16 v0 2 3 (.int v4)) fun Mm22 =>
  Option.bind (mj_put Mm22 v0 2 4 (va_rf v5)) fun Mm28 =>
  Option.bind (mj_put Mm28 v0 2 5 (va_rf v6)) fun Mm34 =>
  Option.bind v5 fun a43 =>
  Option.bind (mj_getR Mm34 a43 2 0) fun x43 =>
  mj_call (jf_Vw_ofFirst N Mm34 v2 v4 x43) fun r46 Mm46 =>
  Option.bind (mj_put Mm46 v0 2 6 (va_rf r46)) fun Mm49 =>
  mj_opt v6 (jb_No_init1_71 N Mm49 v0 v1 v2 v4 (some a43) v0 none) fun a55 =>
  Option.bind (mj_getR Mm49 a55 2 0) fun x65 =>
  mj_call (jf_Vw_ofSecond N Mm49 v2 x65) fun r68 Mm68 =>
  jb_No_init1_71 N Mm68 v0 v1 v2 v4 (some a43) v0 r68
def jf_No_init1 (N : Nat) (M : mv_M) (v0 : Nat) (v1 : Option Nat) (v2 : Int32) (v3 : Int32) (v4 : Int32) (v5 : Option Nat) (v6 : Option Nat) : Option (Unit × mv_M) := jb_No_init1_0 N M v0 v1 v2 v3 v4 v5 v6
set_option maxHeartbeats 4000000 in
set_option maxRecDepth 100000 in
theorem tb_No_init1_71 (l : Launch) (D : va_G) (E : Nat → ClassId) (B : Nat) (sa : (Nat → Nat) × Nat × (Nat → Int32)) (M0 M1 : mv_M) (r : Unit) (N : Nat) (M : mv_M) (v0 : Nat) (v1 : Option Nat) (v2 : Int32) (v4 : Int32) (v5 : Option Nat) (s0 : Nat) (s1 : Option Nat) (hJ : jb_No_init1_71 N M v0 v1 v2 v4 v5 s0 s1 = some (r, M1)) : mv_G (xg l D E B sa) kd_No_init1 M0 M1 none M 71 [(0, va_rf (some v0)), (1, va_rf v1), (2, .int v2), (4, .int v4), (5, va_rf v5)] [va_rf s1, va_rf (some s0)] := by
  unfold jb_No_init1_71 at hJ
  refine mv_putF (pc := 71) (f := 7) (kc_2 l D E B sa) (Nat.le_of_ble_eq_true rfl) wt_1_230 rfl rfl rfl (mv_narR _ _) (mv_fitR _ _) de_No_init1_71 hJ (fun Mm71 e71 h71 => ?_)
  refine mv_aload_n (pc := 74) (i := 0) de_No_init1_74 rfl 0 rfl ?_
  refine mv_iload_n (pc := 75) (i := 2) de_No_init1_75 rfl 2 rfl ?_
  refine mv_iload (pc := 76) de_No_init1_76 3 rfl ?_
  refine mv_aload (pc := 78) de_No_init1_78 4 rfl ?_
  obtain ⟨a80, ha, h80a⟩ := mj_bindE h71
  subst ha
  refine mv_getR (pc := 80) (f := 0) (kc_2 l D E B sa) (Nat.le_of_ble_eq_true rfl) wt_1_220 de_No_init1_80 h80a (fun x80 e80 h80 => ?_)
  obtain ⟨r83, Mm83, hz83, h83⟩ := mj_callE h80
  refine mv_callS (pc := 83) (n := 3) (av := [.int v2, .int v4, va_rf x80]) (rest := [va_rf (some v0)]) de_No_init1_83 (cm_No_termsOf l D E B sa N Mm71 v2 v4 x80 _ _ hz83) wt_2_146 wt_2_147 wt_1_10 wt_2_148 ⟨by decide, by decide, by decide +kernel⟩ rfl ⟨Nat.le_of_ble_eq_true rfl, Nat.le_of_ble_eq_true rfl⟩ (Nat.le_of_ble_eq_true rfl) rfl ?_
  refine mv_putF (pc := 86) (f := 8) (kc_2 l D E B sa) (Nat.le_of_ble_eq_true rfl) wt_1_231 rfl rfl rfl rfl rfl de_No_init1_86 h83 (fun Mm86 e86 h86 => ?_)
  refine mv_aload_n (pc := 89) (i := 0) de_No_init1_89 rfl 0 rfl ?_
  refine mv_aload_n (pc := 90) (i := 1) de_No_init1_90 rfl 1 rfl ?_
  obtain ⟨a91, ha, h91a⟩ := mj_bindE h86
  subst ha
  refine mv_getI (pc := 91) (f := 4) (kc_5 l D E B sa) (Nat.le_of_ble_eq_true rfl) wt_1_191 de_No_init1_91 h91a (fun x91 e91 h91 => ?_)
  refine mv_na (pc := 94) (t := 1) rfl rfl wt_2_27 (fun _ => rfl) (by decide) mv_raL de_No_init1_94 h91 (fun q94 Mm94 eq94 eM94 h94 => ?_)
  refine mv_putF (pc := 96) (f := 9) (kc_2 l D E B sa) (Nat.le_of_ble_eq_true rfl) wt_1_232 rfl rfl rfl (mv_narA _ _) (mv_fitA _ _) de_No_init1_96 h94 (fun Mm96 e96 h96 => ?_)
  refine mv_aload_n (pc := 99) (i := 0) de_No_init1_99 rfl 0 rfl ?_
  refine mv_aload_n (pc := 100) (i := 1) de_No_init1_100 rfl 1 rfl ?_
  refine mv_getI (pc := 101) (f := 4) (kc_5 l D E B sa) (Nat.le_of_ble_eq_true rfl) wt_1_191 de_No_init1_101 h96 (fun x101 e101 h101 => ?_)
  refine mv_na (pc := 104) (t := 1) rfl rfl wt_2_27 (fun _ => rfl) (by decide) mv_raL de_No_init1_104 h101 (fun q104 Mm104 eq104 eM104 h104 => ?_)
  refine mv_putF (pc := 106) (f := 10) (kc_2 l D E B sa) (Nat.le_of_ble_eq_true rfl) wt_1_235 rfl rfl rfl (mv_narA _ _) (mv_fitA _ _) de_No_init1_106 h104 (fun Mm106 e106 h106 => ?_)
  exact mv_vret (pc := 109) rfl de_No_init1_109 h106
set_option maxHeartbeats 4000000 in
set_option maxRecDepth 100000 in
theorem tb_No_init1_0 (l : Launch) (D : va_G) (E : Nat → ClassId) (B : Nat) (sa : (Nat → Nat) × Nat × (Nat → Int32)) (M0 M1 : mv_M) (r : Unit) (N : Nat) (M : mv_M) (v0 : Nat) (v1 : Option Nat) (v2 : Int32) (v3 : Int32) (v4 : Int32) (v5 : Option Nat) (v6 : Option Nat) (hJ : jb_No_init1_0 N M v0 v1 v2 v3 v4 v5 v6 = some (r, M1)) : mv_G (xg l D E B sa) kd_No_init1 M0 M1 none M 0 [(0, va_rf (some v0)), (1, va_rf v1), (2, .int v2), (3, .int v3), (4, .int v4), (5, va_rf v5), (6, va_rf v6)] [] := by
  unfold jb_No_init1_0 at hJ
  refine mv_aload_n (pc := 0) (i := 0) de_No_init1_0 rfl 0 rfl ?_
  refine mv_objInit (pc := 1) wt_1_216 wt_1_23 wt_1_24 de_No_init1_1 (Nat.le_of_ble_eq_true rfl) (Nat.le_of_ble_eq_true rfl) (Nat.le_of_ble_eq_true rfl) ?_
  refine mv_aload_n (pc := 4) (i := 0) de_No_init1_4 rfl 0 rfl ?_
  refine mv_aload_n (pc := 5) (i := 1) de_No_init1_5 rfl 1 rfl ?_
  refine mv_putF (pc := 6) (f := 0) (kc_2 l D E B sa) (Nat.le_of_ble_eq_true rfl) wt_1_220 rfl rfl rfl (mv_narR _ _) (mv_fitR _ _) de_No_init1_6 hJ (fun Mm6 e6 h6 => ?_)
  refine mv_aload_n (pc := 9) (i := 0) de_No_init1_9 rfl 0 rfl ?_
  refine mv_iload_n (pc := 10) (i := 2) de_No_init1_10 rfl 2 rfl ?_
  refine mv_putF (pc := 11) (f := 1) (kc_2 l D E B sa) (Nat.le_of_ble_eq_true rfl) wt_1_222 rfl rfl rfl rfl rfl de_No_init1_11 h6 (fun Mm11 e11 h11 => ?_)
  refine mv_aload_n (pc := 14) (i := 0) de_No_init1_14 rfl 0 rfl ?_
  refine mv_iload_n (pc := 15) (i := 3) de_No_init1_15 rfl 3 rfl ?_
  refine mv_putF (pc := 16) (f := 2) (kc_2 l D E B sa) (Nat.le_of_ble_eq_true rfl) wt_1_223 rfl rfl rfl rfl rfl de_No_init1_16 h11 (fun Mm16 e16 h16 => ?_)
  refine mv_aload_n (pc := 19) (i := 0) de_No_init1_19 rfl 0 rfl ?_
  refine mv_iload (pc := 20) de_No_init1_20 4 rfl ?_
  refine mv_putF (pc := 22) (f := 3) (kc_2 l D E B sa) (Nat.le_of_ble_eq_true rfl) wt_1_224 rfl rfl rfl rfl rfl de_No_init1_22 h16 (fun Mm22 e22 h22 => ?_)
  refine mv_aload_n (pc := 25) (i := 0) de_No_init1_25 rfl 0 rfl ?_
  refine mv_aload (pc := 26) de_No_init1_26 5 rfl ?_
  refine mv_putF (pc := 28) (f := 4) (kc_2 l D E B sa) (Nat.le_of_ble_eq_true rfl) wt_1_225 rfl rfl rfl (mv_narR _ _) (mv_fitR _ _) de_No_init1_28 h22 (fun Mm28 e28 h28 => ?_)
  refine mv_aload_n (pc := 31) (i := 0) de_No_init1_31 rfl 0 rfl ?_
  refine mv_aload (pc := 32) de_No_init1_32 6 rfl ?_
  refine mv_putF (pc := 34) (f := 5) (kc_2 l D E B sa) (Nat.le_of_ble_eq_true rfl) wt_1_227 rfl rfl rfl (mv_narR _ _) (mv_fitR _ _) de_No_init1_34 h28 (fun Mm34 e34 h34 => ?_)
  refine mv_aload_n (pc := 37) (i := 0) de_No_init1_37 rfl 0 rfl ?_
  refine mv_iload_n (pc := 38) (i := 2) de_No_init1_38 rfl 2 rfl ?_
  refine mv_iload (pc := 39) de_No_init1_39 4 rfl ?_
  refine mv_aload (pc := 41) de_No_init1_41 5 rfl ?_
  obtain ⟨a43, ha, h43a⟩ := mj_bindE h34
  subst ha
  refine mv_getR (pc := 43) (f := 0) (kc_2 l D E B sa) (Nat.le_of_ble_eq_true rfl) wt_1_220 de_No_init1_43 h43a (fun x43 e43 h43 => ?_)
  obtain ⟨r46, Mm46, hz46, h46⟩ := mj_callE h43
  refine mv_callS (pc := 46) (n := 3) (av := [.int v2, .int v4, va_rf x43]) (rest := [va_rf (some v0)]) de_No_init1_46 (cm_Vw_ofFirst l D E B sa N Mm34 v2 v4 x43 _ _ hz46) wt_2_106 wt_2_107 wt_1_14 wt_2_108 ⟨by decide, by decide, by decide +kernel⟩ rfl ⟨Nat.le_of_ble_eq_true rfl, Nat.le_of_ble_eq_true rfl⟩ (Nat.le_of_ble_eq_true rfl) rfl ?_
  refine mv_putF (pc := 49) (f := 6) (kc_2 l D E B sa) (Nat.le_of_ble_eq_true rfl) wt_1_229 rfl rfl rfl (mv_narR _ _) (mv_fitR _ _) de_No_init1_49 h46 (fun Mm49 e49 h49 => ?_)
  refine mv_aload_n (pc := 52) (i := 0) de_No_init1_52 rfl 0 rfl ?_
  refine mv_aload (pc := 53) de_No_init1_53 6 rfl ?_
  refine mv_ifnonnull (pc := 55) (tgt := 62) de_No_init1_55 (by decide) h49 (fun ha h55 => ?_) (fun a55 ha h55 => ?_)
  · subst ha
    refine mv_null (pc := 58) de_No_init1_58 ?_
    refine mv_goto (pc := 59) (tgt := 71) de_No_init1_59 (by decide) ?_
    exact mv_sub [0, 1, 2, 4, 5] rfl (tb_No_init1_71 l D E B sa M0 M1 r N Mm49 v0 v1 v2 v4 (some a43) v0 none h55)
  · subst ha
    refine mv_iload_n (pc := 62) (i := 2) de_No_init1_62 rfl 2 rfl ?_
    refine mv_aload (pc := 63) de_No_init1_63 6 rfl ?_
    refine mv_getR (pc := 65) (f := 0) (kc_2 l D E B sa) (Nat.le_of_ble_eq_true rfl) wt_1_220 de_No_init1_65 h55 (fun x65 e65 h65 => ?_)
    obtain ⟨r68, Mm68, hz68, h68⟩ := mj_callE h65
    refine mv_callS (pc := 68) (n := 2) (av := [.int v2, va_rf x65]) (rest := [va_rf (some v0)]) de_No_init1_68 (cm_Vw_ofSecond l D E B sa N Mm49 v2 x65 _ _ hz68) wt_2_143 wt_2_144 wt_1_14 wt_2_145 ⟨by decide, by decide, by decide +kernel⟩ rfl ⟨Nat.le_of_ble_eq_true rfl, Nat.le_of_ble_eq_true rfl⟩ (Nat.le_of_ble_eq_true rfl) rfl ?_
    exact mv_sub [0, 1, 2, 4, 5] rfl (tb_No_init1_71 l D E B sa M0 M1 r N Mm68 v0 v1 v2 v4 (some a43) v0 r68 h68)
theorem cm_No_init1 (l : Launch) (D : va_G) (E : Nat → ClassId) (B : Nat) (sa : (Nat → Nat) × Nat × (Nat → Int32)) (N : Nat) (M : mv_M) (v0 : Nat) (v1 : Option Nat) (v2 : Int32) (v3 : Int32) (v4 : Int32) (v5 : Option Nat) (v6 : Option Nat) (r : Unit) (M1 : mv_M) (hJ : jf_No_init1 N M v0 v1 v2 v3 v4 v5 v6 = some (r, M1)) : mv_Met (xg l D E B sa) yn_No_init1 cd_No_init1 7 none 4 90 [va_rf (some v0), va_rf v1, .int v2, .int v3, .int v4, va_rf v5, va_rf v6] M none M1 := by
  cases v1 <;> cases v5 <;> cases v6 <;> exact mv_enter (by decide) (Nat.le_of_ble_eq_true rfl) (mv_sub [0, 1, 2, 3, 4, 5, 6] rfl (tb_No_init1_0 l D E B sa M M1 r N M _ _ _ _ _ _ _ hJ))
/-! ===== PlainLearner$Tape.addAct(III)I ===== -/
abbrev kd_Tp_addAct : mv_Kd := (cd_Tp_addAct, 7, "PlainLearner$Tape", "addAct", (some .int), 5, 116)
theorem de_Tp_addAct_0 : decode cd_Tp_addAct 0 = .ok (.aload_n 0, 1) := by decide +kernel
theorem de_Tp_addAct_1 : decode cd_Tp_addAct 1 = .ok (.iload_n 2, 1) := by decide +kernel
theorem de_Tp_addAct_2 : decode cd_Tp_addAct 2 = .ok (.invokevirtual 33, 3) := by decide +kernel
theorem de_Tp_addAct_5 : decode cd_Tp_addAct 5 = .ok (.astore 4, 2) := by decide +kernel
theorem de_Tp_addAct_7 : decode cd_Tp_addAct 7 = .ok (.iload_n 1, 1) := by decide +kernel
theorem de_Tp_addAct_8 : decode cd_Tp_addAct 8 = .ok (.invokestatic 52, 3) := by decide +kernel
theorem de_Tp_addAct_11 : decode cd_Tp_addAct 11 = .ok (.ifCond .eq 8, 3) := by decide +kernel
theorem de_Tp_addAct_14 : decode cd_Tp_addAct 14 = .ok (.aload 4, 2) := by decide +kernel
theorem de_Tp_addAct_16 : decode cd_Tp_addAct 16 = .ok (.ifnonnull 5, 3) := by decide +kernel
theorem de_Tp_addAct_19 : decode cd_Tp_addAct 19 = .ok (.iconst (-1), 1) := by decide +kernel
theorem de_Tp_addAct_20 : decode cd_Tp_addAct 20 = .ok (.ireturn, 1) := by decide +kernel
theorem de_Tp_addAct_21 : decode cd_Tp_addAct 21 = .ok (.iload_n 1, 1) := by decide +kernel
theorem de_Tp_addAct_22 : decode cd_Tp_addAct 22 = .ok (.invokestatic 58, 3) := by decide +kernel
theorem de_Tp_addAct_25 : decode cd_Tp_addAct 25 = .ok (.ifCond .eq 11, 3) := by decide +kernel
theorem de_Tp_addAct_28 : decode cd_Tp_addAct 28 = .ok (.aload_n 0, 1) := by decide +kernel
theorem de_Tp_addAct_29 : decode cd_Tp_addAct 29 = .ok (.iload_n 3, 1) := by decide +kernel
theorem de_Tp_addAct_30 : decode cd_Tp_addAct 30 = .ok (.invokevirtual 33, 3) := by decide +kernel
theorem de_Tp_addAct_33 : decode cd_Tp_addAct 33 = .ok (.goto 4, 3) := by decide +kernel
theorem de_Tp_addAct_36 : decode cd_Tp_addAct 36 = .ok (.aconst_null, 1) := by decide +kernel
theorem de_Tp_addAct_37 : decode cd_Tp_addAct 37 = .ok (.astore 5, 2) := by decide +kernel
theorem de_Tp_addAct_39 : decode cd_Tp_addAct 39 = .ok (.iload_n 1, 1) := by decide +kernel
theorem de_Tp_addAct_40 : decode cd_Tp_addAct 40 = .ok (.iload_n 3, 1) := by decide +kernel
theorem de_Tp_addAct_41 : decode cd_Tp_addAct 41 = .ok (.aload 4, 2) := by decide +kernel
theorem de_Tp_addAct_43 : decode cd_Tp_addAct 43 = .ok (.getfield 61, 3) := by decide +kernel
theorem de_Tp_addAct_46 : decode cd_Tp_addAct 46 = .ok (.aload 5, 2) := by decide +kernel
theorem de_Tp_addAct_48 : decode cd_Tp_addAct 48 = .ok (.ifnonnull 7, 3) := by decide +kernel
theorem de_Tp_addAct_51 : decode cd_Tp_addAct 51 = .ok (.aconst_null, 1) := by decide +kernel
theorem de_Tp_addAct_52 : decode cd_Tp_addAct 52 = .ok (.goto 8, 3) := by decide +kernel
theorem de_Tp_addAct_55 : decode cd_Tp_addAct 55 = .ok (.aload 5, 2) := by decide +kernel
theorem de_Tp_addAct_57 : decode cd_Tp_addAct 57 = .ok (.getfield 61, 3) := by decide +kernel
theorem de_Tp_addAct_60 : decode cd_Tp_addAct 60 = .ok (.invokestatic 65, 3) := by decide +kernel
theorem de_Tp_addAct_63 : decode cd_Tp_addAct 63 = .ok (.astore 6, 2) := by decide +kernel
theorem de_Tp_addAct_65 : decode cd_Tp_addAct 65 = .ok (.aload 6, 2) := by decide +kernel
theorem de_Tp_addAct_67 : decode cd_Tp_addAct 67 = .ok (.ifnonnull 5, 3) := by decide +kernel
theorem de_Tp_addAct_70 : decode cd_Tp_addAct 70 = .ok (.iconst (-1), 1) := by decide +kernel
theorem de_Tp_addAct_71 : decode cd_Tp_addAct 71 = .ok (.ireturn, 1) := by decide +kernel
theorem de_Tp_addAct_72 : decode cd_Tp_addAct 72 = .ok (.aload_n 0, 1) := by decide +kernel
theorem de_Tp_addAct_73 : decode cd_Tp_addAct 73 = .ok (.aload 6, 2) := by decide +kernel
theorem de_Tp_addAct_75 : decode cd_Tp_addAct 75 = .ok (.invokevirtual 41, 3) := by decide +kernel
theorem de_Tp_addAct_78 : decode cd_Tp_addAct 78 = .ok (.ifCond .eq 26, 3) := by decide +kernel
theorem de_Tp_addAct_81 : decode cd_Tp_addAct 81 = .ok (.aload_n 0, 1) := by decide +kernel
theorem de_Tp_addAct_82 : decode cd_Tp_addAct 82 = .ok (.new 11, 3) := by decide +kernel
theorem de_Tp_addAct_85 : decode cd_Tp_addAct 85 = .ok (.dup, 1) := by decide +kernel
theorem de_Tp_addAct_86 : decode cd_Tp_addAct 86 = .ok (.aload 6, 2) := by decide +kernel
theorem de_Tp_addAct_88 : decode cd_Tp_addAct 88 = .ok (.iload_n 1, 1) := by decide +kernel
theorem de_Tp_addAct_89 : decode cd_Tp_addAct 89 = .ok (.iload_n 2, 1) := by decide +kernel
theorem de_Tp_addAct_90 : decode cd_Tp_addAct 90 = .ok (.iload_n 3, 1) := by decide +kernel
theorem de_Tp_addAct_91 : decode cd_Tp_addAct 91 = .ok (.aload 4, 2) := by decide +kernel
theorem de_Tp_addAct_93 : decode cd_Tp_addAct 93 = .ok (.aload 5, 2) := by decide +kernel
theorem de_Tp_addAct_95 : decode cd_Tp_addAct 95 = .ok (.invokespecial 71, 3) := by decide +kernel
theorem de_Tp_addAct_98 : decode cd_Tp_addAct 98 = .ok (.invokevirtual 48, 3) := by decide +kernel
theorem de_Tp_addAct_101 : decode cd_Tp_addAct 101 = .ok (.goto 5, 3) := by decide +kernel
theorem de_Tp_addAct_104 : decode cd_Tp_addAct 104 = .ok (.bipush (-3), 2) := by decide +kernel
theorem de_Tp_addAct_106 : decode cd_Tp_addAct 106 = .ok (.ireturn, 1) := by decide +kernel
def jb_Tp_addAct_19 (N : Nat) (M : mv_M) : Option (Int32 × mv_M) :=
  some ((-1), M)
def jb_Tp_addAct_106 (N : Nat) (M : mv_M) (s0 : Int32) : Option (Int32 × mv_M) :=
  some (s0, M)
def jb_Tp_addAct_60 (N : Nat) (M : mv_M) (v0 : Nat) (v1 : Int32) (v2 : Int32) (v3 : Int32) (v4 : Option Nat) (v5 : Option Nat) (s0 : Int32) (s1 : Int32) (s2 : Option Nat) (s3 : Option Nat) : Option (Int32 × mv_M) :=
  mj_call (jf_Sh_ofAct N M s0 s1 s2 s3) fun r60 Mm60 =>
  mj_opt r60 (some ((-1), Mm60)) fun a67 =>
  mj_ob Mm60 v0 7 <|
  mj_call (jf_Tp_hasRoom N Mm60 v0 (some a67)) fun r75 Mm75 =>
  if r75 = 0 then (jb_Tp_addAct_106 N Mm75 (-3)) else
  mj_nw Mm75 2 13 [.null, .int 0, .int 0, .int 0, .null, .null, .null, .null, .int 0, .null, .null, .int 0, .long 0] fun q82 Mm82 =>
  mj_call (jf_No_init1 N Mm82 q82 (some a67) v1 v2 v3 v4 v5) fun r95 Mm95 =>
  mj_ob Mm95 v0 7 <|
  mj_call (jf_Tp_append N Mm95 v0 (some q82)) fun r98 Mm98 =>
  jb_Tp_addAct_106 N Mm98 r98
def jb_Tp_addAct_37 (N : Nat) (M : mv_M) (v0 : Nat) (v1 : Int32) (v2 : Int32) (v3 : Int32) (v4 : Option Nat) (s0 : Option Nat) : Option (Int32 × mv_M) :=
  Option.bind v4 fun a43 =>
  Option.bind (mj_getR M a43 2 0) fun x43 =>
  mj_opt s0 (jb_Tp_addAct_60 N M v0 v1 v2 v3 (some a43) none v1 v3 x43 none) fun a48 =>
  Option.bind (mj_getR M a48 2 0) fun x57 =>
  jb_Tp_addAct_60 N M v0 v1 v2 v3 (some a43) (some a48) v1 v3 x43 x57
def jb_Tp_addAct_0 (N : Nat) (M : mv_M) (v0 : Nat) (v1 : Int32) (v2 : Int32) (v3 : Int32) : Option (Int32 × mv_M) :=
  mj_ob M v0 7 <|
  mj_call (jf_Tp_find N M v0 v2) fun r2 Mm2 =>
  mj_call (jf_Op_isOp N Mm2 v1) fun r8 Mm8 =>
  if r8 = 0 then (jb_Tp_addAct_19 N Mm8) else
  mj_opt r2 (jb_Tp_addAct_19 N Mm8) fun a16 =>
  mj_call (jf_Op_isOfTwo N Mm8 v1) fun r22 Mm22 =>
  if r22 = 0 then (jb_Tp_addAct_37 N Mm22 v0 v1 v2 v3 (some a16) none) else
  mj_ob Mm22 v0 7 <|
  mj_call (jf_Tp_find N Mm22 v0 v3) fun r30 Mm30 =>
  jb_Tp_addAct_37 N Mm30 v0 v1 v2 v3 (some a16) r30
def jf_Tp_addAct (N : Nat) (M : mv_M) (v0 : Nat) (v1 : Int32) (v2 : Int32) (v3 : Int32) : Option (Int32 × mv_M) := jb_Tp_addAct_0 N M v0 v1 v2 v3
set_option maxHeartbeats 4000000 in
set_option maxRecDepth 100000 in
theorem tb_Tp_addAct_19 (l : Launch) (D : va_G) (E : Nat → ClassId) (B : Nat) (sa : (Nat → Nat) × Nat × (Nat → Int32)) (M0 M1 : mv_M) (r : Int32) (N : Nat) (M : mv_M) (hJ : jb_Tp_addAct_19 N M = some (r, M1)) : mv_G (xg l D E B sa) kd_Tp_addAct M0 M1 (some (.int r)) M 19 [] [] := by
  unfold jb_Tp_addAct_19 at hJ
  refine mv_iconst (pc := 19) (v := (-1)) de_Tp_addAct_19 (by decide) ?_
  exact mv_iret (pc := 20) rfl de_Tp_addAct_20 hJ
set_option maxHeartbeats 4000000 in
set_option maxRecDepth 100000 in
theorem tb_Tp_addAct_106 (l : Launch) (D : va_G) (E : Nat → ClassId) (B : Nat) (sa : (Nat → Nat) × Nat × (Nat → Int32)) (M0 M1 : mv_M) (r : Int32) (N : Nat) (M : mv_M) (s0 : Int32) (hJ : jb_Tp_addAct_106 N M s0 = some (r, M1)) : mv_G (xg l D E B sa) kd_Tp_addAct M0 M1 (some (.int r)) M 106 [] [.int s0] := by
  unfold jb_Tp_addAct_106 at hJ
  exact mv_iret (pc := 106) rfl de_Tp_addAct_106 hJ
set_option maxHeartbeats 4000000 in
set_option maxRecDepth 100000 in
theorem tb_Tp_addAct_60 (l : Launch) (D : va_G) (E : Nat → ClassId) (B : Nat) (sa : (Nat → Nat) × Nat × (Nat → Int32)) (M0 M1 : mv_M) (r : Int32) (N : Nat) (M : mv_M) (v0 : Nat) (v1 : Int32) (v2 : Int32) (v3 : Int32) (v4 : Option Nat) (v5 : Option Nat) (s0 : Int32) (s1 : Int32) (s2 : Option Nat) (s3 : Option Nat) (hJ : jb_Tp_addAct_60 N M v0 v1 v2 v3 v4 v5 s0 s1 s2 s3 = some (r, M1)) : mv_G (xg l D E B sa) kd_Tp_addAct M0 M1 (some (.int r)) M 60 [(0, va_rf (some v0)), (1, .int v1), (2, .int v2), (3, .int v3), (4, va_rf v4), (5, va_rf v5)] [va_rf s3, va_rf s2, .int s1, .int s0] := by
  unfold jb_Tp_addAct_60 at hJ
  obtain ⟨r60, Mm60, hz60, h60⟩ := mj_callE hJ
  refine mv_callS (pc := 60) (n := 4) (av := [.int s0, .int s1, va_rf s2, va_rf s3]) (rest := []) de_Tp_addAct_60 (cm_Sh_ofAct l D E B sa N M s0 s1 s2 s3 _ _ hz60) wt_2_74 wt_2_75 wt_1_9 wt_2_76 ⟨by decide, by decide, by decide +kernel⟩ rfl ⟨Nat.le_of_ble_eq_true rfl, Nat.le_of_ble_eq_true rfl⟩ (Nat.le_of_ble_eq_true rfl) rfl ?_
  refine mv_astore (pc := 63) (lv' := [(6, va_rf r60), (0, va_rf (some v0)), (1, .int v1), (2, .int v2), (3, .int v3), (4, va_rf v4), (5, va_rf v5)]) de_Tp_addAct_63 (Nat.le_of_ble_eq_true rfl) (by simp [List.filter, mv_cat]) ?_
  refine mv_aload (pc := 65) de_Tp_addAct_65 0 rfl ?_
  refine mv_ifnonnull (pc := 67) (tgt := 72) de_Tp_addAct_67 (by decide) h60 (fun ha h67 => ?_) (fun a67 ha h67 => ?_)
  · subst ha
    refine mv_iconst (pc := 70) (v := (-1)) de_Tp_addAct_70 (by decide) ?_
    exact mv_iret (pc := 71) rfl de_Tp_addAct_71 h67
  · subst ha
    refine mv_aload_n (pc := 72) (i := 0) de_Tp_addAct_72 rfl 1 rfl ?_
    refine mv_aload (pc := 73) de_Tp_addAct_73 0 rfl ?_
    obtain ⟨hi75, h75o⟩ := mj_obE h67
    obtain ⟨r75, Mm75, hz75, h75⟩ := mj_callE h75o
    refine mv_callV (pc := 75) (n := 1) (av := [va_rf (some a67)]) (rest := []) de_Tp_addAct_75 (kc_7 l D E B sa) hi75 (cm_Tp_hasRoom l D E B sa N Mm60 v0 (some a67) _ _ hz75) wt_1_208 wt_1_210 wp_0 wt_1_2 wt_1_211 ⟨by decide, by decide, by decide +kernel⟩ rfl ⟨Nat.le_of_ble_eq_true rfl, Nat.le_of_ble_eq_true rfl⟩ (Nat.le_of_ble_eq_true rfl) rfl ?_
    refine mv_if_eq (pc := 78) (tgt := 104) de_Tp_addAct_78 (by decide) h75 (fun hc78 h78 => ?_) (fun hc78 h78 => ?_)
    · refine mv_bipush (pc := 104) (v := (-3)) de_Tp_addAct_104 (by decide) ?_
      exact mv_sub [] rfl (tb_Tp_addAct_106 l D E B sa M0 M1 r N Mm75 (-3) h78)
    · refine mv_aload_n (pc := 81) (i := 0) de_Tp_addAct_81 rfl 1 rfl ?_
      refine mv_nw (pc := 82) (kc_2 l D E B sa) wt_1_31 wt_1_212 wt_1_10 (kn_2) de_Tp_addAct_82 h78 (fun q82 Mm82 eq82 eM82 h82 => ?_)
      refine mv_dup (pc := 85) de_Tp_addAct_85 rfl ?_
      refine mv_aload (pc := 86) de_Tp_addAct_86 0 rfl ?_
      refine mv_iload_n (pc := 88) (i := 1) de_Tp_addAct_88 rfl 2 rfl ?_
      refine mv_iload_n (pc := 89) (i := 2) de_Tp_addAct_89 rfl 3 rfl ?_
      refine mv_iload_n (pc := 90) (i := 3) de_Tp_addAct_90 rfl 4 rfl ?_
      refine mv_aload (pc := 91) de_Tp_addAct_91 5 rfl ?_
      refine mv_aload (pc := 93) de_Tp_addAct_93 6 rfl ?_
      obtain ⟨r95, Mm95, hz95, h95⟩ := mj_callE h82
      refine mv_callI (pc := 95) (n := 6) (av := [va_rf (some a67), .int v1, .int v2, .int v3, va_rf v4, va_rf v5]) (rest := [va_rf (some q82), va_rf (some v0)]) de_Tp_addAct_95 (cm_No_init1 l D E B sa N Mm82 q82 (some a67) v1 v2 v3 v4 v5 _ _ hz95) wt_2_103 wt_2_104 wt_1_10 wt_2_105 rfl ⟨by decide, by decide, by decide +kernel⟩ rfl ⟨Nat.le_of_ble_eq_true rfl, Nat.le_of_ble_eq_true rfl⟩ (Nat.le_of_ble_eq_true rfl) rfl ?_
      obtain ⟨hi98, h98o⟩ := mj_obE h95
      obtain ⟨r98, Mm98, hz98, h98⟩ := mj_callE h98o
      refine mv_callV (pc := 98) (n := 1) (av := [va_rf (some q82)]) (rest := []) de_Tp_addAct_98 (kc_7 l D E B sa) hi98 (cm_Tp_append l D E B sa N Mm95 v0 (some q82) _ _ hz98) wt_2_28 wt_2_30 wp_1 wt_1_2 wt_2_31 ⟨by decide, by decide, by decide +kernel⟩ rfl ⟨Nat.le_of_ble_eq_true rfl, Nat.le_of_ble_eq_true rfl⟩ (Nat.le_of_ble_eq_true rfl) rfl ?_
      refine mv_goto (pc := 101) (tgt := 106) de_Tp_addAct_101 (by decide) ?_
      exact mv_sub [] rfl (tb_Tp_addAct_106 l D E B sa M0 M1 r N Mm98 r98 h98)
set_option maxHeartbeats 4000000 in
set_option maxRecDepth 100000 in
theorem tb_Tp_addAct_37 (l : Launch) (D : va_G) (E : Nat → ClassId) (B : Nat) (sa : (Nat → Nat) × Nat × (Nat → Int32)) (M0 M1 : mv_M) (r : Int32) (N : Nat) (M : mv_M) (v0 : Nat) (v1 : Int32) (v2 : Int32) (v3 : Int32) (v4 : Option Nat) (s0 : Option Nat) (hJ : jb_Tp_addAct_37 N M v0 v1 v2 v3 v4 s0 = some (r, M1)) : mv_G (xg l D E B sa) kd_Tp_addAct M0 M1 (some (.int r)) M 37 [(0, va_rf (some v0)), (1, .int v1), (2, .int v2), (3, .int v3), (4, va_rf v4)] [va_rf s0] := by
  unfold jb_Tp_addAct_37 at hJ
  refine mv_astore (pc := 37) (lv' := [(5, va_rf s0), (0, va_rf (some v0)), (1, .int v1), (2, .int v2), (3, .int v3), (4, va_rf v4)]) de_Tp_addAct_37 (Nat.le_of_ble_eq_true rfl) (by simp [List.filter, mv_cat]) ?_
  refine mv_iload_n (pc := 39) (i := 1) de_Tp_addAct_39 rfl 2 rfl ?_
  refine mv_iload_n (pc := 40) (i := 3) de_Tp_addAct_40 rfl 4 rfl ?_
  refine mv_aload (pc := 41) de_Tp_addAct_41 5 rfl ?_
  obtain ⟨a43, ha, h43a⟩ := mj_bindE hJ
  subst ha
  refine mv_getR (pc := 43) (f := 0) (kc_2 l D E B sa) (Nat.le_of_ble_eq_true rfl) wt_1_221 de_Tp_addAct_43 h43a (fun x43 e43 h43 => ?_)
  refine mv_aload (pc := 46) de_Tp_addAct_46 0 rfl ?_
  refine mv_ifnonnull (pc := 48) (tgt := 55) de_Tp_addAct_48 (by decide) h43 (fun ha h48 => ?_) (fun a48 ha h48 => ?_)
  · subst ha
    refine mv_null (pc := 51) de_Tp_addAct_51 ?_
    refine mv_goto (pc := 52) (tgt := 60) de_Tp_addAct_52 (by decide) ?_
    exact mv_sub [1, 2, 3, 4, 5, 0] rfl (tb_Tp_addAct_60 l D E B sa M0 M1 r N M v0 v1 v2 v3 (some a43) none v1 v3 x43 none h48)
  · subst ha
    refine mv_aload (pc := 55) de_Tp_addAct_55 0 rfl ?_
    refine mv_getR (pc := 57) (f := 0) (kc_2 l D E B sa) (Nat.le_of_ble_eq_true rfl) wt_1_221 de_Tp_addAct_57 h48 (fun x57 e57 h57 => ?_)
    exact mv_sub [1, 2, 3, 4, 5, 0] rfl (tb_Tp_addAct_60 l D E B sa M0 M1 r N M v0 v1 v2 v3 (some a43) (some a48) v1 v3 x43 x57 h57)
set_option maxHeartbeats 4000000 in
set_option maxRecDepth 100000 in
theorem tb_Tp_addAct_0 (l : Launch) (D : va_G) (E : Nat → ClassId) (B : Nat) (sa : (Nat → Nat) × Nat × (Nat → Int32)) (M0 M1 : mv_M) (r : Int32) (N : Nat) (M : mv_M) (v0 : Nat) (v1 : Int32) (v2 : Int32) (v3 : Int32) (hJ : jb_Tp_addAct_0 N M v0 v1 v2 v3 = some (r, M1)) : mv_G (xg l D E B sa) kd_Tp_addAct M0 M1 (some (.int r)) M 0 [(0, va_rf (some v0)), (1, .int v1), (2, .int v2), (3, .int v3)] [] := by
  unfold jb_Tp_addAct_0 at hJ
  refine mv_aload_n (pc := 0) (i := 0) de_Tp_addAct_0 rfl 0 rfl ?_
  refine mv_iload_n (pc := 1) (i := 2) de_Tp_addAct_1 rfl 2 rfl ?_
  obtain ⟨hi2, h2o⟩ := mj_obE hJ
  obtain ⟨r2, Mm2, hz2, h2⟩ := mj_callE h2o
  refine mv_callV (pc := 2) (n := 1) (av := [.int v2]) (rest := []) de_Tp_addAct_2 (kc_7 l D E B sa) hi2 (cm_Tp_find l D E B sa N M v0 v2 _ _ hz2) wt_2_45 wt_2_46 wt_2_47 wt_1_2 wt_2_48 ⟨by decide, by decide, by decide +kernel⟩ rfl ⟨Nat.le_of_ble_eq_true rfl, Nat.le_of_ble_eq_true rfl⟩ (Nat.le_of_ble_eq_true rfl) rfl ?_
  refine mv_astore (pc := 5) (lv' := [(4, va_rf r2), (0, va_rf (some v0)), (1, .int v1), (2, .int v2), (3, .int v3)]) de_Tp_addAct_5 (Nat.le_of_ble_eq_true rfl) rfl ?_
  refine mv_iload_n (pc := 7) (i := 1) de_Tp_addAct_7 rfl 2 rfl ?_
  obtain ⟨r8, Mm8, hz8, h8⟩ := mj_callE h2
  refine mv_callS (pc := 8) (n := 1) (av := [.int v1]) (rest := []) de_Tp_addAct_8 (cm_Op_isOp l D E B sa N Mm2 v1 _ _ hz8) wt_2_68 wt_2_69 wt_1_13 wt_2_70 ⟨by decide, by decide, by decide +kernel⟩ rfl ⟨Nat.le_of_ble_eq_true rfl, Nat.le_of_ble_eq_true rfl⟩ (Nat.le_of_ble_eq_true rfl) rfl ?_
  refine mv_if_eq (pc := 11) (tgt := 19) de_Tp_addAct_11 (by decide) h8 (fun hc11 h11 => ?_) (fun hc11 h11 => ?_)
  · exact mv_sub [] rfl (tb_Tp_addAct_19 l D E B sa M0 M1 r N Mm8 h11)
  · refine mv_aload (pc := 14) de_Tp_addAct_14 0 rfl ?_
    refine mv_ifnonnull (pc := 16) (tgt := 21) de_Tp_addAct_16 (by decide) h11 (fun ha h16 => ?_) (fun a16 ha h16 => ?_)
    · subst ha
      exact mv_sub [] rfl (tb_Tp_addAct_19 l D E B sa M0 M1 r N Mm8 h16)
    · subst ha
      refine mv_iload_n (pc := 21) (i := 1) de_Tp_addAct_21 rfl 2 rfl ?_
      obtain ⟨r22, Mm22, hz22, h22⟩ := mj_callE h16
      refine mv_callS (pc := 22) (n := 1) (av := [.int v1]) (rest := []) de_Tp_addAct_22 (cm_Op_isOfTwo l D E B sa N Mm8 v1 _ _ hz22) wt_2_71 wt_2_72 wt_1_13 wt_2_73 ⟨by decide, by decide, by decide +kernel⟩ rfl ⟨Nat.le_of_ble_eq_true rfl, Nat.le_of_ble_eq_true rfl⟩ (Nat.le_of_ble_eq_true rfl) rfl ?_
      refine mv_if_eq (pc := 25) (tgt := 36) de_Tp_addAct_25 (by decide) h22 (fun hc25 h25 => ?_) (fun hc25 h25 => ?_)
      · refine mv_null (pc := 36) de_Tp_addAct_36 ?_
        exact mv_sub [1, 2, 3, 4, 0] rfl (tb_Tp_addAct_37 l D E B sa M0 M1 r N Mm22 v0 v1 v2 v3 (some a16) none h25)
      · refine mv_aload_n (pc := 28) (i := 0) de_Tp_addAct_28 rfl 1 rfl ?_
        refine mv_iload_n (pc := 29) (i := 3) de_Tp_addAct_29 rfl 4 rfl ?_
        obtain ⟨hi30, h30o⟩ := mj_obE h25
        obtain ⟨r30, Mm30, hz30, h30⟩ := mj_callE h30o
        refine mv_callV (pc := 30) (n := 1) (av := [.int v3]) (rest := []) de_Tp_addAct_30 (kc_7 l D E B sa) hi30 (cm_Tp_find l D E B sa N Mm22 v0 v3 _ _ hz30) wt_2_45 wt_2_46 wt_2_47 wt_1_2 wt_2_48 ⟨by decide, by decide, by decide +kernel⟩ rfl ⟨Nat.le_of_ble_eq_true rfl, Nat.le_of_ble_eq_true rfl⟩ (Nat.le_of_ble_eq_true rfl) rfl ?_
        refine mv_goto (pc := 33) (tgt := 37) de_Tp_addAct_33 (by decide) ?_
        exact mv_sub [1, 2, 3, 4, 0] rfl (tb_Tp_addAct_37 l D E B sa M0 M1 r N Mm30 v0 v1 v2 v3 (some a16) r30 h30)
theorem cm_Tp_addAct (l : Launch) (D : va_G) (E : Nat → ClassId) (B : Nat) (sa : (Nat → Nat) × Nat × (Nat → Int32)) (N : Nat) (M : mv_M) (v0 : Nat) (v1 : Int32) (v2 : Int32) (v3 : Int32) (r : Int32) (M1 : mv_M) (hJ : jf_Tp_addAct N M v0 v1 v2 v3 = some (r, M1)) : mv_Met (xg l D E B sa) yn_Tp_addAct cd_Tp_addAct 7 (some .int) 5 116 [va_rf (some v0), .int v1, .int v2, .int v3] M (some (.int r)) M1 :=
  mv_enter (by decide) (Nat.le_of_ble_eq_true rfl) (mv_sub (lv := [(0, va_rf (some v0)), (1, .int v1), (2, .int v2), (3, .int v3)]) [0, 1, 2, 3] rfl (tb_Tp_addAct_0 l D E B sa M M1 r N M v0 v1 v2 v3 hJ))
/-! ===== PlainLearner.act(III)I ===== -/
abbrev kd_PL_act : mv_Kd := (cd_PL_act, 4, "PlainLearner", "act", (some .int), 6, 142)
theorem de_PL_act_0 : decode cd_PL_act 0 = .ok (.aload_n 0, 1) := by decide +kernel
theorem de_PL_act_1 : decode cd_PL_act 1 = .ok (.getfield 10, 3) := by decide +kernel
theorem de_PL_act_4 : decode cd_PL_act 4 = .ok (.iload_n 1, 1) := by decide +kernel
theorem de_PL_act_5 : decode cd_PL_act 5 = .ok (.iload_n 2, 1) := by decide +kernel
theorem de_PL_act_6 : decode cd_PL_act 6 = .ok (.iload_n 3, 1) := by decide +kernel
theorem de_PL_act_7 : decode cd_PL_act 7 = .ok (.invokevirtual 64, 3) := by decide +kernel
theorem de_PL_act_10 : decode cd_PL_act 10 = .ok (.ireturn, 1) := by decide +kernel
def jb_PL_act_0 (N : Nat) (M : mv_M) (v0 : Nat) (v1 : Int32) (v2 : Int32) (v3 : Int32) : Option (Int32 × mv_M) :=
  Option.bind (mj_getR M v0 0 0) fun x1 =>
  Option.bind x1 fun a7 =>
  mj_ob M a7 7 <|
  mj_call (jf_Tp_addAct N M a7 v1 v2 v3) fun r7 Mm7 =>
  some (r7, Mm7)
def jf_PL_act (N : Nat) (M : mv_M) (v0 : Nat) (v1 : Int32) (v2 : Int32) (v3 : Int32) : Option (Int32 × mv_M) := jb_PL_act_0 N M v0 v1 v2 v3
set_option maxHeartbeats 4000000 in
set_option maxRecDepth 100000 in
theorem tb_PL_act_0 (l : Launch) (D : va_G) (E : Nat → ClassId) (B : Nat) (sa : (Nat → Nat) × Nat × (Nat → Int32)) (M0 M1 : mv_M) (r : Int32) (N : Nat) (M : mv_M) (v0 : Nat) (v1 : Int32) (v2 : Int32) (v3 : Int32) (hJ : jb_PL_act_0 N M v0 v1 v2 v3 = some (r, M1)) : mv_G (xg l D E B sa) kd_PL_act M0 M1 (some (.int r)) M 0 [(0, va_rf (some v0)), (1, .int v1), (2, .int v2), (3, .int v3)] [] := by
  unfold jb_PL_act_0 at hJ
  refine mv_aload_n (pc := 0) (i := 0) de_PL_act_0 rfl 0 rfl ?_
  refine mv_getR (pc := 1) (f := 0) (kc_0 l D E B sa) (Nat.le_of_ble_eq_true rfl) wt_1_146 de_PL_act_1 hJ (fun x1 e1 h1 => ?_)
  refine mv_iload_n (pc := 4) (i := 1) de_PL_act_4 rfl 1 rfl ?_
  refine mv_iload_n (pc := 5) (i := 2) de_PL_act_5 rfl 2 rfl ?_
  refine mv_iload_n (pc := 6) (i := 3) de_PL_act_6 rfl 3 rfl ?_
  obtain ⟨a7, ha, h7a⟩ := mj_bindE h1
  subst ha
  obtain ⟨hi7, h7o⟩ := mj_obE h7a
  obtain ⟨r7, Mm7, hz7, h7⟩ := mj_callE h7o
  refine mv_callV (pc := 7) (n := 3) (av := [.int v1, .int v2, .int v3]) (rest := []) de_PL_act_7 (kc_7 l D E B sa) hi7 (cm_Tp_addAct l D E B sa N M a7 v1 v2 v3 _ _ hz7) wt_2_64 wt_2_65 wt_2_66 wt_1_2 wt_2_67 ⟨by decide, by decide, by decide +kernel⟩ rfl ⟨Nat.le_of_ble_eq_true rfl, Nat.le_of_ble_eq_true rfl⟩ (Nat.le_of_ble_eq_true rfl) rfl ?_
  exact mv_iret (pc := 10) rfl de_PL_act_10 h7
theorem cm_PL_act (l : Launch) (D : va_G) (E : Nat → ClassId) (B : Nat) (sa : (Nat → Nat) × Nat × (Nat → Int32)) (N : Nat) (M : mv_M) (v0 : Nat) (v1 : Int32) (v2 : Int32) (v3 : Int32) (r : Int32) (M1 : mv_M) (hJ : jf_PL_act N M v0 v1 v2 v3 = some (r, M1)) : mv_Met (xg l D E B sa) yn_PL_act cd_PL_act 4 (some .int) 6 142 [va_rf (some v0), .int v1, .int v2, .int v3] M (some (.int r)) M1 :=
  mv_enter (by decide) (Nat.le_of_ble_eq_true rfl) (mv_sub (lv := [(0, va_rf (some v0)), (1, .int v1), (2, .int v2), (3, .int v3)]) [0, 1, 2, 3] rfl (tb_PL_act_0 l D E B sa M M1 r N M v0 v1 v2 v3 hJ))
/-! ===== PlainLearner$Node.describe(I)I ===== -/
abbrev kd_No_describe : mv_Kd := (cd_No_describe, 2, "PlainLearner$Node", "describe", (some .int), 1, 21)
theorem de_No_describe_0 : decode cd_No_describe 0 = .ok (.iload_n 1, 1) := by decide +kernel
theorem de_No_describe_1 : decode cd_No_describe 1 = .ok (.tableswitch 111 0 7 #[47, 55, 55, 55, 88, 96, 101, 106], 47) := by decide +kernel
theorem de_No_describe_48 : decode cd_No_describe 48 = .ok (.aload_n 0, 1) := by decide +kernel
theorem de_No_describe_49 : decode cd_No_describe 49 = .ok (.getfield 9, 3) := by decide +kernel
theorem de_No_describe_52 : decode cd_No_describe 52 = .ok (.getfield 86, 3) := by decide +kernel
theorem de_No_describe_55 : decode cd_No_describe 55 = .ok (.ireturn, 1) := by decide +kernel
theorem de_No_describe_56 : decode cd_No_describe 56 = .ok (.iload_n 1, 1) := by decide +kernel
theorem de_No_describe_57 : decode cd_No_describe 57 = .ok (.aload_n 0, 1) := by decide +kernel
theorem de_No_describe_58 : decode cd_No_describe 58 = .ok (.getfield 9, 3) := by decide +kernel
theorem de_No_describe_61 : decode cd_No_describe 61 = .ok (.getfield 86, 3) := by decide +kernel
theorem de_No_describe_64 : decode cd_No_describe 64 = .ok (.if_icmp .le 7, 3) := by decide +kernel
theorem de_No_describe_67 : decode cd_No_describe 67 = .ok (.iconst 0, 1) := by decide +kernel
theorem de_No_describe_68 : decode cd_No_describe 68 = .ok (.goto 20, 3) := by decide +kernel
theorem de_No_describe_71 : decode cd_No_describe 71 = .ok (.aload_n 0, 1) := by decide +kernel
theorem de_No_describe_72 : decode cd_No_describe 72 = .ok (.getfield 9, 3) := by decide +kernel
theorem de_No_describe_75 : decode cd_No_describe 75 = .ok (.aload_n 0, 1) := by decide +kernel
theorem de_No_describe_76 : decode cd_No_describe 76 = .ok (.getfield 9, 3) := by decide +kernel
theorem de_No_describe_79 : decode cd_No_describe 79 = .ok (.iload_n 1, 1) := by decide +kernel
theorem de_No_describe_80 : decode cd_No_describe 80 = .ok (.iconst 1, 1) := by decide +kernel
theorem de_No_describe_81 : decode cd_No_describe 81 = .ok (.isub, 1) := by decide +kernel
theorem de_No_describe_82 : decode cd_No_describe 82 = .ok (.invokevirtual 79, 3) := by decide +kernel
theorem de_No_describe_85 : decode cd_No_describe 85 = .ok (.invokevirtual 83, 3) := by decide +kernel
theorem de_No_describe_88 : decode cd_No_describe 88 = .ok (.ireturn, 1) := by decide +kernel
theorem de_No_describe_89 : decode cd_No_describe 89 = .ok (.aload_n 0, 1) := by decide +kernel
theorem de_No_describe_90 : decode cd_No_describe 90 = .ok (.getfield 9, 3) := by decide +kernel
theorem de_No_describe_93 : decode cd_No_describe 93 = .ok (.getfield 42, 3) := by decide +kernel
theorem de_No_describe_96 : decode cd_No_describe 96 = .ok (.ireturn, 1) := by decide +kernel
theorem de_No_describe_97 : decode cd_No_describe 97 = .ok (.aload_n 0, 1) := by decide +kernel
theorem de_No_describe_98 : decode cd_No_describe 98 = .ok (.getfield 15, 3) := by decide +kernel
theorem de_No_describe_101 : decode cd_No_describe 101 = .ok (.ireturn, 1) := by decide +kernel
theorem de_No_describe_102 : decode cd_No_describe 102 = .ok (.aload_n 0, 1) := by decide +kernel
theorem de_No_describe_103 : decode cd_No_describe 103 = .ok (.getfield 19, 3) := by decide +kernel
theorem de_No_describe_106 : decode cd_No_describe 106 = .ok (.ireturn, 1) := by decide +kernel
theorem de_No_describe_107 : decode cd_No_describe 107 = .ok (.aload_n 0, 1) := by decide +kernel
theorem de_No_describe_108 : decode cd_No_describe 108 = .ok (.getfield 22, 3) := by decide +kernel
theorem de_No_describe_111 : decode cd_No_describe 111 = .ok (.ireturn, 1) := by decide +kernel
theorem de_No_describe_112 : decode cd_No_describe 112 = .ok (.iconst (-1), 1) := by decide +kernel
theorem de_No_describe_113 : decode cd_No_describe 113 = .ok (.ireturn, 1) := by decide +kernel
def jb_No_describe_88 (N : Nat) (M : mv_M) (s0 : Int32) : Option (Int32 × mv_M) :=
  some (s0, M)
def jb_No_describe_0 (N : Nat) (M : mv_M) (v0 : Nat) (v1 : Int32) : Option (Int32 × mv_M) :=
  if v1 = 0 then (Option.bind (mj_getR M v0 2 0) fun x49 =>
  Option.bind x49 fun a52 =>
  Option.bind (mj_getI M a52 5 0) fun x52 =>
  some (x52, M)) else
  if v1 = 1 then (Option.bind (mj_getR M v0 2 0) fun x58 =>
  Option.bind x58 fun a61 =>
  Option.bind (mj_getI M a61 5 0) fun x61 =>
  if v1 ≤ x61 then (Option.bind (mj_getR M v0 2 0) fun x72 =>
  Option.bind (mj_getR M v0 2 0) fun x76 =>
  Option.bind x76 fun a82 =>
  mj_ob M a82 5 <|
  mj_call (jf_Sh_placeOf N M a82 (v1 - 1)) fun r82 Mm82 =>
  Option.bind x72 fun a85 =>
  mj_ob Mm82 a85 5 <|
  mj_call (jf_Sh_lengthAt N Mm82 a85 r82) fun r85 Mm85 =>
  jb_No_describe_88 N Mm85 r85) else
  jb_No_describe_88 N M 0) else
  if v1 = 2 then (Option.bind (mj_getR M v0 2 0) fun x58 =>
  Option.bind x58 fun a61 =>
  Option.bind (mj_getI M a61 5 0) fun x61 =>
  if v1 ≤ x61 then (Option.bind (mj_getR M v0 2 0) fun x72 =>
  Option.bind (mj_getR M v0 2 0) fun x76 =>
  Option.bind x76 fun a82 =>
  mj_ob M a82 5 <|
  mj_call (jf_Sh_placeOf N M a82 (v1 - 1)) fun r82 Mm82 =>
  Option.bind x72 fun a85 =>
  mj_ob Mm82 a85 5 <|
  mj_call (jf_Sh_lengthAt N Mm82 a85 r82) fun r85 Mm85 =>
  jb_No_describe_88 N Mm85 r85) else
  jb_No_describe_88 N M 0) else
  if v1 = 3 then (Option.bind (mj_getR M v0 2 0) fun x58 =>
  Option.bind x58 fun a61 =>
  Option.bind (mj_getI M a61 5 0) fun x61 =>
  if v1 ≤ x61 then (Option.bind (mj_getR M v0 2 0) fun x72 =>
  Option.bind (mj_getR M v0 2 0) fun x76 =>
  Option.bind x76 fun a82 =>
  mj_ob M a82 5 <|
  mj_call (jf_Sh_placeOf N M a82 (v1 - 1)) fun r82 Mm82 =>
  Option.bind x72 fun a85 =>
  mj_ob Mm82 a85 5 <|
  mj_call (jf_Sh_lengthAt N Mm82 a85 r82) fun r85 Mm85 =>
  jb_No_describe_88 N Mm85 r85) else
  jb_No_describe_88 N M 0) else
  if v1 = 4 then (Option.bind (mj_getR M v0 2 0) fun x90 =>
  Option.bind x90 fun a93 =>
  Option.bind (mj_getI M a93 5 4) fun x93 =>
  some (x93, M)) else
  if v1 = 5 then (Option.bind (mj_getI M v0 2 1) fun x98 =>
  some (x98, M)) else
  if v1 = 6 then (Option.bind (mj_getI M v0 2 2) fun x103 =>
  some (x103, M)) else
  if v1 = 7 then (Option.bind (mj_getI M v0 2 3) fun x108 =>
  some (x108, M)) else
  some ((-1), M)
def jf_No_describe (N : Nat) (M : mv_M) (v0 : Nat) (v1 : Int32) : Option (Int32 × mv_M) := jb_No_describe_0 N M v0 v1
set_option maxHeartbeats 4000000 in
set_option maxRecDepth 100000 in
theorem tb_No_describe_88 (l : Launch) (D : va_G) (E : Nat → ClassId) (B : Nat) (sa : (Nat → Nat) × Nat × (Nat → Int32)) (M0 M1 : mv_M) (r : Int32) (N : Nat) (M : mv_M) (s0 : Int32) (hJ : jb_No_describe_88 N M s0 = some (r, M1)) : mv_G (xg l D E B sa) kd_No_describe M0 M1 (some (.int r)) M 88 [] [.int s0] := by
  unfold jb_No_describe_88 at hJ
  exact mv_iret (pc := 88) rfl de_No_describe_88 hJ
set_option maxHeartbeats 4000000 in
set_option maxRecDepth 100000 in
theorem tb_No_describe_0 (l : Launch) (D : va_G) (E : Nat → ClassId) (B : Nat) (sa : (Nat → Nat) × Nat × (Nat → Int32)) (M0 M1 : mv_M) (r : Int32) (N : Nat) (M : mv_M) (v0 : Nat) (v1 : Int32) (hJ : jb_No_describe_0 N M v0 v1 = some (r, M1)) : mv_G (xg l D E B sa) kd_No_describe M0 M1 (some (.int r)) M 0 [(0, va_rf (some v0)), (1, .int v1)] [] := by
  unfold jb_No_describe_0 at hJ
  refine mv_iload_n (pc := 0) (i := 1) de_No_describe_0 rfl 1 rfl ?_
  by_cases hs1_0 : v1 = 0
  · rw [if_pos hs1_0] at hJ
    refine mv_tin (pc := 1) (tgt := 48) (off := 47) 0 de_No_describe_1 hs1_0 (by decide) (by decide) ?_
    refine mv_aload_n (pc := 48) (i := 0) de_No_describe_48 rfl 0 rfl ?_
    refine mv_getR (pc := 49) (f := 0) (kc_2 l D E B sa) (Nat.le_of_ble_eq_true rfl) wt_1_220 de_No_describe_49 hJ (fun x49 e49 h49 => ?_)
    obtain ⟨a52, ha, h52a⟩ := mj_bindE h49
    subst ha
    refine mv_getI (pc := 52) (f := 0) (kc_5 l D E B sa) (Nat.le_of_ble_eq_true rfl) wt_1_179 de_No_describe_52 h52a (fun x52 e52 h52 => ?_)
    exact mv_iret (pc := 55) rfl de_No_describe_55 h52
  rw [if_neg hs1_0] at hJ
  by_cases hs1_1 : v1 = 1
  · rw [if_pos hs1_1] at hJ
    refine mv_tin (pc := 1) (tgt := 56) (off := 55) 1 de_No_describe_1 hs1_1 (by decide) (by decide) ?_
    refine mv_iload_n (pc := 56) (i := 1) de_No_describe_56 rfl 1 rfl ?_
    refine mv_aload_n (pc := 57) (i := 0) de_No_describe_57 rfl 0 rfl ?_
    refine mv_getR (pc := 58) (f := 0) (kc_2 l D E B sa) (Nat.le_of_ble_eq_true rfl) wt_1_220 de_No_describe_58 hJ (fun x58 e58 h58 => ?_)
    obtain ⟨a61, ha, h61a⟩ := mj_bindE h58
    subst ha
    refine mv_getI (pc := 61) (f := 0) (kc_5 l D E B sa) (Nat.le_of_ble_eq_true rfl) wt_1_179 de_No_describe_61 h61a (fun x61 e61 h61 => ?_)
    refine mv_icmp_le (pc := 64) (tgt := 71) de_No_describe_64 (by decide) h61 (fun hc64 h64 => ?_) (fun hc64 h64 => ?_)
    · refine mv_aload_n (pc := 71) (i := 0) de_No_describe_71 rfl 0 rfl ?_
      refine mv_getR (pc := 72) (f := 0) (kc_2 l D E B sa) (Nat.le_of_ble_eq_true rfl) wt_1_220 de_No_describe_72 h64 (fun x72 e72 h72 => ?_)
      refine mv_aload_n (pc := 75) (i := 0) de_No_describe_75 rfl 0 rfl ?_
      refine mv_getR (pc := 76) (f := 0) (kc_2 l D E B sa) (Nat.le_of_ble_eq_true rfl) wt_1_220 de_No_describe_76 h72 (fun x76 e76 h76 => ?_)
      refine mv_iload_n (pc := 79) (i := 1) de_No_describe_79 rfl 1 rfl ?_
      refine mv_iconst (pc := 80) (v := 1) de_No_describe_80 (by decide) ?_
      refine mv_isub (pc := 81) de_No_describe_81 ?_
      obtain ⟨a82, ha, h82a⟩ := mj_bindE h76
      subst ha
      obtain ⟨hi82, h82o⟩ := mj_obE h82a
      obtain ⟨r82, Mm82, hz82, h82⟩ := mj_callE h82o
      refine mv_callV (pc := 82) (n := 1) (av := [.int (v1 - 1)]) (rest := [va_rf x72]) de_No_describe_82 (kc_5 l D E B sa) hi82 (cm_Sh_placeOf l D E B sa N M a82 (v1 - 1) _ _ hz82) wt_2_149 wt_2_88 wt_2_89 wt_1_9 wt_2_90 ⟨by decide, by decide, by decide +kernel⟩ rfl ⟨Nat.le_of_ble_eq_true rfl, Nat.le_of_ble_eq_true rfl⟩ (by simp [mv_cat, mv_cI, mv_cJ]) rfl ?_
      obtain ⟨a85, ha, h85a⟩ := mj_bindE h82
      subst ha
      obtain ⟨hi85, h85o⟩ := mj_obE h85a
      obtain ⟨r85, Mm85, hz85, h85⟩ := mj_callE h85o
      refine mv_callV (pc := 85) (n := 1) (av := [.int r82]) (rest := []) de_No_describe_85 (kc_5 l D E B sa) hi85 (cm_Sh_lengthAt l D E B sa N Mm82 a85 r82 _ _ hz85) wt_2_150 wt_2_100 wt_2_101 wt_1_9 wt_2_102 ⟨by decide, by decide, by decide +kernel⟩ rfl ⟨Nat.le_of_ble_eq_true rfl, Nat.le_of_ble_eq_true rfl⟩ (Nat.le_of_ble_eq_true rfl) rfl ?_
      exact mv_sub [] rfl (tb_No_describe_88 l D E B sa M0 M1 r N Mm85 r85 h85)
    · refine mv_iconst (pc := 67) (v := 0) de_No_describe_67 (by decide) ?_
      refine mv_goto (pc := 68) (tgt := 88) de_No_describe_68 (by decide) ?_
      exact mv_sub [] rfl (tb_No_describe_88 l D E B sa M0 M1 r N M 0 h64)
  rw [if_neg hs1_1] at hJ
  by_cases hs1_2 : v1 = 2
  · rw [if_pos hs1_2] at hJ
    refine mv_tin (pc := 1) (tgt := 56) (off := 55) 2 de_No_describe_1 hs1_2 (by decide) (by decide) ?_
    refine mv_iload_n (pc := 56) (i := 1) de_No_describe_56 rfl 1 rfl ?_
    refine mv_aload_n (pc := 57) (i := 0) de_No_describe_57 rfl 0 rfl ?_
    refine mv_getR (pc := 58) (f := 0) (kc_2 l D E B sa) (Nat.le_of_ble_eq_true rfl) wt_1_220 de_No_describe_58 hJ (fun x58 e58 h58 => ?_)
    obtain ⟨a61, ha, h61a⟩ := mj_bindE h58
    subst ha
    refine mv_getI (pc := 61) (f := 0) (kc_5 l D E B sa) (Nat.le_of_ble_eq_true rfl) wt_1_179 de_No_describe_61 h61a (fun x61 e61 h61 => ?_)
    refine mv_icmp_le (pc := 64) (tgt := 71) de_No_describe_64 (by decide) h61 (fun hc64 h64 => ?_) (fun hc64 h64 => ?_)
    · refine mv_aload_n (pc := 71) (i := 0) de_No_describe_71 rfl 0 rfl ?_
      refine mv_getR (pc := 72) (f := 0) (kc_2 l D E B sa) (Nat.le_of_ble_eq_true rfl) wt_1_220 de_No_describe_72 h64 (fun x72 e72 h72 => ?_)
      refine mv_aload_n (pc := 75) (i := 0) de_No_describe_75 rfl 0 rfl ?_
      refine mv_getR (pc := 76) (f := 0) (kc_2 l D E B sa) (Nat.le_of_ble_eq_true rfl) wt_1_220 de_No_describe_76 h72 (fun x76 e76 h76 => ?_)
      refine mv_iload_n (pc := 79) (i := 1) de_No_describe_79 rfl 1 rfl ?_
      refine mv_iconst (pc := 80) (v := 1) de_No_describe_80 (by decide) ?_
      refine mv_isub (pc := 81) de_No_describe_81 ?_
      obtain ⟨a82, ha, h82a⟩ := mj_bindE h76
      subst ha
      obtain ⟨hi82, h82o⟩ := mj_obE h82a
      obtain ⟨r82, Mm82, hz82, h82⟩ := mj_callE h82o
      refine mv_callV (pc := 82) (n := 1) (av := [.int (v1 - 1)]) (rest := [va_rf x72]) de_No_describe_82 (kc_5 l D E B sa) hi82 (cm_Sh_placeOf l D E B sa N M a82 (v1 - 1) _ _ hz82) wt_2_149 wt_2_88 wt_2_89 wt_1_9 wt_2_90 ⟨by decide, by decide, by decide +kernel⟩ rfl ⟨Nat.le_of_ble_eq_true rfl, Nat.le_of_ble_eq_true rfl⟩ (by simp [mv_cat, mv_cI, mv_cJ]) rfl ?_
      obtain ⟨a85, ha, h85a⟩ := mj_bindE h82
      subst ha
      obtain ⟨hi85, h85o⟩ := mj_obE h85a
      obtain ⟨r85, Mm85, hz85, h85⟩ := mj_callE h85o
      refine mv_callV (pc := 85) (n := 1) (av := [.int r82]) (rest := []) de_No_describe_85 (kc_5 l D E B sa) hi85 (cm_Sh_lengthAt l D E B sa N Mm82 a85 r82 _ _ hz85) wt_2_150 wt_2_100 wt_2_101 wt_1_9 wt_2_102 ⟨by decide, by decide, by decide +kernel⟩ rfl ⟨Nat.le_of_ble_eq_true rfl, Nat.le_of_ble_eq_true rfl⟩ (Nat.le_of_ble_eq_true rfl) rfl ?_
      exact mv_sub [] rfl (tb_No_describe_88 l D E B sa M0 M1 r N Mm85 r85 h85)
    · refine mv_iconst (pc := 67) (v := 0) de_No_describe_67 (by decide) ?_
      refine mv_goto (pc := 68) (tgt := 88) de_No_describe_68 (by decide) ?_
      exact mv_sub [] rfl (tb_No_describe_88 l D E B sa M0 M1 r N M 0 h64)
  rw [if_neg hs1_2] at hJ
  by_cases hs1_3 : v1 = 3
  · rw [if_pos hs1_3] at hJ
    refine mv_tin (pc := 1) (tgt := 56) (off := 55) 3 de_No_describe_1 hs1_3 (by decide) (by decide) ?_
    refine mv_iload_n (pc := 56) (i := 1) de_No_describe_56 rfl 1 rfl ?_
    refine mv_aload_n (pc := 57) (i := 0) de_No_describe_57 rfl 0 rfl ?_
    refine mv_getR (pc := 58) (f := 0) (kc_2 l D E B sa) (Nat.le_of_ble_eq_true rfl) wt_1_220 de_No_describe_58 hJ (fun x58 e58 h58 => ?_)
    obtain ⟨a61, ha, h61a⟩ := mj_bindE h58
    subst ha
    refine mv_getI (pc := 61) (f := 0) (kc_5 l D E B sa) (Nat.le_of_ble_eq_true rfl) wt_1_179 de_No_describe_61 h61a (fun x61 e61 h61 => ?_)
    refine mv_icmp_le (pc := 64) (tgt := 71) de_No_describe_64 (by decide) h61 (fun hc64 h64 => ?_) (fun hc64 h64 => ?_)
    · refine mv_aload_n (pc := 71) (i := 0) de_No_describe_71 rfl 0 rfl ?_
      refine mv_getR (pc := 72) (f := 0) (kc_2 l D E B sa) (Nat.le_of_ble_eq_true rfl) wt_1_220 de_No_describe_72 h64 (fun x72 e72 h72 => ?_)
      refine mv_aload_n (pc := 75) (i := 0) de_No_describe_75 rfl 0 rfl ?_
      refine mv_getR (pc := 76) (f := 0) (kc_2 l D E B sa) (Nat.le_of_ble_eq_true rfl) wt_1_220 de_No_describe_76 h72 (fun x76 e76 h76 => ?_)
      refine mv_iload_n (pc := 79) (i := 1) de_No_describe_79 rfl 1 rfl ?_
      refine mv_iconst (pc := 80) (v := 1) de_No_describe_80 (by decide) ?_
      refine mv_isub (pc := 81) de_No_describe_81 ?_
      obtain ⟨a82, ha, h82a⟩ := mj_bindE h76
      subst ha
      obtain ⟨hi82, h82o⟩ := mj_obE h82a
      obtain ⟨r82, Mm82, hz82, h82⟩ := mj_callE h82o
      refine mv_callV (pc := 82) (n := 1) (av := [.int (v1 - 1)]) (rest := [va_rf x72]) de_No_describe_82 (kc_5 l D E B sa) hi82 (cm_Sh_placeOf l D E B sa N M a82 (v1 - 1) _ _ hz82) wt_2_149 wt_2_88 wt_2_89 wt_1_9 wt_2_90 ⟨by decide, by decide, by decide +kernel⟩ rfl ⟨Nat.le_of_ble_eq_true rfl, Nat.le_of_ble_eq_true rfl⟩ (by simp [mv_cat, mv_cI, mv_cJ]) rfl ?_
      obtain ⟨a85, ha, h85a⟩ := mj_bindE h82
      subst ha
      obtain ⟨hi85, h85o⟩ := mj_obE h85a
      obtain ⟨r85, Mm85, hz85, h85⟩ := mj_callE h85o
      refine mv_callV (pc := 85) (n := 1) (av := [.int r82]) (rest := []) de_No_describe_85 (kc_5 l D E B sa) hi85 (cm_Sh_lengthAt l D E B sa N Mm82 a85 r82 _ _ hz85) wt_2_150 wt_2_100 wt_2_101 wt_1_9 wt_2_102 ⟨by decide, by decide, by decide +kernel⟩ rfl ⟨Nat.le_of_ble_eq_true rfl, Nat.le_of_ble_eq_true rfl⟩ (Nat.le_of_ble_eq_true rfl) rfl ?_
      exact mv_sub [] rfl (tb_No_describe_88 l D E B sa M0 M1 r N Mm85 r85 h85)
    · refine mv_iconst (pc := 67) (v := 0) de_No_describe_67 (by decide) ?_
      refine mv_goto (pc := 68) (tgt := 88) de_No_describe_68 (by decide) ?_
      exact mv_sub [] rfl (tb_No_describe_88 l D E B sa M0 M1 r N M 0 h64)
  rw [if_neg hs1_3] at hJ
  by_cases hs1_4 : v1 = 4
  · rw [if_pos hs1_4] at hJ
    refine mv_tin (pc := 1) (tgt := 89) (off := 88) 4 de_No_describe_1 hs1_4 (by decide) (by decide) ?_
    refine mv_aload_n (pc := 89) (i := 0) de_No_describe_89 rfl 0 rfl ?_
    refine mv_getR (pc := 90) (f := 0) (kc_2 l D E B sa) (Nat.le_of_ble_eq_true rfl) wt_1_220 de_No_describe_90 hJ (fun x90 e90 h90 => ?_)
    obtain ⟨a93, ha, h93a⟩ := mj_bindE h90
    subst ha
    refine mv_getI (pc := 93) (f := 4) (kc_5 l D E B sa) (Nat.le_of_ble_eq_true rfl) wt_1_191 de_No_describe_93 h93a (fun x93 e93 h93 => ?_)
    exact mv_iret (pc := 96) rfl de_No_describe_96 h93
  rw [if_neg hs1_4] at hJ
  by_cases hs1_5 : v1 = 5
  · rw [if_pos hs1_5] at hJ
    refine mv_tin (pc := 1) (tgt := 97) (off := 96) 5 de_No_describe_1 hs1_5 (by decide) (by decide) ?_
    refine mv_aload_n (pc := 97) (i := 0) de_No_describe_97 rfl 0 rfl ?_
    refine mv_getI (pc := 98) (f := 1) (kc_2 l D E B sa) (Nat.le_of_ble_eq_true rfl) wt_1_222 de_No_describe_98 hJ (fun x98 e98 h98 => ?_)
    exact mv_iret (pc := 101) rfl de_No_describe_101 h98
  rw [if_neg hs1_5] at hJ
  by_cases hs1_6 : v1 = 6
  · rw [if_pos hs1_6] at hJ
    refine mv_tin (pc := 1) (tgt := 102) (off := 101) 6 de_No_describe_1 hs1_6 (by decide) (by decide) ?_
    refine mv_aload_n (pc := 102) (i := 0) de_No_describe_102 rfl 0 rfl ?_
    refine mv_getI (pc := 103) (f := 2) (kc_2 l D E B sa) (Nat.le_of_ble_eq_true rfl) wt_1_223 de_No_describe_103 hJ (fun x103 e103 h103 => ?_)
    exact mv_iret (pc := 106) rfl de_No_describe_106 h103
  rw [if_neg hs1_6] at hJ
  by_cases hs1_7 : v1 = 7
  · rw [if_pos hs1_7] at hJ
    refine mv_tin (pc := 1) (tgt := 107) (off := 106) 7 de_No_describe_1 hs1_7 (by decide) (by decide) ?_
    refine mv_aload_n (pc := 107) (i := 0) de_No_describe_107 rfl 0 rfl ?_
    refine mv_getI (pc := 108) (f := 3) (kc_2 l D E B sa) (Nat.le_of_ble_eq_true rfl) wt_1_224 de_No_describe_108 hJ (fun x108 e108 h108 => ?_)
    exact mv_iret (pc := 111) rfl de_No_describe_111 h108
  rw [if_neg hs1_7] at hJ
  have qhs1_0 := lv_neT (a := 0) hs1_0 (by decide)
  have qhs1_1 := lv_neT (a := 1) hs1_1 (by decide)
  have qhs1_2 := lv_neT (a := 2) hs1_2 (by decide)
  have qhs1_3 := lv_neT (a := 3) hs1_3 (by decide)
  have qhs1_4 := lv_neT (a := 4) hs1_4 (by decide)
  have qhs1_5 := lv_neT (a := 5) hs1_5 (by decide)
  have qhs1_6 := lv_neT (a := 6) hs1_6 (by decide)
  have qhs1_7 := lv_neT (a := 7) hs1_7 (by decide)
  refine mv_tout (pc := 1) (tgt := 112) de_No_describe_1 (by omega) (by decide) ?_
  refine mv_iconst (pc := 112) (v := (-1)) de_No_describe_112 (by decide) ?_
  exact mv_iret (pc := 113) rfl de_No_describe_113 hJ
theorem cm_No_describe (l : Launch) (D : va_G) (E : Nat → ClassId) (B : Nat) (sa : (Nat → Nat) × Nat × (Nat → Int32)) (N : Nat) (M : mv_M) (v0 : Nat) (v1 : Int32) (r : Int32) (M1 : mv_M) (hJ : jf_No_describe N M v0 v1 = some (r, M1)) : mv_Met (xg l D E B sa) yn_No_describe cd_No_describe 2 (some .int) 1 21 [va_rf (some v0), .int v1] M (some (.int r)) M1 :=
  mv_enter (by decide) (Nat.le_of_ble_eq_true rfl) (mv_sub (lv := [(0, va_rf (some v0)), (1, .int v1)]) [0, 1] rfl (tb_No_describe_0 l D E B sa M M1 r N M v0 v1 hJ))
/-! ===== PlainLearner.node(II)I ===== -/
abbrev kd_PL_node : mv_Kd := (cd_PL_node, 4, "PlainLearner", "node", (some .int), 2, 42)
theorem de_PL_node_0 : decode cd_PL_node 0 = .ok (.aload_n 0, 1) := by decide +kernel
theorem de_PL_node_1 : decode cd_PL_node 1 = .ok (.getfield 10, 3) := by decide +kernel
theorem de_PL_node_4 : decode cd_PL_node 4 = .ok (.iload_n 1, 1) := by decide +kernel
theorem de_PL_node_5 : decode cd_PL_node 5 = .ok (.invokevirtual 68, 3) := by decide +kernel
theorem de_PL_node_8 : decode cd_PL_node 8 = .ok (.astore_n 3, 1) := by decide +kernel
theorem de_PL_node_9 : decode cd_PL_node 9 = .ok (.aload_n 3, 1) := by decide +kernel
theorem de_PL_node_10 : decode cd_PL_node 10 = .ok (.ifnonnull 7, 3) := by decide +kernel
theorem de_PL_node_13 : decode cd_PL_node 13 = .ok (.iconst (-1), 1) := by decide +kernel
theorem de_PL_node_14 : decode cd_PL_node 14 = .ok (.goto 8, 3) := by decide +kernel
theorem de_PL_node_17 : decode cd_PL_node 17 = .ok (.aload_n 3, 1) := by decide +kernel
theorem de_PL_node_18 : decode cd_PL_node 18 = .ok (.iload_n 2, 1) := by decide +kernel
theorem de_PL_node_19 : decode cd_PL_node 19 = .ok (.invokevirtual 72, 3) := by decide +kernel
theorem de_PL_node_22 : decode cd_PL_node 22 = .ok (.ireturn, 1) := by decide +kernel
def jb_PL_node_22 (N : Nat) (M : mv_M) (s0 : Int32) : Option (Int32 × mv_M) :=
  some (s0, M)
def jb_PL_node_0 (N : Nat) (M : mv_M) (v0 : Nat) (v1 : Int32) (v2 : Int32) : Option (Int32 × mv_M) :=
  Option.bind (mj_getR M v0 0 0) fun x1 =>
  Option.bind x1 fun a5 =>
  mj_ob M a5 7 <|
  mj_call (jf_Tp_find N M a5 v1) fun r5 Mm5 =>
  mj_opt r5 (jb_PL_node_22 N Mm5 (-1)) fun a10 =>
  mj_ob Mm5 a10 2 <|
  mj_call (jf_No_describe N Mm5 a10 v2) fun r19 Mm19 =>
  jb_PL_node_22 N Mm19 r19
def jf_PL_node (N : Nat) (M : mv_M) (v0 : Nat) (v1 : Int32) (v2 : Int32) : Option (Int32 × mv_M) := jb_PL_node_0 N M v0 v1 v2
set_option maxHeartbeats 4000000 in
set_option maxRecDepth 100000 in
theorem tb_PL_node_22 (l : Launch) (D : va_G) (E : Nat → ClassId) (B : Nat) (sa : (Nat → Nat) × Nat × (Nat → Int32)) (M0 M1 : mv_M) (r : Int32) (N : Nat) (M : mv_M) (s0 : Int32) (hJ : jb_PL_node_22 N M s0 = some (r, M1)) : mv_G (xg l D E B sa) kd_PL_node M0 M1 (some (.int r)) M 22 [] [.int s0] := by
  unfold jb_PL_node_22 at hJ
  exact mv_iret (pc := 22) rfl de_PL_node_22 hJ
set_option maxHeartbeats 4000000 in
set_option maxRecDepth 100000 in
theorem tb_PL_node_0 (l : Launch) (D : va_G) (E : Nat → ClassId) (B : Nat) (sa : (Nat → Nat) × Nat × (Nat → Int32)) (M0 M1 : mv_M) (r : Int32) (N : Nat) (M : mv_M) (v0 : Nat) (v1 : Int32) (v2 : Int32) (hJ : jb_PL_node_0 N M v0 v1 v2 = some (r, M1)) : mv_G (xg l D E B sa) kd_PL_node M0 M1 (some (.int r)) M 0 [(0, va_rf (some v0)), (1, .int v1), (2, .int v2)] [] := by
  unfold jb_PL_node_0 at hJ
  refine mv_aload_n (pc := 0) (i := 0) de_PL_node_0 rfl 0 rfl ?_
  refine mv_getR (pc := 1) (f := 0) (kc_0 l D E B sa) (Nat.le_of_ble_eq_true rfl) wt_1_146 de_PL_node_1 hJ (fun x1 e1 h1 => ?_)
  refine mv_iload_n (pc := 4) (i := 1) de_PL_node_4 rfl 1 rfl ?_
  obtain ⟨a5, ha, h5a⟩ := mj_bindE h1
  subst ha
  obtain ⟨hi5, h5o⟩ := mj_obE h5a
  obtain ⟨r5, Mm5, hz5, h5⟩ := mj_callE h5o
  refine mv_callV (pc := 5) (n := 1) (av := [.int v1]) (rest := []) de_PL_node_5 (kc_7 l D E B sa) hi5 (cm_Tp_find l D E B sa N M a5 v1 _ _ hz5) wt_2_155 wt_2_46 wt_2_47 wt_1_2 wt_2_48 ⟨by decide, by decide, by decide +kernel⟩ rfl ⟨Nat.le_of_ble_eq_true rfl, Nat.le_of_ble_eq_true rfl⟩ (Nat.le_of_ble_eq_true rfl) rfl ?_
  refine mv_astore_n (pc := 8) (i := 3) (lv' := [(3, va_rf r5), (0, va_rf (some v0)), (1, .int v1), (2, .int v2)]) de_PL_node_8 rfl (Nat.le_of_ble_eq_true rfl) rfl ?_
  refine mv_aload_n (pc := 9) (i := 3) de_PL_node_9 rfl 0 rfl ?_
  refine mv_ifnonnull (pc := 10) (tgt := 17) de_PL_node_10 (by decide) h5 (fun ha h10 => ?_) (fun a10 ha h10 => ?_)
  · subst ha
    refine mv_iconst (pc := 13) (v := (-1)) de_PL_node_13 (by decide) ?_
    refine mv_goto (pc := 14) (tgt := 22) de_PL_node_14 (by decide) ?_
    exact mv_sub [] rfl (tb_PL_node_22 l D E B sa M0 M1 r N Mm5 (-1) h10)
  · subst ha
    refine mv_aload_n (pc := 17) (i := 3) de_PL_node_17 rfl 0 rfl ?_
    refine mv_iload_n (pc := 18) (i := 2) de_PL_node_18 rfl 3 rfl ?_
    obtain ⟨hi19, h19o⟩ := mj_obE h10
    obtain ⟨r19, Mm19, hz19, h19⟩ := mj_callE h19o
    refine mv_callV (pc := 19) (n := 1) (av := [.int v2]) (rest := []) de_PL_node_19 (kc_2 l D E B sa) hi19 (cm_No_describe l D E B sa N Mm5 a10 v2 _ _ hz19) wt_2_156 wt_2_157 wt_2_158 wt_1_10 wt_2_159 ⟨by decide, by decide, by decide +kernel⟩ rfl ⟨Nat.le_of_ble_eq_true rfl, Nat.le_of_ble_eq_true rfl⟩ (Nat.le_of_ble_eq_true rfl) rfl ?_
    exact mv_sub [] rfl (tb_PL_node_22 l D E B sa M0 M1 r N Mm19 r19 h19)
theorem cm_PL_node (l : Launch) (D : va_G) (E : Nat → ClassId) (B : Nat) (sa : (Nat → Nat) × Nat × (Nat → Int32)) (N : Nat) (M : mv_M) (v0 : Nat) (v1 : Int32) (v2 : Int32) (r : Int32) (M1 : mv_M) (hJ : jf_PL_node N M v0 v1 v2 = some (r, M1)) : mv_Met (xg l D E B sa) yn_PL_node cd_PL_node 4 (some .int) 2 42 [va_rf (some v0), .int v1, .int v2] M (some (.int r)) M1 :=
  mv_enter (by decide) (Nat.le_of_ble_eq_true rfl) (mv_sub (lv := [(0, va_rf (some v0)), (1, .int v1), (2, .int v2)]) [0, 1, 2] rfl (tb_PL_node_0 l D E B sa M M1 r N M v0 v1 v2 hJ))
/-! ===== PlainLearner.isSide(I)Z ===== -/
abbrev kd_PL_isSide : mv_Kd := (cd_PL_isSide, 1, "PlainLearner", "isSide", (some .boolean), 0, 0)
theorem de_PL_isSide_0 : decode cd_PL_isSide 0 = .ok (.iload_n 0, 1) := by decide +kernel
theorem de_PL_isSide_1 : decode cd_PL_isSide 1 = .ok (.ifCond .eq 8, 3) := by decide +kernel
theorem de_PL_isSide_4 : decode cd_PL_isSide 4 = .ok (.iload_n 0, 1) := by decide +kernel
theorem de_PL_isSide_5 : decode cd_PL_isSide 5 = .ok (.iconst 1, 1) := by decide +kernel
theorem de_PL_isSide_6 : decode cd_PL_isSide 6 = .ok (.if_icmp .ne 7, 3) := by decide +kernel
theorem de_PL_isSide_9 : decode cd_PL_isSide 9 = .ok (.iconst 1, 1) := by decide +kernel
theorem de_PL_isSide_10 : decode cd_PL_isSide 10 = .ok (.goto 4, 3) := by decide +kernel
theorem de_PL_isSide_13 : decode cd_PL_isSide 13 = .ok (.iconst 0, 1) := by decide +kernel
theorem de_PL_isSide_14 : decode cd_PL_isSide 14 = .ok (.ireturn, 1) := by decide +kernel
def jb_PL_isSide_14 (N : Nat) (M : mv_M) (s0 : Int32) : Option (Int32 × mv_M) :=
  if s0 = 0 ∨ s0 = 1 then some (s0, M) else none
def jb_PL_isSide_9 (N : Nat) (M : mv_M) : Option (Int32 × mv_M) :=
  jb_PL_isSide_14 N M 1
def jb_PL_isSide_0 (N : Nat) (M : mv_M) (v0 : Int32) : Option (Int32 × mv_M) :=
  if v0 = 0 then (jb_PL_isSide_9 N M) else
  if v0 = 1 then (jb_PL_isSide_9 N M) else
  jb_PL_isSide_14 N M 0
def jf_PL_isSide (N : Nat) (M : mv_M) (v0 : Int32) : Option (Int32 × mv_M) := jb_PL_isSide_0 N M v0
set_option maxHeartbeats 4000000 in
set_option maxRecDepth 100000 in
theorem tb_PL_isSide_14 (l : Launch) (D : va_G) (E : Nat → ClassId) (B : Nat) (sa : (Nat → Nat) × Nat × (Nat → Int32)) (M0 M1 : mv_M) (r : Int32) (N : Nat) (M : mv_M) (s0 : Int32) (hJ : jb_PL_isSide_14 N M s0 = some (r, M1)) : mv_G (xg l D E B sa) kd_PL_isSide M0 M1 (some (.int r)) M 14 [] [.int s0] := by
  unfold jb_PL_isSide_14 at hJ
  exact mv_zret (pc := 14) rfl de_PL_isSide_14 hJ
set_option maxHeartbeats 4000000 in
set_option maxRecDepth 100000 in
theorem tb_PL_isSide_9 (l : Launch) (D : va_G) (E : Nat → ClassId) (B : Nat) (sa : (Nat → Nat) × Nat × (Nat → Int32)) (M0 M1 : mv_M) (r : Int32) (N : Nat) (M : mv_M) (hJ : jb_PL_isSide_9 N M = some (r, M1)) : mv_G (xg l D E B sa) kd_PL_isSide M0 M1 (some (.int r)) M 9 [] [] := by
  unfold jb_PL_isSide_9 at hJ
  refine mv_iconst (pc := 9) (v := 1) de_PL_isSide_9 (by decide) ?_
  refine mv_goto (pc := 10) (tgt := 14) de_PL_isSide_10 (by decide) ?_
  exact mv_sub [] rfl (tb_PL_isSide_14 l D E B sa M0 M1 r N M 1 hJ)
set_option maxHeartbeats 4000000 in
set_option maxRecDepth 100000 in
theorem tb_PL_isSide_0 (l : Launch) (D : va_G) (E : Nat → ClassId) (B : Nat) (sa : (Nat → Nat) × Nat × (Nat → Int32)) (M0 M1 : mv_M) (r : Int32) (N : Nat) (M : mv_M) (v0 : Int32) (hJ : jb_PL_isSide_0 N M v0 = some (r, M1)) : mv_G (xg l D E B sa) kd_PL_isSide M0 M1 (some (.int r)) M 0 [(0, .int v0)] [] := by
  unfold jb_PL_isSide_0 at hJ
  refine mv_iload_n (pc := 0) (i := 0) de_PL_isSide_0 rfl 0 rfl ?_
  refine mv_if_eq (pc := 1) (tgt := 9) de_PL_isSide_1 (by decide) hJ (fun hc1 h1 => ?_) (fun hc1 h1 => ?_)
  · exact mv_sub [] rfl (tb_PL_isSide_9 l D E B sa M0 M1 r N M h1)
  · refine mv_iload_n (pc := 4) (i := 0) de_PL_isSide_4 rfl 0 rfl ?_
    refine mv_iconst (pc := 5) (v := 1) de_PL_isSide_5 (by decide) ?_
    refine mv_icmp_ne (pc := 6) (tgt := 13) de_PL_isSide_6 (by decide) h1 (fun hc6 h6 => ?_) (fun hc6 h6 => ?_)
    · exact mv_sub [] rfl (tb_PL_isSide_9 l D E B sa M0 M1 r N M h6)
    · refine mv_iconst (pc := 13) (v := 0) de_PL_isSide_13 (by decide) ?_
      exact mv_sub [] rfl (tb_PL_isSide_14 l D E B sa M0 M1 r N M 0 h6)
theorem cm_PL_isSide (l : Launch) (D : va_G) (E : Nat → ClassId) (B : Nat) (sa : (Nat → Nat) × Nat × (Nat → Int32)) (N : Nat) (M : mv_M) (v0 : Int32) (r : Int32) (M1 : mv_M) (hJ : jf_PL_isSide N M v0 = some (r, M1)) : mv_Met (xg l D E B sa) yn_PL_isSide cd_PL_isSide 1 (some .boolean) 0 0 [.int v0] M (some (.int r)) M1 :=
  mv_enter (by decide) (Nat.le_of_ble_eq_true rfl) (mv_sub (lv := [(0, .int v0)]) [0] rfl (tb_PL_isSide_0 l D E B sa M M1 r N M v0 hJ))
/-! ===== PlainLearner$View.at(III)I ===== -/
abbrev kd_Vw_at : mv_Kd := (cd_Vw_at, 4, "PlainLearner$View", "at", (some .int), 0, 0)
theorem de_Vw_at_0 : decode cd_Vw_at 0 = .ok (.aload_n 0, 1) := by decide +kernel
theorem de_Vw_at_1 : decode cd_Vw_at 1 = .ok (.getfield 7, 3) := by decide +kernel
theorem de_Vw_at_4 : decode cd_Vw_at 4 = .ok (.iload_n 1, 1) := by decide +kernel
theorem de_Vw_at_5 : decode cd_Vw_at 5 = .ok (.aload_n 0, 1) := by decide +kernel
theorem de_Vw_at_6 : decode cd_Vw_at 6 = .ok (.getfield 13, 3) := by decide +kernel
theorem de_Vw_at_9 : decode cd_Vw_at 9 = .ok (.imul, 1) := by decide +kernel
theorem de_Vw_at_10 : decode cd_Vw_at 10 = .ok (.iadd, 1) := by decide +kernel
theorem de_Vw_at_11 : decode cd_Vw_at 11 = .ok (.iload_n 2, 1) := by decide +kernel
theorem de_Vw_at_12 : decode cd_Vw_at 12 = .ok (.aload_n 0, 1) := by decide +kernel
theorem de_Vw_at_13 : decode cd_Vw_at 13 = .ok (.getfield 16, 3) := by decide +kernel
theorem de_Vw_at_16 : decode cd_Vw_at 16 = .ok (.imul, 1) := by decide +kernel
theorem de_Vw_at_17 : decode cd_Vw_at 17 = .ok (.iadd, 1) := by decide +kernel
theorem de_Vw_at_18 : decode cd_Vw_at 18 = .ok (.iload_n 3, 1) := by decide +kernel
theorem de_Vw_at_19 : decode cd_Vw_at 19 = .ok (.aload_n 0, 1) := by decide +kernel
theorem de_Vw_at_20 : decode cd_Vw_at 20 = .ok (.getfield 19, 3) := by decide +kernel
theorem de_Vw_at_23 : decode cd_Vw_at 23 = .ok (.imul, 1) := by decide +kernel
theorem de_Vw_at_24 : decode cd_Vw_at 24 = .ok (.iadd, 1) := by decide +kernel
theorem de_Vw_at_25 : decode cd_Vw_at 25 = .ok (.ireturn, 1) := by decide +kernel
def jb_Vw_at_0 (N : Nat) (M : mv_M) (v0 : Nat) (v1 : Int32) (v2 : Int32) (v3 : Int32) : Option (Int32 × mv_M) :=
  Option.bind (mj_getI M v0 9 0) fun x1 =>
  Option.bind (mj_getI M v0 9 1) fun x6 =>
  Option.bind (mj_getI M v0 9 2) fun x13 =>
  Option.bind (mj_getI M v0 9 3) fun x20 =>
  some ((((x1 + (v1 * x6)) + (v2 * x13)) + (v3 * x20)), M)
def jf_Vw_at (N : Nat) (M : mv_M) (v0 : Nat) (v1 : Int32) (v2 : Int32) (v3 : Int32) : Option (Int32 × mv_M) := jb_Vw_at_0 N M v0 v1 v2 v3
set_option maxHeartbeats 4000000 in
set_option maxRecDepth 100000 in
theorem tb_Vw_at_0 (l : Launch) (D : va_G) (E : Nat → ClassId) (B : Nat) (sa : (Nat → Nat) × Nat × (Nat → Int32)) (M0 M1 : mv_M) (r : Int32) (N : Nat) (M : mv_M) (v0 : Nat) (v1 : Int32) (v2 : Int32) (v3 : Int32) (hJ : jb_Vw_at_0 N M v0 v1 v2 v3 = some (r, M1)) : mv_G (xg l D E B sa) kd_Vw_at M0 M1 (some (.int r)) M 0 [(0, va_rf (some v0)), (1, .int v1), (2, .int v2), (3, .int v3)] [] := by
  unfold jb_Vw_at_0 at hJ
  refine mv_aload_n (pc := 0) (i := 0) de_Vw_at_0 rfl 0 rfl ?_
  refine mv_getI (pc := 1) (f := 0) (kc_9 l D E B sa) (Nat.le_of_ble_eq_true rfl) wt_2_115 de_Vw_at_1 hJ (fun x1 e1 h1 => ?_)
  refine mv_iload_n (pc := 4) (i := 1) de_Vw_at_4 rfl 1 rfl ?_
  refine mv_aload_n (pc := 5) (i := 0) de_Vw_at_5 rfl 0 rfl ?_
  refine mv_getI (pc := 6) (f := 1) (kc_9 l D E B sa) (Nat.le_of_ble_eq_true rfl) wt_2_116 de_Vw_at_6 h1 (fun x6 e6 h6 => ?_)
  refine mv_imul (pc := 9) de_Vw_at_9 ?_
  refine mv_iadd (pc := 10) de_Vw_at_10 ?_
  refine mv_iload_n (pc := 11) (i := 2) de_Vw_at_11 rfl 2 rfl ?_
  refine mv_aload_n (pc := 12) (i := 0) de_Vw_at_12 rfl 0 rfl ?_
  refine mv_getI (pc := 13) (f := 2) (kc_9 l D E B sa) (Nat.le_of_ble_eq_true rfl) wt_2_117 de_Vw_at_13 h6 (fun x13 e13 h13 => ?_)
  refine mv_imul (pc := 16) de_Vw_at_16 ?_
  refine mv_iadd (pc := 17) de_Vw_at_17 ?_
  refine mv_iload_n (pc := 18) (i := 3) de_Vw_at_18 rfl 3 rfl ?_
  refine mv_aload_n (pc := 19) (i := 0) de_Vw_at_19 rfl 0 rfl ?_
  refine mv_getI (pc := 20) (f := 3) (kc_9 l D E B sa) (Nat.le_of_ble_eq_true rfl) wt_2_118 de_Vw_at_20 h13 (fun x20 e20 h20 => ?_)
  refine mv_imul (pc := 23) de_Vw_at_23 ?_
  refine mv_iadd (pc := 24) de_Vw_at_24 ?_
  exact mv_iret (pc := 25) rfl de_Vw_at_25 h20
theorem cm_Vw_at (l : Launch) (D : va_G) (E : Nat → ClassId) (B : Nat) (sa : (Nat → Nat) × Nat × (Nat → Int32)) (N : Nat) (M : mv_M) (v0 : Nat) (v1 : Int32) (v2 : Int32) (v3 : Int32) (r : Int32) (M1 : mv_M) (hJ : jf_Vw_at N M v0 v1 v2 v3 = some (r, M1)) : mv_Met (xg l D E B sa) yn_Vw_at cd_Vw_at 4 (some .int) 0 0 [va_rf (some v0), .int v1, .int v2, .int v3] M (some (.int r)) M1 :=
  mv_enter (by decide) (Nat.le_of_ble_eq_true rfl) (mv_sub (lv := [(0, va_rf (some v0)), (1, .int v1), (2, .int v2), (3, .int v3)]) [0, 1, 2, 3] rfl (tb_Vw_at_0 l D E B sa M M1 r N M v0 v1 v2 v3 hJ))
/-! ===== PlainLearner$Fractions.topOf(J)J ===== -/
abbrev kd_Fr_topOf : mv_Kd := (cd_Fr_topOf, 2, "PlainLearner$Fractions", "topOf", (some .long), 0, 0)
theorem de_Fr_topOf_0 : decode cd_Fr_topOf 0 = .ok (.lload_n 0, 1) := by decide +kernel
theorem de_Fr_topOf_1 : decode cd_Fr_topOf 1 = .ok (.bipush 32, 2) := by decide +kernel
theorem de_Fr_topOf_3 : decode cd_Fr_topOf 3 = .ok (.lshr, 1) := by decide +kernel
theorem de_Fr_topOf_4 : decode cd_Fr_topOf 4 = .ok (.lreturn, 1) := by decide +kernel
def jb_Fr_topOf_0 (N : Nat) (M : mv_M) (v0 : Int64) : Option (Int64 × mv_M) :=
  some ((v0 >>> ((32 : Int32).toInt64 &&& 63)), M)
def jf_Fr_topOf (N : Nat) (M : mv_M) (v0 : Int64) : Option (Int64 × mv_M) := jb_Fr_topOf_0 N M v0
set_option maxHeartbeats 4000000 in
set_option maxRecDepth 100000 in
theorem tb_Fr_topOf_0 (l : Launch) (D : va_G) (E : Nat → ClassId) (B : Nat) (sa : (Nat → Nat) × Nat × (Nat → Int32)) (M0 M1 : mv_M) (r : Int64) (N : Nat) (M : mv_M) (v0 : Int64) (hJ : jb_Fr_topOf_0 N M v0 = some (r, M1)) : mv_G (xg l D E B sa) kd_Fr_topOf M0 M1 (some (.long r)) M 0 [(0, .long v0)] [] := by
  unfold jb_Fr_topOf_0 at hJ
  refine mv_lload_n (pc := 0) (i := 0) de_Fr_topOf_0 rfl 0 rfl ?_
  refine mv_bipush (pc := 1) (v := 32) de_Fr_topOf_1 (by decide) ?_
  refine mv_lshr (pc := 3) de_Fr_topOf_3 ?_
  exact mv_lret (pc := 4) rfl de_Fr_topOf_4 hJ
theorem cm_Fr_topOf (l : Launch) (D : va_G) (E : Nat → ClassId) (B : Nat) (sa : (Nat → Nat) × Nat × (Nat → Int32)) (N : Nat) (M : mv_M) (v0 : Int64) (r : Int64) (M1 : mv_M) (hJ : jf_Fr_topOf N M v0 = some (r, M1)) : mv_Met (xg l D E B sa) yn_Fr_topOf cd_Fr_topOf 2 (some .long) 0 0 [.long v0] M (some (.long r)) M1 :=
  mv_enter (by decide) (Nat.le_of_ble_eq_true rfl) (mv_sub (lv := [(0, .long v0)]) [0] rfl (tb_Fr_topOf_0 l D E B sa M M1 r N M v0 hJ))
/-! ===== PlainLearner$Fractions.bottomOf(J)J ===== -/
abbrev kd_Fr_bottomOf : mv_Kd := (cd_Fr_bottomOf, 2, "PlainLearner$Fractions", "bottomOf", (some .long), 0, 0)
theorem de_Fr_bottomOf_0 : decode cd_Fr_bottomOf 0 = .ok (.lload_n 0, 1) := by decide +kernel
theorem de_Fr_bottomOf_1 : decode cd_Fr_bottomOf 1 = .ok (.ldc2_w 9, 3) := by decide +kernel
theorem de_Fr_bottomOf_4 : decode cd_Fr_bottomOf 4 = .ok (.land, 1) := by decide +kernel
theorem de_Fr_bottomOf_5 : decode cd_Fr_bottomOf 5 = .ok (.lreturn, 1) := by decide +kernel
def jb_Fr_bottomOf_0 (N : Nat) (M : mv_M) (v0 : Int64) : Option (Int64 × mv_M) :=
  some ((v0 &&& 2147483647), M)
def jf_Fr_bottomOf (N : Nat) (M : mv_M) (v0 : Int64) : Option (Int64 × mv_M) := jb_Fr_bottomOf_0 N M v0
set_option maxHeartbeats 4000000 in
set_option maxRecDepth 100000 in
theorem tb_Fr_bottomOf_0 (l : Launch) (D : va_G) (E : Nat → ClassId) (B : Nat) (sa : (Nat → Nat) × Nat × (Nat → Int32)) (M0 M1 : mv_M) (r : Int64) (N : Nat) (M : mv_M) (v0 : Int64) (hJ : jb_Fr_bottomOf_0 N M v0 = some (r, M1)) : mv_G (xg l D E B sa) kd_Fr_bottomOf M0 M1 (some (.long r)) M 0 [(0, .long v0)] [] := by
  unfold jb_Fr_bottomOf_0 at hJ
  refine mv_lload_n (pc := 0) (i := 0) de_Fr_bottomOf_0 rfl 0 rfl ?_
  refine mv_ldc2 (pc := 1) de_Fr_bottomOf_1 wt_1_43 ?_
  refine mv_land (pc := 4) de_Fr_bottomOf_4 ?_
  exact mv_lret (pc := 5) rfl de_Fr_bottomOf_5 hJ
theorem cm_Fr_bottomOf (l : Launch) (D : va_G) (E : Nat → ClassId) (B : Nat) (sa : (Nat → Nat) × Nat × (Nat → Int32)) (N : Nat) (M : mv_M) (v0 : Int64) (r : Int64) (M1 : mv_M) (hJ : jf_Fr_bottomOf N M v0 = some (r, M1)) : mv_Met (xg l D E B sa) yn_Fr_bottomOf cd_Fr_bottomOf 2 (some .long) 0 0 [.long v0] M (some (.long r)) M1 :=
  mv_enter (by decide) (Nat.le_of_ble_eq_true rfl) (mv_sub (lv := [(0, .long v0)]) [0] rfl (tb_Fr_bottomOf_0 l D E B sa M M1 r N M v0 hJ))
/-! ===== java/lang/Long.compare(JJ)I ===== -/
abbrev kd_Jl_compare : mv_Kd := (cd_Jl_compare, 4, "java/lang/Long", "compare", (some .int), 0, 0)
theorem de_Jl_compare_0 : decode cd_Jl_compare 0 = .ok (.lload_n 0, 1) := by decide +kernel
theorem de_Jl_compare_1 : decode cd_Jl_compare 1 = .ok (.lload_n 2, 1) := by decide +kernel
theorem de_Jl_compare_2 : decode cd_Jl_compare 2 = .ok (.lcmp, 1) := by decide +kernel
theorem de_Jl_compare_3 : decode cd_Jl_compare 3 = .ok (.ifCond .ge 7, 3) := by decide +kernel
theorem de_Jl_compare_6 : decode cd_Jl_compare 6 = .ok (.iconst (-1), 1) := by decide +kernel
theorem de_Jl_compare_7 : decode cd_Jl_compare 7 = .ok (.goto 14, 3) := by decide +kernel
theorem de_Jl_compare_10 : decode cd_Jl_compare 10 = .ok (.lload_n 0, 1) := by decide +kernel
theorem de_Jl_compare_11 : decode cd_Jl_compare 11 = .ok (.lload_n 2, 1) := by decide +kernel
theorem de_Jl_compare_12 : decode cd_Jl_compare 12 = .ok (.lcmp, 1) := by decide +kernel
theorem de_Jl_compare_13 : decode cd_Jl_compare 13 = .ok (.ifCond .ne 7, 3) := by decide +kernel
theorem de_Jl_compare_16 : decode cd_Jl_compare 16 = .ok (.iconst 0, 1) := by decide +kernel
theorem de_Jl_compare_17 : decode cd_Jl_compare 17 = .ok (.goto 4, 3) := by decide +kernel
theorem de_Jl_compare_20 : decode cd_Jl_compare 20 = .ok (.iconst 1, 1) := by decide +kernel
theorem de_Jl_compare_21 : decode cd_Jl_compare 21 = .ok (.ireturn, 1) := by decide +kernel
def jb_Jl_compare_21 (N : Nat) (M : mv_M) (s0 : Int32) : Option (Int32 × mv_M) :=
  some (s0, M)
def jb_Jl_compare_0 (N : Nat) (M : mv_M) (v0 : Int64) (v2 : Int64) : Option (Int32 × mv_M) :=
  if 0 ≤ (lg_cmp v0 v2) then (if (lg_cmp v0 v2) = 0 then (jb_Jl_compare_21 N M 0) else
  jb_Jl_compare_21 N M 1) else
  jb_Jl_compare_21 N M (-1)
def jf_Jl_compare (N : Nat) (M : mv_M) (v0 : Int64) (v2 : Int64) : Option (Int32 × mv_M) := jb_Jl_compare_0 N M v0 v2
set_option maxHeartbeats 4000000 in
set_option maxRecDepth 100000 in
theorem tb_Jl_compare_21 (l : Launch) (D : va_G) (E : Nat → ClassId) (B : Nat) (sa : (Nat → Nat) × Nat × (Nat → Int32)) (M0 M1 : mv_M) (r : Int32) (N : Nat) (M : mv_M) (s0 : Int32) (hJ : jb_Jl_compare_21 N M s0 = some (r, M1)) : mv_G (xg l D E B sa) kd_Jl_compare M0 M1 (some (.int r)) M 21 [] [.int s0] := by
  unfold jb_Jl_compare_21 at hJ
  exact mv_iret (pc := 21) rfl de_Jl_compare_21 hJ
set_option maxHeartbeats 4000000 in
set_option maxRecDepth 100000 in
theorem tb_Jl_compare_0 (l : Launch) (D : va_G) (E : Nat → ClassId) (B : Nat) (sa : (Nat → Nat) × Nat × (Nat → Int32)) (M0 M1 : mv_M) (r : Int32) (N : Nat) (M : mv_M) (v0 : Int64) (v2 : Int64) (hJ : jb_Jl_compare_0 N M v0 v2 = some (r, M1)) : mv_G (xg l D E B sa) kd_Jl_compare M0 M1 (some (.int r)) M 0 [(0, .long v0), (2, .long v2)] [] := by
  unfold jb_Jl_compare_0 at hJ
  refine mv_lload_n (pc := 0) (i := 0) de_Jl_compare_0 rfl 0 rfl ?_
  refine mv_lload_n (pc := 1) (i := 2) de_Jl_compare_1 rfl 1 rfl ?_
  refine mv_lcmp (pc := 2) de_Jl_compare_2 ?_
  refine mv_if_ge (pc := 3) (tgt := 10) de_Jl_compare_3 (by decide) hJ (fun hc3 h3 => ?_) (fun hc3 h3 => ?_)
  · refine mv_lload_n (pc := 10) (i := 0) de_Jl_compare_10 rfl 0 rfl ?_
    refine mv_lload_n (pc := 11) (i := 2) de_Jl_compare_11 rfl 1 rfl ?_
    refine mv_lcmp (pc := 12) de_Jl_compare_12 ?_
    refine mv_if_ne (pc := 13) (tgt := 20) de_Jl_compare_13 (by decide) h3 (fun hc13 h13 => ?_) (fun hc13 h13 => ?_)
    · refine mv_iconst (pc := 16) (v := 0) de_Jl_compare_16 (by decide) ?_
      refine mv_goto (pc := 17) (tgt := 21) de_Jl_compare_17 (by decide) ?_
      exact mv_sub [] rfl (tb_Jl_compare_21 l D E B sa M0 M1 r N M 0 h13)
    · refine mv_iconst (pc := 20) (v := 1) de_Jl_compare_20 (by decide) ?_
      exact mv_sub [] rfl (tb_Jl_compare_21 l D E B sa M0 M1 r N M 1 h13)
  · refine mv_iconst (pc := 6) (v := (-1)) de_Jl_compare_6 (by decide) ?_
    refine mv_goto (pc := 7) (tgt := 21) de_Jl_compare_7 (by decide) ?_
    exact mv_sub [] rfl (tb_Jl_compare_21 l D E B sa M0 M1 r N M (-1) h3)
theorem cm_Jl_compare (l : Launch) (D : va_G) (E : Nat → ClassId) (B : Nat) (sa : (Nat → Nat) × Nat × (Nat → Int32)) (N : Nat) (M : mv_M) (v0 : Int64) (v2 : Int64) (r : Int32) (M1 : mv_M) (hJ : jf_Jl_compare N M v0 v2 = some (r, M1)) : mv_Met (xg l D E B sa) yn_Jl_compare cd_Jl_compare 4 (some .int) 0 0 [.long v0, .long v2] M (some (.int r)) M1 :=
  mv_enter (by decide) (Nat.le_of_ble_eq_true rfl) (mv_sub (lv := [(0, .long v0), (2, .long v2)]) [0, 1] rfl (tb_Jl_compare_0 l D E B sa M M1 r N M v0 v2 hJ))
/-! ===== PlainLearner$Fractions.compare(JJ)I ===== -/
abbrev kd_Fr_compare : mv_Kd := (cd_Fr_compare, 4, "PlainLearner$Fractions", "compare", (some .int), 1, 23)
theorem de_Fr_compare_0 : decode cd_Fr_compare 0 = .ok (.lload_n 0, 1) := by decide +kernel
theorem de_Fr_compare_1 : decode cd_Fr_compare 1 = .ok (.invokestatic 11, 3) := by decide +kernel
theorem de_Fr_compare_4 : decode cd_Fr_compare 4 = .ok (.lload_n 2, 1) := by decide +kernel
theorem de_Fr_compare_5 : decode cd_Fr_compare 5 = .ok (.invokestatic 15, 3) := by decide +kernel
theorem de_Fr_compare_8 : decode cd_Fr_compare 8 = .ok (.lmul, 1) := by decide +kernel
theorem de_Fr_compare_9 : decode cd_Fr_compare 9 = .ok (.lload_n 2, 1) := by decide +kernel
theorem de_Fr_compare_10 : decode cd_Fr_compare 10 = .ok (.invokestatic 11, 3) := by decide +kernel
theorem de_Fr_compare_13 : decode cd_Fr_compare 13 = .ok (.lload_n 0, 1) := by decide +kernel
theorem de_Fr_compare_14 : decode cd_Fr_compare 14 = .ok (.invokestatic 15, 3) := by decide +kernel
theorem de_Fr_compare_17 : decode cd_Fr_compare 17 = .ok (.lmul, 1) := by decide +kernel
theorem de_Fr_compare_18 : decode cd_Fr_compare 18 = .ok (.invokestatic 27, 3) := by decide +kernel
theorem de_Fr_compare_21 : decode cd_Fr_compare 21 = .ok (.ireturn, 1) := by decide +kernel
def jb_Fr_compare_0 (N : Nat) (M : mv_M) (v0 : Int64) (v2 : Int64) : Option (Int32 × mv_M) :=
  mj_call (jf_Fr_topOf N M v0) fun r1 Mm1 =>
  mj_call (jf_Fr_bottomOf N Mm1 v2) fun r5 Mm5 =>
  mj_call (jf_Fr_topOf N Mm5 v2) fun r10 Mm10 =>
  mj_call (jf_Fr_bottomOf N Mm10 v0) fun r14 Mm14 =>
  mj_call (jf_Jl_compare N Mm14 (r1 * r5) (r10 * r14)) fun r18 Mm18 =>
  some (r18, Mm18)
def jf_Fr_compare (N : Nat) (M : mv_M) (v0 : Int64) (v2 : Int64) : Option (Int32 × mv_M) := jb_Fr_compare_0 N M v0 v2
set_option maxHeartbeats 4000000 in
set_option maxRecDepth 100000 in
theorem tb_Fr_compare_0 (l : Launch) (D : va_G) (E : Nat → ClassId) (B : Nat) (sa : (Nat → Nat) × Nat × (Nat → Int32)) (M0 M1 : mv_M) (r : Int32) (N : Nat) (M : mv_M) (v0 : Int64) (v2 : Int64) (hJ : jb_Fr_compare_0 N M v0 v2 = some (r, M1)) : mv_G (xg l D E B sa) kd_Fr_compare M0 M1 (some (.int r)) M 0 [(0, .long v0), (2, .long v2)] [] := by
  unfold jb_Fr_compare_0 at hJ
  refine mv_lload_n (pc := 0) (i := 0) de_Fr_compare_0 rfl 0 rfl ?_
  obtain ⟨r1, Mm1, hz1, h1⟩ := mj_callE hJ
  refine mv_callS (pc := 1) (n := 1) (av := [.long v0]) (rest := []) de_Fr_compare_1 (cm_Fr_topOf l D E B sa N M v0 _ _ hz1) wt_2_192 wt_2_193 wt_1_3 wt_2_194 ⟨by decide, by decide, by decide +kernel⟩ rfl ⟨Nat.le_of_ble_eq_true rfl, Nat.le_of_ble_eq_true rfl⟩ (Nat.le_of_ble_eq_true rfl) rfl ?_
  refine mv_lload_n (pc := 4) (i := 2) de_Fr_compare_4 rfl 1 rfl ?_
  obtain ⟨r5, Mm5, hz5, h5⟩ := mj_callE h1
  refine mv_callS (pc := 5) (n := 1) (av := [.long v2]) (rest := [.long r1]) de_Fr_compare_5 (cm_Fr_bottomOf l D E B sa N Mm1 v2 _ _ hz5) wt_2_195 wt_2_196 wt_1_3 wt_2_197 ⟨by decide, by decide, by decide +kernel⟩ rfl ⟨Nat.le_of_ble_eq_true rfl, Nat.le_of_ble_eq_true rfl⟩ (Nat.le_of_ble_eq_true rfl) rfl ?_
  refine mv_lmul (pc := 8) de_Fr_compare_8 ?_
  refine mv_lload_n (pc := 9) (i := 2) de_Fr_compare_9 rfl 1 rfl ?_
  obtain ⟨r10, Mm10, hz10, h10⟩ := mj_callE h5
  refine mv_callS (pc := 10) (n := 1) (av := [.long v2]) (rest := [.long (r1 * r5)]) de_Fr_compare_10 (cm_Fr_topOf l D E B sa N Mm5 v2 _ _ hz10) wt_2_192 wt_2_193 wt_1_3 wt_2_194 ⟨by decide, by decide, by decide +kernel⟩ rfl ⟨Nat.le_of_ble_eq_true rfl, Nat.le_of_ble_eq_true rfl⟩ (Nat.le_of_ble_eq_true rfl) rfl ?_
  refine mv_lload_n (pc := 13) (i := 0) de_Fr_compare_13 rfl 0 rfl ?_
  obtain ⟨r14, Mm14, hz14, h14⟩ := mj_callE h10
  refine mv_callS (pc := 14) (n := 1) (av := [.long v0]) (rest := [.long r10, .long (r1 * r5)]) de_Fr_compare_14 (cm_Fr_bottomOf l D E B sa N Mm10 v0 _ _ hz14) wt_2_195 wt_2_196 wt_1_3 wt_2_197 ⟨by decide, by decide, by decide +kernel⟩ rfl ⟨Nat.le_of_ble_eq_true rfl, Nat.le_of_ble_eq_true rfl⟩ (Nat.le_of_ble_eq_true rfl) rfl ?_
  refine mv_lmul (pc := 17) de_Fr_compare_17 ?_
  obtain ⟨r18, Mm18, hz18, h18⟩ := mj_callE h14
  refine mv_callS (pc := 18) (n := 2) (av := [.long (r1 * r5), .long (r10 * r14)]) (rest := []) de_Fr_compare_18 (cm_Jl_compare l D E B sa N Mm14 (r1 * r5) (r10 * r14) _ _ hz18) wt_2_198 wt_2_199 wt_1_15 wt_2_200 ⟨by decide, by decide, by decide +kernel⟩ rfl ⟨Nat.le_of_ble_eq_true rfl, Nat.le_of_ble_eq_true rfl⟩ (Nat.le_of_ble_eq_true rfl) rfl ?_
  exact mv_iret (pc := 21) rfl de_Fr_compare_21 h18
theorem cm_Fr_compare (l : Launch) (D : va_G) (E : Nat → ClassId) (B : Nat) (sa : (Nat → Nat) × Nat × (Nat → Int32)) (N : Nat) (M : mv_M) (v0 : Int64) (v2 : Int64) (r : Int32) (M1 : mv_M) (hJ : jf_Fr_compare N M v0 v2 = some (r, M1)) : mv_Met (xg l D E B sa) yn_Fr_compare cd_Fr_compare 4 (some .int) 1 23 [.long v0, .long v2] M (some (.int r)) M1 :=
  mv_enter (by decide) (Nat.le_of_ble_eq_true rfl) (mv_sub (lv := [(0, .long v0), (2, .long v2)]) [0, 1] rfl (tb_Fr_compare_0 l D E B sa M M1 r N M v0 v2 hJ))
/-! ===== PlainLearner$Node.greatestOfRow(I)I ===== -/
abbrev kd_No_greatestOfRow : mv_Kd := (cd_No_greatestOfRow, 5, "PlainLearner$Node", "greatestOfRow", (some .int), 2, 46)
theorem de_No_greatestOfRow_0 : decode cd_No_greatestOfRow 0 = .ok (.iload_n 1, 1) := by decide +kernel
theorem de_No_greatestOfRow_1 : decode cd_No_greatestOfRow 1 = .ok (.istore_n 2, 1) := by decide +kernel
theorem de_No_greatestOfRow_2 : decode cd_No_greatestOfRow 2 = .ok (.iconst 0, 1) := by decide +kernel
theorem de_No_greatestOfRow_3 : decode cd_No_greatestOfRow 3 = .ok (.istore_n 3, 1) := by decide +kernel
theorem de_No_greatestOfRow_4 : decode cd_No_greatestOfRow 4 = .ok (.iload_n 3, 1) := by decide +kernel
theorem de_No_greatestOfRow_5 : decode cd_No_greatestOfRow 5 = .ok (.aload_n 0, 1) := by decide +kernel
theorem de_No_greatestOfRow_6 : decode cd_No_greatestOfRow 6 = .ok (.getfield 39, 3) := by decide +kernel
theorem de_No_greatestOfRow_9 : decode cd_No_greatestOfRow 9 = .ok (.if_icmp .ge 67, 3) := by decide +kernel
theorem de_No_greatestOfRow_12 : decode cd_No_greatestOfRow 12 = .ok (.iload_n 1, 1) := by decide +kernel
theorem de_No_greatestOfRow_13 : decode cd_No_greatestOfRow 13 = .ok (.iload_n 3, 1) := by decide +kernel
theorem de_No_greatestOfRow_14 : decode cd_No_greatestOfRow 14 = .ok (.aload_n 0, 1) := by decide +kernel
theorem de_No_greatestOfRow_15 : decode cd_No_greatestOfRow 15 = .ok (.getfield 32, 3) := by decide +kernel
theorem de_No_greatestOfRow_18 : decode cd_No_greatestOfRow 18 = .ok (.getfield 138, 3) := by decide +kernel
theorem de_No_greatestOfRow_21 : decode cd_No_greatestOfRow 21 = .ok (.imul, 1) := by decide +kernel
theorem de_No_greatestOfRow_22 : decode cd_No_greatestOfRow 22 = .ok (.iadd, 1) := by decide +kernel
theorem de_No_greatestOfRow_23 : decode cd_No_greatestOfRow 23 = .ok (.istore 4, 2) := by decide +kernel
theorem de_No_greatestOfRow_25 : decode cd_No_greatestOfRow 25 = .ok (.aload_n 0, 1) := by decide +kernel
theorem de_No_greatestOfRow_26 : decode cd_No_greatestOfRow 26 = .ok (.getfield 25, 3) := by decide +kernel
theorem de_No_greatestOfRow_29 : decode cd_No_greatestOfRow 29 = .ok (.getfield 47, 3) := by decide +kernel
theorem de_No_greatestOfRow_32 : decode cd_No_greatestOfRow 32 = .ok (.iload 4, 2) := by decide +kernel
theorem de_No_greatestOfRow_34 : decode cd_No_greatestOfRow 34 = .ok (.laload, 1) := by decide +kernel
theorem de_No_greatestOfRow_35 : decode cd_No_greatestOfRow 35 = .ok (.lconst 0, 1) := by decide +kernel
theorem de_No_greatestOfRow_36 : decode cd_No_greatestOfRow 36 = .ok (.lcmp, 1) := by decide +kernel
theorem de_No_greatestOfRow_37 : decode cd_No_greatestOfRow 37 = .ok (.ifCond .ne 5, 3) := by decide +kernel
theorem de_No_greatestOfRow_40 : decode cd_No_greatestOfRow 40 = .ok (.iconst (-1), 1) := by decide +kernel
theorem de_No_greatestOfRow_41 : decode cd_No_greatestOfRow 41 = .ok (.ireturn, 1) := by decide +kernel
theorem de_No_greatestOfRow_42 : decode cd_No_greatestOfRow 42 = .ok (.aload_n 0, 1) := by decide +kernel
theorem de_No_greatestOfRow_43 : decode cd_No_greatestOfRow 43 = .ok (.getfield 25, 3) := by decide +kernel
theorem de_No_greatestOfRow_46 : decode cd_No_greatestOfRow 46 = .ok (.getfield 47, 3) := by decide +kernel
theorem de_No_greatestOfRow_49 : decode cd_No_greatestOfRow 49 = .ok (.iload 4, 2) := by decide +kernel
theorem de_No_greatestOfRow_51 : decode cd_No_greatestOfRow 51 = .ok (.laload, 1) := by decide +kernel
theorem de_No_greatestOfRow_52 : decode cd_No_greatestOfRow 52 = .ok (.aload_n 0, 1) := by decide +kernel
theorem de_No_greatestOfRow_53 : decode cd_No_greatestOfRow 53 = .ok (.getfield 25, 3) := by decide +kernel
theorem de_No_greatestOfRow_56 : decode cd_No_greatestOfRow 56 = .ok (.getfield 47, 3) := by decide +kernel
theorem de_No_greatestOfRow_59 : decode cd_No_greatestOfRow 59 = .ok (.iload_n 2, 1) := by decide +kernel
theorem de_No_greatestOfRow_60 : decode cd_No_greatestOfRow 60 = .ok (.laload, 1) := by decide +kernel
theorem de_No_greatestOfRow_61 : decode cd_No_greatestOfRow 61 = .ok (.invokestatic 141, 3) := by decide +kernel
theorem de_No_greatestOfRow_64 : decode cd_No_greatestOfRow 64 = .ok (.ifCond .le 6, 3) := by decide +kernel
theorem de_No_greatestOfRow_67 : decode cd_No_greatestOfRow 67 = .ok (.iload 4, 2) := by decide +kernel
theorem de_No_greatestOfRow_69 : decode cd_No_greatestOfRow 69 = .ok (.istore_n 2, 1) := by decide +kernel
theorem de_No_greatestOfRow_70 : decode cd_No_greatestOfRow 70 = .ok (.iinc 3 1, 3) := by decide +kernel
theorem de_No_greatestOfRow_73 : decode cd_No_greatestOfRow 73 = .ok (.goto (-69), 3) := by decide +kernel
theorem de_No_greatestOfRow_76 : decode cd_No_greatestOfRow 76 = .ok (.iload_n 2, 1) := by decide +kernel
theorem de_No_greatestOfRow_77 : decode cd_No_greatestOfRow 77 = .ok (.ireturn, 1) := by decide +kernel
def jb_No_greatestOfRow_70 (N : Nat) (k4 : mv_M → Nat → Int32 → Int32 → Int32 → Option (Int32 × mv_M)) (M : mv_M) (v0 : Nat) (v1 : Int32) (v2 : Int32) (v3 : Int32) : Option (Int32 × mv_M) :=
  k4 M v0 v1 v2 (v3 + 1)
def jb_No_greatestOfRow_4 (N : Nat) : Nat → mv_M → Nat → Int32 → Int32 → Int32 → Option (Int32 × mv_M)
  | 0, _, _, _, _, _ => none
  | n + 1, M, v0, v1, v2, v3 =>
    Option.bind (mj_getI M v0 2 8) fun x6 =>
    if x6 ≤ v3 then (some (v2, M)) else
    Option.bind (mj_getR M v0 2 6) fun x15 =>
    Option.bind x15 fun a18 =>
    Option.bind (mj_getI M a18 9 4) fun x18 =>
    Option.bind (mj_getR M v0 2 4) fun x26 =>
    Option.bind x26 fun a29 =>
    Option.bind (mj_getR M a29 2 9) fun x29 =>
    Option.bind x29 fun a34 =>
    Option.bind (mj_lld M a34 1 (v1 + (v3 * x18))) fun x34 =>
    if (lg_cmp x34 0) = 0 then (some ((-1), M)) else
    Option.bind (mj_getR M v0 2 4) fun x43 =>
    Option.bind x43 fun a46 =>
    Option.bind (mj_getR M a46 2 9) fun x46 =>
    Option.bind x46 fun a51 =>
    Option.bind (mj_lld M a51 1 (v1 + (v3 * x18))) fun x51 =>
    Option.bind (mj_getR M v0 2 4) fun x53 =>
    Option.bind x53 fun a56 =>
    Option.bind (mj_getR M a56 2 9) fun x56 =>
    Option.bind x56 fun a60 =>
    Option.bind (mj_lld M a60 1 v2) fun x60 =>
    mj_call (jf_Fr_compare N M x51 x60) fun r61 Mm61 =>
    if r61 ≤ 0 then (jb_No_greatestOfRow_70 N (jb_No_greatestOfRow_4 N n) Mm61 v0 v1 v2 v3) else
    jb_No_greatestOfRow_70 N (jb_No_greatestOfRow_4 N n) Mm61 v0 v1 (v1 + (v3 * x18)) v3
def jb_No_greatestOfRow_0 (N : Nat) (M : mv_M) (v0 : Nat) (v1 : Int32) : Option (Int32 × mv_M) :=
  jb_No_greatestOfRow_4 N N M v0 v1 v1 0
def jf_No_greatestOfRow (N : Nat) (M : mv_M) (v0 : Nat) (v1 : Int32) : Option (Int32 × mv_M) := jb_No_greatestOfRow_0 N M v0 v1
set_option maxHeartbeats 4000000 in
set_option maxRecDepth 100000 in
theorem tb_No_greatestOfRow_70 (l : Launch) (D : va_G) (E : Nat → ClassId) (B : Nat) (sa : (Nat → Nat) × Nat × (Nat → Int32)) (M0 M1 : mv_M) (r : Int32) (N : Nat) (k4 : mv_M → Nat → Int32 → Int32 → Int32 → Option (Int32 × mv_M)) (hk4 : ∀ (M : mv_M) (v0 : Nat) (v1 : Int32) (v2 : Int32) (v3 : Int32), k4 M v0 v1 v2 v3 = some (r, M1) → mv_G (xg l D E B sa) kd_No_greatestOfRow M0 M1 (some (.int r)) M 4 [(0, va_rf (some v0)), (1, .int v1), (2, .int v2), (3, .int v3)] []) (M : mv_M) (v0 : Nat) (v1 : Int32) (v2 : Int32) (v3 : Int32) (hJ : jb_No_greatestOfRow_70 N k4 M v0 v1 v2 v3 = some (r, M1)) : mv_G (xg l D E B sa) kd_No_greatestOfRow M0 M1 (some (.int r)) M 70 [(0, va_rf (some v0)), (1, .int v1), (2, .int v2), (3, .int v3)] [] := by
  unfold jb_No_greatestOfRow_70 at hJ
  refine mv_iinc (pc := 70) (v := (v3 + 1)) (lv' := [(3, .int (v3 + 1)), (0, va_rf (some v0)), (1, .int v1), (2, .int v2)]) de_No_greatestOfRow_70 3 rfl rfl (Nat.le_of_ble_eq_true rfl) rfl ?_
  refine mv_goto (pc := 73) (tgt := 4) de_No_greatestOfRow_73 (by decide) ?_
  exact mv_sub [1, 2, 3, 0] rfl (hk4 M v0 v1 v2 (v3 + 1) hJ)
set_option maxHeartbeats 4000000 in
set_option maxRecDepth 100000 in
theorem tb_No_greatestOfRow_4 (l : Launch) (D : va_G) (E : Nat → ClassId) (B : Nat) (sa : (Nat → Nat) × Nat × (Nat → Int32)) (M0 M1 : mv_M) (r : Int32) (N : Nat) : ∀ (n : Nat) (M : mv_M) (v0 : Nat) (v1 : Int32) (v2 : Int32) (v3 : Int32) (hJ : jb_No_greatestOfRow_4 N n M v0 v1 v2 v3 = some (r, M1)), mv_G (xg l D E B sa) kd_No_greatestOfRow M0 M1 (some (.int r)) M 4 [(0, va_rf (some v0)), (1, .int v1), (2, .int v2), (3, .int v3)] [] := by
  intro n
  induction n with
  | zero => intro M v0 v1 v2 v3 hJ; cases hJ
  | succ n ih =>
    intro M v0 v1 v2 v3 hJ
    rw [jb_No_greatestOfRow_4] at hJ
    refine mv_iload_n (pc := 4) (i := 3) de_No_greatestOfRow_4 rfl 3 rfl ?_
    refine mv_aload_n (pc := 5) (i := 0) de_No_greatestOfRow_5 rfl 0 rfl ?_
    refine mv_getI (pc := 6) (f := 8) (kc_2 l D E B sa) (Nat.le_of_ble_eq_true rfl) wt_1_231 de_No_greatestOfRow_6 hJ (fun x6 e6 h6 => ?_)
    refine mv_icmp_ge (pc := 9) (tgt := 76) de_No_greatestOfRow_9 (by decide) h6 (fun hc9 h9 => ?_) (fun hc9 h9 => ?_)
    · refine mv_iload_n (pc := 76) (i := 2) de_No_greatestOfRow_76 rfl 2 rfl ?_
      exact mv_iret (pc := 77) rfl de_No_greatestOfRow_77 h9
    · refine mv_iload_n (pc := 12) (i := 1) de_No_greatestOfRow_12 rfl 1 rfl ?_
      refine mv_iload_n (pc := 13) (i := 3) de_No_greatestOfRow_13 rfl 3 rfl ?_
      refine mv_aload_n (pc := 14) (i := 0) de_No_greatestOfRow_14 rfl 0 rfl ?_
      refine mv_getR (pc := 15) (f := 6) (kc_2 l D E B sa) (Nat.le_of_ble_eq_true rfl) wt_1_229 de_No_greatestOfRow_15 h9 (fun x15 e15 h15 => ?_)
      obtain ⟨a18, ha, h18a⟩ := mj_bindE h15
      subst ha
      refine mv_getI (pc := 18) (f := 4) (kc_9 l D E B sa) (Nat.le_of_ble_eq_true rfl) wt_2_120 de_No_greatestOfRow_18 h18a (fun x18 e18 h18 => ?_)
      refine mv_imul (pc := 21) de_No_greatestOfRow_21 ?_
      refine mv_iadd (pc := 22) de_No_greatestOfRow_22 ?_
      refine mv_istore (pc := 23) (lv' := [(4, .int (v1 + (v3 * x18))), (0, va_rf (some v0)), (1, .int v1), (2, .int v2), (3, .int v3)]) de_No_greatestOfRow_23 (Nat.le_of_ble_eq_true rfl) rfl ?_
      refine mv_aload_n (pc := 25) (i := 0) de_No_greatestOfRow_25 rfl 1 rfl ?_
      refine mv_getR (pc := 26) (f := 4) (kc_2 l D E B sa) (Nat.le_of_ble_eq_true rfl) wt_1_225 de_No_greatestOfRow_26 h18 (fun x26 e26 h26 => ?_)
      obtain ⟨a29, ha, h29a⟩ := mj_bindE h26
      subst ha
      refine mv_getR (pc := 29) (f := 9) (kc_2 l D E B sa) (Nat.le_of_ble_eq_true rfl) wt_1_232 de_No_greatestOfRow_29 h29a (fun x29 e29 h29 => ?_)
      refine mv_iload (pc := 32) de_No_greatestOfRow_32 0 rfl ?_
      obtain ⟨a34, ha, h34a⟩ := mj_bindE h29
      subst ha
      refine mv_lald (pc := 34) (t := 1) rfl de_No_greatestOfRow_34 h34a (fun x34 e34 h34 => ?_)
      refine mv_lconst (pc := 35) (v := 0) de_No_greatestOfRow_35 (by decide) ?_
      refine mv_lcmp (pc := 36) de_No_greatestOfRow_36 ?_
      refine mv_if_ne (pc := 37) (tgt := 42) de_No_greatestOfRow_37 (by decide) h34 (fun hc37 h37 => ?_) (fun hc37 h37 => ?_)
      · refine mv_iconst (pc := 40) (v := (-1)) de_No_greatestOfRow_40 (by decide) ?_
        exact mv_iret (pc := 41) rfl de_No_greatestOfRow_41 h37
      · refine mv_aload_n (pc := 42) (i := 0) de_No_greatestOfRow_42 rfl 1 rfl ?_
        refine mv_getR (pc := 43) (f := 4) (kc_2 l D E B sa) (Nat.le_of_ble_eq_true rfl) wt_1_225 de_No_greatestOfRow_43 h37 (fun x43 e43 h43 => ?_)
        obtain ⟨a46, ha, h46a⟩ := mj_bindE h43
        subst ha
        refine mv_getR (pc := 46) (f := 9) (kc_2 l D E B sa) (Nat.le_of_ble_eq_true rfl) wt_1_232 de_No_greatestOfRow_46 h46a (fun x46 e46 h46 => ?_)
        refine mv_iload (pc := 49) de_No_greatestOfRow_49 0 rfl ?_
        obtain ⟨a51, ha, h51a⟩ := mj_bindE h46
        subst ha
        refine mv_lald (pc := 51) (t := 1) rfl de_No_greatestOfRow_51 h51a (fun x51 e51 h51 => ?_)
        refine mv_aload_n (pc := 52) (i := 0) de_No_greatestOfRow_52 rfl 1 rfl ?_
        refine mv_getR (pc := 53) (f := 4) (kc_2 l D E B sa) (Nat.le_of_ble_eq_true rfl) wt_1_225 de_No_greatestOfRow_53 h51 (fun x53 e53 h53 => ?_)
        obtain ⟨a56, ha, h56a⟩ := mj_bindE h53
        subst ha
        refine mv_getR (pc := 56) (f := 9) (kc_2 l D E B sa) (Nat.le_of_ble_eq_true rfl) wt_1_232 de_No_greatestOfRow_56 h56a (fun x56 e56 h56 => ?_)
        refine mv_iload_n (pc := 59) (i := 2) de_No_greatestOfRow_59 rfl 3 rfl ?_
        obtain ⟨a60, ha, h60a⟩ := mj_bindE h56
        subst ha
        refine mv_lald (pc := 60) (t := 1) rfl de_No_greatestOfRow_60 h60a (fun x60 e60 h60 => ?_)
        obtain ⟨r61, Mm61, hz61, h61⟩ := mj_callE h60
        refine mv_callS (pc := 61) (n := 2) (av := [.long x51, .long x60]) (rest := []) de_No_greatestOfRow_61 (cm_Fr_compare l D E B sa N M x51 x60 _ _ hz61) wt_2_189 wt_2_190 wt_1_3 wt_2_191 ⟨by decide, by decide, by decide +kernel⟩ rfl ⟨Nat.le_of_ble_eq_true rfl, Nat.le_of_ble_eq_true rfl⟩ (Nat.le_of_ble_eq_true rfl) rfl ?_
        refine mv_if_le (pc := 64) (tgt := 70) de_No_greatestOfRow_64 (by decide) h61 (fun hc64 h64 => ?_) (fun hc64 h64 => ?_)
        · exact mv_sub [1, 2, 3, 4] rfl (tb_No_greatestOfRow_70 l D E B sa M0 M1 r N (jb_No_greatestOfRow_4 N n) ih Mm61 v0 v1 v2 v3 h64)
        · refine mv_iload (pc := 67) de_No_greatestOfRow_67 0 rfl ?_
          refine mv_istore_n (pc := 69) (i := 2) (lv' := [(2, .int (v1 + (v3 * x18))), (4, .int (v1 + (v3 * x18))), (0, va_rf (some v0)), (1, .int v1), (3, .int v3)]) de_No_greatestOfRow_69 rfl (Nat.le_of_ble_eq_true rfl) rfl ?_
          exact mv_sub [2, 3, 0, 4] rfl (tb_No_greatestOfRow_70 l D E B sa M0 M1 r N (jb_No_greatestOfRow_4 N n) ih Mm61 v0 v1 (v1 + (v3 * x18)) v3 h64)
set_option maxHeartbeats 4000000 in
set_option maxRecDepth 100000 in
theorem tb_No_greatestOfRow_0 (l : Launch) (D : va_G) (E : Nat → ClassId) (B : Nat) (sa : (Nat → Nat) × Nat × (Nat → Int32)) (M0 M1 : mv_M) (r : Int32) (N : Nat) (M : mv_M) (v0 : Nat) (v1 : Int32) (hJ : jb_No_greatestOfRow_0 N M v0 v1 = some (r, M1)) : mv_G (xg l D E B sa) kd_No_greatestOfRow M0 M1 (some (.int r)) M 0 [(0, va_rf (some v0)), (1, .int v1)] [] := by
  unfold jb_No_greatestOfRow_0 at hJ
  refine mv_iload_n (pc := 0) (i := 1) de_No_greatestOfRow_0 rfl 1 rfl ?_
  refine mv_istore_n (pc := 1) (i := 2) (lv' := [(2, .int v1), (0, va_rf (some v0)), (1, .int v1)]) de_No_greatestOfRow_1 rfl (Nat.le_of_ble_eq_true rfl) rfl ?_
  refine mv_iconst (pc := 2) (v := 0) de_No_greatestOfRow_2 (by decide) ?_
  refine mv_istore_n (pc := 3) (i := 3) (lv' := [(3, .int 0), (2, .int v1), (0, va_rf (some v0)), (1, .int v1)]) de_No_greatestOfRow_3 rfl (Nat.le_of_ble_eq_true rfl) rfl ?_
  exact mv_sub [2, 3, 1, 0] rfl (tb_No_greatestOfRow_4 l D E B sa M0 M1 r N N M v0 v1 v1 0 hJ)
theorem cm_No_greatestOfRow (l : Launch) (D : va_G) (E : Nat → ClassId) (B : Nat) (sa : (Nat → Nat) × Nat × (Nat → Int32)) (N : Nat) (M : mv_M) (v0 : Nat) (v1 : Int32) (r : Int32) (M1 : mv_M) (hJ : jf_No_greatestOfRow N M v0 v1 = some (r, M1)) : mv_Met (xg l D E B sa) yn_No_greatestOfRow cd_No_greatestOfRow 5 (some .int) 2 46 [va_rf (some v0), .int v1] M (some (.int r)) M1 :=
  mv_enter (by decide) (Nat.le_of_ble_eq_true rfl) (mv_sub (lv := [(0, va_rf (some v0)), (1, .int v1)]) [0, 1] rfl (tb_No_greatestOfRow_0 l D E B sa M M1 r N M v0 v1 hJ))
/-! ===== PlainLearner$Fractions.inverse(J)J ===== -/
abbrev kd_Fr_inverse : mv_Kd := (cd_Fr_inverse, 6, "PlainLearner$Fractions", "inverse", (some .long), 1, 23)
theorem de_Fr_inverse_0 : decode cd_Fr_inverse 0 = .ok (.lload_n 0, 1) := by decide +kernel
theorem de_Fr_inverse_1 : decode cd_Fr_inverse 1 = .ok (.invokestatic 11, 3) := by decide +kernel
theorem de_Fr_inverse_4 : decode cd_Fr_inverse 4 = .ok (.lstore_n 2, 1) := by decide +kernel
theorem de_Fr_inverse_5 : decode cd_Fr_inverse 5 = .ok (.lload_n 0, 1) := by decide +kernel
theorem de_Fr_inverse_6 : decode cd_Fr_inverse 6 = .ok (.invokestatic 15, 3) := by decide +kernel
theorem de_Fr_inverse_9 : decode cd_Fr_inverse 9 = .ok (.lstore 4, 2) := by decide +kernel
theorem de_Fr_inverse_11 : decode cd_Fr_inverse 11 = .ok (.lload_n 2, 1) := by decide +kernel
theorem de_Fr_inverse_12 : decode cd_Fr_inverse 12 = .ok (.lconst 0, 1) := by decide +kernel
theorem de_Fr_inverse_13 : decode cd_Fr_inverse 13 = .ok (.lcmp, 1) := by decide +kernel
theorem de_Fr_inverse_14 : decode cd_Fr_inverse 14 = .ok (.ifCond .ne 5, 3) := by decide +kernel
theorem de_Fr_inverse_17 : decode cd_Fr_inverse 17 = .ok (.lconst 0, 1) := by decide +kernel
theorem de_Fr_inverse_18 : decode cd_Fr_inverse 18 = .ok (.lreturn, 1) := by decide +kernel
theorem de_Fr_inverse_19 : decode cd_Fr_inverse 19 = .ok (.lload_n 2, 1) := by decide +kernel
theorem de_Fr_inverse_20 : decode cd_Fr_inverse 20 = .ok (.lconst 0, 1) := by decide +kernel
theorem de_Fr_inverse_21 : decode cd_Fr_inverse 21 = .ok (.lcmp, 1) := by decide +kernel
theorem de_Fr_inverse_22 : decode cd_Fr_inverse 22 = .ok (.ifCond .ge 14, 3) := by decide +kernel
theorem de_Fr_inverse_25 : decode cd_Fr_inverse 25 = .ok (.lload 4, 2) := by decide +kernel
theorem de_Fr_inverse_27 : decode cd_Fr_inverse 27 = .ok (.lneg, 1) := by decide +kernel
theorem de_Fr_inverse_28 : decode cd_Fr_inverse 28 = .ok (.lload_n 2, 1) := by decide +kernel
theorem de_Fr_inverse_29 : decode cd_Fr_inverse 29 = .ok (.lneg, 1) := by decide +kernel
theorem de_Fr_inverse_30 : decode cd_Fr_inverse 30 = .ok (.invokestatic 18, 3) := by decide +kernel
theorem de_Fr_inverse_33 : decode cd_Fr_inverse 33 = .ok (.goto 9, 3) := by decide +kernel
theorem de_Fr_inverse_36 : decode cd_Fr_inverse 36 = .ok (.lload 4, 2) := by decide +kernel
theorem de_Fr_inverse_38 : decode cd_Fr_inverse 38 = .ok (.lload_n 2, 1) := by decide +kernel
theorem de_Fr_inverse_39 : decode cd_Fr_inverse 39 = .ok (.invokestatic 18, 3) := by decide +kernel
theorem de_Fr_inverse_42 : decode cd_Fr_inverse 42 = .ok (.lreturn, 1) := by decide +kernel
def jb_Fr_inverse_42 (N : Nat) (M : mv_M) (s0 : Int64) : Option (Int64 × mv_M) :=
  some (s0, M)
def jb_Fr_inverse_0 (N : Nat) (M : mv_M) (v0 : Int64) : Option (Int64 × mv_M) :=
  mj_call (jf_Fr_topOf N M v0) fun r1 Mm1 =>
  mj_call (jf_Fr_bottomOf N Mm1 v0) fun r6 Mm6 =>
  if (lg_cmp r1 0) = 0 then (some (0, Mm6)) else
  if 0 ≤ (lg_cmp r1 0) then (mj_call (jf_Fr_fit N Mm6 r6 r1) fun r39 Mm39 =>
  jb_Fr_inverse_42 N Mm39 r39) else
  mj_call (jf_Fr_fit N Mm6 (-r6) (-r1)) fun r30 Mm30 =>
  jb_Fr_inverse_42 N Mm30 r30
def jf_Fr_inverse (N : Nat) (M : mv_M) (v0 : Int64) : Option (Int64 × mv_M) := jb_Fr_inverse_0 N M v0
set_option maxHeartbeats 4000000 in
set_option maxRecDepth 100000 in
theorem tb_Fr_inverse_42 (l : Launch) (D : va_G) (E : Nat → ClassId) (B : Nat) (sa : (Nat → Nat) × Nat × (Nat → Int32)) (M0 M1 : mv_M) (r : Int64) (N : Nat) (M : mv_M) (s0 : Int64) (hJ : jb_Fr_inverse_42 N M s0 = some (r, M1)) : mv_G (xg l D E B sa) kd_Fr_inverse M0 M1 (some (.long r)) M 42 [] [.long s0] := by
  unfold jb_Fr_inverse_42 at hJ
  exact mv_lret (pc := 42) rfl de_Fr_inverse_42 hJ
set_option maxHeartbeats 4000000 in
set_option maxRecDepth 100000 in
theorem tb_Fr_inverse_0 (l : Launch) (D : va_G) (E : Nat → ClassId) (B : Nat) (sa : (Nat → Nat) × Nat × (Nat → Int32)) (M0 M1 : mv_M) (r : Int64) (N : Nat) (M : mv_M) (v0 : Int64) (hJ : jb_Fr_inverse_0 N M v0 = some (r, M1)) : mv_G (xg l D E B sa) kd_Fr_inverse M0 M1 (some (.long r)) M 0 [(0, .long v0)] [] := by
  unfold jb_Fr_inverse_0 at hJ
  refine mv_lload_n (pc := 0) (i := 0) de_Fr_inverse_0 rfl 0 rfl ?_
  obtain ⟨r1, Mm1, hz1, h1⟩ := mj_callE hJ
  refine mv_callS (pc := 1) (n := 1) (av := [.long v0]) (rest := []) de_Fr_inverse_1 (cm_Fr_topOf l D E B sa N M v0 _ _ hz1) wt_2_192 wt_2_193 wt_1_3 wt_2_194 ⟨by decide, by decide, by decide +kernel⟩ rfl ⟨Nat.le_of_ble_eq_true rfl, Nat.le_of_ble_eq_true rfl⟩ (Nat.le_of_ble_eq_true rfl) rfl ?_
  refine mv_lstore_n (pc := 4) (i := 2) (lv' := [(2, .long r1), (0, .long v0)]) de_Fr_inverse_4 rfl (Nat.le_of_ble_eq_true rfl) rfl ?_
  refine mv_lload_n (pc := 5) (i := 0) de_Fr_inverse_5 rfl 1 rfl ?_
  obtain ⟨r6, Mm6, hz6, h6⟩ := mj_callE h1
  refine mv_callS (pc := 6) (n := 1) (av := [.long v0]) (rest := []) de_Fr_inverse_6 (cm_Fr_bottomOf l D E B sa N Mm1 v0 _ _ hz6) wt_2_195 wt_2_196 wt_1_3 wt_2_197 ⟨by decide, by decide, by decide +kernel⟩ rfl ⟨Nat.le_of_ble_eq_true rfl, Nat.le_of_ble_eq_true rfl⟩ (Nat.le_of_ble_eq_true rfl) rfl ?_
  refine mv_lstore (pc := 9) (lv' := [(4, .long r6), (2, .long r1), (0, .long v0)]) de_Fr_inverse_9 (Nat.le_of_ble_eq_true rfl) rfl ?_
  refine mv_lload_n (pc := 11) (i := 2) de_Fr_inverse_11 rfl 1 rfl ?_
  refine mv_lconst (pc := 12) (v := 0) de_Fr_inverse_12 (by decide) ?_
  refine mv_lcmp (pc := 13) de_Fr_inverse_13 ?_
  refine mv_if_ne (pc := 14) (tgt := 19) de_Fr_inverse_14 (by decide) h6 (fun hc14 h14 => ?_) (fun hc14 h14 => ?_)
  · refine mv_lconst (pc := 17) (v := 0) de_Fr_inverse_17 (by decide) ?_
    exact mv_lret (pc := 18) rfl de_Fr_inverse_18 h14
  · refine mv_lload_n (pc := 19) (i := 2) de_Fr_inverse_19 rfl 1 rfl ?_
    refine mv_lconst (pc := 20) (v := 0) de_Fr_inverse_20 (by decide) ?_
    refine mv_lcmp (pc := 21) de_Fr_inverse_21 ?_
    refine mv_if_ge (pc := 22) (tgt := 36) de_Fr_inverse_22 (by decide) h14 (fun hc22 h22 => ?_) (fun hc22 h22 => ?_)
    · refine mv_lload (pc := 36) de_Fr_inverse_36 0 rfl ?_
      refine mv_lload_n (pc := 38) (i := 2) de_Fr_inverse_38 rfl 1 rfl ?_
      obtain ⟨r39, Mm39, hz39, h39⟩ := mj_callE h22
      refine mv_callS (pc := 39) (n := 2) (av := [.long r6, .long r1]) (rest := []) de_Fr_inverse_39 (cm_Fr_fit l D E B sa N Mm6 r6 r1 _ _ hz39) wt_1_40 wt_1_41 wt_1_3 wt_1_42 ⟨by decide, by decide, by decide +kernel⟩ rfl ⟨Nat.le_of_ble_eq_true rfl, Nat.le_of_ble_eq_true rfl⟩ (Nat.le_of_ble_eq_true rfl) rfl ?_
      exact mv_sub [] rfl (tb_Fr_inverse_42 l D E B sa M0 M1 r N Mm39 r39 h39)
    · refine mv_lload (pc := 25) de_Fr_inverse_25 0 rfl ?_
      refine mv_lneg (pc := 27) de_Fr_inverse_27 ?_
      refine mv_lload_n (pc := 28) (i := 2) de_Fr_inverse_28 rfl 1 rfl ?_
      refine mv_lneg (pc := 29) de_Fr_inverse_29 ?_
      obtain ⟨r30, Mm30, hz30, h30⟩ := mj_callE h22
      refine mv_callS (pc := 30) (n := 2) (av := [.long (-r6), .long (-r1)]) (rest := []) de_Fr_inverse_30 (cm_Fr_fit l D E B sa N Mm6 (-r6) (-r1) _ _ hz30) wt_1_40 wt_1_41 wt_1_3 wt_1_42 ⟨by decide, by decide, by decide +kernel⟩ rfl ⟨Nat.le_of_ble_eq_true rfl, Nat.le_of_ble_eq_true rfl⟩ (Nat.le_of_ble_eq_true rfl) rfl ?_
      refine mv_goto (pc := 33) (tgt := 42) de_Fr_inverse_33 (by decide) ?_
      exact mv_sub [] rfl (tb_Fr_inverse_42 l D E B sa M0 M1 r N Mm30 r30 h30)
theorem cm_Fr_inverse (l : Launch) (D : va_G) (E : Nat → ClassId) (B : Nat) (sa : (Nat → Nat) × Nat × (Nat → Int32)) (N : Nat) (M : mv_M) (v0 : Int64) (r : Int64) (M1 : mv_M) (hJ : jf_Fr_inverse N M v0 = some (r, M1)) : mv_Met (xg l D E B sa) yn_Fr_inverse cd_Fr_inverse 6 (some .long) 1 23 [.long v0] M (some (.long r)) M1 :=
  mv_enter (by decide) (Nat.le_of_ble_eq_true rfl) (mv_sub (lv := [(0, .long v0)]) [0] rfl (tb_Fr_inverse_0 l D E B sa M M1 r N M v0 hJ))
/-! ===== PlainLearner$Fractions.whole(I)J ===== -/
abbrev kd_Fr_whole : mv_Kd := (cd_Fr_whole, 1, "PlainLearner$Fractions", "whole", (some .long), 1, 23)
theorem de_Fr_whole_0 : decode cd_Fr_whole 0 = .ok (.iload_n 0, 1) := by decide +kernel
theorem de_Fr_whole_1 : decode cd_Fr_whole 1 = .ok (.i2l, 1) := by decide +kernel
theorem de_Fr_whole_2 : decode cd_Fr_whole 2 = .ok (.lconst 1, 1) := by decide +kernel
theorem de_Fr_whole_3 : decode cd_Fr_whole 3 = .ok (.invokestatic 18, 3) := by decide +kernel
theorem de_Fr_whole_6 : decode cd_Fr_whole 6 = .ok (.lreturn, 1) := by decide +kernel
def jb_Fr_whole_0 (N : Nat) (M : mv_M) (v0 : Int32) : Option (Int64 × mv_M) :=
  mj_call (jf_Fr_fit N M v0.toInt64 1) fun r3 Mm3 =>
  some (r3, Mm3)
def jf_Fr_whole (N : Nat) (M : mv_M) (v0 : Int32) : Option (Int64 × mv_M) := jb_Fr_whole_0 N M v0
set_option maxHeartbeats 4000000 in
set_option maxRecDepth 100000 in
theorem tb_Fr_whole_0 (l : Launch) (D : va_G) (E : Nat → ClassId) (B : Nat) (sa : (Nat → Nat) × Nat × (Nat → Int32)) (M0 M1 : mv_M) (r : Int64) (N : Nat) (M : mv_M) (v0 : Int32) (hJ : jb_Fr_whole_0 N M v0 = some (r, M1)) : mv_G (xg l D E B sa) kd_Fr_whole M0 M1 (some (.long r)) M 0 [(0, .int v0)] [] := by
  unfold jb_Fr_whole_0 at hJ
  refine mv_iload_n (pc := 0) (i := 0) de_Fr_whole_0 rfl 0 rfl ?_
  refine mv_i2l (pc := 1) de_Fr_whole_1 ?_
  refine mv_lconst (pc := 2) (v := 1) de_Fr_whole_2 (by decide) ?_
  obtain ⟨r3, Mm3, hz3, h3⟩ := mj_callE hJ
  refine mv_callS (pc := 3) (n := 2) (av := [.long v0.toInt64, .long 1]) (rest := []) de_Fr_whole_3 (cm_Fr_fit l D E B sa N M v0.toInt64 1 _ _ hz3) wt_1_40 wt_1_41 wt_1_3 wt_1_42 ⟨by decide, by decide, by decide +kernel⟩ rfl ⟨Nat.le_of_ble_eq_true rfl, Nat.le_of_ble_eq_true rfl⟩ (Nat.le_of_ble_eq_true rfl) rfl ?_
  exact mv_lret (pc := 6) rfl de_Fr_whole_6 h3
theorem cm_Fr_whole (l : Launch) (D : va_G) (E : Nat → ClassId) (B : Nat) (sa : (Nat → Nat) × Nat × (Nat → Int32)) (N : Nat) (M : mv_M) (v0 : Int32) (r : Int64) (M1 : mv_M) (hJ : jf_Fr_whole N M v0 = some (r, M1)) : mv_Met (xg l D E B sa) yn_Fr_whole cd_Fr_whole 1 (some .long) 1 23 [.int v0] M (some (.long r)) M1 :=
  mv_enter (by decide) (Nat.le_of_ble_eq_true rfl) (mv_sub (lv := [(0, .int v0)]) [0] rfl (tb_Fr_whole_0 l D E B sa M M1 r N M v0 hJ))
/-! ===== PlainLearner$Fractions.sign(J)I ===== -/
abbrev kd_Fr_sign : mv_Kd := (cd_Fr_sign, 2, "PlainLearner$Fractions", "sign", (some .int), 1, 21)
theorem de_Fr_sign_0 : decode cd_Fr_sign 0 = .ok (.lload_n 0, 1) := by decide +kernel
theorem de_Fr_sign_1 : decode cd_Fr_sign 1 = .ok (.invokestatic 11, 3) := by decide +kernel
theorem de_Fr_sign_4 : decode cd_Fr_sign 4 = .ok (.lconst 0, 1) := by decide +kernel
theorem de_Fr_sign_5 : decode cd_Fr_sign 5 = .ok (.lcmp, 1) := by decide +kernel
theorem de_Fr_sign_6 : decode cd_Fr_sign 6 = .ok (.ifCond .le 7, 3) := by decide +kernel
theorem de_Fr_sign_9 : decode cd_Fr_sign 9 = .ok (.iconst 1, 1) := by decide +kernel
theorem de_Fr_sign_10 : decode cd_Fr_sign 10 = .ok (.goto 17, 3) := by decide +kernel
theorem de_Fr_sign_13 : decode cd_Fr_sign 13 = .ok (.lload_n 0, 1) := by decide +kernel
theorem de_Fr_sign_14 : decode cd_Fr_sign 14 = .ok (.invokestatic 11, 3) := by decide +kernel
theorem de_Fr_sign_17 : decode cd_Fr_sign 17 = .ok (.lconst 0, 1) := by decide +kernel
theorem de_Fr_sign_18 : decode cd_Fr_sign 18 = .ok (.lcmp, 1) := by decide +kernel
theorem de_Fr_sign_19 : decode cd_Fr_sign 19 = .ok (.ifCond .ge 7, 3) := by decide +kernel
theorem de_Fr_sign_22 : decode cd_Fr_sign 22 = .ok (.iconst (-1), 1) := by decide +kernel
theorem de_Fr_sign_23 : decode cd_Fr_sign 23 = .ok (.goto 4, 3) := by decide +kernel
theorem de_Fr_sign_26 : decode cd_Fr_sign 26 = .ok (.iconst 0, 1) := by decide +kernel
theorem de_Fr_sign_27 : decode cd_Fr_sign 27 = .ok (.ireturn, 1) := by decide +kernel
def jb_Fr_sign_27 (N : Nat) (M : mv_M) (s0 : Int32) : Option (Int32 × mv_M) :=
  some (s0, M)
def jb_Fr_sign_0 (N : Nat) (M : mv_M) (v0 : Int64) : Option (Int32 × mv_M) :=
  mj_call (jf_Fr_topOf N M v0) fun r1 Mm1 =>
  if (lg_cmp r1 0) ≤ 0 then (mj_call (jf_Fr_topOf N Mm1 v0) fun r14 Mm14 =>
  if 0 ≤ (lg_cmp r14 0) then (jb_Fr_sign_27 N Mm14 0) else
  jb_Fr_sign_27 N Mm14 (-1)) else
  jb_Fr_sign_27 N Mm1 1
def jf_Fr_sign (N : Nat) (M : mv_M) (v0 : Int64) : Option (Int32 × mv_M) := jb_Fr_sign_0 N M v0
set_option maxHeartbeats 4000000 in
set_option maxRecDepth 100000 in
theorem tb_Fr_sign_27 (l : Launch) (D : va_G) (E : Nat → ClassId) (B : Nat) (sa : (Nat → Nat) × Nat × (Nat → Int32)) (M0 M1 : mv_M) (r : Int32) (N : Nat) (M : mv_M) (s0 : Int32) (hJ : jb_Fr_sign_27 N M s0 = some (r, M1)) : mv_G (xg l D E B sa) kd_Fr_sign M0 M1 (some (.int r)) M 27 [] [.int s0] := by
  unfold jb_Fr_sign_27 at hJ
  exact mv_iret (pc := 27) rfl de_Fr_sign_27 hJ
set_option maxHeartbeats 4000000 in
set_option maxRecDepth 100000 in
theorem tb_Fr_sign_0 (l : Launch) (D : va_G) (E : Nat → ClassId) (B : Nat) (sa : (Nat → Nat) × Nat × (Nat → Int32)) (M0 M1 : mv_M) (r : Int32) (N : Nat) (M : mv_M) (v0 : Int64) (hJ : jb_Fr_sign_0 N M v0 = some (r, M1)) : mv_G (xg l D E B sa) kd_Fr_sign M0 M1 (some (.int r)) M 0 [(0, .long v0)] [] := by
  unfold jb_Fr_sign_0 at hJ
  refine mv_lload_n (pc := 0) (i := 0) de_Fr_sign_0 rfl 0 rfl ?_
  obtain ⟨r1, Mm1, hz1, h1⟩ := mj_callE hJ
  refine mv_callS (pc := 1) (n := 1) (av := [.long v0]) (rest := []) de_Fr_sign_1 (cm_Fr_topOf l D E B sa N M v0 _ _ hz1) wt_2_192 wt_2_193 wt_1_3 wt_2_194 ⟨by decide, by decide, by decide +kernel⟩ rfl ⟨Nat.le_of_ble_eq_true rfl, Nat.le_of_ble_eq_true rfl⟩ (Nat.le_of_ble_eq_true rfl) rfl ?_
  refine mv_lconst (pc := 4) (v := 0) de_Fr_sign_4 (by decide) ?_
  refine mv_lcmp (pc := 5) de_Fr_sign_5 ?_
  refine mv_if_le (pc := 6) (tgt := 13) de_Fr_sign_6 (by decide) h1 (fun hc6 h6 => ?_) (fun hc6 h6 => ?_)
  · refine mv_lload_n (pc := 13) (i := 0) de_Fr_sign_13 rfl 0 rfl ?_
    obtain ⟨r14, Mm14, hz14, h14⟩ := mj_callE h6
    refine mv_callS (pc := 14) (n := 1) (av := [.long v0]) (rest := []) de_Fr_sign_14 (cm_Fr_topOf l D E B sa N Mm1 v0 _ _ hz14) wt_2_192 wt_2_193 wt_1_3 wt_2_194 ⟨by decide, by decide, by decide +kernel⟩ rfl ⟨Nat.le_of_ble_eq_true rfl, Nat.le_of_ble_eq_true rfl⟩ (Nat.le_of_ble_eq_true rfl) rfl ?_
    refine mv_lconst (pc := 17) (v := 0) de_Fr_sign_17 (by decide) ?_
    refine mv_lcmp (pc := 18) de_Fr_sign_18 ?_
    refine mv_if_ge (pc := 19) (tgt := 26) de_Fr_sign_19 (by decide) h14 (fun hc19 h19 => ?_) (fun hc19 h19 => ?_)
    · refine mv_iconst (pc := 26) (v := 0) de_Fr_sign_26 (by decide) ?_
      exact mv_sub [] rfl (tb_Fr_sign_27 l D E B sa M0 M1 r N Mm14 0 h19)
    · refine mv_iconst (pc := 22) (v := (-1)) de_Fr_sign_22 (by decide) ?_
      refine mv_goto (pc := 23) (tgt := 27) de_Fr_sign_23 (by decide) ?_
      exact mv_sub [] rfl (tb_Fr_sign_27 l D E B sa M0 M1 r N Mm14 (-1) h19)
  · refine mv_iconst (pc := 9) (v := 1) de_Fr_sign_9 (by decide) ?_
    refine mv_goto (pc := 10) (tgt := 27) de_Fr_sign_10 (by decide) ?_
    exact mv_sub [] rfl (tb_Fr_sign_27 l D E B sa M0 M1 r N Mm1 1 h6)
theorem cm_Fr_sign (l : Launch) (D : va_G) (E : Nat → ClassId) (B : Nat) (sa : (Nat → Nat) × Nat × (Nat → Int32)) (N : Nat) (M : mv_M) (v0 : Int64) (r : Int32) (M1 : mv_M) (hJ : jf_Fr_sign N M v0 = some (r, M1)) : mv_Met (xg l D E B sa) yn_Fr_sign cd_Fr_sign 2 (some .int) 1 21 [.long v0] M (some (.int r)) M1 :=
  mv_enter (by decide) (Nat.le_of_ble_eq_true rfl) (mv_sub (lv := [(0, .long v0)]) [0] rfl (tb_Fr_sign_0 l D E B sa M M1 r N M v0 hJ))
