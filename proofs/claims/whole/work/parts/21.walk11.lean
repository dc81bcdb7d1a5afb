/-! ===== PlainLearnerModel.node(II)I ===== -/
abbrev kd_PM_node : mv_Kd := (cd_PM_node, 3, "PlainLearnerModel", "node", (some .int), 2, 46)
theorem de_PM_node_0 : decode cd_PM_node 0 = .ok (.aload_n 0, 1) := by decide +kernel
theorem de_PM_node_1 : decode cd_PM_node 1 = .ok (.iload_n 1, 1) := by decide +kernel
theorem de_PM_node_2 : decode cd_PM_node 2 = .ok (.invokevirtual 107, 3) := by decide +kernel
theorem de_PM_node_5 : decode cd_PM_node 5 = .ok (.ifCond .eq 15, 3) := by decide +kernel
theorem de_PM_node_8 : decode cd_PM_node 8 = .ok (.iload_n 2, 1) := by decide +kernel
theorem de_PM_node_9 : decode cd_PM_node 9 = .ok (.i2l, 1) := by decide +kernel
theorem de_PM_node_10 : decode cd_PM_node 10 = .ok (.lconst 0, 1) := by decide +kernel
theorem de_PM_node_11 : decode cd_PM_node 11 = .ok (.ldc2_w 135, 3) := by decide +kernel
theorem de_PM_node_14 : decode cd_PM_node 14 = .ok (.invokestatic 99, 3) := by decide +kernel
theorem de_PM_node_17 : decode cd_PM_node 17 = .ok (.ifCond .ne 5, 3) := by decide +kernel
theorem de_PM_node_20 : decode cd_PM_node 20 = .ok (.iconst (-1), 1) := by decide +kernel
theorem de_PM_node_21 : decode cd_PM_node 21 = .ok (.ireturn, 1) := by decide +kernel
theorem de_PM_node_22 : decode cd_PM_node 22 = .ok (.iload_n 2, 1) := by decide +kernel
theorem de_PM_node_23 : decode cd_PM_node 23 = .ok (.tableswitch 77 0 6 #[41, 48, 48, 48, 57, 63, 70], 41) := by decide +kernel
theorem de_PM_node_64 : decode cd_PM_node 64 = .ok (.aload_n 0, 1) := by decide +kernel
theorem de_PM_node_65 : decode cd_PM_node 65 = .ok (.getfield 19, 3) := by decide +kernel
theorem de_PM_node_68 : decode cd_PM_node 68 = .ok (.iload_n 1, 1) := by decide +kernel
theorem de_PM_node_69 : decode cd_PM_node 69 = .ok (.iaload, 1) := by decide +kernel
theorem de_PM_node_70 : decode cd_PM_node 70 = .ok (.ireturn, 1) := by decide +kernel
theorem de_PM_node_71 : decode cd_PM_node 71 = .ok (.aload_n 0, 1) := by decide +kernel
theorem de_PM_node_72 : decode cd_PM_node 72 = .ok (.iload_n 1, 1) := by decide +kernel
theorem de_PM_node_73 : decode cd_PM_node 73 = .ok (.iload_n 2, 1) := by decide +kernel
theorem de_PM_node_74 : decode cd_PM_node 74 = .ok (.iconst 1, 1) := by decide +kernel
theorem de_PM_node_75 : decode cd_PM_node 75 = .ok (.isub, 1) := by decide +kernel
theorem de_PM_node_76 : decode cd_PM_node 76 = .ok (.invokevirtual 125, 3) := by decide +kernel
theorem de_PM_node_79 : decode cd_PM_node 79 = .ok (.ireturn, 1) := by decide +kernel
theorem de_PM_node_80 : decode cd_PM_node 80 = .ok (.aload_n 0, 1) := by decide +kernel
theorem de_PM_node_81 : decode cd_PM_node 81 = .ok (.iload_n 1, 1) := by decide +kernel
theorem de_PM_node_82 : decode cd_PM_node 82 = .ok (.invokevirtual 114, 3) := by decide +kernel
theorem de_PM_node_85 : decode cd_PM_node 85 = .ok (.ireturn, 1) := by decide +kernel
theorem de_PM_node_86 : decode cd_PM_node 86 = .ok (.aload_n 0, 1) := by decide +kernel
theorem de_PM_node_87 : decode cd_PM_node 87 = .ok (.getfield 7, 3) := by decide +kernel
theorem de_PM_node_90 : decode cd_PM_node 90 = .ok (.iload_n 1, 1) := by decide +kernel
theorem de_PM_node_91 : decode cd_PM_node 91 = .ok (.iaload, 1) := by decide +kernel
theorem de_PM_node_92 : decode cd_PM_node 92 = .ok (.ireturn, 1) := by decide +kernel
theorem de_PM_node_93 : decode cd_PM_node 93 = .ok (.aload_n 0, 1) := by decide +kernel
theorem de_PM_node_94 : decode cd_PM_node 94 = .ok (.getfield 13, 3) := by decide +kernel
theorem de_PM_node_97 : decode cd_PM_node 97 = .ok (.iload_n 1, 1) := by decide +kernel
theorem de_PM_node_98 : decode cd_PM_node 98 = .ok (.iaload, 1) := by decide +kernel
theorem de_PM_node_99 : decode cd_PM_node 99 = .ok (.ireturn, 1) := by decide +kernel
theorem de_PM_node_100 : decode cd_PM_node 100 = .ok (.aload_n 0, 1) := by decide +kernel
theorem de_PM_node_101 : decode cd_PM_node 101 = .ok (.getfield 16, 3) := by decide +kernel
theorem de_PM_node_104 : decode cd_PM_node 104 = .ok (.iload_n 1, 1) := by decide +kernel
theorem de_PM_node_105 : decode cd_PM_node 105 = .ok (.iaload, 1) := by decide +kernel
theorem de_PM_node_106 : decode cd_PM_node 106 = .ok (.ireturn, 1) := by decide +kernel
def jb_PM_node_20 (N : Nat) (M : mv_M) : Option (Int32 × mv_M) :=
  some ((-1), M)
def jb_PM_node_0 (N : Nat) (M : mv_M) (v0 : Nat) (v1 : Int32) (v2 : Int32) : Option (Int32 × mv_M) :=
  mj_ob M v0 1 <|
  mj_call (jf_PM_isNode N M v0 v1) fun r2 Mm2 =>
  if r2 = 0 then (jb_PM_node_20 N Mm2) else
  mj_call (jf_PM_isIn N Mm2 v2.toInt64 0 7) fun r14 Mm14 =>
  if r14 = 0 then (jb_PM_node_20 N Mm14) else
  if v2 = 0 then (Option.bind (mj_getR Mm14 v0 1 6) fun x65 =>
  Option.bind x65 fun a69 =>
  Option.bind (mj_ild Mm14 a69 0 v1) fun x69 =>
  some (x69, Mm14)) else
  if v2 = 1 then (mj_ob Mm14 v0 1 <|
  mj_call (jf_PM_sideOf N Mm14 v0 v1 (v2 - 1)) fun r76 Mm76 =>
  some (r76, Mm76)) else
  if v2 = 2 then (mj_ob Mm14 v0 1 <|
  mj_call (jf_PM_sideOf N Mm14 v0 v1 (v2 - 1)) fun r76 Mm76 =>
  some (r76, Mm76)) else
  if v2 = 3 then (mj_ob Mm14 v0 1 <|
  mj_call (jf_PM_sideOf N Mm14 v0 v1 (v2 - 1)) fun r76 Mm76 =>
  some (r76, Mm76)) else
  if v2 = 4 then (mj_ob Mm14 v0 1 <|
  mj_call (jf_PM_cells N Mm14 v0 v1) fun r82 Mm82 =>
  some (r82, Mm82)) else
  if v2 = 5 then (Option.bind (mj_getR Mm14 v0 1 3) fun x87 =>
  Option.bind x87 fun a91 =>
  Option.bind (mj_ild Mm14 a91 0 v1) fun x91 =>
  some (x91, Mm14)) else
  if v2 = 6 then (Option.bind (mj_getR Mm14 v0 1 4) fun x94 =>
  Option.bind x94 fun a98 =>
  Option.bind (mj_ild Mm14 a98 0 v1) fun x98 =>
  some (x98, Mm14)) else
  Option.bind (mj_getR Mm14 v0 1 5) fun x101 =>
  Option.bind x101 fun a105 =>
  Option.bind (mj_ild Mm14 a105 0 v1) fun x105 =>
  some (x105, Mm14)
def jf_PM_node (N : Nat) (M : mv_M) (v0 : Nat) (v1 : Int32) (v2 : Int32) : Option (Int32 × mv_M) := jb_PM_node_0 N M v0 v1 v2
set_option maxHeartbeats 4000000 in
set_option maxRecDepth 100000 in
theorem tb_PM_node_20 (l : Launch) (D : va_G) (E : Nat → ClassId) (B : Nat) (sa : (Nat → Nat) × Nat × (Nat → Int32)) (M0 M1 : mv_M) (r : Int32) (N : Nat) (M : mv_M) (hJ : jb_PM_node_20 N M = some (r, M1)) : mv_G (xg l D E B sa) kd_PM_node M0 M1 (some (.int r)) M 20 [] [] := by
  unfold jb_PM_node_20 at hJ
  refine mv_iconst (pc := 20) (v := (-1)) de_PM_node_20 (by decide) ?_
  exact mv_iret (pc := 21) rfl de_PM_node_21 hJ
set_option maxHeartbeats 4000000 in
set_option maxRecDepth 100000 in
theorem tb_PM_node_0 (l : Launch) (D : va_G) (E : Nat → ClassId) (B : Nat) (sa : (Nat → Nat) × Nat × (Nat → Int32)) (M0 M1 : mv_M) (r : Int32) (N : Nat) (M : mv_M) (v0 : Nat) (v1 : Int32) (v2 : Int32) (hJ : jb_PM_node_0 N M v0 v1 v2 = some (r, M1)) : mv_G (xg l D E B sa) kd_PM_node M0 M1 (some (.int r)) M 0 [(0, va_rf (some v0)), (1, .int v1), (2, .int v2)] [] := by
  unfold jb_PM_node_0 at hJ
  refine mv_aload_n (pc := 0) (i := 0) de_PM_node_0 rfl 0 rfl ?_
  refine mv_iload_n (pc := 1) (i := 1) de_PM_node_1 rfl 1 rfl ?_
  obtain ⟨hi2, h2o⟩ := mj_obE hJ
  obtain ⟨r2, Mm2, hz2, h2⟩ := mj_callE h2o
  refine mv_callV (pc := 2) (n := 1) (av := [.int v1]) (rest := []) de_PM_node_2 (kc_1 l D E B sa) hi2 (cm_PM_isNode l D E B sa N M v0 v1 _ _ hz2) wt_4_209 wt_4_211 wp_27 wt_1_8 wt_4_212 ⟨by decide, by decide, by decide +kernel⟩ rfl ⟨Nat.le_of_ble_eq_true rfl, Nat.le_of_ble_eq_true rfl⟩ (Nat.le_of_ble_eq_true rfl) rfl ?_
  refine mv_if_eq (pc := 5) (tgt := 20) de_PM_node_5 (by decide) h2 (fun hc5 h5 => ?_) (fun hc5 h5 => ?_)
  · exact mv_sub [] rfl (tb_PM_node_20 l D E B sa M0 M1 r N Mm2 h5)
  · refine mv_iload_n (pc := 8) (i := 2) de_PM_node_8 rfl 2 rfl ?_
    refine mv_i2l (pc := 9) de_PM_node_9 ?_
    refine mv_lconst (pc := 10) (v := 0) de_PM_node_10 (by decide) ?_
    refine mv_ldc2 (pc := 11) de_PM_node_11 wt_5_4 ?_
    obtain ⟨r14, Mm14, hz14, h14⟩ := mj_callE h5
    refine mv_callS (pc := 14) (n := 3) (av := [.long v2.toInt64, .long 0, .long 7]) (rest := []) de_PM_node_14 (cm_PM_isIn l D E B sa N Mm2 v2.toInt64 0 7 _ _ hz14) wt_4_197 wt_4_198 wt_1_8 wt_4_199 ⟨by decide, by decide, by decide +kernel⟩ rfl ⟨Nat.le_of_ble_eq_true rfl, Nat.le_of_ble_eq_true rfl⟩ (Nat.le_of_ble_eq_true rfl) rfl ?_
    refine mv_if_ne (pc := 17) (tgt := 22) de_PM_node_17 (by decide) h14 (fun hc17 h17 => ?_) (fun hc17 h17 => ?_)
    · exact mv_sub [] rfl (tb_PM_node_20 l D E B sa M0 M1 r N Mm14 h17)
    · refine mv_iload_n (pc := 22) (i := 2) de_PM_node_22 rfl 2 rfl ?_
      by_cases hs23_0 : v2 = 0
      · rw [if_pos hs23_0] at h17
        refine mv_tin (pc := 23) (tgt := 64) (off := 41) 0 de_PM_node_23 hs23_0 (by decide) (by decide) ?_
        refine mv_aload_n (pc := 64) (i := 0) de_PM_node_64 rfl 0 rfl ?_
        refine mv_getR (pc := 65) (f := 6) (kc_1 l D E B sa) (Nat.le_of_ble_eq_true rfl) wt_4_86 de_PM_node_65 h17 (fun x65 e65 h65 => ?_)
        refine mv_iload_n (pc := 68) (i := 1) de_PM_node_68 rfl 1 rfl ?_
        obtain ⟨a69, ha, h69a⟩ := mj_bindE h65
        subst ha
        refine mv_iald (pc := 69) (t := 0) rfl de_PM_node_69 h69a (fun x69 e69 h69 => ?_)
        exact mv_iret (pc := 70) rfl de_PM_node_70 h69
      rw [if_neg hs23_0] at h17
      by_cases hs23_1 : v2 = 1
      · rw [if_pos hs23_1] at h17
        refine mv_tin (pc := 23) (tgt := 71) (off := 48) 1 de_PM_node_23 hs23_1 (by decide) (by decide) ?_
        refine mv_aload_n (pc := 71) (i := 0) de_PM_node_71 rfl 0 rfl ?_
        refine mv_iload_n (pc := 72) (i := 1) de_PM_node_72 rfl 1 rfl ?_
        refine mv_iload_n (pc := 73) (i := 2) de_PM_node_73 rfl 2 rfl ?_
        refine mv_iconst (pc := 74) (v := 1) de_PM_node_74 (by decide) ?_
        refine mv_isub (pc := 75) de_PM_node_75 ?_
        obtain ⟨hi76, h76o⟩ := mj_obE h17
        obtain ⟨r76, Mm76, hz76, h76⟩ := mj_callE h76o
        refine mv_callV (pc := 76) (n := 2) (av := [.int v1, .int (v2 - 1)]) (rest := []) de_PM_node_76 (kc_1 l D E B sa) hi76 (cm_PM_sideOf l D E B sa N Mm14 v0 v1 (v2 - 1) _ _ hz76) wt_4_236 wt_4_238 wp_32 wt_1_8 wt_4_239 ⟨by decide, by decide, by decide +kernel⟩ rfl ⟨Nat.le_of_ble_eq_true rfl, Nat.le_of_ble_eq_true rfl⟩ (Nat.le_of_ble_eq_true rfl) rfl ?_
        exact mv_iret (pc := 79) rfl de_PM_node_79 h76
      rw [if_neg hs23_1] at h17
      by_cases hs23_2 : v2 = 2
      · rw [if_pos hs23_2] at h17
        refine mv_tin (pc := 23) (tgt := 71) (off := 48) 2 de_PM_node_23 hs23_2 (by decide) (by decide) ?_
        refine mv_aload_n (pc := 71) (i := 0) de_PM_node_71 rfl 0 rfl ?_
        refine mv_iload_n (pc := 72) (i := 1) de_PM_node_72 rfl 1 rfl ?_
        refine mv_iload_n (pc := 73) (i := 2) de_PM_node_73 rfl 2 rfl ?_
        refine mv_iconst (pc := 74) (v := 1) de_PM_node_74 (by decide) ?_
        refine mv_isub (pc := 75) de_PM_node_75 ?_
        obtain ⟨hi76, h76o⟩ := mj_obE h17
        obtain ⟨r76, Mm76, hz76, h76⟩ := mj_callE h76o
        refine mv_callV (pc := 76) (n := 2) (av := [.int v1, .int (v2 - 1)]) (rest := []) de_PM_node_76 (kc_1 l D E B sa) hi76 (cm_PM_sideOf l D E B sa N Mm14 v0 v1 (v2 - 1) _ _ hz76) wt_4_236 wt_4_238 wp_32 wt_1_8 wt_4_239 ⟨by decide, by decide, by decide +kernel⟩ rfl ⟨Nat.le_of_ble_eq_true rfl, Nat.le_of_ble_eq_true rfl⟩ (Nat.le_of_ble_eq_true rfl) rfl ?_
        exact mv_iret (pc := 79) rfl de_PM_node_79 h76
      rw [if_neg hs23_2] at h17
      by_cases hs23_3 : v2 = 3
      · rw [if_pos hs23_3] at h17
        refine mv_tin (pc := 23) (tgt := 71) (off := 48) 3 de_PM_node_23 hs23_3 (by decide) (by decide) ?_
        refine mv_aload_n (pc := 71) (i := 0) de_PM_node_71 rfl 0 rfl ?_
        refine mv_iload_n (pc := 72) (i := 1) de_PM_node_72 rfl 1 rfl ?_
        refine mv_iload_n (pc := 73) (i := 2) de_PM_node_73 rfl 2 rfl ?_
        refine mv_iconst (pc := 74) (v := 1) de_PM_node_74 (by decide) ?_
        refine mv_isub (pc := 75) de_PM_node_75 ?_
        obtain ⟨hi76, h76o⟩ := mj_obE h17
        obtain ⟨r76, Mm76, hz76, h76⟩ := mj_callE h76o
        refine mv_callV (pc := 76) (n := 2) (av := [.int v1, .int (v2 - 1)]) (rest := []) de_PM_node_76 (kc_1 l D E B sa) hi76 (cm_PM_sideOf l D E B sa N Mm14 v0 v1 (v2 - 1) _ _ hz76) wt_4_236 wt_4_238 wp_32 wt_1_8 wt_4_239 ⟨by decide, by decide, by decide +kernel⟩ rfl ⟨Nat.le_of_ble_eq_true rfl, Nat.le_of_ble_eq_true rfl⟩ (Nat.le_of_ble_eq_true rfl) rfl ?_
        exact mv_iret (pc := 79) rfl de_PM_node_79 h76
      rw [if_neg hs23_3] at h17
      by_cases hs23_4 : v2 = 4
      · rw [if_pos hs23_4] at h17
        refine mv_tin (pc := 23) (tgt := 80) (off := 57) 4 de_PM_node_23 hs23_4 (by decide) (by decide) ?_
        refine mv_aload_n (pc := 80) (i := 0) de_PM_node_80 rfl 0 rfl ?_
        refine mv_iload_n (pc := 81) (i := 1) de_PM_node_81 rfl 1 rfl ?_
        obtain ⟨hi82, h82o⟩ := mj_obE h17
        obtain ⟨r82, Mm82, hz82, h82⟩ := mj_callE h82o
        refine mv_callV (pc := 82) (n := 1) (av := [.int v1]) (rest := []) de_PM_node_82 (kc_1 l D E B sa) hi82 (cm_PM_cells l D E B sa N Mm14 v0 v1 _ _ hz82) wt_4_213 wt_4_215 wp_28 wt_1_8 wt_4_216 ⟨by decide, by decide, by decide +kernel⟩ rfl ⟨Nat.le_of_ble_eq_true rfl, Nat.le_of_ble_eq_true rfl⟩ (Nat.le_of_ble_eq_true rfl) rfl ?_
        exact mv_iret (pc := 85) rfl de_PM_node_85 h82
      rw [if_neg hs23_4] at h17
      by_cases hs23_5 : v2 = 5
      · rw [if_pos hs23_5] at h17
        refine mv_tin (pc := 23) (tgt := 86) (off := 63) 5 de_PM_node_23 hs23_5 (by decide) (by decide) ?_
        refine mv_aload_n (pc := 86) (i := 0) de_PM_node_86 rfl 0 rfl ?_
        refine mv_getR (pc := 87) (f := 3) (kc_1 l D E B sa) (Nat.le_of_ble_eq_true rfl) wt_4_83 de_PM_node_87 h17 (fun x87 e87 h87 => ?_)
        refine mv_iload_n (pc := 90) (i := 1) de_PM_node_90 rfl 1 rfl ?_
        obtain ⟨a91, ha, h91a⟩ := mj_bindE h87
        subst ha
        refine mv_iald (pc := 91) (t := 0) rfl de_PM_node_91 h91a (fun x91 e91 h91 => ?_)
        exact mv_iret (pc := 92) rfl de_PM_node_92 h91
      rw [if_neg hs23_5] at h17
      by_cases hs23_6 : v2 = 6
      · rw [if_pos hs23_6] at h17
        refine mv_tin (pc := 23) (tgt := 93) (off := 70) 6 de_PM_node_23 hs23_6 (by decide) (by decide) ?_
        refine mv_aload_n (pc := 93) (i := 0) de_PM_node_93 rfl 0 rfl ?_
        refine mv_getR (pc := 94) (f := 4) (kc_1 l D E B sa) (Nat.le_of_ble_eq_true rfl) wt_4_84 de_PM_node_94 h17 (fun x94 e94 h94 => ?_)
        refine mv_iload_n (pc := 97) (i := 1) de_PM_node_97 rfl 1 rfl ?_
        obtain ⟨a98, ha, h98a⟩ := mj_bindE h94
        subst ha
        refine mv_iald (pc := 98) (t := 0) rfl de_PM_node_98 h98a (fun x98 e98 h98 => ?_)
        exact mv_iret (pc := 99) rfl de_PM_node_99 h98
      rw [if_neg hs23_6] at h17
      have qhs23_0 := lv_neT (a := 0) hs23_0 (by decide)
      have qhs23_1 := lv_neT (a := 1) hs23_1 (by decide)
      have qhs23_2 := lv_neT (a := 2) hs23_2 (by decide)
      have qhs23_3 := lv_neT (a := 3) hs23_3 (by decide)
      have qhs23_4 := lv_neT (a := 4) hs23_4 (by decide)
      have qhs23_5 := lv_neT (a := 5) hs23_5 (by decide)
      have qhs23_6 := lv_neT (a := 6) hs23_6 (by decide)
      refine mv_tout (pc := 23) (tgt := 100) de_PM_node_23 (by omega) (by decide) ?_
      refine mv_aload_n (pc := 100) (i := 0) de_PM_node_100 rfl 0 rfl ?_
      refine mv_getR (pc := 101) (f := 5) (kc_1 l D E B sa) (Nat.le_of_ble_eq_true rfl) wt_4_85 de_PM_node_101 h17 (fun x101 e101 h101 => ?_)
      refine mv_iload_n (pc := 104) (i := 1) de_PM_node_104 rfl 1 rfl ?_
      obtain ⟨a105, ha, h105a⟩ := mj_bindE h101
      subst ha
      refine mv_iald (pc := 105) (t := 0) rfl de_PM_node_105 h105a (fun x105 e105 h105 => ?_)
      exact mv_iret (pc := 106) rfl de_PM_node_106 h105
theorem cm_PM_node (l : Launch) (D : va_G) (E : Nat → ClassId) (B : Nat) (sa : (Nat → Nat) × Nat × (Nat → Int32)) (N : Nat) (M : mv_M) (v0 : Nat) (v1 : Int32) (v2 : Int32) (r : Int32) (M1 : mv_M) (hJ : jf_PM_node N M v0 v1 v2 = some (r, M1)) : mv_Met (xg l D E B sa) yn_PM_node cd_PM_node 3 (some .int) 2 46 [va_rf (some v0), .int v1, .int v2] M (some (.int r)) M1 :=
  mv_enter (by decide) (Nat.le_of_ble_eq_true rfl) (mv_sub (lv := [(0, va_rf (some v0)), (1, .int v1), (2, .int v2)]) [0, 1, 2] rfl (tb_PM_node_0 l D E B sa M M1 r N M v0 v1 v2 hJ))
/-! ===== PlainLearnerModel.spreadCell(III)I ===== -/
abbrev kd_PM_spreadCell : mv_Kd := (cd_PM_spreadCell, 10, "PlainLearnerModel", "spreadCell", (some .int), 0, 0)
theorem de_PM_spreadCell_0 : decode cd_PM_spreadCell 0 = .ok (.iload_n 2, 1) := by decide +kernel
theorem de_PM_spreadCell_1 : decode cd_PM_spreadCell 1 = .ok (.istore 4, 2) := by decide +kernel
theorem de_PM_spreadCell_3 : decode cd_PM_spreadCell 3 = .ok (.iconst 0, 1) := by decide +kernel
theorem de_PM_spreadCell_4 : decode cd_PM_spreadCell 4 = .ok (.istore 5, 2) := by decide +kernel
theorem de_PM_spreadCell_6 : decode cd_PM_spreadCell 6 = .ok (.iconst 1, 1) := by decide +kernel
theorem de_PM_spreadCell_7 : decode cd_PM_spreadCell 7 = .ok (.istore 6, 2) := by decide +kernel
theorem de_PM_spreadCell_9 : decode cd_PM_spreadCell 9 = .ok (.iconst 1, 1) := by decide +kernel
theorem de_PM_spreadCell_10 : decode cd_PM_spreadCell 10 = .ok (.istore 7, 2) := by decide +kernel
theorem de_PM_spreadCell_12 : decode cd_PM_spreadCell 12 = .ok (.iload 7, 2) := by decide +kernel
theorem de_PM_spreadCell_14 : decode cd_PM_spreadCell 14 = .ok (.aload_n 0, 1) := by decide +kernel
theorem de_PM_spreadCell_15 : decode cd_PM_spreadCell 15 = .ok (.getfield 19, 3) := by decide +kernel
theorem de_PM_spreadCell_18 : decode cd_PM_spreadCell 18 = .ok (.iload_n 1, 1) := by decide +kernel
theorem de_PM_spreadCell_19 : decode cd_PM_spreadCell 19 = .ok (.iaload, 1) := by decide +kernel
theorem de_PM_spreadCell_20 : decode cd_PM_spreadCell 20 = .ok (.if_icmp .gt 97, 3) := by decide +kernel
theorem de_PM_spreadCell_23 : decode cd_PM_spreadCell 23 = .ok (.aload_n 0, 1) := by decide +kernel
theorem de_PM_spreadCell_24 : decode cd_PM_spreadCell 24 = .ok (.getfield 22, 3) := by decide +kernel
theorem de_PM_spreadCell_27 : decode cd_PM_spreadCell 27 = .ok (.iconst 3, 1) := by decide +kernel
theorem de_PM_spreadCell_28 : decode cd_PM_spreadCell 28 = .ok (.iload_n 1, 1) := by decide +kernel
theorem de_PM_spreadCell_29 : decode cd_PM_spreadCell 29 = .ok (.imul, 1) := by decide +kernel
theorem de_PM_spreadCell_30 : decode cd_PM_spreadCell 30 = .ok (.aload_n 0, 1) := by decide +kernel
theorem de_PM_spreadCell_31 : decode cd_PM_spreadCell 31 = .ok (.getfield 19, 3) := by decide +kernel
theorem de_PM_spreadCell_34 : decode cd_PM_spreadCell 34 = .ok (.iload_n 1, 1) := by decide +kernel
theorem de_PM_spreadCell_35 : decode cd_PM_spreadCell 35 = .ok (.iaload, 1) := by decide +kernel
theorem de_PM_spreadCell_36 : decode cd_PM_spreadCell 36 = .ok (.iadd, 1) := by decide +kernel
theorem de_PM_spreadCell_37 : decode cd_PM_spreadCell 37 = .ok (.iload 7, 2) := by decide +kernel
theorem de_PM_spreadCell_39 : decode cd_PM_spreadCell 39 = .ok (.isub, 1) := by decide +kernel
theorem de_PM_spreadCell_40 : decode cd_PM_spreadCell 40 = .ok (.iaload, 1) := by decide +kernel
theorem de_PM_spreadCell_41 : decode cd_PM_spreadCell 41 = .ok (.istore 8, 2) := by decide +kernel
theorem de_PM_spreadCell_43 : decode cd_PM_spreadCell 43 = .ok (.iload 7, 2) := by decide +kernel
theorem de_PM_spreadCell_45 : decode cd_PM_spreadCell 45 = .ok (.aload_n 0, 1) := by decide +kernel
theorem de_PM_spreadCell_46 : decode cd_PM_spreadCell 46 = .ok (.getfield 19, 3) := by decide +kernel
theorem de_PM_spreadCell_49 : decode cd_PM_spreadCell 49 = .ok (.iload_n 3, 1) := by decide +kernel
theorem de_PM_spreadCell_50 : decode cd_PM_spreadCell 50 = .ok (.iaload, 1) := by decide +kernel
theorem de_PM_spreadCell_51 : decode cd_PM_spreadCell 51 = .ok (.if_icmp .gt 24, 3) := by decide +kernel
theorem de_PM_spreadCell_54 : decode cd_PM_spreadCell 54 = .ok (.aload_n 0, 1) := by decide +kernel
theorem de_PM_spreadCell_55 : decode cd_PM_spreadCell 55 = .ok (.getfield 22, 3) := by decide +kernel
theorem de_PM_spreadCell_58 : decode cd_PM_spreadCell 58 = .ok (.iconst 3, 1) := by decide +kernel
theorem de_PM_spreadCell_59 : decode cd_PM_spreadCell 59 = .ok (.iload_n 3, 1) := by decide +kernel
theorem de_PM_spreadCell_60 : decode cd_PM_spreadCell 60 = .ok (.imul, 1) := by decide +kernel
theorem de_PM_spreadCell_61 : decode cd_PM_spreadCell 61 = .ok (.aload_n 0, 1) := by decide +kernel
theorem de_PM_spreadCell_62 : decode cd_PM_spreadCell 62 = .ok (.getfield 19, 3) := by decide +kernel
theorem de_PM_spreadCell_65 : decode cd_PM_spreadCell 65 = .ok (.iload_n 3, 1) := by decide +kernel
theorem de_PM_spreadCell_66 : decode cd_PM_spreadCell 66 = .ok (.iaload, 1) := by decide +kernel
theorem de_PM_spreadCell_67 : decode cd_PM_spreadCell 67 = .ok (.iadd, 1) := by decide +kernel
theorem de_PM_spreadCell_68 : decode cd_PM_spreadCell 68 = .ok (.iload 7, 2) := by decide +kernel
theorem de_PM_spreadCell_70 : decode cd_PM_spreadCell 70 = .ok (.isub, 1) := by decide +kernel
theorem de_PM_spreadCell_71 : decode cd_PM_spreadCell 71 = .ok (.iaload, 1) := by decide +kernel
theorem de_PM_spreadCell_72 : decode cd_PM_spreadCell 72 = .ok (.goto 4, 3) := by decide +kernel
theorem de_PM_spreadCell_75 : decode cd_PM_spreadCell 75 = .ok (.iconst 1, 1) := by decide +kernel
theorem de_PM_spreadCell_76 : decode cd_PM_spreadCell 76 = .ok (.istore 9, 2) := by decide +kernel
theorem de_PM_spreadCell_78 : decode cd_PM_spreadCell 78 = .ok (.iload 9, 2) := by decide +kernel
theorem de_PM_spreadCell_80 : decode cd_PM_spreadCell 80 = .ok (.iconst 1, 1) := by decide +kernel
theorem de_PM_spreadCell_81 : decode cd_PM_spreadCell 81 = .ok (.if_icmp .le 16, 3) := by decide +kernel
theorem de_PM_spreadCell_84 : decode cd_PM_spreadCell 84 = .ok (.iload 5, 2) := by decide +kernel
theorem de_PM_spreadCell_86 : decode cd_PM_spreadCell 86 = .ok (.iload 4, 2) := by decide +kernel
theorem de_PM_spreadCell_88 : decode cd_PM_spreadCell 88 = .ok (.iload 8, 2) := by decide +kernel
theorem de_PM_spreadCell_90 : decode cd_PM_spreadCell 90 = .ok (.irem, 1) := by decide +kernel
theorem de_PM_spreadCell_91 : decode cd_PM_spreadCell 91 = .ok (.iload 6, 2) := by decide +kernel
theorem de_PM_spreadCell_93 : decode cd_PM_spreadCell 93 = .ok (.imul, 1) := by decide +kernel
theorem de_PM_spreadCell_94 : decode cd_PM_spreadCell 94 = .ok (.iadd, 1) := by decide +kernel
theorem de_PM_spreadCell_95 : decode cd_PM_spreadCell 95 = .ok (.istore 5, 2) := by decide +kernel
theorem de_PM_spreadCell_97 : decode cd_PM_spreadCell 97 = .ok (.iload 6, 2) := by decide +kernel
theorem de_PM_spreadCell_99 : decode cd_PM_spreadCell 99 = .ok (.iload 9, 2) := by decide +kernel
theorem de_PM_spreadCell_101 : decode cd_PM_spreadCell 101 = .ok (.imul, 1) := by decide +kernel
theorem de_PM_spreadCell_102 : decode cd_PM_spreadCell 102 = .ok (.istore 6, 2) := by decide +kernel
theorem de_PM_spreadCell_104 : decode cd_PM_spreadCell 104 = .ok (.iload 4, 2) := by decide +kernel
theorem de_PM_spreadCell_106 : decode cd_PM_spreadCell 106 = .ok (.iload 8, 2) := by decide +kernel
theorem de_PM_spreadCell_108 : decode cd_PM_spreadCell 108 = .ok (.idiv, 1) := by decide +kernel
theorem de_PM_spreadCell_109 : decode cd_PM_spreadCell 109 = .ok (.istore 4, 2) := by decide +kernel
theorem de_PM_spreadCell_111 : decode cd_PM_spreadCell 111 = .ok (.iinc 7 1, 3) := by decide +kernel
theorem de_PM_spreadCell_114 : decode cd_PM_spreadCell 114 = .ok (.goto (-102), 3) := by decide +kernel
theorem de_PM_spreadCell_117 : decode cd_PM_spreadCell 117 = .ok (.iload 5, 2) := by decide +kernel
theorem de_PM_spreadCell_119 : decode cd_PM_spreadCell 119 = .ok (.ireturn, 1) := by decide +kernel
def jb_PM_spreadCell_97 (N : Nat) (k12 : mv_M → Nat → Int32 → Int32 → Int32 → Int32 → Int32 → Int32 → Option (Int32 × mv_M)) (M : mv_M) (v0 : Nat) (v1 : Int32) (v3 : Int32) (v4 : Int32) (v5 : Int32) (v6 : Int32) (v7 : Int32) (v8 : Int32) (v9 : Int32) : Option (Int32 × mv_M) :=
  if v8 = 0 then none else
  k12 M v0 v1 v3 (v4 / v8) v5 (v6 * v9) (v7 + 1)
def jb_PM_spreadCell_76 (N : Nat) (k12 : mv_M → Nat → Int32 → Int32 → Int32 → Int32 → Int32 → Int32 → Option (Int32 × mv_M)) (M : mv_M) (v0 : Nat) (v1 : Int32) (v3 : Int32) (v4 : Int32) (v5 : Int32) (v6 : Int32) (v7 : Int32) (v8 : Int32) (s0 : Int32) : Option (Int32 × mv_M) :=
  if s0 ≤ 1 then (jb_PM_spreadCell_97 N k12 M v0 v1 v3 v4 v5 v6 v7 v8 s0) else
  if v8 = 0 then none else
  jb_PM_spreadCell_97 N k12 M v0 v1 v3 v4 (v5 + ((v4 - v4 / v8 * v8) * v6)) v6 v7 v8 s0
def jb_PM_spreadCell_12 (N : Nat) : Nat → mv_M → Nat → Int32 → Int32 → Int32 → Int32 → Int32 → Int32 → Option (Int32 × mv_M)
  | 0, _, _, _, _, _, _, _, _ => none
  | n + 1, M, v0, v1, v3, v4, v5, v6, v7 =>
    Option.bind (mj_getR M v0 1 6) fun x15 =>
    Option.bind x15 fun a19 =>
    Option.bind (mj_ild M a19 0 v1) fun x19 =>
    if x19 < v7 then (some (v5, M)) else
    Option.bind (mj_getR M v0 1 7) fun x24 =>
    Option.bind (mj_getR M v0 1 6) fun x31 =>
    Option.bind x31 fun a35 =>
    Option.bind (mj_ild M a35 0 v1) fun x35 =>
    Option.bind x24 fun a40 =>
    Option.bind (mj_ild M a40 0 (((3 * v1) + x35) - v7)) fun x40 =>
    Option.bind (mj_getR M v0 1 6) fun x46 =>
    Option.bind x46 fun a50 =>
    Option.bind (mj_ild M a50 0 v3) fun x50 =>
    if x50 < v7 then (jb_PM_spreadCell_76 N (jb_PM_spreadCell_12 N n) M v0 v1 v3 v4 v5 v6 v7 x40 1) else
    Option.bind (mj_getR M v0 1 7) fun x55 =>
    Option.bind (mj_getR M v0 1 6) fun x62 =>
    Option.bind x62 fun a66 =>
    Option.bind (mj_ild M a66 0 v3) fun x66 =>
    Option.bind x55 fun a71 =>
    Option.bind (mj_ild M a71 0 (((3 * v3) + x66) - v7)) fun x71 =>
    jb_PM_spreadCell_76 N (jb_PM_spreadCell_12 N n) M v0 v1 v3 v4 v5 v6 v7 x40 x71
def jb_PM_spreadCell_0 (N : Nat) (M : mv_M) (v0 : Nat) (v1 : Int32) (v2 : Int32) (v3 : Int32) : Option (Int32 × mv_M) :=
  jb_PM_spreadCell_12 N N M v0 v1 v3 v2 0 1 1
def jf_PM_spreadCell (N : Nat) (M : mv_M) (v0 : Nat) (v1 : Int32) (v2 : Int32) (v3 : Int32) : Option (Int32 × mv_M) := jb_PM_spreadCell_0 N M v0 v1 v2 v3
set_option maxHeartbeats 4000000 in
set_option maxRecDepth 100000 in
theorem tb_PM_spreadCell_97 (l : Launch) (D : va_G) (E : Nat → ClassId) (B : Nat) (sa : (Nat → Nat) × Nat × (Nat → Int32)) (M0 M1 : mv_M) (r : Int32) (N : Nat) (k12 : mv_M → Nat → Int32 → Int32 → Int32 → Int32 → Int32 → Int32 → Option (Int32 × mv_M)) (hk12 : ∀ (M : mv_M) (v0 : Nat) (v1 : Int32) (v3 : Int32) (v4 : Int32) (v5 : Int32) (v6 : Int32) (v7 : Int32), k12 M v0 v1 v3 v4 v5 v6 v7 = some (r, M1) → mv_G (xg l D E B sa) kd_PM_spreadCell M0 M1 (some (.int r)) M 12 [(0, va_rf (some v0)), (1, .int v1), (3, .int v3), (4, .int v4), (5, .int v5), (6, .int v6), (7, .int v7)] []) (M : mv_M) (v0 : Nat) (v1 : Int32) (v3 : Int32) (v4 : Int32) (v5 : Int32) (v6 : Int32) (v7 : Int32) (v8 : Int32) (v9 : Int32) (hJ : jb_PM_spreadCell_97 N k12 M v0 v1 v3 v4 v5 v6 v7 v8 v9 = some (r, M1)) : mv_G (xg l D E B sa) kd_PM_spreadCell M0 M1 (some (.int r)) M 97 [(0, va_rf (some v0)), (1, .int v1), (3, .int v3), (4, .int v4), (5, .int v5), (6, .int v6), (7, .int v7), (8, .int v8), (9, .int v9)] [] := by
  unfold jb_PM_spreadCell_97 at hJ
  refine mv_iload (pc := 97) de_PM_spreadCell_97 5 rfl ?_
  refine mv_iload (pc := 99) de_PM_spreadCell_99 8 rfl ?_
  refine mv_imul (pc := 101) de_PM_spreadCell_101 ?_
  refine mv_istore (pc := 102) (lv' := [(6, .int (v6 * v9)), (0, va_rf (some v0)), (1, .int v1), (3, .int v3), (4, .int v4), (5, .int v5), (7, .int v7), (8, .int v8), (9, .int v9)]) de_PM_spreadCell_102 (Nat.le_of_ble_eq_true rfl) rfl ?_
  refine mv_iload (pc := 104) de_PM_spreadCell_104 4 rfl ?_
  refine mv_iload (pc := 106) de_PM_spreadCell_106 7 rfl ?_
  refine mv_idiv (pc := 108) de_PM_spreadCell_108 hJ (fun hc_108 h108 => ?_)
  refine mv_istore (pc := 109) (lv' := [(4, .int (v4 / v8)), (6, .int (v6 * v9)), (0, va_rf (some v0)), (1, .int v1), (3, .int v3), (5, .int v5), (7, .int v7), (8, .int v8), (9, .int v9)]) de_PM_spreadCell_109 (Nat.le_of_ble_eq_true rfl) rfl ?_
  refine mv_iinc (pc := 111) (v := (v7 + 1)) (lv' := [(7, .int (v7 + 1)), (4, .int (v4 / v8)), (6, .int (v6 * v9)), (0, va_rf (some v0)), (1, .int v1), (3, .int v3), (5, .int v5), (8, .int v8), (9, .int v9)]) de_PM_spreadCell_111 6 rfl rfl (Nat.le_of_ble_eq_true rfl) rfl ?_
  refine mv_goto (pc := 114) (tgt := 12) de_PM_spreadCell_114 (by decide) ?_
  exact mv_sub [3, 4, 5, 1, 6, 2, 0] rfl (hk12 M v0 v1 v3 (v4 / v8) v5 (v6 * v9) (v7 + 1) h108)
set_option maxHeartbeats 4000000 in
set_option maxRecDepth 100000 in
theorem tb_PM_spreadCell_76 (l : Launch) (D : va_G) (E : Nat → ClassId) (B : Nat) (sa : (Nat → Nat) × Nat × (Nat → Int32)) (M0 M1 : mv_M) (r : Int32) (N : Nat) (k12 : mv_M → Nat → Int32 → Int32 → Int32 → Int32 → Int32 → Int32 → Option (Int32 × mv_M)) (hk12 : ∀ (M : mv_M) (v0 : Nat) (v1 : Int32) (v3 : Int32) (v4 : Int32) (v5 : Int32) (v6 : Int32) (v7 : Int32), k12 M v0 v1 v3 v4 v5 v6 v7 = some (r, M1) → mv_G (xg l D E B sa) kd_PM_spreadCell M0 M1 (some (.int r)) M 12 [(0, va_rf (some v0)), (1, .int v1), (3, .int v3), (4, .int v4), (5, .int v5), (6, .int v6), (7, .int v7)] []) (M : mv_M) (v0 : Nat) (v1 : Int32) (v3 : Int32) (v4 : Int32) (v5 : Int32) (v6 : Int32) (v7 : Int32) (v8 : Int32) (s0 : Int32) (hJ : jb_PM_spreadCell_76 N k12 M v0 v1 v3 v4 v5 v6 v7 v8 s0 = some (r, M1)) : mv_G (xg l D E B sa) kd_PM_spreadCell M0 M1 (some (.int r)) M 76 [(0, va_rf (some v0)), (1, .int v1), (3, .int v3), (4, .int v4), (5, .int v5), (6, .int v6), (7, .int v7), (8, .int v8)] [.int s0] := by
  unfold jb_PM_spreadCell_76 at hJ
  refine mv_istore (pc := 76) (lv' := [(9, .int s0), (0, va_rf (some v0)), (1, .int v1), (3, .int v3), (4, .int v4), (5, .int v5), (6, .int v6), (7, .int v7), (8, .int v8)]) de_PM_spreadCell_76 (Nat.le_of_ble_eq_true rfl) rfl ?_
  refine mv_iload (pc := 78) de_PM_spreadCell_78 0 rfl ?_
  refine mv_iconst (pc := 80) (v := 1) de_PM_spreadCell_80 (by decide) ?_
  refine mv_icmp_le (pc := 81) (tgt := 97) de_PM_spreadCell_81 (by decide) hJ (fun hc81 h81 => ?_) (fun hc81 h81 => ?_)
  · exact mv_sub [1, 2, 3, 4, 5, 6, 7, 8, 0] rfl (tb_PM_spreadCell_97 l D E B sa M0 M1 r N k12 hk12 M v0 v1 v3 v4 v5 v6 v7 v8 s0 h81)
  · refine mv_iload (pc := 84) de_PM_spreadCell_84 5 rfl ?_
    refine mv_iload (pc := 86) de_PM_spreadCell_86 4 rfl ?_
    refine mv_iload (pc := 88) de_PM_spreadCell_88 8 rfl ?_
    refine mv_irem (pc := 90) de_PM_spreadCell_90 h81 (fun hc_90 h90 => ?_)
    refine mv_iload (pc := 91) de_PM_spreadCell_91 6 rfl ?_
    refine mv_imul (pc := 93) de_PM_spreadCell_93 ?_
    refine mv_iadd (pc := 94) de_PM_spreadCell_94 ?_
    refine mv_istore (pc := 95) (lv' := [(5, .int (v5 + ((v4 - v4 / v8 * v8) * v6))), (9, .int s0), (0, va_rf (some v0)), (1, .int v1), (3, .int v3), (4, .int v4), (6, .int v6), (7, .int v7), (8, .int v8)]) de_PM_spreadCell_95 (Nat.le_of_ble_eq_true rfl) rfl ?_
    exact mv_sub [2, 3, 4, 5, 0, 6, 7, 8, 1] rfl (tb_PM_spreadCell_97 l D E B sa M0 M1 r N k12 hk12 M v0 v1 v3 v4 (v5 + ((v4 - v4 / v8 * v8) * v6)) v6 v7 v8 s0 h90)
set_option maxHeartbeats 4000000 in
set_option maxRecDepth 100000 in
theorem tb_PM_spreadCell_12 (l : Launch) (D : va_G) (E : Nat → ClassId) (B : Nat) (sa : (Nat → Nat) × Nat × (Nat → Int32)) (M0 M1 : mv_M) (r : Int32) (N : Nat) : ∀ (n : Nat) (M : mv_M) (v0 : Nat) (v1 : Int32) (v3 : Int32) (v4 : Int32) (v5 : Int32) (v6 : Int32) (v7 : Int32) (hJ : jb_PM_spreadCell_12 N n M v0 v1 v3 v4 v5 v6 v7 = some (r, M1)), mv_G (xg l D E B sa) kd_PM_spreadCell M0 M1 (some (.int r)) M 12 [(0, va_rf (some v0)), (1, .int v1), (3, .int v3), (4, .int v4), (5, .int v5), (6, .int v6), (7, .int v7)] [] := by
  intro n
  induction n with
  | zero => intro M v0 v1 v3 v4 v5 v6 v7 hJ; cases hJ
  | succ n ih =>
    intro M v0 v1 v3 v4 v5 v6 v7 hJ
    rw [jb_PM_spreadCell_12] at hJ
    refine mv_iload (pc := 12) de_PM_spreadCell_12 6 rfl ?_
    refine mv_aload_n (pc := 14) (i := 0) de_PM_spreadCell_14 rfl 0 rfl ?_
    refine mv_getR (pc := 15) (f := 6) (kc_1 l D E B sa) (Nat.le_of_ble_eq_true rfl) wt_4_86 de_PM_spreadCell_15 hJ (fun x15 e15 h15 => ?_)
    refine mv_iload_n (pc := 18) (i := 1) de_PM_spreadCell_18 rfl 1 rfl ?_
    obtain ⟨a19, ha, h19a⟩ := mj_bindE h15
    subst ha
    refine mv_iald (pc := 19) (t := 0) rfl de_PM_spreadCell_19 h19a (fun x19 e19 h19 => ?_)
    refine mv_icmp_gt (pc := 20) (tgt := 117) de_PM_spreadCell_20 (by decide) h19 (fun hc20 h20 => ?_) (fun hc20 h20 => ?_)
    · refine mv_iload (pc := 117) de_PM_spreadCell_117 4 rfl ?_
      exact mv_iret (pc := 119) rfl de_PM_spreadCell_119 h20
    · refine mv_aload_n (pc := 23) (i := 0) de_PM_spreadCell_23 rfl 0 rfl ?_
      refine mv_getR (pc := 24) (f := 7) (kc_1 l D E B sa) (Nat.le_of_ble_eq_true rfl) wt_4_87 de_PM_spreadCell_24 h20 (fun x24 e24 h24 => ?_)
      refine mv_iconst (pc := 27) (v := 3) de_PM_spreadCell_27 (by decide) ?_
      refine mv_iload_n (pc := 28) (i := 1) de_PM_spreadCell_28 rfl 1 rfl ?_
      refine mv_imul (pc := 29) de_PM_spreadCell_29 ?_
      refine mv_aload_n (pc := 30) (i := 0) de_PM_spreadCell_30 rfl 0 rfl ?_
      refine mv_getR (pc := 31) (f := 6) (kc_1 l D E B sa) (Nat.le_of_ble_eq_true rfl) wt_4_86 de_PM_spreadCell_31 h24 (fun x31 e31 h31 => ?_)
      refine mv_iload_n (pc := 34) (i := 1) de_PM_spreadCell_34 rfl 1 rfl ?_
      obtain ⟨a35, ha, h35a⟩ := mj_bindE h31
      subst ha
      refine mv_iald (pc := 35) (t := 0) rfl de_PM_spreadCell_35 h35a (fun x35 e35 h35 => ?_)
      refine mv_iadd (pc := 36) de_PM_spreadCell_36 ?_
      refine mv_iload (pc := 37) de_PM_spreadCell_37 6 rfl ?_
      refine mv_isub (pc := 39) de_PM_spreadCell_39 ?_
      obtain ⟨a40, ha, h40a⟩ := mj_bindE h35
      subst ha
      refine mv_iald (pc := 40) (t := 0) rfl de_PM_spreadCell_40 h40a (fun x40 e40 h40 => ?_)
      refine mv_istore (pc := 41) (lv' := [(8, .int x40), (0, va_rf (some v0)), (1, .int v1), (3, .int v3), (4, .int v4), (5, .int v5), (6, .int v6), (7, .int v7)]) de_PM_spreadCell_41 (Nat.le_of_ble_eq_true rfl) rfl ?_
      refine mv_iload (pc := 43) de_PM_spreadCell_43 7 rfl ?_
      refine mv_aload_n (pc := 45) (i := 0) de_PM_spreadCell_45 rfl 1 rfl ?_
      refine mv_getR (pc := 46) (f := 6) (kc_1 l D E B sa) (Nat.le_of_ble_eq_true rfl) wt_4_86 de_PM_spreadCell_46 h40 (fun x46 e46 h46 => ?_)
      refine mv_iload_n (pc := 49) (i := 3) de_PM_spreadCell_49 rfl 3 rfl ?_
      obtain ⟨a50, ha, h50a⟩ := mj_bindE h46
      subst ha
      refine mv_iald (pc := 50) (t := 0) rfl de_PM_spreadCell_50 h50a (fun x50 e50 h50 => ?_)
      refine mv_icmp_gt (pc := 51) (tgt := 75) de_PM_spreadCell_51 (by decide) h50 (fun hc51 h51 => ?_) (fun hc51 h51 => ?_)
      · refine mv_iconst (pc := 75) (v := 1) de_PM_spreadCell_75 (by decide) ?_
        exact mv_sub [1, 2, 3, 4, 5, 6, 7, 0] rfl (tb_PM_spreadCell_76 l D E B sa M0 M1 r N (jb_PM_spreadCell_12 N n) ih M v0 v1 v3 v4 v5 v6 v7 x40 1 h51)
      · refine mv_aload_n (pc := 54) (i := 0) de_PM_spreadCell_54 rfl 1 rfl ?_
        refine mv_getR (pc := 55) (f := 7) (kc_1 l D E B sa) (Nat.le_of_ble_eq_true rfl) wt_4_87 de_PM_spreadCell_55 h51 (fun x55 e55 h55 => ?_)
        refine mv_iconst (pc := 58) (v := 3) de_PM_spreadCell_58 (by decide) ?_
        refine mv_iload_n (pc := 59) (i := 3) de_PM_spreadCell_59 rfl 3 rfl ?_
        refine mv_imul (pc := 60) de_PM_spreadCell_60 ?_
        refine mv_aload_n (pc := 61) (i := 0) de_PM_spreadCell_61 rfl 1 rfl ?_
        refine mv_getR (pc := 62) (f := 6) (kc_1 l D E B sa) (Nat.le_of_ble_eq_true rfl) wt_4_86 de_PM_spreadCell_62 h55 (fun x62 e62 h62 => ?_)
        refine mv_iload_n (pc := 65) (i := 3) de_PM_spreadCell_65 rfl 3 rfl ?_
        obtain ⟨a66, ha, h66a⟩ := mj_bindE h62
        subst ha
        refine mv_iald (pc := 66) (t := 0) rfl de_PM_spreadCell_66 h66a (fun x66 e66 h66 => ?_)
        refine mv_iadd (pc := 67) de_PM_spreadCell_67 ?_
        refine mv_iload (pc := 68) de_PM_spreadCell_68 7 rfl ?_
        refine mv_isub (pc := 70) de_PM_spreadCell_70 ?_
        obtain ⟨a71, ha, h71a⟩ := mj_bindE h66
        subst ha
        refine mv_iald (pc := 71) (t := 0) rfl de_PM_spreadCell_71 h71a (fun x71 e71 h71 => ?_)
        refine mv_goto (pc := 72) (tgt := 76) de_PM_spreadCell_72 (by decide) ?_
        exact mv_sub [1, 2, 3, 4, 5, 6, 7, 0] rfl (tb_PM_spreadCell_76 l D E B sa M0 M1 r N (jb_PM_spreadCell_12 N n) ih M v0 v1 v3 v4 v5 v6 v7 x40 x71 h71)
set_option maxHeartbeats 4000000 in
set_option maxRecDepth 100000 in
theorem tb_PM_spreadCell_0 (l : Launch) (D : va_G) (E : Nat → ClassId) (B : Nat) (sa : (Nat → Nat) × Nat × (Nat → Int32)) (M0 M1 : mv_M) (r : Int32) (N : Nat) (M : mv_M) (v0 : Nat) (v1 : Int32) (v2 : Int32) (v3 : Int32) (hJ : jb_PM_spreadCell_0 N M v0 v1 v2 v3 = some (r, M1)) : mv_G (xg l D E B sa) kd_PM_spreadCell M0 M1 (some (.int r)) M 0 [(0, va_rf (some v0)), (1, .int v1), (2, .int v2), (3, .int v3)] [] := by
  unfold jb_PM_spreadCell_0 at hJ
  refine mv_iload_n (pc := 0) (i := 2) de_PM_spreadCell_0 rfl 2 rfl ?_
  refine mv_istore (pc := 1) (lv' := [(4, .int v2), (0, va_rf (some v0)), (1, .int v1), (2, .int v2), (3, .int v3)]) de_PM_spreadCell_1 (Nat.le_of_ble_eq_true rfl) rfl ?_
  refine mv_iconst (pc := 3) (v := 0) de_PM_spreadCell_3 (by decide) ?_
  refine mv_istore (pc := 4) (lv' := [(5, .int 0), (4, .int v2), (0, va_rf (some v0)), (1, .int v1), (2, .int v2), (3, .int v3)]) de_PM_spreadCell_4 (Nat.le_of_ble_eq_true rfl) rfl ?_
  refine mv_iconst (pc := 6) (v := 1) de_PM_spreadCell_6 (by decide) ?_
  refine mv_istore (pc := 7) (lv' := [(6, .int 1), (5, .int 0), (4, .int v2), (0, va_rf (some v0)), (1, .int v1), (2, .int v2), (3, .int v3)]) de_PM_spreadCell_7 (Nat.le_of_ble_eq_true rfl) rfl ?_
  refine mv_iconst (pc := 9) (v := 1) de_PM_spreadCell_9 (by decide) ?_
  refine mv_istore (pc := 10) (lv' := [(7, .int 1), (6, .int 1), (5, .int 0), (4, .int v2), (0, va_rf (some v0)), (1, .int v1), (2, .int v2), (3, .int v3)]) de_PM_spreadCell_10 (Nat.le_of_ble_eq_true rfl) rfl ?_
  exact mv_sub [4, 5, 7, 3, 2, 1, 0] rfl (tb_PM_spreadCell_12 l D E B sa M0 M1 r N N M v0 v1 v3 v2 0 1 1 hJ)
theorem cm_PM_spreadCell (l : Launch) (D : va_G) (E : Nat → ClassId) (B : Nat) (sa : (Nat → Nat) × Nat × (Nat → Int32)) (N : Nat) (M : mv_M) (v0 : Nat) (v1 : Int32) (v2 : Int32) (v3 : Int32) (r : Int32) (M1 : mv_M) (hJ : jf_PM_spreadCell N M v0 v1 v2 v3 = some (r, M1)) : mv_Met (xg l D E B sa) yn_PM_spreadCell cd_PM_spreadCell 10 (some .int) 0 0 [va_rf (some v0), .int v1, .int v2, .int v3] M (some (.int r)) M1 :=
  mv_enter (by decide) (Nat.le_of_ble_eq_true rfl) (mv_sub (lv := [(0, va_rf (some v0)), (1, .int v1), (2, .int v2), (3, .int v3)]) [0, 1, 2, 3] rfl (tb_PM_spreadCell_0 l D E B sa M M1 r N M v0 v1 v2 v3 hJ))
/-! ===== PlainLearnerModel.alongCell(IIII)I ===== -/
abbrev kd_PM_alongCell : mv_Kd := (cd_PM_alongCell, 7, "PlainLearnerModel", "alongCell", (some .int), 0, 0)
theorem de_PM_alongCell_0 : decode cd_PM_alongCell 0 = .ok (.iconst 1, 1) := by decide +kernel
theorem de_PM_alongCell_1 : decode cd_PM_alongCell 1 = .ok (.istore 5, 2) := by decide +kernel
theorem de_PM_alongCell_3 : decode cd_PM_alongCell 3 = .ok (.iload_n 2, 1) := by decide +kernel
theorem de_PM_alongCell_4 : decode cd_PM_alongCell 4 = .ok (.iconst 1, 1) := by decide +kernel
theorem de_PM_alongCell_5 : decode cd_PM_alongCell 5 = .ok (.iadd, 1) := by decide +kernel
theorem de_PM_alongCell_6 : decode cd_PM_alongCell 6 = .ok (.istore 6, 2) := by decide +kernel
theorem de_PM_alongCell_8 : decode cd_PM_alongCell 8 = .ok (.iload 6, 2) := by decide +kernel
theorem de_PM_alongCell_10 : decode cd_PM_alongCell 10 = .ok (.aload_n 0, 1) := by decide +kernel
theorem de_PM_alongCell_11 : decode cd_PM_alongCell 11 = .ok (.getfield 19, 3) := by decide +kernel
theorem de_PM_alongCell_14 : decode cd_PM_alongCell 14 = .ok (.iload_n 1, 1) := by decide +kernel
theorem de_PM_alongCell_15 : decode cd_PM_alongCell 15 = .ok (.iaload, 1) := by decide +kernel
theorem de_PM_alongCell_16 : decode cd_PM_alongCell 16 = .ok (.if_icmp .ge 25, 3) := by decide +kernel
theorem de_PM_alongCell_19 : decode cd_PM_alongCell 19 = .ok (.iload 5, 2) := by decide +kernel
theorem de_PM_alongCell_21 : decode cd_PM_alongCell 21 = .ok (.aload_n 0, 1) := by decide +kernel
theorem de_PM_alongCell_22 : decode cd_PM_alongCell 22 = .ok (.getfield 22, 3) := by decide +kernel
theorem de_PM_alongCell_25 : decode cd_PM_alongCell 25 = .ok (.iconst 3, 1) := by decide +kernel
theorem de_PM_alongCell_26 : decode cd_PM_alongCell 26 = .ok (.iload_n 1, 1) := by decide +kernel
theorem de_PM_alongCell_27 : decode cd_PM_alongCell 27 = .ok (.imul, 1) := by decide +kernel
theorem de_PM_alongCell_28 : decode cd_PM_alongCell 28 = .ok (.iload 6, 2) := by decide +kernel
theorem de_PM_alongCell_30 : decode cd_PM_alongCell 30 = .ok (.iadd, 1) := by decide +kernel
theorem de_PM_alongCell_31 : decode cd_PM_alongCell 31 = .ok (.iaload, 1) := by decide +kernel
theorem de_PM_alongCell_32 : decode cd_PM_alongCell 32 = .ok (.imul, 1) := by decide +kernel
theorem de_PM_alongCell_33 : decode cd_PM_alongCell 33 = .ok (.istore 5, 2) := by decide +kernel
theorem de_PM_alongCell_35 : decode cd_PM_alongCell 35 = .ok (.iinc 6 1, 3) := by decide +kernel
theorem de_PM_alongCell_38 : decode cd_PM_alongCell 38 = .ok (.goto (-30), 3) := by decide +kernel
theorem de_PM_alongCell_41 : decode cd_PM_alongCell 41 = .ok (.iload_n 3, 1) := by decide +kernel
theorem de_PM_alongCell_42 : decode cd_PM_alongCell 42 = .ok (.iload 5, 2) := by decide +kernel
theorem de_PM_alongCell_44 : decode cd_PM_alongCell 44 = .ok (.idiv, 1) := by decide +kernel
theorem de_PM_alongCell_45 : decode cd_PM_alongCell 45 = .ok (.aload_n 0, 1) := by decide +kernel
theorem de_PM_alongCell_46 : decode cd_PM_alongCell 46 = .ok (.getfield 22, 3) := by decide +kernel
theorem de_PM_alongCell_49 : decode cd_PM_alongCell 49 = .ok (.iconst 3, 1) := by decide +kernel
theorem de_PM_alongCell_50 : decode cd_PM_alongCell 50 = .ok (.iload_n 1, 1) := by decide +kernel
theorem de_PM_alongCell_51 : decode cd_PM_alongCell 51 = .ok (.imul, 1) := by decide +kernel
theorem de_PM_alongCell_52 : decode cd_PM_alongCell 52 = .ok (.iload_n 2, 1) := by decide +kernel
theorem de_PM_alongCell_53 : decode cd_PM_alongCell 53 = .ok (.iadd, 1) := by decide +kernel
theorem de_PM_alongCell_54 : decode cd_PM_alongCell 54 = .ok (.iaload, 1) := by decide +kernel
theorem de_PM_alongCell_55 : decode cd_PM_alongCell 55 = .ok (.imul, 1) := by decide +kernel
theorem de_PM_alongCell_56 : decode cd_PM_alongCell 56 = .ok (.iload 4, 2) := by decide +kernel
theorem de_PM_alongCell_58 : decode cd_PM_alongCell 58 = .ok (.iadd, 1) := by decide +kernel
theorem de_PM_alongCell_59 : decode cd_PM_alongCell 59 = .ok (.iload 5, 2) := by decide +kernel
theorem de_PM_alongCell_61 : decode cd_PM_alongCell 61 = .ok (.imul, 1) := by decide +kernel
theorem de_PM_alongCell_62 : decode cd_PM_alongCell 62 = .ok (.iload_n 3, 1) := by decide +kernel
theorem de_PM_alongCell_63 : decode cd_PM_alongCell 63 = .ok (.iload 5, 2) := by decide +kernel
theorem de_PM_alongCell_65 : decode cd_PM_alongCell 65 = .ok (.irem, 1) := by decide +kernel
theorem de_PM_alongCell_66 : decode cd_PM_alongCell 66 = .ok (.iadd, 1) := by decide +kernel
theorem de_PM_alongCell_67 : decode cd_PM_alongCell 67 = .ok (.ireturn, 1) := by decide +kernel
def jb_PM_alongCell_8 (N : Nat) : Nat → mv_M → Nat → Int32 → Int32 → Int32 → Int32 → Int32 → Int32 → Option (Int32 × mv_M)
  | 0, _, _, _, _, _, _, _, _ => none
  | n + 1, M, v0, v1, v2, v3, v4, v5, v6 =>
    Option.bind (mj_getR M v0 1 6) fun x11 =>
    Option.bind x11 fun a15 =>
    Option.bind (mj_ild M a15 0 v1) fun x15 =>
    if x15 ≤ v6 then (if v5 = 0 then none else
    Option.bind (mj_getR M v0 1 7) fun x46 =>
    Option.bind x46 fun a54 =>
    Option.bind (mj_ild M a54 0 ((3 * v1) + v2)) fun x54 =>
    if v5 = 0 then none else
    some ((((((v3 / v5) * x54) + v4) * v5) + (v3 - v3 / v5 * v5)), M)) else
    Option.bind (mj_getR M v0 1 7) fun x22 =>
    Option.bind x22 fun a31 =>
    Option.bind (mj_ild M a31 0 ((3 * v1) + v6)) fun x31 =>
    jb_PM_alongCell_8 N n M v0 v1 v2 v3 v4 (v5 * x31) (v6 + 1)
def jb_PM_alongCell_0 (N : Nat) (M : mv_M) (v0 : Nat) (v1 : Int32) (v2 : Int32) (v3 : Int32) (v4 : Int32) : Option (Int32 × mv_M) :=
  jb_PM_alongCell_8 N N M v0 v1 v2 v3 v4 1 (v2 + 1)
def jf_PM_alongCell (N : Nat) (M : mv_M) (v0 : Nat) (v1 : Int32) (v2 : Int32) (v3 : Int32) (v4 : Int32) : Option (Int32 × mv_M) := jb_PM_alongCell_0 N M v0 v1 v2 v3 v4
set_option maxHeartbeats 4000000 in
set_option maxRecDepth 100000 in
theorem tb_PM_alongCell_8 (l : Launch) (D : va_G) (E : Nat → ClassId) (B : Nat) (sa : (Nat → Nat) × Nat × (Nat → Int32)) (M0 M1 : mv_M) (r : Int32) (N : Nat) : ∀ (n : Nat) (M : mv_M) (v0 : Nat) (v1 : Int32) (v2 : Int32) (v3 : Int32) (v4 : Int32) (v5 : Int32) (v6 : Int32) (hJ : jb_PM_alongCell_8 N n M v0 v1 v2 v3 v4 v5 v6 = some (r, M1)), mv_G (xg l D E B sa) kd_PM_alongCell M0 M1 (some (.int r)) M 8 [(0, va_rf (some v0)), (1, .int v1), (2, .int v2), (3, .int v3), (4, .int v4), (5, .int v5), (6, .int v6)] [] := by
  intro n
  induction n with
  | zero => intro M v0 v1 v2 v3 v4 v5 v6 hJ; cases hJ
  | succ n ih =>
    intro M v0 v1 v2 v3 v4 v5 v6 hJ
    rw [jb_PM_alongCell_8] at hJ
    refine mv_iload (pc := 8) de_PM_alongCell_8 6 rfl ?_
    refine mv_aload_n (pc := 10) (i := 0) de_PM_alongCell_10 rfl 0 rfl ?_
    refine mv_getR (pc := 11) (f := 6) (kc_1 l D E B sa) (Nat.le_of_ble_eq_true rfl) wt_4_86 de_PM_alongCell_11 hJ (fun x11 e11 h11 => ?_)
    refine mv_iload_n (pc := 14) (i := 1) de_PM_alongCell_14 rfl 1 rfl ?_
    obtain ⟨a15, ha, h15a⟩ := mj_bindE h11
    subst ha
    refine mv_iald (pc := 15) (t := 0) rfl de_PM_alongCell_15 h15a (fun x15 e15 h15 => ?_)
    refine mv_icmp_ge (pc := 16) (tgt := 41) de_PM_alongCell_16 (by decide) h15 (fun hc16 h16 => ?_) (fun hc16 h16 => ?_)
    · refine mv_iload_n (pc := 41) (i := 3) de_PM_alongCell_41 rfl 3 rfl ?_
      refine mv_iload (pc := 42) de_PM_alongCell_42 5 rfl ?_
      refine mv_idiv (pc := 44) de_PM_alongCell_44 h16 (fun hc_44 h44 => ?_)
      refine mv_aload_n (pc := 45) (i := 0) de_PM_alongCell_45 rfl 0 rfl ?_
      refine mv_getR (pc := 46) (f := 7) (kc_1 l D E B sa) (Nat.le_of_ble_eq_true rfl) wt_4_87 de_PM_alongCell_46 h44 (fun x46 e46 h46 => ?_)
      refine mv_iconst (pc := 49) (v := 3) de_PM_alongCell_49 (by decide) ?_
      refine mv_iload_n (pc := 50) (i := 1) de_PM_alongCell_50 rfl 1 rfl ?_
      refine mv_imul (pc := 51) de_PM_alongCell_51 ?_
      refine mv_iload_n (pc := 52) (i := 2) de_PM_alongCell_52 rfl 2 rfl ?_
      refine mv_iadd (pc := 53) de_PM_alongCell_53 ?_
      obtain ⟨a54, ha, h54a⟩ := mj_bindE h46
      subst ha
      refine mv_iald (pc := 54) (t := 0) rfl de_PM_alongCell_54 h54a (fun x54 e54 h54 => ?_)
      refine mv_imul (pc := 55) de_PM_alongCell_55 ?_
      refine mv_iload (pc := 56) de_PM_alongCell_56 4 rfl ?_
      refine mv_iadd (pc := 58) de_PM_alongCell_58 ?_
      refine mv_iload (pc := 59) de_PM_alongCell_59 5 rfl ?_
      refine mv_imul (pc := 61) de_PM_alongCell_61 ?_
      refine mv_iload_n (pc := 62) (i := 3) de_PM_alongCell_62 rfl 3 rfl ?_
      refine mv_iload (pc := 63) de_PM_alongCell_63 5 rfl ?_
      refine mv_irem (pc := 65) de_PM_alongCell_65 h54 (fun hc_65 h65 => ?_)
      refine mv_iadd (pc := 66) de_PM_alongCell_66 ?_
      exact mv_iret (pc := 67) rfl de_PM_alongCell_67 h65
    · refine mv_iload (pc := 19) de_PM_alongCell_19 5 rfl ?_
      refine mv_aload_n (pc := 21) (i := 0) de_PM_alongCell_21 rfl 0 rfl ?_
      refine mv_getR (pc := 22) (f := 7) (kc_1 l D E B sa) (Nat.le_of_ble_eq_true rfl) wt_4_87 de_PM_alongCell_22 h16 (fun x22 e22 h22 => ?_)
      refine mv_iconst (pc := 25) (v := 3) de_PM_alongCell_25 (by decide) ?_
      refine mv_iload_n (pc := 26) (i := 1) de_PM_alongCell_26 rfl 1 rfl ?_
      refine mv_imul (pc := 27) de_PM_alongCell_27 ?_
      refine mv_iload (pc := 28) de_PM_alongCell_28 6 rfl ?_
      refine mv_iadd (pc := 30) de_PM_alongCell_30 ?_
      obtain ⟨a31, ha, h31a⟩ := mj_bindE h22
      subst ha
      refine mv_iald (pc := 31) (t := 0) rfl de_PM_alongCell_31 h31a (fun x31 e31 h31 => ?_)
      refine mv_imul (pc := 32) de_PM_alongCell_32 ?_
      refine mv_istore (pc := 33) (lv' := [(5, .int (v5 * x31)), (0, va_rf (some v0)), (1, .int v1), (2, .int v2), (3, .int v3), (4, .int v4), (6, .int v6)]) de_PM_alongCell_33 (Nat.le_of_ble_eq_true rfl) rfl ?_
      refine mv_iinc (pc := 35) (v := (v6 + 1)) (lv' := [(6, .int (v6 + 1)), (5, .int (v5 * x31)), (0, va_rf (some v0)), (1, .int v1), (2, .int v2), (3, .int v3), (4, .int v4)]) de_PM_alongCell_35 6 rfl rfl (Nat.le_of_ble_eq_true rfl) rfl ?_
      refine mv_goto (pc := 38) (tgt := 8) de_PM_alongCell_38 (by decide) ?_
      exact mv_sub [2, 3, 4, 5, 6, 1, 0] rfl (ih M v0 v1 v2 v3 v4 (v5 * x31) (v6 + 1) h31)
set_option maxHeartbeats 4000000 in
set_option maxRecDepth 100000 in
theorem tb_PM_alongCell_0 (l : Launch) (D : va_G) (E : Nat → ClassId) (B : Nat) (sa : (Nat → Nat) × Nat × (Nat → Int32)) (M0 M1 : mv_M) (r : Int32) (N : Nat) (M : mv_M) (v0 : Nat) (v1 : Int32) (v2 : Int32) (v3 : Int32) (v4 : Int32) (hJ : jb_PM_alongCell_0 N M v0 v1 v2 v3 v4 = some (r, M1)) : mv_G (xg l D E B sa) kd_PM_alongCell M0 M1 (some (.int r)) M 0 [(0, va_rf (some v0)), (1, .int v1), (2, .int v2), (3, .int v3), (4, .int v4)] [] := by
  unfold jb_PM_alongCell_0 at hJ
  refine mv_iconst (pc := 0) (v := 1) de_PM_alongCell_0 (by decide) ?_
  refine mv_istore (pc := 1) (lv' := [(5, .int 1), (0, va_rf (some v0)), (1, .int v1), (2, .int v2), (3, .int v3), (4, .int v4)]) de_PM_alongCell_1 (Nat.le_of_ble_eq_true rfl) rfl ?_
  refine mv_iload_n (pc := 3) (i := 2) de_PM_alongCell_3 rfl 3 rfl ?_
  refine mv_iconst (pc := 4) (v := 1) de_PM_alongCell_4 (by decide) ?_
  refine mv_iadd (pc := 5) de_PM_alongCell_5 ?_
  refine mv_istore (pc := 6) (lv' := [(6, .int (v2 + 1)), (5, .int 1), (0, va_rf (some v0)), (1, .int v1), (2, .int v2), (3, .int v3), (4, .int v4)]) de_PM_alongCell_6 (Nat.le_of_ble_eq_true rfl) rfl ?_
  exact mv_sub [2, 3, 4, 5, 6, 1, 0] rfl (tb_PM_alongCell_8 l D E B sa M0 M1 r N N M v0 v1 v2 v3 v4 1 (v2 + 1) hJ)
theorem cm_PM_alongCell (l : Launch) (D : va_G) (E : Nat → ClassId) (B : Nat) (sa : (Nat → Nat) × Nat × (Nat → Int32)) (N : Nat) (M : mv_M) (v0 : Nat) (v1 : Int32) (v2 : Int32) (v3 : Int32) (v4 : Int32) (r : Int32) (M1 : mv_M) (hJ : jf_PM_alongCell N M v0 v1 v2 v3 v4 = some (r, M1)) : mv_Met (xg l D E B sa) yn_PM_alongCell cd_PM_alongCell 7 (some .int) 0 0 [va_rf (some v0), .int v1, .int v2, .int v3, .int v4] M (some (.int r)) M1 :=
  mv_enter (by decide) (Nat.le_of_ble_eq_true rfl) (mv_sub (lv := [(0, va_rf (some v0)), (1, .int v1), (2, .int v2), (3, .int v3), (4, .int v4)]) [0, 1, 2, 3, 4] rfl (tb_PM_alongCell_0 l D E B sa M M1 r N M v0 v1 v2 v3 v4 hJ))
/-! ===== PlainLearnerModel.turnedCell(II)I ===== -/
abbrev kd_PM_turnedCell : mv_Kd := (cd_PM_turnedCell, 7, "PlainLearnerModel", "turnedCell", (some .int), 0, 0)
theorem de_PM_turnedCell_0 : decode cd_PM_turnedCell 0 = .ok (.aload_n 0, 1) := by decide +kernel
theorem de_PM_turnedCell_1 : decode cd_PM_turnedCell 1 = .ok (.getfield 22, 3) := by decide +kernel
theorem de_PM_turnedCell_4 : decode cd_PM_turnedCell 4 = .ok (.iconst 3, 1) := by decide +kernel
theorem de_PM_turnedCell_5 : decode cd_PM_turnedCell 5 = .ok (.iload_n 1, 1) := by decide +kernel
theorem de_PM_turnedCell_6 : decode cd_PM_turnedCell 6 = .ok (.imul, 1) := by decide +kernel
theorem de_PM_turnedCell_7 : decode cd_PM_turnedCell 7 = .ok (.aload_n 0, 1) := by decide +kernel
theorem de_PM_turnedCell_8 : decode cd_PM_turnedCell 8 = .ok (.getfield 19, 3) := by decide +kernel
theorem de_PM_turnedCell_11 : decode cd_PM_turnedCell 11 = .ok (.iload_n 1, 1) := by decide +kernel
theorem de_PM_turnedCell_12 : decode cd_PM_turnedCell 12 = .ok (.iaload, 1) := by decide +kernel
theorem de_PM_turnedCell_13 : decode cd_PM_turnedCell 13 = .ok (.iadd, 1) := by decide +kernel
theorem de_PM_turnedCell_14 : decode cd_PM_turnedCell 14 = .ok (.iconst 2, 1) := by decide +kernel
theorem de_PM_turnedCell_15 : decode cd_PM_turnedCell 15 = .ok (.isub, 1) := by decide +kernel
theorem de_PM_turnedCell_16 : decode cd_PM_turnedCell 16 = .ok (.iaload, 1) := by decide +kernel
theorem de_PM_turnedCell_17 : decode cd_PM_turnedCell 17 = .ok (.istore_n 3, 1) := by decide +kernel
theorem de_PM_turnedCell_18 : decode cd_PM_turnedCell 18 = .ok (.aload_n 0, 1) := by decide +kernel
theorem de_PM_turnedCell_19 : decode cd_PM_turnedCell 19 = .ok (.getfield 22, 3) := by decide +kernel
theorem de_PM_turnedCell_22 : decode cd_PM_turnedCell 22 = .ok (.iconst 3, 1) := by decide +kernel
theorem de_PM_turnedCell_23 : decode cd_PM_turnedCell 23 = .ok (.iload_n 1, 1) := by decide +kernel
theorem de_PM_turnedCell_24 : decode cd_PM_turnedCell 24 = .ok (.imul, 1) := by decide +kernel
theorem de_PM_turnedCell_25 : decode cd_PM_turnedCell 25 = .ok (.aload_n 0, 1) := by decide +kernel
theorem de_PM_turnedCell_26 : decode cd_PM_turnedCell 26 = .ok (.getfield 19, 3) := by decide +kernel
theorem de_PM_turnedCell_29 : decode cd_PM_turnedCell 29 = .ok (.iload_n 1, 1) := by decide +kernel
theorem de_PM_turnedCell_30 : decode cd_PM_turnedCell 30 = .ok (.iaload, 1) := by decide +kernel
theorem de_PM_turnedCell_31 : decode cd_PM_turnedCell 31 = .ok (.iadd, 1) := by decide +kernel
theorem de_PM_turnedCell_32 : decode cd_PM_turnedCell 32 = .ok (.iconst 1, 1) := by decide +kernel
theorem de_PM_turnedCell_33 : decode cd_PM_turnedCell 33 = .ok (.isub, 1) := by decide +kernel
theorem de_PM_turnedCell_34 : decode cd_PM_turnedCell 34 = .ok (.iaload, 1) := by decide +kernel
theorem de_PM_turnedCell_35 : decode cd_PM_turnedCell 35 = .ok (.istore 4, 2) := by decide +kernel
theorem de_PM_turnedCell_37 : decode cd_PM_turnedCell 37 = .ok (.iload_n 3, 1) := by decide +kernel
theorem de_PM_turnedCell_38 : decode cd_PM_turnedCell 38 = .ok (.iload 4, 2) := by decide +kernel
theorem de_PM_turnedCell_40 : decode cd_PM_turnedCell 40 = .ok (.imul, 1) := by decide +kernel
theorem de_PM_turnedCell_41 : decode cd_PM_turnedCell 41 = .ok (.istore 5, 2) := by decide +kernel
theorem de_PM_turnedCell_43 : decode cd_PM_turnedCell 43 = .ok (.iload_n 2, 1) := by decide +kernel
theorem de_PM_turnedCell_44 : decode cd_PM_turnedCell 44 = .ok (.iload 5, 2) := by decide +kernel
theorem de_PM_turnedCell_46 : decode cd_PM_turnedCell 46 = .ok (.irem, 1) := by decide +kernel
theorem de_PM_turnedCell_47 : decode cd_PM_turnedCell 47 = .ok (.istore 6, 2) := by decide +kernel
theorem de_PM_turnedCell_49 : decode cd_PM_turnedCell 49 = .ok (.iload_n 2, 1) := by decide +kernel
theorem de_PM_turnedCell_50 : decode cd_PM_turnedCell 50 = .ok (.iload 5, 2) := by decide +kernel
theorem de_PM_turnedCell_52 : decode cd_PM_turnedCell 52 = .ok (.idiv, 1) := by decide +kernel
theorem de_PM_turnedCell_53 : decode cd_PM_turnedCell 53 = .ok (.iload 5, 2) := by decide +kernel
theorem de_PM_turnedCell_55 : decode cd_PM_turnedCell 55 = .ok (.imul, 1) := by decide +kernel
theorem de_PM_turnedCell_56 : decode cd_PM_turnedCell 56 = .ok (.iload 6, 2) := by decide +kernel
theorem de_PM_turnedCell_58 : decode cd_PM_turnedCell 58 = .ok (.iload_n 3, 1) := by decide +kernel
theorem de_PM_turnedCell_59 : decode cd_PM_turnedCell 59 = .ok (.irem, 1) := by decide +kernel
theorem de_PM_turnedCell_60 : decode cd_PM_turnedCell 60 = .ok (.iload 4, 2) := by decide +kernel
theorem de_PM_turnedCell_62 : decode cd_PM_turnedCell 62 = .ok (.imul, 1) := by decide +kernel
theorem de_PM_turnedCell_63 : decode cd_PM_turnedCell 63 = .ok (.iadd, 1) := by decide +kernel
theorem de_PM_turnedCell_64 : decode cd_PM_turnedCell 64 = .ok (.iload 6, 2) := by decide +kernel
theorem de_PM_turnedCell_66 : decode cd_PM_turnedCell 66 = .ok (.iload_n 3, 1) := by decide +kernel
theorem de_PM_turnedCell_67 : decode cd_PM_turnedCell 67 = .ok (.idiv, 1) := by decide +kernel
theorem de_PM_turnedCell_68 : decode cd_PM_turnedCell 68 = .ok (.iadd, 1) := by decide +kernel
theorem de_PM_turnedCell_69 : decode cd_PM_turnedCell 69 = .ok (.ireturn, 1) := by decide +kernel
def jb_PM_turnedCell_0 (N : Nat) (M : mv_M) (v0 : Nat) (v1 : Int32) (v2 : Int32) : Option (Int32 × mv_M) :=
  Option.bind (mj_getR M v0 1 7) fun x1 =>
  Option.bind (mj_getR M v0 1 6) fun x8 =>
  Option.bind x8 fun a12 =>
  Option.bind (mj_ild M a12 0 v1) fun x12 =>
  Option.bind x1 fun a16 =>
  Option.bind (mj_ild M a16 0 (((3 * v1) + x12) - 2)) fun x16 =>
  Option.bind (mj_getR M v0 1 7) fun x19 =>
  Option.bind (mj_getR M v0 1 6) fun x26 =>
  Option.bind x26 fun a30 =>
  Option.bind (mj_ild M a30 0 v1) fun x30 =>
  Option.bind x19 fun a34 =>
  Option.bind (mj_ild M a34 0 (((3 * v1) + x30) - 1)) fun x34 =>
  if (x16 * x34) = 0 then none else
  if (x16 * x34) = 0 then none else
  if x16 = 0 then none else
  if x16 = 0 then none else
  some (((((v2 / (x16 * x34)) * (x16 * x34)) + (((v2 - v2 / (x16 * x34) * (x16 * x34)) - (v2 - v2 / (x16 * x34) * (x16 * x34)) / x16 * x16) * x34)) + ((v2 - v2 / (x16 * x34) * (x16 * x34)) / x16)), M)
def jf_PM_turnedCell (N : Nat) (M : mv_M) (v0 : Nat) (v1 : Int32) (v2 : Int32) : Option (Int32 × mv_M) := jb_PM_turnedCell_0 N M v0 v1 v2
set_option maxHeartbeats 4000000 in
set_option maxRecDepth 100000 in
theorem tb_PM_turnedCell_0 (l : Launch) (D : va_G) (E : Nat → ClassId) (B : Nat) (sa : (Nat → Nat) × Nat × (Nat → Int32)) (M0 M1 : mv_M) (r : Int32) (N : Nat) (M : mv_M) (v0 : Nat) (v1 : Int32) (v2 : Int32) (hJ : jb_PM_turnedCell_0 N M v0 v1 v2 = some (r, M1)) : mv_G (xg l D E B sa) kd_PM_turnedCell M0 M1 (some (.int r)) M 0 [(0, va_rf (some v0)), (1, .int v1), (2, .int v2)] [] := by
  unfold jb_PM_turnedCell_0 at hJ
  refine mv_aload_n (pc := 0) (i := 0) de_PM_turnedCell_0 rfl 0 rfl ?_
  refine mv_getR (pc := 1) (f := 7) (kc_1 l D E B sa) (Nat.le_of_ble_eq_true rfl) wt_4_87 de_PM_turnedCell_1 hJ (fun x1 e1 h1 => ?_)
  refine mv_iconst (pc := 4) (v := 3) de_PM_turnedCell_4 (by decide) ?_
  refine mv_iload_n (pc := 5) (i := 1) de_PM_turnedCell_5 rfl 1 rfl ?_
  refine mv_imul (pc := 6) de_PM_turnedCell_6 ?_
  refine mv_aload_n (pc := 7) (i := 0) de_PM_turnedCell_7 rfl 0 rfl ?_
  refine mv_getR (pc := 8) (f := 6) (kc_1 l D E B sa) (Nat.le_of_ble_eq_true rfl) wt_4_86 de_PM_turnedCell_8 h1 (fun x8 e8 h8 => ?_)
  refine mv_iload_n (pc := 11) (i := 1) de_PM_turnedCell_11 rfl 1 rfl ?_
  obtain ⟨a12, ha, h12a⟩ := mj_bindE h8
  subst ha
  refine mv_iald (pc := 12) (t := 0) rfl de_PM_turnedCell_12 h12a (fun x12 e12 h12 => ?_)
  refine mv_iadd (pc := 13) de_PM_turnedCell_13 ?_
  refine mv_iconst (pc := 14) (v := 2) de_PM_turnedCell_14 (by decide) ?_
  refine mv_isub (pc := 15) de_PM_turnedCell_15 ?_
  obtain ⟨a16, ha, h16a⟩ := mj_bindE h12
  subst ha
  refine mv_iald (pc := 16) (t := 0) rfl de_PM_turnedCell_16 h16a (fun x16 e16 h16 => ?_)
  refine mv_istore_n (pc := 17) (i := 3) (lv' := [(3, .int x16), (0, va_rf (some v0)), (1, .int v1), (2, .int v2)]) de_PM_turnedCell_17 rfl (Nat.le_of_ble_eq_true rfl) rfl ?_
  refine mv_aload_n (pc := 18) (i := 0) de_PM_turnedCell_18 rfl 1 rfl ?_
  refine mv_getR (pc := 19) (f := 7) (kc_1 l D E B sa) (Nat.le_of_ble_eq_true rfl) wt_4_87 de_PM_turnedCell_19 h16 (fun x19 e19 h19 => ?_)
  refine mv_iconst (pc := 22) (v := 3) de_PM_turnedCell_22 (by decide) ?_
  refine mv_iload_n (pc := 23) (i := 1) de_PM_turnedCell_23 rfl 2 rfl ?_
  refine mv_imul (pc := 24) de_PM_turnedCell_24 ?_
  refine mv_aload_n (pc := 25) (i := 0) de_PM_turnedCell_25 rfl 1 rfl ?_
  refine mv_getR (pc := 26) (f := 6) (kc_1 l D E B sa) (Nat.le_of_ble_eq_true rfl) wt_4_86 de_PM_turnedCell_26 h19 (fun x26 e26 h26 => ?_)
  refine mv_iload_n (pc := 29) (i := 1) de_PM_turnedCell_29 rfl 2 rfl ?_
  obtain ⟨a30, ha, h30a⟩ := mj_bindE h26
  subst ha
  refine mv_iald (pc := 30) (t := 0) rfl de_PM_turnedCell_30 h30a (fun x30 e30 h30 => ?_)
  refine mv_iadd (pc := 31) de_PM_turnedCell_31 ?_
  refine mv_iconst (pc := 32) (v := 1) de_PM_turnedCell_32 (by decide) ?_
  refine mv_isub (pc := 33) de_PM_turnedCell_33 ?_
  obtain ⟨a34, ha, h34a⟩ := mj_bindE h30
  subst ha
  refine mv_iald (pc := 34) (t := 0) rfl de_PM_turnedCell_34 h34a (fun x34 e34 h34 => ?_)
  refine mv_istore (pc := 35) (lv' := [(4, .int x34), (3, .int x16), (0, va_rf (some v0)), (1, .int v1), (2, .int v2)]) de_PM_turnedCell_35 (Nat.le_of_ble_eq_true rfl) rfl ?_
  refine mv_iload_n (pc := 37) (i := 3) de_PM_turnedCell_37 rfl 1 rfl ?_
  refine mv_iload (pc := 38) de_PM_turnedCell_38 0 rfl ?_
  refine mv_imul (pc := 40) de_PM_turnedCell_40 ?_
  refine mv_istore (pc := 41) (lv' := [(5, .int (x16 * x34)), (4, .int x34), (3, .int x16), (0, va_rf (some v0)), (1, .int v1), (2, .int v2)]) de_PM_turnedCell_41 (Nat.le_of_ble_eq_true rfl) rfl ?_
  refine mv_iload_n (pc := 43) (i := 2) de_PM_turnedCell_43 rfl 5 rfl ?_
  refine mv_iload (pc := 44) de_PM_turnedCell_44 0 rfl ?_
  refine mv_irem (pc := 46) de_PM_turnedCell_46 h34 (fun hc_46 h46 => ?_)
  refine mv_istore (pc := 47) (lv' := [(6, .int (v2 - v2 / (x16 * x34) * (x16 * x34))), (5, .int (x16 * x34)), (4, .int x34), (3, .int x16), (0, va_rf (some v0)), (1, .int v1), (2, .int v2)]) de_PM_turnedCell_47 (Nat.le_of_ble_eq_true rfl) rfl ?_
  refine mv_iload_n (pc := 49) (i := 2) de_PM_turnedCell_49 rfl 6 rfl ?_
  refine mv_iload (pc := 50) de_PM_turnedCell_50 1 rfl ?_
  refine mv_idiv (pc := 52) de_PM_turnedCell_52 h46 (fun hc_52 h52 => ?_)
  refine mv_iload (pc := 53) de_PM_turnedCell_53 1 rfl ?_
  refine mv_imul (pc := 55) de_PM_turnedCell_55 ?_
  refine mv_iload (pc := 56) de_PM_turnedCell_56 0 rfl ?_
  refine mv_iload_n (pc := 58) (i := 3) de_PM_turnedCell_58 rfl 3 rfl ?_
  refine mv_irem (pc := 59) de_PM_turnedCell_59 h52 (fun hc_59 h59 => ?_)
  refine mv_iload (pc := 60) de_PM_turnedCell_60 2 rfl ?_
  refine mv_imul (pc := 62) de_PM_turnedCell_62 ?_
  refine mv_iadd (pc := 63) de_PM_turnedCell_63 ?_
  refine mv_iload (pc := 64) de_PM_turnedCell_64 0 rfl ?_
  refine mv_iload_n (pc := 66) (i := 3) de_PM_turnedCell_66 rfl 3 rfl ?_
  refine mv_idiv (pc := 67) de_PM_turnedCell_67 h59 (fun hc_67 h67 => ?_)
  refine mv_iadd (pc := 68) de_PM_turnedCell_68 ?_
  exact mv_iret (pc := 69) rfl de_PM_turnedCell_69 h67
theorem cm_PM_turnedCell (l : Launch) (D : va_G) (E : Nat → ClassId) (B : Nat) (sa : (Nat → Nat) × Nat × (Nat → Int32)) (N : Nat) (M : mv_M) (v0 : Nat) (v1 : Int32) (v2 : Int32) (r : Int32) (M1 : mv_M) (hJ : jf_PM_turnedCell N M v0 v1 v2 = some (r, M1)) : mv_Met (xg l D E B sa) yn_PM_turnedCell cd_PM_turnedCell 7 (some .int) 0 0 [va_rf (some v0), .int v1, .int v2] M (some (.int r)) M1 :=
  mv_enter (by decide) (Nat.le_of_ble_eq_true rfl) (mv_sub (lv := [(0, va_rf (some v0)), (1, .int v1), (2, .int v2)]) [0, 1, 2] rfl (tb_PM_turnedCell_0 l D E B sa M M1 r N M v0 v1 v2 hJ))
/-! ===== PlainLearnerModel.two(IJJJJ)V ===== -/
abbrev kd_PM_two : mv_Kd := (cd_PM_two, 10, "PlainLearnerModel", "two", none, 2, 58)
theorem de_PM_two_0 : decode cd_PM_two 0 = .ok (.iload_n 1, 1) := by decide +kernel
theorem de_PM_two_1 : decode cd_PM_two 1 = .ok (.ifCond .ne 17, 3) := by decide +kernel
theorem de_PM_two_4 : decode cd_PM_two 4 = .ok (.aload_n 0, 1) := by decide +kernel
theorem de_PM_two_5 : decode cd_PM_two 5 = .ok (.lload_n 2, 1) := by decide +kernel
theorem de_PM_two_6 : decode cd_PM_two 6 = .ok (.lload 4, 2) := by decide +kernel
theorem de_PM_two_8 : decode cd_PM_two 8 = .ok (.lload 6, 2) := by decide +kernel
theorem de_PM_two_10 : decode cd_PM_two 10 = .ok (.lload 8, 2) := by decide +kernel
theorem de_PM_two_12 : decode cd_PM_two 12 = .ok (.invokevirtual 141, 3) := by decide +kernel
theorem de_PM_two_15 : decode cd_PM_two 15 = .ok (.goto 53, 3) := by decide +kernel
theorem de_PM_two_18 : decode cd_PM_two 18 = .ok (.iload_n 1, 1) := by decide +kernel
theorem de_PM_two_19 : decode cd_PM_two 19 = .ok (.iconst 1, 1) := by decide +kernel
theorem de_PM_two_20 : decode cd_PM_two 20 = .ok (.if_icmp .ne 18, 3) := by decide +kernel
theorem de_PM_two_23 : decode cd_PM_two 23 = .ok (.aload_n 0, 1) := by decide +kernel
theorem de_PM_two_24 : decode cd_PM_two 24 = .ok (.lload_n 2, 1) := by decide +kernel
theorem de_PM_two_25 : decode cd_PM_two 25 = .ok (.lload 4, 2) := by decide +kernel
theorem de_PM_two_27 : decode cd_PM_two 27 = .ok (.lload 6, 2) := by decide +kernel
theorem de_PM_two_29 : decode cd_PM_two 29 = .ok (.lneg, 1) := by decide +kernel
theorem de_PM_two_30 : decode cd_PM_two 30 = .ok (.lload 8, 2) := by decide +kernel
theorem de_PM_two_32 : decode cd_PM_two 32 = .ok (.invokevirtual 141, 3) := by decide +kernel
theorem de_PM_two_35 : decode cd_PM_two 35 = .ok (.goto 33, 3) := by decide +kernel
theorem de_PM_two_38 : decode cd_PM_two 38 = .ok (.iload_n 1, 1) := by decide +kernel
theorem de_PM_two_39 : decode cd_PM_two 39 = .ok (.iconst 2, 1) := by decide +kernel
theorem de_PM_two_40 : decode cd_PM_two 40 = .ok (.if_icmp .ne 17, 3) := by decide +kernel
theorem de_PM_two_43 : decode cd_PM_two 43 = .ok (.aload_n 0, 1) := by decide +kernel
theorem de_PM_two_44 : decode cd_PM_two 44 = .ok (.lload_n 2, 1) := by decide +kernel
theorem de_PM_two_45 : decode cd_PM_two 45 = .ok (.lload 4, 2) := by decide +kernel
theorem de_PM_two_47 : decode cd_PM_two 47 = .ok (.lload 6, 2) := by decide +kernel
theorem de_PM_two_49 : decode cd_PM_two 49 = .ok (.lload 8, 2) := by decide +kernel
theorem de_PM_two_51 : decode cd_PM_two 51 = .ok (.invokevirtual 145, 3) := by decide +kernel
theorem de_PM_two_54 : decode cd_PM_two 54 = .ok (.goto 14, 3) := by decide +kernel
theorem de_PM_two_57 : decode cd_PM_two 57 = .ok (.aload_n 0, 1) := by decide +kernel
theorem de_PM_two_58 : decode cd_PM_two 58 = .ok (.lload_n 2, 1) := by decide +kernel
theorem de_PM_two_59 : decode cd_PM_two 59 = .ok (.lload 4, 2) := by decide +kernel
theorem de_PM_two_61 : decode cd_PM_two 61 = .ok (.lload 6, 2) := by decide +kernel
theorem de_PM_two_63 : decode cd_PM_two 63 = .ok (.lload 8, 2) := by decide +kernel
theorem de_PM_two_65 : decode cd_PM_two 65 = .ok (.invokevirtual 148, 3) := by decide +kernel
theorem de_PM_two_68 : decode cd_PM_two 68 = .ok (.return_, 1) := by decide +kernel
def jb_PM_two_68 (N : Nat) (M : mv_M) : Option (Unit × mv_M) :=
  some ((), M)
def jb_PM_two_0 (N : Nat) (M : mv_M) (v0 : Nat) (v1 : Int32) (v2 : Int64) (v4 : Int64) (v6 : Int64) (v8 : Int64) : Option (Unit × mv_M) :=
  if v1 = 0 then (mj_ob M v0 1 <|
  mj_call (jf_PM_plus N M v0 v2 v4 v6 v8) fun r12 Mm12 =>
  jb_PM_two_68 N Mm12) else
  if v1 = 1 then (mj_ob M v0 1 <|
  mj_call (jf_PM_plus N M v0 v2 v4 (-v6) v8) fun r32 Mm32 =>
  jb_PM_two_68 N Mm32) else
  if v1 = 2 then (mj_ob M v0 1 <|
  mj_call (jf_PM_times N M v0 v2 v4 v6 v8) fun r51 Mm51 =>
  jb_PM_two_68 N Mm51) else
  mj_ob M v0 1 <|
  mj_call (jf_PM_over N M v0 v2 v4 v6 v8) fun r65 Mm65 =>
  jb_PM_two_68 N Mm65
def jf_PM_two (N : Nat) (M : mv_M) (v0 : Nat) (v1 : Int32) (v2 : Int64) (v4 : Int64) (v6 : Int64) (v8 : Int64) : Option (Unit × mv_M) := jb_PM_two_0 N M v0 v1 v2 v4 v6 v8
set_option maxHeartbeats 4000000 in
set_option maxRecDepth 100000 in
theorem tb_PM_two_68 (l : Launch) (D : va_G) (E : Nat → ClassId) (B : Nat) (sa : (Nat → Nat) × Nat × (Nat → Int32)) (M0 M1 : mv_M) (r : Unit) (N : Nat) (M : mv_M) (hJ : jb_PM_two_68 N M = some (r, M1)) : mv_G (xg l D E B sa) kd_PM_two M0 M1 none M 68 [] [] := by
  unfold jb_PM_two_68 at hJ
  exact mv_vret (pc := 68) rfl de_PM_two_68 hJ
set_option maxHeartbeats 4000000 in
set_option maxRecDepth 100000 in
theorem tb_PM_two_0 (l : Launch) (D : va_G) (E : Nat → ClassId) (B : Nat) (sa : (Nat → Nat) × Nat × (Nat → Int32)) (M0 M1 : mv_M) (r : Unit) (N : Nat) (M : mv_M) (v0 : Nat) (v1 : Int32) (v2 : Int64) (v4 : Int64) (v6 : Int64) (v8 : Int64) (hJ : jb_PM_two_0 N M v0 v1 v2 v4 v6 v8 = some (r, M1)) : mv_G (xg l D E B sa) kd_PM_two M0 M1 none M 0 [(0, va_rf (some v0)), (1, .int v1), (2, .long v2), (4, .long v4), (6, .long v6), (8, .long v8)] [] := by
  unfold jb_PM_two_0 at hJ
  refine mv_iload_n (pc := 0) (i := 1) de_PM_two_0 rfl 1 rfl ?_
  refine mv_if_ne (pc := 1) (tgt := 18) de_PM_two_1 (by decide) hJ (fun hc1 h1 => ?_) (fun hc1 h1 => ?_)
  · refine mv_aload_n (pc := 4) (i := 0) de_PM_two_4 rfl 0 rfl ?_
    refine mv_lload_n (pc := 5) (i := 2) de_PM_two_5 rfl 2 rfl ?_
    refine mv_lload (pc := 6) de_PM_two_6 3 rfl ?_
    refine mv_lload (pc := 8) de_PM_two_8 4 rfl ?_
    refine mv_lload (pc := 10) de_PM_two_10 5 rfl ?_
    obtain ⟨hi12, h12o⟩ := mj_obE h1
    obtain ⟨r12, Mm12, hz12, h12⟩ := mj_callE h12o
    refine mv_callV (pc := 12) (n := 4) (av := [.long v2, .long v4, .long v6, .long v8]) (rest := []) de_PM_two_12 (kc_1 l D E B sa) hi12 (cm_PM_plus l D E B sa N M v0 v2 v4 v6 v8 _ _ hz12) wt_5_26 wt_5_28 wp_37 wt_1_8 wt_5_29 ⟨by decide, by decide, by decide +kernel⟩ rfl ⟨Nat.le_of_ble_eq_true rfl, Nat.le_of_ble_eq_true rfl⟩ (Nat.le_of_ble_eq_true rfl) rfl ?_
    refine mv_goto (pc := 15) (tgt := 68) de_PM_two_15 (by decide) ?_
    exact mv_sub [] rfl (tb_PM_two_68 l D E B sa M0 M1 r N Mm12 h12)
  · refine mv_iload_n (pc := 18) (i := 1) de_PM_two_18 rfl 1 rfl ?_
    refine mv_iconst (pc := 19) (v := 1) de_PM_two_19 (by decide) ?_
    refine mv_icmp_ne (pc := 20) (tgt := 38) de_PM_two_20 (by decide) h1 (fun hc20 h20 => ?_) (fun hc20 h20 => ?_)
    · refine mv_aload_n (pc := 23) (i := 0) de_PM_two_23 rfl 0 rfl ?_
      refine mv_lload_n (pc := 24) (i := 2) de_PM_two_24 rfl 2 rfl ?_
      refine mv_lload (pc := 25) de_PM_two_25 3 rfl ?_
      refine mv_lload (pc := 27) de_PM_two_27 4 rfl ?_
      refine mv_lneg (pc := 29) de_PM_two_29 ?_
      refine mv_lload (pc := 30) de_PM_two_30 5 rfl ?_
      obtain ⟨hi32, h32o⟩ := mj_obE h20
      obtain ⟨r32, Mm32, hz32, h32⟩ := mj_callE h32o
      refine mv_callV (pc := 32) (n := 4) (av := [.long v2, .long v4, .long (-v6), .long v8]) (rest := []) de_PM_two_32 (kc_1 l D E B sa) hi32 (cm_PM_plus l D E B sa N M v0 v2 v4 (-v6) v8 _ _ hz32) wt_5_26 wt_5_28 wp_37 wt_1_8 wt_5_29 ⟨by decide, by decide, by decide +kernel⟩ rfl ⟨Nat.le_of_ble_eq_true rfl, Nat.le_of_ble_eq_true rfl⟩ (Nat.le_of_ble_eq_true rfl) rfl ?_
      refine mv_goto (pc := 35) (tgt := 68) de_PM_two_35 (by decide) ?_
      exact mv_sub [] rfl (tb_PM_two_68 l D E B sa M0 M1 r N Mm32 h32)
    · refine mv_iload_n (pc := 38) (i := 1) de_PM_two_38 rfl 1 rfl ?_
      refine mv_iconst (pc := 39) (v := 2) de_PM_two_39 (by decide) ?_
      refine mv_icmp_ne (pc := 40) (tgt := 57) de_PM_two_40 (by decide) h20 (fun hc40 h40 => ?_) (fun hc40 h40 => ?_)
      · refine mv_aload_n (pc := 43) (i := 0) de_PM_two_43 rfl 0 rfl ?_
        refine mv_lload_n (pc := 44) (i := 2) de_PM_two_44 rfl 2 rfl ?_
        refine mv_lload (pc := 45) de_PM_two_45 3 rfl ?_
        refine mv_lload (pc := 47) de_PM_two_47 4 rfl ?_
        refine mv_lload (pc := 49) de_PM_two_49 5 rfl ?_
        obtain ⟨hi51, h51o⟩ := mj_obE h40
        obtain ⟨r51, Mm51, hz51, h51⟩ := mj_callE h51o
        refine mv_callV (pc := 51) (n := 4) (av := [.long v2, .long v4, .long v6, .long v8]) (rest := []) de_PM_two_51 (kc_1 l D E B sa) hi51 (cm_PM_times l D E B sa N M v0 v2 v4 v6 v8 _ _ hz51) wt_5_30 wt_5_32 wp_38 wt_1_8 wt_5_33 ⟨by decide, by decide, by decide +kernel⟩ rfl ⟨Nat.le_of_ble_eq_true rfl, Nat.le_of_ble_eq_true rfl⟩ (Nat.le_of_ble_eq_true rfl) rfl ?_
        refine mv_goto (pc := 54) (tgt := 68) de_PM_two_54 (by decide) ?_
        exact mv_sub [] rfl (tb_PM_two_68 l D E B sa M0 M1 r N Mm51 h51)
      · refine mv_aload_n (pc := 57) (i := 0) de_PM_two_57 rfl 0 rfl ?_
        refine mv_lload_n (pc := 58) (i := 2) de_PM_two_58 rfl 2 rfl ?_
        refine mv_lload (pc := 59) de_PM_two_59 3 rfl ?_
        refine mv_lload (pc := 61) de_PM_two_61 4 rfl ?_
        refine mv_lload (pc := 63) de_PM_two_63 5 rfl ?_
        obtain ⟨hi65, h65o⟩ := mj_obE h40
        obtain ⟨r65, Mm65, hz65, h65⟩ := mj_callE h65o
        refine mv_callV (pc := 65) (n := 4) (av := [.long v2, .long v4, .long v6, .long v8]) (rest := []) de_PM_two_65 (kc_1 l D E B sa) hi65 (cm_PM_over l D E B sa N M v0 v2 v4 v6 v8 _ _ hz65) wt_5_34 wt_5_36 wp_39 wt_1_8 wt_5_37 ⟨by decide, by decide, by decide +kernel⟩ rfl ⟨Nat.le_of_ble_eq_true rfl, Nat.le_of_ble_eq_true rfl⟩ (Nat.le_of_ble_eq_true rfl) rfl ?_
        exact mv_sub [] rfl (tb_PM_two_68 l D E B sa M0 M1 r N Mm65 h65)
theorem cm_PM_two (l : Launch) (D : va_G) (E : Nat → ClassId) (B : Nat) (sa : (Nat → Nat) × Nat × (Nat → Int32)) (N : Nat) (M : mv_M) (v0 : Nat) (v1 : Int32) (v2 : Int64) (v4 : Int64) (v6 : Int64) (v8 : Int64) (r : Unit) (M1 : mv_M) (hJ : jf_PM_two N M v0 v1 v2 v4 v6 v8 = some (r, M1)) : mv_Met (xg l D E B sa) yn_PM_two cd_PM_two 10 none 2 58 [va_rf (some v0), .int v1, .long v2, .long v4, .long v6, .long v8] M none M1 :=
  mv_enter (by decide) (Nat.le_of_ble_eq_true rfl) (mv_sub (lv := [(0, va_rf (some v0)), (1, .int v1), (2, .long v2), (4, .long v4), (6, .long v6), (8, .long v8)]) [0, 1, 2, 3, 4, 5] rfl (tb_PM_two_0 l D E B sa M M1 r N M v0 v1 v2 v4 v6 v8 hJ))
/-! ===== PlainLearnerModel.product(II)V ===== -/
abbrev kd_PM_product : mv_Kd := (cd_PM_product, 14, "PlainLearnerModel", "product", none, 2, 58)
theorem de_PM_product_0 : decode cd_PM_product 0 = .ok (.aload_n 0, 1) := by decide +kernel
theorem de_PM_product_1 : decode cd_PM_product 1 = .ok (.getfield 13, 3) := by decide +kernel
theorem de_PM_product_4 : decode cd_PM_product 4 = .ok (.iload_n 1, 1) := by decide +kernel
theorem de_PM_product_5 : decode cd_PM_product 5 = .ok (.iaload, 1) := by decide +kernel
theorem de_PM_product_6 : decode cd_PM_product 6 = .ok (.istore_n 3, 1) := by decide +kernel
theorem de_PM_product_7 : decode cd_PM_product 7 = .ok (.aload_n 0, 1) := by decide +kernel
theorem de_PM_product_8 : decode cd_PM_product 8 = .ok (.getfield 16, 3) := by decide +kernel
theorem de_PM_product_11 : decode cd_PM_product 11 = .ok (.iload_n 1, 1) := by decide +kernel
theorem de_PM_product_12 : decode cd_PM_product 12 = .ok (.iaload, 1) := by decide +kernel
theorem de_PM_product_13 : decode cd_PM_product 13 = .ok (.istore 4, 2) := by decide +kernel
theorem de_PM_product_15 : decode cd_PM_product 15 = .ok (.aload_n 0, 1) := by decide +kernel
theorem de_PM_product_16 : decode cd_PM_product 16 = .ok (.iload 4, 2) := by decide +kernel
theorem de_PM_product_18 : decode cd_PM_product 18 = .ok (.iconst 1, 1) := by decide +kernel
theorem de_PM_product_19 : decode cd_PM_product 19 = .ok (.invokevirtual 125, 3) := by decide +kernel
theorem de_PM_product_22 : decode cd_PM_product 22 = .ok (.istore 5, 2) := by decide +kernel
theorem de_PM_product_24 : decode cd_PM_product 24 = .ok (.aload_n 0, 1) := by decide +kernel
theorem de_PM_product_25 : decode cd_PM_product 25 = .ok (.iload_n 3, 1) := by decide +kernel
theorem de_PM_product_26 : decode cd_PM_product 26 = .ok (.iconst 1, 1) := by decide +kernel
theorem de_PM_product_27 : decode cd_PM_product 27 = .ok (.invokevirtual 125, 3) := by decide +kernel
theorem de_PM_product_30 : decode cd_PM_product 30 = .ok (.istore 6, 2) := by decide +kernel
theorem de_PM_product_32 : decode cd_PM_product 32 = .ok (.lconst 0, 1) := by decide +kernel
theorem de_PM_product_33 : decode cd_PM_product 33 = .ok (.lstore 7, 2) := by decide +kernel
theorem de_PM_product_35 : decode cd_PM_product 35 = .ok (.lconst 1, 1) := by decide +kernel
theorem de_PM_product_36 : decode cd_PM_product 36 = .ok (.lstore 9, 2) := by decide +kernel
theorem de_PM_product_38 : decode cd_PM_product 38 = .ok (.iconst 0, 1) := by decide +kernel
theorem de_PM_product_39 : decode cd_PM_product 39 = .ok (.istore 11, 2) := by decide +kernel
theorem de_PM_product_41 : decode cd_PM_product 41 = .ok (.iload 11, 2) := by decide +kernel
theorem de_PM_product_43 : decode cd_PM_product 43 = .ok (.iload 6, 2) := by decide +kernel
theorem de_PM_product_45 : decode cd_PM_product 45 = .ok (.if_icmp .ge 104, 3) := by decide +kernel
theorem de_PM_product_48 : decode cd_PM_product 48 = .ok (.bipush 64, 2) := by decide +kernel
theorem de_PM_product_50 : decode cd_PM_product 50 = .ok (.iload_n 3, 1) := by decide +kernel
theorem de_PM_product_51 : decode cd_PM_product 51 = .ok (.imul, 1) := by decide +kernel
theorem de_PM_product_52 : decode cd_PM_product 52 = .ok (.iload_n 2, 1) := by decide +kernel
theorem de_PM_product_53 : decode cd_PM_product 53 = .ok (.iload 5, 2) := by decide +kernel
theorem de_PM_product_55 : decode cd_PM_product 55 = .ok (.idiv, 1) := by decide +kernel
theorem de_PM_product_56 : decode cd_PM_product 56 = .ok (.iload 6, 2) := by decide +kernel
theorem de_PM_product_58 : decode cd_PM_product 58 = .ok (.imul, 1) := by decide +kernel
theorem de_PM_product_59 : decode cd_PM_product 59 = .ok (.iadd, 1) := by decide +kernel
theorem de_PM_product_60 : decode cd_PM_product 60 = .ok (.iload 11, 2) := by decide +kernel
theorem de_PM_product_62 : decode cd_PM_product 62 = .ok (.iadd, 1) := by decide +kernel
theorem de_PM_product_63 : decode cd_PM_product 63 = .ok (.istore 12, 2) := by decide +kernel
theorem de_PM_product_65 : decode cd_PM_product 65 = .ok (.bipush 64, 2) := by decide +kernel
theorem de_PM_product_67 : decode cd_PM_product 67 = .ok (.iload 4, 2) := by decide +kernel
theorem de_PM_product_69 : decode cd_PM_product 69 = .ok (.imul, 1) := by decide +kernel
theorem de_PM_product_70 : decode cd_PM_product 70 = .ok (.iload 11, 2) := by decide +kernel
theorem de_PM_product_72 : decode cd_PM_product 72 = .ok (.iload 5, 2) := by decide +kernel
theorem de_PM_product_74 : decode cd_PM_product 74 = .ok (.imul, 1) := by decide +kernel
theorem de_PM_product_75 : decode cd_PM_product 75 = .ok (.iadd, 1) := by decide +kernel
theorem de_PM_product_76 : decode cd_PM_product 76 = .ok (.iload_n 2, 1) := by decide +kernel
theorem de_PM_product_77 : decode cd_PM_product 77 = .ok (.iload 5, 2) := by decide +kernel
theorem de_PM_product_79 : decode cd_PM_product 79 = .ok (.irem, 1) := by decide +kernel
theorem de_PM_product_80 : decode cd_PM_product 80 = .ok (.iadd, 1) := by decide +kernel
theorem de_PM_product_81 : decode cd_PM_product 81 = .ok (.istore 13, 2) := by decide +kernel
theorem de_PM_product_83 : decode cd_PM_product 83 = .ok (.aload_n 0, 1) := by decide +kernel
theorem de_PM_product_84 : decode cd_PM_product 84 = .ok (.aload_n 0, 1) := by decide +kernel
theorem de_PM_product_85 : decode cd_PM_product 85 = .ok (.getfield 29, 3) := by decide +kernel
theorem de_PM_product_88 : decode cd_PM_product 88 = .ok (.iload 12, 2) := by decide +kernel
theorem de_PM_product_90 : decode cd_PM_product 90 = .ok (.laload, 1) := by decide +kernel
theorem de_PM_product_91 : decode cd_PM_product 91 = .ok (.aload_n 0, 1) := by decide +kernel
theorem de_PM_product_92 : decode cd_PM_product 92 = .ok (.getfield 33, 3) := by decide +kernel
theorem de_PM_product_95 : decode cd_PM_product 95 = .ok (.iload 12, 2) := by decide +kernel
theorem de_PM_product_97 : decode cd_PM_product 97 = .ok (.laload, 1) := by decide +kernel
theorem de_PM_product_98 : decode cd_PM_product 98 = .ok (.aload_n 0, 1) := by decide +kernel
theorem de_PM_product_99 : decode cd_PM_product 99 = .ok (.getfield 29, 3) := by decide +kernel
theorem de_PM_product_102 : decode cd_PM_product 102 = .ok (.iload 13, 2) := by decide +kernel
theorem de_PM_product_104 : decode cd_PM_product 104 = .ok (.laload, 1) := by decide +kernel
theorem de_PM_product_105 : decode cd_PM_product 105 = .ok (.aload_n 0, 1) := by decide +kernel
theorem de_PM_product_106 : decode cd_PM_product 106 = .ok (.getfield 33, 3) := by decide +kernel
theorem de_PM_product_109 : decode cd_PM_product 109 = .ok (.iload 13, 2) := by decide +kernel
theorem de_PM_product_111 : decode cd_PM_product 111 = .ok (.laload, 1) := by decide +kernel
theorem de_PM_product_112 : decode cd_PM_product 112 = .ok (.invokevirtual 145, 3) := by decide +kernel
theorem de_PM_product_115 : decode cd_PM_product 115 = .ok (.aload_n 0, 1) := by decide +kernel
theorem de_PM_product_116 : decode cd_PM_product 116 = .ok (.lload 7, 2) := by decide +kernel
theorem de_PM_product_118 : decode cd_PM_product 118 = .ok (.lload 9, 2) := by decide +kernel
theorem de_PM_product_120 : decode cd_PM_product 120 = .ok (.aload_n 0, 1) := by decide +kernel
theorem de_PM_product_121 : decode cd_PM_product 121 = .ok (.getfield 81, 3) := by decide +kernel
theorem de_PM_product_124 : decode cd_PM_product 124 = .ok (.aload_n 0, 1) := by decide +kernel
theorem de_PM_product_125 : decode cd_PM_product 125 = .ok (.getfield 84, 3) := by decide +kernel
theorem de_PM_product_128 : decode cd_PM_product 128 = .ok (.invokevirtual 141, 3) := by decide +kernel
theorem de_PM_product_131 : decode cd_PM_product 131 = .ok (.aload_n 0, 1) := by decide +kernel
theorem de_PM_product_132 : decode cd_PM_product 132 = .ok (.getfield 81, 3) := by decide +kernel
theorem de_PM_product_135 : decode cd_PM_product 135 = .ok (.lstore 7, 2) := by decide +kernel
theorem de_PM_product_137 : decode cd_PM_product 137 = .ok (.aload_n 0, 1) := by decide +kernel
theorem de_PM_product_138 : decode cd_PM_product 138 = .ok (.getfield 84, 3) := by decide +kernel
theorem de_PM_product_141 : decode cd_PM_product 141 = .ok (.lstore 9, 2) := by decide +kernel
theorem de_PM_product_143 : decode cd_PM_product 143 = .ok (.iinc 11 1, 3) := by decide +kernel
theorem de_PM_product_146 : decode cd_PM_product 146 = .ok (.goto (-105), 3) := by decide +kernel
theorem de_PM_product_149 : decode cd_PM_product 149 = .ok (.return_, 1) := by decide +kernel
def jb_PM_product_41 (N : Nat) : Nat → mv_M → Nat → Int32 → Int32 → Int32 → Int32 → Int32 → Int64 → Int64 → Int32 → Option (Unit × mv_M)
  | 0, _, _, _, _, _, _, _, _, _, _ => none
  | n + 1, M, v0, v2, v3, v4, v5, v6, v7, v9, v11 =>
    if v6 ≤ v11 then (some ((), M)) else
    if v5 = 0 then none else
    if v5 = 0 then none else
    Option.bind (mj_getR M v0 1 9) fun x85 =>
    Option.bind x85 fun a90 =>
    Option.bind (mj_lld M a90 1 (((64 * v3) + ((v2 / v5) * v6)) + v11)) fun x90 =>
    Option.bind (mj_getR M v0 1 10) fun x92 =>
    Option.bind x92 fun a97 =>
    Option.bind (mj_lld M a97 1 (((64 * v3) + ((v2 / v5) * v6)) + v11)) fun x97 =>
    Option.bind (mj_getR M v0 1 9) fun x99 =>
    Option.bind x99 fun a104 =>
    Option.bind (mj_lld M a104 1 (((64 * v4) + (v11 * v5)) + (v2 - v2 / v5 * v5))) fun x104 =>
    Option.bind (mj_getR M v0 1 10) fun x106 =>
    Option.bind x106 fun a111 =>
    Option.bind (mj_lld M a111 1 (((64 * v4) + (v11 * v5)) + (v2 - v2 / v5 * v5))) fun x111 =>
    mj_ob M v0 1 <|
    mj_call (jf_PM_times N M v0 x90 x97 x104 x111) fun r112 Mm112 =>
    Option.bind (mj_getL Mm112 v0 1 0) fun x121 =>
    Option.bind (mj_getL Mm112 v0 1 1) fun x125 =>
    mj_ob Mm112 v0 1 <|
    mj_call (jf_PM_plus N Mm112 v0 v7 v9 x121 x125) fun r128 Mm128 =>
    Option.bind (mj_getL Mm128 v0 1 0) fun x132 =>
    Option.bind (mj_getL Mm128 v0 1 1) fun x138 =>
    jb_PM_product_41 N n Mm128 v0 v2 v3 v4 v5 v6 x132 x138 (v11 + 1)
def jb_PM_product_0 (N : Nat) (M : mv_M) (v0 : Nat) (v1 : Int32) (v2 : Int32) : Option (Unit × mv_M) :=
  Option.bind (mj_getR M v0 1 4) fun x1 =>
  Option.bind x1 fun a5 =>
  Option.bind (mj_ild M a5 0 v1) fun x5 =>
  Option.bind (mj_getR M v0 1 5) fun x8 =>
  Option.bind x8 fun a12 =>
  Option.bind (mj_ild M a12 0 v1) fun x12 =>
  mj_ob M v0 1 <|
  mj_call (jf_PM_sideOf N M v0 x12 1) fun r19 Mm19 =>
  mj_ob Mm19 v0 1 <|
  mj_call (jf_PM_sideOf N Mm19 v0 x5 1) fun r27 Mm27 =>
  jb_PM_product_41 N N Mm27 v0 v2 x5 x12 r19 r27 0 1 0
def jf_PM_product (N : Nat) (M : mv_M) (v0 : Nat) (v1 : Int32) (v2 : Int32) : Option (Unit × mv_M) := jb_PM_product_0 N M v0 v1 v2
set_option maxHeartbeats 4000000 in
set_option maxRecDepth 100000 in
theorem tb_PM_product_41 (l : Launch) (D : va_G) (E : Nat → ClassId) (B : Nat) (sa : (Nat → Nat) × Nat × (Nat → Int32)) (M0 M1 : mv_M) (r : Unit) (N : Nat) : ∀ (n : Nat) (M : mv_M) (v0 : Nat) (v2 : Int32) (v3 : Int32) (v4 : Int32) (v5 : Int32) (v6 : Int32) (v7 : Int64) (v9 : Int64) (v11 : Int32) (hJ : jb_PM_product_41 N n M v0 v2 v3 v4 v5 v6 v7 v9 v11 = some (r, M1)), mv_G (xg l D E B sa) kd_PM_product M0 M1 none M 41 [(0, va_rf (some v0)), (2, .int v2), (3, .int v3), (4, .int v4), (5, .int v5), (6, .int v6), (7, .long v7), (9, .long v9), (11, .int v11)] [] := by
  intro n
  induction n with
  | zero => intro M v0 v2 v3 v4 v5 v6 v7 v9 v11 hJ; cases hJ
  | succ n ih =>
    intro M v0 v2 v3 v4 v5 v6 v7 v9 v11 hJ
    rw [jb_PM_product_41] at hJ
    refine mv_iload (pc := 41) de_PM_product_41 8 rfl ?_
    refine mv_iload (pc := 43) de_PM_product_43 5 rfl ?_
    refine mv_icmp_ge (pc := 45) (tgt := 149) de_PM_product_45 (by decide) hJ (fun hc45 h45 => ?_) (fun hc45 h45 => ?_)
    · exact mv_vret (pc := 149) rfl de_PM_product_149 h45
    · refine mv_bipush (pc := 48) (v := 64) de_PM_product_48 (by decide) ?_
      refine mv_iload_n (pc := 50) (i := 3) de_PM_product_50 rfl 2 rfl ?_
      refine mv_imul (pc := 51) de_PM_product_51 ?_
      refine mv_iload_n (pc := 52) (i := 2) de_PM_product_52 rfl 1 rfl ?_
      refine mv_iload (pc := 53) de_PM_product_53 4 rfl ?_
      refine mv_idiv (pc := 55) de_PM_product_55 h45 (fun hc_55 h55 => ?_)
      refine mv_iload (pc := 56) de_PM_product_56 5 rfl ?_
      refine mv_imul (pc := 58) de_PM_product_58 ?_
      refine mv_iadd (pc := 59) de_PM_product_59 ?_
      refine mv_iload (pc := 60) de_PM_product_60 8 rfl ?_
      refine mv_iadd (pc := 62) de_PM_product_62 ?_
      refine mv_istore (pc := 63) (lv' := [(12, .int (((64 * v3) + ((v2 / v5) * v6)) + v11)), (0, va_rf (some v0)), (2, .int v2), (3, .int v3), (4, .int v4), (5, .int v5), (6, .int v6), (7, .long v7), (9, .long v9), (11, .int v11)]) de_PM_product_63 (Nat.le_of_ble_eq_true rfl) rfl ?_
      refine mv_bipush (pc := 65) (v := 64) de_PM_product_65 (by decide) ?_
      refine mv_iload (pc := 67) de_PM_product_67 4 rfl ?_
      refine mv_imul (pc := 69) de_PM_product_69 ?_
      refine mv_iload (pc := 70) de_PM_product_70 9 rfl ?_
      refine mv_iload (pc := 72) de_PM_product_72 5 rfl ?_
      refine mv_imul (pc := 74) de_PM_product_74 ?_
      refine mv_iadd (pc := 75) de_PM_product_75 ?_
      refine mv_iload_n (pc := 76) (i := 2) de_PM_product_76 rfl 2 rfl ?_
      refine mv_iload (pc := 77) de_PM_product_77 5 rfl ?_
      refine mv_irem (pc := 79) de_PM_product_79 h55 (fun hc_79 h79 => ?_)
      refine mv_iadd (pc := 80) de_PM_product_80 ?_
      refine mv_istore (pc := 81) (lv' := [(13, .int (((64 * v4) + (v11 * v5)) + (v2 - v2 / v5 * v5))), (12, .int (((64 * v3) + ((v2 / v5) * v6)) + v11)), (0, va_rf (some v0)), (2, .int v2), (3, .int v3), (4, .int v4), (5, .int v5), (6, .int v6), (7, .long v7), (9, .long v9), (11, .int v11)]) de_PM_product_81 (Nat.le_of_ble_eq_true rfl) rfl ?_
      refine mv_aload_n (pc := 83) (i := 0) de_PM_product_83 rfl 2 rfl ?_
      refine mv_aload_n (pc := 84) (i := 0) de_PM_product_84 rfl 2 rfl ?_
      refine mv_getR (pc := 85) (f := 9) (kc_1 l D E B sa) (Nat.le_of_ble_eq_true rfl) wt_4_89 de_PM_product_85 h79 (fun x85 e85 h85 => ?_)
      refine mv_iload (pc := 88) de_PM_product_88 1 rfl ?_
      obtain ⟨a90, ha, h90a⟩ := mj_bindE h85
      subst ha
      refine mv_lald (pc := 90) (t := 1) rfl de_PM_product_90 h90a (fun x90 e90 h90 => ?_)
      refine mv_aload_n (pc := 91) (i := 0) de_PM_product_91 rfl 2 rfl ?_
      refine mv_getR (pc := 92) (f := 10) (kc_1 l D E B sa) (Nat.le_of_ble_eq_true rfl) wt_4_90 de_PM_product_92 h90 (fun x92 e92 h92 => ?_)
      refine mv_iload (pc := 95) de_PM_product_95 1 rfl ?_
      obtain ⟨a97, ha, h97a⟩ := mj_bindE h92
      subst ha
      refine mv_lald (pc := 97) (t := 1) rfl de_PM_product_97 h97a (fun x97 e97 h97 => ?_)
      refine mv_aload_n (pc := 98) (i := 0) de_PM_product_98 rfl 2 rfl ?_
      refine mv_getR (pc := 99) (f := 9) (kc_1 l D E B sa) (Nat.le_of_ble_eq_true rfl) wt_4_89 de_PM_product_99 h97 (fun x99 e99 h99 => ?_)
      refine mv_iload (pc := 102) de_PM_product_102 0 rfl ?_
      obtain ⟨a104, ha, h104a⟩ := mj_bindE h99
      subst ha
      refine mv_lald (pc := 104) (t := 1) rfl de_PM_product_104 h104a (fun x104 e104 h104 => ?_)
      refine mv_aload_n (pc := 105) (i := 0) de_PM_product_105 rfl 2 rfl ?_
      refine mv_getR (pc := 106) (f := 10) (kc_1 l D E B sa) (Nat.le_of_ble_eq_true rfl) wt_4_90 de_PM_product_106 h104 (fun x106 e106 h106 => ?_)
      refine mv_iload (pc := 109) de_PM_product_109 0 rfl ?_
      obtain ⟨a111, ha, h111a⟩ := mj_bindE h106
      subst ha
      refine mv_lald (pc := 111) (t := 1) rfl de_PM_product_111 h111a (fun x111 e111 h111 => ?_)
      obtain ⟨hi112, h112o⟩ := mj_obE h111
      obtain ⟨r112, Mm112, hz112, h112⟩ := mj_callE h112o
      refine mv_callV (pc := 112) (n := 4) (av := [.long x90, .long x97, .long x104, .long x111]) (rest := []) de_PM_product_112 (kc_1 l D E B sa) hi112 (cm_PM_times l D E B sa N M v0 x90 x97 x104 x111 _ _ hz112) wt_5_30 wt_5_32 wp_38 wt_1_8 wt_5_33 ⟨by decide, by decide, by decide +kernel⟩ rfl ⟨Nat.le_of_ble_eq_true rfl, Nat.le_of_ble_eq_true rfl⟩ (Nat.le_of_ble_eq_true rfl) rfl ?_
      refine mv_aload_n (pc := 115) (i := 0) de_PM_product_115 rfl 2 rfl ?_
      refine mv_lload (pc := 116) de_PM_product_116 8 rfl ?_
      refine mv_lload (pc := 118) de_PM_product_118 9 rfl ?_
      refine mv_aload_n (pc := 120) (i := 0) de_PM_product_120 rfl 2 rfl ?_
      refine mv_getL (pc := 121) (f := 0) (kc_1 l D E B sa) (Nat.le_of_ble_eq_true rfl) wt_4_80 de_PM_product_121 h112 (fun x121 e121 h121 => ?_)
      refine mv_aload_n (pc := 124) (i := 0) de_PM_product_124 rfl 2 rfl ?_
      refine mv_getL (pc := 125) (f := 1) (kc_1 l D E B sa) (Nat.le_of_ble_eq_true rfl) wt_4_81 de_PM_product_125 h121 (fun x125 e125 h125 => ?_)
      obtain ⟨hi128, h128o⟩ := mj_obE h125
      obtain ⟨r128, Mm128, hz128, h128⟩ := mj_callE h128o
      refine mv_callV (pc := 128) (n := 4) (av := [.long v7, .long v9, .long x121, .long x125]) (rest := []) de_PM_product_128 (kc_1 l D E B sa) hi128 (cm_PM_plus l D E B sa N Mm112 v0 v7 v9 x121 x125 _ _ hz128) wt_5_26 wt_5_28 wp_37 wt_1_8 wt_5_29 ⟨by decide, by decide, by decide +kernel⟩ rfl ⟨Nat.le_of_ble_eq_true rfl, Nat.le_of_ble_eq_true rfl⟩ (Nat.le_of_ble_eq_true rfl) rfl ?_
      refine mv_aload_n (pc := 131) (i := 0) de_PM_product_131 rfl 2 rfl ?_
      refine mv_getL (pc := 132) (f := 0) (kc_1 l D E B sa) (Nat.le_of_ble_eq_true rfl) wt_4_80 de_PM_product_132 h128 (fun x132 e132 h132 => ?_)
      refine mv_lstore (pc := 135) (lv' := [(7, .long x132), (13, .int (((64 * v4) + (v11 * v5)) + (v2 - v2 / v5 * v5))), (12, .int (((64 * v3) + ((v2 / v5) * v6)) + v11)), (0, va_rf (some v0)), (2, .int v2), (3, .int v3), (4, .int v4), (5, .int v5), (6, .int v6), (9, .long v9), (11, .int v11)]) de_PM_product_135 (Nat.le_of_ble_eq_true rfl) rfl ?_
      refine mv_aload_n (pc := 137) (i := 0) de_PM_product_137 rfl 3 rfl ?_
      refine mv_getL (pc := 138) (f := 1) (kc_1 l D E B sa) (Nat.le_of_ble_eq_true rfl) wt_4_81 de_PM_product_138 h132 (fun x138 e138 h138 => ?_)
      refine mv_lstore (pc := 141) (lv' := [(9, .long x138), (7, .long x132), (13, .int (((64 * v4) + (v11 * v5)) + (v2 - v2 / v5 * v5))), (12, .int (((64 * v3) + ((v2 / v5) * v6)) + v11)), (0, va_rf (some v0)), (2, .int v2), (3, .int v3), (4, .int v4), (5, .int v5), (6, .int v6), (11, .int v11)]) de_PM_product_141 (Nat.le_of_ble_eq_true rfl) rfl ?_
      refine mv_iinc (pc := 143) (v := (v11 + 1)) (lv' := [(11, .int (v11 + 1)), (9, .long x138), (7, .long x132), (13, .int (((64 * v4) + (v11 * v5)) + (v2 - v2 / v5 * v5))), (12, .int (((64 * v3) + ((v2 / v5) * v6)) + v11)), (0, va_rf (some v0)), (2, .int v2), (3, .int v3), (4, .int v4), (5, .int v5), (6, .int v6)]) de_PM_product_143 10 rfl rfl (Nat.le_of_ble_eq_true rfl) rfl ?_
      refine mv_goto (pc := 146) (tgt := 41) de_PM_product_146 (by decide) ?_
      exact mv_sub [5, 6, 7, 8, 9, 10, 2, 1, 0] rfl (ih Mm128 v0 v2 v3 v4 v5 v6 x132 x138 (v11 + 1) h138)
set_option maxHeartbeats 4000000 in
set_option maxRecDepth 100000 in
theorem tb_PM_product_0 (l : Launch) (D : va_G) (E : Nat → ClassId) (B : Nat) (sa : (Nat → Nat) × Nat × (Nat → Int32)) (M0 M1 : mv_M) (r : Unit) (N : Nat) (M : mv_M) (v0 : Nat) (v1 : Int32) (v2 : Int32) (hJ : jb_PM_product_0 N M v0 v1 v2 = some (r, M1)) : mv_G (xg l D E B sa) kd_PM_product M0 M1 none M 0 [(0, va_rf (some v0)), (1, .int v1), (2, .int v2)] [] := by
  unfold jb_PM_product_0 at hJ
  refine mv_aload_n (pc := 0) (i := 0) de_PM_product_0 rfl 0 rfl ?_
  refine mv_getR (pc := 1) (f := 4) (kc_1 l D E B sa) (Nat.le_of_ble_eq_true rfl) wt_4_84 de_PM_product_1 hJ (fun x1 e1 h1 => ?_)
  refine mv_iload_n (pc := 4) (i := 1) de_PM_product_4 rfl 1 rfl ?_
  obtain ⟨a5, ha, h5a⟩ := mj_bindE h1
  subst ha
  refine mv_iald (pc := 5) (t := 0) rfl de_PM_product_5 h5a (fun x5 e5 h5 => ?_)
  refine mv_istore_n (pc := 6) (i := 3) (lv' := [(3, .int x5), (0, va_rf (some v0)), (1, .int v1), (2, .int v2)]) de_PM_product_6 rfl (Nat.le_of_ble_eq_true rfl) rfl ?_
  refine mv_aload_n (pc := 7) (i := 0) de_PM_product_7 rfl 1 rfl ?_
  refine mv_getR (pc := 8) (f := 5) (kc_1 l D E B sa) (Nat.le_of_ble_eq_true rfl) wt_4_85 de_PM_product_8 h5 (fun x8 e8 h8 => ?_)
  refine mv_iload_n (pc := 11) (i := 1) de_PM_product_11 rfl 2 rfl ?_
  obtain ⟨a12, ha, h12a⟩ := mj_bindE h8
  subst ha
  refine mv_iald (pc := 12) (t := 0) rfl de_PM_product_12 h12a (fun x12 e12 h12 => ?_)
  refine mv_istore (pc := 13) (lv' := [(4, .int x12), (3, .int x5), (0, va_rf (some v0)), (1, .int v1), (2, .int v2)]) de_PM_product_13 (Nat.le_of_ble_eq_true rfl) rfl ?_
  refine mv_aload_n (pc := 15) (i := 0) de_PM_product_15 rfl 2 rfl ?_
  refine mv_iload (pc := 16) de_PM_product_16 0 rfl ?_
  refine mv_iconst (pc := 18) (v := 1) de_PM_product_18 (by decide) ?_
  obtain ⟨hi19, h19o⟩ := mj_obE h12
  obtain ⟨r19, Mm19, hz19, h19⟩ := mj_callE h19o
  refine mv_callV (pc := 19) (n := 2) (av := [.int x12, .int 1]) (rest := []) de_PM_product_19 (kc_1 l D E B sa) hi19 (cm_PM_sideOf l D E B sa N M v0 x12 1 _ _ hz19) wt_4_236 wt_4_238 wp_32 wt_1_8 wt_4_239 ⟨by decide, by decide, by decide +kernel⟩ rfl ⟨Nat.le_of_ble_eq_true rfl, Nat.le_of_ble_eq_true rfl⟩ (Nat.le_of_ble_eq_true rfl) rfl ?_
  refine mv_istore (pc := 22) (lv' := [(5, .int r19), (4, .int x12), (3, .int x5), (0, va_rf (some v0)), (1, .int v1), (2, .int v2)]) de_PM_product_22 (Nat.le_of_ble_eq_true rfl) rfl ?_
  refine mv_aload_n (pc := 24) (i := 0) de_PM_product_24 rfl 3 rfl ?_
  refine mv_iload_n (pc := 25) (i := 3) de_PM_product_25 rfl 2 rfl ?_
  refine mv_iconst (pc := 26) (v := 1) de_PM_product_26 (by decide) ?_
  obtain ⟨hi27, h27o⟩ := mj_obE h19
  obtain ⟨r27, Mm27, hz27, h27⟩ := mj_callE h27o
  refine mv_callV (pc := 27) (n := 2) (av := [.int x5, .int 1]) (rest := []) de_PM_product_27 (kc_1 l D E B sa) hi27 (cm_PM_sideOf l D E B sa N Mm19 v0 x5 1 _ _ hz27) wt_4_236 wt_4_238 wp_32 wt_1_8 wt_4_239 ⟨by decide, by decide, by decide +kernel⟩ rfl ⟨Nat.le_of_ble_eq_true rfl, Nat.le_of_ble_eq_true rfl⟩ (Nat.le_of_ble_eq_true rfl) rfl ?_
  refine mv_istore (pc := 30) (lv' := [(6, .int r27), (5, .int r19), (4, .int x12), (3, .int x5), (0, va_rf (some v0)), (1, .int v1), (2, .int v2)]) de_PM_product_30 (Nat.le_of_ble_eq_true rfl) rfl ?_
  refine mv_lconst (pc := 32) (v := 0) de_PM_product_32 (by decide) ?_
  refine mv_lstore (pc := 33) (lv' := [(7, .long 0), (6, .int r27), (5, .int r19), (4, .int x12), (3, .int x5), (0, va_rf (some v0)), (1, .int v1), (2, .int v2)]) de_PM_product_33 (Nat.le_of_ble_eq_true rfl) rfl ?_
  refine mv_lconst (pc := 35) (v := 1) de_PM_product_35 (by decide) ?_
  refine mv_lstore (pc := 36) (lv' := [(9, .long 1), (7, .long 0), (6, .int r27), (5, .int r19), (4, .int x12), (3, .int x5), (0, va_rf (some v0)), (1, .int v1), (2, .int v2)]) de_PM_product_36 (Nat.le_of_ble_eq_true rfl) rfl ?_
  refine mv_iconst (pc := 38) (v := 0) de_PM_product_38 (by decide) ?_
  refine mv_istore (pc := 39) (lv' := [(11, .int 0), (9, .long 1), (7, .long 0), (6, .int r27), (5, .int r19), (4, .int x12), (3, .int x5), (0, va_rf (some v0)), (1, .int v1), (2, .int v2)]) de_PM_product_39 (Nat.le_of_ble_eq_true rfl) rfl ?_
  exact mv_sub [7, 9, 6, 5, 4, 3, 2, 1, 0] rfl (tb_PM_product_41 l D E B sa M0 M1 r N N Mm27 v0 v2 x5 x12 r19 r27 0 1 0 h27)
theorem cm_PM_product (l : Launch) (D : va_G) (E : Nat → ClassId) (B : Nat) (sa : (Nat → Nat) × Nat × (Nat → Int32)) (N : Nat) (M : mv_M) (v0 : Nat) (v1 : Int32) (v2 : Int32) (r : Unit) (M1 : mv_M) (hJ : jf_PM_product N M v0 v1 v2 = some (r, M1)) : mv_Met (xg l D E B sa) yn_PM_product cd_PM_product 14 none 2 58 [va_rf (some v0), .int v1, .int v2] M none M1 :=
  mv_enter (by decide) (Nat.le_of_ble_eq_true rfl) (mv_sub (lv := [(0, va_rf (some v0)), (1, .int v1), (2, .int v2)]) [0, 1, 2] rfl (tb_PM_product_0 l D E B sa M M1 r N M v0 v1 v2 hJ))
/-! ===== PlainLearnerModel.greatest(II)I ===== -/
abbrev kd_PM_greatest : mv_Kd := (cd_PM_greatest, 9, "PlainLearnerModel", "greatest", (some .int), 1, 27)
theorem de_PM_greatest_0 : decode cd_PM_greatest 0 = .ok (.aload_n 0, 1) := by decide +kernel
theorem de_PM_greatest_1 : decode cd_PM_greatest 1 = .ok (.getfield 13, 3) := by decide +kernel
theorem de_PM_greatest_4 : decode cd_PM_greatest 4 = .ok (.iload_n 1, 1) := by decide +kernel
theorem de_PM_greatest_5 : decode cd_PM_greatest 5 = .ok (.iaload, 1) := by decide +kernel
theorem de_PM_greatest_6 : decode cd_PM_greatest 6 = .ok (.istore_n 3, 1) := by decide +kernel
theorem de_PM_greatest_7 : decode cd_PM_greatest 7 = .ok (.aload_n 0, 1) := by decide +kernel
theorem de_PM_greatest_8 : decode cd_PM_greatest 8 = .ok (.iload_n 3, 1) := by decide +kernel
theorem de_PM_greatest_9 : decode cd_PM_greatest 9 = .ok (.aload_n 0, 1) := by decide +kernel
theorem de_PM_greatest_10 : decode cd_PM_greatest 10 = .ok (.getfield 16, 3) := by decide +kernel
theorem de_PM_greatest_13 : decode cd_PM_greatest 13 = .ok (.iload_n 1, 1) := by decide +kernel
theorem de_PM_greatest_14 : decode cd_PM_greatest 14 = .ok (.iaload, 1) := by decide +kernel
theorem de_PM_greatest_15 : decode cd_PM_greatest 15 = .ok (.invokevirtual 125, 3) := by decide +kernel
theorem de_PM_greatest_18 : decode cd_PM_greatest 18 = .ok (.istore 4, 2) := by decide +kernel
theorem de_PM_greatest_20 : decode cd_PM_greatest 20 = .ok (.iconst 0, 1) := by decide +kernel
theorem de_PM_greatest_21 : decode cd_PM_greatest 21 = .ok (.istore 5, 2) := by decide +kernel
theorem de_PM_greatest_23 : decode cd_PM_greatest 23 = .ok (.iconst 0, 1) := by decide +kernel
theorem de_PM_greatest_24 : decode cd_PM_greatest 24 = .ok (.istore 6, 2) := by decide +kernel
theorem de_PM_greatest_26 : decode cd_PM_greatest 26 = .ok (.iload 6, 2) := by decide +kernel
theorem de_PM_greatest_28 : decode cd_PM_greatest 28 = .ok (.iload 4, 2) := by decide +kernel
theorem de_PM_greatest_30 : decode cd_PM_greatest 30 = .ok (.if_icmp .ge 103, 3) := by decide +kernel
theorem de_PM_greatest_33 : decode cd_PM_greatest 33 = .ok (.bipush 64, 2) := by decide +kernel
theorem de_PM_greatest_35 : decode cd_PM_greatest 35 = .ok (.iload_n 3, 1) := by decide +kernel
theorem de_PM_greatest_36 : decode cd_PM_greatest 36 = .ok (.imul, 1) := by decide +kernel
theorem de_PM_greatest_37 : decode cd_PM_greatest 37 = .ok (.aload_n 0, 1) := by decide +kernel
theorem de_PM_greatest_38 : decode cd_PM_greatest 38 = .ok (.iload_n 3, 1) := by decide +kernel
theorem de_PM_greatest_39 : decode cd_PM_greatest 39 = .ok (.aload_n 0, 1) := by decide +kernel
theorem de_PM_greatest_40 : decode cd_PM_greatest 40 = .ok (.getfield 16, 3) := by decide +kernel
theorem de_PM_greatest_43 : decode cd_PM_greatest 43 = .ok (.iload_n 1, 1) := by decide +kernel
theorem de_PM_greatest_44 : decode cd_PM_greatest 44 = .ok (.iaload, 1) := by decide +kernel
theorem de_PM_greatest_45 : decode cd_PM_greatest 45 = .ok (.iload_n 2, 1) := by decide +kernel
theorem de_PM_greatest_46 : decode cd_PM_greatest 46 = .ok (.iload 6, 2) := by decide +kernel
theorem de_PM_greatest_48 : decode cd_PM_greatest 48 = .ok (.invokevirtual 175, 3) := by decide +kernel
theorem de_PM_greatest_51 : decode cd_PM_greatest 51 = .ok (.iadd, 1) := by decide +kernel
theorem de_PM_greatest_52 : decode cd_PM_greatest 52 = .ok (.istore 7, 2) := by decide +kernel
theorem de_PM_greatest_54 : decode cd_PM_greatest 54 = .ok (.bipush 64, 2) := by decide +kernel
theorem de_PM_greatest_56 : decode cd_PM_greatest 56 = .ok (.iload_n 3, 1) := by decide +kernel
theorem de_PM_greatest_57 : decode cd_PM_greatest 57 = .ok (.imul, 1) := by decide +kernel
theorem de_PM_greatest_58 : decode cd_PM_greatest 58 = .ok (.aload_n 0, 1) := by decide +kernel
theorem de_PM_greatest_59 : decode cd_PM_greatest 59 = .ok (.iload_n 3, 1) := by decide +kernel
theorem de_PM_greatest_60 : decode cd_PM_greatest 60 = .ok (.aload_n 0, 1) := by decide +kernel
theorem de_PM_greatest_61 : decode cd_PM_greatest 61 = .ok (.getfield 16, 3) := by decide +kernel
theorem de_PM_greatest_64 : decode cd_PM_greatest 64 = .ok (.iload_n 1, 1) := by decide +kernel
theorem de_PM_greatest_65 : decode cd_PM_greatest 65 = .ok (.iaload, 1) := by decide +kernel
theorem de_PM_greatest_66 : decode cd_PM_greatest 66 = .ok (.iload_n 2, 1) := by decide +kernel
theorem de_PM_greatest_67 : decode cd_PM_greatest 67 = .ok (.iload 5, 2) := by decide +kernel
theorem de_PM_greatest_69 : decode cd_PM_greatest 69 = .ok (.invokevirtual 175, 3) := by decide +kernel
theorem de_PM_greatest_72 : decode cd_PM_greatest 72 = .ok (.iadd, 1) := by decide +kernel
theorem de_PM_greatest_73 : decode cd_PM_greatest 73 = .ok (.istore 8, 2) := by decide +kernel
theorem de_PM_greatest_75 : decode cd_PM_greatest 75 = .ok (.aload_n 0, 1) := by decide +kernel
theorem de_PM_greatest_76 : decode cd_PM_greatest 76 = .ok (.getfield 33, 3) := by decide +kernel
theorem de_PM_greatest_79 : decode cd_PM_greatest 79 = .ok (.iload 7, 2) := by decide +kernel
theorem de_PM_greatest_81 : decode cd_PM_greatest 81 = .ok (.laload, 1) := by decide +kernel
theorem de_PM_greatest_82 : decode cd_PM_greatest 82 = .ok (.lconst 0, 1) := by decide +kernel
theorem de_PM_greatest_83 : decode cd_PM_greatest 83 = .ok (.lcmp, 1) := by decide +kernel
theorem de_PM_greatest_84 : decode cd_PM_greatest 84 = .ok (.ifCond .ne 5, 3) := by decide +kernel
theorem de_PM_greatest_87 : decode cd_PM_greatest 87 = .ok (.iconst (-1), 1) := by decide +kernel
theorem de_PM_greatest_88 : decode cd_PM_greatest 88 = .ok (.ireturn, 1) := by decide +kernel
theorem de_PM_greatest_89 : decode cd_PM_greatest 89 = .ok (.aload_n 0, 1) := by decide +kernel
theorem de_PM_greatest_90 : decode cd_PM_greatest 90 = .ok (.getfield 29, 3) := by decide +kernel
theorem de_PM_greatest_93 : decode cd_PM_greatest 93 = .ok (.iload 7, 2) := by decide +kernel
theorem de_PM_greatest_95 : decode cd_PM_greatest 95 = .ok (.laload, 1) := by decide +kernel
theorem de_PM_greatest_96 : decode cd_PM_greatest 96 = .ok (.aload_n 0, 1) := by decide +kernel
theorem de_PM_greatest_97 : decode cd_PM_greatest 97 = .ok (.getfield 33, 3) := by decide +kernel
theorem de_PM_greatest_100 : decode cd_PM_greatest 100 = .ok (.iload 7, 2) := by decide +kernel
theorem de_PM_greatest_102 : decode cd_PM_greatest 102 = .ok (.laload, 1) := by decide +kernel
theorem de_PM_greatest_103 : decode cd_PM_greatest 103 = .ok (.aload_n 0, 1) := by decide +kernel
theorem de_PM_greatest_104 : decode cd_PM_greatest 104 = .ok (.getfield 29, 3) := by decide +kernel
theorem de_PM_greatest_107 : decode cd_PM_greatest 107 = .ok (.iload 8, 2) := by decide +kernel
theorem de_PM_greatest_109 : decode cd_PM_greatest 109 = .ok (.laload, 1) := by decide +kernel
theorem de_PM_greatest_110 : decode cd_PM_greatest 110 = .ok (.aload_n 0, 1) := by decide +kernel
theorem de_PM_greatest_111 : decode cd_PM_greatest 111 = .ok (.getfield 33, 3) := by decide +kernel
theorem de_PM_greatest_114 : decode cd_PM_greatest 114 = .ok (.iload 8, 2) := by decide +kernel
theorem de_PM_greatest_116 : decode cd_PM_greatest 116 = .ok (.laload, 1) := by decide +kernel
theorem de_PM_greatest_117 : decode cd_PM_greatest 117 = .ok (.invokestatic 179, 3) := by decide +kernel
theorem de_PM_greatest_120 : decode cd_PM_greatest 120 = .ok (.ifCond .eq 7, 3) := by decide +kernel
theorem de_PM_greatest_123 : decode cd_PM_greatest 123 = .ok (.iload 6, 2) := by decide +kernel
theorem de_PM_greatest_125 : decode cd_PM_greatest 125 = .ok (.istore 5, 2) := by decide +kernel
theorem de_PM_greatest_127 : decode cd_PM_greatest 127 = .ok (.iinc 6 1, 3) := by decide +kernel
theorem de_PM_greatest_130 : decode cd_PM_greatest 130 = .ok (.goto (-104), 3) := by decide +kernel
theorem de_PM_greatest_133 : decode cd_PM_greatest 133 = .ok (.iload 5, 2) := by decide +kernel
theorem de_PM_greatest_135 : decode cd_PM_greatest 135 = .ok (.ireturn, 1) := by decide +kernel
def jb_PM_greatest_127 (N : Nat) (k26 : mv_M → Nat → Int32 → Int32 → Int32 → Int32 → Int32 → Int32 → Option (Int32 × mv_M)) (M : mv_M) (v0 : Nat) (v1 : Int32) (v2 : Int32) (v3 : Int32) (v4 : Int32) (v5 : Int32) (v6 : Int32) : Option (Int32 × mv_M) :=
  k26 M v0 v1 v2 v3 v4 v5 (v6 + 1)
def jb_PM_greatest_26 (N : Nat) : Nat → mv_M → Nat → Int32 → Int32 → Int32 → Int32 → Int32 → Int32 → Option (Int32 × mv_M)
  | 0, _, _, _, _, _, _, _, _ => none
  | n + 1, M, v0, v1, v2, v3, v4, v5, v6 =>
    if v4 ≤ v6 then (some (v5, M)) else
    Option.bind (mj_getR M v0 1 5) fun x40 =>
    Option.bind x40 fun a44 =>
    Option.bind (mj_ild M a44 0 v1) fun x44 =>
    mj_ob M v0 1 <|
    mj_call (jf_PM_alongCell N M v0 v3 x44 v2 v6) fun r48 Mm48 =>
    Option.bind (mj_getR Mm48 v0 1 5) fun x61 =>
    Option.bind x61 fun a65 =>
    Option.bind (mj_ild Mm48 a65 0 v1) fun x65 =>
    mj_ob Mm48 v0 1 <|
    mj_call (jf_PM_alongCell N Mm48 v0 v3 x65 v2 v5) fun r69 Mm69 =>
    Option.bind (mj_getR Mm69 v0 1 10) fun x76 =>
    Option.bind x76 fun a81 =>
    Option.bind (mj_lld Mm69 a81 1 ((64 * v3) + r48)) fun x81 =>
    if (lg_cmp x81 0) = 0 then (some ((-1), Mm69)) else
    Option.bind (mj_getR Mm69 v0 1 9) fun x90 =>
    Option.bind x90 fun a95 =>
    Option.bind (mj_lld Mm69 a95 1 ((64 * v3) + r48)) fun x95 =>
    Option.bind (mj_getR Mm69 v0 1 10) fun x97 =>
    Option.bind x97 fun a102 =>
    Option.bind (mj_lld Mm69 a102 1 ((64 * v3) + r48)) fun x102 =>
    Option.bind (mj_getR Mm69 v0 1 9) fun x104 =>
    Option.bind x104 fun a109 =>
    Option.bind (mj_lld Mm69 a109 1 ((64 * v3) + r69)) fun x109 =>
    Option.bind (mj_getR Mm69 v0 1 10) fun x111 =>
    Option.bind x111 fun a116 =>
    Option.bind (mj_lld Mm69 a116 1 ((64 * v3) + r69)) fun x116 =>
    mj_call (jf_PM_isAbove N Mm69 x95 x102 x109 x116) fun r117 Mm117 =>
    if r117 = 0 then (jb_PM_greatest_127 N (jb_PM_greatest_26 N n) Mm117 v0 v1 v2 v3 v4 v5 v6) else
    jb_PM_greatest_127 N (jb_PM_greatest_26 N n) Mm117 v0 v1 v2 v3 v4 v6 v6
def jb_PM_greatest_0 (N : Nat) (M : mv_M) (v0 : Nat) (v1 : Int32) (v2 : Int32) : Option (Int32 × mv_M) :=
  Option.bind (mj_getR M v0 1 4) fun x1 =>
  Option.bind x1 fun a5 =>
  Option.bind (mj_ild M a5 0 v1) fun x5 =>
  Option.bind (mj_getR M v0 1 5) fun x10 =>
  Option.bind x10 fun a14 =>
  Option.bind (mj_ild M a14 0 v1) fun x14 =>
  mj_ob M v0 1 <|
  mj_call (jf_PM_sideOf N M v0 x5 x14) fun r15 Mm15 =>
  jb_PM_greatest_26 N N Mm15 v0 v1 v2 x5 r15 0 0
def jf_PM_greatest (N : Nat) (M : mv_M) (v0 : Nat) (v1 : Int32) (v2 : Int32) : Option (Int32 × mv_M) := jb_PM_greatest_0 N M v0 v1 v2
set_option maxHeartbeats 4000000 in
set_option maxRecDepth 100000 in
theorem tb_PM_greatest_127 (l : Launch) (D : va_G) (E : Nat → ClassId) (B : Nat) (sa : (Nat → Nat) × Nat × (Nat → Int32)) (M0 M1 : mv_M) (r : Int32) (N : Nat) (k26 : mv_M → Nat → Int32 → Int32 → Int32 → Int32 → Int32 → Int32 → Option (Int32 × mv_M)) (hk26 : ∀ (M : mv_M) (v0 : Nat) (v1 : Int32) (v2 : Int32) (v3 : Int32) (v4 : Int32) (v5 : Int32) (v6 : Int32), k26 M v0 v1 v2 v3 v4 v5 v6 = some (r, M1) → mv_G (xg l D E B sa) kd_PM_greatest M0 M1 (some (.int r)) M 26 [(0, va_rf (some v0)), (1, .int v1), (2, .int v2), (3, .int v3), (4, .int v4), (5, .int v5), (6, .int v6)] []) (M : mv_M) (v0 : Nat) (v1 : Int32) (v2 : Int32) (v3 : Int32) (v4 : Int32) (v5 : Int32) (v6 : Int32) (hJ : jb_PM_greatest_127 N k26 M v0 v1 v2 v3 v4 v5 v6 = some (r, M1)) : mv_G (xg l D E B sa) kd_PM_greatest M0 M1 (some (.int r)) M 127 [(0, va_rf (some v0)), (1, .int v1), (2, .int v2), (3, .int v3), (4, .int v4), (5, .int v5), (6, .int v6)] [] := by
  unfold jb_PM_greatest_127 at hJ
  refine mv_iinc (pc := 127) (v := (v6 + 1)) (lv' := [(6, .int (v6 + 1)), (0, va_rf (some v0)), (1, .int v1), (2, .int v2), (3, .int v3), (4, .int v4), (5, .int v5)]) de_PM_greatest_127 6 rfl rfl (Nat.le_of_ble_eq_true rfl) rfl ?_
  refine mv_goto (pc := 130) (tgt := 26) de_PM_greatest_130 (by decide) ?_
  exact mv_sub [1, 2, 3, 4, 5, 6, 0] rfl (hk26 M v0 v1 v2 v3 v4 v5 (v6 + 1) hJ)
set_option maxHeartbeats 4000000 in
set_option maxRecDepth 100000 in
theorem tb_PM_greatest_26 (l : Launch) (D : va_G) (E : Nat → ClassId) (B : Nat) (sa : (Nat → Nat) × Nat × (Nat → Int32)) (M0 M1 : mv_M) (r : Int32) (N : Nat) : ∀ (n : Nat) (M : mv_M) (v0 : Nat) (v1 : Int32) (v2 : Int32) (v3 : Int32) (v4 : Int32) (v5 : Int32) (v6 : Int32) (hJ : jb_PM_greatest_26 N n M v0 v1 v2 v3 v4 v5 v6 = some (r, M1)), mv_G (xg l D E B sa) kd_PM_greatest M0 M1 (some (.int r)) M 26 [(0, va_rf (some v0)), (1, .int v1), (2, .int v2), (3, .int v3), (4, .int v4), (5, .int v5), (6, .int v6)] [] := by
  intro n
  induction n with
  | zero => intro M v0 v1 v2 v3 v4 v5 v6 hJ; cases hJ
  | succ n ih =>
    intro M v0 v1 v2 v3 v4 v5 v6 hJ
    rw [jb_PM_greatest_26] at hJ
    refine mv_iload (pc := 26) de_PM_greatest_26 6 rfl ?_
    refine mv_iload (pc := 28) de_PM_greatest_28 4 rfl ?_
    refine mv_icmp_ge (pc := 30) (tgt := 133) de_PM_greatest_30 (by decide) hJ (fun hc30 h30 => ?_) (fun hc30 h30 => ?_)
    · refine mv_iload (pc := 133) de_PM_greatest_133 5 rfl ?_
      exact mv_iret (pc := 135) rfl de_PM_greatest_135 h30
    · refine mv_bipush (pc := 33) (v := 64) de_PM_greatest_33 (by decide) ?_
      refine mv_iload_n (pc := 35) (i := 3) de_PM_greatest_35 rfl 3 rfl ?_
      refine mv_imul (pc := 36) de_PM_greatest_36 ?_
      refine mv_aload_n (pc := 37) (i := 0) de_PM_greatest_37 rfl 0 rfl ?_
      refine mv_iload_n (pc := 38) (i := 3) de_PM_greatest_38 rfl 3 rfl ?_
      refine mv_aload_n (pc := 39) (i := 0) de_PM_greatest_39 rfl 0 rfl ?_
      refine mv_getR (pc := 40) (f := 5) (kc_1 l D E B sa) (Nat.le_of_ble_eq_true rfl) wt_4_85 de_PM_greatest_40 h30 (fun x40 e40 h40 => ?_)
      refine mv_iload_n (pc := 43) (i := 1) de_PM_greatest_43 rfl 1 rfl ?_
      obtain ⟨a44, ha, h44a⟩ := mj_bindE h40
      subst ha
      refine mv_iald (pc := 44) (t := 0) rfl de_PM_greatest_44 h44a (fun x44 e44 h44 => ?_)
      refine mv_iload_n (pc := 45) (i := 2) de_PM_greatest_45 rfl 2 rfl ?_
      refine mv_iload (pc := 46) de_PM_greatest_46 6 rfl ?_
      obtain ⟨hi48, h48o⟩ := mj_obE h44
      obtain ⟨r48, Mm48, hz48, h48⟩ := mj_callE h48o
      refine mv_callV (pc := 48) (n := 4) (av := [.int v3, .int x44, .int v2, .int v6]) (rest := [.int (64 * v3)]) de_PM_greatest_48 (kc_1 l D E B sa) hi48 (cm_PM_alongCell l D E B sa N M v0 v3 x44 v2 v6 _ _ hz48) wt_5_50 wt_5_52 wp_43 wt_1_8 wt_5_53 ⟨by decide, by decide, by decide +kernel⟩ rfl ⟨Nat.le_of_ble_eq_true rfl, Nat.le_of_ble_eq_true rfl⟩ (Nat.le_of_ble_eq_true rfl) rfl ?_
      refine mv_iadd (pc := 51) de_PM_greatest_51 ?_
      refine mv_istore (pc := 52) (lv' := [(7, .int ((64 * v3) + r48)), (0, va_rf (some v0)), (1, .int v1), (2, .int v2), (3, .int v3), (4, .int v4), (5, .int v5), (6, .int v6)]) de_PM_greatest_52 (Nat.le_of_ble_eq_true rfl) rfl ?_
      refine mv_bipush (pc := 54) (v := 64) de_PM_greatest_54 (by decide) ?_
      refine mv_iload_n (pc := 56) (i := 3) de_PM_greatest_56 rfl 4 rfl ?_
      refine mv_imul (pc := 57) de_PM_greatest_57 ?_
      refine mv_aload_n (pc := 58) (i := 0) de_PM_greatest_58 rfl 1 rfl ?_
      refine mv_iload_n (pc := 59) (i := 3) de_PM_greatest_59 rfl 4 rfl ?_
      refine mv_aload_n (pc := 60) (i := 0) de_PM_greatest_60 rfl 1 rfl ?_
      refine mv_getR (pc := 61) (f := 5) (kc_1 l D E B sa) (Nat.le_of_ble_eq_true rfl) wt_4_85 de_PM_greatest_61 h48 (fun x61 e61 h61 => ?_)
      refine mv_iload_n (pc := 64) (i := 1) de_PM_greatest_64 rfl 2 rfl ?_
      obtain ⟨a65, ha, h65a⟩ := mj_bindE h61
      subst ha
      refine mv_iald (pc := 65) (t := 0) rfl de_PM_greatest_65 h65a (fun x65 e65 h65 => ?_)
      refine mv_iload_n (pc := 66) (i := 2) de_PM_greatest_66 rfl 3 rfl ?_
      refine mv_iload (pc := 67) de_PM_greatest_67 6 rfl ?_
      obtain ⟨hi69, h69o⟩ := mj_obE h65
      obtain ⟨r69, Mm69, hz69, h69⟩ := mj_callE h69o
      refine mv_callV (pc := 69) (n := 4) (av := [.int v3, .int x65, .int v2, .int v5]) (rest := [.int (64 * v3)]) de_PM_greatest_69 (kc_1 l D E B sa) hi69 (cm_PM_alongCell l D E B sa N Mm48 v0 v3 x65 v2 v5 _ _ hz69) wt_5_50 wt_5_52 wp_43 wt_1_8 wt_5_53 ⟨by decide, by decide, by decide +kernel⟩ rfl ⟨Nat.le_of_ble_eq_true rfl, Nat.le_of_ble_eq_true rfl⟩ (Nat.le_of_ble_eq_true rfl) rfl ?_
      refine mv_iadd (pc := 72) de_PM_greatest_72 ?_
      refine mv_istore (pc := 73) (lv' := [(8, .int ((64 * v3) + r69)), (7, .int ((64 * v3) + r48)), (0, va_rf (some v0)), (1, .int v1), (2, .int v2), (3, .int v3), (4, .int v4), (5, .int v5), (6, .int v6)]) de_PM_greatest_73 (Nat.le_of_ble_eq_true rfl) rfl ?_
      refine mv_aload_n (pc := 75) (i := 0) de_PM_greatest_75 rfl 2 rfl ?_
      refine mv_getR (pc := 76) (f := 10) (kc_1 l D E B sa) (Nat.le_of_ble_eq_true rfl) wt_4_90 de_PM_greatest_76 h69 (fun x76 e76 h76 => ?_)
      refine mv_iload (pc := 79) de_PM_greatest_79 1 rfl ?_
      obtain ⟨a81, ha, h81a⟩ := mj_bindE h76
      subst ha
      refine mv_lald (pc := 81) (t := 1) rfl de_PM_greatest_81 h81a (fun x81 e81 h81 => ?_)
      refine mv_lconst (pc := 82) (v := 0) de_PM_greatest_82 (by decide) ?_
      refine mv_lcmp (pc := 83) de_PM_greatest_83 ?_
      refine mv_if_ne (pc := 84) (tgt := 89) de_PM_greatest_84 (by decide) h81 (fun hc84 h84 => ?_) (fun hc84 h84 => ?_)
      · refine mv_iconst (pc := 87) (v := (-1)) de_PM_greatest_87 (by decide) ?_
        exact mv_iret (pc := 88) rfl de_PM_greatest_88 h84
      · refine mv_aload_n (pc := 89) (i := 0) de_PM_greatest_89 rfl 2 rfl ?_
        refine mv_getR (pc := 90) (f := 9) (kc_1 l D E B sa) (Nat.le_of_ble_eq_true rfl) wt_4_89 de_PM_greatest_90 h84 (fun x90 e90 h90 => ?_)
        refine mv_iload (pc := 93) de_PM_greatest_93 1 rfl ?_
        obtain ⟨a95, ha, h95a⟩ := mj_bindE h90
        subst ha
        refine mv_lald (pc := 95) (t := 1) rfl de_PM_greatest_95 h95a (fun x95 e95 h95 => ?_)
        refine mv_aload_n (pc := 96) (i := 0) de_PM_greatest_96 rfl 2 rfl ?_
        refine mv_getR (pc := 97) (f := 10) (kc_1 l D E B sa) (Nat.le_of_ble_eq_true rfl) wt_4_90 de_PM_greatest_97 h95 (fun x97 e97 h97 => ?_)
        refine mv_iload (pc := 100) de_PM_greatest_100 1 rfl ?_
        obtain ⟨a102, ha, h102a⟩ := mj_bindE h97
        subst ha
        refine mv_lald (pc := 102) (t := 1) rfl de_PM_greatest_102 h102a (fun x102 e102 h102 => ?_)
        refine mv_aload_n (pc := 103) (i := 0) de_PM_greatest_103 rfl 2 rfl ?_
        refine mv_getR (pc := 104) (f := 9) (kc_1 l D E B sa) (Nat.le_of_ble_eq_true rfl) wt_4_89 de_PM_greatest_104 h102 (fun x104 e104 h104 => ?_)
        refine mv_iload (pc := 107) de_PM_greatest_107 0 rfl ?_
        obtain ⟨a109, ha, h109a⟩ := mj_bindE h104
        subst ha
        refine mv_lald (pc := 109) (t := 1) rfl de_PM_greatest_109 h109a (fun x109 e109 h109 => ?_)
        refine mv_aload_n (pc := 110) (i := 0) de_PM_greatest_110 rfl 2 rfl ?_
        refine mv_getR (pc := 111) (f := 10) (kc_1 l D E B sa) (Nat.le_of_ble_eq_true rfl) wt_4_90 de_PM_greatest_111 h109 (fun x111 e111 h111 => ?_)
        refine mv_iload (pc := 114) de_PM_greatest_114 0 rfl ?_
        obtain ⟨a116, ha, h116a⟩ := mj_bindE h111
        subst ha
        refine mv_lald (pc := 116) (t := 1) rfl de_PM_greatest_116 h116a (fun x116 e116 h116 => ?_)
        obtain ⟨r117, Mm117, hz117, h117⟩ := mj_callE h116
        refine mv_callS (pc := 117) (n := 4) (av := [.long x95, .long x102, .long x109, .long x116]) (rest := []) de_PM_greatest_117 (cm_PM_isAbove l D E B sa N Mm69 x95 x102 x109 x116 _ _ hz117) wt_5_54 wt_5_55 wt_1_8 wt_5_56 ⟨by decide, by decide, by decide +kernel⟩ rfl ⟨Nat.le_of_ble_eq_true rfl, Nat.le_of_ble_eq_true rfl⟩ (Nat.le_of_ble_eq_true rfl) rfl ?_
        refine mv_if_eq (pc := 120) (tgt := 127) de_PM_greatest_120 (by decide) h117 (fun hc120 h120 => ?_) (fun hc120 h120 => ?_)
        · exact mv_sub [2, 3, 4, 5, 6, 7, 8] rfl (tb_PM_greatest_127 l D E B sa M0 M1 r N (jb_PM_greatest_26 N n) ih Mm117 v0 v1 v2 v3 v4 v5 v6 h120)
        · refine mv_iload (pc := 123) de_PM_greatest_123 8 rfl ?_
          refine mv_istore (pc := 125) (lv' := [(5, .int v6), (8, .int ((64 * v3) + r69)), (7, .int ((64 * v3) + r48)), (0, va_rf (some v0)), (1, .int v1), (2, .int v2), (3, .int v3), (4, .int v4), (6, .int v6)]) de_PM_greatest_125 (Nat.le_of_ble_eq_true rfl) rfl ?_
          exact mv_sub [3, 4, 5, 6, 7, 0, 8] rfl (tb_PM_greatest_127 l D E B sa M0 M1 r N (jb_PM_greatest_26 N n) ih Mm117 v0 v1 v2 v3 v4 v6 v6 h120)
set_option maxHeartbeats 4000000 in
set_option maxRecDepth 100000 in
theorem tb_PM_greatest_0 (l : Launch) (D : va_G) (E : Nat → ClassId) (B : Nat) (sa : (Nat → Nat) × Nat × (Nat → Int32)) (M0 M1 : mv_M) (r : Int32) (N : Nat) (M : mv_M) (v0 : Nat) (v1 : Int32) (v2 : Int32) (hJ : jb_PM_greatest_0 N M v0 v1 v2 = some (r, M1)) : mv_G (xg l D E B sa) kd_PM_greatest M0 M1 (some (.int r)) M 0 [(0, va_rf (some v0)), (1, .int v1), (2, .int v2)] [] := by
  unfold jb_PM_greatest_0 at hJ
  refine mv_aload_n (pc := 0) (i := 0) de_PM_greatest_0 rfl 0 rfl ?_
  refine mv_getR (pc := 1) (f := 4) (kc_1 l D E B sa) (Nat.le_of_ble_eq_true rfl) wt_4_84 de_PM_greatest_1 hJ (fun x1 e1 h1 => ?_)
  refine mv_iload_n (pc := 4) (i := 1) de_PM_greatest_4 rfl 1 rfl ?_
  obtain ⟨a5, ha, h5a⟩ := mj_bindE h1
  subst ha
  refine mv_iald (pc := 5) (t := 0) rfl de_PM_greatest_5 h5a (fun x5 e5 h5 => ?_)
  refine mv_istore_n (pc := 6) (i := 3) (lv' := [(3, .int x5), (0, va_rf (some v0)), (1, .int v1), (2, .int v2)]) de_PM_greatest_6 rfl (Nat.le_of_ble_eq_true rfl) rfl ?_
  refine mv_aload_n (pc := 7) (i := 0) de_PM_greatest_7 rfl 1 rfl ?_
  refine mv_iload_n (pc := 8) (i := 3) de_PM_greatest_8 rfl 0 rfl ?_
  refine mv_aload_n (pc := 9) (i := 0) de_PM_greatest_9 rfl 1 rfl ?_
  refine mv_getR (pc := 10) (f := 5) (kc_1 l D E B sa) (Nat.le_of_ble_eq_true rfl) wt_4_85 de_PM_greatest_10 h5 (fun x10 e10 h10 => ?_)
  refine mv_iload_n (pc := 13) (i := 1) de_PM_greatest_13 rfl 2 rfl ?_
  obtain ⟨a14, ha, h14a⟩ := mj_bindE h10
  subst ha
  refine mv_iald (pc := 14) (t := 0) rfl de_PM_greatest_14 h14a (fun x14 e14 h14 => ?_)
  obtain ⟨hi15, h15o⟩ := mj_obE h14
  obtain ⟨r15, Mm15, hz15, h15⟩ := mj_callE h15o
  refine mv_callV (pc := 15) (n := 2) (av := [.int x5, .int x14]) (rest := []) de_PM_greatest_15 (kc_1 l D E B sa) hi15 (cm_PM_sideOf l D E B sa N M v0 x5 x14 _ _ hz15) wt_4_236 wt_4_238 wp_32 wt_1_8 wt_4_239 ⟨by decide, by decide, by decide +kernel⟩ rfl ⟨Nat.le_of_ble_eq_true rfl, Nat.le_of_ble_eq_true rfl⟩ (Nat.le_of_ble_eq_true rfl) rfl ?_
  refine mv_istore (pc := 18) (lv' := [(4, .int r15), (3, .int x5), (0, va_rf (some v0)), (1, .int v1), (2, .int v2)]) de_PM_greatest_18 (Nat.le_of_ble_eq_true rfl) rfl ?_
  refine mv_iconst (pc := 20) (v := 0) de_PM_greatest_20 (by decide) ?_
  refine mv_istore (pc := 21) (lv' := [(5, .int 0), (4, .int r15), (3, .int x5), (0, va_rf (some v0)), (1, .int v1), (2, .int v2)]) de_PM_greatest_21 (Nat.le_of_ble_eq_true rfl) rfl ?_
  refine mv_iconst (pc := 23) (v := 0) de_PM_greatest_23 (by decide) ?_
  refine mv_istore (pc := 24) (lv' := [(6, .int 0), (5, .int 0), (4, .int r15), (3, .int x5), (0, va_rf (some v0)), (1, .int v1), (2, .int v2)]) de_PM_greatest_24 (Nat.le_of_ble_eq_true rfl) rfl ?_
  exact mv_sub [4, 5, 6, 3, 2, 1, 0] rfl (tb_PM_greatest_26 l D E B sa M0 M1 r N N Mm15 v0 v1 v2 x5 r15 0 0 h15)
theorem cm_PM_greatest (l : Launch) (D : va_G) (E : Nat → ClassId) (B : Nat) (sa : (Nat → Nat) × Nat × (Nat → Int32)) (N : Nat) (M : mv_M) (v0 : Nat) (v1 : Int32) (v2 : Int32) (r : Int32) (M1 : mv_M) (hJ : jf_PM_greatest N M v0 v1 v2 = some (r, M1)) : mv_Met (xg l D E B sa) yn_PM_greatest cd_PM_greatest 9 (some .int) 1 27 [va_rf (some v0), .int v1, .int v2] M (some (.int r)) M1 :=
  mv_enter (by decide) (Nat.le_of_ble_eq_true rfl) (mv_sub (lv := [(0, va_rf (some v0)), (1, .int v1), (2, .int v2)]) [0, 1, 2] rfl (tb_PM_greatest_0 l D E B sa M M1 r N M v0 v1 v2 hJ))
/-! ===== PlainLearnerModel.load(I)V ===== -/
abbrev kd_PM_load : mv_Kd := (cd_PM_load, 2, "PlainLearnerModel", "load", none, 0, 0)
theorem de_PM_load_0 : decode cd_PM_load 0 = .ok (.aload_n 0, 1) := by decide +kernel
theorem de_PM_load_1 : decode cd_PM_load 1 = .ok (.aload_n 0, 1) := by decide +kernel
theorem de_PM_load_2 : decode cd_PM_load 2 = .ok (.getfield 29, 3) := by decide +kernel
theorem de_PM_load_5 : decode cd_PM_load 5 = .ok (.iload_n 1, 1) := by decide +kernel
theorem de_PM_load_6 : decode cd_PM_load 6 = .ok (.laload, 1) := by decide +kernel
theorem de_PM_load_7 : decode cd_PM_load 7 = .ok (.putfield 81, 3) := by decide +kernel
theorem de_PM_load_10 : decode cd_PM_load 10 = .ok (.aload_n 0, 1) := by decide +kernel
theorem de_PM_load_11 : decode cd_PM_load 11 = .ok (.aload_n 0, 1) := by decide +kernel
theorem de_PM_load_12 : decode cd_PM_load 12 = .ok (.getfield 33, 3) := by decide +kernel
theorem de_PM_load_15 : decode cd_PM_load 15 = .ok (.iload_n 1, 1) := by decide +kernel
theorem de_PM_load_16 : decode cd_PM_load 16 = .ok (.laload, 1) := by decide +kernel
theorem de_PM_load_17 : decode cd_PM_load 17 = .ok (.putfield 84, 3) := by decide +kernel
theorem de_PM_load_20 : decode cd_PM_load 20 = .ok (.return_, 1) := by decide +kernel
def jb_PM_load_0 (N : Nat) (M : mv_M) (v0 : Nat) (v1 : Int32) : Option (Unit × mv_M) :=
  Option.bind (mj_getR M v0 1 9) fun x2 =>
  Option.bind x2 fun a6 =>
  Option.bind (mj_lld M a6 1 v1) fun x6 =>
  Option.bind (mj_put M v0 1 0 (.long x6)) fun Mm7 =>
  Option.bind (mj_getR Mm7 v0 1 10) fun x12 =>
  Option.bind x12 fun a16 =>
  Option.bind (mj_lld Mm7 a16 1 v1) fun x16 =>
  Option.bind (mj_put Mm7 v0 1 1 (.long x16)) fun Mm17 =>
  some ((), Mm17)
def jf_PM_load (N : Nat) (M : mv_M) (v0 : Nat) (v1 : Int32) : Option (Unit × mv_M) := jb_PM_load_0 N M v0 v1
set_option maxHeartbeats 4000000 in
set_option maxRecDepth 100000 in
theorem tb_PM_load_0 (l : Launch) (D : va_G) (E : Nat → ClassId) (B : Nat) (sa : (Nat → Nat) × Nat × (Nat → Int32)) (M0 M1 : mv_M) (r : Unit) (N : Nat) (M : mv_M) (v0 : Nat) (v1 : Int32) (hJ : jb_PM_load_0 N M v0 v1 = some (r, M1)) : mv_G (xg l D E B sa) kd_PM_load M0 M1 none M 0 [(0, va_rf (some v0)), (1, .int v1)] [] := by
  unfold jb_PM_load_0 at hJ
  refine mv_aload_n (pc := 0) (i := 0) de_PM_load_0 rfl 0 rfl ?_
  refine mv_aload_n (pc := 1) (i := 0) de_PM_load_1 rfl 0 rfl ?_
  refine mv_getR (pc := 2) (f := 9) (kc_1 l D E B sa) (Nat.le_of_ble_eq_true rfl) wt_4_89 de_PM_load_2 hJ (fun x2 e2 h2 => ?_)
  refine mv_iload_n (pc := 5) (i := 1) de_PM_load_5 rfl 1 rfl ?_
  obtain ⟨a6, ha, h6a⟩ := mj_bindE h2
  subst ha
  refine mv_lald (pc := 6) (t := 1) rfl de_PM_load_6 h6a (fun x6 e6 h6 => ?_)
  refine mv_put (pc := 7) (f := 0) (kc_1 l D E B sa) (Nat.le_of_ble_eq_true rfl) wt_4_80 rfl rfl rfl de_PM_load_7 h6 (fun Mm7 e7 h7 => ?_)
  refine mv_aload_n (pc := 10) (i := 0) de_PM_load_10 rfl 0 rfl ?_
  refine mv_aload_n (pc := 11) (i := 0) de_PM_load_11 rfl 0 rfl ?_
  refine mv_getR (pc := 12) (f := 10) (kc_1 l D E B sa) (Nat.le_of_ble_eq_true rfl) wt_4_90 de_PM_load_12 h7 (fun x12 e12 h12 => ?_)
  refine mv_iload_n (pc := 15) (i := 1) de_PM_load_15 rfl 1 rfl ?_
  obtain ⟨a16, ha, h16a⟩ := mj_bindE h12
  subst ha
  refine mv_lald (pc := 16) (t := 1) rfl de_PM_load_16 h16a (fun x16 e16 h16 => ?_)
  refine mv_put (pc := 17) (f := 1) (kc_1 l D E B sa) (Nat.le_of_ble_eq_true rfl) wt_4_81 rfl rfl rfl de_PM_load_17 h16 (fun Mm17 e17 h17 => ?_)
  exact mv_vret (pc := 20) rfl de_PM_load_20 h17
theorem cm_PM_load (l : Launch) (D : va_G) (E : Nat → ClassId) (B : Nat) (sa : (Nat → Nat) × Nat × (Nat → Int32)) (N : Nat) (M : mv_M) (v0 : Nat) (v1 : Int32) (r : Unit) (M1 : mv_M) (hJ : jf_PM_load N M v0 v1 = some (r, M1)) : mv_Met (xg l D E B sa) yn_PM_load cd_PM_load 2 none 0 0 [va_rf (some v0), .int v1] M none M1 :=
  mv_enter (by decide) (Nat.le_of_ble_eq_true rfl) (mv_sub (lv := [(0, va_rf (some v0)), (1, .int v1)]) [0, 1] rfl (tb_PM_load_0 l D E B sa M M1 r N M v0 v1 hJ))
