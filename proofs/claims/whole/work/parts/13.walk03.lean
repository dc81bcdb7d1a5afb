/-! ===== PlainLearner$Fractions.add(JJ)J ===== -/
abbrev kd_Fr_add : mv_Kd := (cd_Fr_add, 12, "PlainLearner$Fractions", "add", (some .long), 1, 30)
theorem de_Fr_add_0 : decode cd_Fr_add 0 = .ok (.lload_n 0, 1) := by decide +kernel
theorem de_Fr_add_1 : decode cd_Fr_add 1 = .ok (.lconst 0, 1) := by decide +kernel
theorem de_Fr_add_2 : decode cd_Fr_add 2 = .ok (.lcmp, 1) := by decide +kernel
theorem de_Fr_add_3 : decode cd_Fr_add 3 = .ok (.ifCond .eq 9, 3) := by decide +kernel
theorem de_Fr_add_6 : decode cd_Fr_add 6 = .ok (.lload_n 2, 1) := by decide +kernel
theorem de_Fr_add_7 : decode cd_Fr_add 7 = .ok (.lconst 0, 1) := by decide +kernel
theorem de_Fr_add_8 : decode cd_Fr_add 8 = .ok (.lcmp, 1) := by decide +kernel
theorem de_Fr_add_9 : decode cd_Fr_add 9 = .ok (.ifCond .ne 5, 3) := by decide +kernel
theorem de_Fr_add_12 : decode cd_Fr_add 12 = .ok (.lconst 0, 1) := by decide +kernel
theorem de_Fr_add_13 : decode cd_Fr_add 13 = .ok (.lreturn, 1) := by decide +kernel
theorem de_Fr_add_14 : decode cd_Fr_add 14 = .ok (.lload_n 0, 1) := by decide +kernel
theorem de_Fr_add_15 : decode cd_Fr_add 15 = .ok (.lconst 1, 1) := by decide +kernel
theorem de_Fr_add_16 : decode cd_Fr_add 16 = .ok (.lcmp, 1) := by decide +kernel
theorem de_Fr_add_17 : decode cd_Fr_add 17 = .ok (.ifCond .eq 9, 3) := by decide +kernel
theorem de_Fr_add_20 : decode cd_Fr_add 20 = .ok (.lload_n 2, 1) := by decide +kernel
theorem de_Fr_add_21 : decode cd_Fr_add 21 = .ok (.lconst 1, 1) := by decide +kernel
theorem de_Fr_add_22 : decode cd_Fr_add 22 = .ok (.lcmp, 1) := by decide +kernel
theorem de_Fr_add_23 : decode cd_Fr_add 23 = .ok (.ifCond .ne 15, 3) := by decide +kernel
theorem de_Fr_add_26 : decode cd_Fr_add 26 = .ok (.lload_n 0, 1) := by decide +kernel
theorem de_Fr_add_27 : decode cd_Fr_add 27 = .ok (.lconst 1, 1) := by decide +kernel
theorem de_Fr_add_28 : decode cd_Fr_add 28 = .ok (.lcmp, 1) := by decide +kernel
theorem de_Fr_add_29 : decode cd_Fr_add 29 = .ok (.ifCond .ne 7, 3) := by decide +kernel
theorem de_Fr_add_32 : decode cd_Fr_add 32 = .ok (.lload_n 2, 1) := by decide +kernel
theorem de_Fr_add_33 : decode cd_Fr_add 33 = .ok (.goto 4, 3) := by decide +kernel
theorem de_Fr_add_36 : decode cd_Fr_add 36 = .ok (.lload_n 0, 1) := by decide +kernel
theorem de_Fr_add_37 : decode cd_Fr_add 37 = .ok (.lreturn, 1) := by decide +kernel
theorem de_Fr_add_38 : decode cd_Fr_add 38 = .ok (.lload_n 0, 1) := by decide +kernel
theorem de_Fr_add_39 : decode cd_Fr_add 39 = .ok (.invokestatic 15, 3) := by decide +kernel
theorem de_Fr_add_42 : decode cd_Fr_add 42 = .ok (.lload_n 2, 1) := by decide +kernel
theorem de_Fr_add_43 : decode cd_Fr_add 43 = .ok (.invokestatic 15, 3) := by decide +kernel
theorem de_Fr_add_46 : decode cd_Fr_add 46 = .ok (.invokestatic 22, 3) := by decide +kernel
theorem de_Fr_add_49 : decode cd_Fr_add 49 = .ok (.lstore 4, 2) := by decide +kernel
theorem de_Fr_add_51 : decode cd_Fr_add 51 = .ok (.lload_n 0, 1) := by decide +kernel
theorem de_Fr_add_52 : decode cd_Fr_add 52 = .ok (.invokestatic 15, 3) := by decide +kernel
theorem de_Fr_add_55 : decode cd_Fr_add 55 = .ok (.lload 4, 2) := by decide +kernel
theorem de_Fr_add_57 : decode cd_Fr_add 57 = .ok (.ldiv, 1) := by decide +kernel
theorem de_Fr_add_58 : decode cd_Fr_add 58 = .ok (.lstore 6, 2) := by decide +kernel
theorem de_Fr_add_60 : decode cd_Fr_add 60 = .ok (.lload_n 0, 1) := by decide +kernel
theorem de_Fr_add_61 : decode cd_Fr_add 61 = .ok (.invokestatic 11, 3) := by decide +kernel
theorem de_Fr_add_64 : decode cd_Fr_add 64 = .ok (.lload_n 2, 1) := by decide +kernel
theorem de_Fr_add_65 : decode cd_Fr_add 65 = .ok (.invokestatic 15, 3) := by decide +kernel
theorem de_Fr_add_68 : decode cd_Fr_add 68 = .ok (.lload 4, 2) := by decide +kernel
theorem de_Fr_add_70 : decode cd_Fr_add 70 = .ok (.ldiv, 1) := by decide +kernel
theorem de_Fr_add_71 : decode cd_Fr_add 71 = .ok (.lmul, 1) := by decide +kernel
theorem de_Fr_add_72 : decode cd_Fr_add 72 = .ok (.lload_n 2, 1) := by decide +kernel
theorem de_Fr_add_73 : decode cd_Fr_add 73 = .ok (.invokestatic 11, 3) := by decide +kernel
theorem de_Fr_add_76 : decode cd_Fr_add 76 = .ok (.lload 6, 2) := by decide +kernel
theorem de_Fr_add_78 : decode cd_Fr_add 78 = .ok (.lmul, 1) := by decide +kernel
theorem de_Fr_add_79 : decode cd_Fr_add 79 = .ok (.ladd, 1) := by decide +kernel
theorem de_Fr_add_80 : decode cd_Fr_add 80 = .ok (.lstore 8, 2) := by decide +kernel
theorem de_Fr_add_82 : decode cd_Fr_add 82 = .ok (.lload 8, 2) := by decide +kernel
theorem de_Fr_add_84 : decode cd_Fr_add 84 = .ok (.lload 4, 2) := by decide +kernel
theorem de_Fr_add_86 : decode cd_Fr_add 86 = .ok (.invokestatic 22, 3) := by decide +kernel
theorem de_Fr_add_89 : decode cd_Fr_add 89 = .ok (.lstore 10, 2) := by decide +kernel
theorem de_Fr_add_91 : decode cd_Fr_add 91 = .ok (.lload 8, 2) := by decide +kernel
theorem de_Fr_add_93 : decode cd_Fr_add 93 = .ok (.lload 10, 2) := by decide +kernel
theorem de_Fr_add_95 : decode cd_Fr_add 95 = .ok (.ldiv, 1) := by decide +kernel
theorem de_Fr_add_96 : decode cd_Fr_add 96 = .ok (.lload 6, 2) := by decide +kernel
theorem de_Fr_add_98 : decode cd_Fr_add 98 = .ok (.lload_n 2, 1) := by decide +kernel
theorem de_Fr_add_99 : decode cd_Fr_add 99 = .ok (.invokestatic 15, 3) := by decide +kernel
theorem de_Fr_add_102 : decode cd_Fr_add 102 = .ok (.lload 10, 2) := by decide +kernel
theorem de_Fr_add_104 : decode cd_Fr_add 104 = .ok (.ldiv, 1) := by decide +kernel
theorem de_Fr_add_105 : decode cd_Fr_add 105 = .ok (.lmul, 1) := by decide +kernel
theorem de_Fr_add_106 : decode cd_Fr_add 106 = .ok (.invokestatic 18, 3) := by decide +kernel
theorem de_Fr_add_109 : decode cd_Fr_add 109 = .ok (.lreturn, 1) := by decide +kernel
def jb_Fr_add_12 (N : Nat) (M : mv_M) : Option (Int64 × mv_M) :=
  some (0, M)
def jb_Fr_add_37 (N : Nat) (M : mv_M) (s0 : Int64) : Option (Int64 × mv_M) :=
  some (s0, M)
def jb_Fr_add_26 (N : Nat) (M : mv_M) (v0 : Int64) (v2 : Int64) : Option (Int64 × mv_M) :=
  if (lg_cmp v0 1) = 0 then (jb_Fr_add_37 N M v2) else
  jb_Fr_add_37 N M v0
def jb_Fr_add_0 (N : Nat) (M : mv_M) (v0 : Int64) (v2 : Int64) : Option (Int64 × mv_M) :=
  if (lg_cmp v0 0) = 0 then (jb_Fr_add_12 N M) else
  if (lg_cmp v2 0) = 0 then (jb_Fr_add_12 N M) else
  if (lg_cmp v0 1) = 0 then (jb_Fr_add_26 N M v0 v2) else
  if (lg_cmp v2 1) = 0 then (jb_Fr_add_26 N M v0 v2) else
  mj_call (jf_Fr_bottomOf N M v0) fun r39 Mm39 =>
  mj_call (jf_Fr_bottomOf N Mm39 v2) fun r43 Mm43 =>
  mj_call (jf_Fr_gcd N Mm43 r39 r43) fun r46 Mm46 =>
  mj_call (jf_Fr_bottomOf N Mm46 v0) fun r52 Mm52 =>
  if r46 = 0 then none else
  mj_call (jf_Fr_topOf N Mm52 v0) fun r61 Mm61 =>
  mj_call (jf_Fr_bottomOf N Mm61 v2) fun r65 Mm65 =>
  if r46 = 0 then none else
  mj_call (jf_Fr_topOf N Mm65 v2) fun r73 Mm73 =>
  mj_call (jf_Fr_gcd N Mm73 ((r61 * (r65 / r46)) + (r73 * (r52 / r46))) r46) fun r86 Mm86 =>
  if r86 = 0 then none else
  mj_call (jf_Fr_bottomOf N Mm86 v2) fun r99 Mm99 =>
  if r86 = 0 then none else
  mj_call (jf_Fr_fit N Mm99 (((r61 * (r65 / r46)) + (r73 * (r52 / r46))) / r86) ((r52 / r46) * (r99 / r86))) fun r106 Mm106 =>
  some (r106, Mm106)
def jf_Fr_add (N : Nat) (M : mv_M) (v0 : Int64) (v2 : Int64) : Option (Int64 × mv_M) := jb_Fr_add_0 N M v0 v2
set_option maxHeartbeats 4000000 in
set_option maxRecDepth 100000 in
theorem tb_Fr_add_12 (l : Launch) (D : va_G) (E : Nat → ClassId) (B : Nat) (sa : (Nat → Nat) × Nat × (Nat → Int32)) (M0 M1 : mv_M) (r : Int64) (N : Nat) (M : mv_M) (hJ : jb_Fr_add_12 N M = some (r, M1)) : mv_G (xg l D E B sa) kd_Fr_add M0 M1 (some (.long r)) M 12 [] [] := by
  unfold jb_Fr_add_12 at hJ
  refine mv_lconst (pc := 12) (v := 0) de_Fr_add_12 (by decide) ?_
  exact mv_lret (pc := 13) rfl de_Fr_add_13 hJ
set_option maxHeartbeats 4000000 in
set_option maxRecDepth 100000 in
theorem tb_Fr_add_37 (l : Launch) (D : va_G) (E : Nat → ClassId) (B : Nat) (sa : (Nat → Nat) × Nat × (Nat → Int32)) (M0 M1 : mv_M) (r : Int64) (N : Nat) (M : mv_M) (s0 : Int64) (hJ : jb_Fr_add_37 N M s0 = some (r, M1)) : mv_G (xg l D E B sa) kd_Fr_add M0 M1 (some (.long r)) M 37 [] [.long s0] := by
  unfold jb_Fr_add_37 at hJ
  exact mv_lret (pc := 37) rfl de_Fr_add_37 hJ
set_option maxHeartbeats 4000000 in
set_option maxRecDepth 100000 in
theorem tb_Fr_add_26 (l : Launch) (D : va_G) (E : Nat → ClassId) (B : Nat) (sa : (Nat → Nat) × Nat × (Nat → Int32)) (M0 M1 : mv_M) (r : Int64) (N : Nat) (M : mv_M) (v0 : Int64) (v2 : Int64) (hJ : jb_Fr_add_26 N M v0 v2 = some (r, M1)) : mv_G (xg l D E B sa) kd_Fr_add M0 M1 (some (.long r)) M 26 [(0, .long v0), (2, .long v2)] [] := by
  unfold jb_Fr_add_26 at hJ
  refine mv_lload_n (pc := 26) (i := 0) de_Fr_add_26 rfl 0 rfl ?_
  refine mv_lconst (pc := 27) (v := 1) de_Fr_add_27 (by decide) ?_
  refine mv_lcmp (pc := 28) de_Fr_add_28 ?_
  refine mv_if_ne (pc := 29) (tgt := 36) de_Fr_add_29 (by decide) hJ (fun hc29 h29 => ?_) (fun hc29 h29 => ?_)
  · refine mv_lload_n (pc := 32) (i := 2) de_Fr_add_32 rfl 1 rfl ?_
    refine mv_goto (pc := 33) (tgt := 37) de_Fr_add_33 (by decide) ?_
    exact mv_sub [] rfl (tb_Fr_add_37 l D E B sa M0 M1 r N M v2 h29)
  · refine mv_lload_n (pc := 36) (i := 0) de_Fr_add_36 rfl 0 rfl ?_
    exact mv_sub [] rfl (tb_Fr_add_37 l D E B sa M0 M1 r N M v0 h29)
set_option maxHeartbeats 4000000 in
set_option maxRecDepth 100000 in
theorem tb_Fr_add_0 (l : Launch) (D : va_G) (E : Nat → ClassId) (B : Nat) (sa : (Nat → Nat) × Nat × (Nat → Int32)) (M0 M1 : mv_M) (r : Int64) (N : Nat) (M : mv_M) (v0 : Int64) (v2 : Int64) (hJ : jb_Fr_add_0 N M v0 v2 = some (r, M1)) : mv_G (xg l D E B sa) kd_Fr_add M0 M1 (some (.long r)) M 0 [(0, .long v0), (2, .long v2)] [] := by
  unfold jb_Fr_add_0 at hJ
  refine mv_lload_n (pc := 0) (i := 0) de_Fr_add_0 rfl 0 rfl ?_
  refine mv_lconst (pc := 1) (v := 0) de_Fr_add_1 (by decide) ?_
  refine mv_lcmp (pc := 2) de_Fr_add_2 ?_
  refine mv_if_eq (pc := 3) (tgt := 12) de_Fr_add_3 (by decide) hJ (fun hc3 h3 => ?_) (fun hc3 h3 => ?_)
  · exact mv_sub [] rfl (tb_Fr_add_12 l D E B sa M0 M1 r N M h3)
  · refine mv_lload_n (pc := 6) (i := 2) de_Fr_add_6 rfl 1 rfl ?_
    refine mv_lconst (pc := 7) (v := 0) de_Fr_add_7 (by decide) ?_
    refine mv_lcmp (pc := 8) de_Fr_add_8 ?_
    refine mv_if_ne (pc := 9) (tgt := 14) de_Fr_add_9 (by decide) h3 (fun hc9 h9 => ?_) (fun hc9 h9 => ?_)
    · exact mv_sub [] rfl (tb_Fr_add_12 l D E B sa M0 M1 r N M h9)
    · refine mv_lload_n (pc := 14) (i := 0) de_Fr_add_14 rfl 0 rfl ?_
      refine mv_lconst (pc := 15) (v := 1) de_Fr_add_15 (by decide) ?_
      refine mv_lcmp (pc := 16) de_Fr_add_16 ?_
      refine mv_if_eq (pc := 17) (tgt := 26) de_Fr_add_17 (by decide) h9 (fun hc17 h17 => ?_) (fun hc17 h17 => ?_)
      · exact mv_sub [0, 1] rfl (tb_Fr_add_26 l D E B sa M0 M1 r N M v0 v2 h17)
      · refine mv_lload_n (pc := 20) (i := 2) de_Fr_add_20 rfl 1 rfl ?_
        refine mv_lconst (pc := 21) (v := 1) de_Fr_add_21 (by decide) ?_
        refine mv_lcmp (pc := 22) de_Fr_add_22 ?_
        refine mv_if_ne (pc := 23) (tgt := 38) de_Fr_add_23 (by decide) h17 (fun hc23 h23 => ?_) (fun hc23 h23 => ?_)
        · exact mv_sub [0, 1] rfl (tb_Fr_add_26 l D E B sa M0 M1 r N M v0 v2 h23)
        · refine mv_lload_n (pc := 38) (i := 0) de_Fr_add_38 rfl 0 rfl ?_
          obtain ⟨r39, Mm39, hz39, h39⟩ := mj_callE h23
          refine mv_callS (pc := 39) (n := 1) (av := [.long v0]) (rest := []) de_Fr_add_39 (cm_Fr_bottomOf l D E B sa N M v0 _ _ hz39) wt_2_195 wt_2_196 wt_1_3 wt_2_197 ⟨by decide, by decide, by decide +kernel⟩ rfl ⟨Nat.le_of_ble_eq_true rfl, Nat.le_of_ble_eq_true rfl⟩ (Nat.le_of_ble_eq_true rfl) rfl ?_
          refine mv_lload_n (pc := 42) (i := 2) de_Fr_add_42 rfl 1 rfl ?_
          obtain ⟨r43, Mm43, hz43, h43⟩ := mj_callE h39
          refine mv_callS (pc := 43) (n := 1) (av := [.long v2]) (rest := [.long r39]) de_Fr_add_43 (cm_Fr_bottomOf l D E B sa N Mm39 v2 _ _ hz43) wt_2_195 wt_2_196 wt_1_3 wt_2_197 ⟨by decide, by decide, by decide +kernel⟩ rfl ⟨Nat.le_of_ble_eq_true rfl, Nat.le_of_ble_eq_true rfl⟩ (Nat.le_of_ble_eq_true rfl) rfl ?_
          obtain ⟨r46, Mm46, hz46, h46⟩ := mj_callE h43
          refine mv_callS (pc := 46) (n := 2) (av := [.long r39, .long r43]) (rest := []) de_Fr_add_46 (cm_Fr_gcd l D E B sa N Mm43 r39 r43 _ _ hz46) wt_1_37 wt_1_38 wt_1_3 wt_1_39 ⟨by decide, by decide, by decide +kernel⟩ rfl ⟨Nat.le_of_ble_eq_true rfl, Nat.le_of_ble_eq_true rfl⟩ (Nat.le_of_ble_eq_true rfl) rfl ?_
          refine mv_lstore (pc := 49) (lv' := [(4, .long r46), (0, .long v0), (2, .long v2)]) de_Fr_add_49 (Nat.le_of_ble_eq_true rfl) rfl ?_
          refine mv_lload_n (pc := 51) (i := 0) de_Fr_add_51 rfl 1 rfl ?_
          obtain ⟨r52, Mm52, hz52, h52⟩ := mj_callE h46
          refine mv_callS (pc := 52) (n := 1) (av := [.long v0]) (rest := []) de_Fr_add_52 (cm_Fr_bottomOf l D E B sa N Mm46 v0 _ _ hz52) wt_2_195 wt_2_196 wt_1_3 wt_2_197 ⟨by decide, by decide, by decide +kernel⟩ rfl ⟨Nat.le_of_ble_eq_true rfl, Nat.le_of_ble_eq_true rfl⟩ (Nat.le_of_ble_eq_true rfl) rfl ?_
          refine mv_lload (pc := 55) de_Fr_add_55 0 rfl ?_
          refine mv_ldiv (pc := 57) de_Fr_add_57 h52 (fun hc_57 h57 => ?_)
          refine mv_lstore (pc := 58) (lv' := [(6, .long (r52 / r46)), (4, .long r46), (0, .long v0), (2, .long v2)]) de_Fr_add_58 (Nat.le_of_ble_eq_true rfl) rfl ?_
          refine mv_lload_n (pc := 60) (i := 0) de_Fr_add_60 rfl 2 rfl ?_
          obtain ⟨r61, Mm61, hz61, h61⟩ := mj_callE h57
          refine mv_callS (pc := 61) (n := 1) (av := [.long v0]) (rest := []) de_Fr_add_61 (cm_Fr_topOf l D E B sa N Mm52 v0 _ _ hz61) wt_2_192 wt_2_193 wt_1_3 wt_2_194 ⟨by decide, by decide, by decide +kernel⟩ rfl ⟨Nat.le_of_ble_eq_true rfl, Nat.le_of_ble_eq_true rfl⟩ (Nat.le_of_ble_eq_true rfl) rfl ?_
          refine mv_lload_n (pc := 64) (i := 2) de_Fr_add_64 rfl 3 rfl ?_
          obtain ⟨r65, Mm65, hz65, h65⟩ := mj_callE h61
          refine mv_callS (pc := 65) (n := 1) (av := [.long v2]) (rest := [.long r61]) de_Fr_add_65 (cm_Fr_bottomOf l D E B sa N Mm61 v2 _ _ hz65) wt_2_195 wt_2_196 wt_1_3 wt_2_197 ⟨by decide, by decide, by decide +kernel⟩ rfl ⟨Nat.le_of_ble_eq_true rfl, Nat.le_of_ble_eq_true rfl⟩ (Nat.le_of_ble_eq_true rfl) rfl ?_
          refine mv_lload (pc := 68) de_Fr_add_68 1 rfl ?_
          refine mv_ldiv (pc := 70) de_Fr_add_70 h65 (fun hc_70 h70 => ?_)
          refine mv_lmul (pc := 71) de_Fr_add_71 ?_
          refine mv_lload_n (pc := 72) (i := 2) de_Fr_add_72 rfl 3 rfl ?_
          obtain ⟨r73, Mm73, hz73, h73⟩ := mj_callE h70
          refine mv_callS (pc := 73) (n := 1) (av := [.long v2]) (rest := [.long (r61 * (r65 / r46))]) de_Fr_add_73 (cm_Fr_topOf l D E B sa N Mm65 v2 _ _ hz73) wt_2_192 wt_2_193 wt_1_3 wt_2_194 ⟨by decide, by decide, by decide +kernel⟩ rfl ⟨Nat.le_of_ble_eq_true rfl, Nat.le_of_ble_eq_true rfl⟩ (Nat.le_of_ble_eq_true rfl) rfl ?_
          refine mv_lload (pc := 76) de_Fr_add_76 0 rfl ?_
          refine mv_lmul (pc := 78) de_Fr_add_78 ?_
          refine mv_ladd (pc := 79) de_Fr_add_79 ?_
          refine mv_lstore (pc := 80) (lv' := [(8, .long ((r61 * (r65 / r46)) + (r73 * (r52 / r46)))), (6, .long (r52 / r46)), (4, .long r46), (0, .long v0), (2, .long v2)]) de_Fr_add_80 (Nat.le_of_ble_eq_true rfl) rfl ?_
          refine mv_lload (pc := 82) de_Fr_add_82 0 rfl ?_
          refine mv_lload (pc := 84) de_Fr_add_84 2 rfl ?_
          obtain ⟨r86, Mm86, hz86, h86⟩ := mj_callE h73
          refine mv_callS (pc := 86) (n := 2) (av := [.long ((r61 * (r65 / r46)) + (r73 * (r52 / r46))), .long r46]) (rest := []) de_Fr_add_86 (cm_Fr_gcd l D E B sa N Mm73 ((r61 * (r65 / r46)) + (r73 * (r52 / r46))) r46 _ _ hz86) wt_1_37 wt_1_38 wt_1_3 wt_1_39 ⟨by decide, by decide, by decide +kernel⟩ rfl ⟨Nat.le_of_ble_eq_true rfl, Nat.le_of_ble_eq_true rfl⟩ (Nat.le_of_ble_eq_true rfl) rfl ?_
          refine mv_lstore (pc := 89) (lv' := [(10, .long r86), (8, .long ((r61 * (r65 / r46)) + (r73 * (r52 / r46)))), (6, .long (r52 / r46)), (4, .long r46), (0, .long v0), (2, .long v2)]) de_Fr_add_89 (Nat.le_of_ble_eq_true rfl) rfl ?_
          refine mv_lload (pc := 91) de_Fr_add_91 1 rfl ?_
          refine mv_lload (pc := 93) de_Fr_add_93 0 rfl ?_
          refine mv_ldiv (pc := 95) de_Fr_add_95 h86 (fun hc_95 h95 => ?_)
          refine mv_lload (pc := 96) de_Fr_add_96 2 rfl ?_
          refine mv_lload_n (pc := 98) (i := 2) de_Fr_add_98 rfl 5 rfl ?_
          obtain ⟨r99, Mm99, hz99, h99⟩ := mj_callE h95
          refine mv_callS (pc := 99) (n := 1) (av := [.long v2]) (rest := [.long (r52 / r46), .long (((r61 * (r65 / r46)) + (r73 * (r52 / r46))) / r86)]) de_Fr_add_99 (cm_Fr_bottomOf l D E B sa N Mm86 v2 _ _ hz99) wt_2_195 wt_2_196 wt_1_3 wt_2_197 ⟨by decide, by decide, by decide +kernel⟩ rfl ⟨Nat.le_of_ble_eq_true rfl, Nat.le_of_ble_eq_true rfl⟩ (Nat.le_of_ble_eq_true rfl) rfl ?_
          refine mv_lload (pc := 102) de_Fr_add_102 0 rfl ?_
          refine mv_ldiv (pc := 104) de_Fr_add_104 h99 (fun hc_104 h104 => ?_)
          refine mv_lmul (pc := 105) de_Fr_add_105 ?_
          obtain ⟨r106, Mm106, hz106, h106⟩ := mj_callE h104
          refine mv_callS (pc := 106) (n := 2) (av := [.long (((r61 * (r65 / r46)) + (r73 * (r52 / r46))) / r86), .long ((r52 / r46) * (r99 / r86))]) (rest := []) de_Fr_add_106 (cm_Fr_fit l D E B sa N Mm99 (((r61 * (r65 / r46)) + (r73 * (r52 / r46))) / r86) ((r52 / r46) * (r99 / r86)) _ _ hz106) wt_1_40 wt_1_41 wt_1_3 wt_1_42 ⟨by decide, by decide, by decide +kernel⟩ rfl ⟨Nat.le_of_ble_eq_true rfl, Nat.le_of_ble_eq_true rfl⟩ (Nat.le_of_ble_eq_true rfl) rfl ?_
          exact mv_lret (pc := 109) rfl de_Fr_add_109 h106
theorem cm_Fr_add (l : Launch) (D : va_G) (E : Nat → ClassId) (B : Nat) (sa : (Nat → Nat) × Nat × (Nat → Int32)) (N : Nat) (M : mv_M) (v0 : Int64) (v2 : Int64) (r : Int64) (M1 : mv_M) (hJ : jf_Fr_add N M v0 v2 = some (r, M1)) : mv_Met (xg l D E B sa) yn_Fr_add cd_Fr_add 12 (some .long) 1 30 [.long v0, .long v2] M (some (.long r)) M1 :=
  mv_enter (by decide) (Nat.le_of_ble_eq_true rfl) (mv_sub (lv := [(0, .long v0), (2, .long v2)]) [0, 1] rfl (tb_Fr_add_0 l D E B sa M M1 r N M v0 v2 hJ))
/-! ===== PlainLearner$Node.ownOfFirst(III)J ===== -/
abbrev kd_No_ownOfFirst : mv_Kd := (cd_No_ownOfFirst, 8, "PlainLearner$Node", "ownOfFirst", (some .long), 2, 61)
theorem de_No_ownOfFirst_0 : decode cd_No_ownOfFirst 0 = .ok (.aload_n 0, 1) := by decide +kernel
theorem de_No_ownOfFirst_1 : decode cd_No_ownOfFirst 1 = .ok (.getfield 25, 3) := by decide +kernel
theorem de_No_ownOfFirst_4 : decode cd_No_ownOfFirst 4 = .ok (.getfield 47, 3) := by decide +kernel
theorem de_No_ownOfFirst_7 : decode cd_No_ownOfFirst 7 = .ok (.iload_n 1, 1) := by decide +kernel
theorem de_No_ownOfFirst_8 : decode cd_No_ownOfFirst 8 = .ok (.laload, 1) := by decide +kernel
theorem de_No_ownOfFirst_9 : decode cd_No_ownOfFirst 9 = .ok (.lstore 4, 2) := by decide +kernel
theorem de_No_ownOfFirst_11 : decode cd_No_ownOfFirst 11 = .ok (.aload_n 0, 1) := by decide +kernel
theorem de_No_ownOfFirst_12 : decode cd_No_ownOfFirst 12 = .ok (.getfield 29, 3) := by decide +kernel
theorem de_No_ownOfFirst_15 : decode cd_No_ownOfFirst 15 = .ok (.ifnonnull 7, 3) := by decide +kernel
theorem de_No_ownOfFirst_18 : decode cd_No_ownOfFirst 18 = .ok (.lconst 0, 1) := by decide +kernel
theorem de_No_ownOfFirst_19 : decode cd_No_ownOfFirst 19 = .ok (.goto 12, 3) := by decide +kernel
theorem de_No_ownOfFirst_22 : decode cd_No_ownOfFirst 22 = .ok (.aload_n 0, 1) := by decide +kernel
theorem de_No_ownOfFirst_23 : decode cd_No_ownOfFirst 23 = .ok (.getfield 29, 3) := by decide +kernel
theorem de_No_ownOfFirst_26 : decode cd_No_ownOfFirst 26 = .ok (.getfield 47, 3) := by decide +kernel
theorem de_No_ownOfFirst_29 : decode cd_No_ownOfFirst 29 = .ok (.iload_n 2, 1) := by decide +kernel
theorem de_No_ownOfFirst_30 : decode cd_No_ownOfFirst 30 = .ok (.laload, 1) := by decide +kernel
theorem de_No_ownOfFirst_31 : decode cd_No_ownOfFirst 31 = .ok (.lstore 6, 2) := by decide +kernel
theorem de_No_ownOfFirst_33 : decode cd_No_ownOfFirst 33 = .ok (.aload_n 0, 1) := by decide +kernel
theorem de_No_ownOfFirst_34 : decode cd_No_ownOfFirst 34 = .ok (.getfield 15, 3) := by decide +kernel
theorem de_No_ownOfFirst_37 : decode cd_No_ownOfFirst 37 = .ok (.tableswitch 162 2 13 #[63, 66, 63, 162, 72, 83, 162, 162, 104, 108, 133, 154], 63) := by decide +kernel
theorem de_No_ownOfFirst_100 : decode cd_No_ownOfFirst 100 = .ok (.lload 6, 2) := by decide +kernel
theorem de_No_ownOfFirst_102 : decode cd_No_ownOfFirst 102 = .ok (.lreturn, 1) := by decide +kernel
theorem de_No_ownOfFirst_103 : decode cd_No_ownOfFirst 103 = .ok (.lload 6, 2) := by decide +kernel
theorem de_No_ownOfFirst_105 : decode cd_No_ownOfFirst 105 = .ok (.invokestatic 118, 3) := by decide +kernel
theorem de_No_ownOfFirst_108 : decode cd_No_ownOfFirst 108 = .ok (.lreturn, 1) := by decide +kernel
theorem de_No_ownOfFirst_109 : decode cd_No_ownOfFirst 109 = .ok (.aload_n 0, 1) := by decide +kernel
theorem de_No_ownOfFirst_110 : decode cd_No_ownOfFirst 110 = .ok (.getfield 39, 3) := by decide +kernel
theorem de_No_ownOfFirst_113 : decode cd_No_ownOfFirst 113 = .ok (.invokestatic 128, 3) := by decide +kernel
theorem de_No_ownOfFirst_116 : decode cd_No_ownOfFirst 116 = .ok (.invokestatic 118, 3) := by decide +kernel
theorem de_No_ownOfFirst_119 : decode cd_No_ownOfFirst 119 = .ok (.lreturn, 1) := by decide +kernel
theorem de_No_ownOfFirst_120 : decode cd_No_ownOfFirst 120 = .ok (.iload_n 3, 1) := by decide +kernel
theorem de_No_ownOfFirst_121 : decode cd_No_ownOfFirst 121 = .ok (.ifCond .ge 7, 3) := by decide +kernel
theorem de_No_ownOfFirst_124 : decode cd_No_ownOfFirst 124 = .ok (.lconst 0, 1) := by decide +kernel
theorem de_No_ownOfFirst_125 : decode cd_No_ownOfFirst 125 = .ok (.goto 15, 3) := by decide +kernel
theorem de_No_ownOfFirst_128 : decode cd_No_ownOfFirst 128 = .ok (.iload_n 1, 1) := by decide +kernel
theorem de_No_ownOfFirst_129 : decode cd_No_ownOfFirst 129 = .ok (.iload_n 3, 1) := by decide +kernel
theorem de_No_ownOfFirst_130 : decode cd_No_ownOfFirst 130 = .ok (.if_icmp .ne 9, 3) := by decide +kernel
theorem de_No_ownOfFirst_133 : decode cd_No_ownOfFirst 133 = .ok (.ldc2_w 154, 3) := by decide +kernel
theorem de_No_ownOfFirst_136 : decode cd_No_ownOfFirst 136 = .ok (.goto 4, 3) := by decide +kernel
theorem de_No_ownOfFirst_139 : decode cd_No_ownOfFirst 139 = .ok (.lconst 1, 1) := by decide +kernel
theorem de_No_ownOfFirst_140 : decode cd_No_ownOfFirst 140 = .ok (.lreturn, 1) := by decide +kernel
theorem de_No_ownOfFirst_141 : decode cd_No_ownOfFirst 141 = .ok (.ldc2_w 156, 3) := by decide +kernel
theorem de_No_ownOfFirst_144 : decode cd_No_ownOfFirst 144 = .ok (.lreturn, 1) := by decide +kernel
theorem de_No_ownOfFirst_145 : decode cd_No_ownOfFirst 145 = .ok (.lload 4, 2) := by decide +kernel
theorem de_No_ownOfFirst_147 : decode cd_No_ownOfFirst 147 = .ok (.lconst 0, 1) := by decide +kernel
theorem de_No_ownOfFirst_148 : decode cd_No_ownOfFirst 148 = .ok (.lcmp, 1) := by decide +kernel
theorem de_No_ownOfFirst_149 : decode cd_No_ownOfFirst 149 = .ok (.ifCond .ne 8, 3) := by decide +kernel
theorem de_No_ownOfFirst_152 : decode cd_No_ownOfFirst 152 = .ok (.lload 4, 2) := by decide +kernel
theorem de_No_ownOfFirst_154 : decode cd_No_ownOfFirst 154 = .ok (.goto 15, 3) := by decide +kernel
theorem de_No_ownOfFirst_157 : decode cd_No_ownOfFirst 157 = .ok (.iconst 0, 1) := by decide +kernel
theorem de_No_ownOfFirst_158 : decode cd_No_ownOfFirst 158 = .ok (.lload 4, 2) := by decide +kernel
theorem de_No_ownOfFirst_160 : decode cd_No_ownOfFirst 160 = .ok (.invokestatic 134, 3) := by decide +kernel
theorem de_No_ownOfFirst_163 : decode cd_No_ownOfFirst 163 = .ok (.invokestatic 158, 3) := by decide +kernel
theorem de_No_ownOfFirst_166 : decode cd_No_ownOfFirst 166 = .ok (.invokestatic 128, 3) := by decide +kernel
theorem de_No_ownOfFirst_169 : decode cd_No_ownOfFirst 169 = .ok (.lreturn, 1) := by decide +kernel
theorem de_No_ownOfFirst_170 : decode cd_No_ownOfFirst 170 = .ok (.lload 4, 2) := by decide +kernel
theorem de_No_ownOfFirst_172 : decode cd_No_ownOfFirst 172 = .ok (.lconst 0, 1) := by decide +kernel
theorem de_No_ownOfFirst_173 : decode cd_No_ownOfFirst 173 = .ok (.lcmp, 1) := by decide +kernel
theorem de_No_ownOfFirst_174 : decode cd_No_ownOfFirst 174 = .ok (.ifCond .ne 8, 3) := by decide +kernel
theorem de_No_ownOfFirst_177 : decode cd_No_ownOfFirst 177 = .ok (.lload 4, 2) := by decide +kernel
theorem de_No_ownOfFirst_179 : decode cd_No_ownOfFirst 179 = .ok (.goto 11, 3) := by decide +kernel
theorem de_No_ownOfFirst_182 : decode cd_No_ownOfFirst 182 = .ok (.lload 4, 2) := by decide +kernel
theorem de_No_ownOfFirst_184 : decode cd_No_ownOfFirst 184 = .ok (.invokestatic 134, 3) := by decide +kernel
theorem de_No_ownOfFirst_187 : decode cd_No_ownOfFirst 187 = .ok (.invokestatic 128, 3) := by decide +kernel
theorem de_No_ownOfFirst_190 : decode cd_No_ownOfFirst 190 = .ok (.lreturn, 1) := by decide +kernel
theorem de_No_ownOfFirst_191 : decode cd_No_ownOfFirst 191 = .ok (.lload 4, 2) := by decide +kernel
theorem de_No_ownOfFirst_193 : decode cd_No_ownOfFirst 193 = .ok (.lload 4, 2) := by decide +kernel
theorem de_No_ownOfFirst_195 : decode cd_No_ownOfFirst 195 = .ok (.invokestatic 107, 3) := by decide +kernel
theorem de_No_ownOfFirst_198 : decode cd_No_ownOfFirst 198 = .ok (.lreturn, 1) := by decide +kernel
theorem de_No_ownOfFirst_199 : decode cd_No_ownOfFirst 199 = .ok (.ldc2_w 154, 3) := by decide +kernel
theorem de_No_ownOfFirst_202 : decode cd_No_ownOfFirst 202 = .ok (.lreturn, 1) := by decide +kernel
def jb_No_ownOfFirst_190 (N : Nat) (M : mv_M) (s0 : Int64) : Option (Int64 × mv_M) :=
  some (s0, M)
def jb_No_ownOfFirst_169 (N : Nat) (M : mv_M) (s0 : Int64) : Option (Int64 × mv_M) :=
  some (s0, M)
def jb_No_ownOfFirst_140 (N : Nat) (M : mv_M) (s0 : Int64) : Option (Int64 × mv_M) :=
  some (s0, M)
def jb_No_ownOfFirst_31 (N : Nat) (M : mv_M) (v0 : Nat) (v1 : Int32) (v3 : Int32) (v4 : Int64) (s0 : Int64) : Option (Int64 × mv_M) :=
  Option.bind (mj_getI M v0 2 1) fun x34 =>
  if x34 = 2 then (some (s0, M)) else
  if x34 = 3 then (mj_call (jf_Fr_inverse N M s0) fun r105 Mm105 =>
  some (r105, Mm105)) else
  if x34 = 4 then (some (s0, M)) else
  if x34 = 5 then (some (4294967297, M)) else
  if x34 = 6 then (Option.bind (mj_getI M v0 2 8) fun x110 =>
  mj_call (jf_Fr_whole N M x110) fun r113 Mm113 =>
  mj_call (jf_Fr_inverse N Mm113 r113) fun r116 Mm116 =>
  some (r116, Mm116)) else
  if x34 = 7 then (if 0 ≤ v3 then (if v1 = v3 then (jb_No_ownOfFirst_140 N M 4294967297) else
  jb_No_ownOfFirst_140 N M 1) else
  jb_No_ownOfFirst_140 N M 0) else
  if x34 = 8 then (some (4294967297, M)) else
  if x34 = 9 then (some (4294967297, M)) else
  if x34 = 10 then (some ((-4294967295), M)) else
  if x34 = 11 then (if (lg_cmp v4 0) = 0 then (jb_No_ownOfFirst_169 N M v4) else
  mj_call (jf_Fr_sign N M v4) fun r160 Mm160 =>
  mj_call (jf_Jm_max N Mm160 0 r160) fun r163 Mm163 =>
  mj_call (jf_Fr_whole N Mm163 r163) fun r166 Mm166 =>
  jb_No_ownOfFirst_169 N Mm166 r166) else
  if x34 = 12 then (if (lg_cmp v4 0) = 0 then (jb_No_ownOfFirst_190 N M v4) else
  mj_call (jf_Fr_sign N M v4) fun r184 Mm184 =>
  mj_call (jf_Fr_whole N Mm184 r184) fun r187 Mm187 =>
  jb_No_ownOfFirst_190 N Mm187 r187) else
  if x34 = 13 then (mj_call (jf_Fr_add N M v4 v4) fun r195 Mm195 =>
  some (r195, Mm195)) else
  some (4294967297, M)
def jb_No_ownOfFirst_0 (N : Nat) (M : mv_M) (v0 : Nat) (v1 : Int32) (v2 : Int32) (v3 : Int32) : Option (Int64 × mv_M) :=
  Option.bind (mj_getR M v0 2 4) fun x1 =>
  Option.bind x1 fun a4 =>
  Option.bind (mj_getR M a4 2 9) fun x4 =>
  Option.bind x4 fun a8 =>
  Option.bind (mj_lld M a8 1 v1) fun x8 =>
  Option.bind (mj_getR M v0 2 5) fun x12 =>
  mj_opt x12 (jb_No_ownOfFirst_31 N M v0 v1 v3 x8 0) fun a15 =>
  Option.bind (mj_getR M v0 2 5) fun x23 =>
  Option.bind x23 fun a26 =>
  Option.bind (mj_getR M a26 2 9) fun x26 =>
  Option.bind x26 fun a30 =>
  Option.bind (mj_lld M a30 1 v2) fun x30 =>
  jb_No_ownOfFirst_31 N M v0 v1 v3 x8 x30
def jf_No_ownOfFirst (N : Nat) (M : mv_M) (v0 : Nat) (v1 : Int32) (v2 : Int32) (v3 : Int32) : Option (Int64 × mv_M) := jb_No_ownOfFirst_0 N M v0 v1 v2 v3
set_option maxHeartbeats 4000000 in
set_option maxRecDepth 100000 in
theorem tb_No_ownOfFirst_190 (l : Launch) (D : va_G) (E : Nat → ClassId) (B : Nat) (sa : (Nat → Nat) × Nat × (Nat → Int32)) (M0 M1 : mv_M) (r : Int64) (N : Nat) (M : mv_M) (s0 : Int64) (hJ : jb_No_ownOfFirst_190 N M s0 = some (r, M1)) : mv_G (xg l D E B sa) kd_No_ownOfFirst M0 M1 (some (.long r)) M 190 [] [.long s0] := by
  unfold jb_No_ownOfFirst_190 at hJ
  exact mv_lret (pc := 190) rfl de_No_ownOfFirst_190 hJ
set_option maxHeartbeats 4000000 in
set_option maxRecDepth 100000 in
theorem tb_No_ownOfFirst_169 (l : Launch) (D : va_G) (E : Nat → ClassId) (B : Nat) (sa : (Nat → Nat) × Nat × (Nat → Int32)) (M0 M1 : mv_M) (r : Int64) (N : Nat) (M : mv_M) (s0 : Int64) (hJ : jb_No_ownOfFirst_169 N M s0 = some (r, M1)) : mv_G (xg l D E B sa) kd_No_ownOfFirst M0 M1 (some (.long r)) M 169 [] [.long s0] := by
  unfold jb_No_ownOfFirst_169 at hJ
  exact mv_lret (pc := 169) rfl de_No_ownOfFirst_169 hJ
set_option maxHeartbeats 4000000 in
set_option maxRecDepth 100000 in
theorem tb_No_ownOfFirst_140 (l : Launch) (D : va_G) (E : Nat → ClassId) (B : Nat) (sa : (Nat → Nat) × Nat × (Nat → Int32)) (M0 M1 : mv_M) (r : Int64) (N : Nat) (M : mv_M) (s0 : Int64) (hJ : jb_No_ownOfFirst_140 N M s0 = some (r, M1)) : mv_G (xg l D E B sa) kd_No_ownOfFirst M0 M1 (some (.long r)) M 140 [] [.long s0] := by
  unfold jb_No_ownOfFirst_140 at hJ
  exact mv_lret (pc := 140) rfl de_No_ownOfFirst_140 hJ
set_option maxHeartbeats 4000000 in
set_option maxRecDepth 100000 in
theorem tb_No_ownOfFirst_31 (l : Launch) (D : va_G) (E : Nat → ClassId) (B : Nat) (sa : (Nat → Nat) × Nat × (Nat → Int32)) (M0 M1 : mv_M) (r : Int64) (N : Nat) (M : mv_M) (v0 : Nat) (v1 : Int32) (v3 : Int32) (v4 : Int64) (s0 : Int64) (hJ : jb_No_ownOfFirst_31 N M v0 v1 v3 v4 s0 = some (r, M1)) : mv_G (xg l D E B sa) kd_No_ownOfFirst M0 M1 (some (.long r)) M 31 [(0, va_rf (some v0)), (1, .int v1), (3, .int v3), (4, .long v4)] [.long s0] := by
  unfold jb_No_ownOfFirst_31 at hJ
  refine mv_lstore (pc := 31) (lv' := [(6, .long s0), (0, va_rf (some v0)), (1, .int v1), (3, .int v3), (4, .long v4)]) de_No_ownOfFirst_31 (Nat.le_of_ble_eq_true rfl) rfl ?_
  refine mv_aload_n (pc := 33) (i := 0) de_No_ownOfFirst_33 rfl 1 rfl ?_
  refine mv_getI (pc := 34) (f := 1) (kc_2 l D E B sa) (Nat.le_of_ble_eq_true rfl) wt_1_222 de_No_ownOfFirst_34 hJ (fun x34 e34 h34 => ?_)
  by_cases hs37_2 : x34 = 2
  · rw [if_pos hs37_2] at h34
    refine mv_tin (pc := 37) (tgt := 100) (off := 63) 2 de_No_ownOfFirst_37 hs37_2 (by decide) (by decide) ?_
    refine mv_lload (pc := 100) de_No_ownOfFirst_100 0 rfl ?_
    exact mv_lret (pc := 102) rfl de_No_ownOfFirst_102 h34
  rw [if_neg hs37_2] at h34
  by_cases hs37_3 : x34 = 3
  · rw [if_pos hs37_3] at h34
    refine mv_tin (pc := 37) (tgt := 103) (off := 66) 3 de_No_ownOfFirst_37 hs37_3 (by decide) (by decide) ?_
    refine mv_lload (pc := 103) de_No_ownOfFirst_103 0 rfl ?_
    obtain ⟨r105, Mm105, hz105, h105⟩ := mj_callE h34
    refine mv_callS (pc := 105) (n := 1) (av := [.long s0]) (rest := []) de_No_ownOfFirst_105 (cm_Fr_inverse l D E B sa N M s0 _ _ hz105) wt_2_205 wt_2_206 wt_1_3 wt_2_207 ⟨by decide, by decide, by decide +kernel⟩ rfl ⟨Nat.le_of_ble_eq_true rfl, Nat.le_of_ble_eq_true rfl⟩ (Nat.le_of_ble_eq_true rfl) rfl ?_
    exact mv_lret (pc := 108) rfl de_No_ownOfFirst_108 h105
  rw [if_neg hs37_3] at h34
  by_cases hs37_4 : x34 = 4
  · rw [if_pos hs37_4] at h34
    refine mv_tin (pc := 37) (tgt := 100) (off := 63) 4 de_No_ownOfFirst_37 hs37_4 (by decide) (by decide) ?_
    refine mv_lload (pc := 100) de_No_ownOfFirst_100 0 rfl ?_
    exact mv_lret (pc := 102) rfl de_No_ownOfFirst_102 h34
  rw [if_neg hs37_4] at h34
  by_cases hs37_5 : x34 = 5
  · rw [if_pos hs37_5] at h34
    refine mv_tin (pc := 37) (tgt := 199) (off := 162) 5 de_No_ownOfFirst_37 hs37_5 (by decide) (by decide) ?_
    refine mv_ldc2 (pc := 199) de_No_ownOfFirst_199 wt_2_211 ?_
    exact mv_lret (pc := 202) rfl de_No_ownOfFirst_202 h34
  rw [if_neg hs37_5] at h34
  by_cases hs37_6 : x34 = 6
  · rw [if_pos hs37_6] at h34
    refine mv_tin (pc := 37) (tgt := 109) (off := 72) 6 de_No_ownOfFirst_37 hs37_6 (by decide) (by decide) ?_
    refine mv_aload_n (pc := 109) (i := 0) de_No_ownOfFirst_109 rfl 1 rfl ?_
    refine mv_getI (pc := 110) (f := 8) (kc_2 l D E B sa) (Nat.le_of_ble_eq_true rfl) wt_1_231 de_No_ownOfFirst_110 h34 (fun x110 e110 h110 => ?_)
    obtain ⟨r113, Mm113, hz113, h113⟩ := mj_callE h110
    refine mv_callS (pc := 113) (n := 1) (av := [.int x110]) (rest := []) de_No_ownOfFirst_113 (cm_Fr_whole l D E B sa N M x110 _ _ hz113) wt_2_208 wt_2_209 wt_1_3 wt_2_210 ⟨by decide, by decide, by decide +kernel⟩ rfl ⟨Nat.le_of_ble_eq_true rfl, Nat.le_of_ble_eq_true rfl⟩ (Nat.le_of_ble_eq_true rfl) rfl ?_
    obtain ⟨r116, Mm116, hz116, h116⟩ := mj_callE h113
    refine mv_callS (pc := 116) (n := 1) (av := [.long r113]) (rest := []) de_No_ownOfFirst_116 (cm_Fr_inverse l D E B sa N Mm113 r113 _ _ hz116) wt_2_205 wt_2_206 wt_1_3 wt_2_207 ⟨by decide, by decide, by decide +kernel⟩ rfl ⟨Nat.le_of_ble_eq_true rfl, Nat.le_of_ble_eq_true rfl⟩ (Nat.le_of_ble_eq_true rfl) rfl ?_
    exact mv_lret (pc := 119) rfl de_No_ownOfFirst_119 h116
  rw [if_neg hs37_6] at h34
  by_cases hs37_7 : x34 = 7
  · rw [if_pos hs37_7] at h34
    refine mv_tin (pc := 37) (tgt := 120) (off := 83) 7 de_No_ownOfFirst_37 hs37_7 (by decide) (by decide) ?_
    refine mv_iload_n (pc := 120) (i := 3) de_No_ownOfFirst_120 rfl 3 rfl ?_
    refine mv_if_ge (pc := 121) (tgt := 128) de_No_ownOfFirst_121 (by decide) h34 (fun hc121 h121 => ?_) (fun hc121 h121 => ?_)
    · refine mv_iload_n (pc := 128) (i := 1) de_No_ownOfFirst_128 rfl 2 rfl ?_
      refine mv_iload_n (pc := 129) (i := 3) de_No_ownOfFirst_129 rfl 3 rfl ?_
      refine mv_icmp_ne (pc := 130) (tgt := 139) de_No_ownOfFirst_130 (by decide) h121 (fun hc130 h130 => ?_) (fun hc130 h130 => ?_)
      · refine mv_ldc2 (pc := 133) de_No_ownOfFirst_133 wt_2_211 ?_
        refine mv_goto (pc := 136) (tgt := 140) de_No_ownOfFirst_136 (by decide) ?_
        exact mv_sub [] rfl (tb_No_ownOfFirst_140 l D E B sa M0 M1 r N M 4294967297 h130)
      · refine mv_lconst (pc := 139) (v := 1) de_No_ownOfFirst_139 (by decide) ?_
        exact mv_sub [] rfl (tb_No_ownOfFirst_140 l D E B sa M0 M1 r N M 1 h130)
    · refine mv_lconst (pc := 124) (v := 0) de_No_ownOfFirst_124 (by decide) ?_
      refine mv_goto (pc := 125) (tgt := 140) de_No_ownOfFirst_125 (by decide) ?_
      exact mv_sub [] rfl (tb_No_ownOfFirst_140 l D E B sa M0 M1 r N M 0 h121)
  rw [if_neg hs37_7] at h34
  by_cases hs37_8 : x34 = 8
  · rw [if_pos hs37_8] at h34
    refine mv_tin (pc := 37) (tgt := 199) (off := 162) 8 de_No_ownOfFirst_37 hs37_8 (by decide) (by decide) ?_
    refine mv_ldc2 (pc := 199) de_No_ownOfFirst_199 wt_2_211 ?_
    exact mv_lret (pc := 202) rfl de_No_ownOfFirst_202 h34
  rw [if_neg hs37_8] at h34
  by_cases hs37_9 : x34 = 9
  · rw [if_pos hs37_9] at h34
    refine mv_tin (pc := 37) (tgt := 199) (off := 162) 9 de_No_ownOfFirst_37 hs37_9 (by decide) (by decide) ?_
    refine mv_ldc2 (pc := 199) de_No_ownOfFirst_199 wt_2_211 ?_
    exact mv_lret (pc := 202) rfl de_No_ownOfFirst_202 h34
  rw [if_neg hs37_9] at h34
  by_cases hs37_10 : x34 = 10
  · rw [if_pos hs37_10] at h34
    refine mv_tin (pc := 37) (tgt := 141) (off := 104) 10 de_No_ownOfFirst_37 hs37_10 (by decide) (by decide) ?_
    refine mv_ldc2 (pc := 141) de_No_ownOfFirst_141 wt_2_212 ?_
    exact mv_lret (pc := 144) rfl de_No_ownOfFirst_144 h34
  rw [if_neg hs37_10] at h34
  by_cases hs37_11 : x34 = 11
  · rw [if_pos hs37_11] at h34
    refine mv_tin (pc := 37) (tgt := 145) (off := 108) 11 de_No_ownOfFirst_37 hs37_11 (by decide) (by decide) ?_
    refine mv_lload (pc := 145) de_No_ownOfFirst_145 4 rfl ?_
    refine mv_lconst (pc := 147) (v := 0) de_No_ownOfFirst_147 (by decide) ?_
    refine mv_lcmp (pc := 148) de_No_ownOfFirst_148 ?_
    refine mv_if_ne (pc := 149) (tgt := 157) de_No_ownOfFirst_149 (by decide) h34 (fun hc149 h149 => ?_) (fun hc149 h149 => ?_)
    · refine mv_lload (pc := 152) de_No_ownOfFirst_152 4 rfl ?_
      refine mv_goto (pc := 154) (tgt := 169) de_No_ownOfFirst_154 (by decide) ?_
      exact mv_sub [] rfl (tb_No_ownOfFirst_169 l D E B sa M0 M1 r N M v4 h149)
    · refine mv_iconst (pc := 157) (v := 0) de_No_ownOfFirst_157 (by decide) ?_
      refine mv_lload (pc := 158) de_No_ownOfFirst_158 4 rfl ?_
      obtain ⟨r160, Mm160, hz160, h160⟩ := mj_callE h149
      refine mv_callS (pc := 160) (n := 1) (av := [.long v4]) (rest := [.int 0]) de_No_ownOfFirst_160 (cm_Fr_sign l D E B sa N M v4 _ _ hz160) wt_2_213 wt_2_214 wt_1_3 wt_2_215 ⟨by decide, by decide, by decide +kernel⟩ rfl ⟨Nat.le_of_ble_eq_true rfl, Nat.le_of_ble_eq_true rfl⟩ (Nat.le_of_ble_eq_true rfl) rfl ?_
      obtain ⟨r163, Mm163, hz163, h163⟩ := mj_callE h160
      refine mv_callS (pc := 163) (n := 2) (av := [.int 0, .int r160]) (rest := []) de_No_ownOfFirst_163 (cm_Jm_max l D E B sa N Mm160 0 r160 _ _ hz163) wt_2_216 wt_2_85 wt_1_12 wt_2_86 ⟨by decide, by decide, by decide +kernel⟩ rfl ⟨Nat.le_of_ble_eq_true rfl, Nat.le_of_ble_eq_true rfl⟩ (Nat.le_of_ble_eq_true rfl) rfl ?_
      obtain ⟨r166, Mm166, hz166, h166⟩ := mj_callE h163
      refine mv_callS (pc := 166) (n := 1) (av := [.int r163]) (rest := []) de_No_ownOfFirst_166 (cm_Fr_whole l D E B sa N Mm163 r163 _ _ hz166) wt_2_208 wt_2_209 wt_1_3 wt_2_210 ⟨by decide, by decide, by decide +kernel⟩ rfl ⟨Nat.le_of_ble_eq_true rfl, Nat.le_of_ble_eq_true rfl⟩ (Nat.le_of_ble_eq_true rfl) rfl ?_
      exact mv_sub [] rfl (tb_No_ownOfFirst_169 l D E B sa M0 M1 r N Mm166 r166 h166)
  rw [if_neg hs37_11] at h34
  by_cases hs37_12 : x34 = 12
  · rw [if_pos hs37_12] at h34
    refine mv_tin (pc := 37) (tgt := 170) (off := 133) 12 de_No_ownOfFirst_37 hs37_12 (by decide) (by decide) ?_
    refine mv_lload (pc := 170) de_No_ownOfFirst_170 4 rfl ?_
    refine mv_lconst (pc := 172) (v := 0) de_No_ownOfFirst_172 (by decide) ?_
    refine mv_lcmp (pc := 173) de_No_ownOfFirst_173 ?_
    refine mv_if_ne (pc := 174) (tgt := 182) de_No_ownOfFirst_174 (by decide) h34 (fun hc174 h174 => ?_) (fun hc174 h174 => ?_)
    · refine mv_lload (pc := 177) de_No_ownOfFirst_177 4 rfl ?_
      refine mv_goto (pc := 179) (tgt := 190) de_No_ownOfFirst_179 (by decide) ?_
      exact mv_sub [] rfl (tb_No_ownOfFirst_190 l D E B sa M0 M1 r N M v4 h174)
    · refine mv_lload (pc := 182) de_No_ownOfFirst_182 4 rfl ?_
      obtain ⟨r184, Mm184, hz184, h184⟩ := mj_callE h174
      refine mv_callS (pc := 184) (n := 1) (av := [.long v4]) (rest := []) de_No_ownOfFirst_184 (cm_Fr_sign l D E B sa N M v4 _ _ hz184) wt_2_213 wt_2_214 wt_1_3 wt_2_215 ⟨by decide, by decide, by decide +kernel⟩ rfl ⟨Nat.le_of_ble_eq_true rfl, Nat.le_of_ble_eq_true rfl⟩ (Nat.le_of_ble_eq_true rfl) rfl ?_
      obtain ⟨r187, Mm187, hz187, h187⟩ := mj_callE h184
      refine mv_callS (pc := 187) (n := 1) (av := [.int r184]) (rest := []) de_No_ownOfFirst_187 (cm_Fr_whole l D E B sa N Mm184 r184 _ _ hz187) wt_2_208 wt_2_209 wt_1_3 wt_2_210 ⟨by decide, by decide, by decide +kernel⟩ rfl ⟨Nat.le_of_ble_eq_true rfl, Nat.le_of_ble_eq_true rfl⟩ (Nat.le_of_ble_eq_true rfl) rfl ?_
      exact mv_sub [] rfl (tb_No_ownOfFirst_190 l D E B sa M0 M1 r N Mm187 r187 h187)
  rw [if_neg hs37_12] at h34
  by_cases hs37_13 : x34 = 13
  · rw [if_pos hs37_13] at h34
    refine mv_tin (pc := 37) (tgt := 191) (off := 154) 13 de_No_ownOfFirst_37 hs37_13 (by decide) (by decide) ?_
    refine mv_lload (pc := 191) de_No_ownOfFirst_191 4 rfl ?_
    refine mv_lload (pc := 193) de_No_ownOfFirst_193 4 rfl ?_
    obtain ⟨r195, Mm195, hz195, h195⟩ := mj_callE h34
    refine mv_callS (pc := 195) (n := 2) (av := [.long v4, .long v4]) (rest := []) de_No_ownOfFirst_195 (cm_Fr_add l D E B sa N M v4 v4 _ _ hz195) wt_2_217 wt_2_218 wt_1_3 wt_2_219 ⟨by decide, by decide, by decide +kernel⟩ rfl ⟨Nat.le_of_ble_eq_true rfl, Nat.le_of_ble_eq_true rfl⟩ (Nat.le_of_ble_eq_true rfl) rfl ?_
    exact mv_lret (pc := 198) rfl de_No_ownOfFirst_198 h195
  rw [if_neg hs37_13] at h34
  have qhs37_2 := lv_neT (a := 2) hs37_2 (by decide)
  have qhs37_3 := lv_neT (a := 3) hs37_3 (by decide)
  have qhs37_4 := lv_neT (a := 4) hs37_4 (by decide)
  have qhs37_5 := lv_neT (a := 5) hs37_5 (by decide)
  have qhs37_6 := lv_neT (a := 6) hs37_6 (by decide)
  have qhs37_7 := lv_neT (a := 7) hs37_7 (by decide)
  have qhs37_8 := lv_neT (a := 8) hs37_8 (by decide)
  have qhs37_9 := lv_neT (a := 9) hs37_9 (by decide)
  have qhs37_10 := lv_neT (a := 10) hs37_10 (by decide)
  have qhs37_11 := lv_neT (a := 11) hs37_11 (by decide)
  have qhs37_12 := lv_neT (a := 12) hs37_12 (by decide)
  have qhs37_13 := lv_neT (a := 13) hs37_13 (by decide)
  refine mv_tout (pc := 37) (tgt := 199) de_No_ownOfFirst_37 (by omega) (by decide) ?_
  refine mv_ldc2 (pc := 199) de_No_ownOfFirst_199 wt_2_211 ?_
  exact mv_lret (pc := 202) rfl de_No_ownOfFirst_202 h34
set_option maxHeartbeats 4000000 in
set_option maxRecDepth 100000 in
theorem tb_No_ownOfFirst_0 (l : Launch) (D : va_G) (E : Nat → ClassId) (B : Nat) (sa : (Nat → Nat) × Nat × (Nat → Int32)) (M0 M1 : mv_M) (r : Int64) (N : Nat) (M : mv_M) (v0 : Nat) (v1 : Int32) (v2 : Int32) (v3 : Int32) (hJ : jb_No_ownOfFirst_0 N M v0 v1 v2 v3 = some (r, M1)) : mv_G (xg l D E B sa) kd_No_ownOfFirst M0 M1 (some (.long r)) M 0 [(0, va_rf (some v0)), (1, .int v1), (2, .int v2), (3, .int v3)] [] := by
  unfold jb_No_ownOfFirst_0 at hJ
  refine mv_aload_n (pc := 0) (i := 0) de_No_ownOfFirst_0 rfl 0 rfl ?_
  refine mv_getR (pc := 1) (f := 4) (kc_2 l D E B sa) (Nat.le_of_ble_eq_true rfl) wt_1_225 de_No_ownOfFirst_1 hJ (fun x1 e1 h1 => ?_)
  obtain ⟨a4, ha, h4a⟩ := mj_bindE h1
  subst ha
  refine mv_getR (pc := 4) (f := 9) (kc_2 l D E B sa) (Nat.le_of_ble_eq_true rfl) wt_1_232 de_No_ownOfFirst_4 h4a (fun x4 e4 h4 => ?_)
  refine mv_iload_n (pc := 7) (i := 1) de_No_ownOfFirst_7 rfl 1 rfl ?_
  obtain ⟨a8, ha, h8a⟩ := mj_bindE h4
  subst ha
  refine mv_lald (pc := 8) (t := 1) rfl de_No_ownOfFirst_8 h8a (fun x8 e8 h8 => ?_)
  refine mv_lstore (pc := 9) (lv' := [(4, .long x8), (0, va_rf (some v0)), (1, .int v1), (2, .int v2), (3, .int v3)]) de_No_ownOfFirst_9 (Nat.le_of_ble_eq_true rfl) rfl ?_
  refine mv_aload_n (pc := 11) (i := 0) de_No_ownOfFirst_11 rfl 1 rfl ?_
  refine mv_getR (pc := 12) (f := 5) (kc_2 l D E B sa) (Nat.le_of_ble_eq_true rfl) wt_1_227 de_No_ownOfFirst_12 h8 (fun x12 e12 h12 => ?_)
  refine mv_ifnonnull (pc := 15) (tgt := 22) de_No_ownOfFirst_15 (by decide) h12 (fun ha h15 => ?_) (fun a15 ha h15 => ?_)
  · subst ha
    refine mv_lconst (pc := 18) (v := 0) de_No_ownOfFirst_18 (by decide) ?_
    refine mv_goto (pc := 19) (tgt := 31) de_No_ownOfFirst_19 (by decide) ?_
    exact mv_sub [1, 2, 4, 0] rfl (tb_No_ownOfFirst_31 l D E B sa M0 M1 r N M v0 v1 v3 x8 0 h15)
  · subst ha
    refine mv_aload_n (pc := 22) (i := 0) de_No_ownOfFirst_22 rfl 1 rfl ?_
    refine mv_getR (pc := 23) (f := 5) (kc_2 l D E B sa) (Nat.le_of_ble_eq_true rfl) wt_1_227 de_No_ownOfFirst_23 h15 (fun x23 e23 h23 => ?_)
    obtain ⟨a26, ha, h26a⟩ := mj_bindE h23
    subst ha
    refine mv_getR (pc := 26) (f := 9) (kc_2 l D E B sa) (Nat.le_of_ble_eq_true rfl) wt_1_232 de_No_ownOfFirst_26 h26a (fun x26 e26 h26 => ?_)
    refine mv_iload_n (pc := 29) (i := 2) de_No_ownOfFirst_29 rfl 3 rfl ?_
    obtain ⟨a30, ha, h30a⟩ := mj_bindE h26
    subst ha
    refine mv_lald (pc := 30) (t := 1) rfl de_No_ownOfFirst_30 h30a (fun x30 e30 h30 => ?_)
    exact mv_sub [1, 2, 4, 0] rfl (tb_No_ownOfFirst_31 l D E B sa M0 M1 r N M v0 v1 v3 x8 x30 h30)
theorem cm_No_ownOfFirst (l : Launch) (D : va_G) (E : Nat → ClassId) (B : Nat) (sa : (Nat → Nat) × Nat × (Nat → Int32)) (N : Nat) (M : mv_M) (v0 : Nat) (v1 : Int32) (v2 : Int32) (v3 : Int32) (r : Int64) (M1 : mv_M) (hJ : jf_No_ownOfFirst N M v0 v1 v2 v3 = some (r, M1)) : mv_Met (xg l D E B sa) yn_No_ownOfFirst cd_No_ownOfFirst 8 (some .long) 2 61 [va_rf (some v0), .int v1, .int v2, .int v3] M (some (.long r)) M1 :=
  mv_enter (by decide) (Nat.le_of_ble_eq_true rfl) (mv_sub (lv := [(0, va_rf (some v0)), (1, .int v1), (2, .int v2), (3, .int v3)]) [0, 1, 2, 3] rfl (tb_No_ownOfFirst_0 l D E B sa M M1 r N M v0 v1 v2 v3 hJ))
/-! ===== PlainLearner$Fractions.times(JJ)J ===== -/
abbrev kd_Fr_times : mv_Kd := (cd_Fr_times, 8, "PlainLearner$Fractions", "times", (some .long), 1, 30)
theorem de_Fr_times_0 : decode cd_Fr_times 0 = .ok (.lload_n 0, 1) := by decide +kernel
theorem de_Fr_times_1 : decode cd_Fr_times 1 = .ok (.lconst 0, 1) := by decide +kernel
theorem de_Fr_times_2 : decode cd_Fr_times 2 = .ok (.lcmp, 1) := by decide +kernel
theorem de_Fr_times_3 : decode cd_Fr_times 3 = .ok (.ifCond .eq 9, 3) := by decide +kernel
theorem de_Fr_times_6 : decode cd_Fr_times 6 = .ok (.lload_n 2, 1) := by decide +kernel
theorem de_Fr_times_7 : decode cd_Fr_times 7 = .ok (.lconst 0, 1) := by decide +kernel
theorem de_Fr_times_8 : decode cd_Fr_times 8 = .ok (.lcmp, 1) := by decide +kernel
theorem de_Fr_times_9 : decode cd_Fr_times 9 = .ok (.ifCond .ne 5, 3) := by decide +kernel
theorem de_Fr_times_12 : decode cd_Fr_times 12 = .ok (.lconst 0, 1) := by decide +kernel
theorem de_Fr_times_13 : decode cd_Fr_times 13 = .ok (.lreturn, 1) := by decide +kernel
theorem de_Fr_times_14 : decode cd_Fr_times 14 = .ok (.lload_n 0, 1) := by decide +kernel
theorem de_Fr_times_15 : decode cd_Fr_times 15 = .ok (.ldc2_w 25, 3) := by decide +kernel
theorem de_Fr_times_18 : decode cd_Fr_times 18 = .ok (.lcmp, 1) := by decide +kernel
theorem de_Fr_times_19 : decode cd_Fr_times 19 = .ok (.ifCond .eq 11, 3) := by decide +kernel
theorem de_Fr_times_22 : decode cd_Fr_times 22 = .ok (.lload_n 2, 1) := by decide +kernel
theorem de_Fr_times_23 : decode cd_Fr_times 23 = .ok (.ldc2_w 25, 3) := by decide +kernel
theorem de_Fr_times_26 : decode cd_Fr_times 26 = .ok (.lcmp, 1) := by decide +kernel
theorem de_Fr_times_27 : decode cd_Fr_times 27 = .ok (.ifCond .ne 17, 3) := by decide +kernel
theorem de_Fr_times_30 : decode cd_Fr_times 30 = .ok (.lload_n 0, 1) := by decide +kernel
theorem de_Fr_times_31 : decode cd_Fr_times 31 = .ok (.ldc2_w 25, 3) := by decide +kernel
theorem de_Fr_times_34 : decode cd_Fr_times 34 = .ok (.lcmp, 1) := by decide +kernel
theorem de_Fr_times_35 : decode cd_Fr_times 35 = .ok (.ifCond .ne 7, 3) := by decide +kernel
theorem de_Fr_times_38 : decode cd_Fr_times 38 = .ok (.lload_n 2, 1) := by decide +kernel
theorem de_Fr_times_39 : decode cd_Fr_times 39 = .ok (.goto 4, 3) := by decide +kernel
theorem de_Fr_times_42 : decode cd_Fr_times 42 = .ok (.lload_n 0, 1) := by decide +kernel
theorem de_Fr_times_43 : decode cd_Fr_times 43 = .ok (.lreturn, 1) := by decide +kernel
theorem de_Fr_times_44 : decode cd_Fr_times 44 = .ok (.lload_n 0, 1) := by decide +kernel
theorem de_Fr_times_45 : decode cd_Fr_times 45 = .ok (.invokestatic 11, 3) := by decide +kernel
theorem de_Fr_times_48 : decode cd_Fr_times 48 = .ok (.lload_n 2, 1) := by decide +kernel
theorem de_Fr_times_49 : decode cd_Fr_times 49 = .ok (.invokestatic 15, 3) := by decide +kernel
theorem de_Fr_times_52 : decode cd_Fr_times 52 = .ok (.invokestatic 22, 3) := by decide +kernel
theorem de_Fr_times_55 : decode cd_Fr_times 55 = .ok (.lstore 4, 2) := by decide +kernel
theorem de_Fr_times_57 : decode cd_Fr_times 57 = .ok (.lload_n 2, 1) := by decide +kernel
theorem de_Fr_times_58 : decode cd_Fr_times 58 = .ok (.invokestatic 11, 3) := by decide +kernel
theorem de_Fr_times_61 : decode cd_Fr_times 61 = .ok (.lload_n 0, 1) := by decide +kernel
theorem de_Fr_times_62 : decode cd_Fr_times 62 = .ok (.invokestatic 15, 3) := by decide +kernel
theorem de_Fr_times_65 : decode cd_Fr_times 65 = .ok (.invokestatic 22, 3) := by decide +kernel
theorem de_Fr_times_68 : decode cd_Fr_times 68 = .ok (.lstore 6, 2) := by decide +kernel
theorem de_Fr_times_70 : decode cd_Fr_times 70 = .ok (.lload_n 0, 1) := by decide +kernel
theorem de_Fr_times_71 : decode cd_Fr_times 71 = .ok (.invokestatic 11, 3) := by decide +kernel
theorem de_Fr_times_74 : decode cd_Fr_times 74 = .ok (.lload 4, 2) := by decide +kernel
theorem de_Fr_times_76 : decode cd_Fr_times 76 = .ok (.ldiv, 1) := by decide +kernel
theorem de_Fr_times_77 : decode cd_Fr_times 77 = .ok (.lload_n 2, 1) := by decide +kernel
theorem de_Fr_times_78 : decode cd_Fr_times 78 = .ok (.invokestatic 11, 3) := by decide +kernel
theorem de_Fr_times_81 : decode cd_Fr_times 81 = .ok (.lload 6, 2) := by decide +kernel
theorem de_Fr_times_83 : decode cd_Fr_times 83 = .ok (.ldiv, 1) := by decide +kernel
theorem de_Fr_times_84 : decode cd_Fr_times 84 = .ok (.lmul, 1) := by decide +kernel
theorem de_Fr_times_85 : decode cd_Fr_times 85 = .ok (.lload_n 0, 1) := by decide +kernel
theorem de_Fr_times_86 : decode cd_Fr_times 86 = .ok (.invokestatic 15, 3) := by decide +kernel
theorem de_Fr_times_89 : decode cd_Fr_times 89 = .ok (.lload 6, 2) := by decide +kernel
theorem de_Fr_times_91 : decode cd_Fr_times 91 = .ok (.ldiv, 1) := by decide +kernel
theorem de_Fr_times_92 : decode cd_Fr_times 92 = .ok (.lload_n 2, 1) := by decide +kernel
theorem de_Fr_times_93 : decode cd_Fr_times 93 = .ok (.invokestatic 15, 3) := by decide +kernel
theorem de_Fr_times_96 : decode cd_Fr_times 96 = .ok (.lload 4, 2) := by decide +kernel
theorem de_Fr_times_98 : decode cd_Fr_times 98 = .ok (.ldiv, 1) := by decide +kernel
theorem de_Fr_times_99 : decode cd_Fr_times 99 = .ok (.lmul, 1) := by decide +kernel
theorem de_Fr_times_100 : decode cd_Fr_times 100 = .ok (.invokestatic 18, 3) := by decide +kernel
theorem de_Fr_times_103 : decode cd_Fr_times 103 = .ok (.lreturn, 1) := by decide +kernel
def jb_Fr_times_12 (N : Nat) (M : mv_M) : Option (Int64 × mv_M) :=
  some (0, M)
def jb_Fr_times_43 (N : Nat) (M : mv_M) (s0 : Int64) : Option (Int64 × mv_M) :=
  some (s0, M)
def jb_Fr_times_30 (N : Nat) (M : mv_M) (v0 : Int64) (v2 : Int64) : Option (Int64 × mv_M) :=
  if (lg_cmp v0 4294967297) = 0 then (jb_Fr_times_43 N M v2) else
  jb_Fr_times_43 N M v0
def jb_Fr_times_0 (N : Nat) (M : mv_M) (v0 : Int64) (v2 : Int64) : Option (Int64 × mv_M) :=
  if (lg_cmp v0 0) = 0 then (jb_Fr_times_12 N M) else
  if (lg_cmp v2 0) = 0 then (jb_Fr_times_12 N M) else
  if (lg_cmp v0 4294967297) = 0 then (jb_Fr_times_30 N M v0 v2) else
  if (lg_cmp v2 4294967297) = 0 then (jb_Fr_times_30 N M v0 v2) else
  mj_call (jf_Fr_topOf N M v0) fun r45 Mm45 =>
  mj_call (jf_Fr_bottomOf N Mm45 v2) fun r49 Mm49 =>
  mj_call (jf_Fr_gcd N Mm49 r45 r49) fun r52 Mm52 =>
  mj_call (jf_Fr_topOf N Mm52 v2) fun r58 Mm58 =>
  mj_call (jf_Fr_bottomOf N Mm58 v0) fun r62 Mm62 =>
  mj_call (jf_Fr_gcd N Mm62 r58 r62) fun r65 Mm65 =>
  mj_call (jf_Fr_topOf N Mm65 v0) fun r71 Mm71 =>
  if r52 = 0 then none else
  mj_call (jf_Fr_topOf N Mm71 v2) fun r78 Mm78 =>
  if r65 = 0 then none else
  mj_call (jf_Fr_bottomOf N Mm78 v0) fun r86 Mm86 =>
  if r65 = 0 then none else
  mj_call (jf_Fr_bottomOf N Mm86 v2) fun r93 Mm93 =>
  if r52 = 0 then none else
  mj_call (jf_Fr_fit N Mm93 ((r71 / r52) * (r78 / r65)) ((r86 / r65) * (r93 / r52))) fun r100 Mm100 =>
  some (r100, Mm100)
def jf_Fr_times (N : Nat) (M : mv_M) (v0 : Int64) (v2 : Int64) : Option (Int64 × mv_M) := jb_Fr_times_0 N M v0 v2
set_option maxHeartbeats 4000000 in
set_option maxRecDepth 100000 in
theorem tb_Fr_times_12 (l : Launch) (D : va_G) (E : Nat → ClassId) (B : Nat) (sa : (Nat → Nat) × Nat × (Nat → Int32)) (M0 M1 : mv_M) (r : Int64) (N : Nat) (M : mv_M) (hJ : jb_Fr_times_12 N M = some (r, M1)) : mv_G (xg l D E B sa) kd_Fr_times M0 M1 (some (.long r)) M 12 [] [] := by
  unfold jb_Fr_times_12 at hJ
  refine mv_lconst (pc := 12) (v := 0) de_Fr_times_12 (by decide) ?_
  exact mv_lret (pc := 13) rfl de_Fr_times_13 hJ
set_option maxHeartbeats 4000000 in
set_option maxRecDepth 100000 in
theorem tb_Fr_times_43 (l : Launch) (D : va_G) (E : Nat → ClassId) (B : Nat) (sa : (Nat → Nat) × Nat × (Nat → Int32)) (M0 M1 : mv_M) (r : Int64) (N : Nat) (M : mv_M) (s0 : Int64) (hJ : jb_Fr_times_43 N M s0 = some (r, M1)) : mv_G (xg l D E B sa) kd_Fr_times M0 M1 (some (.long r)) M 43 [] [.long s0] := by
  unfold jb_Fr_times_43 at hJ
  exact mv_lret (pc := 43) rfl de_Fr_times_43 hJ
set_option maxHeartbeats 4000000 in
set_option maxRecDepth 100000 in
theorem tb_Fr_times_30 (l : Launch) (D : va_G) (E : Nat → ClassId) (B : Nat) (sa : (Nat → Nat) × Nat × (Nat → Int32)) (M0 M1 : mv_M) (r : Int64) (N : Nat) (M : mv_M) (v0 : Int64) (v2 : Int64) (hJ : jb_Fr_times_30 N M v0 v2 = some (r, M1)) : mv_G (xg l D E B sa) kd_Fr_times M0 M1 (some (.long r)) M 30 [(0, .long v0), (2, .long v2)] [] := by
  unfold jb_Fr_times_30 at hJ
  refine mv_lload_n (pc := 30) (i := 0) de_Fr_times_30 rfl 0 rfl ?_
  refine mv_ldc2 (pc := 31) de_Fr_times_31 wt_2_223 ?_
  refine mv_lcmp (pc := 34) de_Fr_times_34 ?_
  refine mv_if_ne (pc := 35) (tgt := 42) de_Fr_times_35 (by decide) hJ (fun hc35 h35 => ?_) (fun hc35 h35 => ?_)
  · refine mv_lload_n (pc := 38) (i := 2) de_Fr_times_38 rfl 1 rfl ?_
    refine mv_goto (pc := 39) (tgt := 43) de_Fr_times_39 (by decide) ?_
    exact mv_sub [] rfl (tb_Fr_times_43 l D E B sa M0 M1 r N M v2 h35)
  · refine mv_lload_n (pc := 42) (i := 0) de_Fr_times_42 rfl 0 rfl ?_
    exact mv_sub [] rfl (tb_Fr_times_43 l D E B sa M0 M1 r N M v0 h35)
set_option maxHeartbeats 4000000 in
set_option maxRecDepth 100000 in
theorem tb_Fr_times_0 (l : Launch) (D : va_G) (E : Nat → ClassId) (B : Nat) (sa : (Nat → Nat) × Nat × (Nat → Int32)) (M0 M1 : mv_M) (r : Int64) (N : Nat) (M : mv_M) (v0 : Int64) (v2 : Int64) (hJ : jb_Fr_times_0 N M v0 v2 = some (r, M1)) : mv_G (xg l D E B sa) kd_Fr_times M0 M1 (some (.long r)) M 0 [(0, .long v0), (2, .long v2)] [] := by
  unfold jb_Fr_times_0 at hJ
  refine mv_lload_n (pc := 0) (i := 0) de_Fr_times_0 rfl 0 rfl ?_
  refine mv_lconst (pc := 1) (v := 0) de_Fr_times_1 (by decide) ?_
  refine mv_lcmp (pc := 2) de_Fr_times_2 ?_
  refine mv_if_eq (pc := 3) (tgt := 12) de_Fr_times_3 (by decide) hJ (fun hc3 h3 => ?_) (fun hc3 h3 => ?_)
  · exact mv_sub [] rfl (tb_Fr_times_12 l D E B sa M0 M1 r N M h3)
  · refine mv_lload_n (pc := 6) (i := 2) de_Fr_times_6 rfl 1 rfl ?_
    refine mv_lconst (pc := 7) (v := 0) de_Fr_times_7 (by decide) ?_
    refine mv_lcmp (pc := 8) de_Fr_times_8 ?_
    refine mv_if_ne (pc := 9) (tgt := 14) de_Fr_times_9 (by decide) h3 (fun hc9 h9 => ?_) (fun hc9 h9 => ?_)
    · exact mv_sub [] rfl (tb_Fr_times_12 l D E B sa M0 M1 r N M h9)
    · refine mv_lload_n (pc := 14) (i := 0) de_Fr_times_14 rfl 0 rfl ?_
      refine mv_ldc2 (pc := 15) de_Fr_times_15 wt_2_223 ?_
      refine mv_lcmp (pc := 18) de_Fr_times_18 ?_
      refine mv_if_eq (pc := 19) (tgt := 30) de_Fr_times_19 (by decide) h9 (fun hc19 h19 => ?_) (fun hc19 h19 => ?_)
      · exact mv_sub [0, 1] rfl (tb_Fr_times_30 l D E B sa M0 M1 r N M v0 v2 h19)
      · refine mv_lload_n (pc := 22) (i := 2) de_Fr_times_22 rfl 1 rfl ?_
        refine mv_ldc2 (pc := 23) de_Fr_times_23 wt_2_223 ?_
        refine mv_lcmp (pc := 26) de_Fr_times_26 ?_
        refine mv_if_ne (pc := 27) (tgt := 44) de_Fr_times_27 (by decide) h19 (fun hc27 h27 => ?_) (fun hc27 h27 => ?_)
        · exact mv_sub [0, 1] rfl (tb_Fr_times_30 l D E B sa M0 M1 r N M v0 v2 h27)
        · refine mv_lload_n (pc := 44) (i := 0) de_Fr_times_44 rfl 0 rfl ?_
          obtain ⟨r45, Mm45, hz45, h45⟩ := mj_callE h27
          refine mv_callS (pc := 45) (n := 1) (av := [.long v0]) (rest := []) de_Fr_times_45 (cm_Fr_topOf l D E B sa N M v0 _ _ hz45) wt_2_192 wt_2_193 wt_1_3 wt_2_194 ⟨by decide, by decide, by decide +kernel⟩ rfl ⟨Nat.le_of_ble_eq_true rfl, Nat.le_of_ble_eq_true rfl⟩ (Nat.le_of_ble_eq_true rfl) rfl ?_
          refine mv_lload_n (pc := 48) (i := 2) de_Fr_times_48 rfl 1 rfl ?_
          obtain ⟨r49, Mm49, hz49, h49⟩ := mj_callE h45
          refine mv_callS (pc := 49) (n := 1) (av := [.long v2]) (rest := [.long r45]) de_Fr_times_49 (cm_Fr_bottomOf l D E B sa N Mm45 v2 _ _ hz49) wt_2_195 wt_2_196 wt_1_3 wt_2_197 ⟨by decide, by decide, by decide +kernel⟩ rfl ⟨Nat.le_of_ble_eq_true rfl, Nat.le_of_ble_eq_true rfl⟩ (Nat.le_of_ble_eq_true rfl) rfl ?_
          obtain ⟨r52, Mm52, hz52, h52⟩ := mj_callE h49
          refine mv_callS (pc := 52) (n := 2) (av := [.long r45, .long r49]) (rest := []) de_Fr_times_52 (cm_Fr_gcd l D E B sa N Mm49 r45 r49 _ _ hz52) wt_1_37 wt_1_38 wt_1_3 wt_1_39 ⟨by decide, by decide, by decide +kernel⟩ rfl ⟨Nat.le_of_ble_eq_true rfl, Nat.le_of_ble_eq_true rfl⟩ (Nat.le_of_ble_eq_true rfl) rfl ?_
          refine mv_lstore (pc := 55) (lv' := [(4, .long r52), (0, .long v0), (2, .long v2)]) de_Fr_times_55 (Nat.le_of_ble_eq_true rfl) rfl ?_
          refine mv_lload_n (pc := 57) (i := 2) de_Fr_times_57 rfl 2 rfl ?_
          obtain ⟨r58, Mm58, hz58, h58⟩ := mj_callE h52
          refine mv_callS (pc := 58) (n := 1) (av := [.long v2]) (rest := []) de_Fr_times_58 (cm_Fr_topOf l D E B sa N Mm52 v2 _ _ hz58) wt_2_192 wt_2_193 wt_1_3 wt_2_194 ⟨by decide, by decide, by decide +kernel⟩ rfl ⟨Nat.le_of_ble_eq_true rfl, Nat.le_of_ble_eq_true rfl⟩ (Nat.le_of_ble_eq_true rfl) rfl ?_
          refine mv_lload_n (pc := 61) (i := 0) de_Fr_times_61 rfl 1 rfl ?_
          obtain ⟨r62, Mm62, hz62, h62⟩ := mj_callE h58
          refine mv_callS (pc := 62) (n := 1) (av := [.long v0]) (rest := [.long r58]) de_Fr_times_62 (cm_Fr_bottomOf l D E B sa N Mm58 v0 _ _ hz62) wt_2_195 wt_2_196 wt_1_3 wt_2_197 ⟨by decide, by decide, by decide +kernel⟩ rfl ⟨Nat.le_of_ble_eq_true rfl, Nat.le_of_ble_eq_true rfl⟩ (Nat.le_of_ble_eq_true rfl) rfl ?_
          obtain ⟨r65, Mm65, hz65, h65⟩ := mj_callE h62
          refine mv_callS (pc := 65) (n := 2) (av := [.long r58, .long r62]) (rest := []) de_Fr_times_65 (cm_Fr_gcd l D E B sa N Mm62 r58 r62 _ _ hz65) wt_1_37 wt_1_38 wt_1_3 wt_1_39 ⟨by decide, by decide, by decide +kernel⟩ rfl ⟨Nat.le_of_ble_eq_true rfl, Nat.le_of_ble_eq_true rfl⟩ (Nat.le_of_ble_eq_true rfl) rfl ?_
          refine mv_lstore (pc := 68) (lv' := [(6, .long r65), (4, .long r52), (0, .long v0), (2, .long v2)]) de_Fr_times_68 (Nat.le_of_ble_eq_true rfl) rfl ?_
          refine mv_lload_n (pc := 70) (i := 0) de_Fr_times_70 rfl 2 rfl ?_
          obtain ⟨r71, Mm71, hz71, h71⟩ := mj_callE h65
          refine mv_callS (pc := 71) (n := 1) (av := [.long v0]) (rest := []) de_Fr_times_71 (cm_Fr_topOf l D E B sa N Mm65 v0 _ _ hz71) wt_2_192 wt_2_193 wt_1_3 wt_2_194 ⟨by decide, by decide, by decide +kernel⟩ rfl ⟨Nat.le_of_ble_eq_true rfl, Nat.le_of_ble_eq_true rfl⟩ (Nat.le_of_ble_eq_true rfl) rfl ?_
          refine mv_lload (pc := 74) de_Fr_times_74 1 rfl ?_
          refine mv_ldiv (pc := 76) de_Fr_times_76 h71 (fun hc_76 h76 => ?_)
          refine mv_lload_n (pc := 77) (i := 2) de_Fr_times_77 rfl 3 rfl ?_
          obtain ⟨r78, Mm78, hz78, h78⟩ := mj_callE h76
          refine mv_callS (pc := 78) (n := 1) (av := [.long v2]) (rest := [.long (r71 / r52)]) de_Fr_times_78 (cm_Fr_topOf l D E B sa N Mm71 v2 _ _ hz78) wt_2_192 wt_2_193 wt_1_3 wt_2_194 ⟨by decide, by decide, by decide +kernel⟩ rfl ⟨Nat.le_of_ble_eq_true rfl, Nat.le_of_ble_eq_true rfl⟩ (Nat.le_of_ble_eq_true rfl) rfl ?_
          refine mv_lload (pc := 81) de_Fr_times_81 0 rfl ?_
          refine mv_ldiv (pc := 83) de_Fr_times_83 h78 (fun hc_83 h83 => ?_)
          refine mv_lmul (pc := 84) de_Fr_times_84 ?_
          refine mv_lload_n (pc := 85) (i := 0) de_Fr_times_85 rfl 2 rfl ?_
          obtain ⟨r86, Mm86, hz86, h86⟩ := mj_callE h83
          refine mv_callS (pc := 86) (n := 1) (av := [.long v0]) (rest := [.long ((r71 / r52) * (r78 / r65))]) de_Fr_times_86 (cm_Fr_bottomOf l D E B sa N Mm78 v0 _ _ hz86) wt_2_195 wt_2_196 wt_1_3 wt_2_197 ⟨by decide, by decide, by decide +kernel⟩ rfl ⟨Nat.le_of_ble_eq_true rfl, Nat.le_of_ble_eq_true rfl⟩ (Nat.le_of_ble_eq_true rfl) rfl ?_
          refine mv_lload (pc := 89) de_Fr_times_89 0 rfl ?_
          refine mv_ldiv (pc := 91) de_Fr_times_91 h86 (fun hc_91 h91 => ?_)
          refine mv_lload_n (pc := 92) (i := 2) de_Fr_times_92 rfl 3 rfl ?_
          obtain ⟨r93, Mm93, hz93, h93⟩ := mj_callE h91
          refine mv_callS (pc := 93) (n := 1) (av := [.long v2]) (rest := [.long (r86 / r65), .long ((r71 / r52) * (r78 / r65))]) de_Fr_times_93 (cm_Fr_bottomOf l D E B sa N Mm86 v2 _ _ hz93) wt_2_195 wt_2_196 wt_1_3 wt_2_197 ⟨by decide, by decide, by decide +kernel⟩ rfl ⟨Nat.le_of_ble_eq_true rfl, Nat.le_of_ble_eq_true rfl⟩ (Nat.le_of_ble_eq_true rfl) rfl ?_
          refine mv_lload (pc := 96) de_Fr_times_96 1 rfl ?_
          refine mv_ldiv (pc := 98) de_Fr_times_98 h93 (fun hc_98 h98 => ?_)
          refine mv_lmul (pc := 99) de_Fr_times_99 ?_
          obtain ⟨r100, Mm100, hz100, h100⟩ := mj_callE h98
          refine mv_callS (pc := 100) (n := 2) (av := [.long ((r71 / r52) * (r78 / r65)), .long ((r86 / r65) * (r93 / r52))]) (rest := []) de_Fr_times_100 (cm_Fr_fit l D E B sa N Mm93 ((r71 / r52) * (r78 / r65)) ((r86 / r65) * (r93 / r52)) _ _ hz100) wt_1_40 wt_1_41 wt_1_3 wt_1_42 ⟨by decide, by decide, by decide +kernel⟩ rfl ⟨Nat.le_of_ble_eq_true rfl, Nat.le_of_ble_eq_true rfl⟩ (Nat.le_of_ble_eq_true rfl) rfl ?_
          exact mv_lret (pc := 103) rfl de_Fr_times_103 h100
theorem cm_Fr_times (l : Launch) (D : va_G) (E : Nat → ClassId) (B : Nat) (sa : (Nat → Nat) × Nat × (Nat → Int32)) (N : Nat) (M : mv_M) (v0 : Int64) (v2 : Int64) (r : Int64) (M1 : mv_M) (hJ : jf_Fr_times N M v0 v2 = some (r, M1)) : mv_Met (xg l D E B sa) yn_Fr_times cd_Fr_times 8 (some .long) 1 30 [.long v0, .long v2] M (some (.long r)) M1 :=
  mv_enter (by decide) (Nat.le_of_ble_eq_true rfl) (mv_sub (lv := [(0, .long v0), (2, .long v2)]) [0, 1] rfl (tb_Fr_times_0 l D E B sa M M1 r N M v0 v2 hJ))
/-! ===== PlainLearner$Fractions.minus(J)J ===== -/
abbrev kd_Fr_minus : mv_Kd := (cd_Fr_minus, 2, "PlainLearner$Fractions", "minus", (some .long), 1, 23)
theorem de_Fr_minus_0 : decode cd_Fr_minus 0 = .ok (.lload_n 0, 1) := by decide +kernel
theorem de_Fr_minus_1 : decode cd_Fr_minus 1 = .ok (.invokestatic 11, 3) := by decide +kernel
theorem de_Fr_minus_4 : decode cd_Fr_minus 4 = .ok (.lneg, 1) := by decide +kernel
theorem de_Fr_minus_5 : decode cd_Fr_minus 5 = .ok (.lload_n 0, 1) := by decide +kernel
theorem de_Fr_minus_6 : decode cd_Fr_minus 6 = .ok (.invokestatic 15, 3) := by decide +kernel
theorem de_Fr_minus_9 : decode cd_Fr_minus 9 = .ok (.invokestatic 18, 3) := by decide +kernel
theorem de_Fr_minus_12 : decode cd_Fr_minus 12 = .ok (.lreturn, 1) := by decide +kernel
def jb_Fr_minus_0 (N : Nat) (M : mv_M) (v0 : Int64) : Option (Int64 × mv_M) :=
  mj_call (jf_Fr_topOf N M v0) fun r1 Mm1 =>
  mj_call (jf_Fr_bottomOf N Mm1 v0) fun r6 Mm6 =>
  mj_call (jf_Fr_fit N Mm6 (-r1) r6) fun r9 Mm9 =>
  some (r9, Mm9)
def jf_Fr_minus (N : Nat) (M : mv_M) (v0 : Int64) : Option (Int64 × mv_M) := jb_Fr_minus_0 N M v0
set_option maxHeartbeats 4000000 in
set_option maxRecDepth 100000 in
theorem tb_Fr_minus_0 (l : Launch) (D : va_G) (E : Nat → ClassId) (B : Nat) (sa : (Nat → Nat) × Nat × (Nat → Int32)) (M0 M1 : mv_M) (r : Int64) (N : Nat) (M : mv_M) (v0 : Int64) (hJ : jb_Fr_minus_0 N M v0 = some (r, M1)) : mv_G (xg l D E B sa) kd_Fr_minus M0 M1 (some (.long r)) M 0 [(0, .long v0)] [] := by
  unfold jb_Fr_minus_0 at hJ
  refine mv_lload_n (pc := 0) (i := 0) de_Fr_minus_0 rfl 0 rfl ?_
  obtain ⟨r1, Mm1, hz1, h1⟩ := mj_callE hJ
  refine mv_callS (pc := 1) (n := 1) (av := [.long v0]) (rest := []) de_Fr_minus_1 (cm_Fr_topOf l D E B sa N M v0 _ _ hz1) wt_2_192 wt_2_193 wt_1_3 wt_2_194 ⟨by decide, by decide, by decide +kernel⟩ rfl ⟨Nat.le_of_ble_eq_true rfl, Nat.le_of_ble_eq_true rfl⟩ (Nat.le_of_ble_eq_true rfl) rfl ?_
  refine mv_lneg (pc := 4) de_Fr_minus_4 ?_
  refine mv_lload_n (pc := 5) (i := 0) de_Fr_minus_5 rfl 0 rfl ?_
  obtain ⟨r6, Mm6, hz6, h6⟩ := mj_callE h1
  refine mv_callS (pc := 6) (n := 1) (av := [.long v0]) (rest := [.long (-r1)]) de_Fr_minus_6 (cm_Fr_bottomOf l D E B sa N Mm1 v0 _ _ hz6) wt_2_195 wt_2_196 wt_1_3 wt_2_197 ⟨by decide, by decide, by decide +kernel⟩ rfl ⟨Nat.le_of_ble_eq_true rfl, Nat.le_of_ble_eq_true rfl⟩ (Nat.le_of_ble_eq_true rfl) rfl ?_
  obtain ⟨r9, Mm9, hz9, h9⟩ := mj_callE h6
  refine mv_callS (pc := 9) (n := 2) (av := [.long (-r1), .long r6]) (rest := []) de_Fr_minus_9 (cm_Fr_fit l D E B sa N Mm6 (-r1) r6 _ _ hz9) wt_1_40 wt_1_41 wt_1_3 wt_1_42 ⟨by decide, by decide, by decide +kernel⟩ rfl ⟨Nat.le_of_ble_eq_true rfl, Nat.le_of_ble_eq_true rfl⟩ (Nat.le_of_ble_eq_true rfl) rfl ?_
  exact mv_lret (pc := 12) rfl de_Fr_minus_12 h9
theorem cm_Fr_minus (l : Launch) (D : va_G) (E : Nat → ClassId) (B : Nat) (sa : (Nat → Nat) × Nat × (Nat → Int32)) (N : Nat) (M : mv_M) (v0 : Int64) (r : Int64) (M1 : mv_M) (hJ : jf_Fr_minus N M v0 = some (r, M1)) : mv_Met (xg l D E B sa) yn_Fr_minus cd_Fr_minus 2 (some .long) 1 23 [.long v0] M (some (.long r)) M1 :=
  mv_enter (by decide) (Nat.le_of_ble_eq_true rfl) (mv_sub (lv := [(0, .long v0)]) [0] rfl (tb_Fr_minus_0 l D E B sa M M1 r N M v0 hJ))
/-! ===== PlainLearner$Node.ownOfSecond(II)J ===== -/
abbrev kd_No_ownOfSecond : mv_Kd := (cd_No_ownOfSecond, 9, "PlainLearner$Node", "ownOfSecond", (some .long), 2, 57)
theorem de_No_ownOfSecond_0 : decode cd_No_ownOfSecond 0 = .ok (.aload_n 0, 1) := by decide +kernel
theorem de_No_ownOfSecond_1 : decode cd_No_ownOfSecond 1 = .ok (.getfield 25, 3) := by decide +kernel
theorem de_No_ownOfSecond_4 : decode cd_No_ownOfSecond 4 = .ok (.getfield 47, 3) := by decide +kernel
theorem de_No_ownOfSecond_7 : decode cd_No_ownOfSecond 7 = .ok (.iload_n 1, 1) := by decide +kernel
theorem de_No_ownOfSecond_8 : decode cd_No_ownOfSecond 8 = .ok (.laload, 1) := by decide +kernel
theorem de_No_ownOfSecond_9 : decode cd_No_ownOfSecond 9 = .ok (.lstore_n 3, 1) := by decide +kernel
theorem de_No_ownOfSecond_10 : decode cd_No_ownOfSecond 10 = .ok (.aload_n 0, 1) := by decide +kernel
theorem de_No_ownOfSecond_11 : decode cd_No_ownOfSecond 11 = .ok (.getfield 29, 3) := by decide +kernel
theorem de_No_ownOfSecond_14 : decode cd_No_ownOfSecond 14 = .ok (.ifnonnull 7, 3) := by decide +kernel
theorem de_No_ownOfSecond_17 : decode cd_No_ownOfSecond 17 = .ok (.lconst 0, 1) := by decide +kernel
theorem de_No_ownOfSecond_18 : decode cd_No_ownOfSecond 18 = .ok (.goto 12, 3) := by decide +kernel
theorem de_No_ownOfSecond_21 : decode cd_No_ownOfSecond 21 = .ok (.aload_n 0, 1) := by decide +kernel
theorem de_No_ownOfSecond_22 : decode cd_No_ownOfSecond 22 = .ok (.getfield 29, 3) := by decide +kernel
theorem de_No_ownOfSecond_25 : decode cd_No_ownOfSecond 25 = .ok (.getfield 47, 3) := by decide +kernel
theorem de_No_ownOfSecond_28 : decode cd_No_ownOfSecond 28 = .ok (.iload_n 2, 1) := by decide +kernel
theorem de_No_ownOfSecond_29 : decode cd_No_ownOfSecond 29 = .ok (.laload, 1) := by decide +kernel
theorem de_No_ownOfSecond_30 : decode cd_No_ownOfSecond 30 = .ok (.lstore 5, 2) := by decide +kernel
theorem de_No_ownOfSecond_32 : decode cd_No_ownOfSecond 32 = .ok (.aload_n 0, 1) := by decide +kernel
theorem de_No_ownOfSecond_33 : decode cd_No_ownOfSecond 33 = .ok (.getfield 15, 3) := by decide +kernel
theorem de_No_ownOfSecond_36 : decode cd_No_ownOfSecond 36 = .ok (.tableswitch 62 0 3 #[32, 36, 62, 40], 32) := by decide +kernel
theorem de_No_ownOfSecond_68 : decode cd_No_ownOfSecond 68 = .ok (.ldc2_w 154, 3) := by decide +kernel
theorem de_No_ownOfSecond_71 : decode cd_No_ownOfSecond 71 = .ok (.lreturn, 1) := by decide +kernel
theorem de_No_ownOfSecond_72 : decode cd_No_ownOfSecond 72 = .ok (.ldc2_w 156, 3) := by decide +kernel
theorem de_No_ownOfSecond_75 : decode cd_No_ownOfSecond 75 = .ok (.lreturn, 1) := by decide +kernel
theorem de_No_ownOfSecond_76 : decode cd_No_ownOfSecond 76 = .ok (.lload 5, 2) := by decide +kernel
theorem de_No_ownOfSecond_78 : decode cd_No_ownOfSecond 78 = .ok (.invokestatic 118, 3) := by decide +kernel
theorem de_No_ownOfSecond_81 : decode cd_No_ownOfSecond 81 = .ok (.lstore 7, 2) := by decide +kernel
theorem de_No_ownOfSecond_83 : decode cd_No_ownOfSecond 83 = .ok (.lload_n 3, 1) := by decide +kernel
theorem de_No_ownOfSecond_84 : decode cd_No_ownOfSecond 84 = .ok (.lload 7, 2) := by decide +kernel
theorem de_No_ownOfSecond_86 : decode cd_No_ownOfSecond 86 = .ok (.invokestatic 115, 3) := by decide +kernel
theorem de_No_ownOfSecond_89 : decode cd_No_ownOfSecond 89 = .ok (.lload 7, 2) := by decide +kernel
theorem de_No_ownOfSecond_91 : decode cd_No_ownOfSecond 91 = .ok (.invokestatic 115, 3) := by decide +kernel
theorem de_No_ownOfSecond_94 : decode cd_No_ownOfSecond 94 = .ok (.invokestatic 111, 3) := by decide +kernel
theorem de_No_ownOfSecond_97 : decode cd_No_ownOfSecond 97 = .ok (.lreturn, 1) := by decide +kernel
theorem de_No_ownOfSecond_98 : decode cd_No_ownOfSecond 98 = .ok (.lload_n 3, 1) := by decide +kernel
theorem de_No_ownOfSecond_99 : decode cd_No_ownOfSecond 99 = .ok (.lreturn, 1) := by decide +kernel
def jb_No_ownOfSecond_30 (N : Nat) (M : mv_M) (v0 : Nat) (v3 : Int64) (s0 : Int64) : Option (Int64 × mv_M) :=
  Option.bind (mj_getI M v0 2 1) fun x33 =>
  if x33 = 0 then (some (4294967297, M)) else
  if x33 = 1 then (some ((-4294967295), M)) else
  if x33 = 2 then (some (v3, M)) else
  if x33 = 3 then (mj_call (jf_Fr_inverse N M s0) fun r78 Mm78 =>
  mj_call (jf_Fr_times N Mm78 v3 r78) fun r86 Mm86 =>
  mj_call (jf_Fr_times N Mm86 r86 r78) fun r91 Mm91 =>
  mj_call (jf_Fr_minus N Mm91 r91) fun r94 Mm94 =>
  some (r94, Mm94)) else
  some (v3, M)
def jb_No_ownOfSecond_0 (N : Nat) (M : mv_M) (v0 : Nat) (v1 : Int32) (v2 : Int32) : Option (Int64 × mv_M) :=
  Option.bind (mj_getR M v0 2 4) fun x1 =>
  Option.bind x1 fun a4 =>
  Option.bind (mj_getR M a4 2 9) fun x4 =>
  Option.bind x4 fun a8 =>
  Option.bind (mj_lld M a8 1 v1) fun x8 =>
  Option.bind (mj_getR M v0 2 5) fun x11 =>
  mj_opt x11 (jb_No_ownOfSecond_30 N M v0 x8 0) fun a14 =>
  Option.bind (mj_getR M v0 2 5) fun x22 =>
  Option.bind x22 fun a25 =>
  Option.bind (mj_getR M a25 2 9) fun x25 =>
  Option.bind x25 fun a29 =>
  Option.bind (mj_lld M a29 1 v2) fun x29 =>
  jb_No_ownOfSecond_30 N M v0 x8 x29
def jf_No_ownOfSecond (N : Nat) (M : mv_M) (v0 : Nat) (v1 : Int32) (v2 : Int32) : Option (Int64 × mv_M) := jb_No_ownOfSecond_0 N M v0 v1 v2
set_option maxHeartbeats 4000000 in
set_option maxRecDepth 100000 in
theorem tb_No_ownOfSecond_30 (l : Launch) (D : va_G) (E : Nat → ClassId) (B : Nat) (sa : (Nat → Nat) × Nat × (Nat → Int32)) (M0 M1 : mv_M) (r : Int64) (N : Nat) (M : mv_M) (v0 : Nat) (v3 : Int64) (s0 : Int64) (hJ : jb_No_ownOfSecond_30 N M v0 v3 s0 = some (r, M1)) : mv_G (xg l D E B sa) kd_No_ownOfSecond M0 M1 (some (.long r)) M 30 [(0, va_rf (some v0)), (3, .long v3)] [.long s0] := by
  unfold jb_No_ownOfSecond_30 at hJ
  refine mv_lstore (pc := 30) (lv' := [(5, .long s0), (0, va_rf (some v0)), (3, .long v3)]) de_No_ownOfSecond_30 (Nat.le_of_ble_eq_true rfl) rfl ?_
  refine mv_aload_n (pc := 32) (i := 0) de_No_ownOfSecond_32 rfl 1 rfl ?_
  refine mv_getI (pc := 33) (f := 1) (kc_2 l D E B sa) (Nat.le_of_ble_eq_true rfl) wt_1_222 de_No_ownOfSecond_33 hJ (fun x33 e33 h33 => ?_)
  by_cases hs36_0 : x33 = 0
  · rw [if_pos hs36_0] at h33
    refine mv_tin (pc := 36) (tgt := 68) (off := 32) 0 de_No_ownOfSecond_36 hs36_0 (by decide) (by decide) ?_
    refine mv_ldc2 (pc := 68) de_No_ownOfSecond_68 wt_2_211 ?_
    exact mv_lret (pc := 71) rfl de_No_ownOfSecond_71 h33
  rw [if_neg hs36_0] at h33
  by_cases hs36_1 : x33 = 1
  · rw [if_pos hs36_1] at h33
    refine mv_tin (pc := 36) (tgt := 72) (off := 36) 1 de_No_ownOfSecond_36 hs36_1 (by decide) (by decide) ?_
    refine mv_ldc2 (pc := 72) de_No_ownOfSecond_72 wt_2_212 ?_
    exact mv_lret (pc := 75) rfl de_No_ownOfSecond_75 h33
  rw [if_neg hs36_1] at h33
  by_cases hs36_2 : x33 = 2
  · rw [if_pos hs36_2] at h33
    refine mv_tin (pc := 36) (tgt := 98) (off := 62) 2 de_No_ownOfSecond_36 hs36_2 (by decide) (by decide) ?_
    refine mv_lload_n (pc := 98) (i := 3) de_No_ownOfSecond_98 rfl 2 rfl ?_
    exact mv_lret (pc := 99) rfl de_No_ownOfSecond_99 h33
  rw [if_neg hs36_2] at h33
  by_cases hs36_3 : x33 = 3
  · rw [if_pos hs36_3] at h33
    refine mv_tin (pc := 36) (tgt := 76) (off := 40) 3 de_No_ownOfSecond_36 hs36_3 (by decide) (by decide) ?_
    refine mv_lload (pc := 76) de_No_ownOfSecond_76 0 rfl ?_
    obtain ⟨r78, Mm78, hz78, h78⟩ := mj_callE h33
    refine mv_callS (pc := 78) (n := 1) (av := [.long s0]) (rest := []) de_No_ownOfSecond_78 (cm_Fr_inverse l D E B sa N M s0 _ _ hz78) wt_2_205 wt_2_206 wt_1_3 wt_2_207 ⟨by decide, by decide, by decide +kernel⟩ rfl ⟨Nat.le_of_ble_eq_true rfl, Nat.le_of_ble_eq_true rfl⟩ (Nat.le_of_ble_eq_true rfl) rfl ?_
    refine mv_lstore (pc := 81) (lv' := [(7, .long r78), (5, .long s0), (0, va_rf (some v0)), (3, .long v3)]) de_No_ownOfSecond_81 (Nat.le_of_ble_eq_true rfl) rfl ?_
    refine mv_lload_n (pc := 83) (i := 3) de_No_ownOfSecond_83 rfl 3 rfl ?_
    refine mv_lload (pc := 84) de_No_ownOfSecond_84 0 rfl ?_
    obtain ⟨r86, Mm86, hz86, h86⟩ := mj_callE h78
    refine mv_callS (pc := 86) (n := 2) (av := [.long v3, .long r78]) (rest := []) de_No_ownOfSecond_86 (cm_Fr_times l D E B sa N Mm78 v3 r78 _ _ hz86) wt_2_220 wt_2_221 wt_1_3 wt_2_222 ⟨by decide, by decide, by decide +kernel⟩ rfl ⟨Nat.le_of_ble_eq_true rfl, Nat.le_of_ble_eq_true rfl⟩ (Nat.le_of_ble_eq_true rfl) rfl ?_
    refine mv_lload (pc := 89) de_No_ownOfSecond_89 0 rfl ?_
    obtain ⟨r91, Mm91, hz91, h91⟩ := mj_callE h86
    refine mv_callS (pc := 91) (n := 2) (av := [.long r86, .long r78]) (rest := []) de_No_ownOfSecond_91 (cm_Fr_times l D E B sa N Mm86 r86 r78 _ _ hz91) wt_2_220 wt_2_221 wt_1_3 wt_2_222 ⟨by decide, by decide, by decide +kernel⟩ rfl ⟨Nat.le_of_ble_eq_true rfl, Nat.le_of_ble_eq_true rfl⟩ (Nat.le_of_ble_eq_true rfl) rfl ?_
    obtain ⟨r94, Mm94, hz94, h94⟩ := mj_callE h91
    refine mv_callS (pc := 94) (n := 1) (av := [.long r91]) (rest := []) de_No_ownOfSecond_94 (cm_Fr_minus l D E B sa N Mm91 r91 _ _ hz94) wt_2_228 wt_2_229 wt_1_3 wt_2_230 ⟨by decide, by decide, by decide +kernel⟩ rfl ⟨Nat.le_of_ble_eq_true rfl, Nat.le_of_ble_eq_true rfl⟩ (Nat.le_of_ble_eq_true rfl) rfl ?_
    exact mv_lret (pc := 97) rfl de_No_ownOfSecond_97 h94
  rw [if_neg hs36_3] at h33
  have qhs36_0 := lv_neT (a := 0) hs36_0 (by decide)
  have qhs36_1 := lv_neT (a := 1) hs36_1 (by decide)
  have qhs36_2 := lv_neT (a := 2) hs36_2 (by decide)
  have qhs36_3 := lv_neT (a := 3) hs36_3 (by decide)
  refine mv_tout (pc := 36) (tgt := 98) de_No_ownOfSecond_36 (by omega) (by decide) ?_
  refine mv_lload_n (pc := 98) (i := 3) de_No_ownOfSecond_98 rfl 2 rfl ?_
  exact mv_lret (pc := 99) rfl de_No_ownOfSecond_99 h33
set_option maxHeartbeats 4000000 in
set_option maxRecDepth 100000 in
theorem tb_No_ownOfSecond_0 (l : Launch) (D : va_G) (E : Nat → ClassId) (B : Nat) (sa : (Nat → Nat) × Nat × (Nat → Int32)) (M0 M1 : mv_M) (r : Int64) (N : Nat) (M : mv_M) (v0 : Nat) (v1 : Int32) (v2 : Int32) (hJ : jb_No_ownOfSecond_0 N M v0 v1 v2 = some (r, M1)) : mv_G (xg l D E B sa) kd_No_ownOfSecond M0 M1 (some (.long r)) M 0 [(0, va_rf (some v0)), (1, .int v1), (2, .int v2)] [] := by
  unfold jb_No_ownOfSecond_0 at hJ
  refine mv_aload_n (pc := 0) (i := 0) de_No_ownOfSecond_0 rfl 0 rfl ?_
  refine mv_getR (pc := 1) (f := 4) (kc_2 l D E B sa) (Nat.le_of_ble_eq_true rfl) wt_1_225 de_No_ownOfSecond_1 hJ (fun x1 e1 h1 => ?_)
  obtain ⟨a4, ha, h4a⟩ := mj_bindE h1
  subst ha
  refine mv_getR (pc := 4) (f := 9) (kc_2 l D E B sa) (Nat.le_of_ble_eq_true rfl) wt_1_232 de_No_ownOfSecond_4 h4a (fun x4 e4 h4 => ?_)
  refine mv_iload_n (pc := 7) (i := 1) de_No_ownOfSecond_7 rfl 1 rfl ?_
  obtain ⟨a8, ha, h8a⟩ := mj_bindE h4
  subst ha
  refine mv_lald (pc := 8) (t := 1) rfl de_No_ownOfSecond_8 h8a (fun x8 e8 h8 => ?_)
  refine mv_lstore_n (pc := 9) (i := 3) (lv' := [(3, .long x8), (0, va_rf (some v0)), (1, .int v1), (2, .int v2)]) de_No_ownOfSecond_9 rfl (Nat.le_of_ble_eq_true rfl) rfl ?_
  refine mv_aload_n (pc := 10) (i := 0) de_No_ownOfSecond_10 rfl 1 rfl ?_
  refine mv_getR (pc := 11) (f := 5) (kc_2 l D E B sa) (Nat.le_of_ble_eq_true rfl) wt_1_227 de_No_ownOfSecond_11 h8 (fun x11 e11 h11 => ?_)
  refine mv_ifnonnull (pc := 14) (tgt := 21) de_No_ownOfSecond_14 (by decide) h11 (fun ha h14 => ?_) (fun a14 ha h14 => ?_)
  · subst ha
    refine mv_lconst (pc := 17) (v := 0) de_No_ownOfSecond_17 (by decide) ?_
    refine mv_goto (pc := 18) (tgt := 30) de_No_ownOfSecond_18 (by decide) ?_
    exact mv_sub [1, 0] rfl (tb_No_ownOfSecond_30 l D E B sa M0 M1 r N M v0 x8 0 h14)
  · subst ha
    refine mv_aload_n (pc := 21) (i := 0) de_No_ownOfSecond_21 rfl 1 rfl ?_
    refine mv_getR (pc := 22) (f := 5) (kc_2 l D E B sa) (Nat.le_of_ble_eq_true rfl) wt_1_227 de_No_ownOfSecond_22 h14 (fun x22 e22 h22 => ?_)
    obtain ⟨a25, ha, h25a⟩ := mj_bindE h22
    subst ha
    refine mv_getR (pc := 25) (f := 9) (kc_2 l D E B sa) (Nat.le_of_ble_eq_true rfl) wt_1_232 de_No_ownOfSecond_25 h25a (fun x25 e25 h25 => ?_)
    refine mv_iload_n (pc := 28) (i := 2) de_No_ownOfSecond_28 rfl 3 rfl ?_
    obtain ⟨a29, ha, h29a⟩ := mj_bindE h25
    subst ha
    refine mv_lald (pc := 29) (t := 1) rfl de_No_ownOfSecond_29 h29a (fun x29 e29 h29 => ?_)
    exact mv_sub [1, 0] rfl (tb_No_ownOfSecond_30 l D E B sa M0 M1 r N M v0 x8 x29 h29)
theorem cm_No_ownOfSecond (l : Launch) (D : va_G) (E : Nat → ClassId) (B : Nat) (sa : (Nat → Nat) × Nat × (Nat → Int32)) (N : Nat) (M : mv_M) (v0 : Nat) (v1 : Int32) (v2 : Int32) (r : Int64) (M1 : mv_M) (hJ : jf_No_ownOfSecond N M v0 v1 v2 = some (r, M1)) : mv_Met (xg l D E B sa) yn_No_ownOfSecond cd_No_ownOfSecond 9 (some .long) 2 57 [va_rf (some v0), .int v1, .int v2] M (some (.long r)) M1 :=
  mv_enter (by decide) (Nat.le_of_ble_eq_true rfl) (mv_sub (lv := [(0, va_rf (some v0)), (1, .int v1), (2, .int v2)]) [0, 1, 2] rfl (tb_No_ownOfSecond_0 l D E B sa M M1 r N M v0 v1 v2 hJ))
/-! ===== PlainLearner$Node.giveCell(III)V ===== -/
abbrev kd_No_giveCell : mv_Kd := (cd_No_giveCell, 10, "PlainLearner$Node", "giveCell", none, 3, 88)
theorem de_No_giveCell_0 : decode cd_No_giveCell 0 = .ok (.aload_n 0, 1) := by decide +kernel
theorem de_No_giveCell_1 : decode cd_No_giveCell 1 = .ok (.getfield 51, 3) := by decide +kernel
theorem de_No_giveCell_4 : decode cd_No_giveCell 4 = .ok (.iload_n 1, 1) := by decide +kernel
theorem de_No_giveCell_5 : decode cd_No_giveCell 5 = .ok (.laload, 1) := by decide +kernel
theorem de_No_giveCell_6 : decode cd_No_giveCell 6 = .ok (.lstore 4, 2) := by decide +kernel
theorem de_No_giveCell_8 : decode cd_No_giveCell 8 = .ok (.lload 4, 2) := by decide +kernel
theorem de_No_giveCell_10 : decode cd_No_giveCell 10 = .ok (.lconst 1, 1) := by decide +kernel
theorem de_No_giveCell_11 : decode cd_No_giveCell 11 = .ok (.lcmp, 1) := by decide +kernel
theorem de_No_giveCell_12 : decode cd_No_giveCell 12 = .ok (.ifCond .ne 4, 3) := by decide +kernel
theorem de_No_giveCell_15 : decode cd_No_giveCell 15 = .ok (.return_, 1) := by decide +kernel
theorem de_No_giveCell_16 : decode cd_No_giveCell 16 = .ok (.aload_n 0, 1) := by decide +kernel
theorem de_No_giveCell_17 : decode cd_No_giveCell 17 = .ok (.getfield 15, 3) := by decide +kernel
theorem de_No_giveCell_20 : decode cd_No_giveCell 20 = .ok (.bipush 7, 2) := by decide +kernel
theorem de_No_giveCell_22 : decode cd_No_giveCell 22 = .ok (.if_icmp .ne 11, 3) := by decide +kernel
theorem de_No_giveCell_25 : decode cd_No_giveCell 25 = .ok (.aload_n 0, 1) := by decide +kernel
theorem de_No_giveCell_26 : decode cd_No_giveCell 26 = .ok (.iload_n 2, 1) := by decide +kernel
theorem de_No_giveCell_27 : decode cd_No_giveCell 27 = .ok (.invokevirtual 131, 3) := by decide +kernel
theorem de_No_giveCell_30 : decode cd_No_giveCell 30 = .ok (.goto 4, 3) := by decide +kernel
theorem de_No_giveCell_33 : decode cd_No_giveCell 33 = .ok (.iconst (-1), 1) := by decide +kernel
theorem de_No_giveCell_34 : decode cd_No_giveCell 34 = .ok (.istore 6, 2) := by decide +kernel
theorem de_No_giveCell_36 : decode cd_No_giveCell 36 = .ok (.iconst 0, 1) := by decide +kernel
theorem de_No_giveCell_37 : decode cd_No_giveCell 37 = .ok (.istore 7, 2) := by decide +kernel
theorem de_No_giveCell_39 : decode cd_No_giveCell 39 = .ok (.iload 7, 2) := by decide +kernel
theorem de_No_giveCell_41 : decode cd_No_giveCell 41 = .ok (.aload_n 0, 1) := by decide +kernel
theorem de_No_giveCell_42 : decode cd_No_giveCell 42 = .ok (.getfield 39, 3) := by decide +kernel
theorem de_No_giveCell_45 : decode cd_No_giveCell 45 = .ok (.if_icmp .ge 129, 3) := by decide +kernel
theorem de_No_giveCell_48 : decode cd_No_giveCell 48 = .ok (.iload_n 2, 1) := by decide +kernel
theorem de_No_giveCell_49 : decode cd_No_giveCell 49 = .ok (.iload 7, 2) := by decide +kernel
theorem de_No_giveCell_51 : decode cd_No_giveCell 51 = .ok (.aload_n 0, 1) := by decide +kernel
theorem de_No_giveCell_52 : decode cd_No_giveCell 52 = .ok (.getfield 32, 3) := by decide +kernel
theorem de_No_giveCell_55 : decode cd_No_giveCell 55 = .ok (.getfield 138, 3) := by decide +kernel
theorem de_No_giveCell_58 : decode cd_No_giveCell 58 = .ok (.imul, 1) := by decide +kernel
theorem de_No_giveCell_59 : decode cd_No_giveCell 59 = .ok (.iadd, 1) := by decide +kernel
theorem de_No_giveCell_60 : decode cd_No_giveCell 60 = .ok (.istore 8, 2) := by decide +kernel
theorem de_No_giveCell_62 : decode cd_No_giveCell 62 = .ok (.aload_n 0, 1) := by decide +kernel
theorem de_No_giveCell_63 : decode cd_No_giveCell 63 = .ok (.getfield 36, 3) := by decide +kernel
theorem de_No_giveCell_66 : decode cd_No_giveCell 66 = .ok (.ifnonnull 7, 3) := by decide +kernel
theorem de_No_giveCell_69 : decode cd_No_giveCell 69 = .ok (.iconst 0, 1) := by decide +kernel
theorem de_No_giveCell_70 : decode cd_No_giveCell 70 = .ok (.goto 15, 3) := by decide +kernel
theorem de_No_giveCell_73 : decode cd_No_giveCell 73 = .ok (.iload_n 3, 1) := by decide +kernel
theorem de_No_giveCell_74 : decode cd_No_giveCell 74 = .ok (.iload 7, 2) := by decide +kernel
theorem de_No_giveCell_76 : decode cd_No_giveCell 76 = .ok (.aload_n 0, 1) := by decide +kernel
theorem de_No_giveCell_77 : decode cd_No_giveCell 77 = .ok (.getfield 36, 3) := by decide +kernel
theorem de_No_giveCell_80 : decode cd_No_giveCell 80 = .ok (.getfield 138, 3) := by decide +kernel
theorem de_No_giveCell_83 : decode cd_No_giveCell 83 = .ok (.imul, 1) := by decide +kernel
theorem de_No_giveCell_84 : decode cd_No_giveCell 84 = .ok (.iadd, 1) := by decide +kernel
theorem de_No_giveCell_85 : decode cd_No_giveCell 85 = .ok (.istore 9, 2) := by decide +kernel
theorem de_No_giveCell_87 : decode cd_No_giveCell 87 = .ok (.aload_n 0, 1) := by decide +kernel
theorem de_No_giveCell_88 : decode cd_No_giveCell 88 = .ok (.getfield 25, 3) := by decide +kernel
theorem de_No_giveCell_91 : decode cd_No_giveCell 91 = .ok (.getfield 51, 3) := by decide +kernel
theorem de_No_giveCell_94 : decode cd_No_giveCell 94 = .ok (.iload 8, 2) := by decide +kernel
theorem de_No_giveCell_96 : decode cd_No_giveCell 96 = .ok (.aload_n 0, 1) := by decide +kernel
theorem de_No_giveCell_97 : decode cd_No_giveCell 97 = .ok (.getfield 25, 3) := by decide +kernel
theorem de_No_giveCell_100 : decode cd_No_giveCell 100 = .ok (.getfield 51, 3) := by decide +kernel
theorem de_No_giveCell_103 : decode cd_No_giveCell 103 = .ok (.iload 8, 2) := by decide +kernel
theorem de_No_giveCell_105 : decode cd_No_giveCell 105 = .ok (.laload, 1) := by decide +kernel
theorem de_No_giveCell_106 : decode cd_No_giveCell 106 = .ok (.lload 4, 2) := by decide +kernel
theorem de_No_giveCell_108 : decode cd_No_giveCell 108 = .ok (.aload_n 0, 1) := by decide +kernel
theorem de_No_giveCell_109 : decode cd_No_giveCell 109 = .ok (.iload 8, 2) := by decide +kernel
theorem de_No_giveCell_111 : decode cd_No_giveCell 111 = .ok (.iload 9, 2) := by decide +kernel
theorem de_No_giveCell_113 : decode cd_No_giveCell 113 = .ok (.iload 6, 2) := by decide +kernel
theorem de_No_giveCell_115 : decode cd_No_giveCell 115 = .ok (.invokevirtual 147, 3) := by decide +kernel
theorem de_No_giveCell_118 : decode cd_No_giveCell 118 = .ok (.invokestatic 115, 3) := by decide +kernel
theorem de_No_giveCell_121 : decode cd_No_giveCell 121 = .ok (.invokestatic 107, 3) := by decide +kernel
theorem de_No_giveCell_124 : decode cd_No_giveCell 124 = .ok (.lastore, 1) := by decide +kernel
theorem de_No_giveCell_125 : decode cd_No_giveCell 125 = .ok (.aload_n 0, 1) := by decide +kernel
theorem de_No_giveCell_126 : decode cd_No_giveCell 126 = .ok (.getfield 29, 3) := by decide +kernel
theorem de_No_giveCell_129 : decode cd_No_giveCell 129 = .ok (.ifnull 39, 3) := by decide +kernel
theorem de_No_giveCell_132 : decode cd_No_giveCell 132 = .ok (.aload_n 0, 1) := by decide +kernel
theorem de_No_giveCell_133 : decode cd_No_giveCell 133 = .ok (.getfield 29, 3) := by decide +kernel
theorem de_No_giveCell_136 : decode cd_No_giveCell 136 = .ok (.getfield 51, 3) := by decide +kernel
theorem de_No_giveCell_139 : decode cd_No_giveCell 139 = .ok (.iload 9, 2) := by decide +kernel
theorem de_No_giveCell_141 : decode cd_No_giveCell 141 = .ok (.aload_n 0, 1) := by decide +kernel
theorem de_No_giveCell_142 : decode cd_No_giveCell 142 = .ok (.getfield 29, 3) := by decide +kernel
theorem de_No_giveCell_145 : decode cd_No_giveCell 145 = .ok (.getfield 51, 3) := by decide +kernel
theorem de_No_giveCell_148 : decode cd_No_giveCell 148 = .ok (.iload 9, 2) := by decide +kernel
theorem de_No_giveCell_150 : decode cd_No_giveCell 150 = .ok (.laload, 1) := by decide +kernel
theorem de_No_giveCell_151 : decode cd_No_giveCell 151 = .ok (.lload 4, 2) := by decide +kernel
theorem de_No_giveCell_153 : decode cd_No_giveCell 153 = .ok (.aload_n 0, 1) := by decide +kernel
theorem de_No_giveCell_154 : decode cd_No_giveCell 154 = .ok (.iload 8, 2) := by decide +kernel
theorem de_No_giveCell_156 : decode cd_No_giveCell 156 = .ok (.iload 9, 2) := by decide +kernel
theorem de_No_giveCell_158 : decode cd_No_giveCell 158 = .ok (.invokevirtual 151, 3) := by decide +kernel
theorem de_No_giveCell_161 : decode cd_No_giveCell 161 = .ok (.invokestatic 115, 3) := by decide +kernel
theorem de_No_giveCell_164 : decode cd_No_giveCell 164 = .ok (.invokestatic 107, 3) := by decide +kernel
theorem de_No_giveCell_167 : decode cd_No_giveCell 167 = .ok (.lastore, 1) := by decide +kernel
theorem de_No_giveCell_168 : decode cd_No_giveCell 168 = .ok (.iinc 7 1, 3) := by decide +kernel
theorem de_No_giveCell_171 : decode cd_No_giveCell 171 = .ok (.goto (-132), 3) := by decide +kernel
theorem de_No_giveCell_174 : decode cd_No_giveCell 174 = .ok (.return_, 1) := by decide +kernel
def jb_No_giveCell_168 (N : Nat) (k39 : mv_M → Nat → Int32 → Int32 → Int64 → Int32 → Int32 → Option (Unit × mv_M)) (M : mv_M) (v0 : Nat) (v2 : Int32) (v3 : Int32) (v4 : Int64) (v6 : Int32) (v7 : Int32) : Option (Unit × mv_M) :=
  k39 M v0 v2 v3 v4 v6 (v7 + 1)
def jb_No_giveCell_85 (N : Nat) (k39 : mv_M → Nat → Int32 → Int32 → Int64 → Int32 → Int32 → Option (Unit × mv_M)) (M : mv_M) (v0 : Nat) (v2 : Int32) (v3 : Int32) (v4 : Int64) (v6 : Int32) (v7 : Int32) (v8 : Int32) (s0 : Int32) : Option (Unit × mv_M) :=
  Option.bind (mj_getR M v0 2 4) fun x88 =>
  Option.bind x88 fun a91 =>
  Option.bind (mj_getR M a91 2 10) fun x91 =>
  Option.bind (mj_getR M v0 2 4) fun x97 =>
  Option.bind x97 fun a100 =>
  Option.bind (mj_getR M a100 2 10) fun x100 =>
  Option.bind x100 fun a105 =>
  Option.bind (mj_lld M a105 1 v8) fun x105 =>
  mj_ob M v0 2 <|
  mj_call (jf_No_ownOfFirst N M v0 v8 s0 v6) fun r115 Mm115 =>
  mj_call (jf_Fr_times N Mm115 v4 r115) fun r118 Mm118 =>
  mj_call (jf_Fr_add N Mm118 x105 r118) fun r121 Mm121 =>
  Option.bind x91 fun a124 =>
  Option.bind (mj_lst Mm121 a124 1 v8 r121) fun Mm124 =>
  Option.bind (mj_getR Mm124 v0 2 5) fun x126 =>
  mj_opt x126 (jb_No_giveCell_168 N k39 Mm124 v0 v2 v3 v4 v6 v7) fun a129 =>
  Option.bind (mj_getR Mm124 v0 2 5) fun x133 =>
  Option.bind x133 fun a136 =>
  Option.bind (mj_getR Mm124 a136 2 10) fun x136 =>
  Option.bind (mj_getR Mm124 v0 2 5) fun x142 =>
  Option.bind x142 fun a145 =>
  Option.bind (mj_getR Mm124 a145 2 10) fun x145 =>
  Option.bind x145 fun a150 =>
  Option.bind (mj_lld Mm124 a150 1 s0) fun x150 =>
  mj_ob Mm124 v0 2 <|
  mj_call (jf_No_ownOfSecond N Mm124 v0 v8 s0) fun r158 Mm158 =>
  mj_call (jf_Fr_times N Mm158 v4 r158) fun r161 Mm161 =>
  mj_call (jf_Fr_add N Mm161 x150 r161) fun r164 Mm164 =>
  Option.bind x136 fun a167 =>
  Option.bind (mj_lst Mm164 a167 1 s0 r164) fun Mm167 =>
  jb_No_giveCell_168 N k39 Mm167 v0 v2 v3 v4 v6 v7
def jb_No_giveCell_39 (N : Nat) : Nat → mv_M → Nat → Int32 → Int32 → Int64 → Int32 → Int32 → Option (Unit × mv_M)
  | 0, _, _, _, _, _, _, _ => none
  | n + 1, M, v0, v2, v3, v4, v6, v7 =>
    Option.bind (mj_getI M v0 2 8) fun x42 =>
    if x42 ≤ v7 then (some ((), M)) else
    Option.bind (mj_getR M v0 2 6) fun x52 =>
    Option.bind x52 fun a55 =>
    Option.bind (mj_getI M a55 9 4) fun x55 =>
    Option.bind (mj_getR M v0 2 7) fun x63 =>
    mj_opt x63 (jb_No_giveCell_85 N (jb_No_giveCell_39 N n) M v0 v2 v3 v4 v6 v7 (v2 + (v7 * x55)) 0) fun a66 =>
    Option.bind (mj_getR M v0 2 7) fun x77 =>
    Option.bind x77 fun a80 =>
    Option.bind (mj_getI M a80 9 4) fun x80 =>
    jb_No_giveCell_85 N (jb_No_giveCell_39 N n) M v0 v2 v3 v4 v6 v7 (v2 + (v7 * x55)) (v3 + (v7 * x80))
def jb_No_giveCell_34 (N : Nat) (M : mv_M) (v0 : Nat) (v2 : Int32) (v3 : Int32) (v4 : Int64) (s0 : Int32) : Option (Unit × mv_M) :=
  jb_No_giveCell_39 N N M v0 v2 v3 v4 s0 0
def jb_No_giveCell_0 (N : Nat) (M : mv_M) (v0 : Nat) (v1 : Int32) (v2 : Int32) (v3 : Int32) : Option (Unit × mv_M) :=
  Option.bind (mj_getR M v0 2 10) fun x1 =>
  Option.bind x1 fun a5 =>
  Option.bind (mj_lld M a5 1 v1) fun x5 =>
  if (lg_cmp x5 1) = 0 then (some ((), M)) else
  Option.bind (mj_getI M v0 2 1) fun x17 =>
  if x17 = 7 then (mj_ob M v0 2 <|
  mj_call (jf_No_greatestOfRow N M v0 v2) fun r27 Mm27 =>
  jb_No_giveCell_34 N Mm27 v0 v2 v3 x5 r27) else
  jb_No_giveCell_34 N M v0 v2 v3 x5 (-1)
def jf_No_giveCell (N : Nat) (M : mv_M) (v0 : Nat) (v1 : Int32) (v2 : Int32) (v3 : Int32) : Option (Unit × mv_M) := jb_No_giveCell_0 N M v0 v1 v2 v3
set_option maxHeartbeats 4000000 in
set_option maxRecDepth 100000 in
theorem tb_No_giveCell_168 (l : Launch) (D : va_G) (E : Nat → ClassId) (B : Nat) (sa : (Nat → Nat) × Nat × (Nat → Int32)) (M0 M1 : mv_M) (r : Unit) (N : Nat) (k39 : mv_M → Nat → Int32 → Int32 → Int64 → Int32 → Int32 → Option (Unit × mv_M)) (hk39 : ∀ (M : mv_M) (v0 : Nat) (v2 : Int32) (v3 : Int32) (v4 : Int64) (v6 : Int32) (v7 : Int32), k39 M v0 v2 v3 v4 v6 v7 = some (r, M1) → mv_G (xg l D E B sa) kd_No_giveCell M0 M1 none M 39 [(0, va_rf (some v0)), (2, .int v2), (3, .int v3), (4, .long v4), (6, .int v6), (7, .int v7)] []) (M : mv_M) (v0 : Nat) (v2 : Int32) (v3 : Int32) (v4 : Int64) (v6 : Int32) (v7 : Int32) (hJ : jb_No_giveCell_168 N k39 M v0 v2 v3 v4 v6 v7 = some (r, M1)) : mv_G (xg l D E B sa) kd_No_giveCell M0 M1 none M 168 [(0, va_rf (some v0)), (2, .int v2), (3, .int v3), (4, .long v4), (6, .int v6), (7, .int v7)] [] := by
  unfold jb_No_giveCell_168 at hJ
  refine mv_iinc (pc := 168) (v := (v7 + 1)) (lv' := [(7, .int (v7 + 1)), (0, va_rf (some v0)), (2, .int v2), (3, .int v3), (4, .long v4), (6, .int v6)]) de_No_giveCell_168 5 rfl rfl (Nat.le_of_ble_eq_true rfl) rfl ?_
  refine mv_goto (pc := 171) (tgt := 39) de_No_giveCell_171 (by decide) ?_
  exact mv_sub [1, 2, 3, 4, 5, 0] rfl (hk39 M v0 v2 v3 v4 v6 (v7 + 1) hJ)
set_option maxHeartbeats 4000000 in
set_option maxRecDepth 100000 in
theorem tb_No_giveCell_85 (l : Launch) (D : va_G) (E : Nat → ClassId) (B : Nat) (sa : (Nat → Nat) × Nat × (Nat → Int32)) (M0 M1 : mv_M) (r : Unit) (N : Nat) (k39 : mv_M → Nat → Int32 → Int32 → Int64 → Int32 → Int32 → Option (Unit × mv_M)) (hk39 : ∀ (M : mv_M) (v0 : Nat) (v2 : Int32) (v3 : Int32) (v4 : Int64) (v6 : Int32) (v7 : Int32), k39 M v0 v2 v3 v4 v6 v7 = some (r, M1) → mv_G (xg l D E B sa) kd_No_giveCell M0 M1 none M 39 [(0, va_rf (some v0)), (2, .int v2), (3, .int v3), (4, .long v4), (6, .int v6), (7, .int v7)] []) (M : mv_M) (v0 : Nat) (v2 : Int32) (v3 : Int32) (v4 : Int64) (v6 : Int32) (v7 : Int32) (v8 : Int32) (s0 : Int32) (hJ : jb_No_giveCell_85 N k39 M v0 v2 v3 v4 v6 v7 v8 s0 = some (r, M1)) : mv_G (xg l D E B sa) kd_No_giveCell M0 M1 none M 85 [(0, va_rf (some v0)), (2, .int v2), (3, .int v3), (4, .long v4), (6, .int v6), (7, .int v7), (8, .int v8)] [.int s0] := by
  unfold jb_No_giveCell_85 at hJ
  refine mv_istore (pc := 85) (lv' := [(9, .int s0), (0, va_rf (some v0)), (2, .int v2), (3, .int v3), (4, .long v4), (6, .int v6), (7, .int v7), (8, .int v8)]) de_No_giveCell_85 (Nat.le_of_ble_eq_true rfl) rfl ?_
  refine mv_aload_n (pc := 87) (i := 0) de_No_giveCell_87 rfl 1 rfl ?_
  refine mv_getR (pc := 88) (f := 4) (kc_2 l D E B sa) (Nat.le_of_ble_eq_true rfl) wt_1_225 de_No_giveCell_88 hJ (fun x88 e88 h88 => ?_)
  obtain ⟨a91, ha, h91a⟩ := mj_bindE h88
  subst ha
  refine mv_getR (pc := 91) (f := 10) (kc_2 l D E B sa) (Nat.le_of_ble_eq_true rfl) wt_1_235 de_No_giveCell_91 h91a (fun x91 e91 h91 => ?_)
  refine mv_iload (pc := 94) de_No_giveCell_94 7 rfl ?_
  refine mv_aload_n (pc := 96) (i := 0) de_No_giveCell_96 rfl 1 rfl ?_
  refine mv_getR (pc := 97) (f := 4) (kc_2 l D E B sa) (Nat.le_of_ble_eq_true rfl) wt_1_225 de_No_giveCell_97 h91 (fun x97 e97 h97 => ?_)
  obtain ⟨a100, ha, h100a⟩ := mj_bindE h97
  subst ha
  refine mv_getR (pc := 100) (f := 10) (kc_2 l D E B sa) (Nat.le_of_ble_eq_true rfl) wt_1_235 de_No_giveCell_100 h100a (fun x100 e100 h100 => ?_)
  refine mv_iload (pc := 103) de_No_giveCell_103 7 rfl ?_
  obtain ⟨a105, ha, h105a⟩ := mj_bindE h100
  subst ha
  refine mv_lald (pc := 105) (t := 1) rfl de_No_giveCell_105 h105a (fun x105 e105 h105 => ?_)
  refine mv_lload (pc := 106) de_No_giveCell_106 4 rfl ?_
  refine mv_aload_n (pc := 108) (i := 0) de_No_giveCell_108 rfl 1 rfl ?_
  refine mv_iload (pc := 109) de_No_giveCell_109 7 rfl ?_
  refine mv_iload (pc := 111) de_No_giveCell_111 0 rfl ?_
  refine mv_iload (pc := 113) de_No_giveCell_113 5 rfl ?_
  obtain ⟨hi115, h115o⟩ := mj_obE h105
  obtain ⟨r115, Mm115, hz115, h115⟩ := mj_callE h115o
  refine mv_callV (pc := 115) (n := 3) (av := [.int v8, .int s0, .int v6]) (rest := [.long v4, .long x105, .int v8, va_rf x91]) de_No_giveCell_115 (kc_2 l D E B sa) hi115 (cm_No_ownOfFirst l D E B sa N M v0 v8 s0 v6 _ _ hz115) wt_2_201 wt_2_203 wp_6 wt_1_10 wt_2_204 ⟨by decide, by decide, by decide +kernel⟩ rfl ⟨Nat.le_of_ble_eq_true rfl, Nat.le_of_ble_eq_true rfl⟩ (by simp [mv_cat, mv_cI, mv_cJ]) rfl ?_
  obtain ⟨r118, Mm118, hz118, h118⟩ := mj_callE h115
  refine mv_callS (pc := 118) (n := 2) (av := [.long v4, .long r115]) (rest := [.long x105, .int v8, va_rf x91]) de_No_giveCell_118 (cm_Fr_times l D E B sa N Mm115 v4 r115 _ _ hz118) wt_2_220 wt_2_221 wt_1_3 wt_2_222 ⟨by decide, by decide, by decide +kernel⟩ rfl ⟨Nat.le_of_ble_eq_true rfl, Nat.le_of_ble_eq_true rfl⟩ (by simp [mv_cat, mv_cI, mv_cJ]) rfl ?_
  obtain ⟨r121, Mm121, hz121, h121⟩ := mj_callE h118
  refine mv_callS (pc := 121) (n := 2) (av := [.long x105, .long r118]) (rest := [.int v8, va_rf x91]) de_No_giveCell_121 (cm_Fr_add l D E B sa N Mm118 x105 r118 _ _ hz121) wt_2_217 wt_2_218 wt_1_3 wt_2_219 ⟨by decide, by decide, by decide +kernel⟩ rfl ⟨Nat.le_of_ble_eq_true rfl, Nat.le_of_ble_eq_true rfl⟩ (by simp [mv_cat, mv_cI, mv_cJ]) rfl ?_
  obtain ⟨a124, ha, h124a⟩ := mj_bindE h121
  subst ha
  refine mv_last (pc := 124) (t := 1) rfl de_No_giveCell_124 h124a (fun Mm124 e124 h124 => ?_)
  refine mv_aload_n (pc := 125) (i := 0) de_No_giveCell_125 rfl 1 rfl ?_
  refine mv_getR (pc := 126) (f := 5) (kc_2 l D E B sa) (Nat.le_of_ble_eq_true rfl) wt_1_227 de_No_giveCell_126 h124 (fun x126 e126 h126 => ?_)
  refine mv_ifnull (pc := 129) (tgt := 168) de_No_giveCell_129 (by decide) h126 (fun ha h129 => ?_) (fun a129 ha h129 => ?_)
  · subst ha
    exact mv_sub [1, 2, 3, 4, 5, 6] rfl (tb_No_giveCell_168 l D E B sa M0 M1 r N k39 hk39 Mm124 v0 v2 v3 v4 v6 v7 h129)
  · subst ha
    refine mv_aload_n (pc := 132) (i := 0) de_No_giveCell_132 rfl 1 rfl ?_
    refine mv_getR (pc := 133) (f := 5) (kc_2 l D E B sa) (Nat.le_of_ble_eq_true rfl) wt_1_227 de_No_giveCell_133 h129 (fun x133 e133 h133 => ?_)
    obtain ⟨a136, ha, h136a⟩ := mj_bindE h133
    subst ha
    refine mv_getR (pc := 136) (f := 10) (kc_2 l D E B sa) (Nat.le_of_ble_eq_true rfl) wt_1_235 de_No_giveCell_136 h136a (fun x136 e136 h136 => ?_)
    refine mv_iload (pc := 139) de_No_giveCell_139 0 rfl ?_
    refine mv_aload_n (pc := 141) (i := 0) de_No_giveCell_141 rfl 1 rfl ?_
    refine mv_getR (pc := 142) (f := 5) (kc_2 l D E B sa) (Nat.le_of_ble_eq_true rfl) wt_1_227 de_No_giveCell_142 h136 (fun x142 e142 h142 => ?_)
    obtain ⟨a145, ha, h145a⟩ := mj_bindE h142
    subst ha
    refine mv_getR (pc := 145) (f := 10) (kc_2 l D E B sa) (Nat.le_of_ble_eq_true rfl) wt_1_235 de_No_giveCell_145 h145a (fun x145 e145 h145 => ?_)
    refine mv_iload (pc := 148) de_No_giveCell_148 0 rfl ?_
    obtain ⟨a150, ha, h150a⟩ := mj_bindE h145
    subst ha
    refine mv_lald (pc := 150) (t := 1) rfl de_No_giveCell_150 h150a (fun x150 e150 h150 => ?_)
    refine mv_lload (pc := 151) de_No_giveCell_151 4 rfl ?_
    refine mv_aload_n (pc := 153) (i := 0) de_No_giveCell_153 rfl 1 rfl ?_
    refine mv_iload (pc := 154) de_No_giveCell_154 7 rfl ?_
    refine mv_iload (pc := 156) de_No_giveCell_156 0 rfl ?_
    obtain ⟨hi158, h158o⟩ := mj_obE h150
    obtain ⟨r158, Mm158, hz158, h158⟩ := mj_callE h158o
    refine mv_callV (pc := 158) (n := 2) (av := [.int v8, .int s0]) (rest := [.long v4, .long x150, .int s0, va_rf x136]) de_No_giveCell_158 (kc_2 l D E B sa) hi158 (cm_No_ownOfSecond l D E B sa N Mm124 v0 v8 s0 _ _ hz158) wt_2_224 wt_2_226 wp_7 wt_1_10 wt_2_227 ⟨by decide, by decide, by decide +kernel⟩ rfl ⟨Nat.le_of_ble_eq_true rfl, Nat.le_of_ble_eq_true rfl⟩ (by simp [mv_cat, mv_cI, mv_cJ]) rfl ?_
    obtain ⟨r161, Mm161, hz161, h161⟩ := mj_callE h158
    refine mv_callS (pc := 161) (n := 2) (av := [.long v4, .long r158]) (rest := [.long x150, .int s0, va_rf x136]) de_No_giveCell_161 (cm_Fr_times l D E B sa N Mm158 v4 r158 _ _ hz161) wt_2_220 wt_2_221 wt_1_3 wt_2_222 ⟨by decide, by decide, by decide +kernel⟩ rfl ⟨Nat.le_of_ble_eq_true rfl, Nat.le_of_ble_eq_true rfl⟩ (by simp [mv_cat, mv_cI, mv_cJ]) rfl ?_
    obtain ⟨r164, Mm164, hz164, h164⟩ := mj_callE h161
    refine mv_callS (pc := 164) (n := 2) (av := [.long x150, .long r161]) (rest := [.int s0, va_rf x136]) de_No_giveCell_164 (cm_Fr_add l D E B sa N Mm161 x150 r161 _ _ hz164) wt_2_217 wt_2_218 wt_1_3 wt_2_219 ⟨by decide, by decide, by decide +kernel⟩ rfl ⟨Nat.le_of_ble_eq_true rfl, Nat.le_of_ble_eq_true rfl⟩ (by simp [mv_cat, mv_cI, mv_cJ]) rfl ?_
    obtain ⟨a167, ha, h167a⟩ := mj_bindE h164
    subst ha
    refine mv_last (pc := 167) (t := 1) rfl de_No_giveCell_167 h167a (fun Mm167 e167 h167 => ?_)
    exact mv_sub [1, 2, 3, 4, 5, 6] rfl (tb_No_giveCell_168 l D E B sa M0 M1 r N k39 hk39 Mm167 v0 v2 v3 v4 v6 v7 h167)
set_option maxHeartbeats 4000000 in
set_option maxRecDepth 100000 in
theorem tb_No_giveCell_39 (l : Launch) (D : va_G) (E : Nat → ClassId) (B : Nat) (sa : (Nat → Nat) × Nat × (Nat → Int32)) (M0 M1 : mv_M) (r : Unit) (N : Nat) : ∀ (n : Nat) (M : mv_M) (v0 : Nat) (v2 : Int32) (v3 : Int32) (v4 : Int64) (v6 : Int32) (v7 : Int32) (hJ : jb_No_giveCell_39 N n M v0 v2 v3 v4 v6 v7 = some (r, M1)), mv_G (xg l D E B sa) kd_No_giveCell M0 M1 none M 39 [(0, va_rf (some v0)), (2, .int v2), (3, .int v3), (4, .long v4), (6, .int v6), (7, .int v7)] [] := by
  intro n
  induction n with
  | zero => intro M v0 v2 v3 v4 v6 v7 hJ; cases hJ
  | succ n ih =>
    intro M v0 v2 v3 v4 v6 v7 hJ
    rw [jb_No_giveCell_39] at hJ
    refine mv_iload (pc := 39) de_No_giveCell_39 5 rfl ?_
    refine mv_aload_n (pc := 41) (i := 0) de_No_giveCell_41 rfl 0 rfl ?_
    refine mv_getI (pc := 42) (f := 8) (kc_2 l D E B sa) (Nat.le_of_ble_eq_true rfl) wt_1_231 de_No_giveCell_42 hJ (fun x42 e42 h42 => ?_)
    refine mv_icmp_ge (pc := 45) (tgt := 174) de_No_giveCell_45 (by decide) h42 (fun hc45 h45 => ?_) (fun hc45 h45 => ?_)
    · exact mv_vret (pc := 174) rfl de_No_giveCell_174 h45
    · refine mv_iload_n (pc := 48) (i := 2) de_No_giveCell_48 rfl 1 rfl ?_
      refine mv_iload (pc := 49) de_No_giveCell_49 5 rfl ?_
      refine mv_aload_n (pc := 51) (i := 0) de_No_giveCell_51 rfl 0 rfl ?_
      refine mv_getR (pc := 52) (f := 6) (kc_2 l D E B sa) (Nat.le_of_ble_eq_true rfl) wt_1_229 de_No_giveCell_52 h45 (fun x52 e52 h52 => ?_)
      obtain ⟨a55, ha, h55a⟩ := mj_bindE h52
      subst ha
      refine mv_getI (pc := 55) (f := 4) (kc_9 l D E B sa) (Nat.le_of_ble_eq_true rfl) wt_2_120 de_No_giveCell_55 h55a (fun x55 e55 h55 => ?_)
      refine mv_imul (pc := 58) de_No_giveCell_58 ?_
      refine mv_iadd (pc := 59) de_No_giveCell_59 ?_
      refine mv_istore (pc := 60) (lv' := [(8, .int (v2 + (v7 * x55))), (0, va_rf (some v0)), (2, .int v2), (3, .int v3), (4, .long v4), (6, .int v6), (7, .int v7)]) de_No_giveCell_60 (Nat.le_of_ble_eq_true rfl) rfl ?_
      refine mv_aload_n (pc := 62) (i := 0) de_No_giveCell_62 rfl 1 rfl ?_
      refine mv_getR (pc := 63) (f := 7) (kc_2 l D E B sa) (Nat.le_of_ble_eq_true rfl) wt_1_230 de_No_giveCell_63 h55 (fun x63 e63 h63 => ?_)
      refine mv_ifnonnull (pc := 66) (tgt := 73) de_No_giveCell_66 (by decide) h63 (fun ha h66 => ?_) (fun a66 ha h66 => ?_)
      · subst ha
        refine mv_iconst (pc := 69) (v := 0) de_No_giveCell_69 (by decide) ?_
        refine mv_goto (pc := 70) (tgt := 85) de_No_giveCell_70 (by decide) ?_
        exact mv_sub [1, 2, 3, 4, 5, 6, 0] rfl (tb_No_giveCell_85 l D E B sa M0 M1 r N (jb_No_giveCell_39 N n) ih M v0 v2 v3 v4 v6 v7 (v2 + (v7 * x55)) 0 h66)
      · subst ha
        refine mv_iload_n (pc := 73) (i := 3) de_No_giveCell_73 rfl 3 rfl ?_
        refine mv_iload (pc := 74) de_No_giveCell_74 6 rfl ?_
        refine mv_aload_n (pc := 76) (i := 0) de_No_giveCell_76 rfl 1 rfl ?_
        refine mv_getR (pc := 77) (f := 7) (kc_2 l D E B sa) (Nat.le_of_ble_eq_true rfl) wt_1_230 de_No_giveCell_77 h66 (fun x77 e77 h77 => ?_)
        obtain ⟨a80, ha, h80a⟩ := mj_bindE h77
        subst ha
        refine mv_getI (pc := 80) (f := 4) (kc_9 l D E B sa) (Nat.le_of_ble_eq_true rfl) wt_2_120 de_No_giveCell_80 h80a (fun x80 e80 h80 => ?_)
        refine mv_imul (pc := 83) de_No_giveCell_83 ?_
        refine mv_iadd (pc := 84) de_No_giveCell_84 ?_
        exact mv_sub [1, 2, 3, 4, 5, 6, 0] rfl (tb_No_giveCell_85 l D E B sa M0 M1 r N (jb_No_giveCell_39 N n) ih M v0 v2 v3 v4 v6 v7 (v2 + (v7 * x55)) (v3 + (v7 * x80)) h80)
set_option maxHeartbeats 4000000 in
set_option maxRecDepth 100000 in
theorem tb_No_giveCell_34 (l : Launch) (D : va_G) (E : Nat → ClassId) (B : Nat) (sa : (Nat → Nat) × Nat × (Nat → Int32)) (M0 M1 : mv_M) (r : Unit) (N : Nat) (M : mv_M) (v0 : Nat) (v2 : Int32) (v3 : Int32) (v4 : Int64) (s0 : Int32) (hJ : jb_No_giveCell_34 N M v0 v2 v3 v4 s0 = some (r, M1)) : mv_G (xg l D E B sa) kd_No_giveCell M0 M1 none M 34 [(0, va_rf (some v0)), (2, .int v2), (3, .int v3), (4, .long v4)] [.int s0] := by
  unfold jb_No_giveCell_34 at hJ
  refine mv_istore (pc := 34) (lv' := [(6, .int s0), (0, va_rf (some v0)), (2, .int v2), (3, .int v3), (4, .long v4)]) de_No_giveCell_34 (Nat.le_of_ble_eq_true rfl) rfl ?_
  refine mv_iconst (pc := 36) (v := 0) de_No_giveCell_36 (by decide) ?_
  refine mv_istore (pc := 37) (lv' := [(7, .int 0), (6, .int s0), (0, va_rf (some v0)), (2, .int v2), (3, .int v3), (4, .long v4)]) de_No_giveCell_37 (Nat.le_of_ble_eq_true rfl) rfl ?_
  exact mv_sub [2, 3, 4, 5, 1, 0] rfl (tb_No_giveCell_39 l D E B sa M0 M1 r N N M v0 v2 v3 v4 s0 0 hJ)
set_option maxHeartbeats 4000000 in
set_option maxRecDepth 100000 in
theorem tb_No_giveCell_0 (l : Launch) (D : va_G) (E : Nat → ClassId) (B : Nat) (sa : (Nat → Nat) × Nat × (Nat → Int32)) (M0 M1 : mv_M) (r : Unit) (N : Nat) (M : mv_M) (v0 : Nat) (v1 : Int32) (v2 : Int32) (v3 : Int32) (hJ : jb_No_giveCell_0 N M v0 v1 v2 v3 = some (r, M1)) : mv_G (xg l D E B sa) kd_No_giveCell M0 M1 none M 0 [(0, va_rf (some v0)), (1, .int v1), (2, .int v2), (3, .int v3)] [] := by
  unfold jb_No_giveCell_0 at hJ
  refine mv_aload_n (pc := 0) (i := 0) de_No_giveCell_0 rfl 0 rfl ?_
  refine mv_getR (pc := 1) (f := 10) (kc_2 l D E B sa) (Nat.le_of_ble_eq_true rfl) wt_1_235 de_No_giveCell_1 hJ (fun x1 e1 h1 => ?_)
  refine mv_iload_n (pc := 4) (i := 1) de_No_giveCell_4 rfl 1 rfl ?_
  obtain ⟨a5, ha, h5a⟩ := mj_bindE h1
  subst ha
  refine mv_lald (pc := 5) (t := 1) rfl de_No_giveCell_5 h5a (fun x5 e5 h5 => ?_)
  refine mv_lstore (pc := 6) (lv' := [(4, .long x5), (0, va_rf (some v0)), (1, .int v1), (2, .int v2), (3, .int v3)]) de_No_giveCell_6 (Nat.le_of_ble_eq_true rfl) rfl ?_
  refine mv_lload (pc := 8) de_No_giveCell_8 0 rfl ?_
  refine mv_lconst (pc := 10) (v := 1) de_No_giveCell_10 (by decide) ?_
  refine mv_lcmp (pc := 11) de_No_giveCell_11 ?_
  refine mv_if_ne (pc := 12) (tgt := 16) de_No_giveCell_12 (by decide) h5 (fun hc12 h12 => ?_) (fun hc12 h12 => ?_)
  · exact mv_vret (pc := 15) rfl de_No_giveCell_15 h12
  · refine mv_aload_n (pc := 16) (i := 0) de_No_giveCell_16 rfl 1 rfl ?_
    refine mv_getI (pc := 17) (f := 1) (kc_2 l D E B sa) (Nat.le_of_ble_eq_true rfl) wt_1_222 de_No_giveCell_17 h12 (fun x17 e17 h17 => ?_)
    refine mv_bipush (pc := 20) (v := 7) de_No_giveCell_20 (by decide) ?_
    refine mv_icmp_ne (pc := 22) (tgt := 33) de_No_giveCell_22 (by decide) h17 (fun hc22 h22 => ?_) (fun hc22 h22 => ?_)
    · refine mv_aload_n (pc := 25) (i := 0) de_No_giveCell_25 rfl 1 rfl ?_
      refine mv_iload_n (pc := 26) (i := 2) de_No_giveCell_26 rfl 3 rfl ?_
      obtain ⟨hi27, h27o⟩ := mj_obE h22
      obtain ⟨r27, Mm27, hz27, h27⟩ := mj_callE h27o
      refine mv_callV (pc := 27) (n := 1) (av := [.int v2]) (rest := []) de_No_giveCell_27 (kc_2 l D E B sa) hi27 (cm_No_greatestOfRow l D E B sa N M v0 v2 _ _ hz27) wt_2_185 wt_2_187 wp_5 wt_1_10 wt_2_188 ⟨by decide, by decide, by decide +kernel⟩ rfl ⟨Nat.le_of_ble_eq_true rfl, Nat.le_of_ble_eq_true rfl⟩ (Nat.le_of_ble_eq_true rfl) rfl ?_
      refine mv_goto (pc := 30) (tgt := 34) de_No_giveCell_30 (by decide) ?_
      exact mv_sub [1, 3, 4, 0] rfl (tb_No_giveCell_34 l D E B sa M0 M1 r N Mm27 v0 v2 v3 x5 r27 h27)
    · refine mv_iconst (pc := 33) (v := (-1)) de_No_giveCell_33 (by decide) ?_
      exact mv_sub [1, 3, 4, 0] rfl (tb_No_giveCell_34 l D E B sa M0 M1 r N M v0 v2 v3 x5 (-1) h22)
theorem cm_No_giveCell (l : Launch) (D : va_G) (E : Nat → ClassId) (B : Nat) (sa : (Nat → Nat) × Nat × (Nat → Int32)) (N : Nat) (M : mv_M) (v0 : Nat) (v1 : Int32) (v2 : Int32) (v3 : Int32) (r : Unit) (M1 : mv_M) (hJ : jf_No_giveCell N M v0 v1 v2 v3 = some (r, M1)) : mv_Met (xg l D E B sa) yn_No_giveCell cd_No_giveCell 10 none 3 88 [va_rf (some v0), .int v1, .int v2, .int v3] M none M1 :=
  mv_enter (by decide) (Nat.le_of_ble_eq_true rfl) (mv_sub (lv := [(0, va_rf (some v0)), (1, .int v1), (2, .int v2), (3, .int v3)]) [0, 1, 2, 3] rfl (tb_No_giveCell_0 l D E B sa M M1 r N M v0 v1 v2 v3 hJ))
/-! ===== PlainLearner$Node.sumOfProducts(II)J ===== -/
abbrev kd_No_sumOfProducts : mv_Kd := (cd_No_sumOfProducts, 10, "PlainLearner$Node", "sumOfProducts", (some .long), 2, 61)
theorem de_No_sumOfProducts_0 : decode cd_No_sumOfProducts 0 = .ok (.lconst 1, 1) := by decide +kernel
theorem de_No_sumOfProducts_1 : decode cd_No_sumOfProducts 1 = .ok (.lstore_n 3, 1) := by decide +kernel
theorem de_No_sumOfProducts_2 : decode cd_No_sumOfProducts 2 = .ok (.aload_n 0, 1) := by decide +kernel
theorem de_No_sumOfProducts_3 : decode cd_No_sumOfProducts 3 = .ok (.getfield 29, 3) := by decide +kernel
theorem de_No_sumOfProducts_6 : decode cd_No_sumOfProducts 6 = .ok (.ifnull 10, 3) := by decide +kernel
theorem de_No_sumOfProducts_9 : decode cd_No_sumOfProducts 9 = .ok (.aload_n 0, 1) := by decide +kernel
theorem de_No_sumOfProducts_10 : decode cd_No_sumOfProducts 10 = .ok (.getfield 36, 3) := by decide +kernel
theorem de_No_sumOfProducts_13 : decode cd_No_sumOfProducts 13 = .ok (.ifnonnull 5, 3) := by decide +kernel
theorem de_No_sumOfProducts_16 : decode cd_No_sumOfProducts 16 = .ok (.lload_n 3, 1) := by decide +kernel
theorem de_No_sumOfProducts_17 : decode cd_No_sumOfProducts 17 = .ok (.lreturn, 1) := by decide +kernel
theorem de_No_sumOfProducts_18 : decode cd_No_sumOfProducts 18 = .ok (.iconst 0, 1) := by decide +kernel
theorem de_No_sumOfProducts_19 : decode cd_No_sumOfProducts 19 = .ok (.istore 5, 2) := by decide +kernel
theorem de_No_sumOfProducts_21 : decode cd_No_sumOfProducts 21 = .ok (.iload 5, 2) := by decide +kernel
theorem de_No_sumOfProducts_23 : decode cd_No_sumOfProducts 23 = .ok (.aload_n 0, 1) := by decide +kernel
theorem de_No_sumOfProducts_24 : decode cd_No_sumOfProducts 24 = .ok (.getfield 39, 3) := by decide +kernel
theorem de_No_sumOfProducts_27 : decode cd_No_sumOfProducts 27 = .ok (.if_icmp .ge 65, 3) := by decide +kernel
theorem de_No_sumOfProducts_30 : decode cd_No_sumOfProducts 30 = .ok (.aload_n 0, 1) := by decide +kernel
theorem de_No_sumOfProducts_31 : decode cd_No_sumOfProducts 31 = .ok (.getfield 25, 3) := by decide +kernel
theorem de_No_sumOfProducts_34 : decode cd_No_sumOfProducts 34 = .ok (.getfield 47, 3) := by decide +kernel
theorem de_No_sumOfProducts_37 : decode cd_No_sumOfProducts 37 = .ok (.iload_n 1, 1) := by decide +kernel
theorem de_No_sumOfProducts_38 : decode cd_No_sumOfProducts 38 = .ok (.iload 5, 2) := by decide +kernel
theorem de_No_sumOfProducts_40 : decode cd_No_sumOfProducts 40 = .ok (.aload_n 0, 1) := by decide +kernel
theorem de_No_sumOfProducts_41 : decode cd_No_sumOfProducts 41 = .ok (.getfield 32, 3) := by decide +kernel
theorem de_No_sumOfProducts_44 : decode cd_No_sumOfProducts 44 = .ok (.getfield 138, 3) := by decide +kernel
theorem de_No_sumOfProducts_47 : decode cd_No_sumOfProducts 47 = .ok (.imul, 1) := by decide +kernel
theorem de_No_sumOfProducts_48 : decode cd_No_sumOfProducts 48 = .ok (.iadd, 1) := by decide +kernel
theorem de_No_sumOfProducts_49 : decode cd_No_sumOfProducts 49 = .ok (.laload, 1) := by decide +kernel
theorem de_No_sumOfProducts_50 : decode cd_No_sumOfProducts 50 = .ok (.lstore 6, 2) := by decide +kernel
theorem de_No_sumOfProducts_52 : decode cd_No_sumOfProducts 52 = .ok (.aload_n 0, 1) := by decide +kernel
theorem de_No_sumOfProducts_53 : decode cd_No_sumOfProducts 53 = .ok (.getfield 29, 3) := by decide +kernel
theorem de_No_sumOfProducts_56 : decode cd_No_sumOfProducts 56 = .ok (.getfield 47, 3) := by decide +kernel
theorem de_No_sumOfProducts_59 : decode cd_No_sumOfProducts 59 = .ok (.iload_n 2, 1) := by decide +kernel
theorem de_No_sumOfProducts_60 : decode cd_No_sumOfProducts 60 = .ok (.iload 5, 2) := by decide +kernel
theorem de_No_sumOfProducts_62 : decode cd_No_sumOfProducts 62 = .ok (.aload_n 0, 1) := by decide +kernel
theorem de_No_sumOfProducts_63 : decode cd_No_sumOfProducts 63 = .ok (.getfield 36, 3) := by decide +kernel
theorem de_No_sumOfProducts_66 : decode cd_No_sumOfProducts 66 = .ok (.getfield 138, 3) := by decide +kernel
theorem de_No_sumOfProducts_69 : decode cd_No_sumOfProducts 69 = .ok (.imul, 1) := by decide +kernel
theorem de_No_sumOfProducts_70 : decode cd_No_sumOfProducts 70 = .ok (.iadd, 1) := by decide +kernel
theorem de_No_sumOfProducts_71 : decode cd_No_sumOfProducts 71 = .ok (.laload, 1) := by decide +kernel
theorem de_No_sumOfProducts_72 : decode cd_No_sumOfProducts 72 = .ok (.lstore 8, 2) := by decide +kernel
theorem de_No_sumOfProducts_74 : decode cd_No_sumOfProducts 74 = .ok (.lload_n 3, 1) := by decide +kernel
theorem de_No_sumOfProducts_75 : decode cd_No_sumOfProducts 75 = .ok (.lload 6, 2) := by decide +kernel
theorem de_No_sumOfProducts_77 : decode cd_No_sumOfProducts 77 = .ok (.lload 8, 2) := by decide +kernel
theorem de_No_sumOfProducts_79 : decode cd_No_sumOfProducts 79 = .ok (.invokestatic 115, 3) := by decide +kernel
theorem de_No_sumOfProducts_82 : decode cd_No_sumOfProducts 82 = .ok (.invokestatic 107, 3) := by decide +kernel
theorem de_No_sumOfProducts_85 : decode cd_No_sumOfProducts 85 = .ok (.lstore_n 3, 1) := by decide +kernel
theorem de_No_sumOfProducts_86 : decode cd_No_sumOfProducts 86 = .ok (.iinc 5 1, 3) := by decide +kernel
theorem de_No_sumOfProducts_89 : decode cd_No_sumOfProducts 89 = .ok (.goto (-68), 3) := by decide +kernel
theorem de_No_sumOfProducts_92 : decode cd_No_sumOfProducts 92 = .ok (.lload_n 3, 1) := by decide +kernel
theorem de_No_sumOfProducts_93 : decode cd_No_sumOfProducts 93 = .ok (.lreturn, 1) := by decide +kernel
def jb_No_sumOfProducts_16 (N : Nat) (M : mv_M) (v3 : Int64) : Option (Int64 × mv_M) :=
  some (v3, M)
def jb_No_sumOfProducts_21 (N : Nat) : Nat → mv_M → Nat → Int32 → Int32 → Int64 → Int32 → Option (Int64 × mv_M)
  | 0, _, _, _, _, _, _ => none
  | n + 1, M, v0, v1, v2, v3, v5 =>
    Option.bind (mj_getI M v0 2 8) fun x24 =>
    if x24 ≤ v5 then (some (v3, M)) else
    Option.bind (mj_getR M v0 2 4) fun x31 =>
    Option.bind x31 fun a34 =>
    Option.bind (mj_getR M a34 2 9) fun x34 =>
    Option.bind (mj_getR M v0 2 6) fun x41 =>
    Option.bind x41 fun a44 =>
    Option.bind (mj_getI M a44 9 4) fun x44 =>
    Option.bind x34 fun a49 =>
    Option.bind (mj_lld M a49 1 (v1 + (v5 * x44))) fun x49 =>
    Option.bind (mj_getR M v0 2 5) fun x53 =>
    Option.bind x53 fun a56 =>
    Option.bind (mj_getR M a56 2 9) fun x56 =>
    Option.bind (mj_getR M v0 2 7) fun x63 =>
    Option.bind x63 fun a66 =>
    Option.bind (mj_getI M a66 9 4) fun x66 =>
    Option.bind x56 fun a71 =>
    Option.bind (mj_lld M a71 1 (v2 + (v5 * x66))) fun x71 =>
    mj_call (jf_Fr_times N M x49 x71) fun r79 Mm79 =>
    mj_call (jf_Fr_add N Mm79 v3 r79) fun r82 Mm82 =>
    jb_No_sumOfProducts_21 N n Mm82 v0 v1 v2 r82 (v5 + 1)
def jb_No_sumOfProducts_0 (N : Nat) (M : mv_M) (v0 : Nat) (v1 : Int32) (v2 : Int32) : Option (Int64 × mv_M) :=
  Option.bind (mj_getR M v0 2 5) fun x3 =>
  mj_opt x3 (jb_No_sumOfProducts_16 N M 1) fun a6 =>
  Option.bind (mj_getR M v0 2 7) fun x10 =>
  mj_opt x10 (jb_No_sumOfProducts_16 N M 1) fun a13 =>
  jb_No_sumOfProducts_21 N N M v0 v1 v2 1 0
def jf_No_sumOfProducts (N : Nat) (M : mv_M) (v0 : Nat) (v1 : Int32) (v2 : Int32) : Option (Int64 × mv_M) := jb_No_sumOfProducts_0 N M v0 v1 v2
set_option maxHeartbeats 4000000 in
set_option maxRecDepth 100000 in
theorem tb_No_sumOfProducts_16 (l : Launch) (D : va_G) (E : Nat → ClassId) (B : Nat) (sa : (Nat → Nat) × Nat × (Nat → Int32)) (M0 M1 : mv_M) (r : Int64) (N : Nat) (M : mv_M) (v3 : Int64) (hJ : jb_No_sumOfProducts_16 N M v3 = some (r, M1)) : mv_G (xg l D E B sa) kd_No_sumOfProducts M0 M1 (some (.long r)) M 16 [(3, .long v3)] [] := by
  unfold jb_No_sumOfProducts_16 at hJ
  refine mv_lload_n (pc := 16) (i := 3) de_No_sumOfProducts_16 rfl 0 rfl ?_
  exact mv_lret (pc := 17) rfl de_No_sumOfProducts_17 hJ
set_option maxHeartbeats 4000000 in
set_option maxRecDepth 100000 in
theorem tb_No_sumOfProducts_21 (l : Launch) (D : va_G) (E : Nat → ClassId) (B : Nat) (sa : (Nat → Nat) × Nat × (Nat → Int32)) (M0 M1 : mv_M) (r : Int64) (N : Nat) : ∀ (n : Nat) (M : mv_M) (v0 : Nat) (v1 : Int32) (v2 : Int32) (v3 : Int64) (v5 : Int32) (hJ : jb_No_sumOfProducts_21 N n M v0 v1 v2 v3 v5 = some (r, M1)), mv_G (xg l D E B sa) kd_No_sumOfProducts M0 M1 (some (.long r)) M 21 [(0, va_rf (some v0)), (1, .int v1), (2, .int v2), (3, .long v3), (5, .int v5)] [] := by
  intro n
  induction n with
  | zero => intro M v0 v1 v2 v3 v5 hJ; cases hJ
  | succ n ih =>
    intro M v0 v1 v2 v3 v5 hJ
    rw [jb_No_sumOfProducts_21] at hJ
    refine mv_iload (pc := 21) de_No_sumOfProducts_21 4 rfl ?_
    refine mv_aload_n (pc := 23) (i := 0) de_No_sumOfProducts_23 rfl 0 rfl ?_
    refine mv_getI (pc := 24) (f := 8) (kc_2 l D E B sa) (Nat.le_of_ble_eq_true rfl) wt_1_231 de_No_sumOfProducts_24 hJ (fun x24 e24 h24 => ?_)
    refine mv_icmp_ge (pc := 27) (tgt := 92) de_No_sumOfProducts_27 (by decide) h24 (fun hc27 h27 => ?_) (fun hc27 h27 => ?_)
    · refine mv_lload_n (pc := 92) (i := 3) de_No_sumOfProducts_92 rfl 3 rfl ?_
      exact mv_lret (pc := 93) rfl de_No_sumOfProducts_93 h27
    · refine mv_aload_n (pc := 30) (i := 0) de_No_sumOfProducts_30 rfl 0 rfl ?_
      refine mv_getR (pc := 31) (f := 4) (kc_2 l D E B sa) (Nat.le_of_ble_eq_true rfl) wt_1_225 de_No_sumOfProducts_31 h27 (fun x31 e31 h31 => ?_)
      obtain ⟨a34, ha, h34a⟩ := mj_bindE h31
      subst ha
      refine mv_getR (pc := 34) (f := 9) (kc_2 l D E B sa) (Nat.le_of_ble_eq_true rfl) wt_1_232 de_No_sumOfProducts_34 h34a (fun x34 e34 h34 => ?_)
      refine mv_iload_n (pc := 37) (i := 1) de_No_sumOfProducts_37 rfl 1 rfl ?_
      refine mv_iload (pc := 38) de_No_sumOfProducts_38 4 rfl ?_
      refine mv_aload_n (pc := 40) (i := 0) de_No_sumOfProducts_40 rfl 0 rfl ?_
      refine mv_getR (pc := 41) (f := 6) (kc_2 l D E B sa) (Nat.le_of_ble_eq_true rfl) wt_1_229 de_No_sumOfProducts_41 h34 (fun x41 e41 h41 => ?_)
      obtain ⟨a44, ha, h44a⟩ := mj_bindE h41
      subst ha
      refine mv_getI (pc := 44) (f := 4) (kc_9 l D E B sa) (Nat.le_of_ble_eq_true rfl) wt_2_120 de_No_sumOfProducts_44 h44a (fun x44 e44 h44 => ?_)
      refine mv_imul (pc := 47) de_No_sumOfProducts_47 ?_
      refine mv_iadd (pc := 48) de_No_sumOfProducts_48 ?_
      obtain ⟨a49, ha, h49a⟩ := mj_bindE h44
      subst ha
      refine mv_lald (pc := 49) (t := 1) rfl de_No_sumOfProducts_49 h49a (fun x49 e49 h49 => ?_)
      refine mv_lstore (pc := 50) (lv' := [(6, .long x49), (0, va_rf (some v0)), (1, .int v1), (2, .int v2), (3, .long v3), (5, .int v5)]) de_No_sumOfProducts_50 (Nat.le_of_ble_eq_true rfl) rfl ?_
      refine mv_aload_n (pc := 52) (i := 0) de_No_sumOfProducts_52 rfl 1 rfl ?_
      refine mv_getR (pc := 53) (f := 5) (kc_2 l D E B sa) (Nat.le_of_ble_eq_true rfl) wt_1_227 de_No_sumOfProducts_53 h49 (fun x53 e53 h53 => ?_)
      obtain ⟨a56, ha, h56a⟩ := mj_bindE h53
      subst ha
      refine mv_getR (pc := 56) (f := 9) (kc_2 l D E B sa) (Nat.le_of_ble_eq_true rfl) wt_1_232 de_No_sumOfProducts_56 h56a (fun x56 e56 h56 => ?_)
      refine mv_iload_n (pc := 59) (i := 2) de_No_sumOfProducts_59 rfl 3 rfl ?_
      refine mv_iload (pc := 60) de_No_sumOfProducts_60 5 rfl ?_
      refine mv_aload_n (pc := 62) (i := 0) de_No_sumOfProducts_62 rfl 1 rfl ?_
      refine mv_getR (pc := 63) (f := 7) (kc_2 l D E B sa) (Nat.le_of_ble_eq_true rfl) wt_1_230 de_No_sumOfProducts_63 h56 (fun x63 e63 h63 => ?_)
      obtain ⟨a66, ha, h66a⟩ := mj_bindE h63
      subst ha
      refine mv_getI (pc := 66) (f := 4) (kc_9 l D E B sa) (Nat.le_of_ble_eq_true rfl) wt_2_120 de_No_sumOfProducts_66 h66a (fun x66 e66 h66 => ?_)
      refine mv_imul (pc := 69) de_No_sumOfProducts_69 ?_
      refine mv_iadd (pc := 70) de_No_sumOfProducts_70 ?_
      obtain ⟨a71, ha, h71a⟩ := mj_bindE h66
      subst ha
      refine mv_lald (pc := 71) (t := 1) rfl de_No_sumOfProducts_71 h71a (fun x71 e71 h71 => ?_)
      refine mv_lstore (pc := 72) (lv' := [(8, .long x71), (6, .long x49), (0, va_rf (some v0)), (1, .int v1), (2, .int v2), (3, .long v3), (5, .int v5)]) de_No_sumOfProducts_72 (Nat.le_of_ble_eq_true rfl) rfl ?_
      refine mv_lload_n (pc := 74) (i := 3) de_No_sumOfProducts_74 rfl 5 rfl ?_
      refine mv_lload (pc := 75) de_No_sumOfProducts_75 1 rfl ?_
      refine mv_lload (pc := 77) de_No_sumOfProducts_77 0 rfl ?_
      obtain ⟨r79, Mm79, hz79, h79⟩ := mj_callE h71
      refine mv_callS (pc := 79) (n := 2) (av := [.long x49, .long x71]) (rest := [.long v3]) de_No_sumOfProducts_79 (cm_Fr_times l D E B sa N M x49 x71 _ _ hz79) wt_2_220 wt_2_221 wt_1_3 wt_2_222 ⟨by decide, by decide, by decide +kernel⟩ rfl ⟨Nat.le_of_ble_eq_true rfl, Nat.le_of_ble_eq_true rfl⟩ (Nat.le_of_ble_eq_true rfl) rfl ?_
      obtain ⟨r82, Mm82, hz82, h82⟩ := mj_callE h79
      refine mv_callS (pc := 82) (n := 2) (av := [.long v3, .long r79]) (rest := []) de_No_sumOfProducts_82 (cm_Fr_add l D E B sa N Mm79 v3 r79 _ _ hz82) wt_2_217 wt_2_218 wt_1_3 wt_2_219 ⟨by decide, by decide, by decide +kernel⟩ rfl ⟨Nat.le_of_ble_eq_true rfl, Nat.le_of_ble_eq_true rfl⟩ (Nat.le_of_ble_eq_true rfl) rfl ?_
      refine mv_lstore_n (pc := 85) (i := 3) (lv' := [(3, .long r82), (8, .long x71), (6, .long x49), (0, va_rf (some v0)), (1, .int v1), (2, .int v2), (5, .int v5)]) de_No_sumOfProducts_85 rfl (Nat.le_of_ble_eq_true rfl) rfl ?_
      refine mv_iinc (pc := 86) (v := (v5 + 1)) (lv' := [(5, .int (v5 + 1)), (3, .long r82), (8, .long x71), (6, .long x49), (0, va_rf (some v0)), (1, .int v1), (2, .int v2)]) de_No_sumOfProducts_86 6 rfl rfl (Nat.le_of_ble_eq_true rfl) rfl ?_
      refine mv_goto (pc := 89) (tgt := 21) de_No_sumOfProducts_89 (by decide) ?_
      exact mv_sub [4, 5, 6, 1, 0] rfl (ih Mm82 v0 v1 v2 r82 (v5 + 1) h82)
set_option maxHeartbeats 4000000 in
set_option maxRecDepth 100000 in
theorem tb_No_sumOfProducts_0 (l : Launch) (D : va_G) (E : Nat → ClassId) (B : Nat) (sa : (Nat → Nat) × Nat × (Nat → Int32)) (M0 M1 : mv_M) (r : Int64) (N : Nat) (M : mv_M) (v0 : Nat) (v1 : Int32) (v2 : Int32) (hJ : jb_No_sumOfProducts_0 N M v0 v1 v2 = some (r, M1)) : mv_G (xg l D E B sa) kd_No_sumOfProducts M0 M1 (some (.long r)) M 0 [(0, va_rf (some v0)), (1, .int v1), (2, .int v2)] [] := by
  unfold jb_No_sumOfProducts_0 at hJ
  refine mv_lconst (pc := 0) (v := 1) de_No_sumOfProducts_0 (by decide) ?_
  refine mv_lstore_n (pc := 1) (i := 3) (lv' := [(3, .long 1), (0, va_rf (some v0)), (1, .int v1), (2, .int v2)]) de_No_sumOfProducts_1 rfl (Nat.le_of_ble_eq_true rfl) rfl ?_
  refine mv_aload_n (pc := 2) (i := 0) de_No_sumOfProducts_2 rfl 1 rfl ?_
  refine mv_getR (pc := 3) (f := 5) (kc_2 l D E B sa) (Nat.le_of_ble_eq_true rfl) wt_1_227 de_No_sumOfProducts_3 hJ (fun x3 e3 h3 => ?_)
  refine mv_ifnull (pc := 6) (tgt := 16) de_No_sumOfProducts_6 (by decide) h3 (fun ha h6 => ?_) (fun a6 ha h6 => ?_)
  · subst ha
    exact mv_sub [0] rfl (tb_No_sumOfProducts_16 l D E B sa M0 M1 r N M 1 h6)
  · subst ha
    refine mv_aload_n (pc := 9) (i := 0) de_No_sumOfProducts_9 rfl 1 rfl ?_
    refine mv_getR (pc := 10) (f := 7) (kc_2 l D E B sa) (Nat.le_of_ble_eq_true rfl) wt_1_230 de_No_sumOfProducts_10 h6 (fun x10 e10 h10 => ?_)
    refine mv_ifnonnull (pc := 13) (tgt := 18) de_No_sumOfProducts_13 (by decide) h10 (fun ha h13 => ?_) (fun a13 ha h13 => ?_)
    · subst ha
      exact mv_sub [0] rfl (tb_No_sumOfProducts_16 l D E B sa M0 M1 r N M 1 h13)
    · subst ha
      refine mv_iconst (pc := 18) (v := 0) de_No_sumOfProducts_18 (by decide) ?_
      refine mv_istore (pc := 19) (lv' := [(5, .int 0), (3, .long 1), (0, va_rf (some v0)), (1, .int v1), (2, .int v2)]) de_No_sumOfProducts_19 (Nat.le_of_ble_eq_true rfl) rfl ?_
      exact mv_sub [2, 3, 4, 1, 0] rfl (tb_No_sumOfProducts_21 l D E B sa M0 M1 r N N M v0 v1 v2 1 0 h13)
theorem cm_No_sumOfProducts (l : Launch) (D : va_G) (E : Nat → ClassId) (B : Nat) (sa : (Nat → Nat) × Nat × (Nat → Int32)) (N : Nat) (M : mv_M) (v0 : Nat) (v1 : Int32) (v2 : Int32) (r : Int64) (M1 : mv_M) (hJ : jf_No_sumOfProducts N M v0 v1 v2 = some (r, M1)) : mv_Met (xg l D E B sa) yn_No_sumOfProducts cd_No_sumOfProducts 10 (some .long) 2 61 [va_rf (some v0), .int v1, .int v2] M (some (.long r)) M1 :=
  mv_enter (by decide) (Nat.le_of_ble_eq_true rfl) (mv_sub (lv := [(0, va_rf (some v0)), (1, .int v1), (2, .int v2)]) [0, 1, 2] rfl (tb_No_sumOfProducts_0 l D E B sa M M1 r N M v0 v1 v2 hJ))
/-! ===== PlainLearner$Node.sumOfRow(I)J ===== -/
abbrev kd_No_sumOfRow : mv_Kd := (cd_No_sumOfRow, 5, "PlainLearner$Node", "sumOfRow", (some .long), 2, 61)
theorem de_No_sumOfRow_0 : decode cd_No_sumOfRow 0 = .ok (.lconst 1, 1) := by decide +kernel
theorem de_No_sumOfRow_1 : decode cd_No_sumOfRow 1 = .ok (.lstore_n 2, 1) := by decide +kernel
theorem de_No_sumOfRow_2 : decode cd_No_sumOfRow 2 = .ok (.iconst 0, 1) := by decide +kernel
theorem de_No_sumOfRow_3 : decode cd_No_sumOfRow 3 = .ok (.istore 4, 2) := by decide +kernel
theorem de_No_sumOfRow_5 : decode cd_No_sumOfRow 5 = .ok (.iload 4, 2) := by decide +kernel
theorem de_No_sumOfRow_7 : decode cd_No_sumOfRow 7 = .ok (.aload_n 0, 1) := by decide +kernel
theorem de_No_sumOfRow_8 : decode cd_No_sumOfRow 8 = .ok (.getfield 39, 3) := by decide +kernel
theorem de_No_sumOfRow_11 : decode cd_No_sumOfRow 11 = .ok (.if_icmp .ge 34, 3) := by decide +kernel
theorem de_No_sumOfRow_14 : decode cd_No_sumOfRow 14 = .ok (.lload_n 2, 1) := by decide +kernel
theorem de_No_sumOfRow_15 : decode cd_No_sumOfRow 15 = .ok (.aload_n 0, 1) := by decide +kernel
theorem de_No_sumOfRow_16 : decode cd_No_sumOfRow 16 = .ok (.getfield 25, 3) := by decide +kernel
theorem de_No_sumOfRow_19 : decode cd_No_sumOfRow 19 = .ok (.getfield 47, 3) := by decide +kernel
theorem de_No_sumOfRow_22 : decode cd_No_sumOfRow 22 = .ok (.iload_n 1, 1) := by decide +kernel
theorem de_No_sumOfRow_23 : decode cd_No_sumOfRow 23 = .ok (.iload 4, 2) := by decide +kernel
theorem de_No_sumOfRow_25 : decode cd_No_sumOfRow 25 = .ok (.aload_n 0, 1) := by decide +kernel
theorem de_No_sumOfRow_26 : decode cd_No_sumOfRow 26 = .ok (.getfield 32, 3) := by decide +kernel
theorem de_No_sumOfRow_29 : decode cd_No_sumOfRow 29 = .ok (.getfield 138, 3) := by decide +kernel
theorem de_No_sumOfRow_32 : decode cd_No_sumOfRow 32 = .ok (.imul, 1) := by decide +kernel
theorem de_No_sumOfRow_33 : decode cd_No_sumOfRow 33 = .ok (.iadd, 1) := by decide +kernel
theorem de_No_sumOfRow_34 : decode cd_No_sumOfRow 34 = .ok (.laload, 1) := by decide +kernel
theorem de_No_sumOfRow_35 : decode cd_No_sumOfRow 35 = .ok (.invokestatic 107, 3) := by decide +kernel
theorem de_No_sumOfRow_38 : decode cd_No_sumOfRow 38 = .ok (.lstore_n 2, 1) := by decide +kernel
theorem de_No_sumOfRow_39 : decode cd_No_sumOfRow 39 = .ok (.iinc 4 1, 3) := by decide +kernel
theorem de_No_sumOfRow_42 : decode cd_No_sumOfRow 42 = .ok (.goto (-37), 3) := by decide +kernel
theorem de_No_sumOfRow_45 : decode cd_No_sumOfRow 45 = .ok (.lload_n 2, 1) := by decide +kernel
theorem de_No_sumOfRow_46 : decode cd_No_sumOfRow 46 = .ok (.lreturn, 1) := by decide +kernel
def jb_No_sumOfRow_5 (N : Nat) : Nat → mv_M → Nat → Int32 → Int64 → Int32 → Option (Int64 × mv_M)
  | 0, _, _, _, _, _ => none
  | n + 1, M, v0, v1, v2, v4 =>
    Option.bind (mj_getI M v0 2 8) fun x8 =>
    if x8 ≤ v4 then (some (v2, M)) else
    Option.bind (mj_getR M v0 2 4) fun x16 =>
    Option.bind x16 fun a19 =>
    Option.bind (mj_getR M a19 2 9) fun x19 =>
    Option.bind (mj_getR M v0 2 6) fun x26 =>
    Option.bind x26 fun a29 =>
    Option.bind (mj_getI M a29 9 4) fun x29 =>
    Option.bind x19 fun a34 =>
    Option.bind (mj_lld M a34 1 (v1 + (v4 * x29))) fun x34 =>
    mj_call (jf_Fr_add N M v2 x34) fun r35 Mm35 =>
    jb_No_sumOfRow_5 N n Mm35 v0 v1 r35 (v4 + 1)
def jb_No_sumOfRow_0 (N : Nat) (M : mv_M) (v0 : Nat) (v1 : Int32) : Option (Int64 × mv_M) :=
  jb_No_sumOfRow_5 N N M v0 v1 1 0
def jf_No_sumOfRow (N : Nat) (M : mv_M) (v0 : Nat) (v1 : Int32) : Option (Int64 × mv_M) := jb_No_sumOfRow_0 N M v0 v1
set_option maxHeartbeats 4000000 in
set_option maxRecDepth 100000 in
theorem tb_No_sumOfRow_5 (l : Launch) (D : va_G) (E : Nat → ClassId) (B : Nat) (sa : (Nat → Nat) × Nat × (Nat → Int32)) (M0 M1 : mv_M) (r : Int64) (N : Nat) : ∀ (n : Nat) (M : mv_M) (v0 : Nat) (v1 : Int32) (v2 : Int64) (v4 : Int32) (hJ : jb_No_sumOfRow_5 N n M v0 v1 v2 v4 = some (r, M1)), mv_G (xg l D E B sa) kd_No_sumOfRow M0 M1 (some (.long r)) M 5 [(0, va_rf (some v0)), (1, .int v1), (2, .long v2), (4, .int v4)] [] := by
  intro n
  induction n with
  | zero => intro M v0 v1 v2 v4 hJ; cases hJ
  | succ n ih =>
    intro M v0 v1 v2 v4 hJ
    rw [jb_No_sumOfRow_5] at hJ
    refine mv_iload (pc := 5) de_No_sumOfRow_5 3 rfl ?_
    refine mv_aload_n (pc := 7) (i := 0) de_No_sumOfRow_7 rfl 0 rfl ?_
    refine mv_getI (pc := 8) (f := 8) (kc_2 l D E B sa) (Nat.le_of_ble_eq_true rfl) wt_1_231 de_No_sumOfRow_8 hJ (fun x8 e8 h8 => ?_)
    refine mv_icmp_ge (pc := 11) (tgt := 45) de_No_sumOfRow_11 (by decide) h8 (fun hc11 h11 => ?_) (fun hc11 h11 => ?_)
    · refine mv_lload_n (pc := 45) (i := 2) de_No_sumOfRow_45 rfl 2 rfl ?_
      exact mv_lret (pc := 46) rfl de_No_sumOfRow_46 h11
    · refine mv_lload_n (pc := 14) (i := 2) de_No_sumOfRow_14 rfl 2 rfl ?_
      refine mv_aload_n (pc := 15) (i := 0) de_No_sumOfRow_15 rfl 0 rfl ?_
      refine mv_getR (pc := 16) (f := 4) (kc_2 l D E B sa) (Nat.le_of_ble_eq_true rfl) wt_1_225 de_No_sumOfRow_16 h11 (fun x16 e16 h16 => ?_)
      obtain ⟨a19, ha, h19a⟩ := mj_bindE h16
      subst ha
      refine mv_getR (pc := 19) (f := 9) (kc_2 l D E B sa) (Nat.le_of_ble_eq_true rfl) wt_1_232 de_No_sumOfRow_19 h19a (fun x19 e19 h19 => ?_)
      refine mv_iload_n (pc := 22) (i := 1) de_No_sumOfRow_22 rfl 1 rfl ?_
      refine mv_iload (pc := 23) de_No_sumOfRow_23 3 rfl ?_
      refine mv_aload_n (pc := 25) (i := 0) de_No_sumOfRow_25 rfl 0 rfl ?_
      refine mv_getR (pc := 26) (f := 6) (kc_2 l D E B sa) (Nat.le_of_ble_eq_true rfl) wt_1_229 de_No_sumOfRow_26 h19 (fun x26 e26 h26 => ?_)
      obtain ⟨a29, ha, h29a⟩ := mj_bindE h26
      subst ha
      refine mv_getI (pc := 29) (f := 4) (kc_9 l D E B sa) (Nat.le_of_ble_eq_true rfl) wt_2_120 de_No_sumOfRow_29 h29a (fun x29 e29 h29 => ?_)
      refine mv_imul (pc := 32) de_No_sumOfRow_32 ?_
      refine mv_iadd (pc := 33) de_No_sumOfRow_33 ?_
      obtain ⟨a34, ha, h34a⟩ := mj_bindE h29
      subst ha
      refine mv_lald (pc := 34) (t := 1) rfl de_No_sumOfRow_34 h34a (fun x34 e34 h34 => ?_)
      obtain ⟨r35, Mm35, hz35, h35⟩ := mj_callE h34
      refine mv_callS (pc := 35) (n := 2) (av := [.long v2, .long x34]) (rest := []) de_No_sumOfRow_35 (cm_Fr_add l D E B sa N M v2 x34 _ _ hz35) wt_2_217 wt_2_218 wt_1_3 wt_2_219 ⟨by decide, by decide, by decide +kernel⟩ rfl ⟨Nat.le_of_ble_eq_true rfl, Nat.le_of_ble_eq_true rfl⟩ (Nat.le_of_ble_eq_true rfl) rfl ?_
      refine mv_lstore_n (pc := 38) (i := 2) (lv' := [(2, .long r35), (0, va_rf (some v0)), (1, .int v1), (4, .int v4)]) de_No_sumOfRow_38 rfl (Nat.le_of_ble_eq_true rfl) rfl ?_
      refine mv_iinc (pc := 39) (v := (v4 + 1)) (lv' := [(4, .int (v4 + 1)), (2, .long r35), (0, va_rf (some v0)), (1, .int v1)]) de_No_sumOfRow_39 3 rfl rfl (Nat.le_of_ble_eq_true rfl) rfl ?_
      refine mv_goto (pc := 42) (tgt := 5) de_No_sumOfRow_42 (by decide) ?_
      exact mv_sub [2, 3, 1, 0] rfl (ih Mm35 v0 v1 r35 (v4 + 1) h35)
set_option maxHeartbeats 4000000 in
set_option maxRecDepth 100000 in
theorem tb_No_sumOfRow_0 (l : Launch) (D : va_G) (E : Nat → ClassId) (B : Nat) (sa : (Nat → Nat) × Nat × (Nat → Int32)) (M0 M1 : mv_M) (r : Int64) (N : Nat) (M : mv_M) (v0 : Nat) (v1 : Int32) (hJ : jb_No_sumOfRow_0 N M v0 v1 = some (r, M1)) : mv_G (xg l D E B sa) kd_No_sumOfRow M0 M1 (some (.long r)) M 0 [(0, va_rf (some v0)), (1, .int v1)] [] := by
  unfold jb_No_sumOfRow_0 at hJ
  refine mv_lconst (pc := 0) (v := 1) de_No_sumOfRow_0 (by decide) ?_
  refine mv_lstore_n (pc := 1) (i := 2) (lv' := [(2, .long 1), (0, va_rf (some v0)), (1, .int v1)]) de_No_sumOfRow_1 rfl (Nat.le_of_ble_eq_true rfl) rfl ?_
  refine mv_iconst (pc := 2) (v := 0) de_No_sumOfRow_2 (by decide) ?_
  refine mv_istore (pc := 3) (lv' := [(4, .int 0), (2, .long 1), (0, va_rf (some v0)), (1, .int v1)]) de_No_sumOfRow_3 (Nat.le_of_ble_eq_true rfl) rfl ?_
  exact mv_sub [2, 3, 1, 0] rfl (tb_No_sumOfRow_5 l D E B sa M0 M1 r N N M v0 v1 1 0 hJ)
theorem cm_No_sumOfRow (l : Launch) (D : va_G) (E : Nat → ClassId) (B : Nat) (sa : (Nat → Nat) × Nat × (Nat → Int32)) (N : Nat) (M : mv_M) (v0 : Nat) (v1 : Int32) (r : Int64) (M1 : mv_M) (hJ : jf_No_sumOfRow N M v0 v1 = some (r, M1)) : mv_Met (xg l D E B sa) yn_No_sumOfRow cd_No_sumOfRow 5 (some .long) 2 61 [va_rf (some v0), .int v1] M (some (.long r)) M1 :=
  mv_enter (by decide) (Nat.le_of_ble_eq_true rfl) (mv_sub (lv := [(0, va_rf (some v0)), (1, .int v1)]) [0, 1] rfl (tb_No_sumOfRow_0 l D E B sa M M1 r N M v0 v1 hJ))
